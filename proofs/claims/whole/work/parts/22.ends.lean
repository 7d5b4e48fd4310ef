/-! the class's ends, felt, threes -/
theorem r_keepSigns {E : am_E} (zi : am_inj E) {k : Nat} (hk : 1 ≤ k) {σ : St} (zw : wf σ) {I : am_I} (zC : CS I σ) (w : Int64) :
    am_Ret E k Y_Feelings_keepSigns [.ref 7] I w (am_eq none (am_cpI I 10 14 0 0 (sM σ)) w) := by
  refine am_intro (pv_Feelings_keepSigns E k) (by decide) zi ?_ rfl rfl ?_
  · rintro _ _ _ ⟨rfl, -⟩; trivial
  intro S hS
  have h36 := sM_le zw
  have c1 := zC.2.1
  refine am_at hS (fun _ => false) 60 0 ?_
  refine ⟨by omega, by decide, by decide, by rw [c1]; exact nI_pos (by omega), by rw [c1, nI_clamp (by omega)]; show 0 + sM σ ≤ 36; omega, by rw [c1, nI_clamp (by omega)]; show 0 + sM σ ≤ 36; omega, ?_⟩
  rw [c1, nI_clamp (by omega)]
  exact ⟨rfl, rfl, rfl⟩
theorem r_restoreSigns {E : am_E} (zi : am_inj E) {k : Nat} (hk : 1 ≤ k) {σ : St} (zw : wf σ) {I : am_I} (zC : CS I σ) (w : Int64) :
    am_Ret E k Y_Feelings_restoreSigns [.ref 7] I w (am_eq none (am_cpI I 14 10 0 0 (sM σ)) w) := by
  refine am_intro (pv_Feelings_restoreSigns E k) (by decide) zi ?_ rfl rfl ?_
  · rintro _ _ _ ⟨rfl, -⟩; trivial
  intro S hS
  have h36 := sM_le zw
  have c1 := zC.2.1
  refine am_at hS (fun _ => false) 60 0 ?_
  refine ⟨by omega, by decide, by decide, by rw [c1]; exact nI_pos (by omega), by rw [c1, nI_clamp (by omega)]; show 0 + sM σ ≤ 36; omega, by rw [c1, nI_clamp (by omega)]; show 0 + sM σ ≤ 36; omega, ?_⟩
  rw [c1, nI_clamp (by omega)]
  exact ⟨rfl, rfl, rfl⟩
def eR (V : Tx) (r : Nat) (σ : St) : Nat → Option Nat × (Nat → Int32)
  | 0 => (none, sS σ)
  | i + 1 => match (eR V r σ i).1 with
    | some x => (some x, (eR V r σ i).2)
    | none => (cond (tA V r (sSg σ (eR V r σ i).2) (sN σ)).1 none (some i), (tA V r (sSg σ (eR V r σ i).2) (sN σ)).2)
theorem eR_sg {V : Tx} {r : Nat} {σ : St} (zw : wf σ) : ∀ i, wf (sSg σ (eR V r σ i).2)
  | 0 => zw
  | i + 1 => by
    rw [eR]
    split
    · exact eR_sg zw i
    · exact tA_sg (eR_sg zw i) (sN σ)
theorem eR_stay {V : Tx} {r : Nat} {σ : St} {x i : Nat} (h : (eR V r σ i).1 = some x) : ∀ j, i ≤ j → (eR V r σ j).1 = some x
  | 0, hj => by have e : i = 0 := by omega
                subst e; exact h
  | j + 1, hj => by
    by_cases e : i = j + 1
    · subst e; exact h
    · rw [eR, eR_stay h j (by omega)]
theorem eR_lt {V : Tx} {r : Nat} {σ : St} {x : Nat} : ∀ {i : Nat}, (eR V r σ i).1 = some x → x < i
  | 0, h => by cases h
  | i + 1, h => by
    rw [eR] at h
    cases hq : (eR V r σ i).1 with
    | some y =>
      rw [hq] at h
      cases h
      have := eR_lt hq
      omega
    | none =>
      rw [hq] at h
      cases hb : (tA V r (sSg σ (eR V r σ i).2) (sN σ)).1 with
      | true => rw [hb] at h; cases h
      | false => rw [hb] at h; cases h; omega
def aEnds (V : Tx) (r : Nat) (σ : St) (n : Int32) : Int32 := cond (inb n 21) (enc (eR V r σ (n.toNatClampNeg + 1)).1) (-2)
theorem inb_21 {x : Int32} : (x < 0 → inb x 21 = false) ∧ (20 < x → inb x 21 = false) ∧ (¬ x < 0 → ¬ 20 < x → inb x 21 = true) := by
  have q1 : (20 : Int32).toInt = 20 := rfl
  have q2 : (nI 21).toInt = 21 := rfl
  refine ⟨fun h => inb_ff1 h, fun h => inb_ff2 ?_ (by decide), fun h1 h => inb_tt h1 ?_ (by decide)⟩
  · rw [i_lt] at h ⊢; omega
  · rw [i_lt] at h ⊢; omega
theorem c_ends {E : am_E} (zi : am_inj E) {k : Nat} (hk : 6 ≤ k) {σ : St} (zw : wf σ) {I : am_I} (zC : CS I σ) (w : Int64) {T r : Nat} {V : Tx} (zL : LC I T r V) (n : Int32) :
    am_Ret E k Y_TC_ends [.ref 0, .int n] I w (fun q I' w' => q = some (.int (aEnds V r σ n)) ∧ w' = w ∧ CS I' σ ∧ am_fs 25 [7] [10, 14, 29] I I') := by
  refine am_intro (pv_TC_ends E k) (by decide) zi ?_ rfl rfl ?_
  · rintro _ _ _ ⟨rfl, -⟩; rfl
  intro S hS
  have h9 := zw.1
  have h36 := sM_le zw
  unfold aEnds at hS
  have l3 : ∀ q, 30 ≤ q → q < 42 → q ∉ [10, 14, 29] := fun q h1 h2 hz => by simp only [List.mem_cons, List.not_mem_nil, or_false] at hz; omega
  refine am_at hS (fun t => Nat.beq t 24) 80 0 ?_
  refine ⟨fun h1 => ?_, fun h1 => ?_⟩
  · rw [inb_21.1 h1]
    exact ⟨rfl, rfl, zC, am_fs.refl⟩
  · refine ⟨fun h7 => ?_, fun h7 => ?_⟩
    · rw [inb_21.2.1 h7]
      exact ⟨rfl, rfl, zC, am_fs.refl⟩
    · have hin := inb_21.2.2 h1 h7
      obtain ⟨m, hm, rfl⟩ := inb_of hin (by decide)
      rw [hin, nI_clamp (by omega)] at hS
      have out : ∀ J (s : Nat → Int32), wf (sSg σ s) → am_fs 25 [7] [10, 14, 29] I J → CS J (sSg σ s) → (∀ g, g < sM σ → J 14 g = sS σ g) → CS (am_cpI J 14 10 0 0 (sM σ)) σ ∧ am_fs 25 [7] [10, 14, 29] I (am_cpI J 14 10 0 0 (sM σ)) := fun J s _ hJ zJ h14 => by
        refine ⟨CS_sg (σ := sSg σ s) (s := sS σ) (fun q hq => am_cpI_ne (by rintro rfl; exact absurd hq (by decide))) (fun f hf => ?_) zJ, ?_⟩
        · rw [am_cpI_self, pk_cpy_in (Nat.zero_le _) (by have : f < sM σ := hf; omega), show 0 + (f - 0) = f by omega]
          exact h14 f hf
        · refine ⟨fun q h1 h2 => ?_, fun j hj => ?_⟩
          · rw [am_cpI_ne (fun e => h1 (by rw [e]; decide))]; exact hJ.1 q h1 h2
          · rw [am_cpI_ne (by decide)]; exact hJ.2 j hj
      have loop := down (P := fun i => ∀ J, am_fs 25 [7] [10, 14, 29] I J → CS J (sSg σ (eR V r σ i).2) → (∀ g, g < sM σ → J 14 g = sS σ g) → S 24 [some (.ref 0), some (.int (nI m)), some (.int (enc (eR V r σ i).1)), some (.int (nI i))] [] J w) (m + 1) ?z ?s
      case z =>
        intro J hJ zJ h14
        refine am_at hS (fun t => Nat.beq t 24) 80 24 ?_
        refine ⟨fun _ => ?_, fun q => absurd (nI_lt (Nat.lt_succ_self m) (by omega)) q⟩
        refine ⟨_, _, (by omega : k - 1 < k), r_restoreSigns zi (by omega) (eR_sg zw _) zJ w, am_elim ?_⟩
        obtain ⟨q1, q2⟩ := out J _ (eR_sg zw _) hJ zJ h14
        exact ⟨rfl, rfl, q1, q2⟩
      case s =>
        intro i hi hn J hJ zJ h14
        refine am_at hS (fun t => Nat.beq t 24) 80 24 ?_
        refine ⟨fun q => absurd q (nI_nlt (by omega) (by omega)), fun _ => ?_⟩
        refine ⟨fun h31 => ?_, fun h31 => ?_⟩
        · have e := enc_none h31 (fun f hf => by have := eR_lt hf; omega)
          refine ⟨_, _, (by omega : k - 1 < k), r_turnAll zi (by omega) (eR_sg zw i) zJ w (LC_fs l3 hJ zL), ?_⟩
          rintro _ I1 w1 ⟨rfl, rfl, z1, f1⟩
          have eS : eR V r σ (i + 1) = (cond (tA V r (sSg σ (eR V r σ i).2) (sN σ)).1 none (some i), (tA V r (sSg σ (eR V r σ i).2) (sN σ)).2) := by rw [eR, e]
          have hgo := hn I1 (hJ.trans (f1.mono (fun _ h => h) (by decide))) (by rw [eS]; exact z1) (fun g hg => by rw [f1.1 14 (by decide) (by decide)]; exact h14 g hg)
          rw [eS, ← nI_1] at hgo
          refine ⟨fun h38 => ?_, fun h38 => ?_⟩
          · rw [bi_eq0] at h38
            have h38' : (tA V r (sSg σ (eR V r σ i).2) (sN σ)).1 = false := h38
            rw [h38'] at hgo
            exact hgo
          · rw [bi_eq0, Bool.not_eq_false] at h38
            have h38' : (tA V r (sSg σ (eR V r σ i).2) (sN σ)).1 = true := h38
            rw [h38'] at hgo
            rw [e]
            exact hgo
        · obtain ⟨x, e⟩ := enc_some (M := 0) h31
          refine ⟨_, _, (by omega : k - 1 < k), r_restoreSigns zi (by omega) (eR_sg zw _) zJ w, am_elim ?_⟩
          obtain ⟨q1, q2⟩ := out J _ (eR_sg zw _) hJ zJ h14
          refine ⟨?_, rfl, q1, q2⟩
          rw [e]
          show _ = some (Value.int (enc (eR V r σ (m + 1)).1))
          rw [eR_stay e (m + 1) (by omega)]
      refine ⟨_, _, (by omega : k - 1 < k), r_keepSigns zi (by omega) zw zC w, am_elim ?_⟩
      refine loop 0 (Nat.zero_le _) _ ⟨fun q h1 h2 => am_cpI_ne (fun e => h1 (by rw [e]; decide)), fun j _ => by rw [am_cpI_ne (by decide)]⟩ ?_ (fun g hg => ?_)
      · exact CS_of (fun q hq => am_cpI_ne (by rintro rfl; exact absurd hq (by decide))) zC
      · rw [am_cpI_self, pk_cpy_in (Nat.zero_le _) (by omega), show 0 + (g - 0) = g by omega]
        exact (zC.2.2.1 g hg).2.2.1
def aFelt (V : Tx) (r : Nat) (σ : St) (x u : Int32) : Int32 := cond (inb x (sM σ)) (
  if u = 0 then nI (sL σ x.toNatClampNeg) else if u = 1 then nI (sG σ x.toNatClampNeg) else if u = 2 then sS σ x.toNatClampNeg else if u = 3 then sT σ x.toNatClampNeg
  else if u = 4 then nI (sK σ x.toNatClampNeg / 2) else if u = 5 then nI (sK σ x.toNatClampNeg % 2) else if u = 6 then nI (co V r σ x.toNatClampNeg) else if u = 7 then bi (mw V r σ x.toNatClampNeg)
  else if u = 8 then nI (bth σ x.toNatClampNeg) else -5) (-5)
theorem c_felt {E : am_E} (zi : am_inj E) {k : Nat} (hk : 4 ≤ k) {σ : St} (zw : wf σ) {I : am_I} (zC : CS I σ) (w : Int64) {T r : Nat} {V : Tx} (zL : LC I T r V) (x u : Int32) :
    am_Ret E k Y_TC_felt [.ref 0, .int x, .int u] I w (fun q I' w' => q = some (.int (aFelt V r σ x u)) ∧ w' = w ∧ am_fs 25 [7] [29] I I') := by
  refine am_intro (pv_TC_felt E k) (by decide) zi ?_ rfl rfl ?_
  · rintro _ _ _ ⟨rfl, -⟩; rfl
  intro S hS
  have h9 := zw.1
  have h36 := sM_le zw
  unfold aFelt at hS
  refine am_at hS (fun _ => false) 120 0 ?_
  refine ⟨_, _, (by omega : k - 1 < k), r_hasF zi (by omega) x I w zC.2.1, am_elim ?_⟩
  refine ⟨fun h9 => ?_, fun h9 => ?_⟩
  · rw [bi_eq0] at h9
    rw [h9]
    exact ⟨rfl, rfl, am_fs.refl⟩
  · rw [bi_eq0, Bool.not_eq_false] at h9
    rw [h9]
    obtain ⟨f, hf, rfl⟩ := inb_of h9 (by omega)
    obtain ⟨e1, e2, e3, e4, e5⟩ := zC.2.2.1 f hf
    have hK := (zw.2.1.2.2.1 f hf).2.2
    have ef : (nI f).toNatClampNeg = f := nI_clamp (by omega)
    have bd : vp_in (nI f) 36 := vp_in_nI (by omega) (by omega)
    rw [ef]
    refine ⟨fun e => ?_, fun e => ?_⟩
    · refine ⟨bd, ?_⟩
      rw [ef, e1]
      exact ⟨by rw [e]; rfl, rfl, am_fs.refl⟩
    refine ⟨fun q => ?_, fun q => ?_⟩
    · refine ⟨bd, ?_⟩
      rw [ef, e2]
      exact ⟨by rw [q]; rfl, rfl, am_fs.refl⟩
    refine ⟨fun q2 => ?_, fun q2 => ?_⟩
    · refine ⟨bd, ?_⟩
      rw [ef, e3]
      exact ⟨by rw [q2]; rfl, rfl, am_fs.refl⟩
    refine ⟨fun q3 => ?_, fun q3 => ?_⟩
    · refine ⟨bd, ?_⟩
      rw [ef, e4]
      exact ⟨by rw [q3]; rfl, rfl, am_fs.refl⟩
    refine ⟨fun q4 => ?_, fun q4 => ?_⟩
    · refine ⟨bd, ?_⟩
      rw [ef, e5]
      exact ⟨by rw [q4, show (1 : Int32) = nI 1 from rfl, nI_shr (by omega) (by decide)]; rfl, rfl, am_fs.refl⟩
    refine ⟨fun q5 => ?_, fun q5 => ?_⟩
    · refine ⟨bd, ?_⟩
      rw [ef, e5]
      exact ⟨by rw [q5, nI_and1 _ (by omega)]; rfl, rfl, am_fs.refl⟩
    refine ⟨fun q6 => ?_, fun q6 => ?_⟩
    · refine ⟨_, _, (by omega : k - 1 < k), r_costOf zi (by omega) zw zC w zL hf, ?_⟩
      rintro _ I1 w1 ⟨rfl, rfl, f1⟩
      exact ⟨by rw [q6]; rfl, rfl, f1⟩
    refine ⟨fun q7 => ?_, fun q7 => ?_⟩
    · refine ⟨_, _, (by omega : k - 1 < k), r_canBeWrong zi (by omega) zw zC w zL hf, ?_⟩
      rintro _ I1 w1 ⟨rfl, rfl, f1⟩
      refine ⟨fun h => ?_, fun h => ?_⟩
      · rw [bi_eq0] at h
        exact ⟨by rw [q7, h]; rfl, rfl, f1⟩
      · rw [bi_eq0, Bool.not_eq_false] at h
        exact ⟨by rw [q7, h]; rfl, rfl, f1⟩
    refine ⟨fun q8 => ?_, fun q8 => ?_⟩
    · refine ⟨_, _, (by omega : k - 1 < k), r_badThreesWith zi zw zC w (by omega) hf, am_elim ?_⟩
      exact ⟨by rw [q8]; rfl, rfl, am_fs.refl⟩
    exact ⟨by rw [if_neg e, if_neg q, if_neg q2, if_neg q3, if_neg q4, if_neg q5, if_neg q6, if_neg q7, if_neg q8]; rfl, rfl, am_fs.refl⟩
def sumB (σ : St) : Nat → Nat
  | 0 => 0
  | f + 1 => sumB σ f + bth σ f
theorem sumB_le (σ : St) : ∀ n, sumB σ n ≤ 9 * n
  | 0 => Nat.le_refl _
  | n + 1 => by
    have := sumB_le σ n
    have := bth_le (σ := σ) (f := n)
    rw [sumB]
    omega
theorem c_threes {E : am_E} (zi : am_inj E) {k : Nat} (hk : 2 ≤ k) {σ : St} (zw : wf σ) {I : am_I} (zC : CS I σ) (w : Int64) :
    am_Ret E k Y_TC_threes [.ref 0] I w (am_eq (some (.int (nI (sumB σ (sM σ) / 3)))) I w) := by
  refine am_intro (pv_TC_threes E k) (by decide) zi ?_ rfl rfl ?_
  · rintro _ _ _ ⟨rfl, -⟩; rfl
  intro S hS
  have h36 := sM_le zw
  have loop := down (P := fun f => S 4 [some (.ref 0), some (.int (nI (sumB σ f))), some (.int (nI f))] [] I w) (sM σ) ?z ?s
  case z =>
    have hb := sumB_le σ (sM σ)
    refine am_at hS (fun t => Nat.beq t 4) 80 4 ?_
    refine ⟨fun q => absurd q (by show ¬ nI (sM σ) < I 7 0; rw [zC.2.1]; exact nI_nlt (Nat.le_refl _) (by omega)), fun _ => ?_⟩
    refine ⟨by decide, ?_⟩
    exact ⟨by rw [show (3 : Int32) = nI 3 from rfl, pk_div (by omega) (by decide) (by decide)], rfl, rfl⟩
  case s =>
    intro f hf hn
    refine am_at hS (fun t => Nat.beq t 4) 80 4 ?_
    refine ⟨fun _ => ?_, fun q => absurd (show nI f < I 7 0 by rw [zC.2.1]; exact nI_lt hf (by omega)) q⟩
    refine ⟨_, _, (by omega : k - 1 < k), r_badThreesWith zi zw zC w (by omega) hf, am_elim ?_⟩
    rw [sumB, ← nI_add, ← nI_1] at hn
    exact hn
  exact am_at hS (fun t => Nat.beq t 4) 80 0 (loop 0 (by omega))

