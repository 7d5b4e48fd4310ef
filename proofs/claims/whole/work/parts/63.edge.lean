/-! edge of both -/
def vQ (V : Tx) (r : Nat) (σ : St) (f : Nat) (q : Bool) (t : Nat) : Option Nat := cond (wrm σ f (2 * t) == q) (vv V r σ t) none
def lQ (V : Tx) (r : Nat) (σ : St) (f : Nat) (q : Bool) : Option Nat := lsN (vQ V r σ f q) (hN (sN σ))
theorem ls_min {v : Nat → Option Nat} {x : Nat} : ∀ {t : Nat}, lsN v t = some x → ∀ u, u < t → ∀ y, v u = some y → x ≤ y := fun {t} h => (bsN_spec (v := v) t).2.2.2 x h
theorem ls_none {v : Nat → Option Nat} : ∀ {t : Nat}, lsN v t = none → ∀ u, u < t → v u = none := fun {t} h => ((bsN_spec (v := v) t).2.2.1 h).2
theorem vQ_some {V : Tx} {r : Nat} {σ : St} {f t y : Nat} {q : Bool} (h : vQ V r σ f q t = some y) : vv V r σ t = some y ∧ wrm σ f (2 * t) = q := by
  unfold vQ at h
  cases hc : (wrm σ f (2 * t) == q) with
  | false => rw [hc] at h; cases h
  | true => rw [hc] at h; exact ⟨h, beq_iff_eq.mp hc⟩
theorem lQ_eq {V : Tx} {r : Nat} {σ : St} {x : Nat} (hm : mA V r σ = some x) {f : Nat} {q : Bool} : lQ V r σ f q = some x ↔ ∃ u, u < hN (sN σ) ∧ vv V r σ u = some x ∧ wrm σ f (2 * u) = q := by
  constructor
  · intro h
    obtain ⟨u, h1, h2⟩ := ls_mem h
    obtain ⟨h3, h4⟩ := vQ_some h2
    exact ⟨u, h1, h3, h4⟩
  · rintro ⟨u, h1, h2, h3⟩
    have hu : vQ V r σ f q u = some x := by unfold vQ; rw [h3, show (q == q) = true from beq_self_eq_true q]; exact h2
    cases hl : lQ V r σ f q with
    | none => rw [ls_none hl u h1] at hu; cases hu
    | some y =>
      have a1 := ls_min hl u h1 x hu
      obtain ⟨u', b1, b2⟩ := ls_mem hl
      have a2 := ls_min hm u' b1 y (vQ_some b2).1
      rw [show y = x by omega]
theorem lQ_ge {V : Tx} {r : Nat} {σ : St} {x y : Nat} (hm : mA V r σ = some x) {f : Nat} {q : Bool} (h : lQ V r σ f q = some y) : x ≤ y := by
  obtain ⟨u', b1, b2⟩ := ls_mem h
  exact ls_min hm u' b1 y (vQ_some b2).1
theorem lQ_le {V : Tx} {r : Nat} {σ : St} (zw : wf σ) {y : Nat} {f : Nat} {q : Bool} {t : Nat} (h : lsN (vQ V r σ f q) t = some y) : y ≤ 359964 := by
  obtain ⟨u', b1, b2⟩ := ls_mem h
  exact vv_le zw (vQ_some b2).1
def wrN (V : Tx) (r : Nat) (σ : St) (f : Nat) : Nat := cnt (fun i => wrm σ f ((lA V r σ).getD i 0)) (lA V r σ).length
theorem cnt_pos {Q : Nat → Bool} : ∀ {n : Nat}, 0 < cnt Q n ↔ ∃ u, u < n ∧ Q u = true
  | 0 => ⟨fun h => absurd h (by show ¬ 0 < 0; omega), fun ⟨u, h, _⟩ => absurd h (by omega)⟩
  | n + 1 => by
    rw [cnt]
    constructor
    · intro h
      cases hq : Q n with
      | true => exact ⟨n, by omega, hq⟩
      | false =>
        rw [hq] at h
        obtain ⟨u, h1, h2⟩ := cnt_pos.mp (show 0 < cnt Q n from h)
        exact ⟨u, by omega, h2⟩
    · rintro ⟨u, h1, h2⟩
      by_cases e : u = n
      · rw [← e, h2]
        show 0 < _ + 1
        omega
      · have := cnt_pos.mpr ⟨u, (show u < n by omega), h2⟩
        omega
theorem cnt_sub {Q R : Nat → Bool} : ∀ (n : Nat), cnt Q n = cnt (fun u => Q u && R u) n + cnt (fun u => Q u && !R u) n
  | 0 => rfl
  | n + 1 => by
    rw [cnt, cnt, cnt, cnt_sub (R := R) n]
    cases Q n <;> cases R n <;> simp <;> omega
theorem wr_some {V : Tx} {r : Nat} {σ : St} {x : Nat} (hm : mA V r σ = some x) (f : Nat) : (0 < wrN V r σ f ↔ lQ V r σ f true = some x) ∧ (wrN V r σ f < (lA V r σ).length ↔ lQ V r σ f false = some x) := by
  have e1 : wrN V r σ f = cnt (fun u => decide (vv V r σ u = some x) && wrm σ f (2 * u)) (hN (sN σ)) := by
    unfold wrN
    rw [lA_of hm]
    exact cnt_al (Q := fun m => wrm σ f m) _
  have e2 : (lA V r σ).length = cnt (fun u => decide (vv V r σ u = some x)) (hN (sN σ)) := by rw [lA_of hm, al_len]
  have e3 := cnt_sub (Q := fun u => decide (vv V r σ u = some x)) (R := fun u => wrm σ f (2 * u)) (hN (sN σ))
  constructor
  · rw [e1, cnt_pos, lQ_eq hm]
    constructor
    · rintro ⟨u, h1, h2⟩
      rw [Bool.and_eq_true, decide_eq_true_eq] at h2
      exact ⟨u, h1, h2.1, h2.2⟩
    · rintro ⟨u, h1, h2, h3⟩
      exact ⟨u, h1, by rw [Bool.and_eq_true, decide_eq_true_eq]; exact ⟨h2, h3⟩⟩
  · rw [lQ_eq hm]
    have e4 : (wrN V r σ f < (lA V r σ).length) = (0 < cnt (fun u => decide (vv V r σ u = some x) && !wrm σ f (2 * u)) (hN (sN σ))) := by
      rw [e1, e2, e3]
      apply propext
      omega
    rw [e4, cnt_pos]
    constructor
    · rintro ⟨u, h1, h2⟩
      rw [Bool.and_eq_true, decide_eq_true_eq, Bool.not_eq_true'] at h2
      exact ⟨u, h1, h2.1, h2.2⟩
    · rintro ⟨u, h1, h2, h3⟩
      exact ⟨u, h1, by rw [Bool.and_eq_true, decide_eq_true_eq, Bool.not_eq_true']; exact ⟨h2, h3⟩⟩
/-- the EDGE with x, the least -/
def edV (V : Tx) (r : Nat) (σ : St) (f x : Nat) : Int32 := if lQ V r σ f true = some x ∧ lQ V r σ f false = some x then 0 else if lQ V r σ f false = some x then (match lQ V r σ f true with
    | none => 1000000
    | some y => nI y - nI x) else (match lQ V r σ f false with
    | none => 1000000
    | some y => nI x - nI y)
def aEdge (V : Tx) (r : Nat) (σ : St) (f : Int32) : Int64 := cond (inb f (sM σ)) (match mA V r σ with
  | none => NO_
  | some x => (edV V r σ f.toNatClampNeg x).toInt64) NO_
theorem r_leastSumWith {E : am_E} (zi : am_inj E) {k : Nat} (hk : 4 ≤ k) {σ : St} (zw : wf σ) {I : am_I} (zC : CS I σ) {V : Tx} {r : Nat} (hW : WG I V r σ (sM σ)) (w : Int64) {f : Nat} (hf : f < sM σ) (q : Bool) :
    am_Ret E k Y_Best_leastSumWith [.ref 76, .int (nI f), .int (bi q)] I w (am_eq (some (.int (enc (lQ V r σ f q)))) I w) := by
  refine am_intro (pv_Best_leastSumWith E k) (by decide) zi ?_ rfl rfl ?_
  · rintro _ _ _ ⟨rfl, -⟩; rfl
  intro S hS
  have h9 := zw.1
  have hH := hN_le h9
  have h2H := hN_2 (N := sN σ)
  have p1 : I 1 0 = nI (sN σ) := zC.1.1
  have loop := down (P := fun t => ∀ x5, S 5 [some (.ref 76), some (.int (nI f)), some (.int (bi q)), some (.int (enc (lsN (vQ V r σ f q) t))), some (.int (nI (2 * t))), x5] [] I w) (hN (sN σ)) ?z ?s
  case z =>
    intro x5
    refine am_at hS (fun t => Nat.beq t 5) 90 5 ?_
    refine ⟨_, _, (by omega : k - 1 < k), r_past zi h9 p1 w, am_elim ?_⟩
    rw [← h2H]
    exact ⟨fun q => absurd q (nI_nlt (Nat.le_refl _) (by omega)), fun _ => ⟨rfl, rfl, rfl⟩⟩
  case s =>
    intro t ht hn x5
    rw [show 2 * (t + 1) = 2 * t + 2 by omega, ← nI_add (2 * t)] at hn
    refine am_at hS (fun t => Nat.beq t 5) 90 5 ?_
    refine ⟨_, _, (by omega : k - 1 < k), r_past zi h9 p1 w, am_elim ?_⟩
    rw [← h2H]
    refine ⟨fun _ => ?_, fun q => absurd (nI_lt (by omega) (by omega)) q⟩
    refine ⟨_, _, (by omega : k - 1 < k), r_isWrongIn zi zw zC w (by omega) hf (by omega), am_elim ?_⟩
    have eb : (bi (wrm σ f (2 * t)) = bi q) = ((wrm σ f (2 * t) == q) = true) := by
      apply propext
      cases wrm σ f (2 * t) <;> cases q <;> simp [bi]
    refine ⟨fun h => ?_, fun h => ?_⟩
    · rw [eb] at h
      have eQ : vQ V r σ f q t = vv V r σ t := by unfold vQ; rw [h]; rfl
      refine ⟨_, _, (by omega : k - 1 < k), r_sumOf zi (by omega) zw zC w (C := co V r σ) (L := mw V r σ) (fun f => cst_le _) hW (by omega), am_elim ?_⟩
      rw [show sOf (co V r σ) (mw V r σ) σ (2 * t) (sM σ) = vv V r σ t from rfl]
      cases hv : vv V r σ t with
      | none =>
        have e : lsN (vQ V r σ f q) (t + 1) = lsN (vQ V r σ f q) t := by rw [lsN, eQ, hv]
        rw [e] at hn
        exact ⟨fun _ => hn _, fun q => absurd rfl q⟩
      | some y =>
        have hy := vv_le zw hv
        refine ⟨fun q => absurd q (nI_ne1 (by omega)), fun _ => ?_⟩
        cases hl : lsN (vQ V r σ f q) t with
        | none =>
          have e : lsN (vQ V r σ f q) (t + 1) = some y := by rw [lsN, eQ, hv]; dsimp only; rw [hl]
          rw [e] at hn
          exact ⟨fun _ => hn _, fun q => absurd rfl q⟩
        | some m =>
          have hm := lQ_le zw hl
          refine ⟨fun q => absurd q (nI_ne1 (by omega)), fun _ => ?_⟩
          refine ⟨fun h50 => ?_, fun h50 => ?_⟩
          · have h5 : nI y < nI m := h50
            rw [nlt (by omega) (by omega)] at h5
            have e : lsN (vQ V r σ f q) (t + 1) = some y := by rw [lsN, eQ, hv]; dsimp only; rw [hl]; dsimp only; rw [if_pos h5]
            rw [e] at hn
            exact hn _
          · have h5 : ¬ nI y < nI m := h50
            rw [nlt (by omega) (by omega)] at h5
            have e : lsN (vQ V r σ f q) (t + 1) = some m := by rw [lsN, eQ, hv]; dsimp only; rw [hl]; dsimp only; rw [if_neg h5]
            rw [e] at hn
            exact hn _
    · rw [eb] at h
      have eQ : vQ V r σ f q t = none := by unfold vQ; rw [Bool.eq_false_iff.mpr h]; rfl
      have e : lsN (vQ V r σ f q) (t + 1) = lsN (vQ V r σ f q) t := by rw [lsN, eQ]
      rw [e] at hn
      exact hn _
  exact am_at hS (fun t => Nat.beq t 5) 90 0 (loop 0 (Nat.zero_le _) none)
theorem r_edgeOf {E : am_E} (zi : am_inj E) {k : Nat} (hk : 5 ≤ k) {σ : St} (zw : wf σ) {I : am_I} (zC : CS I σ) {V : Tx} {r : Nat} (hW : WG I V r σ (sM σ)) (hB : BS I (mA V r σ, lA V r σ)) (w : Int64) {f : Nat} (hf : f < sM σ) {x : Nat} (hm : mA V r σ = some x) :
    am_Ret E k Y_Best_edgeOf [.ref 76, .int (nI f)] I w (am_eq (some (.int (edV V r σ f x))) I w) := by
  refine am_intro (pv_Best_edgeOf E k) (by decide) zi ?_ rfl rfl ?_
  · rintro _ _ _ ⟨rfl, -⟩; rfl
  intro S hS
  have hl := lA_len (V := V) (r := r) zw
  obtain ⟨b1, b2, b3⟩ := hB
  have b2' : I 76 4 = nI (lA V r σ).length := b2
  have b1' : I 76 3 = nI x := by rw [b1]; show enc (mA V r σ) = _; rw [hm]; rfl
  have hx := mA_le zw hm
  have hpos := lA_pos hm
  obtain ⟨w1, w2⟩ := wr_some hm f
  have hwl : wrN V r σ f ≤ (lA V r σ).length := cnt_le _ _
  have tail : ∀ X3, S 52 [some (.ref 76), some (.int (nI f)), some (.int (nI (wrN V r σ f))), X3] [] I w → True := fun _ _ => trivial
  clear tail
  have a52 : ∀ (X3 : Int32), ¬ (0 < wrN V r σ f ∧ wrN V r σ f < (lA V r σ).length) → S 52 [some (.ref 76), some (.int (nI f)), some (.int (nI (wrN V r σ f))), some (.int X3)] [] I w := fun X3 hno => by
    have ne : ¬ (lQ V r σ f true = some x ∧ lQ V r σ f false = some x) := fun q => hno ⟨w1.mpr q.1, w2.mpr q.2⟩
    refine am_at hS (fun _ => false) 60 52 ?_
    unfold edV
    rw [if_neg ne]
    by_cases h0 : wrN V r σ f = 0
    · have hF : lQ V r σ f false = some x := w2.mp (by omega)
      rw [h0, if_pos hF]
      refine ⟨fun _ => ?_, fun q => absurd rfl q⟩
      refine ⟨_, _, (by omega : k - 1 < k), r_leastSumWith zi (by omega) zw zC hW w hf true, am_elim ?_⟩
      cases hq : lQ V r σ f true with
      | none => exact ⟨fun _ => ⟨rfl, rfl, rfl⟩, fun q => absurd rfl q⟩
      | some y =>
        have hy := lQ_le zw hq
        refine ⟨fun q => absurd q (nI_ne1 (by omega)), fun _ => ?_⟩
        refine ⟨fun _ => ?_, fun q => absurd rfl q⟩
        exact ⟨by rw [b1']; rfl, rfl, rfl⟩
    · have hT : lQ V r σ f true = some x := w1.mp (by omega)
      have hF : ¬ lQ V r σ f false = some x := fun q => ne ⟨hT, q⟩
      rw [if_neg hF]
      refine ⟨fun q => absurd q (nI_ne0 (by omega) (by omega)), fun _ => ?_⟩
      refine ⟨_, _, (by omega : k - 1 < k), r_leastSumWith zi (by omega) zw zC hW w hf false, am_elim ?_⟩
      cases hq : lQ V r σ f false with
      | none => exact ⟨fun _ => ⟨rfl, rfl, rfl⟩, fun q => absurd rfl q⟩
      | some y =>
        have hy := lQ_le zw hq
        refine ⟨fun q => absurd q (nI_ne1 (by omega)), fun _ => ?_⟩
        refine ⟨fun q => absurd q (nI_ne0 (by omega) (by omega)), fun _ => ?_⟩
        exact ⟨by rw [b1']; rfl, rfl, rfl⟩
  have loop := down (P := fun t => S 4 [some (.ref 76), some (.int (nI f)), some (.int (nI (cnt (fun i => wrm σ f ((lA V r σ).getD i 0)) t))), some (.int (nI t))] [] I w) (lA V r σ).length ?z ?s
  case z =>
    refine am_at hS (fun t => Nat.beq t 4 || Nat.beq t 52) 60 4 ?_
    refine ⟨fun q => absurd q (by rw [b2']; exact nI_nlt (Nat.le_refl _) (by omega)), fun _ => ?_⟩
    show _ ∧ _
    refine ⟨fun h39 => ?_, fun h39 => ?_⟩
    · have h4 : nI 0 < nI (wrN V r σ f) := h39
      rw [nlt (by omega) (by omega)] at h4
      refine ⟨fun h47 => ?_, fun h47 => ?_⟩
      · have h5 : nI (wrN V r σ f) < I 76 4 := h47
        rw [b2', nlt (by omega) (by omega)] at h5
        unfold edV
        rw [if_pos ⟨w1.mp h4, w2.mp h5⟩]
        exact ⟨rfl, rfl, rfl⟩
      · have h5 : ¬ nI (wrN V r σ f) < I 76 4 := h47
        rw [b2', nlt (by omega) (by omega)] at h5
        exact a52 _ (fun q => h5 q.2)
    · have h4 : ¬ nI 0 < nI (wrN V r σ f) := h39
      rw [nlt (by omega) (by omega)] at h4
      exact a52 _ (fun q => h4 q.1)
  case s =>
    intro t ht hn
    refine am_at hS (fun t => Nat.beq t 4 || Nat.beq t 52) 60 4 ?_
    refine ⟨fun _ => ?_, fun q => absurd (by rw [b2']; exact nI_lt ht (by omega)) q⟩
    refine ⟨vp_in_nI (by omega) (by omega), ?_⟩
    rw [nI_clamp (by omega), b3 t ht]
    refine ⟨_, _, (by omega : k - 1 < k), r_isWrongIn zi zw zC w (by omega) hf (lA_lt zw ht), am_elim ?_⟩
    refine ⟨fun h => ?_, fun h => ?_⟩
    · rw [bi_eq0] at h
      rw [← cnt_f (Q := fun i => wrm σ f ((lA V r σ).getD i 0)) h, ← nI_1] at hn
      exact hn
    · rw [bi_eq0, Bool.not_eq_false] at h
      rw [← cnt_t (Q := fun i => wrm σ f ((lA V r σ).getD i 0)) h, ← nI_1] at hn
      exact hn
  exact am_at hS (fun t => Nat.beq t 4) 60 0 (loop 0 (Nat.zero_le _))
theorem c_edge {E : am_E} (zi : am_inj E) {k : Nat} (hk : 6 ≤ k) {σ : St} (zw : wf σ) {I : am_I} (zC : CS I σ) (w : Int64) {T r : Nat} {V : Tx} (zL : LC I T r V) (a : Int32) :
    am_Ret E k Y_TC_edge [.ref 0, .int a] I w (fun q I' w' => q = some (.long (aEdge V r σ a)) ∧ w' = w ∧ am_fs 25 [7] cBs I I') := by
  refine am_intro (pv_TC_edge E k) (by decide) zi ?_ rfl rfl ?_
  · rintro _ _ _ ⟨rfl, -⟩; trivial
  intro S hS
  have h36 := sM_le zw
  have hl := lA_len (V := V) (r := r) zw
  unfold aEdge at hS
  refine am_at hS (fun _ => false) 90 0 ?_
  refine ⟨_, _, (by omega : k - 1 < k), r_hasF zi (by omega) a I w zC.2.1, am_elim ?_⟩
  refine ⟨fun h => ?_, fun h => ?_⟩
  · rw [bi_eq0] at h
    rw [h]
    exact ⟨rfl, rfl, am_fs.refl⟩
  rw [bi_eq0, Bool.not_eq_false] at h
  obtain ⟨f, hf, rfl⟩ := inb_of h (by omega)
  rw [h, cond_true, nI_clamp (by omega)]
  refine ⟨_, _, (by omega : k - 1 < k), r_search zi (by omega) zw zC w zL, ?_⟩
  rintro _ J w1 ⟨rfl, rfl, hW, hB, fJ⟩
  have b2' : J 76 4 = nI (lA V r σ).length := hB.2.1
  cases hm : mA V r σ with
  | none =>
    refine ⟨fun _ => ?_, fun q => absurd (by rw [b2', size_0 zw]; exact hm) q⟩
    exact ⟨rfl, rfl, fJ⟩
  | some x =>
    refine ⟨fun q => absurd (by rw [b2', size_0 zw] at q; exact q) (by rw [hm]; exact fun z => by cases z), fun _ => ?_⟩
    refine ⟨_, _, (by omega : k - 1 < k), r_edgeOf zi (by omega) zw (CS_bs fJ zC) hW hB w1 hf hm, am_elim ?_⟩
    exact ⟨rfl, rfl, fJ⟩
theorem m_edge {E : am_E} (zi : am_inj E) {k : Nat} (hk : 46 ≤ k) {σ : St} (zw : wf σ) {I : am_I} (zR : RS I σ) (w : Int64) {T r : Nat} {V : Tx} (zL : RL I T r V) (a : Int32) :
    am_Ret E k Y_MO_edge [.ref 88, .int a] I w (fun q I' w' => q = some (.long (aEdge V r σ a)) ∧ am_fs 88 rdFs fAl I I') := by
  refine am_intro (pv_MO_edge E k) (by decide) zi ?_ rfl rfl ?_
  · rintro _ _ _ ⟨rfl, -⟩; trivial
  intro S hS
  have h9 := zw.1
  have h36 := sM_le zw
  have hp2 := p2_le h9
  have h2H := hN_2 (N := sN σ)
  have hH := hN_le h9
  unfold aEdge at hS
  refine am_at hS (fun t => Nat.beq t 34) 90 0 ?_
  refine ⟨_, _, (by omega : k - 1 < k), r_isFeeling zi I w (by omega) (by omega) zR.2.1 a, am_elim ?_⟩
  refine ⟨fun h => ?_, fun h => ?_⟩
  · rw [bi_eq0] at h
    rw [h]
    exact ⟨rfl, am_fs.refl⟩
  rw [bi_eq0, Bool.not_eq_false] at h
  obtain ⟨f, hf, rfl⟩ := inb_of h (by omega)
  rw [h, cond_true, nI_clamp (by omega)] at hS
  rw [h, cond_true, nI_clamp (by omega)]
  refine ⟨_, _, (by omega : k - 1 < k), m_goesAll zi (by omega) zw zR w zL, ?_⟩
  rintro _ J w1 ⟨rfl, hA, fJ⟩
  have zJ := RS_al fJ (Or.inl rfl) (by decide) (by decide) zR
  have p1 : J 88 9 = nI (sN σ) := zJ.1.1
  cases hm : mA V r σ with
  | none => exact ⟨fun _ => ⟨rfl, fJ⟩, fun q => absurd rfl q⟩
  | some x =>
    have hx := mA_le zw hm
    have hN0 := mA_N hm
    have eH : 2 * hN (sN σ) = 2 ^ sN σ := by unfold pcN at h2H; rw [if_neg hN0] at h2H; exact h2H
    rw [hm] at hS
    refine ⟨fun q => absurd q (nI_ne1 (by omega)), fun _ => ?_⟩
    have ex : ∀ q, (enc (lQ V r σ f q) = nI x) = (lQ V r σ f q = some x) := fun q => by
      apply propext
      cases hq : lQ V r σ f q with
      | none => exact ⟨fun z => absurd z.symm (nI_ne1 (by omega)), fun z => by cases z⟩
      | some y =>
        have hy := lQ_le zw hq
        show nI y = nI x ↔ _
        rw [neq (by omega) (by omega)]
        exact ⟨fun z => by rw [z], fun z => by cases z; rfl⟩
    have loop := down (P := fun t => ∀ x6, S 34 [some (.ref 88), some (.int (nI f)), some (.int (nI x)), some (.int (enc (lsN (vQ V r σ f true) t))), some (.int (enc (lsN (vQ V r σ f false) t))), some (.int (nI (2 * t))), x6] [] J w1) (hN (sN σ)) ?z ?s
    case z =>
      intro x6
      refine am_at hS (fun t => Nat.beq t 34 || Nat.beq t 135) 90 34 ?_
      refine ⟨fun q => absurd q (by rw [p1, nI_shl1 (by omega), nlt (by omega) (by omega)]; omega), fun _ => ?_⟩
      have a135 : ¬ (lQ V r σ f true = some x ∧ lQ V r σ f false = some x) → ∀ X5 X6, S 135 [some (.ref 88), some (.int (nI f)), some (.int (nI x)), some (.int (enc (lQ V r σ f true))), some (.int (enc (lQ V r σ f false))), X5, X6] [] J w1 := fun hne X5 X6 => by
        refine am_at hS (fun _ => false) 60 135 ?_
        dsimp only
        unfold edV
        rw [if_neg hne]
        refine ⟨fun h => ?_, fun h => ?_⟩
        · rw [ex] at h
          rw [if_pos h]
          cases hq : lQ V r σ f true with
          | none => exact ⟨fun _ => ⟨rfl, fJ⟩, fun q => absurd rfl q⟩
          | some y =>
            have hy := lQ_le zw hq
            exact ⟨fun q => absurd q (nI_ne1 (by omega)), fun _ => ⟨rfl, fJ⟩⟩
        · rw [ex] at h
          rw [if_neg h]
          cases hq : lQ V r σ f false with
          | none => exact ⟨fun _ => ⟨rfl, fJ⟩, fun q => absurd rfl q⟩
          | some y =>
            have hy := lQ_le zw hq
            exact ⟨fun q => absurd q (nI_ne1 (by omega)), fun _ => ⟨rfl, fJ⟩⟩
      refine ⟨fun h => ?_, fun h => ?_⟩
      · have h1 : enc (lQ V r σ f true) = nI x := h
        rw [ex] at h1
        refine ⟨fun h2 => ?_, fun h2 => ?_⟩
        · have h3 : enc (lQ V r σ f false) = nI x := h2
          rw [ex] at h3
          refine ⟨?_, fJ⟩
          dsimp only
          unfold edV
          rw [if_pos ⟨h1, h3⟩]
          rfl
        · have h3 : ¬ enc (lQ V r σ f false) = nI x := h2
          rw [ex] at h3
          exact a135 (fun q => h3 q.2) _ _
      · have h1 : ¬ enc (lQ V r σ f true) = nI x := h
        rw [ex] at h1
        exact a135 (fun q => h1 q.1) _ _
    case s =>
      intro t ht hn x6
      rw [show 2 * (t + 1) = 2 * t + 2 by omega, ← nI_add (2 * t)] at hn
      refine am_at hS (fun t => Nat.beq t 34) 90 34 ?_
      refine ⟨fun _ => ?_, fun q => absurd (by rw [p1, nI_shl1 (by omega), nlt (by omega) (by omega)]; omega) q⟩
      refine ⟨vp_in_nI (by omega) (by omega), ?_⟩
      rw [nI_clamp (by omega), hA t ht]
      have eQ : ∀ q, vQ V r σ f q t = cond (wrm σ f (2 * t) == q) (vv V r σ t) none := fun q => rfl
      cases hv : vv V r σ t with
      | none =>
        have e : ∀ q, lsN (vQ V r σ f q) (t + 1) = lsN (vQ V r σ f q) t := fun q => by
          rw [lsN, eQ, hv]
          cases (wrm σ f (2 * t) == q) <;> rfl
        rw [e, e] at hn
        exact ⟨fun _ => hn _, fun q => absurd rfl q⟩
      | some y =>
        have hy := vv_le zw hv
        refine ⟨fun q => absurd q (nI_ne1 (by omega)), fun _ => ?_⟩
        refine ⟨_, _, (by omega : k - 1 < k), r_isWrongInM zi zw zJ w1 hf (by omega), am_elim ?_⟩
        cases hw : wrm σ f (2 * t) with
        | false =>
          have eT : lsN (vQ V r σ f true) (t + 1) = lsN (vQ V r σ f true) t := by rw [lsN, eQ, hw]; rfl
          have eF : vQ V r σ f false t = some y := by rw [eQ, hw]; exact hv
          rw [eT] at hn
          refine ⟨fun _ => ?_, fun q => absurd rfl q⟩
          cases hl : lsN (vQ V r σ f false) t with
          | none =>
            have e : lsN (vQ V r σ f false) (t + 1) = some y := by rw [lsN, eF]; dsimp only; rw [hl]
            rw [e] at hn
            exact ⟨fun _ => hn _, fun q => absurd rfl q⟩
          | some m =>
            have hm2 := lQ_le zw hl
            refine ⟨fun q => absurd q (nI_ne1 (by omega)), fun _ => ?_⟩
            refine ⟨fun h5 => ?_, fun h5 => ?_⟩
            · have h6 : nI y < nI m := h5
              rw [nlt (by omega) (by omega)] at h6
              have e : lsN (vQ V r σ f false) (t + 1) = some y := by rw [lsN, eF]; dsimp only; rw [hl]; dsimp only; rw [if_pos h6]
              rw [e] at hn
              exact hn _
            · have h6 : ¬ nI y < nI m := h5
              rw [nlt (by omega) (by omega)] at h6
              have e : lsN (vQ V r σ f false) (t + 1) = some m := by rw [lsN, eF]; dsimp only; rw [hl]; dsimp only; rw [if_neg h6]
              rw [e] at hn
              exact hn _
        | true =>
          have eF : lsN (vQ V r σ f false) (t + 1) = lsN (vQ V r σ f false) t := by rw [lsN, eQ, hw]; rfl
          have eT : vQ V r σ f true t = some y := by rw [eQ, hw]; exact hv
          rw [eF] at hn
          refine ⟨fun q => absurd (show (1 : Int32) = 0 from q) (by decide), fun _ => ?_⟩
          cases hl : lsN (vQ V r σ f true) t with
          | none =>
            have e : lsN (vQ V r σ f true) (t + 1) = some y := by rw [lsN, eT]; dsimp only; rw [hl]
            rw [e] at hn
            exact ⟨fun _ => hn _, fun q => absurd rfl q⟩
          | some m =>
            have hm2 := lQ_le zw hl
            refine ⟨fun q => absurd q (nI_ne1 (by omega)), fun _ => ?_⟩
            refine ⟨fun h5 => ?_, fun h5 => ?_⟩
            · have h6 : nI y < nI m := h5
              rw [nlt (by omega) (by omega)] at h6
              have e : lsN (vQ V r σ f true) (t + 1) = some y := by rw [lsN, eT]; dsimp only; rw [hl]; dsimp only; rw [if_pos h6]
              rw [e] at hn
              exact hn _
            · have h6 : ¬ nI y < nI m := h5
              rw [nlt (by omega) (by omega)] at h6
              have e : lsN (vQ V r σ f true) (t + 1) = some m := by rw [lsN, eT]; dsimp only; rw [hl]; dsimp only; rw [if_neg h6]
              rw [e] at hn
              exact hn _
    exact loop 0 (Nat.zero_le _) none

