/-! the class's feel, between, felt, step, ends -/
def ist (t : Int32) : Bool := !decide (t < 1) && !decide (99 < t)
theorem ist_of {t : Int32} (h : ist t = true) : 1 ≤ t.toInt ∧ t.toInt ≤ 99 := by
  unfold ist at h
  rw [Bool.and_eq_true, Bool.not_eq_true', Bool.not_eq_true', decide_eq_false_iff_not, decide_eq_false_iff_not, i_lt, i_lt] at h
  have e1 : (1 : Int32).toInt = 1 := rfl
  have e2 : (99 : Int32).toInt = 99 := rfl
  omega
def isg (s : Int32) : Bool := decide (s = 1) || decide (s = -1)
theorem isg_of {s : Int32} (h : isg s = true) : s = 1 ∨ s = -1 := by
  unfold isg at h
  rw [Bool.or_eq_true, decide_eq_true_eq, decide_eq_true_eq] at h
  exact h
theorem two_of {a b : Int32} {N : Nat} (h : two a b N = true) (hN : N < 2 ^ 31) : ∃ x y, x < N ∧ y < N ∧ x ≠ y ∧ a = nI x ∧ b = nI y := by
  unfold two at h
  rw [Bool.and_eq_true, Bool.and_eq_true, Bool.not_eq_true', beq_eq_false_iff_ne] at h
  obtain ⟨x, hx, rfl⟩ := inb_of h.1 hN
  obtain ⟨y, hy, rfl⟩ := inb_of h.2.1 hN
  exact ⟨x, y, hx, hy, fun q => h.2.2 (by rw [q]), rfl, rfl⟩
theorem inb_ff3 {x : Int32} (h : 3 < x) : inb x 4 = false := inb_ff2 (by rw [i_lt] at h ⊢; have e1 : (3 : Int32).toInt = 3 := rfl; have e2 : (nI 4).toInt = 4 := rfl; omega) (by decide)
theorem inb_tt3 {x : Int32} (h1 : ¬ x < 0) (h : ¬ 3 < x) : inb x 4 = true := inb_tt h1 (by rw [i_lt] at h ⊢; have e1 : (3 : Int32).toInt = 3 := rfl; have e2 : (nI 4).toInt = 4 := rfl; omega) (by decide)
def fOk (σ : St) (a b s t kd : Int32) : Bool := two a b (sN σ) && (isg s && (ist t && inb kd 4))
def aFeel (σ : St) (a b s t kd : Int32) : Int32 × St := cond (fOk σ a b s t kd) (nI (sTell σ a.toNatClampNeg b.toNatClampNeg s t kd.toNatClampNeg).1, (sTell σ a.toNatClampNeg b.toNatClampNeg s t kd.toNatClampNeg).2) (-2, σ)
theorem wf_aFeel {σ : St} (zw : wf σ) (a b s t kd : Int32) : wf (aFeel σ a b s t kd).2 := by
  unfold aFeel
  cases h : fOk σ a b s t kd with
  | false => exact zw
  | true =>
    unfold fOk at h
    rw [Bool.and_eq_true, Bool.and_eq_true, Bool.and_eq_true] at h
    obtain ⟨h1, h2, h3, h4⟩ := h
    obtain ⟨x, y, hx, hy, hxy, rfl, rfl⟩ := two_of h1 (by have := zw.1; omega)
    obtain ⟨d, hd, rfl⟩ := inb_of h4 (by decide)
    have h9 := zw.1
    show wf (sTell σ (nI x).toNatClampNeg (nI y).toNatClampNeg s t (nI d).toNatClampNeg).2
    rw [nI_clamp (by omega), nI_clamp (by omega), nI_clamp (by omega)]
    exact sTell_wf zw hx hy hxy (isg_of h2) (ist_of h3) hd
theorem c_feel {E : am_E} (zi : am_inj E) {k : Nat} (hk : 2 ≤ k) {σ : St} (zw : wf σ) {I : am_I} (zC : CS I σ) (w : Int64) (a b s t kd : Int32) :
    am_Ret E k Y_TC_feel [.ref 0, .int a, .int b, .int s, .int t, .int kd] I w (fun q I' w' => q = some (.int (aFeel σ a b s t kd).1) ∧ w' = w ∧ CS I' (aFeel σ a b s t kd).2 ∧ am_fr [7, 8, 9, 10, 11, 12, 13] I I') := by
  refine am_intro (pv_TC_feel E k) (by decide) zi ?_ rfl rfl ?_
  · rintro _ _ _ ⟨rfl, -⟩; rfl
  intro S hS
  have h9 := zw.1
  have c1 := zC.1.1
  have bad : fOk σ a b s t kd = false → some (Value.int (-2)) = some (.int (aFeel σ a b s t kd).1) ∧ w = w ∧ CS I (aFeel σ a b s t kd).2 ∧ am_fr [7, 8, 9, 10, 11, 12, 13] I I := fun h => by
    unfold aFeel
    rw [h]
    exact ⟨rfl, rfl, zC, am_fr.refl⟩
  refine am_at hS (fun t => Nat.beq t 25) 90 0 ?_
  refine ⟨_, _, (by omega : k - 1 < k), r_hasTwo zi (by omega) (by omega) a b I w c1, am_elim ?_⟩
  refine ⟨fun h9 => ?_, fun h9 => ?_⟩
  · rw [bi_eq0] at h9
    exact bad (by unfold fOk; rw [h9]; rfl)
  · rw [bi_eq0, Bool.not_eq_false] at h9
    have tail : isg s = true → S 25 [some (.ref 0), some (.int a), some (.int b), some (.int s), some (.int t), some (.int kd)] [] I w := fun hs => by
      refine am_at hS (fun _ => false) 90 25 ?_
      refine ⟨fun h28 => ?_, fun h28 => ?_⟩
      · exact bad (by unfold fOk ist; rw [decide_eq_true h28, Bool.not_true, Bool.false_and, Bool.false_and, Bool.and_false, Bool.and_false])
      · refine ⟨fun h35 => ?_, fun h35 => ?_⟩
        · exact bad (by unfold fOk ist; rw [decide_eq_true (show 99 < t from h35), Bool.not_true, Bool.and_false, Bool.false_and, Bool.and_false, Bool.and_false])
        · refine ⟨fun h40 => ?_, fun h40 => ?_⟩
          · exact bad (by unfold fOk; rw [inb_ff1 h40, Bool.and_false, Bool.and_false, Bool.and_false])
          · refine ⟨fun h46 => ?_, fun h46 => ?_⟩
            · exact bad (by unfold fOk; rw [inb_ff3 h46, Bool.and_false, Bool.and_false, Bool.and_false])
            · have h4 := inb_tt3 h40 h46
              have ht : ist t = true := by unfold ist; rw [decide_eq_false h28, decide_eq_false (show ¬ 99 < t from h35)]; rfl
              have hok : fOk σ a b s t kd = true := by unfold fOk; rw [h9, hs, ht, h4]; rfl
              obtain ⟨x, y, hx, hy, hxy, rfl, rfl⟩ := two_of h9 (by omega)
              obtain ⟨d, hd, rfl⟩ := inb_of h4 (by decide)
              refine ⟨_, _, (by omega : k - 1 < k), r_tell zi zw zC w (by omega) hx hy hxy s t d, ?_⟩
              rintro _ I1 w1 ⟨rfl, rfl, z1, f1⟩
              unfold aFeel
              rw [hok, nI_clamp (by omega), nI_clamp (by omega), nI_clamp (by omega)]
              exact ⟨rfl, rfl, z1, f1⟩
    refine ⟨fun h14 => ?_, fun h14 => ?_⟩
    · exact tail (by unfold isg; rw [decide_eq_true h14]; rfl)
    · refine ⟨fun h19 => ?_, fun h19 => ?_⟩
      · exact tail (by unfold isg; rw [decide_eq_true h19, Bool.or_true])
      · exact bad (by unfold fOk isg; rw [decide_eq_false h14, decide_eq_false h19, Bool.or_false, Bool.false_and, Bool.and_false])
def aBetween (σ : St) (a b : Int32) : Int32 := cond (two a b (sN σ)) (enc (sF σ a.toNatClampNeg b.toNatClampNeg)) (-2)
theorem c_between {E : am_E} (zi : am_inj E) {k : Nat} (hk : 2 ≤ k) {σ : St} (zw : wf σ) {I : am_I} (zC : CS I σ) (w : Int64) (a b : Int32) :
    am_Ret E k Y_TC_between [.ref 0, .int a, .int b] I w (am_eq (some (.int (aBetween σ a b))) I w) := by
  refine am_intro (pv_TC_between E k) (by decide) zi ?_ rfl rfl ?_
  · rintro _ _ _ ⟨rfl, -⟩; rfl
  intro S hS
  have h9 := zw.1
  unfold aBetween at hS
  refine am_at hS (fun _ => false) 90 0 ?_
  refine ⟨_, _, (by omega : k - 1 < k), r_hasTwo zi (by omega) (by omega) a b I w zC.1.1, am_elim ?_⟩
  refine ⟨fun h9 => ?_, fun h9 => ?_⟩
  · rw [bi_eq0] at h9
    rw [h9]
    exact ⟨rfl, rfl, rfl⟩
  · rw [bi_eq0, Bool.not_eq_false] at h9
    rw [h9]
    obtain ⟨x, y, hx, hy, hxy, rfl, rfl⟩ := two_of h9 (by omega)
    refine ⟨_, _, (by omega : k - 1 < k), r_find zi zw zC w (by omega) (by omega), am_elim ?_⟩
    rw [nI_clamp (by omega), nI_clamp (by omega)]
    exact ⟨rfl, rfl, rfl⟩
def aStep (V : Tx) (r : Nat) (σ : St) (p : Int32) : Int32 × (Nat → Int32) := cond (inb p (sN σ)) (enc (tW V r σ p.toNatClampNeg).1, (tW V r σ p.toNatClampNeg).2) (-2, sS σ)
theorem c_step {E : am_E} (zi : am_inj E) {k : Nat} (hk : 5 ≤ k) {σ : St} (zw : wf σ) {I : am_I} (zC : CS I σ) (w : Int64) {T r : Nat} {V : Tx} (zL : LC I T r V) (p : Int32) :
    am_Ret E k Y_TC_step [.ref 0, .int p] I w (fun q I' w' => q = some (.int (aStep V r σ p).1) ∧ w' = w ∧ CS I' (sSg σ (aStep V r σ p).2) ∧ am_fs 25 [7] [10, 29] I I') := by
  refine am_intro (pv_TC_step E k) (by decide) zi ?_ rfl rfl ?_
  · rintro _ _ _ ⟨rfl, -⟩; rfl
  intro S hS
  have h9 := zw.1
  unfold aStep at hS
  refine am_at hS (fun _ => false) 90 0 ?_
  refine ⟨_, _, (by omega : k - 1 < k), r_hasP zi (by omega) p I w zC.1.1, am_elim ?_⟩
  refine ⟨fun h9 => ?_, fun h9 => ?_⟩
  · rw [bi_eq0] at h9
    rw [h9]
    exact ⟨rfl, rfl, zC, am_fs.refl⟩
  · rw [bi_eq0, Bool.not_eq_false] at h9
    rw [h9]
    obtain ⟨x, hx, rfl⟩ := inb_of h9 (by omega)
    refine ⟨_, _, (by omega : k - 1 < k), r_turnWorst zi (by omega) zw zC w zL (p := x) (by omega), ?_⟩
    rintro _ I1 w1 ⟨rfl, rfl, z1, f1⟩
    rw [nI_clamp (by omega)]
    exact ⟨rfl, rfl, z1, f1⟩
theorem tW_sg {V : Tx} {r : Nat} {σ : St} (zw : wf σ) (p : Nat) : wf (sSg σ (tW V r σ p).2) := by
  refine wf_sg zw (fun f hf => ?_)
  unfold tW
  have h1 := zw.2.1.2.1
  cases (wsF V r σ p).1 with
  | none => exact h1 f hf
  | some g =>
    show fup (sS σ) g (-(sS σ g)) f = 1 ∨ fup (sS σ) g (-(sS σ g)) f = -1
    by_cases e : f = g
    · subst e
      rw [fup_self]
      rcases h1 f hf with q | q
      · rw [q]; right; decide
      · rw [q]; left; decide
    · rw [fup_ne e]; exact h1 f hf
def tA (V : Tx) (r : Nat) (σ : St) : Nat → Bool × (Nat → Int32)
  | 0 => (false, sS σ)
  | p + 1 => ((tA V r σ p).1 || (tW V r (sSg σ (tA V r σ p).2) p).1.isSome, (tW V r (sSg σ (tA V r σ p).2) p).2)
theorem tA_sg {V : Tx} {r : Nat} {σ : St} (zw : wf σ) : ∀ p, wf (sSg σ (tA V r σ p).2)
  | 0 => zw
  | p + 1 => tW_sg (tA_sg zw p) p
theorem r_turnAll {E : am_E} (zi : am_inj E) {k : Nat} (hk : 5 ≤ k) {σ : St} (zw : wf σ) {I : am_I} (zC : CS I σ) (w : Int64) {T r : Nat} {V : Tx} (zL : LC I T r V) :
    am_Ret E k Y_TC_turnAll [.ref 0] I w (fun q I' w' => q = some (.int (bi (tA V r σ (sN σ)).1)) ∧ w' = w ∧ CS I' (sSg σ (tA V r σ (sN σ)).2) ∧ am_fs 25 [7] [10, 29] I I') := by
  refine am_intro (pv_TC_turnAll E k) (by decide) zi ?_ rfl rfl ?_
  · rintro _ _ _ ⟨rfl, -⟩; exact bi_nr _
  intro S hS
  have h9 := zw.1
  have l1029 : ∀ q, 30 ≤ q → q < 42 → q ∉ [10, 29] := fun q h1 h2 hz => by simp only [List.mem_cons, List.not_mem_nil, or_false] at hz; omega
  have loop := down (P := fun p => ∀ J, am_fs 25 [7] [10, 29] I J → CS J (sSg σ (tA V r σ p).2) → S 4 [some (.ref 0), some (.int (bi (tA V r σ p).1)), some (.int (nI p))] [] J w) (sN σ) ?z ?s
  case z =>
    intro J hJ zJ
    refine am_at hS (fun t => Nat.beq t 4) 80 4 ?_
    exact ⟨fun q => absurd q (by show ¬ nI (sN σ) < J 1 0; rw [show J 1 0 = nI (sN σ) from zJ.1.1]; exact nI_nlt (Nat.le_refl _) (by omega)), fun _ => ⟨rfl, rfl, zJ, hJ⟩⟩
  case s =>
    intro p hp hn J hJ zJ
    refine am_at hS (fun t => Nat.beq t 4) 80 4 ?_
    refine ⟨fun _ => ?_, fun q => absurd (show nI p < J 1 0 by rw [show J 1 0 = nI (sN σ) from zJ.1.1]; exact nI_lt hp (by omega)) q⟩
    refine ⟨_, _, (by omega : k - 1 < k), r_turnWorst zi (by omega) (tA_sg zw p) zJ w (LC_fs l1029 hJ zL) (p := p) (by omega), ?_⟩
    rintro _ I1 w1 ⟨rfl, rfl, z1, f1⟩
    have hgo := hn I1 (hJ.trans f1) z1
    rw [← nI_1] at hgo
    have hlt : ∀ f, (tW V r (sSg σ (tA V r σ p).2) p).1 = some f → f < 2 ^ 31 := fun f hf => by
      unfold tW at hf
      cases hq : (wsF V r (sSg σ (tA V r σ p).2) p).1 with
      | none => rw [hq] at hf; cases hf
      | some g =>
        rw [hq] at hf
        cases hf
        have := wst_lt hq
        have := sM_le (tA_sg (V := V) (r := r) zw p)
        omega
    refine ⟨fun h21 => ?_, fun h21 => ?_⟩
    · have e := enc_none h21 hlt
      have e2 : (tA V r σ (p + 1)).1 = (tA V r σ p).1 := by rw [tA, e]; exact Bool.or_false _
      rw [e2] at hgo
      exact hgo
    · obtain ⟨g, e⟩ := enc_some (M := 0) h21
      have e2 : (tA V r σ (p + 1)).1 = true := by rw [tA, e]; exact Bool.or_true _
      rw [e2] at hgo
      exact hgo
  exact am_at hS (fun t => Nat.beq t 4) 80 0 (loop 0 (Nat.zero_le _) I am_fs.refl zC)

