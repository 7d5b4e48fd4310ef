/-! the reference's TOKENS and the class's -/
def hw (b : Nat → Nat) (f : Nat) : Nat → Nat
  | 0 => 0
  | j + 1 => 27 * hw b f j + b (f + j) - 96
def ltr (b : Nat → Nat) (f m : Nat) : Prop := ∀ j, j < m → 97 ≤ b (f + j) ∧ b (f + j) ≤ 122
theorem hw_lt {b : Nat → Nat} {f : Nat} : ∀ j, ltr b f j → hw b f j < 27 ^ j
  | 0, _ => by show 0 < 1; decide
  | j + 1, h => by
    have h1 := hw_lt j (fun t ht => h t (by omega))
    have h2 := h j (by omega)
    rw [hw, Nat.pow_succ]
    omega
theorem hw_inj {b c : Nat → Nat} {f g : Nat} : ∀ j m, ltr b f j → ltr c g m → hw b f j = hw c g m → j = m ∧ ∀ t, t < j → b (f + t) = c (g + t)
  | 0, 0, _, _, _ => ⟨rfl, fun t ht => absurd ht (by omega)⟩
  | 0, m + 1, _, h2, e => by
    have := h2 m (by omega)
    rw [hw, hw] at e
    omega
  | j + 1, 0, h1, _, e => by
    have := h1 j (by omega)
    rw [hw, hw] at e
    omega
  | j + 1, m + 1, h1, h2, e => by
    have a1 := h1 j (by omega)
    have a2 := h2 m (by omega)
    rw [hw, hw] at e
    obtain ⟨e1, e2⟩ := hw_inj j m (fun t ht => h1 t (by omega)) (fun t ht => h2 t (by omega)) (by omega)
    refine ⟨by omega, fun t ht => ?_⟩
    by_cases et : t = j
    · subst et
      subst e1
      omega
    · exact e2 t (by omega)
theorem hw_congr {b c : Nat → Nat} {f g : Nat} : ∀ j, (∀ t, t < j → b (f + t) = c (g + t)) → hw b f j = hw c g j
  | 0, _ => rfl
  | j + 1, h => by rw [hw, hw, hw_congr j (fun t ht => h t (by omega)), h j (by omega)]
def wkN : List Nat := [70517, 8903, 423, 1111, 10631, 206756339381, 158738, 8276, 3383428, 6476969, 267347]
def wk (i : Nat) : Int64 := lN (wkN.getD i 0)
theorem wk_ok : (List.range 11).all (fun i => decide (wkN.getD i 0 = hw (wl i) 0 (am_tl.getD i 0)) && decide (wkN.getD i 0 < 2 ^ 63) && (List.range 11).all (fun j => !decide (wkN.getD i 0 = wkN.getD j 0) || decide (i = j)) && (List.range 11).all (fun j => !decide (wcd i = wcd j) || decide (i = j)) && decide (¬ wcd i = -2) && decide (¬ wcd i = -1) && decide (wcd i < 0)) = true := by decide +kernel
theorem wk_of {i : Nat} (hi : i < 11) : wkN.getD i 0 = hw (wl i) 0 (am_tl.getD i 0) ∧ wkN.getD i 0 < 2 ^ 63 ∧ (∀ j, j < 11 → wkN.getD i 0 = wkN.getD j 0 → i = j) ∧ (∀ j, j < 11 → wcd i = wcd j → i = j) ∧ ¬ wcd i = -2 ∧ ¬ wcd i = -1 ∧ wcd i < 0 := by
  have h := List.all_eq_true.mp wk_ok i (List.mem_range.mpr hi)
  simp only [Bool.and_eq_true, decide_eq_true_eq] at h
  obtain ⟨⟨⟨⟨⟨⟨h1, h2⟩, h3⟩, h4⟩, h5⟩, h6⟩, h7⟩ := h
  refine ⟨h1, h2, fun j hj e => ?_, fun j hj e => ?_, h5, h6, h7⟩
  · have h8 := List.all_eq_true.mp h3 j (List.mem_range.mpr hj)
    rw [decide_eq_true e] at h8
    exact of_decide_eq_true h8
  · have h8 := List.all_eq_true.mp h4 j (List.mem_range.mpr hj)
    rw [decide_eq_true e] at h8
    exact of_decide_eq_true h8
def wv (b : Nat → Nat) (f m : Nat) : Int64 := if m ≤ 8 then lN (hw b f m) else -1
theorem lN_ne1 {n : Nat} (h : n < 2 ^ 63) : ¬ lN n = -1 := by
  intro e
  have := congrArg Int64.toInt e
  rw [pk_lT h] at this
  have e1 : (-1 : Int64).toInt = -1 := by decide
  omega
theorem wv_iff {b : Nat → Nat} {f m i : Nat} (hl : ltr b f m) (hi : i < 11) : wv b f m = wk i ↔ (m = am_tl.getD i 0 ∧ spt b f i (am_tl.getD i 0)) := by
  obtain ⟨k1, k2, k3, k4⟩ := wk_of hi
  have h9 := (tl_of hi).2
  have hli : ltr (wl i) 0 (am_tl.getD i 0) := fun j hj => by
    rw [Nat.zero_add]
    exact (tb_of hi (by omega)).2.2 hj
  unfold wv wk
  by_cases hm : m ≤ 8
  · rw [if_pos hm]
    have hb : hw b f m < 2 ^ 63 := Nat.lt_of_lt_of_le (hw_lt m hl) (Nat.le_trans (Nat.pow_le_pow_right (by decide) hm) (by decide))
    rw [pk_lEQ hb k2]
    constructor
    · intro e
      rw [k1] at e
      obtain ⟨e1, e2⟩ := hw_inj m _ hl hli e
      refine ⟨e1, fun t ht => ?_⟩
      have := e2 t (by omega)
      rw [Nat.zero_add] at this
      exact this
    · rintro ⟨e1, e2⟩
      rw [k1, e1]
      exact hw_congr _ (fun t ht => by rw [Nat.zero_add]; exact e2 t ht)
  · rw [if_neg hm]
    exact ⟨fun e => absurd e.symm (lN_ne1 k2), fun e => absurd e.1 (by omega)⟩
theorem wco_spec {b : Nat → Nat} {f e : Nat} : ∀ d, d ≤ 11 → (wco b f e d = -2 ∧ ∀ i, 11 - d ≤ i → i < 11 → ¬ spl b f e i) ∨ ∃ j, j < 11 ∧ spl b f e j ∧ wco b f e d = wcd j
  | 0, _ => Or.inl ⟨rfl, fun i h1 h2 => by omega⟩
  | d + 1, hd => by
    cases hs : splB b f e (10 - d) with
    | true =>
      have e1 : wco b f e (d + 1) = wcd (10 - d) := by rw [wco, hs]; rfl
      exact Or.inr ⟨10 - d, by omega, splB_of hs, e1⟩
    | false =>
      have e1 : wco b f e (d + 1) = wco b f e d := by rw [wco, hs]; rfl
      rw [e1]
      rcases wco_spec (b := b) (f := f) (e := e) d (by omega) with ⟨h1, h2⟩ | h
      · refine Or.inl ⟨h1, fun i h3 h4 hq => ?_⟩
        by_cases ei : i = 10 - d
        · rw [ei] at hq
          rw [splB_t hq] at hs
          cases hs
        · exact h2 i (by omega) h4 hq
      · exact Or.inr h
def TR (c t : Int32) (w : Int64) : Prop := (∀ i, i < 11 → ((t = 1 ∧ w = wk i) ↔ c = wcd i)) ∧ (∀ s, sgB s = true → ((t = 3 ∧ w = lN s) ↔ c = -(nI s))) ∧ (t = 2 ↔ ¬ c < 0) ∧ (t = 2 → w.toInt32 = c) ∧ (t = 0 ↔ c = -1)
theorem sg_mem {s : Nat} (h : sgB s = true) : s ∈ [40, 41, 42, 43, 45, 59, 60, 61] := by
  unfold sgB at h
  simp only [Bool.or_eq_true, beq_iff_eq] at h
  simp only [List.mem_cons, List.not_mem_nil, or_false]
  omega
theorem sg_ok : ∀ s ∈ [40, 41, 42, 43, 45, 59, 60, 61], (¬ -(nI s) = -1) ∧ (¬ -(nI s) = -2) ∧ -(nI s) < 0 ∧ (∀ t ∈ [40, 41, 42, 43, 45, 59, 60, 61], -(nI s) = -(nI t) → s = t) ∧ ∀ i ∈ List.range 11, ¬ wcd i = -(nI s) := by decide +kernel
theorem TR_end {w : Int64} : TR (-1) 0 w := ⟨fun i hi => ⟨fun q => absurd q.1 (by decide), fun q => absurd q.symm (wk_of hi).2.2.2.2.2.1⟩, fun s hs => ⟨fun q => absurd q.1 (by decide), fun q => absurd q.symm (sg_ok s (sg_mem hs)).1⟩, ⟨fun q => absurd q (by decide), fun q => absurd (by decide) q⟩, fun q => absurd q (by decide), ⟨fun _ => rfl, fun _ => rfl⟩⟩
theorem TR_bad {w : Int64} : TR (-2) 4 w := ⟨fun i hi => ⟨fun q => absurd q.1 (by decide), fun q => absurd q.symm (wk_of hi).2.2.2.2.1⟩, fun s hs => ⟨fun q => absurd q.1 (by decide), fun q => absurd q.symm (sg_ok s (sg_mem hs)).2.1⟩, ⟨fun q => absurd q (by decide), fun q => absurd (by decide) q⟩, fun q => absurd q (by decide), ⟨fun q => absurd q (by decide), fun q => absurd q (by decide)⟩⟩
theorem TR_num {m : Nat} (hm : m < 2 ^ 31) : TR (nI m) 2 (lN m) := ⟨fun i hi => ⟨fun q => absurd q.1 (by decide), fun q => absurd (wk_of hi).2.2.2.2.2.2 (by rw [← q]; exact nI_pos hm)⟩, fun s hs => ⟨fun q => absurd q.1 (by decide), fun q => absurd (sg_ok s (sg_mem hs)).2.2.1 (by rw [← q]; exact nI_pos hm)⟩, ⟨fun _ => nI_pos hm, fun _ => rfl⟩, fun _ => lN_i m, ⟨fun q => absurd q (by decide), fun q => absurd q (nI_ne1 hm)⟩⟩
theorem TR_sign {s : Nat} (h : sgB s = true) : TR (-(nI s)) 3 (lN s) := by
  obtain ⟨a1, a2, a3, a4, a5⟩ := sg_ok s (sg_mem h)
  refine ⟨fun i hi => ⟨fun q => absurd q.1 (by decide), fun q => absurd q.symm (a5 i (List.mem_range.mpr hi))⟩, fun u hu => ⟨fun q => ?_, fun q => ?_⟩, ⟨fun q => absurd q (by decide), fun q => absurd a3 q⟩, fun q => absurd q (by decide), ⟨fun q => absurd q (by decide), fun q => absurd q a1⟩⟩
  · have b1 : s < 2 ^ 63 := by have := sg_mem h; simp only [List.mem_cons, List.not_mem_nil, or_false] at this; omega
    have b2 : u < 2 ^ 63 := by have := sg_mem hu; simp only [List.mem_cons, List.not_mem_nil, or_false] at this; omega
    rw [(pk_lEQ b1 b2).mp q.2]
  · rw [a4 u (sg_mem hu) q]
    exact ⟨rfl, rfl⟩
theorem TR_word {b : Nat → Nat} {f e : Nat} (hl : ltr b f (e - f)) : TR (wco b f e 11) 1 (wv b f (e - f)) := by
  have sp : ∀ i, i < 11 → (wv b f (e - f) = wk i ↔ spl b f e i) := fun i hi => wv_iff hl hi
  have hc := wco_spec (b := b) (f := f) (e := e) 11 (Nat.le_refl _)
  have key : wco b f e 11 = -2 ∨ ∃ j, j < 11 ∧ wco b f e 11 = wcd j := hc.elim (fun q => Or.inl q.1) (fun ⟨j, h1, _, h3⟩ => Or.inr ⟨j, h1, h3⟩)
  refine ⟨fun i hi => ⟨fun q => ?_, fun q => ⟨rfl, ?_⟩⟩, fun u hu => ⟨fun q => absurd q.1 (by decide), fun q => ?_⟩, ⟨fun q => absurd q (by decide), fun q => ?_⟩, fun q => absurd q (by decide), ⟨fun q => absurd q (by decide), fun q => ?_⟩⟩
  · have hs := (sp i hi).mp q.2
    rcases hc with ⟨_, h2⟩ | ⟨j, h1, h2, h3⟩
    · exact absurd hs (h2 i (by omega) hi)
    · have e1 : wk i = wk j := q.2.symm.trans ((sp j h1).mpr h2)
      have e2 : i = j := (wk_of hi).2.2.1 j h1 ((pk_lEQ (wk_of hi).2.1 (wk_of h1).2.1).mp e1)
      rw [h3, e2]
  · rcases hc with ⟨h1, _⟩ | ⟨j, h1, h2, h3⟩
    · rw [h1] at q
      exact absurd q.symm (wk_of hi).2.2.2.2.1
    · rw [h3] at q
      have e2 : j = i := (wk_of h1).2.2.2.1 i hi q
      rw [← e2]
      exact (sp j h1).mpr h2
  · obtain ⟨a1, a2, a3, a4, a5⟩ := sg_ok u (sg_mem hu)
    rcases key with h | ⟨j, h1, h⟩
    · rw [h] at q; exact absurd q.symm a2
    · rw [h] at q; exact absurd q (a5 j (List.mem_range.mpr h1))
  · rcases key with h | ⟨j, h1, h⟩
    · rw [h] at q; exact absurd (by decide) q
    · rw [h] at q; exact absurd (wk_of h1).2.2.2.2.2.2 q
  · rcases key with h | ⟨j, h1, h⟩
    · rw [h] at q; exact absurd q (by decide)
    · rw [h] at q; exact absurd q (wk_of h1).2.2.2.2.2.1
theorem am_seq {I : am_I} {q j : Nat} {v : Int32} : am_up I q j v q j = v := by rw [am_up_fup, fup_self]
theorem am_sne {I : am_I} {q j i : Nat} {v : Int32} (h : i ≠ j) : am_up I q j v q i = I q i := by rw [am_up_fup, fup_ne h]
/-- the text that is read: n bytes b, the text x -/
def rT (I : am_I) (x n : Nat) (b : Nat → Nat) : Prop := x < 6 ∧ I 88 17 = nI (160 * x) ∧ I 88 18 = nI n ∧ ∀ j, j < n → I 89 (160 * x + j) = nI (b j)
theorem r_byteAt {E : am_E} (zi : am_inj E) {k n x : Nat} {b : Nat → Nat} (zt : wft n b) {I : am_I} (zT : rT I x n b) (w : Int64) {i : Nat} (hi : i < 1000) : am_Ret E k Y_MO_byteAt [.ref 88, .int (nI i)] I w (am_eq (some (.int (tat n b i))) I w) := by
  refine am_intro (pv_MO_byteAt E k) (by decide) zi ?_ rfl rfl ?_
  · rintro _ _ _ ⟨rfl, -⟩; rfl
  intro S hS
  have h16 := zt.1
  obtain ⟨h6, t1, t2, t3⟩ := zT
  refine am_at hS (fun _ => false) 60 0 ?_
  refine ⟨fun h5 => ?_, fun h5 => ?_⟩
  · rw [t2, nlt (by omega) (by omega)] at h5
    refine ⟨by rw [t1, nI_add]; exact vp_in_nI (by omega) (by omega), ?_⟩
    rw [t1, nI_add, nI_clamp (by omega), t3 i h5, tat_in h5]
    exact ⟨rfl, rfl, rfl⟩
  · rw [t2, nlt (by omega) (by omega)] at h5
    rw [tat_out (by omega)]
    exact ⟨rfl, rfl, rfl⟩
theorem inl_L {n : Nat} {b : Nat → Nat} (zt : wft n b) {i : Nat} : inl (tat n b i).toInt64 97 122 = isL n b i := by
  rw [inl_r]
  unfold isL
  rw [show (97 : Int64).toInt = 97 from rfl, show (122 : Int64).toInt = 122 from rfl, Bool.decide_and]
  by_cases h : i < n
  · have := zt.2 i h
    rw [tat_in h, nI_toInt (by omega), decide_eq_true h, Bool.true_and, Bool.decide_and]
    congr 1 <;> apply decide_eq_decide.mpr <;> omega
  · rw [tat_out (by omega), decide_eq_false h, Bool.false_and, show (-1 : Int32).toInt = -1 from rfl]
    rfl
theorem inl_D {n : Nat} {b : Nat → Nat} (zt : wft n b) {i : Nat} : inl (tat n b i).toInt64 48 57 = isD n b i := by
  rw [inl_r]
  unfold isD
  rw [show (48 : Int64).toInt = 48 from rfl, show (57 : Int64).toInt = 57 from rfl, Bool.decide_and]
  by_cases h : i < n
  · have := zt.2 i h
    rw [tat_in h, nI_toInt (by omega), decide_eq_true h, Bool.true_and, Bool.decide_and]
    congr 1 <;> apply decide_eq_decide.mpr <;> omega
  · rw [tat_out (by omega), decide_eq_false h, Bool.false_and, show (-1 : Int32).toInt = -1 from rfl]
    rfl
