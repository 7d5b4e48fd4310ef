/-! the reference reads: its small steps -/
theorem cmp_eq {x y : Int64} : (lg_cmp x y = 0) = (x = y) := by
  unfold lg_cmp
  apply propext
  constructor
  · intro h
    split at h
    · exact absurd h (by decide)
    · split at h
      · assumption
      · exact absurd h (by decide)
  · intro h
    rw [if_neg (by rw [h, gt_iff_lt, Int64.lt_iff_toInt_lt]; omega), if_pos h]
def eM (I : am_I) (a : Nat) : Nat → Int32
  | 0 => I 97 a
  | 1 => bi (decide (I 96 a < 0))
  | 2 => I 98 a
  | 3 => I 99 a
  | 4 => I 94 a
  | _ => I 95 a
theorem eM_fs {I J : am_I} {js l : List Nat} (h : am_fs 88 js l I J) (hl : ∀ q, 94 ≤ q → q ≤ 99 → q ∉ l) (a : Nat) : eM J a = eM I a := by
  funext z
  unfold eM
  rw [h.1 94 (hl 94 (by decide) (by decide)) (by decide), h.1 95 (hl 95 (by decide) (by decide)) (by decide), h.1 96 (hl 96 (by decide) (by decide)) (by decide), h.1 97 (hl 97 (by decide) (by decide)) (by decide), h.1 98 (hl 98 (by decide) (by decide)) (by decide), h.1 99 (hl 99 (by decide) (by decide)) (by decide)]
/-- the reference looks at the i-th TOKEN, o are open, about a (e) -/
def rS (n : Nat) (b : Nat → Nat) (L x a : Nat) (e : Nat → Int32) (i o : Nat) (I : am_I) (w : Int64) : Prop := (wft n b ∧ fsL n b L ∧ rT I x n b ∧ i ≤ L) ∧ (I 88 24 = 0 ∧ TR (tkc n b i) (I 88 19) w ∧ I 88 20 = nI (tpl n b i) ∧ (i < L → I 88 22 = nI (tps n b (i + 1))) ∧ I 88 23 = nI o) ∧ (a < 36 ∧ I 88 26 = nI a ∧ e = eM I a)
def rB (n : Nat) (b : Nat → Nat) (i : Nat) (I : am_I) : Prop := I 88 24 = 1 ∧ I 88 25 = nI (tpl n b i)
theorem r_isWord {E : am_E} (zi : am_inj E) {k : Nat} (I : am_I) (w v : Int64) : am_Ret E k Y_MO_isWord [.ref 88, .long v] I w (am_eq (some (.int (bi (decide (I 88 24 = 0) && (decide (I 88 19 = 1) && decide (w = v)))))) I w) := by
  refine am_intro (pv_MO_isWord E k) (by decide) zi ?_ rfl rfl ?_
  · rintro _ _ _ ⟨rfl, -⟩; exact bi_nr _
  intro S hS
  refine am_at hS (fun _ => false) 60 0 ?_
  refine ⟨fun h4 => ?_, fun h4 => ?_⟩
  · rw [decide_eq_true h4, Bool.true_and]
    refine ⟨fun h12 => ?_, fun h12 => ?_⟩
    · rw [decide_eq_true h12, Bool.true_and]
      refine ⟨fun h21 => ?_, fun h21 => ?_⟩
      · rw [cmp_eq] at h21
        rw [decide_eq_true h21]
        exact ⟨rfl, rfl, rfl⟩
      · rw [cmp_eq] at h21
        rw [decide_eq_false h21]
        exact ⟨rfl, rfl, rfl⟩
    · rw [decide_eq_false h12, Bool.false_and]
      exact ⟨rfl, rfl, rfl⟩
  · rw [decide_eq_false h4, Bool.false_and]
    exact ⟨rfl, rfl, rfl⟩
theorem r_isSign {E : am_E} (zi : am_inj E) {k : Nat} (I : am_I) (w : Int64) (v : Int32) : am_Ret E k Y_MO_isSign [.ref 88, .int v] I w (am_eq (some (.int (bi (decide (I 88 24 = 0) && (decide (I 88 19 = 3) && decide (w = v.toInt64)))))) I w) := by
  refine am_intro (pv_MO_isSign E k) (by decide) zi ?_ rfl rfl ?_
  · rintro _ _ _ ⟨rfl, -⟩; exact bi_nr _
  intro S hS
  refine am_at hS (fun _ => false) 60 0 ?_
  refine ⟨fun h4 => ?_, fun h4 => ?_⟩
  · rw [decide_eq_true h4, Bool.true_and]
    refine ⟨fun h12 => ?_, fun h12 => ?_⟩
    · rw [decide_eq_true h12, Bool.true_and]
      refine ⟨fun h21 => ?_, fun h21 => ?_⟩
      · rw [cmp_eq] at h21
        rw [decide_eq_true h21]
        exact ⟨rfl, rfl, rfl⟩
      · rw [cmp_eq] at h21
        rw [decide_eq_false h21]
        exact ⟨rfl, rfl, rfl⟩
    · rw [decide_eq_false h12, Bool.false_and]
      exact ⟨rfl, rfl, rfl⟩
  · rw [decide_eq_false h4, Bool.false_and]
    exact ⟨rfl, rfl, rfl⟩
theorem r_fail0 {E : am_E} (zi : am_inj E) {k : Nat} (I : am_I) (w : Int64) (h : I 88 24 = 0) : am_Ret E k Y_MO_fail [.ref 88] I w (am_eq none (am_up (am_up I 88 24 1) 88 25 (I 88 20)) w) := by
  refine am_intro (pv_MO_fail E k) (by decide) zi ?_ rfl rfl ?_
  · rintro _ _ _ ⟨rfl, -⟩; trivial
  intro S hS
  refine am_at hS (fun _ => false) 60 0 ?_
  refine ⟨fun _ => ?_, fun q => absurd h q⟩
  refine ⟨Or.inr rfl, ?_⟩
  exact ⟨rfl, by rw [am_sne (show (20 : Nat) ≠ 24 by decide)], rfl⟩
theorem r_fail1 {E : am_E} (zi : am_inj E) {k : Nat} (I : am_I) (w : Int64) (h : I 88 24 = 1) : am_Ret E k Y_MO_fail [.ref 88] I w (am_eq none I w) := by
  refine am_intro (pv_MO_fail E k) (by decide) zi ?_ rfl rfl ?_
  · rintro _ _ _ ⟨rfl, -⟩; trivial
  intro S hS
  refine am_at hS (fun _ => false) 60 0 ?_
  exact ⟨fun q => absurd (h.symm.trans q) (by decide), fun _ => ⟨rfl, rfl, rfl⟩⟩
theorem r_isWb {E : am_E} (zi : am_inj E) {k : Nat} {I : am_I} (w v : Int64) (h : I 88 24 = 1) : am_Ret E k Y_MO_isWord [.ref 88, .long v] I w (am_eq (some (.int 0)) I w) := by
  have := r_isWord zi (k := k) I w v
  rw [h, decide_eq_false (show ¬ (1 : Int32) = 0 by decide), Bool.false_and] at this
  exact this
theorem r_isSb {E : am_E} (zi : am_inj E) {k : Nat} {I : am_I} (w : Int64) (v : Int32) (h : I 88 24 = 1) : am_Ret E k Y_MO_isSign [.ref 88, .int v] I w (am_eq (some (.int 0)) I w) := by
  have := r_isSign zi (k := k) I w v
  rw [h, decide_eq_false (show ¬ (1 : Int32) = 0 by decide), Bool.false_and] at this
  exact this
section RS1
variable {n : Nat} {b : Nat → Nat} {L x a : Nat} {e : Nat → Int32} {i o : Nat} {I : am_I} {w : Int64}
theorem r_isW {E : am_E} (zi : am_inj E) {k : Nat} (h : rS n b L x a e i o I w) {j : Nat} (hj : j < 11) : am_Ret E k Y_MO_isWord [.ref 88, .long (wk j)] I w (am_eq (some (.int (bi (tkc n b i == wcd j)))) I w) := by
  have h1 := r_isWord zi (k := k) I w (wk j)
  have h2 := h.2.1.2.1.1 j hj
  rw [decide_eq_true h.2.1.1, Bool.true_and, ← Bool.decide_and, decide_eq_decide.mpr h2] at h1
  rw [show (tkc n b i == wcd j) = decide (tkc n b i = wcd j) from rfl]
  exact h1
theorem r_isS {E : am_E} (zi : am_inj E) {k : Nat} (h : rS n b L x a e i o I w) {s : Nat} (hs : sgB s = true) : am_Ret E k Y_MO_isSign [.ref 88, .int (nI s)] I w (am_eq (some (.int (bi (tkc n b i == -(nI s))))) I w) := by
  have h1 := r_isSign zi (k := k) I w (nI s)
  have h2 := h.2.1.2.1.2.1 s hs
  have hb : s < 2 ^ 31 := by have := sg_mem hs; simp only [List.mem_cons, List.not_mem_nil, or_false] at this; omega
  rw [nI_l hb, decide_eq_true h.2.1.1, Bool.true_and, ← Bool.decide_and, decide_eq_decide.mpr h2] at h1
  rw [show (tkc n b i == -(nI s)) = decide (tkc n b i = -(nI s)) from rfl]
  exact h1
theorem rS_not (h : rS n b L x a e i o I w) (hs : ¬ stp (tkc n b i)) : i < L := by
  apply Classical.byContradiction
  intro q
  have h1 := h.1.2.2.2
  have e1 : i = L := by omega
  rw [e1] at hs
  exact hs h.1.2.1.1
theorem r_nextS {E : am_E} (zi : am_inj E) {k : Nat} (hk : 1 ≤ k) (h : rS n b L x a e i o I w) (hi : i < L) : am_Ret E k Y_MO_next [.ref 88] I w (fun q I' w' => q = none ∧ am_fs 88 [19, 20, 22] [] I I' ∧ rS n b L x a e (i + 1) o I' w') := by
  obtain ⟨⟨zt, hf, hr, _⟩, ⟨h1, h2, h3, h4, h5⟩, h6, h7, h8⟩ := h
  obtain ⟨t1, t2, t3⟩ := tps_le zt (i + 1) (fun j hj => hf.2 j (by omega))
  refine am_Ret.imp (r_next zi hk zt hr w t2 (h4 hi)) ?_
  rintro q I' w' ⟨rfl, f1, f2, f3, f4⟩
  refine ⟨rfl, f1, ⟨zt, hf, rT_fs f1 (by decide) (by decide) (by decide) hr, hi⟩, ⟨by rw [f1.2 24 (by decide)]; exact h1, f3, f2, fun hl => f4 (hf.2 _ hl), by rw [f1.2 23 (by decide)]; exact h5⟩, h6, by rw [f1.2 26 (by decide)]; exact h7, ?_⟩
  rw [h8]
  exact (eM_fs f1 (fun _ _ _ => List.not_mem_nil) a).symm
theorem rS_o (h : rS n b L x a e i o I w) (p : Nat) : rS n b L x a e i p (am_up I 88 23 (nI p)) w := by
  obtain ⟨⟨zt, hf, hr, hi⟩, ⟨h1, h2, h3, h4, h5⟩, h6, h7, h8⟩ := h
  have fr : am_fs 88 [23] [] I (am_up I 88 23 (nI p)) := am_fs.upo am_fs.refl (by decide)
  refine ⟨⟨zt, hf, rT_fs fr (by decide) (by decide) (by decide) hr, hi⟩, ⟨by rw [am_sne (by decide)]; exact h1, by rw [am_sne (by decide)]; exact h2, by rw [am_sne (by decide)]; exact h3, fun hl => by rw [am_sne (by decide)]; exact h4 hl, am_seq⟩, h6, by rw [am_sne (by decide)]; exact h7, ?_⟩
  rw [h8]
  exact (eM_fs fr (fun _ _ _ => List.not_mem_nil) a).symm
theorem rB_fail (h : rS n b L x a e i o I w) : rB n b i (am_up (am_up I 88 24 1) 88 25 (I 88 20)) := ⟨by rw [am_sne (by decide), am_seq], by rw [am_seq]; exact h.2.1.2.2.1⟩
theorem fl_fs : am_fs 88 [19, 20, 22, 23, 24, 25] [] I (am_up (am_up I 88 24 1) 88 25 (I 88 20)) := am_fs.upo (am_fs.upo am_fs.refl (by decide)) (by decide)
theorem r_opens5 {E : am_E} (zi : am_inj E) {k : Nat} (hk : 2 ≤ k) (h : rS n b L x a e i 5 I w) : am_Ret E k Y_MO_opens [.ref 88] I w (am_eq (some (.int 0)) (am_up (am_up I 88 24 1) 88 25 (I 88 20)) w) := by
  refine am_intro (pv_MO_opens E k) (by decide) zi ?_ rfl rfl ?_
  · rintro _ _ _ ⟨rfl, -⟩; rfl
  intro S hS
  refine am_at hS (fun _ => false) 60 0 ?_
  refine ⟨fun _ => ?_, fun q => absurd h.2.1.2.2.2.2 q⟩
  refine ⟨_, _, (by omega : k - 1 < k), r_fail0 zi I w h.2.1.1, am_elim ?_⟩
  exact ⟨rfl, rfl, rfl⟩
theorem r_opensO {E : am_E} (zi : am_inj E) {k : Nat} (hk : 2 ≤ k) (h : rS n b L x a e i o I w) (ho : o < 5) (hi : i < L) : am_Ret E k Y_MO_opens [.ref 88] I w (fun q I' w' => q = some (.int 1) ∧ am_fs 88 [19, 20, 22, 23, 24, 25] [] I I' ∧ rS n b L x a e (i + 1) (o + 1) I' w') := by
  refine am_intro (pv_MO_opens E k) (by decide) zi ?_ rfl rfl ?_
  · rintro _ _ _ ⟨rfl, -⟩; rfl
  intro S hS
  have ho5 := h.2.1.2.2.2.2
  have h2 := rS_o h (o + 1)
  have ea : I 88 23 + 1 = nI (o + 1) := by rw [ho5, nI_1]
  refine am_at hS (fun _ => false) 60 0 ?_
  refine ⟨fun q => absurd q (by show ¬ I 88 23 = nI 5; rw [ho5, neq (by omega) (by decide)]; omega), fun _ => ?_⟩
  refine ⟨_, _, (by omega : k - 1 < k), (by rw [ea]; exact r_nextS zi (by omega) h2 hi), ?_⟩
  rintro _ I1 w1 ⟨rfl, f1, h3⟩
  have fr : am_fs 88 [19, 20, 22, 23, 24, 25] [] I (am_up I 88 23 (nI (o + 1))) := am_fs.upo am_fs.refl (by decide)
  exact ⟨rfl, fr.trans (f1.mono (by decide) (by decide)), h3⟩
theorem isn_wcd {c : Int32} (h : isn c = true) (hc : ∃ j, j < 11 ∧ c = wcd j) : ∃ j, 5 ≤ j ∧ j < 11 ∧ c = wcd j := by
  obtain ⟨j, hj, rfl⟩ := hc
  refine ⟨j, ?_, hj, rfl⟩
  apply Classical.byContradiction
  intro q
  have h5 : j < 5 := by omega
  have h1 : (List.range 5).all (fun j => isn (wcd j) == false) = true := by decide +kernel
  have h2 := List.all_eq_true.mp h1 j (List.mem_range.mpr h5)
  rw [beq_iff_eq] at h2
  rw [h2] at h
  cases h
theorem isn_is {c : Int32} (h : isn c = true) : c = -9 ∨ c = -10 ∨ c = -11 ∨ c = -12 ∨ c = -13 ∨ c = -14 := by
  unfold isn at h
  simp only [Bool.and_eq_true, Bool.not_eq_true', decide_eq_false_iff_not] at h
  obtain ⟨h1, h2⟩ := h
  rw [i_lt] at h1 h2
  have e1 : (-9 : Int32).toInt = -9 := by decide
  have e2 : (-14 : Int32).toInt = -14 := by decide
  have e3 : c.toInt = -9 ∨ c.toInt = -10 ∨ c.toInt = -11 ∨ c.toInt = -12 ∨ c.toInt = -13 ∨ c.toInt = -14 := by omega
  rcases e3 with q | q | q | q | q | q
  · exact Or.inl (Int32.toInt_inj.mp (q.trans (by decide)))
  · exact Or.inr (Or.inl (Int32.toInt_inj.mp (q.trans (by decide))))
  · exact Or.inr (Or.inr (Or.inl (Int32.toInt_inj.mp (q.trans (by decide)))))
  · exact Or.inr (Or.inr (Or.inr (Or.inl (Int32.toInt_inj.mp (q.trans (by decide))))))
  · exact Or.inr (Or.inr (Or.inr (Or.inr (Or.inl (Int32.toInt_inj.mp (q.trans (by decide)))))))
  · exact Or.inr (Or.inr (Or.inr (Or.inr (Or.inr (Int32.toInt_inj.mp (q.trans (by decide)))))))
theorem r_nameY {E : am_E} (zi : am_inj E) {k : Nat} (hk : 2 ≤ k) (h : rS n b L x a e i o I w) (hn : isn (tkc n b i) = true) : am_Ret E k Y_MO_name [.ref 88] I w (am_eq (some (.int (nam e (tkc n b i)))) I w) := by
  refine am_intro (pv_MO_name E k) (by decide) zi ?_ rfl rfl ?_
  · rintro _ _ _ ⟨rfl, -⟩; rfl
  intro S hS
  obtain ⟨-, -, ha, h26, he⟩ := id h
  have bd : vp_in (I 88 26) 36 := by rw [h26]; exact vp_in_nI ha (by decide)
  have cl : (I 88 26).toNatClampNeg = a := by rw [h26]; exact nI_clamp (by omega)
  have q := fun j (hj : j < 11) => r_isW zi (k := k - 1) h hj
  have hc := isn_is hn
  rw [he] at hS
  refine am_at hS (fun _ => false) 160 0 ?_
  refine ⟨_, _, (by omega : k - 1 < k), q 5 (by decide), am_elim ?_⟩
  refine ⟨fun h => ?_, fun h => ?_⟩
  · rw [bi_eq0, beq_eq_false_iff_ne] at h
    have c1 : ¬ tkc n b i = -9 := h
    refine ⟨_, _, (by omega : k - 1 < k), q 6 (by decide), am_elim ?_⟩
    refine ⟨fun h => ?_, fun h => ?_⟩
    · rw [bi_eq0, beq_eq_false_iff_ne] at h
      have c2 : ¬ tkc n b i = -10 := h
      refine ⟨_, _, (by omega : k - 1 < k), q 7 (by decide), am_elim ?_⟩
      refine ⟨fun h => ?_, fun h => ?_⟩
      · rw [bi_eq0, beq_eq_false_iff_ne] at h
        have c3 : ¬ tkc n b i = -11 := h
        refine ⟨_, _, (by omega : k - 1 < k), q 8 (by decide), am_elim ?_⟩
        refine ⟨fun h => ?_, fun h => ?_⟩
        · rw [bi_eq0, beq_eq_false_iff_ne] at h
          have c4 : ¬ tkc n b i = -12 := h
          refine ⟨_, _, (by omega : k - 1 < k), q 9 (by decide), am_elim ?_⟩
          refine ⟨fun h => ?_, fun h => ?_⟩
          · rw [bi_eq0, beq_eq_false_iff_ne] at h
            have c5 : ¬ tkc n b i = -13 := h
            have c6 : tkc n b i = -14 := by
              rcases hc with z | z | z | z | z | z
              · exact absurd z c1
              · exact absurd z c2
              · exact absurd z c3
              · exact absurd z c4
              · exact absurd z c5
              · exact z
            refine ⟨_, _, (by omega : k - 1 < k), q 10 (by decide), am_elim ?_⟩
            refine ⟨fun h => ?_, fun h => ?_⟩
            · rw [bi_eq0, beq_eq_false_iff_ne] at h
              exact absurd c6 h
            · refine ⟨bd, ?_⟩
              rw [cl, c6]
              exact ⟨rfl, rfl, rfl⟩
          · rw [bi_eq0, Bool.not_eq_false, beq_iff_eq] at h
            refine ⟨bd, ?_⟩
            rw [cl, h]
            exact ⟨rfl, rfl, rfl⟩
        · rw [bi_eq0, Bool.not_eq_false, beq_iff_eq] at h
          refine ⟨bd, ?_⟩
          rw [cl, h]
          exact ⟨rfl, rfl, rfl⟩
      · rw [bi_eq0, Bool.not_eq_false, beq_iff_eq] at h
        refine ⟨bd, ?_⟩
        rw [cl, h]
        exact ⟨rfl, rfl, rfl⟩
    · rw [bi_eq0, Bool.not_eq_false, beq_iff_eq] at h
      refine ⟨bd, ?_⟩
      rw [cl, h]
      refine ⟨fun z => ⟨?_, rfl, rfl⟩, fun z => ⟨?_, rfl, rfl⟩⟩
      · show some (Value.int 1) = some (.int (bi (decide (I 96 a < 0))))
        rw [decide_eq_true z]
        rfl
      · show some (Value.int 0) = some (.int (bi (decide (I 96 a < 0))))
        rw [decide_eq_false z]
        rfl
  · rw [bi_eq0, Bool.not_eq_false, beq_iff_eq] at h
    refine ⟨bd, ?_⟩
    rw [cl, h]
    exact ⟨rfl, rfl, rfl⟩
theorem r_nameN {E : am_E} (zi : am_inj E) {k : Nat} (hk : 2 ≤ k) (h : rS n b L x a e i o I w) (hn : isn (tkc n b i) = false) : am_Ret E k Y_MO_name [.ref 88] I w (am_eq (some (.int 0)) (am_up (am_up I 88 24 1) 88 25 (I 88 20)) w) := by
  refine am_intro (pv_MO_name E k) (by decide) zi ?_ rfl rfl ?_
  · rintro _ _ _ ⟨rfl, -⟩; rfl
  intro S hS
  have q := fun j (hj : j < 11) => r_isW zi (k := k - 1) h hj
  have z : ∀ j, 5 ≤ j → j < 11 → (tkc n b i == wcd j) = false := fun j h5 hj => beq_eq_false_iff_ne.mpr (fun e1 => by
    rw [e1] at hn
    have h1 : (List.range 11).all (fun j => decide (j < 5) || isn (wcd j)) = true := by decide +kernel
    have h2 := List.all_eq_true.mp h1 j (List.mem_range.mpr hj)
    rw [decide_eq_false (by omega), hn] at h2
    cases h2)
  refine am_at hS (fun _ => false) 160 0 ?_
  refine ⟨_, _, (by omega : k - 1 < k), q 5 (by decide), am_elim ?_⟩
  rw [z 5 (by decide) (by decide)]
  refine ⟨fun _ => ?_, fun q => absurd rfl q⟩
  refine ⟨_, _, (by omega : k - 1 < k), q 6 (by decide), am_elim ?_⟩
  rw [z 6 (by decide) (by decide)]
  refine ⟨fun _ => ?_, fun q => absurd rfl q⟩
  refine ⟨_, _, (by omega : k - 1 < k), q 7 (by decide), am_elim ?_⟩
  rw [z 7 (by decide) (by decide)]
  refine ⟨fun _ => ?_, fun q => absurd rfl q⟩
  refine ⟨_, _, (by omega : k - 1 < k), q 8 (by decide), am_elim ?_⟩
  rw [z 8 (by decide) (by decide)]
  refine ⟨fun _ => ?_, fun q => absurd rfl q⟩
  refine ⟨_, _, (by omega : k - 1 < k), q 9 (by decide), am_elim ?_⟩
  rw [z 9 (by decide) (by decide)]
  refine ⟨fun _ => ?_, fun q => absurd rfl q⟩
  refine ⟨_, _, (by omega : k - 1 < k), q 10 (by decide), am_elim ?_⟩
  rw [z 10 (by decide) (by decide)]
  refine ⟨fun _ => ?_, fun q => absurd rfl q⟩
  refine ⟨_, _, (by omega : k - 1 < k), r_fail0 zi I w h.2.1.1, am_elim ?_⟩
  exact ⟨rfl, rfl, rfl⟩
end RS1
