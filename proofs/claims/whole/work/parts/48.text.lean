/-! the class's text -/
theorem tb_1 {I : am_I} {a n : Nat} (h0 : I 45 1 = nI n) {v : Int32} : am_up (am_up I a 1 (I 45 1)) a 2 v a 1 = nI n := by rw [am_up_fup, fup_ne (by decide), am_up_fup, fup_self, h0]
def txB (I : am_I) (x n : Nat) : am_I := am_cpI (am_up (am_up I (30 + 2 * x) 1 (I 45 1)) (30 + 2 * x) 2 (I 45 2)) 46 (31 + 2 * x) 0 0 n
theorem r_tBecome {E : am_E} (zi : am_inj E) {k : Nat} (hk : 1 ≤ k) {I : am_I} (w : Int64) {x n : Nat} (hx : x < 6) (hn : n ≤ 160) (h0 : I 45 1 = nI n) : am_Ret E k Y_Text_become [.ref (am_el 3 x), .ref 45] I w (am_eq none (txB I x n) w) := by
  have hx2 : x = 0 ∨ x = 1 ∨ x = 2 ∨ x = 3 ∨ x = 4 ∨ x = 5 := by omega
  rcases hx2 with rfl | rfl | rfl | rfl | rfl | rfl
  all_goals
    refine am_intro (pv_Text_become E k) (by decide) zi ?_ rfl rfl ?_
    · rintro _ _ _ ⟨rfl, -⟩; trivial
    intro S hS
    refine am_at hS (fun _ => false) 60 0 ?_
    refine ⟨by omega, by decide, by decide, ?_, ?_, ?_, ?_⟩
    · rw [tb_1 h0]; exact nI_pos (by omega)
    · rw [tb_1 h0, nI_clamp (by omega)]; show 0 + n ≤ 160; omega
    · rw [tb_1 h0, nI_clamp (by omega)]; show 0 + n ≤ 160; omega
    · rw [tb_1 h0, nI_clamp (by omega), am_up_ne (k := _) (j := 1) (show (45 : Nat) ≠ _ by decide)]
      exact ⟨rfl, rfl, rfl⟩
theorem runF_lay {e f : Nat → Int32} {a : Nat} : ∀ (c : List Int32) (m : Nat), (∀ (j : Nat) (v : Int32), c[j]? = some v → f (a + m + j) = v) → runF e f a (m + c.length) = runL e c (runF e f a m)
  | [], m, _ => rfl
  | t :: c, m, h => by
    have h0 : f (a + m) = t := h 0 t rfl
    have ih := runF_lay (e := e) (f := f) (a := a) c (m + 1) (fun j v hj => by
      have := h (j + 1) v hj
      rw [show a + (m + 1) + j = a + m + (j + 1) by omega]
      exact this)
    rw [List.length_cons, show m + (c.length + 1) = m + 1 + c.length by omega, ih, runF, h0]
    rfl
theorem runF_1 {e f : Nat → Int32} {c d : List Int32} (h : lay f (c ++ d)) : runF e f 0 c.length = runL e c [] := by
  have := runF_lay (e := e) (f := f) (a := 0) c 0 (fun j v hj => by
    rw [show 0 + 0 + j = j by omega]
    refine h j v ?_
    rw [List.getElem?_append_left (by rw [List.getElem?_eq_some_iff] at hj; exact hj.1)]
    exact hj)
  rw [Nat.zero_add] at this
  exact this
theorem runF_2 {e f : Nat → Int32} {c d : List Int32} (h : lay f (c ++ d)) : runF e f c.length d.length = runL e d [] := by
  have := runF_lay (e := e) (f := f) (a := c.length) d 0 (fun j v hj => by
    refine h _ v ?_
    rw [List.getElem?_append_right (by omega), show c.length + 0 + j - c.length = j by omega]
    exact hj)
  rw [Nat.zero_add] at this
  exact this
/-- its answer; how many TEXTS, what they are worth, how long THE TAPE is then -/
noncomputable def aText (n : Nat) (b : Nat → Nat) (T : Nat) (V : Tx) : Int32 × Nat × Tx × Nat := if T < 6 then cond (ptx (tkc n b)).1.1 (nI T, T + 1, fup V T (ptx (tkc n b)).2.2, 0) (-100 - nI (tpl n b (ptx (tkc n b)).1.2), T, V, 0) else (-4, T, V, n)
def cText : List Nat := [23, 25, 30, 31, 32, 33, 34, 35, 36, 37, 38, 39, 40, 41, 42, 43, 44, 45, 46]
theorem txB_ne {I : am_I} {x n q : Nat} (h1 : q ≠ 30 + 2 * x) (h2 : q ≠ 31 + 2 * x) : txB I x n q = I q := by
  unfold txB
  rw [am_cpI_ne h2, am_up_ne h1, am_up_ne h1]
theorem r_lawAdd {E : am_E} (zi : am_inj E) {k : Nat} (hk : 2 ≤ k) {I : am_I} (w : Int64) {T n : Nat} (hT : T < 6) (hn : n ≤ 160) (h0 : I 45 1 = nI n) (h2 : I 25 2 = nI T) : am_Ret E k Y_Law_add [.ref 25, .ref 45] I w (am_eq (some (.int (nI T))) (am_up (txB I T n) 25 2 (nI (T + 1))) w) := by
  refine am_intro (pv_Law_add E k) (by decide) zi ?_ rfl rfl ?_
  · rintro _ _ _ ⟨rfl, -⟩; rfl
  intro S hS
  have e25 : txB I T n 25 2 = nI T := by rw [txB_ne (by omega) (by omega)]; exact h2
  refine am_at hS (fun _ => false) 60 0 ?_
  refine ⟨by rw [h2]; exact vp_in_nI (by omega) (by omega), ?_⟩
  rw [h2, nI_clamp (by omega)]
  have hx2 : T = 0 ∨ T = 1 ∨ T = 2 ∨ T = 3 ∨ T = 4 ∨ T = 5 := by omega
  have cb := r_tBecome zi (k := k - 1) (by omega) (I := I) w hT hn h0
  have fin : am_up (txB I T n) 25 2 (txB I T n 25 2 + 1) 25 2 - 1 = nI T := by
    rw [am_up_fup, fup_self, e25, nI_1, nI_pred]
  have fin2 : txB I T n 25 2 + 1 = nI (T + 1) := by rw [e25, nI_1]
  rcases hx2 with rfl | rfl | rfl | rfl | rfl | rfl
  all_goals
    refine ⟨_, _, (by omega : k - 1 < k), cb, am_elim ?_⟩
    exact ⟨congrArg (fun z => some (Value.int z)) fin, by rw [fin2], rfl⟩
theorem c_text {E : am_E} (zi : am_inj E) {k n : Nat} (hk : 52 ≤ k) {b : Nat → Nat} (zt : wft n b) {I : am_I} (zT : tC I n b) (w : Int64) {T r : Nat} {V : Tx} (zL : LC I T r V) :
    am_Ret E k Y_TC_text [.ref 0] I w (fun q I' w' => q = some (.int (aText n b T V).1) ∧ w' = w ∧ LC I' (aText n b T V).2.1 r (aText n b T V).2.2.1 ∧ tC I' (aText n b T V).2.2.2 b ∧ am_fr cText I I') := by
  refine am_intro (pv_TC_text E k) (by decide) zi ?_ rfl rfl ?_
  · rintro _ _ _ ⟨rfl, -⟩; rfl
  intro S hS
  obtain ⟨l1, l2, l3, l4, l5⟩ := zL
  obtain ⟨L, hfs⟩ := fsL_ex zt
  have hL160 : L ≤ 160 := Nat.le_trans (fsL_le zt hfs) zt.1
  obtain ⟨px1, px2⟩ := ptx_G (T := tkc n b) hfs.1
  unfold aText at hS
  refine am_at hS (fun _ => false) 80 0 ?_
  by_cases hT : T < 6
  · rw [if_pos hT]
    refine ⟨fun _ => ?_, fun q => absurd (show I 25 2 < nI 6 by rw [l1]; exact nI_lt hT (by decide)) q⟩
    refine ⟨_, _, (by omega : k - 1 < k), r_isText zi (by omega) zt zT w hfs, ?_⟩
    rintro _ I1 w1 ⟨rfl, rfl, f1, e42, e44, hok⟩
    have g1 : am_fr cText I I1 := fun q hq => f1.1 q (fun z => hq ((by decide : ∀ q, q ∈ [42, 43, 44, 46] → q ∈ cText) q z)) (fun z => hq (by rw [z]; decide))
    have keep : ∀ q, q ∉ [42, 43, 44, 45, 46] → I1 q = I q := fun q hq => f1.1 q (fun z => hq ((by decide : ∀ q, q ∈ [42, 43, 44, 46] → q ∈ [42, 43, 44, 45, 46]) q z)) (fun z => hq (by rw [z]; decide))
    cases hx : (ptx (tkc n b)).1.1 with
    | false =>
      refine ⟨fun _ => ?_, fun q => absurd rfl q⟩
      refine ⟨_, _, (by omega : k - 1 < k), r_place zi w1 (Nat.le_trans px1 hL160) e42, am_elim ?_⟩
      refine ⟨?_, rfl, ?_, ?_, ?_⟩
      · rw [e44 _ px1]; rfl
      · refine ⟨?_, ?_, l3, l4, fun x hx => ?_⟩
        · rw [am_up_ne (by decide), keep 25 (by decide)]; exact l1
        · rw [am_up_ne (by decide), keep 25 (by decide)]; exact l2
        · have hx9 : x < T := hx
          obtain ⟨m, h, t1, t2, t3, t4, t5⟩ := l5 x hx9
          have k1 : 30 + 2 * x ∉ [42, 43, 44, 45, 46] := by simp only [List.mem_cons, List.not_mem_nil, or_false]; omega
          have k2 : 31 + 2 * x ∉ [42, 43, 44, 45, 46] := by simp only [List.mem_cons, List.not_mem_nil, or_false]; omega
          rw [am_up_ne (show 30 + 2 * x ≠ 23 by omega), am_up_ne (show 31 + 2 * x ≠ 23 by omega), keep _ k1, keep _ k2]
          exact ⟨m, h, t1, t2, t3, t4, t5⟩
      · exact ⟨by rw [am_up_fup, fup_self]; rfl, fun i hi => absurd hi (by show ¬ i < 0; omega)⟩
      · exact am_fr.up g1 (by decide)
    | true =>
      obtain ⟨h1, h2, h3⟩ := hok hx
      obtain ⟨p1, p2⟩ := px2 hx
      refine ⟨fun q => absurd q (by decide), fun _ => ?_⟩
      refine ⟨_, _, (by omega : k - 1 < k), r_lawAdd zi (by omega) w1 hT (by omega) h1 (by rw [keep 25 (by decide)]; exact l1), am_elim ?_⟩
      obtain ⟨m, em⟩ : ∃ m, m = (ptx (tkc n b)).2.1.1.length + (ptx (tkc n b)).2.1.2.length := ⟨_, rfl⟩
      rw [← em]
      rw [← em] at h1
      refine ⟨rfl, rfl, ?_, ?_, ?_⟩
      · refine ⟨?_, ?_, hT, Nat.lt_succ_of_lt l4, fun x hx => ?_⟩
        · rw [am_up_ne (by decide), am_up_fup, fup_self]
          rfl
        · rw [am_up_ne (by decide), am_up_fup, fup_ne (by decide), txB_ne (by omega) (by omega), keep 25 (by decide)]; exact l2
        · have hx9 : x < T + 1 := hx
          rw [am_up_ne (show 30 + 2 * x ≠ 23 by omega), am_up_ne (show 30 + 2 * x ≠ 25 by omega), am_up_ne (show 31 + 2 * x ≠ 23 by omega), am_up_ne (show 31 + 2 * x ≠ 25 by omega)]
          by_cases ex : x = T
          · subst ex
            have eV : (cond true (nI x, x + 1, fup V x (ptx (tkc n b)).2.2, 0) (-100 - nI (tpl n b (ptx (tkc n b)).1.2), x, V, 0)).2.2.1 x = (ptx (tkc n b)).2.2 := fup_self
            rw [eV]
            have z1 : txB I1 x m (30 + 2 * x) 1 = nI m := by
              unfold txB
              rw [am_cpI_ne (by omega), am_up_fup, fup_ne (by decide), am_up_fup, fup_self]; exact h1
            have z2 : txB I1 x m (30 + 2 * x) 2 = nI (ptx (tkc n b)).2.1.1.length := by
              unfold txB
              rw [am_cpI_ne (by omega), am_up_fup, fup_self]; exact h2
            have z3 : lay (txB I1 x m (31 + 2 * x)) ((ptx (tkc n b)).2.1.1 ++ (ptx (tkc n b)).2.1.2) := by
              intro j v hj
              have hlt : j < m := by
                have := (List.getElem?_eq_some_iff.mp hj).1
                rw [List.length_append] at this
                omega
              have : txB I1 x m (31 + 2 * x) j = I1 46 j := by
                unfold txB
                rw [cp_at hlt, am_up_ne (by omega), am_up_ne (by omega)]
              rw [this]
              exact h3 j v hj
            refine ⟨m, (ptx (tkc n b)).2.1.1.length, z1, z2, by omega, by omega, fun e => ?_⟩
            rw [show m - (ptx (tkc n b)).2.1.1.length = (ptx (tkc n b)).2.1.2.length by omega, runF_1 z3, runF_2 z3, (p2 e []).1, (p2 e []).2]
            exact ⟨rfl, rfl⟩
          · have eV : (cond true (nI T, T + 1, fup V T (ptx (tkc n b)).2.2, 0) (-100 - nI (tpl n b (ptx (tkc n b)).1.2), T, V, 0)).2.2.1 x = V x := fup_ne ex
            rw [eV]
            have hx' : x < T + 1 := hx
            obtain ⟨m', h, t1, t2, t3, t4, t5⟩ := l5 x (by omega)
            have k1 : 30 + 2 * x ∉ [42, 43, 44, 45, 46] := by simp only [List.mem_cons, List.not_mem_nil, or_false]; omega
            have k2 : 31 + 2 * x ∉ [42, 43, 44, 45, 46] := by simp only [List.mem_cons, List.not_mem_nil, or_false]; omega
            rw [txB_ne (by omega) (by omega), txB_ne (by omega) (by omega), keep _ k1, keep _ k2]
            exact ⟨m', h, t1, t2, t3, t4, t5⟩
      · exact ⟨by rw [am_up_fup, fup_self]; rfl, fun i hi => absurd hi (by show ¬ i < 0; omega)⟩
      · refine am_fr.up (am_fr.up (fun q hq => ?_) (by decide)) (by decide)
        have k0 : ∀ q, q ∉ cText → q ≠ 30 + 2 * T ∧ q ≠ 31 + 2 * T := by
          intro q hq
          unfold cText at hq
          simp only [List.mem_cons, List.not_mem_nil, or_false, not_or] at hq
          omega
        rw [txB_ne (k0 q hq).1 (k0 q hq).2]
        exact g1 q hq
  · rw [if_neg hT]
    refine ⟨fun q => absurd q (by show ¬ I 25 2 < nI 6; rw [l1]; exact nI_nlt (by omega) (by omega)), fun _ => ?_⟩
    exact ⟨rfl, rfl, ⟨l1, l2, l3, l4, l5⟩, zT, am_fr.refl⟩
