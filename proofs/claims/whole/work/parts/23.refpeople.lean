/-! the reference's person, set, feel, between, step, ends, threes need these -/
theorem RS_of {I J : am_I} {σ : St} (h : ∀ q, q ∈ [92, 93, 94, 95, 96, 97, 98, 99] → J q = I q) (h9 : J 88 9 = I 88 9) (h16 : J 88 16 = I 88 16) (zR : RS I σ) : RS J σ := by
  unfold RS
  rw [h 92 (by decide), h 93 (by decide), h 94 (by decide), h 95 (by decide), h 96 (by decide), h 97 (by decide), h 98 (by decide), h 99 (by decide), h9, h16]
  exact zR
theorem inl_r (x : Int32) (a c : Int64) : inl x.toInt64 a c = (decide (a.toInt ≤ x.toInt) && decide (x.toInt ≤ c.toInt)) := by
  unfold inl
  rw [i2l_toInt]
theorem inl_99 (x : Int32) : inl x.toInt64 0 99 = inb x 100 := by
  rw [inl_r]
  unfold inb
  rw [show (0 : Int64).toInt = 0 from rfl, show (99 : Int64).toInt = 99 from rfl]
  congr 1
  apply decide_eq_decide.mpr
  omega
theorem inl_3 (x : Int32) : inl x.toInt64 0 3 = inb x 4 := by
  rw [inl_r]
  unfold inb
  rw [show (0 : Int64).toInt = 0 from rfl, show (3 : Int64).toInt = 3 from rfl]
  congr 1
  apply decide_eq_decide.mpr
  omega
theorem inl_20 (x : Int32) : inl x.toInt64 0 20 = inb x 21 := by
  rw [inl_r]
  unfold inb
  rw [show (0 : Int64).toInt = 0 from rfl, show (20 : Int64).toInt = 20 from rfl]
  congr 1
  apply decide_eq_decide.mpr
  omega
theorem inl_st (t : Int32) : inl t.toInt64 1 99 = ist t := by
  rw [inl_r]
  unfold ist
  rw [show (1 : Int64).toInt = 1 from rfl, show (99 : Int64).toInt = 99 from rfl, ← decide_not, ← decide_not]
  have e1 : (1 : Int32).toInt = 1 := rfl
  have e2 : (99 : Int32).toInt = 99 := rfl
  congr 1 <;> apply decide_eq_decide.mpr <;> rw [i_lt] <;> omega
theorem i32_eq {x y : Int32} : x = y ↔ x.toInt = y.toInt := ⟨fun h => by rw [h], fun h => Int32.toInt_inj.mp h⟩
theorem inl_01 (u : Int32) : inl u.toInt64 0 1 = (decide (u = 0) || decide (u = 1)) := by
  rw [inl_r, show (0 : Int64).toInt = 0 from rfl, show (1 : Int64).toInt = 1 from rfl, ← Bool.decide_and, ← Bool.decide_or]
  apply decide_eq_decide.mpr
  rw [i32_eq, i32_eq, show (0 : Int32).toInt = 0 from rfl, show (1 : Int32).toInt = 1 from rfl]
  omega
theorem inl_m1 (v : Int32) : inl v.toInt64 (-1) 1 = isl v := by
  unfold isl
  rw [inl_r, show (-1 : Int64).toInt = -1 from rfl, show (1 : Int64).toInt = 1 from rfl, ← Bool.decide_and, ← Bool.decide_or, ← Bool.decide_or]
  apply decide_eq_decide.mpr
  rw [i32_eq, i32_eq, i32_eq, show (0 : Int32).toInt = 0 from rfl, show (1 : Int32).toInt = 1 from rfl, show (-1 : Int32).toInt = -1 from rfl]
  omega
theorem m_person {E : am_E} (zi : am_inj E) {k : Nat} (hk : 1 ≤ k) {σ : St} (zw : wf σ) {I : am_I} (zR : RS I σ) (w : Int64) (v : Int32) :
    am_Ret E k Y_MO_person [.ref 88, .int v] I w (fun q I' w' => q = some (.int (aPerson σ v).1) ∧ w' = w ∧ RS I' (aPerson σ v).2 ∧ am_fs 88 [9] [92, 93] I I') := by
  refine am_intro (pv_MO_person E k) (by decide) zi ?_ rfl rfl ?_
  · rintro _ _ _ ⟨rfl, -⟩; rfl
  intro S hS
  have h9 := zw.1
  have c1 := zR.1.1
  unfold aPerson at hS
  refine am_at hS (fun _ => false) 90 0 ?_
  refine ⟨_, _, (by omega : k - 1 < k), r_in zi I w _ _ _, am_elim ?_⟩
  rw [inl_99]
  refine ⟨fun h4 => ?_, fun h4 => ?_⟩
  · rw [bi_eq0] at h4
    rw [h4]
    exact ⟨rfl, rfl, zR, am_fs.refl⟩
  · rw [bi_eq0, Bool.not_eq_false] at h4
    rw [h4]
    by_cases h : sN σ < 9
    · rw [decide_eq_true h]
      refine ⟨fun q => absurd q (by show ¬ I 88 9 = nI 9; rw [c1, neq (by omega) (by omega)]; omega), fun _ => ?_⟩
      have bd : vp_in (I 88 9) 9 := by rw [c1]; exact vp_in_nI h (by omega)
      refine ⟨bd, ?_⟩
      refine ⟨bd, ?_⟩
      rw [c1, nI_clamp (by omega)]
      rw [show am_up I 92 (sN σ) v 88 9 = nI (sN σ) by rw [am_up_ne (by decide)]; exact c1, nI_clamp (by omega)]
      have e1 : am_up (am_up (am_up I 92 (sN σ) v) 93 (sN σ) (-1)) 88 9 (am_up (am_up I 92 (sN σ) v) 93 (sN σ) (-1) 88 9 + 1) 88 9 = nI (sN σ + 1) := by
        rw [am_up_fup, fup_self, am_up_ne (by decide), am_up_ne (by decide), c1]
        exact nI_1 _
      have hfr : am_fs 88 [9] [92, 93] I (am_up (am_up (am_up I 92 (sN σ) v) 93 (sN σ) (-1)) 88 9 (am_up (am_up I 92 (sN σ) v) 93 (sN σ) (-1) 88 9 + 1)) := am_fs.upo (am_fs.up (am_fs.up am_fs.refl (by decide) (by decide)) (by decide) (by decide)) (by decide)
      refine ⟨?_, rfl, ⟨⟨e1, fun p hp => ?_⟩, ?_, ?_⟩, hfr⟩
      · rw [e1]
        exact congrArg (fun z => some (Value.int z)) (nI_pred _)
      · have hp1 : p < sN σ + 1 := hp
        rw [am_up_ne (by decide), am_up_ne (by decide), am_up_fup, am_up_ne (by decide), am_up_fup, am_up_ne (by decide)]
        show fup (I 92) (sN σ) v p = fup (sP σ) (sN σ) v p ∧ fup (I 93) (sN σ) (-1) p = fup (sD σ) (sN σ) (-1) p
        by_cases e : p = sN σ
        · rw [e]; simp only [fup_self]; exact ⟨trivial, trivial⟩
        · simp only [fup_ne e]; exact zR.1.2 p (by omega)
      · rw [hfr.2 16 (by decide)]; exact zR.2.1
      · rw [hfr.1 94 (by decide) (by decide), hfr.1 95 (by decide) (by decide), hfr.1 96 (by decide) (by decide), hfr.1 97 (by decide) (by decide), hfr.1 98 (by decide) (by decide), hfr.1 99 (by decide) (by decide)]
        exact zR.2.2
    · rw [decide_eq_false h]
      refine ⟨fun _ => ⟨rfl, rfl, zR, am_fs.refl⟩, fun q => absurd (show I 88 9 = nI 9 by rw [c1, show sN σ = 9 by omega]) q⟩
theorem RS_pp {I J : am_I} {σ : St} {P D : Nat → Int32} (h : ∀ q, q ∈ [94, 95, 96, 97, 98, 99] → J q = I q) (h9 : J 88 9 = I 88 9) (h16 : J 88 16 = I 88 16) (hp : ∀ p, p < sN σ → J 92 p = P p ∧ J 93 p = D p) (zR : RS I σ) : RS J (sPP σ P D) := by
  refine ⟨⟨h9.trans zR.1.1, hp⟩, h16.trans zR.2.1, ?_⟩
  rw [h 94 (by decide), h 95 (by decide), h 96 (by decide), h 97 (by decide), h 98 (by decide), h 99 (by decide)]
  exact zR.2.2
theorem m_set {E : am_E} (zi : am_inj E) {k : Nat} (hk : 2 ≤ k) {σ : St} (zw : wf σ) {I : am_I} (zR : RS I σ) (w : Int64) (u x v : Int32) :
    am_Ret E k Y_MO_set [.ref 88, .int u, .int x, .int v] I w (fun q I' w' => q = some (.int (aSet σ u x v).1) ∧ w' = w ∧ RS I' (aSet σ u x v).2 ∧ am_fs 88 [] [92, 93] I I') := by
  refine am_intro (pv_MO_set E k) (by decide) zi ?_ rfl rfl ?_
  · rintro _ _ _ ⟨rfl, -⟩; rfl
  intro S hS
  have h9 := zw.1
  have c1 := zR.1.1
  have nos : inb x (sN σ) = false ∨ ((decide (u = 0) && inb v 100) = false ∧ (decide (u = 1) && isl v) = false) → some (Value.int (-5)) = some (.int (aSet σ u x v).1) ∧ w = w ∧ RS I (aSet σ u x v).2 ∧ am_fs 88 [] [92, 93] I I := fun h => by
    unfold aSet
    rcases h with q | ⟨q1, q2⟩
    · rw [q]; exact ⟨rfl, rfl, zR, am_fs.refl⟩
    · rw [q1, q2]
      cases inb x (sN σ) <;> exact ⟨rfl, rfl, zR, am_fs.refl⟩
  refine am_at hS (fun t => false) 120 0 ?_
  refine ⟨_, _, (by omega : k - 1 < k), r_in zi I w _ _ _, am_elim ?_⟩
  rw [inl_01]
  refine ⟨fun h7 => ?_, fun h7 => ?_⟩
  · rw [bi_eq0, Bool.or_eq_false_iff] at h7
    exact nos (Or.inr ⟨by rw [h7.1]; rfl, by rw [h7.2]; rfl⟩)
  · rw [bi_eq0, Bool.not_eq_false, Bool.or_eq_true, decide_eq_true_eq, decide_eq_true_eq] at h7
    refine ⟨_, _, (by omega : k - 1 < k), r_isPerson zi I w (by omega) (by omega) c1 x, am_elim ?_⟩
    refine ⟨fun h15 => ?_, fun h15 => ?_⟩
    · rw [bi_eq0] at h15
      exact nos (Or.inl h15)
    · rw [bi_eq0, Bool.not_eq_false] at h15
      obtain ⟨p, hp, rfl⟩ := inb_of h15 (by omega)
      have bd : vp_in (nI p) 9 := vp_in_nI (by omega) (by omega)
      refine ⟨fun h21 => ?_, fun h21 => ?_⟩
      · refine ⟨fun _ => ?_, fun q => absurd h21 q⟩
        refine ⟨_, _, (by omega : k - 1 < k), r_in zi I w _ _ _, am_elim ?_⟩
        rw [inl_99]
        refine ⟨fun h45 => ?_, fun h45 => ?_⟩
        · rw [bi_eq0] at h45
          exact nos (Or.inr ⟨by rw [h45]; exact Bool.and_false _, by rw [h21]; rfl⟩)
        · rw [bi_eq0, Bool.not_eq_false] at h45
          refine ⟨fun _ => ?_, fun q => absurd h21 q⟩
          refine ⟨bd, ?_⟩
          refine ⟨fun _ => ?_, fun q => absurd h21 q⟩
          refine ⟨bd, ?_⟩
          unfold aSet
          rw [nI_clamp (by omega), h15, h45, decide_eq_true h21, (zR.1.2 p hp).1]
          refine ⟨rfl, rfl, RS_pp (fun q hq => am_up_ne (by rintro rfl; exact absurd hq (by decide))) (by rw [am_up_ne (by decide)]) (by rw [am_up_ne (by decide)]) (fun g hg => ?_) zR, am_fs.up am_fs.refl (by decide) (by decide)⟩
          rw [am_up_fup, am_up_ne (by decide)]
          refine ⟨?_, (zR.1.2 g hg).2⟩
          by_cases e : g = p
          · rw [e, fup_self, fup_self]
          · rw [fup_ne e, fup_ne e]; exact (zR.1.2 g hg).1
      · have h1 : u = 1 := h7.resolve_left h21
        refine ⟨fun q => absurd q h21, fun _ => ?_⟩
        refine ⟨_, _, (by omega : k - 1 < k), r_in zi I w _ _ _, am_elim ?_⟩
        rw [inl_m1]
        refine ⟨fun h45 => ?_, fun h45 => ?_⟩
        · rw [bi_eq0] at h45
          exact nos (Or.inr ⟨by rw [decide_eq_false h21]; rfl, by rw [h45]; exact Bool.and_false _⟩)
        · rw [bi_eq0, Bool.not_eq_false] at h45
          refine ⟨fun q => absurd q h21, fun _ => ?_⟩
          refine ⟨bd, ?_⟩
          refine ⟨fun q => absurd q h21, fun _ => ?_⟩
          refine ⟨bd, ?_⟩
          unfold aSet
          rw [nI_clamp (by omega), h15, h45, decide_eq_true h1, decide_eq_false h21, (zR.1.2 p hp).2]
          refine ⟨rfl, rfl, RS_pp (fun q hq => am_up_ne (by rintro rfl; exact absurd hq (by decide))) (by rw [am_up_ne (by decide)]) (by rw [am_up_ne (by decide)]) (fun g hg => ?_) zR, am_fs.up am_fs.refl (by decide) (by decide)⟩
          rw [am_up_ne (by decide), am_up_fup]
          refine ⟨(zR.1.2 g hg).1, ?_⟩
          by_cases e : g = p
          · rw [e, fup_self, fup_self]
          · rw [fup_ne e, fup_ne e]; exact (zR.1.2 g hg).2
theorem m_between {E : am_E} (zi : am_inj E) {k : Nat} (hk : 2 ≤ k) {σ : St} (zw : wf σ) {I : am_I} (zR : RS I σ) (w : Int64) (a b : Int32) :
    am_Ret E k Y_MO_between [.ref 88, .int a, .int b] I w (am_eq (some (.int (aBetween σ a b))) I w) := by
  refine am_intro (pv_MO_between E k) (by decide) zi ?_ rfl rfl ?_
  · rintro _ _ _ ⟨rfl, -⟩; rfl
  intro S hS
  have h9 := zw.1
  have c1 := zR.1.1
  unfold aBetween two at hS
  refine am_at hS (fun _ => false) 90 0 ?_
  refine ⟨_, _, (by omega : k - 1 < k), r_isPerson zi I w (by omega) (by omega) c1 a, am_elim ?_⟩
  refine ⟨fun h5 => ?_, fun h5 => ?_⟩
  · rw [bi_eq0] at h5
    rw [h5]
    exact ⟨rfl, rfl, rfl⟩
  rw [bi_eq0, Bool.not_eq_false] at h5
  refine ⟨_, _, (by omega : k - 1 < k), r_isPerson zi I w (by omega) (by omega) c1 b, am_elim ?_⟩
  refine ⟨fun h13 => ?_, fun h13 => ?_⟩
  · rw [bi_eq0] at h13
    rw [h5, h13]
    exact ⟨rfl, rfl, rfl⟩
  rw [bi_eq0, Bool.not_eq_false] at h13
  refine ⟨fun h18 => ?_, fun h18 => ?_⟩
  · rw [h5, h13, h18, show (b == b) = true from beq_self_eq_true b]
    exact ⟨rfl, rfl, rfl⟩
  rw [h5, h13, beq_eq_false_iff_ne.mpr h18]
  obtain ⟨x, hx, rfl⟩ := inb_of h5 (by omega)
  obtain ⟨y, hy, rfl⟩ := inb_of h13 (by omega)
  refine ⟨_, _, (by omega : k - 1 < k), r_of zi zw zR w (by omega) (by omega), am_elim ?_⟩
  rw [nI_clamp (by omega), nI_clamp (by omega)]
  exact ⟨rfl, rfl, rfl⟩

