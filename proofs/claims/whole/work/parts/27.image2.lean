/-! the class's image, back 2 -/
def KC (I : am_I) : Option (St × Nat) → Prop
  | none => I 0 4 = 0
  | some (s, r) => I 0 4 = 1 ∧ I 0 5 = nI r ∧ cP (I 4 0) (I 5) (I 6) s ∧ cF (I 15 0) (I 16) (I 17) (I 18) (I 19) (I 20) (I 21) s
/-- what is kept fits what there is -/
def wfk (σ : St) (T : Nat) : Option (St × Nat) → Prop
  | none => True
  | some (s, r) => wf s ∧ sN s ≤ sN σ ∧ r < T
theorem KC_of {I J : am_I} {kp : Option (St × Nat)} (h : ∀ q, q ∈ [4, 5, 6, 15, 16, 17, 18, 19, 20, 21] → J q = I q) (h4 : J 0 4 = I 0 4) (h5 : J 0 5 = I 0 5) (zK : KC I kp) : KC J kp := by
  cases kp with
  | none => exact h4.trans zK
  | some x =>
    show J 0 4 = 1 ∧ J 0 5 = nI x.2 ∧ cP (J 4 0) (J 5) (J 6) x.1 ∧ cF (J 15 0) (J 16) (J 17) (J 18) (J 19) (J 20) (J 21) x.1
    rw [h 4 (by decide), h 5 (by decide), h 6 (by decide), h 15 (by decide), h 16 (by decide), h 17 (by decide), h 18 (by decide), h 19 (by decide), h 20 (by decide), h 21 (by decide), h4, h5]
    exact zK
theorem c_image {E : am_E} (zi : am_inj E) {k : Nat} (hk : 3 ≤ k) {σ : St} (zw : wf σ) {I : am_I} (zC : CS I σ) (w : Int64) {r : Nat} (hr : I 25 3 = nI r) :
    am_Ret E k Y_TC_image [.ref 0] I w (fun q I' w' => q = some (.int (nI (sM σ))) ∧ w' = w ∧ KC I' (some (σ, r)) ∧ am_fs 0 [4, 5] [4, 5, 6, 15, 16, 17, 18, 19, 20, 21] I I') := by
  refine am_intro (pv_TC_image E k) (by decide) zi ?_ rfl rfl ?_
  · rintro _ _ _ ⟨rfl, -⟩; rfl
  intro S hS
  have h9 := zw.1
  have h36 := sM_le zw
  refine am_at hS (fun _ => false) 60 0 ?_
  refine ⟨_, _, (by omega : k - 1 < k), r_becomeP zi (by omega) w h9 zC.1.1, am_elim ?_⟩
  refine ⟨_, _, (by omega : k - 1 < k), r_becomeF15 zi (by omega) _ w, am_elim ?_⟩
  refine ⟨Or.inr rfl, ?_⟩
  have a1 : ∀ q, q ∉ [4, 5, 6] → am_up (cpy2 I 2 5 3 6 (sN σ)) 4 0 (nI (sN σ)) q = I q := fun q hq => by
    simp only [List.mem_cons, List.not_mem_nil, or_false] at hq
    rw [am_up_ne (by omega), cpy2_ne (by omega) (by omega)]
  have a2 : ∀ q, q ∉ [4, 5, 6, 15, 16, 17, 18, 19, 20, 21] → fc6 (am_up (cpy2 I 2 5 3 6 (sN σ)) 4 0 (nI (sN σ))) 7 15 q = I q := fun q hq => by
    simp only [List.mem_cons, List.not_mem_nil, or_false] at hq
    rw [fc6_ne (by omega), a1 q (by simp only [List.mem_cons, List.not_mem_nil, or_false]; omega)]
  have a3 : ∀ q, q = 4 ∨ q = 5 ∨ q = 6 → fc6 (am_up (cpy2 I 2 5 3 6 (sN σ)) 4 0 (nI (sN σ))) 7 15 q = am_up (cpy2 I 2 5 3 6 (sN σ)) 4 0 (nI (sN σ)) q := fun q hq => fc6_ne (by omega)
  have e0 : am_up (am_up (fc6 (am_up (cpy2 I 2 5 3 6 (sN σ)) 4 0 (nI (sN σ))) 7 15) 0 5 (fc6 (am_up (cpy2 I 2 5 3 6 (sN σ)) 4 0 (nI (sN σ))) 7 15 25 3)) 0 4 1 7 0 = nI (sM σ) := by
    rw [am_up_ne (by decide), am_up_ne (by decide), a2 7 (by decide)]; exact zC.2.1
  refine ⟨congrArg (fun z => some (Value.int z)) e0, rfl, ⟨?_, ?_, ?_, ?_⟩, ?_⟩
  · rw [am_up_fup, fup_self]
  · rw [am_up_fup, fup_ne (by decide), am_up_fup, fup_self, a2 25 (by decide)]; exact hr
  · rw [am_up_ne (by decide), am_up_ne (by decide), am_up_ne (by decide), am_up_ne (by decide), am_up_ne (by decide), am_up_ne (by decide), a3 4 (by decide), a3 5 (by decide), a3 6 (by decide)]
    refine ⟨?_, fun p hp => ?_⟩
    · rw [am_up_fup, fup_self]
    · rw [am_up_ne (by decide), am_up_ne (by decide), cpy2_1 (by decide), cpy2_2 (by decide) (by decide), if_pos hp, if_pos hp]
      exact zC.1.2 p hp
  · have hf := cF_fcp (fc6_fcp (I := am_up (cpy2 I 2 5 3 6 (sN σ)) 4 0 (nI (sN σ))) (s := 7) (d := 15) (by decide)) h36 (σ := σ) (by
      show cF (am_up (cpy2 I 2 5 3 6 (sN σ)) 4 0 (nI (sN σ)) 7 0) (am_up (cpy2 I 2 5 3 6 (sN σ)) 4 0 (nI (sN σ)) 8) (am_up (cpy2 I 2 5 3 6 (sN σ)) 4 0 (nI (sN σ)) 9) (am_up (cpy2 I 2 5 3 6 (sN σ)) 4 0 (nI (sN σ)) 10) (am_up (cpy2 I 2 5 3 6 (sN σ)) 4 0 (nI (sN σ)) 11) (am_up (cpy2 I 2 5 3 6 (sN σ)) 4 0 (nI (sN σ)) 12) (am_up (cpy2 I 2 5 3 6 (sN σ)) 4 0 (nI (sN σ)) 13) σ
      rw [a1 7 (by decide), a1 8 (by decide), a1 9 (by decide), a1 10 (by decide), a1 11 (by decide), a1 12 (by decide), a1 13 (by decide)]
      exact zC.2)
    simp only [am_up_ne (show (15 : Nat) ≠ 0 by decide), am_up_ne (show (16 : Nat) ≠ 0 by decide), am_up_ne (show (17 : Nat) ≠ 0 by decide), am_up_ne (show (18 : Nat) ≠ 0 by decide), am_up_ne (show (19 : Nat) ≠ 0 by decide), am_up_ne (show (20 : Nat) ≠ 0 by decide), am_up_ne (show (21 : Nat) ≠ 0 by decide)]
    exact hf
  · refine ⟨fun q h1 h2 => ?_, fun j hj => ?_⟩
    · rw [am_up_ne h2, am_up_ne h2, a2 q h1]
    · simp only [List.mem_cons, List.not_mem_nil, or_false] at hj
      rw [am_up_fup, fup_ne (by omega), am_up_fup, fup_ne (by omega), a2 0 (by decide)]
def sBack (σ s : St) : St := ((sN σ, sM s), (sL s, sG s), (sS s, sT s, sK s), (fun p => if p < sN s then sP s p else sP σ p, fun p => if p < sN s then sD s p else sD σ p))
theorem wf_back {σ s : St} (zw : wf σ) (zs : wf s) (h : sN s ≤ sN σ) : wf (sBack σ s) := by
  refine ⟨zw.1, ⟨fun f hf => ?_, zs.2.1.2.1, zs.2.1.2.2.1, zs.2.1.2.2.2⟩, fun p hp => ?_⟩
  · have := zs.2.1.1 f hf
    refine ⟨this.1, ?_⟩
    show sG s f < sN σ
    omega
  · show inb (if p < sN s then sP s p else sP σ p) 100 = true ∧ ((if p < sN s then sD s p else sD σ p) = -1 ∨ (if p < sN s then sD s p else sD σ p) = 0 ∨ (if p < sN s then sD s p else sD σ p) = 1)
    by_cases q : p < sN s
    · rw [if_pos q, if_pos q]; exact zs.2.2 p q
    · rw [if_neg q, if_neg q]; exact zw.2.2 p hp
def aBack (σ : St) (r : Nat) : Option (St × Nat) → Int32 × St × Nat
  | none => (-3, σ, r)
  | some (s, r') => (nI (sM s), sBack σ s, r')
theorem LC_set {I J : am_I} {T r r' : Nat} {V : Tx} (h : ∀ q, 30 ≤ q → q < 42 → J q = I q) (h2 : J 25 2 = I 25 2) (h3 : J 25 3 = nI r') (hr : r' < T) (zL : LC I T r V) : LC J T r' V := by
  obtain ⟨l1, l2, l3, l4, l5⟩ := zL
  refine ⟨h2.trans l1, h3, l3, hr, fun x hx => ?_⟩
  obtain ⟨n, m, t⟩ := l5 x hx
  refine ⟨n, m, ?_⟩
  rw [h (30 + 2 * x) (by omega) (by omega), h (31 + 2 * x) (by omega) (by omega)]
  exact t
theorem c_back {E : am_E} (zi : am_inj E) {k : Nat} (hk : 3 ≤ k) {σ : St} (zw : wf σ) {I : am_I} (zC : CS I σ) (w : Int64) {T r : Nat} {V : Tx} (zL : LC I T r V) {kp : Option (St × Nat)} (zK : KC I kp) (zk : wfk σ T kp) :
    am_Ret E k Y_TC_back [.ref 0] I w (fun q I' w' => q = some (.int (aBack σ r kp).1) ∧ w' = w ∧ CS I' (aBack σ r kp).2.1 ∧ LC I' T (aBack σ r kp).2.2 V ∧ am_fs 25 [3] [2, 3, 7, 8, 9, 10, 11, 12, 13] I I') := by
  refine am_intro (pv_TC_back E k) (by decide) zi ?_ rfl rfl ?_
  · rintro _ _ _ ⟨rfl, -⟩; rfl
  intro S hS
  have h9 := zw.1
  refine am_at hS (fun _ => false) 60 0 ?_
  cases kp with
  | none => exact ⟨fun _ => ⟨rfl, rfl, zC, zL, am_fs.refl⟩, fun q => absurd zK q⟩
  | some x =>
    obtain ⟨s, r'⟩ := x
    obtain ⟨k1, k2, k3, k4⟩ := zK
    obtain ⟨zs, hNs, hr⟩ := zk
    have h36 := sM_le zs
    refine ⟨fun q => absurd (show I 0 4 = 0 from q) (by rw [k1]; decide), fun _ => ?_⟩
    refine ⟨_, _, (by omega : k - 1 < k), r_takeBack1 zi (by omega) w (show sN s ≤ 9 from zs.1) k3.1, am_elim ?_⟩
    refine ⟨_, _, (by omega : k - 1 < k), r_becomeF7 zi (by omega) _ w, am_elim ?_⟩
    have a2 : ∀ q, q ∉ [2, 3, 7, 8, 9, 10, 11, 12, 13] → fc6 (cpy2 I 5 2 6 3 (sN s)) 15 7 q = I q := fun q hq => by
      simp only [List.mem_cons, List.not_mem_nil, or_false] at hq
      rw [fc6_ne (by omega), cpy2_ne (by omega) (by omega)]
    have e5 : fc6 (cpy2 I 5 2 6 3 (sN s)) 15 7 0 5 = nI r' := by rw [a2 0 (by decide)]; exact k2
    have hfc := cF_fcp (fc6_fcp (I := cpy2 I 5 2 6 3 (sN s)) (s := 15) (d := 7) (by decide)) h36 (σ := s) (by
      show cF (cpy2 I 5 2 6 3 (sN s) 15 0) (cpy2 I 5 2 6 3 (sN s) 16) (cpy2 I 5 2 6 3 (sN s) 17) (cpy2 I 5 2 6 3 (sN s) 18) (cpy2 I 5 2 6 3 (sN s) 19) (cpy2 I 5 2 6 3 (sN s) 20) (cpy2 I 5 2 6 3 (sN s) 21) s
      rw [cpy2_ne (by decide) (by decide), cpy2_ne (by decide) (by decide), cpy2_ne (by decide) (by decide), cpy2_ne (by decide) (by decide), cpy2_ne (by decide) (by decide), cpy2_ne (by decide) (by decide), cpy2_ne (by decide) (by decide)]
      exact k4)
    have hfr : am_fs 25 [3] [2, 3, 7, 8, 9, 10, 11, 12, 13] I (am_up (fc6 (cpy2 I 5 2 6 3 (sN s)) 15 7) 25 3 (fc6 (cpy2 I 5 2 6 3 (sN s)) 15 7 0 5)) := by
      refine ⟨fun q h1 h2 => ?_, fun j hj => ?_⟩
      · rw [am_up_ne h2, a2 q h1]
      · simp only [List.mem_cons, List.not_mem_nil, or_false] at hj
        rw [am_up_fup, fup_ne hj, a2 25 (by decide)]
    have hu : ∀ q, q ≠ 25 → am_up (fc6 (cpy2 I 5 2 6 3 (sN s)) 15 7) 25 3 (fc6 (cpy2 I 5 2 6 3 (sN s)) 15 7 0 5) q = fc6 (cpy2 I 5 2 6 3 (sN s)) 15 7 q := fun q hq => am_up_ne hq
    refine ⟨?_, rfl, ⟨⟨?_, fun p hp => ?_⟩, ?_⟩, LC_set (fun q h1 h2 => ?_) ?_ ?_ hr zL, hfr⟩
    · show some (Value.int (am_up _ 25 3 _ 7 0)) = _
      rw [hu 7 (by decide)]
      exact congrArg (fun z => some (Value.int z)) hfc.1
    · rw [hu 1 (by decide), a2 1 (by decide)]; exact zC.1.1
    · rw [hu 2 (by decide), hu 3 (by decide), fc6_ne (by decide), fc6_ne (by decide), cpy2_1 (by decide), cpy2_2 (by decide) (by decide)]
      show (if p < sN s then I 5 p else I 2 p) = (if p < sN s then sP s p else sP σ p) ∧ (if p < sN s then I 6 p else I 3 p) = (if p < sN s then sD s p else sD σ p)
      by_cases q : p < sN s
      · rw [if_pos q, if_pos q, if_pos q, if_pos q]; exact k3.2 p q
      · rw [if_neg q, if_neg q, if_neg q, if_neg q]; exact zC.1.2 p hp
    · rw [hu 7 (by decide), hu 8 (by decide), hu 9 (by decide), hu 10 (by decide), hu 11 (by decide), hu 12 (by decide), hu 13 (by decide)]
      exact hfc
    · rw [hu q (by omega), a2 q (by simp only [List.mem_cons, List.not_mem_nil, or_false]; omega)]
    · exact hfr.2 2 (by decide)
    · rw [am_up_fup, fup_self]; exact e5

