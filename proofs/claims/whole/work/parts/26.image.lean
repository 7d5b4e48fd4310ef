/-! the class's image, back -/
def cpy2 (I : am_I) (s1 d1 s2 d2 n : Nat) : am_I := am_cpI (am_cpI I s1 d1 0 0 n) s2 d2 0 0 n
theorem r_takeBack4 {E : am_E} (zi : am_inj E) {k : Nat} (hk : 1 ≤ k) {I : am_I} (w : Int64) {n : Nat} (hn : n ≤ 9) (h0 : I 1 0 = nI n) :
    am_Ret E k Y_People_takeBack [.ref 4, .ref 1] I w (am_eq none (cpy2 I 2 5 3 6 n) w) := by
  refine am_intro (pv_People_takeBack E k) (by decide) zi ?_ rfl rfl ?_
  · rintro _ _ _ ⟨rfl, -⟩; trivial
  intro S hS
  refine am_at hS (fun _ => false) 60 0 ?_
  refine ⟨by omega, by decide, by decide, by rw [h0]; exact nI_pos (by omega), by rw [h0, nI_clamp (by omega)]; show 0 + n ≤ 9; omega, by rw [h0, nI_clamp (by omega)]; show 0 + n ≤ 9; omega, ?_⟩
  rw [h0, nI_clamp (by omega)]
  have h1 : am_cpI I 2 5 0 0 n 1 0 = nI n := by rw [am_cpI_ne (by decide)]; exact h0
  refine ⟨by omega, by decide, by decide, by exact h1 ▸ nI_pos (by omega), ?_, ?_, ?_⟩
  · show 0 + (am_cpI I 2 5 0 0 n 1 0).toNatClampNeg ≤ 9
    rw [h1, nI_clamp (by omega)]; omega
  · show 0 + (am_cpI I 2 5 0 0 n 1 0).toNatClampNeg ≤ 9
    rw [h1, nI_clamp (by omega)]; omega
  · refine ⟨rfl, ?_, rfl⟩
    show am_cpI (am_cpI I 2 5 0 0 n) 3 6 0 0 (am_cpI I 2 5 0 0 n 1 0).toNatClampNeg = _
    rw [h1, nI_clamp (by omega)]
    rfl
theorem r_takeBack1 {E : am_E} (zi : am_inj E) {k : Nat} (hk : 1 ≤ k) {I : am_I} (w : Int64) {n : Nat} (hn : n ≤ 9) (h0 : I 4 0 = nI n) :
    am_Ret E k Y_People_takeBack [.ref 1, .ref 4] I w (am_eq none (cpy2 I 5 2 6 3 n) w) := by
  refine am_intro (pv_People_takeBack E k) (by decide) zi ?_ rfl rfl ?_
  · rintro _ _ _ ⟨rfl, -⟩; trivial
  intro S hS
  refine am_at hS (fun _ => false) 60 0 ?_
  refine ⟨by omega, by decide, by decide, by rw [h0]; exact nI_pos (by omega), by rw [h0, nI_clamp (by omega)]; show 0 + n ≤ 9; omega, by rw [h0, nI_clamp (by omega)]; show 0 + n ≤ 9; omega, ?_⟩
  rw [h0, nI_clamp (by omega)]
  have h1 : am_cpI I 5 2 0 0 n 4 0 = nI n := by rw [am_cpI_ne (by decide)]; exact h0
  refine ⟨by omega, by decide, by decide, by exact h1 ▸ nI_pos (by omega), ?_, ?_, ?_⟩
  · show 0 + (am_cpI I 5 2 0 0 n 4 0).toNatClampNeg ≤ 9
    rw [h1, nI_clamp (by omega)]; omega
  · show 0 + (am_cpI I 5 2 0 0 n 4 0).toNatClampNeg ≤ 9
    rw [h1, nI_clamp (by omega)]; omega
  · refine ⟨rfl, ?_, rfl⟩
    show am_cpI (am_cpI I 5 2 0 0 n) 6 3 0 0 (am_cpI I 5 2 0 0 n 4 0).toNatClampNeg = _
    rw [h1, nI_clamp (by omega)]
    rfl
theorem cpy2_1 {I : am_I} {s1 d1 s2 d2 n : Nat} (h : d1 ≠ d2) {j : Nat} : cpy2 I s1 d1 s2 d2 n d1 j = if j < n then I s1 j else I d1 j := by
  unfold cpy2
  rw [am_cpI_ne h, am_cpI_self]
  by_cases hj : j < n
  · rw [if_pos hj, pk_cpy_in (Nat.zero_le _) (by omega), show 0 + (j - 0) = j by omega]
  · rw [if_neg hj, pk_cpy_out (by omega)]
theorem cpy2_2 {I : am_I} {s1 d1 s2 d2 n : Nat} (h : d2 ≠ d1) (h2 : s2 ≠ d1) {j : Nat} : cpy2 I s1 d1 s2 d2 n d2 j = if j < n then I s2 j else I d2 j := by
  unfold cpy2
  rw [am_cpI_self, am_cpI_ne h, am_cpI_ne h2]
  by_cases hj : j < n
  · rw [if_pos hj, pk_cpy_in (Nat.zero_le _) (by omega), show 0 + (j - 0) = j by omega]
  · rw [if_neg hj, pk_cpy_out (by omega)]
theorem cpy2_ne {I : am_I} {s1 d1 s2 d2 n q : Nat} (h1 : q ≠ d1) (h2 : q ≠ d2) : cpy2 I s1 d1 s2 d2 n q = I q := by
  unfold cpy2
  rw [am_cpI_ne h2, am_cpI_ne h1]
theorem r_becomeP {E : am_E} (zi : am_inj E) {k : Nat} (hk : 2 ≤ k) {I : am_I} (w : Int64) {n : Nat} (hn : n ≤ 9) (h0 : I 1 0 = nI n) :
    am_Ret E k Y_People_become [.ref 4, .ref 1] I w (am_eq none (am_up (cpy2 I 2 5 3 6 n) 4 0 (nI n)) w) := by
  refine am_intro (pv_People_become E k) (by decide) zi ?_ rfl rfl ?_
  · rintro _ _ _ ⟨rfl, -⟩; trivial
  intro S hS
  refine am_at hS (fun _ => false) 60 0 ?_
  refine ⟨_, _, (by omega : k - 1 < k), r_takeBack4 zi (by omega) w hn h0, am_elim ?_⟩
  refine ⟨rfl, ?_, rfl⟩
  rw [show cpy2 I 2 5 3 6 n 1 0 = nI n by rw [cpy2_ne (by decide) (by decide)]; exact h0]
/-- all FEELINGS copied -/
def fcp (I I' : am_I) (s d : Nat) : Prop := I' d 0 = I s 0 ∧ (∀ i j, 1 ≤ i → i ≤ 5 → j < 36 → I' (d + i) j = I (s + i) j) ∧ ∀ j, j < 81 → I' (d + 6) j = I (s + 6) j
theorem cF_fcp {I I' : am_I} {s d : Nat} {σ : St} (h : fcp I I' s d) (hM : sM σ ≤ 36) (zc : cF (I s 0) (I (s + 1)) (I (s + 2)) (I (s + 3)) (I (s + 4)) (I (s + 5)) (I (s + 6)) σ) : cF (I' d 0) (I' (d + 1)) (I' (d + 2)) (I' (d + 3)) (I' (d + 4)) (I' (d + 5)) (I' (d + 6)) σ := by
  obtain ⟨h0, h1, h2⟩ := h
  obtain ⟨c1, c2, c3⟩ := zc
  refine ⟨h0.trans c1, fun f hf => ?_, fun a b ha hb => ?_⟩
  · rw [h1 1 f (by omega) (by omega) (by omega), h1 2 f (by omega) (by omega) (by omega), h1 3 f (by omega) (by omega) (by omega), h1 4 f (by omega) (by omega) (by omega), h1 5 f (by omega) (by omega) (by omega)]
    exact c2 f hf
  · rw [h2 _ (by omega)]; exact c3 a b ha hb
def fc6 (I : am_I) (s d : Nat) : am_I := am_cpI (am_cpI (am_cpI (am_cpI (am_cpI (am_cpI (am_up I d 0 (I s 0)) (s + 1) (d + 1) 0 0 36) (s + 2) (d + 2) 0 0 36) (s + 3) (d + 3) 0 0 36) (s + 4) (d + 4) 0 0 36) (s + 5) (d + 5) 0 0 36) (s + 6) (d + 6) 0 0 81
theorem cp_at {I : am_I} {s d n j : Nat} (hj : j < n) : am_cpI I s d 0 0 n d j = I s j := by
  rw [am_cpI_self, pk_cpy_in (Nat.zero_le _) (by omega), show 0 + (j - 0) = j by omega]
theorem fc6_fcp {I : am_I} {s d : Nat} (h : s + 6 < d ∨ d + 6 < s) : fcp I (fc6 I s d) s d := by
  refine ⟨?_, fun i j h1 h5 hj => ?_, fun j hj => ?_⟩
  · unfold fc6
    rw [am_cpI_ne (by omega), am_cpI_ne (by omega), am_cpI_ne (by omega), am_cpI_ne (by omega), am_cpI_ne (by omega), am_cpI_ne (by omega), am_up_fup, fup_self]
  · unfold fc6
    have hi : i = 1 ∨ i = 2 ∨ i = 3 ∨ i = 4 ∨ i = 5 := by omega
    rcases hi with rfl | rfl | rfl | rfl | rfl
    · rw [am_cpI_ne (by omega), am_cpI_ne (by omega), am_cpI_ne (by omega), am_cpI_ne (by omega), am_cpI_ne (by omega), cp_at hj, am_up_ne (by omega)]
    · rw [am_cpI_ne (by omega), am_cpI_ne (by omega), am_cpI_ne (by omega), am_cpI_ne (by omega), cp_at hj, am_cpI_ne (by omega), am_up_ne (by omega)]
    · rw [am_cpI_ne (by omega), am_cpI_ne (by omega), am_cpI_ne (by omega), cp_at hj, am_cpI_ne (by omega), am_cpI_ne (by omega), am_up_ne (by omega)]
    · rw [am_cpI_ne (by omega), am_cpI_ne (by omega), cp_at hj, am_cpI_ne (by omega), am_cpI_ne (by omega), am_cpI_ne (by omega), am_up_ne (by omega)]
    · rw [am_cpI_ne (by omega), cp_at hj, am_cpI_ne (by omega), am_cpI_ne (by omega), am_cpI_ne (by omega), am_cpI_ne (by omega), am_up_ne (by omega)]
  · unfold fc6
    rw [cp_at hj, am_cpI_ne (by omega), am_cpI_ne (by omega), am_cpI_ne (by omega), am_cpI_ne (by omega), am_cpI_ne (by omega), am_up_ne (by omega)]
theorem fc6_ne {I : am_I} {s d q : Nat} (h : q < d ∨ d + 6 < q) : fc6 I s d q = I q := by
  unfold fc6
  rw [am_cpI_ne (by omega), am_cpI_ne (by omega), am_cpI_ne (by omega), am_cpI_ne (by omega), am_cpI_ne (by omega), am_cpI_ne (by omega), am_up_ne (by omega)]
theorem r_becomeF15 {E : am_E} (zi : am_inj E) {k : Nat} (hk : 1 ≤ k) (I : am_I) (w : Int64) : am_Ret E k Y_Feelings_become [.ref 15, .ref 7] I w (am_eq none (fc6 I 7 15) w) := by
  refine am_intro (pv_Feelings_become E k) (by decide) zi ?_ rfl rfl ?_
  · rintro _ _ _ ⟨rfl, -⟩; trivial
  intro S hS
  refine am_at hS (fun _ => false) 160 0 ?_
  refine ⟨by omega, by decide, by decide, by decide, by decide, by decide, ?_⟩
  refine ⟨by omega, by decide, by decide, by decide, by decide, by decide, ?_⟩
  refine ⟨by omega, by decide, by decide, by decide, by decide, by decide, ?_⟩
  refine ⟨by omega, by decide, by decide, by decide, by decide, by decide, ?_⟩
  refine ⟨by omega, by decide, by decide, by decide, by decide, by decide, ?_⟩
  refine ⟨by omega, by decide, by decide, by decide, by decide, by decide, ?_⟩
  exact ⟨rfl, rfl, rfl⟩
theorem r_becomeF7 {E : am_E} (zi : am_inj E) {k : Nat} (hk : 1 ≤ k) (I : am_I) (w : Int64) : am_Ret E k Y_Feelings_become [.ref 7, .ref 15] I w (am_eq none (fc6 I 15 7) w) := by
  refine am_intro (pv_Feelings_become E k) (by decide) zi ?_ rfl rfl ?_
  · rintro _ _ _ ⟨rfl, -⟩; trivial
  intro S hS
  refine am_at hS (fun _ => false) 160 0 ?_
  refine ⟨by omega, by decide, by decide, by decide, by decide, by decide, ?_⟩
  refine ⟨by omega, by decide, by decide, by decide, by decide, by decide, ?_⟩
  refine ⟨by omega, by decide, by decide, by decide, by decide, by decide, ?_⟩
  refine ⟨by omega, by decide, by decide, by decide, by decide, by decide, ?_⟩
  refine ⟨by omega, by decide, by decide, by decide, by decide, by decide, ?_⟩
  refine ⟨by omega, by decide, by decide, by decide, by decide, by decide, ?_⟩
  exact ⟨rfl, rfl, rfl⟩
