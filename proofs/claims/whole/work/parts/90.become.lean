/-! CAMPINGS: become -/
def beJ (I : am_I) (c s : Nat) (kd : Int32) : am_I := am_up (am_up I (49 + 2 * c) 3 kd) (49 + 2 * c) 4 (am_up I (49 + 2 * c) 3 kd (80 + 2 * s) 1)
theorem beJ_eq {I : am_I} {c s : Nat} {kd n : Int32} (hc : c < 10) (e : I (80 + 2 * s) 1 = n) : beJ I c s kd = am_up (am_up I (49 + 2 * c) 3 kd) (49 + 2 * c) 4 n := by
  unfold beJ
  rw [am_up_ne (show 80 + 2 * s ≠ 49 + 2 * c by omega), e]
theorem r_becomeC {E : am_E} (zi : am_inj E) {k : Nat} (hk : 1 ≤ k) {I : am_I} (w : Int64) {c s n : Nat} (hc : c < 10) (hs : s < 4) (hn : n ≤ 9) (e : I (80 + 2 * s) 1 = nI n) (kd : Int32) :
    am_Ret E k Y_Camping_become [.ref (49 + 2 * c), .int kd, .ref (80 + 2 * s)] I w (am_eq none (am_cpI (am_up (am_up I (49 + 2 * c) 3 kd) (49 + 2 * c) 4 (nI n)) (81 + 2 * s) (50 + 2 * c) 0 0 n) w) := by
  rw [← beJ_eq hc e (c := c) (s := s) (kd := kd)]
  refine am_intro (pv_Camping_become E k) (by decide) zi ?_ rfl rfl ?_
  · rintro _ _ _ ⟨rfl, -⟩; trivial
  intro S hS
  have e4 : beJ I c s kd (49 + 2 * c) 4 = nI n := by rw [beJ_eq hc e, am_seq]
  have f1 : ¬ beJ I c s kd (49 + 2 * c) 4 < 0 := by rw [e4]; exact nI_nlt (Nat.zero_le _) (by omega)
  have f4 : (beJ I c s kd (49 + 2 * c) 4).toNatClampNeg = n := by rw [e4]; exact nI_clamp (by omega)
  have f2 : (0 : Int32).toNatClampNeg + (beJ I c s kd (49 + 2 * c) 4).toNatClampNeg ≤ 40 := by rw [f4, show (0 : Int32).toNatClampNeg = 0 from rfl]; omega
  have f3 : (0 : Int32).toNatClampNeg + (beJ I c s kd (49 + 2 * c) 4).toNatClampNeg ≤ 9 := by rw [f4, show (0 : Int32).toNatClampNeg = 0 from rfl]; omega
  rw [← f4] at hS
  have hs4 : s = 0 ∨ s = 1 ∨ s = 2 ∨ s = 3 := by omega
  have hc10 : c = 0 ∨ c = 1 ∨ c = 2 ∨ c = 3 ∨ c = 4 ∨ c = 5 ∨ c = 6 ∨ c = 7 ∨ c = 8 ∨ c = 9 := by omega
  clear f4 e4 e
  rcases hs4 with rfl | rfl | rfl | rfl
  all_goals
    rcases hc10 with rfl | rfl | rfl | rfl | rfl | rfl | rfl | rfl | rfl | rfl
    all_goals
      refine am_at hS (fun _ => false) 60 0 ?_
      exact ⟨by omega, by decide, by decide, f1, f2, f3, rfl, rfl, rfl⟩
