/-! each BAD THREE is met from each of its three FEELINGS -/
def X3 (σ : St) (a b c : Nat) : Nat := cond (itri σ a b c) 1 0
theorem itri_rot {σ : St} (a b c : Nat) : itri σ c a b = itri σ a b c := by
  unfold itri
  rw [sF_symm (a := c) (b := a), sF_symm (a := c) (b := b)]
  cases sF σ a b with
  | none => cases sF σ a c <;> rfl
  | some f =>
    cases sF σ b c with
    | none => cases sF σ a c <;> rfl
    | some g =>
      cases sF σ a c with
      | none => rfl
      | some h =>
        show decide (sS σ h * sS σ f * sS σ g < 0) = decide (sS σ f * sS σ g * sS σ h < 0)
        rw [Int32.mul_comm (sS σ f * sS σ g), ← Int32.mul_assoc]
theorem itri_flip {σ : St} (a b c : Nat) : itri σ a c b = itri σ a b c := by
  unfold itri
  rw [sF_symm (a := c) (b := b)]
  cases sF σ a b with
  | none => cases sF σ a c <;> cases sF σ b c <;> rfl
  | some f =>
    cases sF σ b c with
    | none => cases sF σ a c <;> rfl
    | some g =>
      cases sF σ a c with
      | none => rfl
      | some h =>
        show decide (sS σ h * sS σ g * sS σ f < 0) = decide (sS σ f * sS σ g * sS σ h < 0)
        rw [Int32.mul_comm (sS σ f * sS σ g), Int32.mul_comm (sS σ f), ← Int32.mul_assoc]
theorem itri_l {σ : St} (zw : wf σ) (a b : Nat) : itri σ a b a = false := by
  unfold itri
  rw [sF_self zw]
  cases sF σ a b <;> cases sF σ b a <;> rfl
theorem itri_r {σ : St} (zw : wf σ) (a b : Nat) : itri σ a b b = false := by
  unfold itri
  rw [sF_self zw]
  cases sF σ a b <;> rfl
theorem itri_n {σ : St} {a b : Nat} (h : sF σ a b = none) (c : Nat) : itri σ a b c = false := by
  unfold itri
  rw [h]
theorem itr2_eq {σ : St} (zw : wf σ) (f p : Nat) : itr2 σ f p = itri σ (sL σ f) (sG σ f) p := by
  unfold itr2
  by_cases h1 : p = sL σ f
  · rw [h1, itri_l zw, Bool.and_false, Bool.and_false]
  · by_cases h2 : p = sG σ f
    · rw [h2, itri_r zw, Bool.and_false, Bool.and_false]
    · rw [decide_eq_true h1, decide_eq_true h2, Bool.true_and, Bool.true_and]
theorem cnt_sm {Q : Nat → Bool} : ∀ (n : Nat), cnt Q n = sm (fun i => cond (Q i) 1 0) n
  | 0 => rfl
  | n + 1 => by rw [cnt, sm, cnt_sm n]
def Y3 (σ : St) (a b : Nat) : Nat := sm (X3 σ a b) (sN σ)
theorem bth_Y {σ : St} (zw : wf σ) {f : Nat} (hf : f < sM σ) : bth σ f = Y3 σ (sL σ f) (sG σ f) := by
  rw [← bth_eq zw hf, cnt_sm]
  exact sm_congr _ (fun i _ => by rw [itr2_eq zw]; rfl)
theorem sm_one {g : Nat → Nat} {x : Nat} : ∀ (n : Nat), x < n → sm (fun i => cond (decide (i = x)) (g i) 0) n = g x
  | 0, h => by omega
  | n + 1, h => by
    rw [sm]
    by_cases e : x = n
    · subst e
      rw [decide_eq_true rfl, sm_congr (h := fun _ => 0) x (fun i hi => by rw [decide_eq_false (show ¬ i = x by omega)]; rfl), sm_0]
      exact Nat.zero_add _
    · rw [decide_eq_false (show ¬ n = x by omega), sm_one n (by omega)]
      rfl
theorem sm_two {g : Nat → Nat → Nat} {x y n : Nat} (hx : x < n) (hy : y < n) : sm (fun a => sm (fun b => cond (decide (a = x) && decide (b = y)) (g a b) 0) n) n = g x y := by
  rw [← sm_one (g := fun b => g x b) n hy, ← sm_one (g := fun a => sm (fun b => cond (decide (b = y)) (g a b) 0) n) n hx]
  refine sm_congr n (fun a _ => ?_)
  cases decide (a = x) with
  | true => rfl
  | false => exact sm_0 n
theorem sumB_pairs {σ : St} (zw : wf σ) : ∀ (m : Nat), m ≤ sM σ → sumB σ m = sm (fun a => sm (fun b => cond (decide (a < b) && (fd (sL σ) (sG σ) a b m).isSome) (Y3 σ a b) 0) (sN σ)) (sN σ)
  | 0, _ => by
    rw [sm_congr (h := fun _ => 0) (sN σ) (fun a _ => (sm_congr (h := fun _ => 0) (sN σ) (fun b _ => by rw [fd]; exact congrArg (fun z => cond z (Y3 σ a b) 0) (Bool.and_false _))).trans (sm_0 _)), sm_0]
    rfl
  | m + 1, hm => by
    have hL := zw.2.1.1 m (by omega)
    rw [sumB, sumB_pairs zw m (by omega), bth_Y zw (by omega), ← sm_two (g := Y3 σ) (x := sL σ m) (y := sG σ m) (n := sN σ) (by omega) hL.2, ← sm_add]
    refine sm_congr _ (fun a _ => ?_)
    rw [← sm_add]
    refine sm_congr _ (fun b _ => ?_)
    by_cases hab : a < b
    · rw [decide_eq_true hab, Bool.true_and, Bool.true_and, fd]
      cases hq : fd (sL σ) (sG σ) a b m with
      | some f =>
        obtain ⟨h1, h2⟩ := fd_some hq
        have hLf := zw.2.1.1 f (by omega)
        have hne : (decide (a = sL σ m) && decide (b = sG σ m)) = false := by
          rw [Bool.and_eq_false_iff, decide_eq_false_iff_not, decide_eq_false_iff_not]
          by_cases e1 : a = sL σ m
          · right
            intro e2
            have := zw.2.1.2.2.2 f m (by omega) (by omega) (by omega) (by omega)
            omega
          · left; exact e1
        rw [hne]
        exact Nat.add_zero _
      | none =>
        dsimp only
        by_cases e : a = sL σ m ∧ b = sG σ m
        · rw [if_pos (Or.inl ⟨e.1.symm, e.2.symm⟩), decide_eq_true e.1, decide_eq_true e.2]
          exact Nat.zero_add _
        · rw [if_neg (by omega), show (decide (a = sL σ m) && decide (b = sG σ m)) = false by rw [← Bool.decide_and]; exact decide_eq_false e]
          rfl
    · rw [decide_eq_false hab, Bool.false_and, Bool.false_and, show (decide (a = sL σ m) && decide (b = sG σ m)) = false by rw [← Bool.decide_and]; exact decide_eq_false (by omega)]
      rfl
theorem sumB_c3 {σ : St} (zw : wf σ) : sumB σ (sM σ) = 3 * c3 σ := by
  have e0 : sumB σ (sM σ) = sm (fun a => sm (fun b => sm (fun c => t3 σ a b c + t3 σ c a b + t3 σ a c b) (sN σ)) (sN σ)) (sN σ) := by
    rw [sumB_pairs zw (sM σ) (Nat.le_refl _)]
    refine sm_congr _ (fun a _ => sm_congr _ (fun b _ => ?_))
    by_cases hab : a < b
    · rw [decide_eq_true hab, Bool.true_and]
      have e1 : sm (fun c => t3 σ a b c + t3 σ c a b + t3 σ a c b) (sN σ) = Y3 σ a b := by
        refine sm_congr _ (fun c _ => ?_)
        unfold t3 X3
        rw [itri_rot a b c, itri_flip a b c, decide_eq_true hab]
        by_cases h1 : c < a
        · rw [decide_eq_true h1, decide_eq_false (show ¬ b < c by omega), decide_eq_false (show ¬ a < c by omega)]
          cases itri σ a b c <;> rfl
        · by_cases h2 : b < c
          · rw [decide_eq_true h2, decide_eq_false h1, decide_eq_false (show ¬ c < b by omega)]
            simp only [Bool.false_and, Bool.and_false, Bool.true_and]
            cases itri σ a b c <;> rfl
          · by_cases h3 : c = a
            · rw [h3, itri_l zw]
              simp
            · by_cases h4 : c = b
              · rw [h4, itri_r zw]
                simp
              · rw [decide_eq_false h1, decide_eq_false h2, decide_eq_true (show a < c by omega), decide_eq_true (show c < b by omega)]
                cases itri σ a b c <;> rfl
      rw [e1]
      cases hq : fd (sL σ) (sG σ) a b (sM σ) with
      | some f => rfl
      | none =>
        have e2 : Y3 σ a b = 0 := (sm_congr (h := fun _ => 0) _ (fun c _ => by unfold X3; rw [itri_n hq]; rfl)).trans (sm_0 _)
        rw [e2]
        rfl
    · rw [decide_eq_false hab, Bool.false_and]
      refine ((sm_congr (h := fun _ => 0) _ (fun c _ => ?_)).trans (sm_0 _)).symm
      unfold t3
      rw [decide_eq_false hab]
      by_cases h1 : a < c
      · rw [decide_eq_false (show ¬ c < b by omega), Bool.false_and, Bool.false_and, Bool.false_and, Bool.and_false, Bool.and_false]; rfl
      · rw [decide_eq_false h1, Bool.false_and, Bool.false_and, Bool.false_and, Bool.and_false]; rfl
  have e1 : sm (fun a => sm (fun b => sm (fun c => t3 σ c a b) (sN σ)) (sN σ)) (sN σ) = c3 σ := by
    unfold c3
    rw [show sm (fun a => sm (fun b => sm (fun c => t3 σ c a b) (sN σ)) (sN σ)) (sN σ) = sm (fun a => sm (fun c => sm (fun b => t3 σ c a b) (sN σ)) (sN σ)) (sN σ) from sm_congr _ (fun a _ => sm_swap _)]
    exact sm_swap _
  have e2 : sm (fun a => sm (fun b => sm (fun c => t3 σ a c b) (sN σ)) (sN σ)) (sN σ) = c3 σ := sm_congr _ (fun a _ => sm_swap _)
  rw [e0, sm_congr (h := fun a => (sm (fun b => sm (t3 σ a b) (sN σ)) (sN σ) + sm (fun b => sm (fun c => t3 σ c a b) (sN σ)) (sN σ)) + sm (fun b => sm (fun c => t3 σ a c b) (sN σ)) (sN σ)) (sN σ) (fun a _ => ?_), sm_add, sm_add, e1, e2]
  · unfold c3
    omega
  · rw [← sm_add, ← sm_add]
    refine sm_congr _ (fun b _ => ?_)
    rw [sm_add, sm_add]
theorem threes_eq {σ : St} (zw : wf σ) : sumB σ (sM σ) / 3 = c3 σ := by rw [sumB_c3 zw]; omega

