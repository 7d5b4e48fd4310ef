/-! the reference's feel, threes -/
theorem m_feel {E : am_E} (zi : am_inj E) {k : Nat} (hk : 2 ≤ k) {σ : St} (zw : wf σ) {I : am_I} (zR : RS I σ) (w : Int64) (a b s t kd : Int32) :
    am_Ret E k Y_MO_feel [.ref 88, .int a, .int b, .int s, .int t, .int kd] I w (fun q I' w' => q = some (.int (aFeel σ a b s t kd).1) ∧ w' = w ∧ RS I' (aFeel σ a b s t kd).2 ∧ am_fs 88 [16] [94, 95, 96, 97, 98, 99] I I') := by
  refine am_intro (pv_MO_feel E k) (by decide) zi ?_ rfl rfl ?_
  · rintro _ _ _ ⟨rfl, -⟩; rfl
  intro S hS
  have h9 := zw.1
  have c1 := zR.1.1
  have bad : fOk σ a b s t kd = false → some (Value.int (-2)) = some (.int (aFeel σ a b s t kd).1) ∧ w = w ∧ RS I (aFeel σ a b s t kd).2 ∧ am_fs 88 [16] [94, 95, 96, 97, 98, 99] I I := fun h => by
    unfold aFeel
    rw [h]
    exact ⟨rfl, rfl, zR, am_fs.refl⟩
  have two_l : inb a (sN σ) = false → two a b (sN σ) = false := fun h => by unfold two; rw [h]; rfl
  have two_r : inb b (sN σ) = false → two a b (sN σ) = false := fun h => by unfold two; rw [h, Bool.false_and, Bool.and_false]
  refine am_at hS (fun t => Nat.beq t 31) 90 0 ?_
  refine ⟨_, _, (by omega : k - 1 < k), r_isPerson zi I w (by omega) (by omega) c1 a, am_elim ?_⟩
  refine ⟨fun h5 => ?_, fun h5 => ?_⟩
  · rw [bi_eq0] at h5
    exact bad (by unfold fOk; rw [two_l h5]; rfl)
  rw [bi_eq0, Bool.not_eq_false] at h5
  refine ⟨_, _, (by omega : k - 1 < k), r_isPerson zi I w (by omega) (by omega) c1 b, am_elim ?_⟩
  refine ⟨fun h13 => ?_, fun h13 => ?_⟩
  · rw [bi_eq0] at h13
    exact bad (by unfold fOk; rw [two_r h13]; rfl)
  rw [bi_eq0, Bool.not_eq_false] at h13
  refine ⟨fun h18 => ?_, fun h18 => ?_⟩
  · exact bad (by unfold fOk two; rw [h18, show (b == b) = true from beq_self_eq_true b, Bool.not_true, Bool.and_false, Bool.and_false, Bool.false_and])
  have htwo : two a b (sN σ) = true := by unfold two; rw [h5, h13, beq_eq_false_iff_ne.mpr h18]; rfl
  have tail : isg s = true → S 31 [some (.ref 88), some (.int a), some (.int b), some (.int s), some (.int t), some (.int kd)] [] I w := fun hs => by
    refine am_at hS (fun _ => false) 90 31 ?_
    refine ⟨_, _, (by omega : k - 1 < k), r_in zi I w _ _ _, am_elim ?_⟩
    rw [inl_st]
    refine ⟨fun h41 => ?_, fun h41 => ?_⟩
    · rw [bi_eq0] at h41
      exact bad (by unfold fOk; rw [h41, Bool.false_and, Bool.and_false, Bool.and_false])
    rw [bi_eq0, Bool.not_eq_false] at h41
    refine ⟨_, _, (by omega : k - 1 < k), r_in zi I w _ _ _, am_elim ?_⟩
    rw [inl_3]
    refine ⟨fun h54 => ?_, fun h54 => ?_⟩
    · rw [bi_eq0] at h54
      exact bad (by unfold fOk; rw [h54, Bool.and_false, Bool.and_false, Bool.and_false])
    rw [bi_eq0, Bool.not_eq_false] at h54
    have hok : fOk σ a b s t kd = true := by unfold fOk; rw [htwo, hs, h41, h54]; rfl
    obtain ⟨x, y, hx, hy, hxy, rfl, rfl⟩ := two_of htwo (by omega)
    obtain ⟨d, hd, rfl⟩ := inb_of h54 (by decide)
    refine ⟨by decide, ?_⟩
    refine ⟨by decide, ?_⟩
    refine ⟨_, _, (by omega : k - 1 < k), (by rw [show (2 : Int32) = nI 2 from rfl, pk_rem (by omega) (by decide) (by decide), pk_div (by omega) (by decide) (by decide)]; exact r_tells zi zw zR w (by omega) hx hy hxy s t d), ?_⟩
    rintro _ I1 w1 ⟨rfl, rfl, z1, f1⟩
    unfold aFeel
    rw [hok, nI_clamp (by omega), nI_clamp (by omega), nI_clamp (by omega)]
    exact ⟨rfl, rfl, z1, f1⟩
  refine ⟨fun h23 => ?_, fun h23 => ?_⟩
  · exact tail (by unfold isg; rw [decide_eq_true h23]; rfl)
  refine ⟨fun h28 => ?_, fun h28 => ?_⟩
  · exact tail (by unfold isg; rw [decide_eq_true h28, Bool.or_true])
  · exact bad (by unfold fOk isg; rw [decide_eq_false h23, decide_eq_false h28, Bool.or_false, Bool.false_and, Bool.and_false])
/-- sums -/
def sm (g : Nat → Nat) : Nat → Nat
  | 0 => 0
  | n + 1 => sm g n + g n
theorem sm_congr {g h : Nat → Nat} : ∀ (n : Nat), (∀ i, i < n → g i = h i) → sm g n = sm h n
  | 0, _ => rfl
  | n + 1, e => by rw [sm, sm, sm_congr n (fun i hi => e i (by omega)), e n (by omega)]
theorem sm_add {g h : Nat → Nat} : ∀ (n : Nat), sm (fun i => g i + h i) n = sm g n + sm h n
  | 0 => rfl
  | n + 1 => by rw [sm, sm, sm, sm_add n]; omega
theorem sm_0 : ∀ (n : Nat), sm (fun _ => 0) n = 0
  | 0 => rfl
  | n + 1 => by rw [sm, sm_0 n]
theorem sm_swap {g : Nat → Nat → Nat} {m : Nat} : ∀ (n : Nat), sm (fun a => sm (g a) m) n = sm (fun b => sm (fun a => g a b) n) m
  | 0 => (sm_0 m).symm
  | n + 1 => by
    rw [sm, sm_swap n, ← sm_add]
    rfl
theorem sm_le {g : Nat → Nat} {c : Nat} : ∀ (n : Nat), (∀ i, i < n → g i ≤ c) → sm g n ≤ n * c
  | 0, _ => Nat.zero_le _
  | n + 1, h => by
    have := sm_le n (fun i hi => h i (by omega))
    have := h n (by omega)
    rw [sm, Nat.succ_mul]
    omega
theorem sm_tail {g : Nat → Nat} {n : Nat} : ∀ (m : Nat), n ≤ m → (∀ i, n ≤ i → i < m → g i = 0) → sm g m = sm g n
  | 0, h, _ => by rw [show n = 0 by omega]
  | m + 1, h, hq => by
    by_cases e : n = m + 1
    · rw [e]
    · rw [sm, sm_tail m (by omega) (fun i h1 h2 => hq i h1 (by omega)), hq m (by omega) (by omega)]; rfl
/-- one place of three sums -/
def t3 (σ : St) (a b c : Nat) : Nat := cond (decide (a < b) && (decide (b < c) && itri σ a b c)) 1 0
theorem t3_le {σ : St} {a b c : Nat} : t3 σ a b c ≤ 1 := by unfold t3; cases (decide (a < b) && (decide (b < c) && itri σ a b c)) <;> decide
def c3 (σ : St) : Nat := sm (fun a => sm (fun b => sm (t3 σ a b) (sN σ)) (sN σ)) (sN σ)
theorem m_threes {E : am_E} (zi : am_inj E) {k : Nat} (hk : 2 ≤ k) {σ : St} (zw : wf σ) {I : am_I} (zR : RS I σ) (w : Int64) :
    am_Ret E k Y_MO_threes [.ref 88] I w (am_eq (some (.int (nI (c3 σ)))) I w) := by
  refine am_intro (pv_MO_threes E k) (by decide) zi ?_ rfl rfl ?_
  · rintro _ _ _ ⟨rfl, -⟩; rfl
  intro S hS
  have h9 := zw.1
  have c1 := zR.1.1
  have la := down (P := fun a => ∀ x3 x4, S 4 [some (.ref 88), some (.int (nI (sm (fun a => sm (fun b => sm (t3 σ a b) (sN σ)) (sN σ)) a))), some (.int (nI a)), x3, x4] [] I w) (sN σ) ?z ?s
  case z =>
    intro x3 x4
    refine am_at hS (fun t => Nat.beq t 4) 80 4 ?_
    exact ⟨fun q => absurd q (by show ¬ nI (sN σ) < I 88 9; rw [c1]; exact nI_nlt (Nat.le_refl _) (by omega)), fun _ => ⟨rfl, rfl, rfl⟩⟩
  case s =>
    intro a ha hna x3 x4
    have lb := down (P := fun b => a < b → ∀ x4, S 16 [some (.ref 88), some (.int (nI (sm (fun a => sm (fun b => sm (t3 σ a b) (sN σ)) (sN σ)) a + sm (fun b => sm (t3 σ a b) (sN σ)) b))), some (.int (nI a)), some (.int (nI b)), x4] [] I w) (sN σ) ?z2 ?s2
    case z2 =>
      intro _ x4
      refine am_at hS (fun t => Nat.beq t 16 || Nat.beq t 4) 80 16 ?_
      refine ⟨fun q => absurd q (by show ¬ nI (sN σ) < I 88 9; rw [c1]; exact nI_nlt (Nat.le_refl _) (by omega)), fun _ => ?_⟩
      have := hna (some (.int (nI (sN σ)))) x4
      rw [sm, ← nI_1] at this
      exact this
    case s2 =>
      intro b hb hnb hab x4
      have lc := down (P := fun c => b < c → S 29 [some (.ref 88), some (.int (nI (sm (fun a => sm (fun b => sm (t3 σ a b) (sN σ)) (sN σ)) a + sm (fun b => sm (t3 σ a b) (sN σ)) b + sm (t3 σ a b) c))), some (.int (nI a)), some (.int (nI b)), some (.int (nI c))] [] I w) (sN σ) ?z3 ?s3
      case z3 =>
        intro _
        refine am_at hS (fun t => Nat.beq t 29 || Nat.beq t 16) 80 29 ?_
        refine ⟨fun q => absurd q (by show ¬ nI (sN σ) < I 88 9; rw [c1]; exact nI_nlt (Nat.le_refl _) (by omega)), fun _ => ?_⟩
        have := hnb (by omega) (some (.int (nI (sN σ))))
        rw [sm, ← nI_1, ← Nat.add_assoc] at this
        exact this
      case s3 =>
        intro c hc hnc hbc
        refine am_at hS (fun t => Nat.beq t 29) 80 29 ?_
        refine ⟨fun _ => ?_, fun q => absurd (show nI c < I 88 9 by rw [c1]; exact nI_lt hc (by omega)) q⟩
        refine ⟨_, _, (by omega : k - 1 < k), r_isBadThree zi zw zR w (by omega) (by omega) (by omega) (by omega), am_elim ?_⟩
        have hgo := hnc (by omega)
        rw [sm, ← nI_1, ← Nat.add_assoc, ← nI_add _ (t3 σ a b c)] at hgo
        have et : t3 σ a b c = cond (itri σ a b c) 1 0 := by unfold t3; rw [decide_eq_true hab, decide_eq_true hbc]; rfl
        rw [et] at hgo
        refine ⟨fun h => ?_, fun h => ?_⟩
        · rw [bi_eq0] at h
          rw [h] at hgo
          exact hgo
        · rw [bi_eq0, Bool.not_eq_false] at h
          rw [h] at hgo
          exact hgo
      refine am_at hS (fun t => Nat.beq t 29) 80 16 ?_
      refine ⟨fun _ => ?_, fun q => absurd (show nI b < I 88 9 by rw [c1]; exact nI_lt hb (by omega)) q⟩
      have hgo := lc (b + 1) (by omega) (by omega)
      rw [sm_tail (n := 0) (b + 1) (Nat.zero_le _) (fun i _ hi => by unfold t3; rw [decide_eq_false (show ¬ b < i by omega), Bool.false_and, Bool.and_false]; rfl), ← nI_1] at hgo
      exact hgo
    refine am_at hS (fun t => Nat.beq t 16) 80 4 ?_
    refine ⟨fun _ => ?_, fun q => absurd (show nI a < I 88 9 by rw [c1]; exact nI_lt ha (by omega)) q⟩
    have hgo := lb (a + 1) (by omega) (by omega) x4
    rw [sm_tail (g := fun b => sm (t3 σ a b) (sN σ)) (n := 0) (a + 1) (Nat.zero_le _) (fun i _ hi => (sm_congr (h := fun _ => 0) (sN σ) (fun c _ => by unfold t3; rw [decide_eq_false (show ¬ a < i by omega)]; rfl)).trans (sm_0 _)), ← nI_1] at hgo
    exact hgo
  exact am_at hS (fun t => Nat.beq t 4) 80 0 (la 0 (Nat.zero_le _) _ _)

