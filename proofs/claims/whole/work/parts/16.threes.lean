/-! BAD THREES of a FEELING -/
theorem down {P : Nat → Prop} (n : Nat) (h0 : P n) (hs : ∀ i, i < n → P (i + 1) → P i) : ∀ i, i ≤ n → P i := by
  have key : ∀ d i, i + d = n → P i := by
    intro d
    induction d with
    | zero => intro i h; have e : i = n := by omega
              subst e; exact h0
    | succ d ih => intro i h; exact hs i (by omega) (ih (i + 1) (by omega))
  exact fun i h => key (n - i) i (by omega)
theorem cnt_congr {Q R : Nat → Bool} : ∀ (n : Nat), (∀ i, i < n → Q i = R i) → cnt Q n = cnt R n
  | 0, _ => rfl
  | n + 1, h => by rw [cnt, cnt, cnt_congr n (fun i hi => h i (by omega)), h n (by omega)]
theorem cnt_ext {Q : Nat → Bool} {n : Nat} : ∀ (m : Nat), n ≤ m → (∀ i, n ≤ i → i < m → Q i = false) → cnt Q m = cnt Q n
  | 0, h, _ => by rw [show n = 0 by omega]
  | m + 1, h, hq => by
    by_cases e : n = m + 1
    · rw [e]
    · rw [cnt, cnt_ext m (by omega) (fun i h1 h2 => hq i h1 (by omega)), hq m (by omega) (by omega)]; rfl
theorem sF_out {σ : St} (zw : wf σ) {a b : Nat} (h : sN σ ≤ b) : sF σ a b = none := by
  cases hq : sF σ a b with
  | none => rfl
  | some f =>
    obtain ⟨h1, h2⟩ := fd_some hq
    have := zw.2.1.1 f h1
    omega
theorem sF_self {σ : St} (zw : wf σ) {a : Nat} : sF σ a a = none := by
  cases hq : sF σ a a with
  | none => rfl
  | some f =>
    obtain ⟨h1, h2⟩ := fd_some hq
    have := zw.2.1.1 f h1
    omega
theorem sF_symm {σ : St} {a b : Nat} : sF σ a b = sF σ b a := fd_symm _
def itr2 (σ : St) (f p : Nat) : Bool := decide (¬ p = sL σ f) && (decide (¬ p = sG σ f) && itri σ (sL σ f) (sG σ f) p)
theorem tri_eq {σ : St} (zw : wf σ) {f : Nat} (hf : f < sM σ) (p : Nat) : tri σ f p = itr2 σ f p := by
  unfold itr2
  by_cases h1 : p = sL σ f
  · rw [decide_eq_false (fun q => q h1), Bool.false_and, h1]
    unfold tri
    rw [sF_self zw]
  · by_cases h2 : p = sG σ f
    · rw [decide_eq_false (p := ¬ p = sG σ f) (fun q => q h2), Bool.false_and, Bool.and_false, h2]
      unfold tri
      rw [sF_self zw]
      cases sF σ (sL σ f) (sG σ f) <;> rfl
    · rw [decide_eq_true h1, decide_eq_true h2, Bool.true_and, Bool.true_and]
      unfold tri itri
      rw [sF_of zw.2.1 hf]
      cases hg : sF σ (sL σ f) p with
      | none => cases sF σ (sG σ f) p <;> rfl
      | some g =>
        cases hh : sF σ (sG σ f) p with
        | none => rfl
        | some h =>
          show decide (sS σ f * sS σ g * sS σ h < 0) = decide (sS σ f * sS σ h * sS σ g < 0)
          rw [Int32.mul_assoc, Int32.mul_comm (sS σ g), ← Int32.mul_assoc]
theorem bth_eq {σ : St} (zw : wf σ) {f : Nat} (hf : f < sM σ) : cnt (itr2 σ f) (sN σ) = bth σ f := by
  unfold bth
  rw [cnt_ext (n := sN σ) 9 zw.1 (fun i h1 _ => by unfold tri; rw [sF_out zw h1]), cnt_congr (R := itr2 σ f) (sN σ) (fun i _ => tri_eq zw hf i)]
theorem bth_le {σ : St} {f : Nat} : bth σ f ≤ 9 := cnt_le _ 9
theorem r_badThreesWith {E : am_E} (zi : am_inj E) {k : Nat} {σ : St} (zw : wf σ) {I : am_I} (zC : CS I σ) (w : Int64) (hk : 1 ≤ k) {f : Nat} (hf : f < sM σ) : am_Ret E k Y_Feelings_badThreesWith [.ref 7, .int (nI f)] I w (am_eq (some (.int (nI (bth σ f)))) I w) := by
  refine am_intro (pv_Feelings_badThreesWith E k) (by decide) zi ?_ rfl rfl ?_
  · rintro _ _ _ ⟨rfl, rfl, rfl⟩; rfl
  intro S hS
  have h36 := sM_le zw
  have h9 := zw.1
  obtain ⟨e1, e2, e3, -⟩ := zC.2.2.1 f hf
  have h3 := zw.2.1.1 f hf
  have loop := down (P := fun p => ∀ x4 x5, S 4 [some (.ref 7), some (.int (nI f)), some (.int (nI (cnt (tri σ f) p))), some (.int (nI p)), x4, x5] [] I w) 9 ?z ?s
  case z =>
    intro x4 x5
    refine am_at hS (fun t => Nat.beq t 4) 80 4 ?_
    exact ⟨fun q => absurd q (by decide), fun _ => ⟨rfl, rfl, rfl⟩⟩
  case s =>
    intro p hp hn x4 x5
    have ht := fun (q : tri σ f p = true) x4 x5 => (congrArg (fun z => S 4 [some (.ref 7), some (.int (nI f)), some (.int z), some (.int (nI p + 1)), x4, x5] [] I w) (cnt_t q)).mpr (by rw [nI_1]; exact hn x4 x5)
    have hz := fun (q : tri σ f p = false) x4 x5 => (congrArg (fun z => S 4 [some (.ref 7), some (.int (nI f)), some (.int z), some (.int (nI p + 1)), x4, x5] [] I w) (cnt_f q)).mpr (by rw [nI_1]; exact hn x4 x5)
    refine am_at hS (fun t => Nat.beq t 4) 120 4 ?_
    refine ⟨fun _ => ?_, fun q => absurd (show nI p < nI 9 from nI_lt hp (by decide)) q⟩
    refine ⟨vp_in_nI (by omega) (by omega), ?_⟩
    rw [nI_clamp (by omega), e1]
    refine ⟨_, _, (by omega : k - 1 < k), r_find zi zw zC w (by omega) hp, am_elim ?_⟩
    refine ⟨vp_in_nI (by omega) (by omega), ?_⟩
    rw [nI_clamp (by omega), e2]
    refine ⟨_, _, (by omega : k - 1 < k), r_find zi zw zC w (by omega) hp, am_elim ?_⟩
    refine ⟨fun h39 => ?_, fun h39 => ?_⟩
    · exact hz (by unfold tri; rw [enc_none h39 (sF_lt zw)]) _ _
    · refine ⟨fun h45 => ?_, fun h45 => ?_⟩
      · exact hz (by unfold tri; rw [enc_none h45 (sF_lt zw)]; cases sF σ (sL σ f) p <;> rfl) _ _
      · obtain ⟨g, hg⟩ := enc_some (M := 0) h39
        obtain ⟨h, hh⟩ := enc_some (M := 0) h45
        have g1 := (fd_some hg).1
        have h1 := (fd_some hh).1
        refine ⟨vp_in_nI (by omega) (by omega), ?_⟩
        rw [nI_clamp (by omega), e3]
        refine ⟨by rw [hg]; exact vp_in_nI (by omega) (by omega), ?_⟩
        rw [show (enc (sF σ (sL σ f) p)).toNatClampNeg = g by rw [hg]; exact nI_clamp (by omega), (zC.2.2.1 g (by omega)).2.2.1]
        refine ⟨by rw [hh]; exact vp_in_nI (by omega) (by omega), ?_⟩
        rw [show (enc (sF σ (sG σ f) p)).toNatClampNeg = h by rw [hh]; exact nI_clamp (by omega), (zC.2.2.1 h (by omega)).2.2.1]
        refine ⟨fun h70 => ?_, fun h70 => ?_⟩
        · exact ht (by unfold tri; rw [hg, hh]; exact decide_eq_true h70) _ _
        · exact hz (by unfold tri; rw [hg, hh]; exact decide_eq_false h70) _ _
  exact am_at hS (fun t => Nat.beq t 4) 80 0 (loop 0 (by omega) _ _)
theorem r_badThrees {E : am_E} (zi : am_inj E) {k : Nat} {σ : St} (zw : wf σ) {I : am_I} (zR : RS I σ) (w : Int64) (hk : 2 ≤ k) {f : Nat} (hf : f < sM σ) : am_Ret E k Y_MO_badThrees [.ref 88, .int (nI f)] I w (am_eq (some (.int (nI (bth σ f)))) I w) := by
  refine am_intro (pv_MO_badThrees E k) (by decide) zi ?_ rfl rfl ?_
  · rintro _ _ _ ⟨rfl, rfl, rfl⟩; rfl
  intro S hS
  have h36 := sM_le zw
  have h9 := zw.1
  obtain ⟨e1, e2, -⟩ := zR.2.2 f hf
  have h3 := zw.2.1.1 f hf
  have c1 := zR.1.1
  have loop := down (P := fun p => S 4 [some (.ref 88), some (.int (nI f)), some (.int (nI (cnt (itr2 σ f) p))), some (.int (nI p))] [] I w) (sN σ) ?z ?s
  case z =>
    refine am_at hS (fun t => Nat.beq t 4) 80 4 ?_
    exact ⟨fun q => absurd q (by show ¬ nI (sN σ) < I 88 9; rw [c1]; exact nI_nlt (Nat.le_refl _) (by omega)), fun _ => ⟨by rw [bth_eq zw hf], rfl, rfl⟩⟩
  case s =>
    intro p hp hn
    have ht := fun (q : itr2 σ f p = true) => (congrArg (fun z => S 4 [some (.ref 88), some (.int (nI f)), some (.int z), some (.int (nI p + 1))] [] I w) (cnt_t q)).mpr (by rw [nI_1]; exact hn)
    have hz := fun (q : itr2 σ f p = false) => (congrArg (fun z => S 4 [some (.ref 88), some (.int (nI f)), some (.int z), some (.int (nI p + 1))] [] I w) (show nI (cnt (itr2 σ f) p) + 0 = _ from (Int32.add_zero _).trans (cnt_f q))).mpr (by rw [nI_1]; exact hn)
    refine am_at hS (fun t => Nat.beq t 4) 120 4 ?_
    refine ⟨fun _ => ?_, fun q => absurd (show nI p < I 88 9 by rw [c1]; exact nI_lt hp (by omega)) q⟩
    refine ⟨vp_in_nI (by omega) (by omega), ?_⟩
    rw [nI_clamp (by omega), e1]
    refine ⟨fun h20 => ?_, fun h20 => ?_⟩
    · rw [neq (by omega) (by omega)] at h20
      exact hz (by unfold itr2; rw [decide_eq_false (fun q => q h20), Bool.false_and])
    · rw [neq (by omega) (by omega)] at h20
      refine ⟨vp_in_nI (by omega) (by omega), ?_⟩
      rw [nI_clamp (by omega), e2]
      refine ⟨fun h30 => ?_, fun h30 => ?_⟩
      · rw [neq (by omega) (by omega)] at h30
        exact hz (by unfold itr2; rw [decide_eq_false (p := ¬ p = sG σ f) (fun q => q h30), Bool.false_and, Bool.and_false])
      · rw [neq (by omega) (by omega)] at h30
        refine ⟨vp_in_nI (by omega) (by omega), ?_⟩
        rw [nI_clamp (by omega), e1]
        refine ⟨vp_in_nI (by omega) (by omega), ?_⟩
        rw [nI_clamp (by omega), e2]
        refine ⟨_, _, (by omega : k - 1 < k), r_isBadThree zi zw zR w (by omega) (by omega) (by omega) (by omega), am_elim ?_⟩
        have hi2 : itr2 σ f p = itri σ (sL σ f) (sG σ f) p := by unfold itr2; rw [decide_eq_true h20, decide_eq_true h30, Bool.true_and, Bool.true_and]
        refine ⟨fun h50 => ?_, fun h50 => ?_⟩
        · rw [bi_eq0] at h50
          exact hz (by rw [hi2]; exact h50)
        · rw [bi_eq0, Bool.not_eq_false] at h50
          exact ht (by rw [hi2]; exact h50)
  exact am_at hS (fun t => Nat.beq t 4) 80 0 (loop 0 (by omega))

