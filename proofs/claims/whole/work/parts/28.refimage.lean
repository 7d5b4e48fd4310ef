/-! the reference's image -/
def imF (J : Nat → Int32) (s : St) (f : Nat) : Prop := J (6 * f) = nI (sL s f) ∧ J (6 * f + 1) = nI (sG s f) ∧ J (6 * f + 2) = sS s f ∧ J (6 * f + 3) = sT s f ∧ J (6 * f + 4) = nI (sK s f / 2) ∧ J (6 * f + 5) = nI (sK s f % 2)
def imP (J : Nat → Int32) (s : St) (p : Nat) : Prop := J (216 + p) = sP s p ∧ J (225 + p) = sD s p
def RK (I : am_I) : Option (St × Nat) → Prop
  | none => I 88 45 = 0
  | some (s, r) => I 88 45 = 1 ∧ I 88 46 = nI (sN s) ∧ I 88 47 = nI (sM s) ∧ I 88 48 = nI r ∧ (∀ f, f < sM s → imF (I 112) s f) ∧ ∀ p, p < sN s → imP (I 112) s p
theorem RK_of {I J : am_I} {kp : Option (St × Nat)} (h : J 112 = I 112) (h5 : J 88 45 = I 88 45) (h6 : J 88 46 = I 88 46) (h7 : J 88 47 = I 88 47) (h8 : J 88 48 = I 88 48) (zK : RK I kp) : RK J kp := by
  cases kp with
  | none => exact h5.trans zK
  | some x =>
    show J 88 45 = 1 ∧ J 88 46 = nI (sN x.1) ∧ J 88 47 = nI (sM x.1) ∧ J 88 48 = nI x.2 ∧ (∀ f, f < sM x.1 → imF (J 112) x.1 f) ∧ ∀ p, p < sN x.1 → imP (J 112) x.1 p
    rw [h, h5, h6, h7, h8]
    exact zK
def im6 (J : am_I) (f : Nat) (v0 v1 v2 v3 v4 v5 : Int32) : am_I := am_up (am_up (am_up (am_up (am_up (am_up J 112 (6 * f) v0) 112 (6 * f + 1) v1) 112 (6 * f + 2) v2) 112 (6 * f + 3) v3) 112 (6 * f + 4) v4) 112 (6 * f + 5) v5
theorem im6_c {J : am_I} {f : Nat} {v0 v1 v2 v3 v4 v5 : Int32} : im6 J f v0 v1 v2 v3 v4 v5 112 = fup (fup (fup (fup (fup (fup (J 112) (6 * f) v0) (6 * f + 1) v1) (6 * f + 2) v2) (6 * f + 3) v3) (6 * f + 4) v4) (6 * f + 5) v5 := by
  unfold im6
  simp only [am_up_fup]
theorem im6_ne {J : am_I} {f : Nat} {v0 v1 v2 v3 v4 v5 : Int32} {q : Nat} (h : q ≠ 112) : im6 J f v0 v1 v2 v3 v4 v5 q = J q := by
  unfold im6
  simp only [am_up_ne h]
theorem im6_old {J : am_I} {f : Nat} {v0 v1 v2 v3 v4 v5 : Int32} {x : Nat} (h : x < 6 * f ∨ 6 * f + 5 < x) : im6 J f v0 v1 v2 v3 v4 v5 112 x = J 112 x := by
  rw [im6_c, fup_ne (by omega), fup_ne (by omega), fup_ne (by omega), fup_ne (by omega), fup_ne (by omega), fup_ne (by omega)]
theorem im6_new {J : am_I} {f : Nat} {v0 v1 v2 v3 v4 v5 : Int32} : im6 J f v0 v1 v2 v3 v4 v5 112 (6 * f) = v0 ∧ im6 J f v0 v1 v2 v3 v4 v5 112 (6 * f + 1) = v1 ∧ im6 J f v0 v1 v2 v3 v4 v5 112 (6 * f + 2) = v2 ∧ im6 J f v0 v1 v2 v3 v4 v5 112 (6 * f + 3) = v3 ∧ im6 J f v0 v1 v2 v3 v4 v5 112 (6 * f + 4) = v4 ∧ im6 J f v0 v1 v2 v3 v4 v5 112 (6 * f + 5) = v5 := by
  rw [im6_c]
  refine ⟨?_, ?_, ?_, ?_, ?_, ?_⟩
  · rw [fup_ne (by omega), fup_ne (by omega), fup_ne (by omega), fup_ne (by omega), fup_ne (by omega), fup_self]
  · rw [fup_ne (by omega), fup_ne (by omega), fup_ne (by omega), fup_ne (by omega), fup_self]
  · rw [fup_ne (by omega), fup_ne (by omega), fup_ne (by omega), fup_self]
  · rw [fup_ne (by omega), fup_ne (by omega), fup_self]
  · rw [fup_ne (by omega), fup_self]
  · rw [fup_self]
theorem six {f c : Nat} : 6 * nI f + nI c = nI (6 * f + c) := by rw [show (6 : Int32) = nI 6 from rfl, pk_mul, nI_add]
theorem six0 {f : Nat} : 6 * nI f = nI (6 * f) := by rw [show (6 : Int32) = nI 6 from rfl, pk_mul]
theorem m_image {E : am_E} (zi : am_inj E) {k : Nat} {σ : St} (zw : wf σ) {I : am_I} (zR : RS I σ) (w : Int64) {r : Nat} (hr : I 88 4 = nI r) :
    am_Ret E k Y_MO_image [.ref 88] I w (fun q I' w' => q = some (.int (nI (sM σ))) ∧ w' = w ∧ RK I' (some (σ, r)) ∧ am_fs 88 [45, 46, 47, 48] [112] I I') := by
  refine am_intro (pv_MO_image E k) (by decide) zi ?_ rfl rfl ?_
  · rintro _ _ _ ⟨rfl, -⟩; rfl
  intro S hS
  have h9 := zw.1
  have h36 := sM_le zw
  have n9 : ∀ J, am_fs 88 [45, 46, 47, 48] [112] I J → J 88 9 = nI (sN σ) := fun J hJ => (hJ.2 9 (by decide)).trans zR.1.1
  have n16 : ∀ J, am_fs 88 [45, 46, 47, 48] [112] I J → J 88 16 = nI (sM σ) := fun J hJ => (hJ.2 16 (by decide)).trans zR.2.1
  have hd : ∀ (J : am_I), Prop := fun J => J 88 45 = 1 ∧ J 88 46 = nI (sN σ) ∧ J 88 47 = nI (sM σ) ∧ J 88 48 = nI r
  have lp := down (P := fun p => ∀ J, am_fs 88 [45, 46, 47, 48] [112] I J → (J 88 45 = 1 ∧ J 88 46 = nI (sN σ) ∧ J 88 47 = nI (sM σ) ∧ J 88 48 = nI r) → (∀ f, f < sM σ → imF (J 112) σ f) → (∀ g, g < p → imP (J 112) σ g) → S 147 [some (.ref 88), some (.int (nI p))] [] J w) (sN σ) ?z ?s
  case z =>
    intro J hJ h4 hF hP
    refine am_at hS (fun t => Nat.beq t 147) 80 147 ?_
    refine ⟨fun q => absurd q (by show ¬ nI (sN σ) < J 88 9; rw [n9 J hJ]; exact nI_nlt (Nat.le_refl _) (by omega)), fun _ => ?_⟩
    exact ⟨congrArg (fun z => some (Value.int z)) (n16 J hJ), rfl, ⟨h4.1, h4.2.1, h4.2.2.1, h4.2.2.2, hF, hP⟩, hJ⟩
  case s =>
    intro p hp hn J hJ h4 hF hP
    refine am_at hS (fun t => Nat.beq t 147) 80 147 ?_
    refine ⟨fun _ => ?_, fun q => absurd (show nI p < J 88 9 by rw [n9 J hJ]; exact nI_lt hp (by omega)) q⟩
    have e1 : 216 + nI p = nI (216 + p) := by rw [show (216 : Int32) = nI 216 from rfl, nI_add]
    have e2 : 225 + nI p = nI (225 + p) := by rw [show (225 : Int32) = nI 225 from rfl, nI_add]
    refine ⟨vp_in_nI (by omega) (by omega), ?_⟩
    refine ⟨by rw [e1]; exact vp_in_nI (by omega) (by omega), ?_⟩
    refine ⟨vp_in_nI (by omega) (by omega), ?_⟩
    refine ⟨by rw [e2]; exact vp_in_nI (by omega) (by omega), ?_⟩
    rw [e1, e2, nI_clamp (by omega), nI_clamp (by omega), nI_clamp (by omega)]
    have ep := zR.1.2 p hp
    have hgo := hn (am_up (am_up J 112 (216 + p) (J 92 p)) 112 (225 + p) (J 93 p)) (am_fs.up (am_fs.up hJ (by decide) (by decide)) (by decide) (by decide)) (by rw [am_up_ne (by decide), am_up_ne (by decide)]; exact h4) (fun f hf => ?_) (fun g hg => ?_)
    · rw [← nI_1] at hgo
      exact hgo
    · unfold imF
      rw [am_up_fup, am_up_fup, fup_ne (by omega), fup_ne (by omega), fup_ne (by omega), fup_ne (by omega), fup_ne (by omega), fup_ne (by omega), fup_ne (by omega), fup_ne (by omega), fup_ne (by omega), fup_ne (by omega), fup_ne (by omega), fup_ne (by omega)]
      exact hF f hf
    · unfold imP
      rw [am_up_fup, am_up_fup, fup_ne (show 216 + g ≠ 225 + p by omega), hJ.1 92 (by decide) (by decide), hJ.1 93 (by decide) (by decide)]
      by_cases e : g = p
      · rw [e, fup_self, fup_self]; exact ep
      · rw [fup_ne (by omega), fup_ne (by omega), fup_ne (by omega)]; exact hP g (by omega)
  have lf := down (P := fun f => ∀ J, am_fs 88 [45, 46, 47, 48] [112] I J → (J 88 45 = 1 ∧ J 88 46 = nI (sN σ) ∧ J 88 47 = nI (sM σ) ∧ J 88 48 = nI r) → (∀ g, g < f → imF (J 112) σ g) → S 31 [some (.ref 88), some (.int (nI f))] [] J w) (sM σ) ?z2 ?s2
  case z2 =>
    intro J hJ h4 hF
    refine am_at hS (fun t => Nat.beq t 31 || Nat.beq t 147) 80 31 ?_
    refine ⟨fun q => absurd q (by show ¬ nI (sM σ) < J 88 16; rw [n16 J hJ]; exact nI_nlt (Nat.le_refl _) (by omega)), fun _ => ?_⟩
    exact lp 0 (Nat.zero_le _) J hJ h4 hF (fun g hg => absurd hg (by omega))
  case s2 =>
    intro f hf hn J hJ h4 hF
    refine am_at hS (fun t => Nat.beq t 31) 160 31 ?_
    refine ⟨fun _ => ?_, fun q => absurd (show nI f < J 88 16 by rw [n16 J hJ]; exact nI_lt hf (by omega)) q⟩
    have bd : vp_in (nI f) 36 := vp_in_nI (by omega) (by omega)
    have e1 : 6 * nI f + 1 = nI (6 * f + 1) := six
    have e2 : 6 * nI f + 2 = nI (6 * f + 2) := six
    have e3 : 6 * nI f + 3 = nI (6 * f + 3) := six
    have e4 : 6 * nI f + 4 = nI (6 * f + 4) := six
    have e5 : 6 * nI f + 5 = nI (6 * f + 5) := six
    refine ⟨bd, ?_⟩
    refine ⟨by rw [six0]; exact vp_in_nI (by omega) (by omega), ?_⟩
    refine ⟨bd, ?_⟩
    refine ⟨by rw [e1]; exact vp_in_nI (by omega) (by omega), ?_⟩
    refine ⟨bd, ?_⟩
    refine ⟨by rw [e2]; exact vp_in_nI (by omega) (by omega), ?_⟩
    refine ⟨bd, ?_⟩
    refine ⟨by rw [e3]; exact vp_in_nI (by omega) (by omega), ?_⟩
    refine ⟨bd, ?_⟩
    refine ⟨by rw [e4]; exact vp_in_nI (by omega) (by omega), ?_⟩
    refine ⟨bd, ?_⟩
    refine ⟨by rw [e5]; exact vp_in_nI (by omega) (by omega), ?_⟩
    rw [e1, e2, e3, e4, e5, six0, nI_clamp (show f < 2 ^ 31 by omega), nI_clamp (show 6 * f < 2 ^ 31 by omega), nI_clamp (show 6 * f + 1 < 2 ^ 31 by omega), nI_clamp (show 6 * f + 2 < 2 ^ 31 by omega), nI_clamp (show 6 * f + 3 < 2 ^ 31 by omega), nI_clamp (show 6 * f + 4 < 2 ^ 31 by omega), nI_clamp (show 6 * f + 5 < 2 ^ 31 by omega)]
    obtain ⟨d1, d2, d3, d4, d5, d6⟩ := zR.2.2 f hf
    have j9 := fun (q : Nat) (h : q ∉ [112] ) (h2 : q ≠ 88) => hJ.1 q h h2
    have hgo := hn (im6 J f (J 94 f) (J 95 f) (J 96 f) (J 97 f) (J 98 f) (J 99 f)) ⟨fun q h1 h2 => by rw [im6_ne (fun e => h1 (by rw [e]; decide))]; exact hJ.1 q h1 h2, fun j hj => by rw [im6_ne (by decide)]; exact hJ.2 j hj⟩ (by rw [im6_ne (by decide)]; exact h4) (fun g hg => ?_)
    · rw [← nI_1] at hgo
      exact hgo
    · unfold imF
      by_cases e : g = f
      · subst e
        obtain ⟨i0, i1, i2, i3, i4, i5⟩ := im6_new (J := J) (f := g) (v0 := J 94 g) (v1 := J 95 g) (v2 := J 96 g) (v3 := J 97 g) (v4 := J 98 g) (v5 := J 99 g)
        rw [i0, i1, i2, i3, i4, i5, j9 94 (by decide) (by decide), j9 95 (by decide) (by decide), j9 96 (by decide) (by decide), j9 97 (by decide) (by decide), j9 98 (by decide) (by decide), j9 99 (by decide) (by decide)]
        exact ⟨d1, d2, d3, d4, d5, d6⟩
      · rw [im6_old (by omega), im6_old (by omega), im6_old (by omega), im6_old (by omega), im6_old (by omega), im6_old (by omega)]
        exact hF g (by omega)
  refine am_at hS (fun t => Nat.beq t 31) 80 0 ?_
  refine ⟨Or.inr rfl, ?_⟩
  refine lf 0 (Nat.zero_le _) _ (am_fs.upo (am_fs.upo (am_fs.upo (am_fs.upo am_fs.refl (by decide)) (by decide)) (by decide)) (by decide)) ⟨rfl, ?_, ?_, ?_⟩ (fun g hg => absurd hg (by omega))
  · exact zR.1.1
  · exact zR.2.1
  · exact hr

