/-! the reference's back -/
def bk6 (J : am_I) (f : Nat) (v0 v1 v2 v3 v4 v5 : Int32) : am_I := am_up (am_up (am_up (am_up (am_up (am_up J 94 f v0) 95 f v1) 96 f v2) 97 f v3) 98 f v4) 99 f v5
theorem bk6_c {J : am_I} {f : Nat} {v0 v1 v2 v3 v4 v5 : Int32} : bk6 J f v0 v1 v2 v3 v4 v5 94 = fup (J 94) f v0 ∧ bk6 J f v0 v1 v2 v3 v4 v5 95 = fup (J 95) f v1 ∧ bk6 J f v0 v1 v2 v3 v4 v5 96 = fup (J 96) f v2 ∧ bk6 J f v0 v1 v2 v3 v4 v5 97 = fup (J 97) f v3 ∧ bk6 J f v0 v1 v2 v3 v4 v5 98 = fup (J 98) f v4 ∧ bk6 J f v0 v1 v2 v3 v4 v5 99 = fup (J 99) f v5 := by
  unfold bk6
  refine ⟨?_, ?_, ?_, ?_, ?_, ?_⟩
  · rw [am_up_ne (by decide), am_up_ne (by decide), am_up_ne (by decide), am_up_ne (by decide), am_up_ne (by decide), am_up_fup]
  · rw [am_up_ne (by decide), am_up_ne (by decide), am_up_ne (by decide), am_up_ne (by decide), am_up_fup, am_up_ne (by decide)]
  · rw [am_up_ne (by decide), am_up_ne (by decide), am_up_ne (by decide), am_up_fup, am_up_ne (by decide), am_up_ne (by decide)]
  · rw [am_up_ne (by decide), am_up_ne (by decide), am_up_fup, am_up_ne (by decide), am_up_ne (by decide), am_up_ne (by decide)]
  · rw [am_up_ne (by decide), am_up_fup, am_up_ne (by decide), am_up_ne (by decide), am_up_ne (by decide), am_up_ne (by decide)]
  · rw [am_up_fup, am_up_ne (by decide), am_up_ne (by decide), am_up_ne (by decide), am_up_ne (by decide), am_up_ne (by decide)]
def rsF (J : am_I) (s : St) (f : Nat) : Prop := J 94 f = nI (sL s f) ∧ J 95 f = nI (sG s f) ∧ J 96 f = sS s f ∧ J 97 f = sT s f ∧ J 98 f = nI (sK s f / 2) ∧ J 99 f = nI (sK s f % 2)
theorem m_back {E : am_E} (zi : am_inj E) {k : Nat} {σ : St} (zw : wf σ) {I : am_I} (zR : RS I σ) (w : Int64) {T r : Nat} (hr : I 88 4 = nI r) {kp : Option (St × Nat)} (zK : RK I kp) (zk : wfk σ T kp) :
    am_Ret E k Y_MO_back [.ref 88] I w (fun q I' w' => q = some (.int (aBack σ r kp).1) ∧ w' = w ∧ RS I' (aBack σ r kp).2.1 ∧ I' 88 4 = nI (aBack σ r kp).2.2 ∧ am_fs 88 [4, 16] [92, 93, 94, 95, 96, 97, 98, 99] I I') := by
  refine am_intro (pv_MO_back E k) (by decide) zi ?_ rfl rfl ?_
  · rintro _ _ _ ⟨rfl, -⟩; rfl
  intro S hS
  have h9 := zw.1
  cases kp with
  | none =>
    refine am_at hS (fun t => Nat.beq t 28) 60 0 ?_
    exact ⟨fun _ => ⟨rfl, rfl, zR, hr, am_fs.refl⟩, fun q => absurd zK q⟩
  | some x =>
    obtain ⟨s, r'⟩ := x
    obtain ⟨k1, k2, k3, k4, kF, kP⟩ := zK
    obtain ⟨zs, hNs, hrT⟩ := zk
    have h36 := sM_le zs
    have hs9 := zs.1
    have lp := down (P := fun p => ∀ J, am_fs 88 [4, 16] [92, 93, 94, 95, 96, 97, 98, 99] I J → J 88 4 = nI r' → J 88 16 = nI (sM s) → (∀ f, f < sM s → rsF J s f) → (∀ g, g < sN σ → J 92 g = (if g < p then sP s g else sP σ g) ∧ J 93 g = (if g < p then sD s g else sD σ g)) → S 144 [some (.ref 88), some (.int (nI p))] [] J w) (sN s) ?z ?s
    case z =>
      intro J hJ h4 h16 hF hP
      refine am_at hS (fun t => Nat.beq t 144) 80 144 ?_
      have e46 : J 88 46 = nI (sN s) := (hJ.2 46 (by decide)).trans k2
      refine ⟨fun q => absurd q (by show ¬ nI (sN s) < J 88 46; rw [e46]; exact nI_nlt (Nat.le_refl _) (by omega)), fun _ => ?_⟩
      exact ⟨congrArg (fun z => some (Value.int z)) h16, rfl, ⟨⟨(hJ.2 9 (by decide)).trans zR.1.1, hP⟩, h16, hF⟩, h4, hJ⟩
    case s =>
      intro p hp hn J hJ h4 h16 hF hP
      refine am_at hS (fun t => Nat.beq t 144) 80 144 ?_
      have e46 : J 88 46 = nI (sN s) := (hJ.2 46 (by decide)).trans k2
      refine ⟨fun _ => ?_, fun q => absurd (show nI p < J 88 46 by rw [e46]; exact nI_lt hp (by omega)) q⟩
      have e1 : 216 + nI p = nI (216 + p) := by rw [show (216 : Int32) = nI 216 from rfl, nI_add]
      have e2 : 225 + nI p = nI (225 + p) := by rw [show (225 : Int32) = nI 225 from rfl, nI_add]
      refine ⟨by rw [e1]; exact vp_in_nI (by omega) (by omega), ?_⟩
      refine ⟨vp_in_nI (by omega) (by omega), ?_⟩
      refine ⟨by rw [e2]; exact vp_in_nI (by omega) (by omega), ?_⟩
      refine ⟨vp_in_nI (by omega) (by omega), ?_⟩
      rw [e1, e2, nI_clamp (by omega), nI_clamp (by omega), nI_clamp (by omega)]
      have ep := kP p hp
      have e12 : J 112 = I 112 := hJ.1 112 (by decide) (by decide)
      have hu : ∀ q, q ≠ 92 → q ≠ 93 → am_up (am_up J 92 p (J 112 (216 + p))) 93 p (J 112 (225 + p)) q = J q := fun q h1 h2 => by rw [am_up_ne h2, am_up_ne h1]
      have hgo := hn (am_up (am_up J 92 p (J 112 (216 + p))) 93 p (J 112 (225 + p))) (am_fs.up (am_fs.up hJ (by decide) (by decide)) (by decide) (by decide)) (by rw [hu 88 (by decide) (by decide)]; exact h4) (by rw [hu 88 (by decide) (by decide)]; exact h16) (fun f hf => ?_) (fun g hg => ?_)
      · rw [← nI_1] at hgo
        exact hgo
      · unfold rsF
        rw [hu 94 (by decide) (by decide), hu 95 (by decide) (by decide), hu 96 (by decide) (by decide), hu 97 (by decide) (by decide), hu 98 (by decide) (by decide), hu 99 (by decide) (by decide)]
        exact hF f hf
      · rw [am_up_ne (by decide), am_up_fup, am_up_fup, am_up_ne (by decide), e12]
        by_cases e : g = p
        · rw [e, fup_self, fup_self, if_pos (by omega), if_pos (by omega)]; exact ep
        · rw [fup_ne e, fup_ne e]
          obtain ⟨u1, u2⟩ := hP g hg
          rw [u1, u2]
          by_cases q : g < p
          · rw [if_pos q, if_pos q, if_pos (by omega), if_pos (by omega)]; exact ⟨rfl, rfl⟩
          · rw [if_neg q, if_neg q, if_neg (by omega), if_neg (by omega)]; exact ⟨rfl, rfl⟩
    have lf := down (P := fun f => ∀ J, am_fs 88 [4, 16] [94, 95, 96, 97, 98, 99] I J → J 88 4 = nI r' → J 88 16 = nI (sM s) → (∀ g, g < f → rsF J s g) → S 28 [some (.ref 88), some (.int (nI f))] [] J w) (sM s) ?z2 ?s2
    case z2 =>
      intro J hJ h4 h16 hF
      refine am_at hS (fun t => Nat.beq t 28 || Nat.beq t 144) 80 28 ?_
      refine ⟨fun q => absurd q (by show ¬ nI (sM s) < J 88 16; rw [h16]; exact nI_nlt (Nat.le_refl _) (by omega)), fun _ => ?_⟩
      refine lp 0 (Nat.zero_le _) J (hJ.mono (fun _ h => h) (by decide)) h4 h16 hF (fun g hg => ?_)
      rw [if_neg (by omega), if_neg (by omega), hJ.1 92 (by decide) (by decide), hJ.1 93 (by decide) (by decide)]
      exact zR.1.2 g hg
    case s2 =>
      intro f hf hn J hJ h4 h16 hF
      refine am_at hS (fun t => Nat.beq t 28) 160 28 ?_
      refine ⟨fun _ => ?_, fun q => absurd (show nI f < J 88 16 by rw [h16]; exact nI_lt hf (by omega)) q⟩
      have bd : vp_in (nI f) 36 := vp_in_nI (by omega) (by omega)
      have e1 : 6 * nI f + 1 = nI (6 * f + 1) := six
      have e2 : 6 * nI f + 2 = nI (6 * f + 2) := six
      have e3 : 6 * nI f + 3 = nI (6 * f + 3) := six
      have e4 : 6 * nI f + 4 = nI (6 * f + 4) := six
      have e5 : 6 * nI f + 5 = nI (6 * f + 5) := six
      refine ⟨by rw [six0]; exact vp_in_nI (by omega) (by omega), ?_⟩
      refine ⟨bd, ?_⟩
      refine ⟨by rw [e1]; exact vp_in_nI (by omega) (by omega), ?_⟩
      refine ⟨bd, ?_⟩
      refine ⟨by rw [e2]; exact vp_in_nI (by omega) (by omega), ?_⟩
      refine ⟨bd, ?_⟩
      refine ⟨by rw [e3]; exact vp_in_nI (by omega) (by omega), ?_⟩
      refine ⟨bd, ?_⟩
      refine ⟨by rw [e4]; exact vp_in_nI (by omega) (by omega), ?_⟩
      refine ⟨bd, ?_⟩
      refine ⟨by rw [e5]; exact vp_in_nI (by omega) (by omega), ?_⟩
      refine ⟨bd, ?_⟩
      rw [e1, e2, e3, e4, e5, six0, nI_clamp (show f < 2 ^ 31 by omega), nI_clamp (show 6 * f < 2 ^ 31 by omega), nI_clamp (show 6 * f + 1 < 2 ^ 31 by omega), nI_clamp (show 6 * f + 2 < 2 ^ 31 by omega), nI_clamp (show 6 * f + 3 < 2 ^ 31 by omega), nI_clamp (show 6 * f + 4 < 2 ^ 31 by omega), nI_clamp (show 6 * f + 5 < 2 ^ 31 by omega)]
      obtain ⟨d1, d2, d3, d4, d5, d6⟩ := kF f hf
      have e12 : J 112 = I 112 := hJ.1 112 (by decide) (by decide)
      have hfr : am_fs 88 [4, 16] [94, 95, 96, 97, 98, 99] I (bk6 J f (J 112 (6 * f)) (J 112 (6 * f + 1)) (J 112 (6 * f + 2)) (J 112 (6 * f + 3)) (J 112 (6 * f + 4)) (J 112 (6 * f + 5))) := am_fs.up (am_fs.up (am_fs.up (am_fs.up (am_fs.up (am_fs.up hJ (by decide) (by decide)) (by decide) (by decide)) (by decide) (by decide)) (by decide) (by decide)) (by decide) (by decide)) (by decide) (by decide)
      have e88 : bk6 J f (J 112 (6 * f)) (J 112 (6 * f + 1)) (J 112 (6 * f + 2)) (J 112 (6 * f + 3)) (J 112 (6 * f + 4)) (J 112 (6 * f + 5)) 88 = J 88 := by
        unfold bk6
        rw [am_up_ne (by decide), am_up_ne (by decide), am_up_ne (by decide), am_up_ne (by decide), am_up_ne (by decide), am_up_ne (by decide)]
      have hgo := hn _ hfr (by rw [e88]; exact h4) (by rw [e88]; exact h16) (fun g hg => ?_)
      · rw [← nI_1] at hgo
        exact hgo
      · unfold rsF
        obtain ⟨i0, i1, i2, i3, i4, i5⟩ := bk6_c (J := J) (f := f) (v0 := J 112 (6 * f)) (v1 := J 112 (6 * f + 1)) (v2 := J 112 (6 * f + 2)) (v3 := J 112 (6 * f + 3)) (v4 := J 112 (6 * f + 4)) (v5 := J 112 (6 * f + 5))
        rw [i0, i1, i2, i3, i4, i5, e12]
        by_cases e : g = f
        · subst e
          rw [fup_self, fup_self, fup_self, fup_self, fup_self, fup_self]
          exact ⟨d1, d2, d3, d4, d5, d6⟩
        · rw [fup_ne e, fup_ne e, fup_ne e, fup_ne e, fup_ne e, fup_ne e]
          exact hF g (by omega)
    refine am_at hS (fun t => Nat.beq t 28) 80 0 ?_
    refine ⟨fun q => absurd (show I 88 45 = 0 from q) (by rw [k1]; decide), fun _ => ?_⟩
    refine lf 0 (Nat.zero_le _) _ (am_fs.upo (am_fs.upo am_fs.refl (by decide)) (by decide)) ?_ ?_ (fun g hg => absurd hg (by omega))
    · exact k4
    · exact k3

