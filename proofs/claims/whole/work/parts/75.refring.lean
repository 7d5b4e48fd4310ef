/-! .. the reference's -/
def bRR (I : am_I) (p : Nat) (z : Bf) : Prop := (∀ i, i < bfN z → I 104 i = nI (bfQ z i)) ∧ ∀ x, x < 18 → (bfB z x = none → I 106 x = -1) ∧ ∀ y, bfB z x = some y → I 106 x = nI (bfS z x) ∧ (x ≠ 2 * p → I 105 x = nI y)
theorem m_walk {E : am_E} (zi : am_inj E) {k : Nat} (hk : 3 ≤ k) {σ : St} (zw : wf σ) {I : am_I} (zR : RS I σ) (w : Int64) {p : Nat} (hp : p < sN σ) :
    am_Ret E k Y_MO_walk [.ref 88, .int (nI p)] I w (fun q I' w' => (∃ v, q = some (.int v) ∧ (bfB (bfE σ p) (2 * p + 1) = none → v = -1) ∧ ((bfB (bfE σ p) (2 * p + 1)).isSome = true → v = nI (bfS (bfE σ p) (2 * p + 1)))) ∧ w' = w ∧ bRR I' p (bfE σ p) ∧ am_fs 88 [] [104, 105, 106] I I') := by
  refine am_intro (pv_MO_walk E k) (by decide) zi ?_ rfl rfl ?_
  · rintro _ _ _ ⟨⟨v, rfl, -⟩, -⟩; rfl
  intro S hS
  have h9 := zw.1
  have h36 := sM_le zw
  have RSk : ∀ {J : am_I}, am_fs 88 [] [104, 105, 106] I J → RS J σ := fun h => RS_fs h (fun q h1 h2 hz => by simp only [List.mem_cons, List.not_mem_nil, or_false] at hz; omega) (by decide) (by decide) zR
  have e2p : 2 * nI p + 1 = nI (2 * p + 1) := by rw [mul2, nI_1]
  have l50 := down (P := fun i => ∀ J X4 X5 X6 X7, bRR J p (bfi σ p i) → am_fs 88 [] [104, 105, 106] I J → i ≤ bfN (bfi σ p i) → S 50 [some (.ref 88), some (.int (nI p)), some (.int (nI (bfN (bfi σ p i)))), some (.int (nI i)), X4, X5, X6, X7] [] J w) 19 ?z ?s
  case z =>
    intro J X4 X5 X6 X7 _ _ hle
    have := bIn_le (bIn_i zw hp 19)
    omega
  case s =>
    intro i hi hn J X4 X5 X6 X7 hJ fJ hiN
    have zJ := RSk fJ
    have hI := bIn_i zw hp i
    have hle := bIn_le hI
    refine am_at hS (fun t => Nat.beq t 50 || Nat.beq t 66) 90 50 ?_
    refine ⟨fun h => ?_, fun h => ?_⟩
    · rw [nlt (by omega) (by omega)] at h
      obtain ⟨q1, q2⟩ := hI.2.1 i h
      obtain ⟨pl, epl⟩ : ∃ pl, pl = bfQ (bfi σ p i) i := ⟨_, rfl⟩
      have hst := bfi_s h
      rw [← epl] at q1 q2 hst
      obtain ⟨d1, d2, d3⟩ := div2 (show pl < 18 by omega)
      have dne : ¬ (2 : Int32) = 0 := by decide
      rw [hst] at hn
      have l66 := down (P := fun o => ∀ J X6 X7, bRR J p (lvs σ pl (bfi σ p i) o) → am_fs 88 [] [104, 105, 106] I J → i < bfN (lvs σ pl (bfi σ p i) o) → S 66 [some (.ref 88), some (.int (nI p)), some (.int (nI (bfN (lvs σ pl (bfi σ p i) o)))), some (.int (nI i)), some (.int (nI pl)), some (.int (nI o)), X6, X7] [] J w) (sN σ) ?z2 ?s2
      case z2 =>
        intro J X6 X7 hJ fJ hlt
        have zJ := RSk fJ
        refine am_at hS (fun t => Nat.beq t 50) 90 66 ?_
        refine ⟨fun q => absurd q (by rw [zJ.1.1]; exact nI_nlt (Nat.le_refl _) (by omega)), fun _ => ?_⟩
        have h2 := hn J (some (.int (nI pl))) (some (.int (nI (sN σ)))) X6 X7 hJ fJ (by omega)
        rw [← nI_1] at h2
        exact h2
      case s2 =>
        intro o ho hn2 J X6 X7 hJ fJ hlt
        have zJ := RSk fJ
        obtain ⟨b1, b2⟩ := bIn_lvs zw hI q2 o (by omega)
        have hle2 := bIn_le b1
        have skip : sF σ (pl / 2) o = none → ∀ X6, S 66 [some (.ref 88), some (.int (nI p)), some (.int (nI (bfN (lvs σ pl (bfi σ p i) o)))), some (.int (nI i)), some (.int (nI pl)), some (.int (nI o + 1)), X6, X7] [] J w := fun e X6 => by
          have h2 := hn2 J X6 X7 (by rw [lvs_no e]; exact hJ) fJ (by rw [lvs_no e]; exact hlt)
          rw [lvs_no e, ← nI_1] at h2
          exact h2
        have a98 : ∀ l, l = sF σ (pl / 2) o → S 98 [some (.ref 88), some (.int (nI p)), some (.int (nI (bfN (lvs σ pl (bfi σ p i) o)))), some (.int (nI i)), some (.int (nI pl)), some (.int (nI o)), X6, X7] [.int (enc l)] J w := by
          intro l hl
          refine am_at hS (fun t => Nat.beq t 66 || Nat.beq t 134) 90 98 ?_
          cases l with
          | none => exact ⟨fun _ => skip hl.symm _, fun q => absurd rfl q⟩
          | some f =>
            have hf := hl.symm
            obtain ⟨hfM, -⟩ := fd_some hf
            have hh := hxo_lt (σ := σ) (f := f) (pl := pl)
            obtain ⟨e94, e95, e96, -⟩ := zJ.2.2 f hfM
            have hlv := lvs_so (z := bfi σ p i) hf
            obtain ⟨z, ez⟩ : ∃ z, z = lvs σ pl (bfi σ p i) o := ⟨_, rfl⟩
            rw [← ez] at hlv b1 b2 hJ hlt hle2
            rw [hlv] at hn2
            rw [← ez]
            obtain ⟨c2, c3⟩ := hJ
            obtain ⟨ys, hys⟩ := isS (b2 pl q2)
            have e106 : J 106 pl = nI (bfS z pl) := ((c3 pl (by omega)).2 ys hys).1
            have hspl := (bIn_so b1 (b2 pl q2)).2
            have a134 : S 134 [some (.ref 88), some (.int (nI p)), some (.int (nI (bfN z))), some (.int (nI i)), some (.int (nI pl)), some (.int (nI o)), some (.int (nI f)), X7] [.int (nI (2 * o + hxo σ f pl))] J w := by
              obtain ⟨t, et⟩ : ∃ t, t = 2 * o + hxo σ f pl := ⟨_, rfl⟩
              have ht : t < 18 := by omega
              rw [← et] at hn2 ⊢
              have bd : vp_in (nI t) 18 := vp_in_nI (by omega) (by omega)
              have cl : (nI t).toNatClampNeg = t := nI_clamp (by omega)
              refine am_at hS (fun t => Nat.beq t 66) 90 134 ?_
              refine ⟨bd, ?_⟩
              rw [cl]
              cases hb : bfB z t with
              | some y =>
                have e := ((c3 t ht).2 y hb).1
                have hst := (bIn_so b1 (x := t) (by rw [hb]; rfl)).2
                refine ⟨fun q => absurd (e.symm.trans q) (nI_ne1 (by omega)), fun _ => ?_⟩
                have h2 := hn2 J (some (.int (nI f))) (some (.int (nI t))) (by rw [bArv_so hb]; exact ⟨c2, c3⟩) fJ (by rw [bArv_so hb]; exact hlt)
                rw [bArv_so hb, ← nI_1] at h2
                exact h2
              | none =>
                have e := (c3 t ht).1 hb
                have hnew := bIn_new b1 ht hb
                refine ⟨fun _ => ?_, fun q => absurd e q⟩
                refine ⟨vp_in_nI (by omega) (by omega), ?_⟩
                refine ⟨bd, ?_⟩
                refine ⟨bd, ?_⟩
                refine ⟨vp_in_nI (by omega) (by omega), ?_⟩
                rw [cl, nI_clamp (show pl < 2 ^ 31 by omega), nI_clamp (show bfN z < 2 ^ 31 by omega), e106, nI_1]
                have hne : ¬ 2 * p = t := fun q => by rw [← q, b1.2.2.1.1] at hb; cases hb
                have hq := hn2 (am_up (am_up (am_up J 106 t (nI (bfS z pl + 1))) 105 t (nI pl)) 104 (bfN z) (nI t)) (some (.int (nI f))) (some (.int (nI t))) (by
                  rw [bArv_no hb]
                  refine ⟨fun j hj => ?_, fun x hx => ⟨fun hxn => ?_, fun y hxy => ⟨?_, fun hxp => ?_⟩⟩⟩
                  · have hj : j < bfN z + 1 := hj
                    show _ = nI (fup (bfQ z) (bfN z) t j)
                    by_cases ej : j = bfN z
                    · rw [ej, am_seq, fup_self]
                    · rw [am_sne ej, fup_ne ej, am_up_ne (by decide), am_up_ne (by decide)]
                      exact c2 j (by omega)
                  · have hxn : fup (bfB z) t (some pl) x = none := hxn
                    have ex : ¬ x = t := fun q => by rw [q, fup_self] at hxn; cases hxn
                    rw [fup_ne ex] at hxn
                    rw [am_up_ne (by decide), am_up_ne (by decide), am_sne ex]
                    exact (c3 x hx).1 hxn
                  · have hxy : fup (bfB z) t (some pl) x = some y := hxy
                    show _ = nI (fup (bfS z) t (bfS z pl + 1) x)
                    rw [am_up_ne (by decide), am_up_ne (by decide)]
                    by_cases ex : x = t
                    · rw [ex, am_seq, fup_self]
                    · rw [fup_ne ex] at hxy
                      rw [am_sne ex, fup_ne ex]
                      exact ((c3 x hx).2 y hxy).1
                  · have hxy : fup (bfB z) t (some pl) x = some y := hxy
                    rw [am_up_ne (by decide)]
                    by_cases ex : x = t
                    · rw [ex, fup_self] at hxy
                      cases hxy
                      rw [ex, am_seq]
                    · rw [fup_ne ex] at hxy
                      rw [am_sne ex, am_up_ne (by decide)]
                      exact ((c3 x hx).2 y hxy).2 hxp) (am_fs.up (am_fs.up (am_fs.up fJ (by decide) (by decide)) (by decide) (by decide)) (by decide) (by decide)) (by rw [bArv_no hb]; show i < bfN z + 1; omega)
                rw [bArv_no hb] at hq
                have hq : S 66 [some (.ref 88), some (.int (nI p)), some (.int (nI (bfN z + 1))), some (.int (nI i)), some (.int (nI pl)), some (.int (nI (o + 1))), some (.int (nI f)), some (.int (nI t))] [] (am_up (am_up (am_up J 106 t (nI (bfS z pl + 1))) 105 t (nI pl)) 104 (bfN z) (nI t)) w := hq
                rw [← nI_1 o, ← nI_1 (bfN z)] at hq
                exact hq
            rw [show enc (some f) = nI f from rfl]
            refine ⟨fun q => absurd q (nI_ne1 (by omega)), fun _ => ?_⟩
            refine ⟨dne, ?_⟩
            refine ⟨vp_in_nI (by omega) (by omega), ?_⟩
            rw [nI_clamp (by omega), e96]
            refine ⟨fun h => ?_, fun h => ?_⟩
            · have hx : hxo σ f pl = 1 - pl % 2 := if_pos h
              have hq := a134
              rw [hx, ← nI_add, ← mul2, ← d2] at hq
              exact hq
            · have hx : hxo σ f pl = pl % 2 := if_neg h
              have hq := a134
              rw [hx, ← nI_add, ← mul2, ← d3] at hq
              exact hq
        refine am_at hS (fun t => Nat.beq t 66 || Nat.beq t 98) 90 66 ?_
        refine ⟨fun _ => ?_, fun q => absurd (show nI o < J 88 9 by rw [zJ.1.1]; exact nI_lt ho (by omega)) q⟩
        refine ⟨dne, ?_⟩
        rw [d1]
        refine ⟨fun h81 => ?_, fun h81 => ?_⟩
        · rw [neq (by omega) (by omega)] at h81
          refine a98 none ?_
          cases hs : sF σ (pl / 2) o with
          | none => rfl
          | some f =>
            obtain ⟨g1, g2⟩ := fd_some hs
            have := zw.2.1.1 f g1
            omega
        · refine ⟨dne, ?_⟩
          rw [d1]
          refine ⟨_, _, (by omega : k - 1 < k), r_of zi zw zJ w (a := pl / 2) (b := o) (by omega) (by omega), am_elim ?_⟩
          exact a98 _ rfl
      refine ⟨vp_in_nI (by omega) (by omega), ?_⟩
      rw [nI_clamp (by omega), hJ.1 i h, ← epl]
      exact l66 0 (Nat.zero_le _) J X6 X7 hJ fJ h
    · rw [nlt (by omega) (by omega)] at h
      have ee : bfi σ p i = bfE σ p := bfi_end zw hp h
      rw [ee] at hJ
      refine ⟨by rw [e2p]; exact vp_in_nI (by omega) (by omega), ?_⟩
      rw [e2p, nI_clamp (by omega)]
      obtain ⟨z, ez⟩ : ∃ z, z = bfE σ p := ⟨_, rfl⟩
      rw [← ez] at hJ ⊢
      refine ⟨⟨_, rfl, fun hb => (hJ.2 (2 * p + 1) (by omega)).1 hb, fun hb => ?_⟩, rfl, hJ, fJ⟩
      obtain ⟨y, hy⟩ := isS hb
      exact ((hJ.2 (2 * p + 1) (by omega)).2 y hy).1
  have l2 := down (P := fun i => ∀ J, (∀ j, j < i → J 106 j = -1) → am_fs 88 [] [104, 105, 106] I J → S 2 [some (.ref 88), some (.int (nI p)), some (.int (nI i)), none, none, none, none, none] [] J w) 18 ?z3 ?s3
  case z3 =>
    intro J h6 fJ
    refine am_at hS (fun t => Nat.beq t 2 || Nat.beq t 50) 90 2 ?_
    refine ⟨fun q => absurd q (nI_nlt (Nat.le_refl 18) (by decide)), fun _ => ?_⟩
    refine ⟨(vp_in_nI (by decide) (by decide) : vp_in (nI 0) 18), ?_⟩
    refine ⟨by rw [mul2]; exact vp_in_nI (by omega) (by omega), ?_⟩
    rw [mul2, nI_clamp (show 2 * p < 2 ^ 31 by omega)]
    have hq := l50 0 (by omega) (am_up (am_up J 104 0 (nI (2 * p))) 106 (2 * p) 0) none none none none (by
      refine ⟨fun j hj => ?_, fun x hx => ⟨fun hxn => ?_, fun y hxy => ⟨?_, fun hxp => ?_⟩⟩⟩
      · have hj : j < 1 := hj
        rw [am_up_ne (by decide), show j = 0 by omega, am_seq]
        rfl
      · have hxn : fup (fun _ => none) (2 * p) (some (2 * p)) x = none := hxn
        have ex : ¬ x = 2 * p := fun q => by rw [q, fup_self] at hxn; cases hxn
        rw [am_sne ex, am_up_ne (by decide)]
        exact h6 x hx
      · have hxy : fup (fun _ => none) (2 * p) (some (2 * p)) x = some y := hxy
        by_cases ex : x = 2 * p
        · rw [ex, am_seq]
          show (0 : Int32) = nI (fup (fun _ => 0) (2 * p) 0 (2 * p))
          rw [fup_self]
          rfl
        · rw [fup_ne ex] at hxy; cases hxy
      · have hxy : fup (fun _ => none) (2 * p) (some (2 * p)) x = some y := hxy
        rw [fup_ne hxp] at hxy; cases hxy) (am_fs.up (am_fs.up fJ (by decide) (by decide)) (by decide) (by decide)) (Nat.zero_le _)
    exact hq
  case s3 =>
    intro i hi hn J h6 fJ
    have bd : vp_in (nI i) 18 := vp_in_nI (by omega) (by omega)
    refine am_at hS (fun t => Nat.beq t 2) 90 2 ?_
    refine ⟨fun _ => ?_, fun q => absurd (show nI i < nI 18 from nI_lt hi (by decide)) q⟩
    refine ⟨bd, ?_⟩
    refine ⟨bd, ?_⟩
    rw [nI_clamp (by omega)]
    have hq := hn (am_up (am_up J 106 i (-1)) 105 i (-1)) (fun j hj => by
      rw [am_up_ne (by decide)]
      by_cases e : j = i
      · rw [e, am_seq]
      · rw [am_sne e]; exact h6 j (by omega)) (am_fs.up (am_fs.up fJ (by decide) (by decide)) (by decide) (by decide))
    rw [← nI_1] at hq
    exact hq
  refine am_at hS (fun t => Nat.beq t 2) 90 0 ?_
  exact l2 0 (Nat.zero_le _) I (fun j hj => absurd hj (by omega)) am_fs.refl
def fRg : List Nat := [104, 105, 106, 107]
theorem RS_rg {I J : am_I} {σ : St} {l : List Nat} (h : am_fs 88 [] l I J) (hl : l = fRg ∨ l = [104, 105, 106]) (zR : RS I σ) : RS J σ := RS_fs h (fun q h1 h2 hz => by rcases hl with rfl | rfl <;> (try unfold fRg at hz) <;> simp only [List.mem_cons, List.not_mem_nil, or_false] at hz <;> omega) (by decide) (by decide) zR
theorem m_ring {E : am_E} (zi : am_inj E) {k : Nat} (hk : 4 ≤ k) {σ : St} (zw : wf σ) {I : am_I} (zR : RS I σ) (w : Int64) (i : Int32) :
    am_Ret E k Y_MO_ring [.ref 88, .int i] I w (fun q I' w' => q = some (.int (aRing σ i)) ∧ w' = w ∧ am_fs 88 [] fRg I I') := by
  refine am_intro (pv_MO_ring E k) (by decide) zi ?_ rfl rfl ?_
  · rintro _ _ _ ⟨rfl, -⟩; rfl
  intro S hS
  have h9 := zw.1
  unfold aRing at hS
  have toR : ∀ {J F : am_I}, am_fs 88 [] [104, 105, 106] J F → am_fs 88 [] fRg J F := fun h => h.mono (fun _ h => h) (by decide)
  have loop := down (P := fun p => ∀ J b h X5 X6, (rgN σ p = none → b = -1) → (∀ n q, rgN σ p = some (n, q) → b = nI n ∧ h = nI q) → am_fs 88 [] fRg I J → S 7 [some (.ref 88), some (.int i), some (.int b), some (.int h), some (.int (nI p)), X5, X6] [] J w) (sN σ) ?z ?s
  case s =>
    intro p hp hn J b h X5 X6 hb0 hb1 fJ
    have zJ := RS_rg fJ (Or.inl rfl) zR
    have hno := rg_no (σ := σ) (p := p)
    refine am_at hS (fun t => Nat.beq t 7 || Nat.beq t 44) 90 7 ?_
    refine ⟨fun _ => ?_, fun q => absurd (show nI p < J 88 9 by rw [zJ.1.1]; exact nI_lt hp (by omega)) q⟩
    refine ⟨_, _, (by omega : k - 1 < k), m_walk zi (by omega) zw zJ w hp, ?_⟩
    rintro _ F w1 ⟨⟨v, rfl, v0, v1⟩, rfl, -, fF⟩
    have fF := fJ.trans (toR fF)
    cases hb : bfB (bfE σ p) (2 * p + 1) with
    | none =>
      have ev := v0 hb
      refine ⟨fun _ => ?_, fun q => absurd ev q⟩
      have h2 := hn F b h (some (.int v)) X6 (fun e => hb0 (by rw [← hno hb]; exact e)) (fun n q e => hb1 n q (by rw [← hno hb]; exact e)) fF
      rw [← nI_1] at h2
      exact h2
    | some y =>
      have hI : bIn σ p (bfE σ p) := bIn_i zw hp 18
      have ev := v1 (by rw [hb]; rfl)
      have hlt := (bIn_so hI (x := 2 * p + 1) (by rw [hb]; rfl)).2
      have hle := bIn_le hI
      have r0 := rg_0 (σ := σ) hb
      have r1 : ∀ n q, rgN σ p = some (n, q) → rgN σ (p + 1) = if bfS (bfE σ p) (2 * p + 1) < n then some (bfS (bfE σ p) (2 * p + 1), p) else some (n, q) := fun n q => rg_1 hb
      obtain ⟨n, en⟩ : ∃ n, n = bfS (bfE σ p) (2 * p + 1) := ⟨_, rfl⟩
      rw [← en] at ev hlt r0 r1
      have a44 : rgN σ (p + 1) = some (n, p) → S 44 [some (.ref 88), some (.int i), some (.int b), some (.int h), some (.int (nI p)), some (.int v), X6] [] F w1 := fun e => by
        refine am_at hS (fun t => Nat.beq t 7) 90 44 ?_
        have h2 := hn F v (nI p) (some (.int v)) X6 (fun e2 => by rw [e] at e2; cases e2) (fun n' q' e2 => by rw [e] at e2; cases e2; exact ⟨ev, rfl⟩) fF
        rw [← nI_1] at h2
        exact h2
      refine ⟨fun q => absurd (ev.symm.trans q) (nI_ne1 (by omega)), fun _ => ?_⟩
      cases hr : rgN σ p with
      | none =>
        have eb := hb0 hr
        exact ⟨fun _ => a44 (r0 hr), fun q => absurd eb q⟩
      | some x =>
        obtain ⟨m, x⟩ := x
        obtain ⟨eb, eh⟩ := hb1 m x hr
        obtain ⟨-, -, -, m0, m18⟩ := rg_ok zw (by omega) hr
        refine ⟨fun q => absurd (eb.symm.trans q) (nI_ne1 (by omega)), fun _ => ?_⟩
        refine ⟨fun hlt2 => ?_, fun hlt2 => ?_⟩
        · rw [ev, eb, nlt (by omega) (by omega)] at hlt2
          exact a44 (by rw [r1 m x hr, if_pos hlt2])
        · rw [ev, eb, nlt (by omega) (by omega)] at hlt2
          have e3 : rgN σ (p + 1) = some (m, x) := by rw [r1 m x hr, if_neg hlt2]
          have h2 := hn F b h (some (.int v)) X6 (fun e2 => by rw [e3] at e2; cases e2) (fun n' q' e2 => by rw [e3] at e2; cases e2; exact ⟨eb, eh⟩) fF
          rw [← nI_1] at h2
          exact h2
  case z =>
    intro J b h X5 X6 hb0 hb1 fJ
    have zJ := RS_rg fJ (Or.inl rfl) zR
    cases hr : rgN σ (sN σ) with
    | none =>
      have eb := hb0 hr
      rw [hr] at hS
      dsimp only at hS
      refine am_at hS (fun t => Nat.beq t 7) 90 7 ?_
      refine ⟨fun q => absurd q (by rw [zJ.1.1]; exact nI_nlt (Nat.le_refl _) (by omega)), fun _ => ?_⟩
      refine ⟨fun _ => ⟨congrArg (fun y => some (Value.int y)) eb, rfl, fJ⟩, fun _ => ?_⟩
      exact ⟨fun _ => ⟨rfl, rfl, fJ⟩, fun q => absurd eb q⟩
    | some x =>
      obtain ⟨n, x⟩ := x
      obtain ⟨eb, eh⟩ := hb1 n x hr
      obtain ⟨x1, x2, x3, n0, n18⟩ := rg_ok zw (Nat.le_refl _) hr
      rw [hr] at hS
      dsimp only at hS
      refine am_at hS (fun t => Nat.beq t 7 || Nat.beq t 101) 90 7 ?_
      refine ⟨fun q => absurd q (by rw [zJ.1.1]; exact nI_nlt (Nat.le_refl _) (by omega)), fun _ => ?_⟩
      refine ⟨fun hi => ?_, fun hi => ?_⟩
      · exact ⟨congrArg (fun y => some (Value.int y)) (eb.trans (if_pos (show i = -1 from hi)).symm), rfl, fJ⟩
      have hi : ¬ i = -1 := hi
      rw [if_neg hi] at hS
      refine ⟨fun q => absurd (eb.symm.trans q) (nI_ne1 (by omega)), fun _ => ?_⟩
      refine ⟨_, _, (by omega : k - 1 < k), r_in zi J w _ _ _, am_elim ?_⟩
      have ein : inl i.toInt64 0 (b - 1).toInt64 = inb i n := by rw [eb]; exact inl_inb i (by omega)
      refine ⟨fun h78 => ?_, fun h78 => ?_⟩
      · rw [ein, bi_eq0] at h78
        exact ⟨congrArg (fun y => some (Value.int y)) ((if_neg hi).trans (by rw [h78]; rfl)).symm, rfl, fJ⟩
      rw [ein, bi_eq0, Bool.not_eq_false] at h78
      obtain ⟨y, hy, rfl⟩ := inb_of h78 (by omega)
      rw [h78, cond_true, nI_clamp (by omega)] at hS
      have erw : ∀ k, rrw σ n x k = bch (bfE σ x) (2 * x + 1) (n - k) / 2 := fun _ => rfl
      have hI : bIn σ x (bfE σ x) := bIn_i zw (by omega) 18
      have hcall := m_walk zi (k := k - 1) (by omega) zw zJ w (show x < sN σ by omega)
      obtain ⟨z, ez⟩ : ∃ z, z = bfE σ x := ⟨_, rfl⟩
      rw [← ez] at hI x2 x3 hcall
      refine ⟨_, _, (by omega : k - 1 < k), (by rw [eh]; exact hcall), ?_⟩
      rintro _ F w1 ⟨⟨v, rfl, -, v1⟩, rfl, hF, fF⟩
      have fF := fJ.trans (toR fF)
      have ev := v1 x2
      rw [← x3] at ev
      obtain ⟨-, c3⟩ := hF
      have l101 := down (P := fun j => ∀ J2, am_fs 88 [] fRg I J2 → J2 105 = F 105 → (∀ k, n - j ≤ k → k < n → J2 107 k = nI (rrw σ n x k)) → S 101 [some (.ref 88), some (.int (nI y)), some (.int b), some (.int h), some (.int v), some (.int (nI (bch z (2 * x + 1) j))), some (.int (nI (n - j)))] [] J2 w1) n ?z2 ?s2
      case z2 =>
        intro J2 fJ2 h105 hk
        refine am_at hS (fun t => Nat.beq t 101) 90 101 ?_
        rw [Nat.sub_self]
        refine ⟨fun q => absurd (show (0 : Int32) < nI 0 from q) (by decide), fun _ => ?_⟩
        refine ⟨vp_in_nI (by omega) (by omega), ?_⟩
        rw [nI_clamp (by omega)]
        exact ⟨congrArg (fun y => some (Value.int y)) (hk y (by omega) hy), rfl, fJ2⟩
      case s2 =>
        intro j hj hn J2 fJ2 h105 hk
        obtain ⟨g1, g2⟩ := bch_ok hI x2 j (by omega)
        obtain ⟨u, eu⟩ := isS g1
        have hu := bIn_y zw hI eu
        have hc18 := (bIn_so hI g1).1
        have hne : bch z (2 * x + 1) j ≠ 2 * x := fun q => by
          have := hI.2.2.1.2
          rw [← q] at this
          omega
        have e105 : J2 105 (bch z (2 * x + 1) j) = nI u := by rw [h105]; exact ((c3 _ (by omega)).2 u eu).2 hne
        have ech : bch z (2 * x + 1) (j + 1) = u := by rw [bch, eu]; rfl
        refine am_at hS (fun t => Nat.beq t 101) 90 101 ?_
        refine ⟨fun _ => ?_, fun q => absurd (show nI 0 < nI (n - j) from nI_lt (by omega) (by omega)) q⟩
        refine ⟨vp_in_nI (by omega) (by omega), ?_⟩
        rw [nI_clamp (by omega), e105]
        refine ⟨by decide, ?_⟩
        refine ⟨by rw [sub_one (show 0 < n - j by omega) (by omega)]; exact vp_in_nI (by omega) (by omega), ?_⟩
        rw [sub_one (show 0 < n - j by omega) (by omega), nI_clamp (by omega), (div2 hu).1]
        have hq := hn (am_up J2 107 (n - j - 1) (nI (u / 2))) (am_fs.up fJ2 (by decide) (by decide)) (by rw [am_up_ne (by decide)]; exact h105) (fun k hk1 hk2 => by
          by_cases e : k = n - j - 1
          · rw [e, am_seq, erw, ← ez, show n - (n - j - 1) = j + 1 by omega, ech]
          · rw [am_sne e]
            exact hk k (by omega) hk2)
        rw [ech, show n - (j + 1) = n - j - 1 by omega, ← sub_one (show 0 < n - j by omega) (by omega), ← m1] at hq
        exact hq
      have hq := l101 0 (Nat.zero_le _) F fF rfl (fun k h1 h2 => absurd h1 (by omega))
      rw [Nat.sub_zero, ← ev] at hq
      have e21 : 2 * h + 1 = nI (bch z (2 * x + 1) 0) := by rw [eh, mul2, nI_1]; rfl
      rw [← e21] at hq
      exact hq
  refine am_at hS (fun t => Nat.beq t 7) 90 0 ?_
  exact loop 0 (Nat.zero_le _) I (-1) (-1) none none (fun _ => rfl) (fun n q e => by rw [rg_z] at e; cases e) am_fs.refl
