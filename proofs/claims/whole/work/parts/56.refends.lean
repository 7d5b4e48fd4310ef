/-! the reference's ends, text -/
theorem tW_b {V : Tx} {r : Nat} {σ : St} (zw : wf σ) {p : Nat} : ∀ f, (tW V r σ p).1 = some f → f < 2 ^ 31 := fun f hf => by
  unfold tW at hf
  cases hq : (wsF V r σ p).1 with
  | none => rw [hq] at hf; cases hf
  | some g =>
    rw [hq] at hf
    cases hf
    have := wst_lt hq
    have := sM_le zw
    omega
theorem m_ends {E : am_E} (zi : am_inj E) {k : Nat} (hk : 44 ≤ k) {σ : St} (zw : wf σ) {I : am_I} (zR : RS I σ) (w : Int64) {T r : Nat} {V : Tx} (zL : RL I T r V) (n : Int32) :
    am_Ret E k Y_MO_ends [.ref 88, .int n] I w (fun q I' w' => q = some (.int (aEnds V r σ n)) ∧ RS I' σ ∧ am_fs 88 rdFs [96, 111] I I') := by
  refine am_intro (pv_MO_ends E k) (by decide) zi ?_ rfl rfl ?_
  · rintro _ _ _ ⟨rfl, -⟩; rfl
  intro S hS
  have h9 := zw.1
  have h36 := sM_le zw
  have kL : ∀ {J}, am_fs 88 rdFs [96, 111] I J → RL J T r V := fun h => RL_fs h (by decide) (by decide) (by decide) (by decide) zL
  unfold aEnds at hS
  refine am_at hS (fun t => Nat.beq t 17) 80 0 ?_
  refine ⟨_, _, (by omega : k - 1 < k), r_in zi I w _ _ _, am_elim ?_⟩
  rw [inl_20]
  refine ⟨fun h => ?_, fun h => ?_⟩
  · rw [bi_eq0] at h
    rw [h]
    exact ⟨rfl, zR, am_fs.refl⟩
  rw [bi_eq0, Bool.not_eq_false] at h
  obtain ⟨m, hm, rfl⟩ := inb_of h (by decide)
  rw [h, nI_clamp (by omega)] at hS
  have l119 : ∀ X4 X5 X6 s J u, am_fs 88 rdFs [96, 111] I J → RS J (sSg σ s) → (∀ g, g < sM σ → J 111 g = sS σ g) → S 119 [some (.ref 88), some (.int (nI m)), some (.int (enc (eR V r σ (m + 1)).1)), some (.int 0), X4, X5, X6] [] J u := by
    intro X4 X5 X6
    have lp := down (P := fun g => ∀ s J u, am_fs 88 rdFs [96, 111] I J → RS J (sSg σ s) → (∀ g, g < sM σ → J 111 g = sS σ g) → (∀ j, j < g → J 96 j = sS σ j) → S 119 [some (.ref 88), some (.int (nI m)), some (.int (enc (eR V r σ (m + 1)).1)), some (.int (nI g)), X4, X5, X6] [] J u) (sM σ) ?z ?s
    case z =>
      intro s J u hJ zJ h1 h2
      have c1 : J 88 16 = nI (sM σ) := zJ.2.1
      refine am_at hS (fun t => Nat.beq t 119) 80 119 ?_
      refine ⟨fun q => absurd q (by show ¬ nI (sM σ) < J 88 16; rw [c1]; exact nI_nlt (Nat.le_refl _) (by omega)), fun _ => ?_⟩
      exact ⟨rfl, RS_sg (σ := sSg σ s) (s := sS σ) (fun _ _ _ _ => rfl) rfl rfl h2 zJ, hJ⟩
    case s =>
      intro g hg hn s J u hJ zJ h1 h2
      have c1 : J 88 16 = nI (sM σ) := zJ.2.1
      refine am_at hS (fun t => Nat.beq t 119) 80 119 ?_
      refine ⟨fun _ => ?_, fun q => absurd (show nI g < J 88 16 by rw [c1]; exact nI_lt hg (by omega)) q⟩
      refine ⟨vp_in_nI (by omega) (by omega), ?_⟩
      refine ⟨vp_in_nI (by omega) (by omega), ?_⟩
      rw [nI_clamp (by omega)]
      have z2 : RS (am_up J 96 g (J 111 g)) (sSg σ (fup s g (J 111 g))) := RS_sg (σ := sSg σ s) (s := fup s g (J 111 g)) (fun q a b c => am_up_ne c) (by rw [am_up_ne (by decide)]) (by rw [am_up_ne (by decide)]) (fun f hf => by
        rw [am_up_fup]
        by_cases e : f = g
        · rw [e, fup_self, fup_self]
        · rw [fup_ne e, fup_ne e]; exact (zJ.2.2 f hf).2.2.1) zJ
      have hgo := hn _ (am_up J 96 g (J 111 g)) u (am_fs.up hJ (by decide) (by decide)) z2 (fun j hj => by rw [am_up_ne (by decide)]; exact h1 j hj) (fun j hj => by
        rw [am_up_fup]
        by_cases e : j = g
        · rw [e, fup_self]; exact h1 g hg
        · rw [fup_ne e]; exact h2 j (by omega))
      rw [← nI_1] at hgo
      exact hgo
    intro s J u hJ zJ h1
    exact lp 0 (Nat.zero_le _) s J u hJ zJ h1 (fun j hj => absurd hj (by omega))
  have l47 := down (P := fun i => ∀ X4 X5 X6 J u, am_fs 88 rdFs [96, 111] I J → RS J (sSg σ (eR V r σ i).2) → (∀ g, g < sM σ → J 111 g = sS σ g) → S 47 [some (.ref 88), some (.int (nI m)), some (.int (enc (eR V r σ i).1)), some (.int (nI i)), X4, X5, X6] [] J u) (m + 1) ?z2 ?s2
  case z2 =>
    intro X4 X5 X6 J u hJ zJ h1
    refine am_at hS (fun t => Nat.beq t 47 || Nat.beq t 63 || Nat.beq t 119) 80 47 ?_
    refine ⟨fun _ => ?_, fun q => absurd (nI_lt (Nat.lt_succ_self m) (by omega)) q⟩
    exact l119 _ _ _ _ J u hJ zJ h1
  case s2 =>
    intro i hi hn X4 X5 X6 J u hJ zJ h1
    have wi := eR_sg (V := V) (r := r) zw i
    refine am_at hS (fun t => Nat.beq t 47 || Nat.beq t 63 || Nat.beq t 119) 80 47 ?_
    refine ⟨fun q => absurd q (nI_nlt (by omega) (by omega)), fun _ => ?_⟩
    refine ⟨fun h54 => ?_, fun h54 => ?_⟩
    · have e := enc_none h54 (fun f hf => by have := eR_lt hf; omega)
      have eS : eR V r σ (i + 1) = (cond (tA V r (sSg σ (eR V r σ i).2) (sN σ)).1 none (some i), (tA V r (sSg σ (eR V r σ i).2) (sN σ)).2) := by rw [eR, e]
      rw [e]
      have l63 := down (P := fun p => ∀ X6 J u, am_fs 88 rdFs [96, 111] I J → RS J (sSg (sSg σ (eR V r σ i).2) (tA V r (sSg σ (eR V r σ i).2) p).2) → (∀ g, g < sM σ → J 111 g = sS σ g) → S 63 [some (.ref 88), some (.int (nI m)), some (.int (-1)), some (.int (nI i)), some (.int (bi (tA V r (sSg σ (eR V r σ i).2) p).1)), some (.int (nI p)), X6] [] J u) (sN σ) ?z3 ?s3
      case z3 =>
        intro X6 J u hJ zJ h1
        have c1 : J 88 9 = nI (sN σ) := zJ.1.1
        have hgo := hn (some (.int (bi (tA V r (sSg σ (eR V r σ i).2) (sN σ)).1))) (some (.int (nI (sN σ)))) X6 J u hJ (by rw [eS]; exact zJ) h1
        rw [eS, ← nI_1] at hgo
        refine am_at hS (fun t => Nat.beq t 47 || Nat.beq t 63) 80 63 ?_
        refine ⟨fun q => absurd q (by show ¬ nI (sN σ) < J 88 9; rw [c1]; exact nI_nlt (Nat.le_refl _) (by omega)), fun _ => ?_⟩
        refine ⟨fun h106 => ?_, fun h106 => ?_⟩
        · rw [bi_eq0] at h106
          rw [h106]
          rw [h106] at hgo
          exact hgo
        · rw [bi_eq0, Bool.not_eq_false] at h106
          rw [h106]
          rw [h106] at hgo
          exact hgo
      case s3 =>
        intro p hp hn3 X6 J u hJ zJ h1
        have c1 : J 88 9 = nI (sN σ) := zJ.1.1
        have wp := tA_sg (V := V) (r := r) wi p
        refine am_at hS (fun t => Nat.beq t 63) 80 63 ?_
        refine ⟨fun _ => ?_, fun q => absurd (show nI p < J 88 9 by rw [c1]; exact nI_lt hp (by omega)) q⟩
        refine ⟨_, _, (by omega : k - 1 < k), m_steps zi (by omega) wp zJ u (kL hJ) (p := p) (by omega), ?_⟩
        rintro _ I1 w1 ⟨rfl, z1, f1⟩
        have hgo := fun X6 => hn3 X6 I1 w1 (hJ.trans (f1.mono (fun _ h => h) (by decide))) z1 (fun g hg => by rw [f1.1 111 (by decide) (by decide)]; exact h1 g hg)
        rw [← nI_1] at hgo
        refine ⟨fun h82 => ?_, fun h82 => ?_⟩
        · rw [bi_eq0] at h82
          refine ⟨fun h88 => ?_, fun h88 => ?_⟩
          · have e3 := enc_none h88 (tW_b wp)
            have e2 : (tA V r (sSg σ (eR V r σ i).2) (p + 1)).1 = false := by rw [tA, e3, h82]; rfl
            rw [e2] at hgo
            exact hgo _
          · obtain ⟨g, e3⟩ := enc_some (M := 0) h88
            have e2 : (tA V r (sSg σ (eR V r σ i).2) (p + 1)).1 = true := by rw [tA, e3]; exact Bool.or_true _
            rw [e2] at hgo
            exact hgo _
        · rw [bi_eq0, Bool.not_eq_false] at h82
          have e2 : (tA V r (sSg σ (eR V r σ i).2) (p + 1)).1 = true := by rw [tA, h82]; rfl
          rw [e2] at hgo
          exact hgo _
      exact l63 0 (Nat.zero_le _) X6 J u hJ zJ h1
    · obtain ⟨x, e⟩ := enc_some (M := 0) h54
      have hq := l119 X4 X5 X6 _ J u hJ zJ h1
      rw [eR_stay e (m + 1) (by omega)] at hq
      rw [e]
      exact hq
  have l17 := down (P := fun g => ∀ J u, am_fs 88 rdFs [96, 111] I J → RS J σ → (∀ j, j < g → J 111 j = sS σ j) → S 17 [some (.ref 88), some (.int (nI m)), some (.int (nI g)), none, none, none, none] [] J u) (sM σ) ?z4 ?s4
  case z4 =>
    intro J u hJ zJ h1
    have c1 : J 88 16 = nI (sM σ) := zJ.2.1
    refine am_at hS (fun t => Nat.beq t 47) 80 17 ?_
    refine ⟨fun q => absurd q (by show ¬ nI (sM σ) < J 88 16; rw [c1]; exact nI_nlt (Nat.le_refl _) (by omega)), fun _ => ?_⟩
    exact l47 0 (Nat.zero_le _) none none none J u hJ zJ h1
  case s4 =>
    intro g hg hn J u hJ zJ h1
    have c1 : J 88 16 = nI (sM σ) := zJ.2.1
    refine am_at hS (fun t => Nat.beq t 17) 80 17 ?_
    refine ⟨fun _ => ?_, fun q => absurd (show nI g < J 88 16 by rw [c1]; exact nI_lt hg (by omega)) q⟩
    refine ⟨vp_in_nI (by omega) (by omega), ?_⟩
    refine ⟨vp_in_nI (by omega) (by omega), ?_⟩
    rw [nI_clamp (by omega)]
    have hgo := hn (am_up J 111 g (J 96 g)) u (am_fs.up hJ (by decide) (by decide)) (RS_of2 (fun q a b => am_up_ne (by omega)) (by rw [am_up_ne (by decide)]) (by rw [am_up_ne (by decide)]) zJ) (fun j hj => by
      rw [am_up_fup]
      by_cases e : j = g
      · rw [e, fup_self]; exact (zJ.2.2 g hg).2.2.1
      · rw [fup_ne e]; exact h1 j (by omega))
    rw [← nI_1] at hgo
    exact hgo
  exact l17 0 (Nat.zero_le _) I w am_fs.refl zR (fun j hj => absurd hj (by omega))
theorem m_text {E : am_E} (zi : am_inj E) {k n : Nat} (hk : 43 ≤ k) {b : Nat → Nat} (zt : wft n b) {I : am_I} (zT : tR I n b) (w : Int64) {T r : Nat} {V : Tx} (zL : RL I T r V) :
    am_Ret E k Y_MO_text [.ref 88] I w (fun q I' w' => q = some (.int (aText n b T V).1) ∧ RL I' (aText n b T V).2.1 r (aText n b T V).2.2.1 ∧ tR I' (aText n b T V).2.2.2 b ∧ am_fs 88 (3 :: 6 :: rdFs) [89, 90] I I') := by
  refine am_intro (pv_MO_text E k) (by decide) zi ?_ rfl rfl ?_
  · rintro _ _ _ ⟨rfl, -⟩; rfl
  intro S hS
  have zL0 := zL
  obtain ⟨l1, l2, l3, l4, l5⟩ := zL
  obtain ⟨L, hfs⟩ := fsL_ex zt
  have h16 := zt.1
  unfold aText at hS
  refine am_at hS (fun t => Nat.beq t 14) 80 0 ?_
  by_cases hT : T < 6
  · refine ⟨fun q => absurd (show I 88 3 = nI 6 from q) (by rw [l1, neq (by omega) (by decide)]; omega), fun _ => ?_⟩
    rw [if_pos hT] at hS
    have e160 : (160 : Int32) * nI T = nI (160 * T) := by rw [show (160 : Int32) = nI 160 from rfl, pk_mul]
    have lp := down (P := fun i => ∀ J, am_fs 88 [] [89] I J → (∀ j, j < i → J 89 (160 * T + j) = nI (b j)) → (∀ j, j < 160 * T → J 89 j = I 89 j) → S 14 [some (.ref 88), some (.int (nI i))] [] J w) n ?z ?s
    case z =>
      intro J hJ h1 h2
      have c6 : J 88 6 = nI n := by rw [hJ.2 6 (by decide)]; exact zT.1
      have c3 : J 88 3 = nI T := by rw [hJ.2 3 (by decide)]; exact l1
      refine am_at hS (fun t => Nat.beq t 14) 120 14 ?_
      refine ⟨fun q => absurd q (by show ¬ nI n < J 88 6; rw [c6]; exact nI_nlt (Nat.le_refl _) (by omega)), fun _ => ?_⟩
      refine ⟨by rw [c3]; exact vp_in_nI (by omega) (by omega), ?_⟩
      rw [c3, nI_clamp (by omega), c6]
      have f2 : am_fs 88 (3 :: 6 :: rdFs) [89, 90] I (am_up (am_up J 90 T (nI n)) 88 6 0) := am_fs.upo (am_fs.up (hJ.mono (by decide) (by decide)) (by decide) (by decide)) (by decide)
      have e3 : am_up (am_up J 90 T (nI n)) 88 6 0 88 3 = nI T := by rw [am_sne (by decide), am_up_ne (by decide)]; exact c3
      have e90 : am_up (am_up J 90 T (nI n)) 88 6 0 90 T = nI n := by rw [am_up_ne (by decide), am_seq]
      have e89 : ∀ j, am_up (am_up J 90 T (nI n)) 88 6 0 89 j = J 89 j := fun j => by rw [am_up_ne (by decide), am_up_ne (by decide)]
      refine ⟨_, _, (by omega : k - 1 < k), (by rw [e3]; exact r_read zi (by omega) zt w hT (by decide) e90 (fun j hj => by rw [e89]; exact h1 j hj) 0), ?_⟩
      rintro _ I1 w1 ⟨f3, v, rfl, p1, p2⟩
      have g3 := f2.trans (f3.mono (js' := 3 :: 6 :: rdFs) (l' := [89, 90]) (by decide) (by decide))
      have q3 : I1 88 3 = nI T := by rw [f3.2 3 (by decide)]; exact e3
      have q4 : I1 88 4 = nI r := by rw [g3.2 4 (by decide)]; exact l2
      have q6 : I1 88 6 = 0 := by rw [f3.2 6 (by decide), am_seq]
      have q90 : ∀ x, I1 90 x = if x = T then nI n else I 90 x := fun x => by
        rw [f3.1 90 (by decide) (by decide), am_up_ne (by decide), am_up_fup]
        by_cases ex : x = T
        · rw [ex, fup_self, if_pos rfl]
        · rw [fup_ne ex, if_neg ex, hJ.1 90 (by decide) (by decide)]
      have q89 : ∀ j, I1 89 j = J 89 j := fun j => by rw [f3.1 89 (by decide) (by decide)]; exact e89 j
      have old : ∀ x, x < T → ∃ (n : Nat) (b : Nat → Nat), wft n b ∧ I1 90 x = nI n ∧ (∀ j, j < n → I1 89 (160 * x + j) = nI (b j)) ∧ (ptx (tkc n b)).1.1 = true ∧ (ptx (tkc n b)).2.2 = V x := fun x hx => by
        obtain ⟨n', b', t1, t2, t3, t4, t5⟩ := l5 x hx
        refine ⟨n', b', t1, by rw [q90, if_neg (by omega)]; exact t2, fun j hj => ?_, t4, t5⟩
        have := t1.1
        rw [q89, h2 _ (by omega)]
        exact t3 j hj
      cases hx : (ptx (tkc n b)).1.1 with
      | false =>
        obtain ⟨b1, b2⟩ := p2 hx
        refine ⟨fun q => absurd (b1.symm.trans q) (by decide), fun _ => ?_⟩
        refine ⟨by rw [b2]; rfl, ⟨q3, q4, l3, l4, old⟩, ⟨by rw [q6]; rfl, fun j hj => absurd hj (by show ¬ j < 0; omega)⟩, g3⟩
      | true =>
        obtain ⟨b1, b2⟩ := p1 hx
        refine ⟨fun _ => ?_, fun q => absurd b2 q⟩
        have eT : I1 88 3 + 1 = nI (T + 1) := by rw [q3, nI_1]
        refine ⟨?_, ⟨?_, ?_, hT, Nat.lt_succ_of_lt l4, fun x hx9 => ?_⟩, ⟨?_, fun j hj => absurd hj (by show ¬ j < 0; omega)⟩, ?_⟩
        · rw [am_seq, eT, nI_pred]
          rfl
        · rw [am_seq, eT]
          rfl
        · rw [am_sne (by decide)]; exact q4
        · have hx8 : x < T + 1 := hx9
          rw [am_up_ne (show (90 : Nat) ≠ 88 by decide), am_up_ne (show (89 : Nat) ≠ 88 by decide)]
          by_cases ex : x = T
          · subst ex
            have eV : (cond true (nI x, x + 1, fup V x (ptx (tkc n b)).2.2, 0) (-100 - nI (tpl n b (ptx (tkc n b)).1.2), x, V, 0)).2.2.1 x = (ptx (tkc n b)).2.2 := fup_self
            rw [eV]
            exact ⟨n, b, zt, by rw [q90, if_pos rfl], fun j hj => by rw [q89]; exact h1 j hj, hx, rfl⟩
          · have eV : (cond true (nI T, T + 1, fup V T (ptx (tkc n b)).2.2, 0) (-100 - nI (tpl n b (ptx (tkc n b)).1.2), T, V, 0)).2.2.1 x = V x := fup_ne ex
            rw [eV]
            exact old x (by omega)
        · rw [am_sne (by decide), q6]
          rfl
        · exact am_fs.upo g3 (by decide)
    case s =>
      intro i hi hn J hJ h1 h2
      have c6 : J 88 6 = nI n := by rw [hJ.2 6 (by decide)]; exact zT.1
      have c3 : J 88 3 = nI T := by rw [hJ.2 3 (by decide)]; exact l1
      refine am_at hS (fun t => Nat.beq t 14) 120 14 ?_
      refine ⟨fun _ => ?_, fun q => absurd (show nI i < J 88 6 by rw [c6]; exact nI_lt hi (by omega)) q⟩
      refine ⟨vp_in_nI (by omega) (by omega), ?_⟩
      refine ⟨by rw [c3, e160, nI_add]; exact vp_in_nI (by omega) (by omega), ?_⟩
      rw [c3, e160, nI_add, nI_clamp (by omega), nI_clamp (by omega), hJ.1 91 (by decide) (by decide), zT.2 i hi]
      have hgo := hn (am_up J 89 (160 * T + i) (nI (b i))) (am_fs.up hJ (by decide) (by decide)) (fun j hj => by
        rw [am_up_fup]
        by_cases e : j = i
        · rw [e, fup_self]
        · rw [fup_ne (by omega)]; exact h1 j (by omega)) (fun j hj => by rw [am_up_fup, fup_ne (by omega)]; exact h2 j hj)
      rw [← nI_1] at hgo
      exact hgo
    exact lp 0 (Nat.zero_le _) I am_fs.refl (fun j hj => absurd hj (by omega)) (fun _ _ => rfl)
  · refine ⟨fun _ => ?_, fun q => absurd (show I 88 3 = nI 6 by rw [l1, show T = 6 by omega]) q⟩
    rw [if_neg hT]
    exact ⟨rfl, zL0, zT, am_fs.refl⟩
