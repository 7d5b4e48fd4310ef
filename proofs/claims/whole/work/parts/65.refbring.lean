/-! the reference's bring -/
theorem en_cnt {V : Tx} {r : Nat} {σ : St} {x : Nat} (hm : mA V r σ = some x) (a b told : Nat) : enB V r σ a b told = decide (cnt (fun u => decide (vv V r σ u = some x) && bad1 (so0 V r σ) told a b (2 * u)) (hN (sN σ)) = 0) := by
  unfold enB
  congr 2
  have := cnt_al (v := vv V r σ) (x := x) (Q := fun m => bad1 (so0 V r σ) told a b m) (hN (sN σ))
  rw [← lA_of hm] at this
  exact this
def vM (V : Tx) (r : Nat) (σ : St) (told u : Nat) : Option Nat := cond ((2 * u ^^^ so0 V r σ) &&& told == 0) (vv V r σ u) none
theorem vM_some {V : Tx} {r : Nat} {σ : St} {told u y : Nat} (h : vM V r σ told u = some y) : vv V r σ u = some y := by
  unfold vM at h
  cases hc : ((2 * u ^^^ so0 V r σ) &&& told == 0) with
  | false => rw [hc] at h; cases h
  | true => rw [hc] at h; exact h
theorem vM_min {V : Tx} {r : Nat} {σ : St} {x : Nat} (hm : mA V r σ = some x) (told : Nat) : lsN (vM V r σ told) (hN (sN σ)) = some x := by
  obtain ⟨u, h1, h2, h3, h4⟩ := lA_first hm
  have hu : vM V r σ told u = some x := by
    unfold vM
    rw [h4, Nat.xor_self, Nat.zero_and]
    exact h2
  cases hl : lsN (vM V r σ told) (hN (sN σ)) with
  | none => rw [ls_none hl u h1] at hu; cases hu
  | some y =>
    have a1 := ls_min hl u h1 x hu
    obtain ⟨u', b1, b2⟩ := ls_mem hl
    have a2 := ls_min hm u' b1 y (vM_some b2)
    rw [show y = x by omega]
theorem m_bring {E : am_E} (zi : am_inj E) {k : Nat} (hk : 46 ≤ k) {σ : St} (zw : wf σ) {I : am_I} (zR : RS I σ) (w : Int64) {T r : Nat} {V : Tx} (zL : RL I T r V) (a b : Int32) :
    am_Ret E k Y_MO_bring [.ref 88, .int a, .int b] I w (fun q I' w' => q = some (.int (aBring V r σ a b)) ∧ am_fs 88 rdFs fAl I I') := by
  refine am_intro (pv_MO_bring E k) (by decide) zi ?_ rfl rfl ?_
  · rintro _ _ _ ⟨rfl, -⟩; rfl
  intro S hS
  have h9 := zw.1
  have hp2 := p2_le h9
  have h2H := hN_2 (N := sN σ)
  have hH := hN_le h9
  have c1 := zR.1.1
  unfold aBring at hS
  refine am_at hS (fun t => Nat.beq t 40) 90 0 ?_
  refine ⟨_, _, (by omega : k - 1 < k), r_isPerson zi I w (by omega) (by omega) c1 a, am_elim ?_⟩
  refine ⟨fun h5 => ?_, fun h5 => ?_⟩
  · rw [bi_eq0] at h5
    rw [show two a b (sN σ) = false by unfold two; rw [h5]; rfl]
    exact ⟨rfl, am_fs.refl⟩
  rw [bi_eq0, Bool.not_eq_false] at h5
  refine ⟨_, _, (by omega : k - 1 < k), r_isPerson zi I w (by omega) (by omega) c1 b, am_elim ?_⟩
  refine ⟨fun h13 => ?_, fun h13 => ?_⟩
  · rw [bi_eq0] at h13
    rw [show two a b (sN σ) = false by unfold two; rw [h13, Bool.false_and, Bool.and_false]]
    exact ⟨rfl, am_fs.refl⟩
  rw [bi_eq0, Bool.not_eq_false] at h13
  refine ⟨fun h18 => ?_, fun h18 => ?_⟩
  · rw [show two a b (sN σ) = false by unfold two; rw [h18, show (b == b) = true from beq_self_eq_true b, Bool.not_true, Bool.and_false, Bool.and_false]]
    exact ⟨rfl, am_fs.refl⟩
  have h : two a b (sN σ) = true := by unfold two; rw [h5, h13, beq_eq_false_iff_ne.mpr h18]; rfl
  obtain ⟨x, y, hx, hy, hxy, rfl, rfl⟩ := two_of h (by omega)
  rw [h, cond_true, nI_clamp (by omega), nI_clamp (by omega)] at hS
  rw [h, cond_true, nI_clamp (by omega), nI_clamp (by omega)]
  refine ⟨_, _, (by omega : k - 1 < k), m_goesAll zi (by omega) zw zR w zL, ?_⟩
  rintro _ J w1 ⟨rfl, hA, fJ⟩
  have zJ := RS_al fJ (Or.inl rfl) (by decide) (by decide) zR
  have p1 : J 88 9 = nI (sN σ) := zJ.1.1
  cases hm : mA V r σ with
  | none =>
    rw [if_pos rfl]
    exact ⟨fun _ => ⟨rfl, fJ⟩, fun q => absurd rfl q⟩
  | some m =>
    have hmb := mA_le zw hm
    have hN0 := mA_N hm
    have eH : 2 * hN (sN σ) = 2 ^ sN σ := by unfold pcN at h2H; rw [if_neg hN0] at h2H; exact h2H
    obtain ⟨u0, hu0, hv0, hmin, hso⟩ := lA_first hm
    have hso5 := so_lt zw hm
    rw [if_neg (by rw [hm]; exact fun q => by cases q)] at hS
    refine ⟨fun q => absurd q (nI_ne1 (by omega)), fun _ => ?_⟩
    -- the fewest
    have l81 := down (P := fun t => tg (so0 V r σ) x y = true → ∀ X7 X8 X9, S 81 [some (.ref 88), some (.int (nI x)), some (.int (nI y)), some (.int (nI m)), some (.int (nI (so0 V r σ))), some (.int (enc (fbN V r σ x y t))), some (.int (nI t)), X7, X8, X9] [] J w1) (2 ^ sN σ) ?z ?s
    case z =>
      intro htg X7 X8 X9
      refine am_at hS (fun t => Nat.beq t 81) 60 81 ?_
      refine ⟨fun q => absurd q (by rw [p1, nI_shl1 (by omega)]; exact nI_nlt (Nat.le_refl _) (by omega)), fun _ => ?_⟩
      rw [htg]
      exact ⟨rfl, fJ⟩
    case s =>
      intro t ht hn0 htg X7 X8 X9
      have hn := hn0 htg
      have ht5 : t < 512 := by omega
      have no : ((t &&& (2 ^ x ||| 2 ^ y) == 0) && (few t (fbN V r σ x y t) && enB V r σ x y t)) = false → ∀ X7 X8 X9, S 279 [some (.ref 88), some (.int (nI x)), some (.int (nI y)), some (.int (nI m)), some (.int (nI (so0 V r σ))), some (.int (enc (fbN V r σ x y t))), some (.int (nI t)), X7, X8, X9] [] J w1 := fun h X7 X8 X9 => by
        have hq := hn X7 X8 X9
        rw [fbN, h, cond_false, ← nI_1] at hq
        exact am_at hS (fun t => Nat.beq t 81) 60 279 hq
      have bx : (nI t >>> (nI x &&& 31)) &&& 1 = bi (t.testBit x) := nI_bit (by omega) (by omega)
      have by_ : (nI t >>> (nI y &&& 31)) &&& 1 = bi (t.testBit y) := nI_bit (by omega) (by omega)
      have b1 : ∀ q : Bool, (bi q = 1) = (q = true) := fun q => by cases q <;> decide
      have a134 : (t &&& (2 ^ x ||| 2 ^ y) == 0) = true → few t (fbN V r σ x y t) = true → ∀ X7 X8 X9, S 134 [some (.ref 88), some (.int (nI x)), some (.int (nI y)), some (.int (nI m)), some (.int (nI (so0 V r σ))), some (.int (enc (fbN V r σ x y t))), some (.int (nI t)), X7, X8, X9] [] J w1 := fun g1 g2 X7 X8 X9 => by
        have ex : ∀ u, u < 256 → (nI (2 * u) ^^^ nI (so0 V r σ)) &&& nI t = nI ((2 * u ^^^ so0 V r σ) &&& t) := fun u _ => by rw [nI_xor, nI_and]
        have hb5 : ∀ u, (2 * u ^^^ so0 V r σ) &&& t < 512 := fun u => Nat.lt_of_le_of_lt Nat.and_le_right ht5
        have l212 := down (P := fun u => ∀ v8, v8 = bi (decide (cnt (fun u => decide (vv V r σ u = some m) && bad1 (so0 V r σ) t x y (2 * u)) u = 0)) → S 212 [some (.ref 88), some (.int (nI x)), some (.int (nI y)), some (.int (nI m)), some (.int (nI (so0 V r σ))), some (.int (enc (fbN V r σ x y t))), some (.int (nI t)), some (.int (nI m)), some (.int v8), some (.int (nI (2 * u)))] [] J w1) (hN (sN σ)) ?z2 ?s2
        case z2 =>
          intro v8 hv8
          rw [← en_cnt hm] at hv8
          subst hv8
          refine am_at hS (fun t => Nat.beq t 212 || Nat.beq t 279 || Nat.beq t 81) 60 212 ?_
          refine ⟨fun q => absurd q (by rw [p1, nI_shl1 (by omega), nlt (by omega) (by omega)]; omega), fun _ => ?_⟩
          cases he : enB V r σ x y t with
          | false => exact ⟨fun _ => no (by rw [he, Bool.and_false, Bool.and_false]) _ _ _, fun q => absurd rfl q⟩
          | true =>
            refine ⟨fun q => absurd (show (1 : Int32) = 0 from q) (by decide), fun _ => ?_⟩
            have hq := hn (some (.int (nI m))) (some (.int (bi true))) (some (.int (nI (2 * hN (sN σ)))))
            rw [fbN, g1, g2, he, ← nI_1] at hq
            exact am_at hS (fun t => Nat.beq t 81) 60 279 hq
        case s2 =>
          intro u hu hn2 v8 hv8
          rw [show 2 * (u + 1) = 2 * u + 2 by omega, ← nI_add (2 * u)] at hn2
          refine am_at hS (fun t => Nat.beq t 212) 90 212 ?_
          refine ⟨fun _ => ?_, fun q => absurd (by rw [p1, nI_shl1 (by omega), nlt (by omega) (by omega)]; omega) q⟩
          refine ⟨vp_in_nI (by omega) (by omega), ?_⟩
          rw [nI_clamp (by omega), hA u hu]
          have keep : (decide (vv V r σ u = some m) && bad1 (so0 V r σ) t x y (2 * u)) = false → v8 = bi (decide (cnt (fun u => decide (vv V r σ u = some m) && bad1 (so0 V r σ) t x y (2 * u)) (u + 1) = 0)) := fun h => by
            rw [hv8, cnt, h]
            rfl
          refine ⟨fun h232 => ?_, fun h232 => ?_⟩
          · rw [en_eq zw hmb] at h232
            refine ⟨fun h243 => ?_, fun h243 => ?_⟩
            · have q0 : (nI (2 * u) ^^^ nI (so0 V r σ)) &&& nI t = nI 0 := h243
              rw [ex u (by omega), neq (by have := hb5 u; omega) (by decide)] at q0
              have bx2 : (nI (2 * u) >>> (nI x &&& 31)) &&& 1 = bi ((2 * u).testBit x) := nI_bit (by omega) (by omega)
              have by2 : (nI (2 * u) >>> (nI y &&& 31)) &&& 1 = bi ((2 * u).testBit y) := nI_bit (by omega) (by omega)
              have ebb : (bi ((2 * u).testBit x) = bi ((2 * u).testBit y)) = (tg (2 * u) x y = true) := by
                unfold tg
                apply propext
                cases (2 * u).testBit x <;> cases (2 * u).testBit y <;> simp [bi]
              refine ⟨fun h258 => ?_, fun h258 => ?_⟩
              · rw [bx2, by2, ebb] at h258
                exact hn2 _ (keep (by unfold bad1; rw [h258, Bool.not_true, Bool.and_false, Bool.and_false]))
              · rw [bx2, by2, ebb, Bool.not_eq_true] at h258
                refine hn2 0 ?_
                have hbad : (decide (vv V r σ u = some m) && bad1 (so0 V r σ) t x y (2 * u)) = true := by
                  unfold bad1
                  rw [decide_eq_true h232, q0, h258]
                  rfl
                rw [cnt, hbad, decide_eq_false (by show ¬ _ + 1 = 0; omega)]
                rfl
            · have q0 : ¬ (nI (2 * u) ^^^ nI (so0 V r σ)) &&& nI t = nI 0 := h243
              rw [ex u (by omega), neq (by have := hb5 u; omega) (by decide)] at q0
              exact hn2 _ (keep (by unfold bad1; rw [beq_eq_false_iff_ne.mpr q0, Bool.false_and, Bool.and_false]))
          · rw [en_eq zw hmb] at h232
            exact hn2 _ (keep (by rw [decide_eq_false h232]; rfl))
        have l140 := down (P := fun u => ∀ X9, S 140 [some (.ref 88), some (.int (nI x)), some (.int (nI y)), some (.int (nI m)), some (.int (nI (so0 V r σ))), some (.int (enc (fbN V r σ x y t))), some (.int (nI t)), some (.int (enc (lsN (vM V r σ t) u))), some (.int (nI (2 * u))), X9] [] J w1) (hN (sN σ)) ?z3 ?s3
        case z3 =>
          intro X9
          refine am_at hS (fun t => Nat.beq t 140 || Nat.beq t 212) 90 140 ?_
          refine ⟨fun q => absurd q (by rw [p1, nI_shl1 (by omega), nlt (by omega) (by omega)]; omega), fun _ => ?_⟩
          rw [vM_min hm]
          exact l212 0 (Nat.zero_le _) 1 rfl
        case s3 =>
          intro u hu hn2 X9
          rw [show 2 * (u + 1) = 2 * u + 2 by omega, ← nI_add (2 * u)] at hn2
          have bd : vp_in (nI (2 * u)) 512 := vp_in_nI (by omega) (by omega)
          have cl : (nI (2 * u)).toNatClampNeg = 2 * u := nI_clamp (by omega)
          refine am_at hS (fun t => Nat.beq t 140) 90 140 ?_
          refine ⟨fun _ => ?_, fun q => absurd (by rw [p1, nI_shl1 (by omega), nlt (by omega) (by omega)]; omega) q⟩
          refine ⟨bd, ?_⟩
          rw [cl, hA u hu]
          have eM : vM V r σ t u = cond ((2 * u ^^^ so0 V r σ) &&& t == 0) (vv V r σ u) none := rfl
          cases hv : vv V r σ u with
          | none =>
            have e : lsN (vM V r σ t) (u + 1) = lsN (vM V r σ t) u := by
              rw [lsN, eM, hv]
              cases ((2 * u ^^^ so0 V r σ) &&& t == 0) <;> rfl
            rw [e] at hn2
            exact ⟨fun _ => hn2 _, fun q => absurd rfl q⟩
          | some v =>
            have hvb := vv_le zw hv
            refine ⟨fun q => absurd q (nI_ne1 (by omega)), fun _ => ?_⟩
            refine ⟨fun h170 => ?_, fun h170 => ?_⟩
            · have q0 : (nI (2 * u) ^^^ nI (so0 V r σ)) &&& nI t = nI 0 := h170
              rw [ex u (by omega), neq (by have := hb5 u; omega) (by decide)] at q0
              have eQ : vM V r σ t u = some v := by rw [eM, q0]; exact hv
              cases hl : lsN (vM V r σ t) u with
              | none =>
                have e : lsN (vM V r σ t) (u + 1) = some v := by rw [lsN, eQ]; dsimp only; rw [hl]
                rw [e] at hn2
                refine ⟨fun _ => ?_, fun q => absurd rfl q⟩
                refine ⟨bd, ?_⟩
                rw [cl, hA u hu, hv]
                exact hn2 _
              | some g =>
                have hg : g ≤ 359964 := by
                  obtain ⟨u', c1, c2⟩ := ls_mem hl
                  exact vv_le zw (vM_some c2)
                refine ⟨fun q => absurd q (nI_ne1 (by omega)), fun _ => ?_⟩
                refine ⟨bd, ?_⟩
                rw [cl, hA u hu, hv]
                refine ⟨fun h188 => ?_, fun h188 => ?_⟩
                · have q1 : nI v < nI g := h188
                  rw [nlt (by omega) (by omega)] at q1
                  have e : lsN (vM V r σ t) (u + 1) = some v := by rw [lsN, eQ]; dsimp only; rw [hl]; dsimp only; rw [if_pos q1]
                  rw [e] at hn2
                  refine ⟨bd, ?_⟩
                  rw [cl, hA u hu, hv]
                  exact hn2 _
                · have q1 : ¬ nI v < nI g := h188
                  rw [nlt (by omega) (by omega)] at q1
                  have e : lsN (vM V r σ t) (u + 1) = some g := by rw [lsN, eQ]; dsimp only; rw [hl]; dsimp only; rw [if_neg q1]
                  rw [e] at hn2
                  exact hn2 _
            · have q0 : ¬ (nI (2 * u) ^^^ nI (so0 V r σ)) &&& nI t = nI 0 := h170
              rw [ex u (by omega), neq (by have := hb5 u; omega) (by decide)] at q0
              have eQ : vM V r σ t u = none := by rw [eM, beq_eq_false_iff_ne.mpr q0]; rfl
              have e : lsN (vM V r σ t) (u + 1) = lsN (vM V r σ t) u := by rw [lsN, eQ]
              rw [e] at hn2
              exact hn2 _
        refine am_at hS (fun t => Nat.beq t 140) 60 134 ?_
        exact l140 0 (Nat.zero_le _) X9
      refine am_at hS (fun t => Nat.beq t 81 || Nat.beq t 134 || Nat.beq t 279) 120 81 ?_
      refine ⟨fun _ => ?_, fun q => absurd (by rw [p1, nI_shl1 (by omega), nlt (by omega) (by omega)]; exact ht) q⟩
      refine ⟨fun h99 => ?_, fun h99 => ?_⟩
      · rw [bx, b1] at h99
        exact no (by rw [and2_0, h99]; rfl) _ _ _
      rw [bx, b1, Bool.not_eq_true] at h99
      refine ⟨fun h109 => ?_, fun h109 => ?_⟩
      · rw [by_, b1] at h109
        exact no (by rw [and2_0, h109, Bool.not_true, Bool.and_false]; rfl) _ _ _
      rw [by_, b1, Bool.not_eq_true] at h109
      have g1 : (t &&& (2 ^ x ||| 2 ^ y) == 0) = true := by rw [and2_0, h99, h109]; rfl
      cases hf : fbN V r σ x y t with
      | none =>
        have hq := a134 g1 (by rw [hf]; rfl)
        rw [hf] at hq
        exact ⟨fun _ => hq _ _ _, fun q => absurd rfl q⟩
      | some g =>
        have hg := fbN_lt hf
        have q1 := pcn_9 (m := t)
        have q2 := pcn_9 (m := g)
        refine ⟨fun q => absurd q (nI_ne1 (by omega)), fun _ => ?_⟩
        refine ⟨_, _, (by omega : k - 1 < k), r_bitsOfM zi ht5 J w1, am_elim ?_⟩
        refine ⟨_, _, (by omega : k - 1 < k), r_bitsOfM zi (show g < 512 by omega) J w1, am_elim ?_⟩
        refine ⟨fun h => ?_, fun h => ?_⟩
        · rw [nlt (by omega) (by omega)] at h
          have hq := a134 g1 (by rw [hf]; exact decide_eq_true h)
          rw [hf] at hq
          exact hq _ _ _
        · rw [nlt (by omega) (by omega)] at h
          have hq := no (by rw [hf, show few t (some g) = false from decide_eq_false h, Bool.false_and, Bool.and_false])
          rw [hf] at hq
          exact hq _ _ _
    have l40 := down (P := fun u => ∀ X5 X6 X7 X8 X9, S 40 [some (.ref 88), some (.int (nI x)), some (.int (nI y)), some (.int (nI m)), some (.int (nI (2 * u))), X5, X6, X7, X8, X9] [] J w1) u0 ?z4 ?s4
    case z4 =>
      intro X5 X6 X7 X8 X9
      refine am_at hS (fun t => Nat.beq t 81) 90 40 ?_
      refine ⟨vp_in_nI (by omega) (by omega), ?_⟩
      rw [nI_clamp (by omega), hA u0 hu0, hv0]
      refine ⟨fun _ => ?_, fun q => absurd rfl q⟩
      have bx2 : (nI (2 * u0) >>> (nI x &&& 31)) &&& 1 = bi ((2 * u0).testBit x) := nI_bit (by omega) (by omega)
      have by2 : (nI (2 * u0) >>> (nI y &&& 31)) &&& 1 = bi ((2 * u0).testBit y) := nI_bit (by omega) (by omega)
      have ebb : (bi ((2 * u0).testBit x) = bi ((2 * u0).testBit y)) = (tg (2 * u0) x y = true) := by
        unfold tg
        apply propext
        cases (2 * u0).testBit x <;> cases (2 * u0).testBit y <;> simp [bi]
      refine ⟨fun h => ?_, fun h => ?_⟩
      · rw [bx2, by2, ebb] at h
        have hq := l81 0 (Nat.zero_le _) (by rw [hso]; exact h) X7 X8 X9
        rw [hso] at hq
        exact hq
      · rw [bx2, by2, ebb, Bool.not_eq_true, ← hso] at h
        rw [h]
        exact ⟨rfl, fJ⟩
    case s4 =>
      intro u hu hn X5 X6 X7 X8 X9
      rw [show 2 * (u + 1) = 2 * u + 2 by omega, ← nI_add (2 * u)] at hn
      refine am_at hS (fun t => Nat.beq t 40) 90 40 ?_
      refine ⟨vp_in_nI (by omega) (by omega), ?_⟩
      rw [nI_clamp (by omega), hA u (by omega)]
      refine ⟨fun q => absurd (by rw [en_eq zw hmb] at q; exact q) (hmin u hu), fun _ => ?_⟩
      exact hn _ _ _ _ _
    exact l40 0 (Nat.zero_le _) none none none none none

