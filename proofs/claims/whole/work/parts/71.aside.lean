/-! ASIDE: both -/
def asG (P : Nat → Option Nat) (c : Nat → Nat → Bool) : Nat → Option Nat
  | 0 => none
  | t + 1 => match P t with
    | none => asG P c t
    | some _ => match asG P c t with
      | none => some t
      | some b => cond (c t b) (some t) (some b)
theorem asG_no {P : Nat → Option Nat} {c : Nat → Nat → Bool} {t : Nat} (h : P t = none) : asG P c (t + 1) = asG P c t := by rw [asG, h]
theorem asG_0 {P : Nat → Option Nat} {c : Nat → Nat → Bool} {t x : Nat} (h : P t = some x) (h2 : asG P c t = none) : asG P c (t + 1) = some t := by rw [asG, h]; dsimp only; rw [h2]
theorem asG_1 {P : Nat → Option Nat} {c : Nat → Nat → Bool} {t x b : Nat} (h : P t = some x) (h2 : asG P c t = some b) : asG P c (t + 1) = cond (c t b) (some t) (some b) := by rw [asG, h]; dsimp only; rw [h2]
theorem asG_lt {P : Nat → Option Nat} {c : Nat → Nat → Bool} : ∀ {t b : Nat}, asG P c t = some b → b < t
  | 0, b, h => by cases h
  | t + 1, b, h => by
    cases hp : P t with
    | none => rw [asG_no hp] at h; have := asG_lt h; omega
    | some x =>
      cases hs : asG P c t with
      | none => rw [asG_0 hp hs] at h; cases h; omega
      | some y =>
        rw [asG_1 hp hs] at h
        cases hc : c t y with
        | true => rw [hc] at h; cases h; omega
        | false => rw [hc] at h; cases h; have := asG_lt hs; omega
def asN (σ : St) (t : Nat) : Option Nat := asG (fun x => pea σ x) (fun x y => chp σ x y) t
theorem asN_no {σ : St} {t : Nat} (h : pea σ t = none) : asN σ (t + 1) = asN σ t := asG_no (P := fun x => pea σ x) h
theorem asN_0 {σ : St} {t x : Nat} (h : pea σ t = some x) (h2 : asN σ t = none) : asN σ (t + 1) = some t := asG_0 (P := fun x => pea σ x) h h2
theorem asN_1 {σ : St} {t x b : Nat} (h : pea σ t = some x) (h2 : asN σ t = some b) : asN σ (t + 1) = cond (chp σ t b) (some t) (some b) := asG_1 (P := fun x => pea σ x) h h2
theorem asN_lt {σ : St} {t b : Nat} (h : asN σ t = some b) : b < t := asG_lt h
theorem pcn_all {N t : Nat} (hN : N ≤ 9) (ht : t < 2 ^ N - 1) : pcn t < pcn (2 ^ N - 1) := by
  have hp := p2_le hN
  refine pcn_lt (by omega) (by omega) (fun i hi => ?_) (by omega)
  rw [Nat.testBit_two_pow_sub_one, decide_eq_true_eq]
  apply Classical.byContradiction
  intro h
  rw [Nat.testBit_lt_two_pow (Nat.lt_of_lt_of_le (show t < 2 ^ N by omega) (Nat.pow_le_pow_right (by decide) (show N ≤ i by omega)))] at hi
  cases hi
theorem pea_all {σ : St} (zw : wf σ) : ∃ x, pea σ (2 ^ sN σ - 1) = some x := by
  have h9 := zw.1
  have key : ∀ f, f < sM σ → ¬ eb σ f &&& (2 ^ sN σ - 1) = 0 := fun f hf => by
    rw [eb_and]
    left
    have := zw.2.1.1 f hf
    rw [Nat.testBit_two_pow_sub_one]
    exact decide_eq_true (by omega)
  refine ⟨0, psF_yes ⟨by decide, fun q hq => (by rw [Nat.zero_testBit] at hq; cases hq), fun m' hP q => ?_⟩ (fun f hf h => absurd h (key f hf))⟩
  rw [Nat.zero_testBit]
  cases e : m'.testBit q with
  | false => rfl
  | true =>
    obtain ⟨g1, g2, -⟩ := hP.1 q e
    rw [Nat.testBit_two_pow_sub_one, decide_eq_true g1] at g2
    cases g2
def aAsd (σ : St) : Int32 := nI ((asN σ (2 ^ sN σ)).getD 0)
theorem asd_cls {σ : St} (zw : wf σ) : (asN σ (2 ^ sN σ)).getD 0 = (asN σ (2 ^ sN σ - 1)).getD (2 ^ sN σ - 1) := by
  have h2 : 0 < 2 ^ sN σ := Nat.pow_pos (by decide)
  obtain ⟨x, hx⟩ := pea_all zw
  obtain ⟨E, hE⟩ : ∃ E, E = 2 ^ sN σ - 1 := ⟨_, rfl⟩
  rw [show 2 ^ sN σ = E + 1 by omega, Nat.add_sub_cancel]
  rw [← hE] at hx
  cases hs : asN σ E with
  | none => rw [asN_0 hx hs]; rfl
  | some b =>
    have hb := asN_lt hs
    have hlt := pcn_all zw.1 (show b < 2 ^ sN σ - 1 by omega)
    rw [← hE] at hlt
    have hc : chp σ E b = false := by
      unfold chp
      rw [decide_eq_false (by omega), decide_eq_false (show ¬ pcn E = pcn b by omega)]
      rfl
    rw [asN_1 hx hs, hc]
    rfl
theorem sub_one {a : Nat} (h : 0 < a) (h2 : a < 2 ^ 30) : nI a - 1 = nI (a - 1) := by
  apply Int32.toInt_inj.mp
  rw [show (1 : Int32) = nI 1 from rfl, pk_sub_toInt (a := a) (b := 1) h2 (by decide), nI_toInt (by omega)]
  omega
theorem c_aside {E : am_E} (zi : am_inj E) {k : Nat} (hk : 5 ≤ k) {σ : St} (zw : wf σ) {I : am_I} (zC : CS I σ) (w : Int64) :
    am_Ret E k Y_TC_aside [.ref 0] I w (am_eq (some (.int (aAsd σ))) I w) := by
  refine am_intro (pv_TC_aside E k) (by decide) zi ?_ rfl rfl ?_
  · rintro _ _ _ ⟨rfl, -⟩; rfl
  intro S hS
  have h9 := zw.1
  have hp := p2_le h9
  have h2 : 0 < 2 ^ sN σ := Nat.pow_pos (by decide)
  unfold aAsd at hS
  rw [asd_cls zw] at hS
  obtain ⟨A, hA⟩ : ∃ A, A = 2 ^ sN σ - 1 := ⟨_, rfl⟩
  rw [← hA] at hS
  have loop := down (P := fun t => S 16 [some (.ref 0), some (.int (nI A)), some (.int (nI ((asN σ t).getD A))), some (.int (nI t))] [] I w) A ?z ?s
  case z =>
    refine am_at hS (fun t => Nat.beq t 16) 80 16 ?_
    exact ⟨fun q => absurd q (nI_nlt (Nat.le_refl _) (by omega)), fun _ => ⟨rfl, rfl, rfl⟩⟩
  case s =>
    intro t ht hn
    have hfl : (asN σ t).getD A < 512 := by
      cases hs : asN σ t with
      | none => show A < 512; omega
      | some b => have := asN_lt hs; show b < 512; omega
    have keep : asN σ (t + 1) = asN σ t → S 16 [some (.ref 0), some (.int (nI A)), some (.int (nI ((asN σ t).getD A))), some (.int (nI t + 1))] [] I w := fun e => by
      have hq := hn
      rw [e, ← nI_1] at hq
      exact hq
    refine am_at hS (fun t => Nat.beq t 16) 80 16 ?_
    refine ⟨fun _ => ?_, fun q => absurd (nI_lt ht (by omega)) q⟩
    refine ⟨_, _, (by omega : k - 1 < k), r_isCheaper zi (by omega) zw zC w (by omega) hfl, am_elim ?_⟩
    refine ⟨fun h => ?_, fun h => ?_⟩
    · rw [bi_eq0] at h
      refine keep ?_
      cases hpe : pea σ t with
      | none => exact asN_no hpe
      | some x =>
        cases hs : asN σ t with
        | none =>
          rw [hs] at h
          have hl := pcn_all h9 (show t < 2 ^ sN σ - 1 by omega)
          rw [← hA] at hl
          unfold chp at h
          rw [decide_eq_true (show pcn t < pcn ((none : Option Nat).getD A) from hl)] at h
          cases h
        | some b =>
          rw [hs] at h
          rw [asN_1 hpe hs, show chp σ t b = false from h]
          rfl
    · rw [bi_eq0, Bool.not_eq_false] at h
      refine ⟨_, _, (by omega : k - 1 < k), r_peaceWithout zi (by omega) zw zC w (by omega), am_elim ?_⟩
      cases hpe : pea σ t with
      | none => exact ⟨fun _ => keep (asN_no hpe), fun q => absurd rfl q⟩
      | some x =>
        have hx := pea_lt hpe
        refine ⟨fun q => absurd q (nI_ne1 (by omega)), fun _ => ?_⟩
        have e : asN σ (t + 1) = some t := by
          cases hs : asN σ t with
          | none => exact asN_0 hpe hs
          | some b =>
            rw [hs] at h
            rw [asN_1 hpe hs, show chp σ t b = true from h]
            rfl
        have hq := hn
        rw [e, ← nI_1] at hq
        exact hq
  have hq := loop 0 (Nat.zero_le _)
  have eA : (1 : Int32) <<< (I 1 0 &&& 31) - 1 = nI A := by rw [zC.1.1, nI_shl1 (by omega), sub_one h2 (by omega), hA]
  rw [show ((asN σ 0).getD A) = A from rfl, ← eA] at hq
  refine am_at hS (fun t => Nat.beq t 16) 80 0 ?_
  exact hq
theorem m_aside {E : am_E} (zi : am_inj E) {k : Nat} (hk : 1 ≤ k) {σ : St} (zw : wf σ) {I : am_I} (zR : RS I σ) (w : Int64) :
    am_Ret E k Y_MO_aside [.ref 88] I w (fun q I' w' => q = some (.int (aAsd σ)) ∧ w' = w ∧ am_fs 88 [34] [] I I') := by
  refine am_intro (pv_MO_aside E k) (by decide) zi ?_ rfl rfl ?_
  · rintro _ _ _ ⟨rfl, -⟩; rfl
  intro S hS
  have h9 := zw.1
  have hp2 := p2_le h9
  unfold aAsd at hS
  have RSk : ∀ {J : am_I}, am_fs 88 [34] [] I J → RS J σ := fun h => RS_fs h (fun q _ _ hz => absurd hz List.not_mem_nil) (by decide) (by decide) zR
  obtain ⟨pr, epr⟩ : ∃ pr : Option Nat → Nat, pr = fun l => match l with | none => 0 | some b => prc σ b (sN σ) := ⟨_, rfl⟩
  have pr1 : ∀ b, pr (some b) = prc σ b (sN σ) := fun b => by rw [epr]
  have loop := down (P := fun t => ∀ J X5 X6, am_fs 88 [34] [] I J → S 9 [some (.ref 88), some (.int (nI ((asN σ t).getD 0))), some (.int (nI (pr (asN σ t)))), some (.int (bi (asN σ t).isSome)), some (.int (nI t)), X5, X6] [] J w) (2 ^ sN σ) ?z ?s
  case z =>
    intro J X5 X6 fJ
    have p1 : J 88 9 = nI (sN σ) := (RSk fJ).1.1
    refine am_at hS (fun t => Nat.beq t 9) 90 9 ?_
    refine ⟨fun q => absurd q (by rw [p1, nI_shl1 (by omega)]; exact nI_nlt (Nat.le_refl _) (by omega)), fun _ => ?_⟩
    exact ⟨rfl, rfl, fJ⟩
  case s =>
    intro t ht hn J X5 X6 fJ
    have zJ := RSk fJ
    have p1 : J 88 9 = nI (sN σ) := zJ.1.1
    have keep : ∀ F X5 X6, am_fs 88 [34] [] I F → asN σ (t + 1) = asN σ t → S 9 [some (.ref 88), some (.int (nI ((asN σ t).getD 0))), some (.int (nI (pr (asN σ t)))), some (.int (bi (asN σ t).isSome)), some (.int (nI t + 1)), X5, X6] [] F w := fun F X5 X6 fF e => by
      have hq := hn F X5 X6 fF
      rw [e, ← nI_1] at hq
      exact hq
    have take : ∀ F X6, am_fs 88 [34] [] I F → asN σ (t + 1) = some t → S 9 [some (.ref 88), some (.int (nI t)), some (.int (nI (prc σ t (sN σ)))), some (.int 1), some (.int (nI t + 1)), some (.int (nI (prc σ t (sN σ)))), X6] [] F w := fun F X6 fF e => by
      have hq := hn F (some (.int (nI (prc σ t (sN σ))))) X6 fF
      rw [e, pr1, ← nI_1] at hq
      exact hq
    have a36 : (∀ b, asN σ t = some b → ¬ pcn b < pcn t) → S 36 [some (.ref 88), some (.int (nI ((asN σ t).getD 0))), some (.int (nI (pr (asN σ t)))), some (.int (bi (asN σ t).isSome)), some (.int (nI t)), X5, X6] [] J w := by
      intro hle
      refine am_at hS (fun t => Nat.beq t 9 || Nat.beq t 54) 90 36 ?_
      refine ⟨_, _, (by omega : k - 1 < k), m_isPeace zi zw zJ w (by omega), ?_⟩
      rintro _ F w1 ⟨rfl, rfl, -, fF0⟩
      have fF := fJ.trans fF0
      have zF := RSk fF
      refine ⟨fun h => ?_, fun h => ?_⟩
      · rw [bi_eq0] at h
        cases hpe : pea σ t with
        | none => exact keep F _ _ fF (asN_no hpe)
        | some x => rw [hpe] at h; cases h
      · rw [bi_eq0, Bool.not_eq_false] at h
        obtain ⟨x, hpe⟩ : ∃ x, pea σ t = some x := by
          cases hpe : pea σ t with
          | none => rw [hpe] at h; cases h
          | some x => exact ⟨x, rfl⟩
        have l54 := down (P := fun p => S 54 [some (.ref 88), some (.int (nI ((asN σ t).getD 0))), some (.int (nI (pr (asN σ t)))), some (.int (bi (asN σ t).isSome)), some (.int (nI t)), some (.int (nI (prc σ t p))), some (.int (nI p))] [] F w1) (sN σ) ?z2 ?s2
        case z2 =>
          refine am_at hS (fun t => Nat.beq t 9 || Nat.beq t 121) 90 54 ?_
          refine ⟨fun q => absurd q (by rw [zF.1.1]; exact nI_nlt (Nat.le_refl _) (by omega)), fun _ => ?_⟩
          have a121 : asN σ (t + 1) = some t → S 121 [some (.ref 88), some (.int (nI ((asN σ t).getD 0))), some (.int (nI (pr (asN σ t)))), some (.int (bi (asN σ t).isSome)), some (.int (nI t)), some (.int (nI (prc σ t (sN σ)))), some (.int (nI (sN σ)))] [] F w1 := fun e => by
            refine am_at hS (fun t => Nat.beq t 9) 90 121 ?_
            exact take F _ fF e
          cases hs : asN σ t with
          | none =>
            rw [hs] at a121
            exact ⟨fun _ => a121 (asN_0 hpe hs), fun q => absurd rfl q⟩
          | some b =>
            have hb := asN_lt hs
            have pb := pcn_le b
            have pt := pcn_le t
            have qb := prc_le zw (m := b) (sN σ) (Nat.le_refl _)
            have qt := prc_le zw (m := t) (sN σ) (Nat.le_refl _)
            have h1 := hle b hs
            have hn1 := asN_1 hpe hs
            rw [hs] at a121 keep
            refine ⟨fun q => absurd (show (1 : Int32) = 0 from q) (by decide), fun _ => ?_⟩
            refine ⟨_, _, (by omega : k - 1 < k), r_bitsOfM zi (by omega) F w1, am_elim ?_⟩
            refine ⟨_, _, (by omega : k - 1 < k), r_bitsOfM zi (m := b) (by omega) F w1, am_elim ?_⟩
            refine ⟨fun h109 => ?_, fun h109 => ?_⟩
            · rw [neq (by omega) (by omega)] at h109
              refine ⟨fun h115 => ?_, fun h115 => ?_⟩
              · rw [pr1, nlt (by omega) (by omega)] at h115
                exact a121 (by rw [hn1]; unfold chp; rw [decide_eq_true h109, decide_eq_true h115, Bool.and_true, Bool.or_true]; rfl)
              · rw [pr1, nlt (by omega) (by omega)] at h115
                exact keep F _ _ fF (by rw [hn1]; unfold chp; rw [decide_eq_false h115, Bool.and_false, decide_eq_false (by omega)]; rfl)
            · rw [neq (by omega) (by omega)] at h109
              exact a121 (by rw [hn1]; unfold chp; rw [decide_eq_true (show pcn t < pcn b by omega)]; rfl)
        case s2 =>
          intro p hp hn2
          refine am_at hS (fun t => Nat.beq t 54) 90 54 ?_
          refine ⟨fun _ => ?_, fun q => absurd (show nI p < F 88 9 by rw [zF.1.1]; exact nI_lt hp (by omega)) q⟩
          rw [prc, ← nI_1] at hn2
          refine ⟨fun h => ?_, fun h => ?_⟩
          · have hb : t.testBit p = true := (bb1 (by omega) (by omega)).mp h
            refine ⟨vp_in_nI (by omega) (by omega), ?_⟩
            rw [nI_clamp (by omega), (zF.1.2 p hp).1]
            rw [hb, cond_true, ← nI_add, ← (sP_nI zw hp).1] at hn2
            exact hn2
          · have hb : t.testBit p = false := by
              cases q : t.testBit p with
              | false => rfl
              | true => exact absurd ((bb1 (by omega) (by omega)).mpr q) h
            rw [hb, cond_false, Nat.add_zero] at hn2
            have e0 : nI (prc σ t p) + 0 = nI (prc σ t p) := Int32.add_zero _
            rw [← e0] at hn2
            exact hn2
        exact l54 0 (Nat.zero_le _)
    refine am_at hS (fun t => Nat.beq t 9 || Nat.beq t 36) 90 9 ?_
    refine ⟨fun _ => ?_, fun q => absurd (show nI t < 1 <<< (J 88 9 &&& 31) by rw [p1, nI_shl1 (by omega)]; exact nI_lt ht (by omega)) q⟩
    cases hs : asN σ t with
    | none =>
      rw [hs] at a36
      exact ⟨fun _ => a36 (fun b hb => by cases hb), fun q => absurd rfl q⟩
    | some b =>
      have hb := asN_lt hs
      have pb := pcn_le b
      have pt := pcn_le t
      rw [hs] at a36 keep
      refine ⟨fun q => absurd (show (1 : Int32) = 0 from q) (by decide), fun _ => ?_⟩
      refine ⟨_, _, (by omega : k - 1 < k), r_bitsOfM zi (by omega) J w, am_elim ?_⟩
      refine ⟨_, _, (by omega : k - 1 < k), r_bitsOfM zi (m := b) (by omega) J w, am_elim ?_⟩
      refine ⟨fun h33 => ?_, fun h33 => ?_⟩
      · rw [nlt (by omega) (by omega)] at h33
        refine keep J _ _ fJ ?_
        cases hpe : pea σ t with
        | none => rw [asN_no hpe, hs]
        | some x =>
          rw [asN_1 hpe hs]
          unfold chp
          rw [decide_eq_false (by omega), decide_eq_false (show ¬ pcn t = pcn b by omega)]
          rfl
      · rw [nlt (by omega) (by omega)] at h33
        exact a36 (fun y hy => by cases hy; exact h33)
  refine am_at hS (fun t => Nat.beq t 9) 80 0 ?_
  have hq := loop 0 (Nat.zero_le _) I none none am_fs.refl
  rw [epr] at hq
  exact hq
