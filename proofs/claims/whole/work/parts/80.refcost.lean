/-! COST: the reference's -/
theorem und_k : ∀ kd, kd < 6 → und kd 3 = decide (kd = 3) ∧ und kd 4 = decide (kd = 4) ∧ und kd 5 = decide (kd = 5) ∧ und kd 2 = (decide (kd = 2) || decide (kd = 3)) ∧ und kd 1 = (decide (kd = 1) || (decide (kd = 4) || decide (kd = 5))) := by decide
theorem m_costBy {E : am_E} (zi : am_inj E) {k : Nat} (hk : 44 ≤ k) {σ : St} (zw : wf σ) {I : am_I} (zR : RS I σ) (w : Int64) {T r : Nat} {V : Tx} (zL : RL I T r V) {kd : Nat} (hkd : kd < 6) {a : Nat → Nat} (hA : aA I σ a) :
    am_Ret E k Y_MO_costBy [.ref 88, .int (nI kd)] I w (fun q I' w' => q = some (.long (lN (jdg V r σ kd a))) ∧ am_fs 88 rdFs [] I I') := by
  refine am_intro (pv_MO_costBy E k) (by decide) zi ?_ rfl rfl ?_
  · rintro _ _ _ ⟨rfl, -⟩; trivial
  intro S hS
  have h9 := zw.1
  have h36 := sM_le zw
  have hus : usd σ a ≤ 4 := cnt_le _ _
  obtain ⟨u3, u4, u5, u2, u1⟩ := und_k kd hkd
  have ek : ∀ x, x < 6 → (nI kd = nI x) = (kd = x) := fun x hx => neq (by omega) (by omega)
  have aAk : ∀ {J}, am_fs 88 rdFs [] I J → aA J σ a := fun fJ => ⟨hA.1, fun p hp => by rw [fJ.1 103 List.not_mem_nil (by decide)]; exact hA.2 p hp⟩
  unfold jdg at hS
  obtain ⟨G, eG⟩ : ∃ G, G = sm (fun f => cond (wra σ a f) (cow V r σ kd f) 0) (sM σ) := ⟨_, rfl⟩
  obtain ⟨U, eU⟩ : ∃ U, U = cond (und kd 2) (3 * usd σ a) 0 := ⟨_, rfl⟩
  rw [← eG, ← eU] at hS
  have people : ∀ J u x5, am_fs 88 rdFs [] I J → ∀ p, p ≤ sN σ → S 118 [some (.ref 88), some (.int (nI kd)), some (.long (lN (U + G + sm (cop σ kd a) p))), none, some (.int (nI p)), x5] [] J u := by
    intro J u x5 fJ
    have zJ := RS_rd fJ zR
    have hJ := aAk fJ
    refine down (P := fun p => S 118 [some (.ref 88), some (.int (nI kd)), some (.long (lN (U + G + sm (cop σ kd a) p))), none, some (.int (nI p)), x5] [] J u) (sN σ) ?_ ?_
    · refine am_at hS (fun t => Nat.beq t 118) 90 118 ?_
      exact ⟨fun q => absurd q (by rw [zJ.1.1]; exact nI_nlt (Nat.le_refl _) (by omega)), fun _ => ⟨rfl, fJ⟩⟩
    · intro p hp hn
      have bd : vp_in (nI p) 9 := vp_in_nI (by omega) (by omega)
      have cl : (nI p).toNatClampNeg = p := nI_clamp (by omega)
      have e103 := hJ.2 p hp
      have i1 := isc_lt (hJ.1 p)
      obtain ⟨e92, e93⟩ := zJ.1.2 p hp
      obtain ⟨q1, q2⟩ := sP_nI zw hp
      obtain ⟨x, ex⟩ : ∃ x, x = a p := ⟨_, rfl⟩
      obtain ⟨N0, eN⟩ : ∃ N0, N0 = U + G + sm (cop σ kd a) p := ⟨_, rfl⟩
      obtain ⟨A, eA⟩ : ∃ A, A = cpA σ kd a p := ⟨_, rfl⟩
      obtain ⟨B, eB⟩ : ∃ B, B = cpB kd a p := ⟨_, rfl⟩
      obtain ⟨D, eD⟩ : ∃ D, D = cpC σ kd a p := ⟨_, rfl⟩
      rw [sm, show cop σ kd a p = A + B + D by rw [eA, eB, eD]; rfl, ← Nat.add_assoc, ← eN] at hn
      rw [← eN]
      unfold cpA at eA
      unfold cpB at eB
      unfold cpC at eD
      rw [← ex] at e103 i1 eA eB eD
      have a249 : ∀ v, v = D → S 249 [some (.ref 88), some (.int (nI kd)), some (.long (lN (N0 + B + A))), none, some (.int (nI p)), x5] [.long (lN v), .long (lN (N0 + B + A))] J u := by
        intro v hv
        refine am_at hS (fun t => Nat.beq t 118) 90 249 ?_
        have hq := hn
        rw [← hv, show N0 + (A + B + v) = N0 + B + A + v by omega, ← lN_add, ← nI_1 p] at hq
        exact hq
      have a208 : S 208 [some (.ref 88), some (.int (nI kd)), some (.long (lN (N0 + B + A))), none, some (.int (nI p)), x5] [] J u := by
        refine am_at hS (fun t => Nat.beq t 249) 90 208 ?_
        refine ⟨fun h => ?_, fun h => ?_⟩
        · have h : kd = 5 := (ek 5 (by omega)).mp h
          rw [u5, decide_eq_true h, Bool.true_and] at eD
          refine ⟨bd, ?_⟩
          rw [cl, e93]
          refine ⟨fun z1 => ?_, fun z1 => ?_⟩
          · exact a249 0 (by rw [eD, decide_eq_true (show sD σ p = -1 from z1)]; rfl)
          rw [decide_eq_false (show ¬ sD σ p = -1 from z1), Bool.not_false, Bool.true_and] at eD
          refine ⟨bd, ?_⟩
          refine ⟨bd, ?_⟩
          rw [cl, e93, e103]
          refine ⟨fun z2 => ?_, fun z2 => ?_⟩
          · exact a249 0 (by rw [eD, decide_eq_true (show sD σ p = nI x from z2)]; rfl)
          · exact a249 50 (by rw [eD, decide_eq_false (show ¬ sD σ p = nI x from z2)]; rfl)
        · have h : ¬ kd = 5 := fun q => h ((ek 5 (by omega)).mpr q)
          exact a249 0 (by rw [eD, u5, decide_eq_false h]; rfl)
      have a172 : ∀ v, v = B → S 172 [some (.ref 88), some (.int (nI kd)), some (.long (lN N0)), none, some (.int (nI p)), x5] [.long (lN v), .long (lN N0)] J u := by
        intro v hv
        rw [← hv] at a208
        refine am_at hS (fun t => Nat.beq t 208) 90 172 ?_
        refine ⟨bd, ?_⟩
        rw [cl, e103]
        refine ⟨fun z1 => ?_, fun z1 => ?_⟩
        · have z1 : x = 9 := (neq (b := 9) (by omega) (by omega)).mp z1
          rw [decide_eq_true z1, cond_true, u4] at eA
          refine ⟨fun h => ?_, fun h => ?_⟩
          · have h : kd = 4 := (ek 4 (by omega)).mp h
            refine ⟨bd, ?_⟩
            rw [cl, e92, q1]
            rw [decide_eq_true h, cond_true] at eA
            rw [eA, ← lN_add, ← lN_add, ← nI_l (n := (sP σ p).toNatClampNeg) (by omega)] at a208
            exact a208
          · have h : ¬ kd = 4 := fun q => h ((ek 4 (by omega)).mpr q)
            rw [decide_eq_false h, cond_false] at eA
            rw [eA, ← lN_add, ← lN_add, show lN 7000 = (7000 : Int64) from rfl] at a208
            exact a208
        · have z1 : ¬ x = 9 := fun z => z1 ((neq (b := 9) (by omega) (by omega)).mpr z)
          rw [decide_eq_false z1, cond_false] at eA
          rw [eA, Nat.add_zero, ← lN_add] at a208
          exact a208
      have a143 : und kd 1 = true → S 143 [some (.ref 88), some (.int (nI kd)), some (.long (lN N0)), none, some (.int (nI p)), x5] [.long (lN N0)] J u := by
        intro h1
        rw [h1, Bool.true_and] at eB
        refine am_at hS (fun t => Nat.beq t 172) 90 143 ?_
        refine ⟨bd, ?_⟩
        rw [cl, e103]
        refine ⟨fun z1 => ?_, fun z1 => ?_⟩
        · have z1 : x = 2 := (neq (b := 2) (by omega) (by omega)).mp z1
          exact a172 5000 (by rw [eB, decide_eq_true z1]; rfl)
        have z1 : ¬ x = 2 := fun z => z1 ((neq (b := 2) (by omega) (by omega)).mpr z)
        rw [decide_eq_false z1, Bool.false_or] at eB
        refine ⟨bd, ?_⟩
        rw [cl, e103]
        refine ⟨fun z2 => ?_, fun z2 => ?_⟩
        · have z2 : x = 3 := (neq (b := 3) (by omega) (by omega)).mp z2
          exact a172 5000 (by rw [eB, decide_eq_true z2]; rfl)
        · have z2 : ¬ x = 3 := fun z => z2 ((neq (b := 3) (by omega) (by omega)).mpr z)
          exact a172 0 (by rw [eB, decide_eq_false z2]; rfl)
      refine am_at hS (fun t => Nat.beq t 143 || Nat.beq t 172) 90 118 ?_
      refine ⟨fun _ => ?_, fun q => absurd (show nI p < J 88 9 by rw [zJ.1.1]; exact nI_lt hp (by omega)) q⟩
      refine ⟨fun h => ?_, fun h => ?_⟩
      · have h : kd = 1 := (ek 1 (by omega)).mp h
        exact a143 (by rw [u1, decide_eq_true h]; rfl)
      have h : ¬ kd = 1 := fun q => h ((ek 1 (by omega)).mpr q)
      rw [decide_eq_false h, Bool.false_or] at u1
      refine ⟨fun h4 => ?_, fun h4 => ?_⟩
      · have h4 : kd = 4 := (ek 4 (by omega)).mp h4
        exact a143 (by rw [u1, decide_eq_true h4]; rfl)
      have h4 : ¬ kd = 4 := fun q => h4 ((ek 4 (by omega)).mpr q)
      rw [decide_eq_false h4, Bool.false_or] at u1
      refine ⟨fun h5 => ?_, fun h5 => ?_⟩
      · have h5 : kd = 5 := (ek 5 (by omega)).mp h5
        exact a143 (by rw [u1, decide_eq_true h5])
      have h5 : ¬ kd = 5 := fun q => h5 ((ek 5 (by omega)).mpr q)
      rw [decide_eq_false h5] at u1
      exact a172 0 (by rw [eB, u1]; rfl)
  have a93 : ∀ J u x4 x5, am_fs 88 rdFs [] I J → S 93 [some (.ref 88), some (.int (nI kd)), some (.long (lN G)), none, some (.int x4), x5] [] J u := by
    intro J u x4 x5 fJ
    have zJ := RS_rd fJ zR
    have hJ := aAk fJ
    have pp := people J u x5 fJ 0 (Nat.zero_le _)
    rw [show sm (cop σ kd a) 0 = 0 from rfl, Nat.add_zero] at pp
    have a103 : und kd 2 = true → S 103 [some (.ref 88), some (.int (nI kd)), some (.long (lN G)), none, some (.int x4), x5] [] J u := by
      intro h2
      rw [h2, cond_true] at eU
      refine am_at hS (fun t => Nat.beq t 118) 90 103 ?_
      refine ⟨_, _, (by omega : k - 1 < k), m_lived zi (by omega) zw zJ u hJ, am_elim ?_⟩
      have hq := pp
      rw [eU, Nat.add_comm, ← lN_add, ← lN_mul, ← nI_l (n := usd σ a) (by omega), show lN 3 = (3 : Int64) from rfl] at hq
      exact hq
    refine am_at hS (fun t => Nat.beq t 103 || Nat.beq t 118) 90 93 ?_
    refine ⟨fun h => ?_, fun h => ?_⟩
    · have h : kd = 2 := (ek 2 (by omega)).mp h
      exact a103 (by rw [u2, decide_eq_true h]; rfl)
    have h : ¬ kd = 2 := fun q => h ((ek 2 (by omega)).mpr q)
    rw [decide_eq_false h, Bool.false_or] at u2
    refine ⟨fun h3 => ?_, fun h3 => ?_⟩
    · have h3 : kd = 3 := (ek 3 (by omega)).mp h3
      exact a103 (by rw [u2, decide_eq_true h3])
    have h3 : ¬ kd = 3 := fun q => h3 ((ek 3 (by omega)).mpr q)
    rw [u2, decide_eq_false h3, cond_false] at eU
    rw [eU, Nat.zero_add] at pp
    exact pp
  have loop := down (P := fun f => ∀ J u x5, am_fs 88 rdFs [] I J → S 5 [some (.ref 88), some (.int (nI kd)), some (.long (lN (sm (fun f => cond (wra σ a f) (cow V r σ kd f) 0) f))), none, some (.int (nI f)), x5] [] J u) (sM σ) ?z ?s
  case z =>
    intro J u x5 fJ
    have zJ := RS_rd fJ zR
    refine am_at hS (fun t => Nat.beq t 5 || Nat.beq t 93) 90 5 ?_
    refine ⟨fun q => absurd q (by rw [zJ.2.1]; exact nI_nlt (Nat.le_refl _) (by omega)), fun _ => ?_⟩
    rw [← eG]
    exact a93 J u _ _ fJ
  case s =>
    intro f hf hn J u x5 fJ
    have zJ := RS_rd fJ zR
    have hJ := aAk fJ
    have bd : vp_in (nI f) 36 := vp_in_nI (by omega) (by omega)
    have cl : (nI f).toNatClampNeg = f := nI_clamp (by omega)
    refine am_at hS (fun t => Nat.beq t 5 || Nat.beq t 61) 90 5 ?_
    refine ⟨fun _ => ?_, fun q => absurd (show nI f < J 88 16 by rw [zJ.2.1]; exact nI_lt hf (by omega)) q⟩
    refine ⟨_, _, (by omega : k - 1 < k), m_isWrong zi zw zJ u hJ hf, am_elim ?_⟩
    refine ⟨fun h => ?_, fun h => ?_⟩
    · rw [bi_eq0] at h
      have hq := hn J u x5 fJ
      rw [sm, h, cond_false, Nat.add_zero, ← nI_1 f] at hq
      exact hq
    · rw [bi_eq0, Bool.not_eq_false] at h
      refine ⟨_, _, (by omega : k - 1 < k), m_costOf zi (by omega) zw zJ u (RL_rd fJ zL) hf, ?_⟩
      rintro _ F w1 ⟨rfl, fF0⟩
      have fF := fJ.trans fF0
      have zF := RS_rd fF zR
      obtain ⟨e94, e95, e96, -⟩ := zF.2.2 f hf
      have hco : co V r σ f ≤ 9999 := cst_le _
      obtain ⟨X, eX⟩ : ∃ X, X = cond (und kd 3 && decide (sS σ f < 0)) (co V r σ f / 2) (co V r σ f) := ⟨_, rfl⟩
      obtain ⟨N0, eN⟩ : ∃ N0, N0 = sm (fun f => cond (wra σ a f) (cow V r σ kd f) 0) f := ⟨_, rfl⟩
      have ec : cow V r σ kd f = X + cond (mw V r σ f) 0 100000 := by rw [eX]; rfl
      have a61 : ∀ v, v = X → S 61 [some (.ref 88), some (.int (nI kd)), some (.long (lN N0)), none, some (.int (nI f)), some (.int (nI (co V r σ f)))] [.long (lN v), .long (lN N0)] F w1 := by
        intro v hv
        refine am_at hS (fun t => Nat.beq t 5) 90 61 ?_
        refine ⟨_, _, (by omega : k - 1 < k), r_rd zi (by omega) zw zF w1 (RL_rd fF zL) hf 1, ?_⟩
        rintro _ F2 w2 ⟨rfl, fF2⟩
        have hq := hn F2 w2 (some (.int (nI (co V r σ f)))) (fF.trans fF2)
        rw [sm, h, cond_true, ec, ← hv, ← eN, ← Nat.add_assoc, ← lN_add, ← lN_add, ← nI_1 f] at hq
        have em : mw V r σ f = !decide ((V r).2 (env σ f) = 0) := rfl
        refine ⟨fun g => ?_, fun g => ?_⟩
        · have g : (V r).2 (env σ f) = 0 := g
          rw [em, decide_eq_true g] at hq
          exact hq
        · have g : ¬ (V r).2 (env σ f) = 0 := g
          rw [em, decide_eq_false g] at hq
          exact hq
      rw [← eN]
      refine ⟨fun h3 => ?_, fun h3 => ?_⟩
      · have h3 : kd = 3 := (ek 3 (by omega)).mp h3
        rw [u3, decide_eq_true h3, Bool.true_and] at eX
        refine ⟨bd, ?_⟩
        rw [cl, e96]
        refine ⟨fun s => ?_, fun s => ?_⟩
        · refine ⟨by decide, ?_⟩
          rw [decide_eq_true (show sS σ f < 0 from s), cond_true] at eX
          have hq := a61 _ eX.symm
          rw [← nI_l (n := co V r σ f / 2) (by omega), ← pk_div (a := co V r σ f) (d := 2) (by omega) (by decide) (by decide)] at hq
          exact hq
        · rw [decide_eq_false (show ¬ sS σ f < 0 from s), cond_false] at eX
          have hq := a61 _ eX.symm
          rw [← nI_l (n := co V r σ f) (by omega)] at hq
          exact hq
      · have h3 : ¬ kd = 3 := fun q => h3 ((ek 3 (by omega)).mpr q)
        rw [u3, decide_eq_false h3, Bool.false_and, cond_false] at eX
        have hq := a61 _ eX.symm
        rw [← nI_l (n := co V r σ f) (by omega)] at hq
        exact hq
  exact am_at hS (fun t => Nat.beq t 5) 60 0 (loop 0 (Nat.zero_le _) I w none am_fs.refl)
