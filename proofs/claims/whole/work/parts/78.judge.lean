/-! COST: the class's -/
def cow (V : Tx) (r : Nat) (σ : St) (kd f : Nat) : Nat := cond (und kd 3 && decide (sS σ f < 0)) (co V r σ f / 2) (co V r σ f) + cond (mw V r σ f) 0 100000
def cpA (σ : St) (kd : Nat) (a : Nat → Nat) (p : Nat) : Nat := cond (decide (a p = 9)) (cond (und kd 4) (sP σ p).toNatClampNeg 7000) 0
def cpB (kd : Nat) (a : Nat → Nat) (p : Nat) : Nat := cond (und kd 1 && (decide (a p = 2) || decide (a p = 3))) 5000 0
def cpC (σ : St) (kd : Nat) (a : Nat → Nat) (p : Nat) : Nat := cond (und kd 5 && (!decide (sD σ p = -1) && !decide (sD σ p = nI (a p)))) 50 0
def cop (σ : St) (kd : Nat) (a : Nat → Nat) (p : Nat) : Nat := cpA σ kd a p + cpB kd a p + cpC σ kd a p
def jdg (V : Tx) (r : Nat) (σ : St) (kd : Nat) (a : Nat → Nat) : Nat := cond (und kd 2) (3 * usd σ a) 0 + sm (fun f => cond (wra σ a f) (cow V r σ kd f) 0) (sM σ) + sm (cop σ kd a) (sN σ)
theorem r_costOfWrong {E : am_E} (zi : am_inj E) {k : Nat} (hk : 2 ≤ k) {σ : St} (zw : wf σ) {I : am_I} (zC : CS I σ) (w : Int64) {r : Nat} {V : Tx} (hW : WG I V r σ (sM σ)) {o kd : Nat} {a : Nat → Nat} (ho : oB o) (hO : cpO I o kd a) {f : Nat} (hf : f < sM σ) : am_Ret E k Y_Camping_costOfWrong [.ref o, .int (nI f)] I w (am_eq (some (.long (lN (cow V r σ kd f)))) I w) := by
  refine am_intro (pv_Camping_costOfWrong E k) (by decide) zi ?_ rfl rfl ?_
  · rintro _ _ _ ⟨rfl, -⟩; trivial
  intro S hS
  have h36 := sM_le zw
  obtain ⟨e1, e2, e3, -⟩ := zC.2.2.1 f hf
  obtain ⟨g1, g2, g3, -⟩ := hO
  obtain ⟨w1, w2⟩ := hW f hf
  have bd : vp_in (nI f) 36 := vp_in_nI (by omega) (by omega)
  have cl : (nI f).toNatClampNeg = f := nI_clamp (by omega)
  have hco : co V r σ f ≤ 9999 := cst_le _
  obtain ⟨C, eC⟩ : ∃ C, C = co V r σ f := ⟨_, rfl⟩
  unfold cow at hS
  rw [← eC] at w1 hco hS
  obtain ⟨u, hu⟩ : ∃ u, u = o := ⟨_, rfl⟩
  obtain ⟨h, eh⟩ : ∃ h, h = (und kd 3 && decide (sS σ f < 0)) := ⟨_, rfl⟩
  rw [← eh] at hS
  rcases ho with rfl | rfl | rfl | rfl | rfl | rfl | rfl | rfl | rfl | rfl | rfl
  all_goals
    have a56 : S 56 [some (.ref u), some (.int (nI f)), some (.int (bi h)), none] [.int (nI (cond h (C / 2) C))] I w := by
      obtain ⟨v, ev⟩ : ∃ v, v = cond h (C / 2) C := ⟨_, rfl⟩
      have hv : v ≤ 9999 := by rw [ev]; cases h <;> simp only [cond_true, cond_false] <;> omega
      rw [← ev] at hS ⊢
      rw [hu]
      refine am_at hS (fun _ => false) 60 56 ?_
      refine ⟨bd, ?_⟩
      rw [cl, w2]
      cases hL : mw V r σ f with
      | false =>
        refine ⟨fun _ => ?_, fun q => absurd rfl q⟩
        exact ⟨by rw [show (100000 : Int32) = nI 100000 from rfl, nI_add, nI_l (by omega)]; rfl, rfl, rfl⟩
      | true =>
        refine ⟨fun q => absurd (show (1 : Int32) = 0 from q) (by decide), fun _ => ?_⟩
        exact ⟨by rw [nI_l (by omega)]; rfl, rfl, rfl⟩
    have a28 : S 28 [some (.ref u), some (.int (nI f)), none, none] [.int (bi h)] I w := by
      rw [hu] at a56 ⊢
      refine am_at hS (fun t => Nat.beq t 56) 60 28 ?_
      refine ⟨fun q => ?_, fun q => ?_⟩
      · rw [bi_eq0] at q
        refine ⟨bd, ?_⟩
        rw [cl, w1]
        rw [q, cond_false] at a56
        rw [q]
        exact a56
      · rw [bi_eq0, Bool.not_eq_false] at q
        refine ⟨bd, ?_⟩
        rw [cl, w1]
        refine ⟨by decide, ?_⟩
        rw [q, cond_true] at a56
        rw [q, show (2 : Int32) = nI 2 from rfl, pk_div (by omega) (by decide) (by decide)]
        exact a56
    rw [hu] at a28
    refine am_at hS (fun t => Nat.beq t 28) 60 0 ?_
    refine ⟨_, _, (by omega : k - 1 < k), (by rw [g3]; exact r_isUnder zi (by omega) I w g1 (a := 3) (by decide)), am_elim ?_⟩
    refine ⟨fun q => ?_, fun q => ?_⟩
    · rw [bi_eq0] at q
      have e : h = false := by rw [eh, q]; rfl
      rw [e] at a28
      exact a28
    · rw [bi_eq0, Bool.not_eq_false] at q
      refine ⟨bd, ?_⟩
      rw [cl, e3]
      refine ⟨fun q2 => ?_, fun q2 => ?_⟩
      · have e : h = true := by rw [eh, q]; exact decide_eq_true q2
        rw [e] at a28
        exact a28
      · have e : h = false := by rw [eh, q]; exact decide_eq_false q2
        rw [e] at a28
        exact a28
theorem r_costOfPerson {E : am_E} (zi : am_inj E) {k : Nat} (hk : 2 ≤ k) {σ : St} (zw : wf σ) {I : am_I} (zC : CS I σ) (w : Int64) {o kd : Nat} {a : Nat → Nat} (ho : oB o) (hO : cpO I o kd a) {p : Nat} (hp : p < sN σ) : am_Ret E k Y_Camping_costOfPerson [.ref o, .int (nI p)] I w (am_eq (some (.long (lN (cop σ kd a p)))) I w) := by
  refine am_intro (pv_Camping_costOfPerson E k) (by decide) zi ?_ rfl rfl ?_
  · rintro _ _ _ ⟨rfl, -⟩; trivial
  intro S hS
  have h9 := zw.1
  obtain ⟨e2, e3⟩ := zC.1.2 p hp
  obtain ⟨q1, q2⟩ := sP_nI zw hp
  have hcall := r_campOf zi (k := k - 1) w ho hO (p := p) (by omega)
  obtain ⟨g1, g2, g3, -⟩ := hO
  have bd : vp_in (nI p) 9 := vp_in_nI (by omega) (by omega)
  have cl : (nI p).toNatClampNeg = p := nI_clamp (by omega)
  have hap := isc_lt (g2 p)
  obtain ⟨x, ex⟩ : ∃ x, x = a p := ⟨_, rfl⟩
  unfold cop cpA cpB cpC at hS
  rw [← ex] at hS hap hcall
  obtain ⟨A, eA⟩ : ∃ A, A = cond (decide (x = 9)) (cond (und kd 4) (sP σ p).toNatClampNeg 7000) 0 := ⟨_, rfl⟩
  obtain ⟨B, eB⟩ : ∃ B, B = cond (und kd 1 && (decide (x = 2) || decide (x = 3))) 5000 0 := ⟨_, rfl⟩
  obtain ⟨D, eD⟩ : ∃ D, D = cond (und kd 5 && (!decide (sD σ p = -1) && !decide (sD σ p = nI x))) 50 0 := ⟨_, rfl⟩
  rw [← eA, ← eB, ← eD] at hS
  have lA_ : A ≤ 7000 := by rw [eA]; cases decide (x = 9) <;> cases und kd 4 <;> simp only [cond_true, cond_false] <;> omega
  have lB_ : B ≤ 5000 := by rw [eB]; cases (und kd 1 && (decide (x = 2) || decide (x = 3))) <;> simp only [cond_true, cond_false] <;> omega
  have lD_ : D ≤ 50 := by rw [eD]; cases (und kd 5 && (!decide (sD σ p = -1) && !decide (sD σ p = nI x))) <;> simp only [cond_true, cond_false] <;> omega
  obtain ⟨u, hu⟩ : ∃ u, u = o := ⟨_, rfl⟩
  rcases ho with rfl | rfl | rfl | rfl | rfl | rfl | rfl | rfl | rfl | rfl | rfl
  all_goals
    have a107 : ∀ v, v = A + B + D → S 107 [some (.ref u), some (.int (nI p)), some (.int (nI x)), some (.int (nI v)), some (.int (sD σ p))] [] I w := by
      intro v hv
      refine am_at hS (fun _ => false) 60 107 ?_
      exact ⟨by rw [nI_l (by omega), hv], rfl, rfl⟩
    have a70 : S 70 [some (.ref u), some (.int (nI p)), some (.int (nI x)), some (.int (nI (A + B))), none] [] I w := by
      rw [hu] at a107 ⊢
      refine am_at hS (fun t => Nat.beq t 107) 60 70 ?_
      refine ⟨bd, ?_⟩
      rw [cl, e3]
      have no : D = 0 → S 107 [some (.ref _), some (.int (nI p)), some (.int (nI x)), some (.int (nI (A + B))), some (.int (sD σ p))] [] I w := fun e => a107 (A + B) (by omega)
      refine ⟨_, _, (by omega : k - 1 < k), (by rw [g3]; exact r_isUnder zi (by omega) I w g1 (a := 5) (by decide)), am_elim ?_⟩
      refine ⟨fun q => ?_, fun q => ?_⟩
      · rw [bi_eq0] at q
        exact no (by rw [eD, q]; rfl)
      · rw [bi_eq0, Bool.not_eq_false] at q
        rw [q, Bool.true_and] at eD
        refine ⟨fun z1 => ?_, fun z1 => ?_⟩
        · exact no (by rw [eD, decide_eq_true (show sD σ p = -1 from z1)]; rfl)
        rw [decide_eq_false (show ¬ sD σ p = -1 from z1), Bool.not_false, Bool.true_and] at eD
        refine ⟨fun z2 => ?_, fun z2 => ?_⟩
        · exact no (by rw [eD, decide_eq_true (show sD σ p = nI x from z2)]; rfl)
        rw [decide_eq_false (show ¬ sD σ p = nI x from z2)] at eD
        have hq := a107 (A + B + 50) (by rw [eD]; rfl)
        rw [← nI_add, show nI 50 = (50 : Int32) from rfl] at hq
        exact hq
    have a43 : S 43 [some (.ref u), some (.int (nI p)), some (.int (nI x)), some (.int (nI A)), none] [] I w := by
      rw [hu] at a70 ⊢
      refine am_at hS (fun t => Nat.beq t 70) 60 43 ?_
      refine ⟨_, _, (by omega : k - 1 < k), (by rw [g3]; exact r_isUnder zi (by omega) I w g1 (a := 1) (by decide)), am_elim ?_⟩
      have yes : B = 5000 → S 70 [some (.ref _), some (.int (nI p)), some (.int (nI x)), some (.int (nI A + 5000)), none] [] I w := fun e => by
        have hq := a70
        rw [e, ← nI_add, show nI 5000 = (5000 : Int32) from rfl] at hq
        exact hq
      have no : B = 0 → S 70 [some (.ref _), some (.int (nI p)), some (.int (nI x)), some (.int (nI A)), none] [] I w := fun e => by
        have hq := a70
        rw [e] at hq
        exact hq
      refine ⟨fun q => ?_, fun q => ?_⟩
      · rw [bi_eq0] at q
        exact no (by rw [eB, q]; rfl)
      · rw [bi_eq0, Bool.not_eq_false] at q
        rw [q, Bool.true_and] at eB
        refine ⟨fun z1 => ?_, fun z1 => ?_⟩
        · have z1 : x = 2 := (neq (b := 2) (by omega) (by omega)).mp z1
          exact yes (by rw [eB, decide_eq_true z1]; rfl)
        have z1 : ¬ x = 2 := fun z => z1 ((neq (b := 2) (by omega) (by omega)).mpr z)
        rw [decide_eq_false z1, Bool.false_or] at eB
        refine ⟨fun z2 => ?_, fun z2 => ?_⟩
        · have z2 : x = 3 := (neq (b := 3) (by omega) (by omega)).mp z2
          exact yes (by rw [eB, decide_eq_true z2]; rfl)
        have z2 : ¬ x = 3 := fun z => z2 ((neq (b := 3) (by omega) (by omega)).mpr z)
        exact no (by rw [eB, decide_eq_false z2]; rfl)
    rw [hu] at a43
    refine am_at hS (fun t => Nat.beq t 43) 60 0 ?_
    refine ⟨_, _, (by omega : k - 1 < k), hcall, am_elim ?_⟩
    refine ⟨fun z1 => ?_, fun z1 => ?_⟩
    · have z1 : x = 9 := (neq (b := 9) (by omega) (by omega)).mp z1
      rw [decide_eq_true z1, cond_true] at eA
      refine ⟨_, _, (by omega : k - 1 < k), (by rw [g3]; exact r_isUnder zi (by omega) I w g1 (a := 4) (by decide)), am_elim ?_⟩
      refine ⟨fun q => ?_, fun q => ?_⟩
      · rw [bi_eq0] at q
        rw [q] at eA
        have hq := a43
        rw [eA] at hq
        exact hq
      · rw [bi_eq0, Bool.not_eq_false] at q
        rw [q] at eA
        refine ⟨bd, ?_⟩
        rw [cl, e2, q1]
        have hq := a43
        have e0 : nI A = (0 : Int32) + nI (sP σ p).toNatClampNeg := by rw [eA, show (0 : Int32) = nI 0 from rfl, nI_add, Nat.zero_add]; rfl
        rw [e0] at hq
        exact hq
    · have z1 : ¬ x = 9 := fun z => z1 ((neq (b := 9) (by omega) (by omega)).mpr z)
      rw [decide_eq_false z1] at eA
      have hq := a43
      rw [eA] at hq
      exact hq
theorem r_judged {E : am_E} (zi : am_inj E) {k : Nat} (hk : 5 ≤ k) {σ : St} (zw : wf σ) {I : am_I} (zC : CS I σ) (w : Int64) {T r : Nat} {V : Tx} (zL : LC I T r V) {o kd : Nat} {a : Nat → Nat} (ho : oB o) (hO : cpO I o kd a) : am_Ret E k Y_Camping_judged [.ref o] I w (fun q I' w' => q = some (.long (lN (jdg V r σ kd a))) ∧ w' = w ∧ am_fs 25 [7] [27, 28, 29] I I') := by
  refine am_intro (pv_Camping_judged E k) (by decide) zi ?_ rfl rfl ?_
  · rintro _ _ _ ⟨rfl, -⟩; trivial
  intro S hS
  have h9 := zw.1
  have h36 := sM_le zw
  have hweigh := r_weigh zi (k := k - 1) (by omega) zw zC w zL
  have hus : usd σ a ≤ 4 := cnt_le _ _
  unfold jdg at hS
  obtain ⟨u, hu⟩ : ∃ u, u = o := ⟨_, rfl⟩
  have hO2 : ∀ J, am_fs 25 [7] [27, 28, 29] I J → cpO J o kd a := fun J fJ => by
    have h49 : 49 ≤ o := by unfold oB at ho; omega
    have e1 : J o = I o := fJ.1 o (by intro q; simp only [List.mem_cons, List.not_mem_nil, or_false] at q; omega) (by omega)
    have e2 : J (o + 1) = I (o + 1) := fJ.1 (o + 1) (by intro q; simp only [List.mem_cons, List.not_mem_nil, or_false] at q; omega) (by omega)
    exact cpO_of hO (by rw [e1]) (by rw [e1]) (fun p _ => by rw [e2])
  have hw_ := fun J (zJ : CS J σ) (hJ : cpO J o kd a) f (hf : f < sM σ) => r_isWrongA zi (k := k - 1) (by omega) zw zJ w ho hJ hf
  have hc_ := fun J (zJ : CS J σ) (hJ : cpO J o kd a) (hW : WG J V r σ (sM σ)) f (hf : f < sM σ) => r_costOfWrong zi (k := k - 1) (by omega) zw zJ w hW ho hJ hf
  have hp_ := fun J (zJ : CS J σ) (hJ : cpO J o kd a) p (hp : p < sN σ) => r_costOfPerson zi (k := k - 1) (by omega) zw zJ w ho hJ hp
  have hu_ := fun J (zJ : CS J σ) (hJ : cpO J o kd a) => r_usedCamps zi (k := k - 1) (by omega) zw zJ w ho hJ
  rcases ho with rfl | rfl | rfl | rfl | rfl | rfl | rfl | rfl | rfl | rfl | rfl
  all_goals
    refine am_at hS (fun t => Nat.beq t 31) 60 0 ?_
    refine ⟨_, _, (by omega : k - 1 < k), hweigh, ?_⟩
    rintro _ J w1 ⟨rfl, rfl, hW, fJ⟩
    have zJ := CS_bs (fJ.mono (fun _ h => h) (by decide)) zC
    have hJ := hO2 J fJ
    obtain ⟨g1, g2, g3, -⟩ := id hJ
    have a69 : ∀ B p, p ≤ sN σ → B + sm (cop σ kd a) (sN σ) = jdg V r σ kd a → S 69 [some (.ref u), some (.long (lN (B + sm (cop σ kd a) p))), none, some (.int (nI p))] [] J w1 := by
      intro B p0 hp0 hB
      rw [hu]
      refine down (P := fun p => S 69 [some (.ref _), some (.long (lN (B + sm (cop σ kd a) p))), none, some (.int (nI p))] [] J w1) (sN σ) ?_ ?_ p0 hp0
      · refine am_at hS (fun t => Nat.beq t 69) 60 69 ?_
        refine ⟨fun q => absurd q (by show ¬ nI (sN σ) < J 1 0; rw [zJ.1.1]; exact nI_nlt (Nat.le_refl _) (by omega)), fun _ => ?_⟩
        rw [hB]
        exact ⟨rfl, rfl, fJ⟩
      · intro p hp hn
        refine am_at hS (fun t => Nat.beq t 69) 60 69 ?_
        refine ⟨fun _ => ?_, fun q => absurd (show nI p < J 1 0 by rw [zJ.1.1]; exact nI_lt hp (by omega)) q⟩
        refine ⟨_, _, (by omega : k - 1 < k), hp_ J zJ hJ p hp, am_elim ?_⟩
        have hq := hn
        rw [sm, ← Nat.add_assoc, ← lN_add, ← nI_1 p] at hq
        exact hq
    have a31 : S 31 [some (.ref u), none, none, none] [.long (lN (cond (und kd 2) (3 * usd σ a) 0))] J w1 := by
      obtain ⟨B, eB⟩ : ∃ B, B = cond (und kd 2) (3 * usd σ a) 0 := ⟨_, rfl⟩
      rw [← eB]
      refine am_at hS (fun t => Nat.beq t 34) 60 31 ?_
      rw [hu] at a69 ⊢
      refine down (P := fun f => S 34 [some (.ref _), some (.long (lN (B + sm (fun f => cond (wra σ a f) (cow V r σ kd f) 0) f))), none, some (.int (nI f))] [] J w1) (sM σ) ?_ ?_ 0 (Nat.zero_le _)
      · refine am_at hS (fun t => Nat.beq t 69) 60 34 ?_
        refine ⟨fun q => absurd q (by show ¬ nI (sM σ) < J 7 0; rw [zJ.2.1]; exact nI_nlt (Nat.le_refl _) (by omega)), fun _ => ?_⟩
        exact a69 (B + sm (fun f => cond (wra σ a f) (cow V r σ kd f) 0) (sM σ)) 0 (Nat.zero_le _) (by rw [eB]; rfl)
      · intro f hf hn
        refine am_at hS (fun t => Nat.beq t 34) 60 34 ?_
        refine ⟨fun _ => ?_, fun q => absurd (show nI f < J 7 0 by rw [zJ.2.1]; exact nI_lt hf (by omega)) q⟩
        refine ⟨_, _, (by omega : k - 1 < k), hw_ J zJ hJ f hf, am_elim ?_⟩
        refine ⟨fun q => ?_, fun q => ?_⟩
        · rw [bi_eq0] at q
          have hq := hn
          rw [sm, q, cond_false, Nat.add_zero, ← nI_1 f] at hq
          exact hq
        · rw [bi_eq0, Bool.not_eq_false] at q
          refine ⟨_, _, (by omega : k - 1 < k), hc_ J zJ hJ hW f hf, am_elim ?_⟩
          have hq := hn
          rw [sm, q, cond_true, ← Nat.add_assoc, ← lN_add, ← nI_1 f] at hq
          exact hq
    rw [hu] at a31
    refine ⟨_, _, (by omega : k - 1 < k), (by rw [g3]; exact r_isUnder zi (by omega) J w1 g1 (a := 2) (by decide)), am_elim ?_⟩
    refine ⟨fun q => ?_, fun q => ?_⟩
    · rw [bi_eq0] at q
      rw [q] at a31
      exact a31
    · rw [bi_eq0, Bool.not_eq_false] at q
      rw [q, cond_true, ← lN_mul, ← nI_l (show usd σ a < 2 ^ 31 by omega), show lN 3 = (3 : Int64) from rfl] at a31
      refine ⟨_, _, (by omega : k - 1 < k), hu_ J zJ hJ, am_elim ?_⟩
      exact a31
