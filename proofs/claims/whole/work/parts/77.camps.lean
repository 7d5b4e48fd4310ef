/-! CAMPINGS: the class's -/
def oB (o : Nat) : Prop := o = 49 ∨ o = 51 ∨ o = 53 ∨ o = 55 ∨ o = 57 ∨ o = 59 ∨ o = 61 ∨ o = 63 ∨ o = 65 ∨ o = 67 ∨ o = 69
def isc (v : Nat) : Prop := v < 4 ∨ v = 9
def cpO (I : am_I) (o kd : Nat) (a : Nat → Nat) : Prop := kd < 6 ∧ (∀ p, isc (a p)) ∧ I o 3 = nI kd ∧ ∃ sz, sz ≤ 9 ∧ I o 4 = nI sz ∧ ∀ p, p < 9 → (p < sz → I (o + 1) p = nI (a p)) ∧ (sz ≤ p → a p = 0)
theorem isc_lt {v : Nat} (h : isc v) : v < 10 := by unfold isc at h; omega
theorem cpO_of {I J : am_I} {o kd : Nat} {a : Nat → Nat} (h : cpO I o kd a) (h1 : J o 3 = I o 3) (h2 : J o 4 = I o 4) (h3 : ∀ p, p < 9 → J (o + 1) p = I (o + 1) p) : cpO J o kd a := by
  obtain ⟨g1, g2, g3, sz, g4, g5, g6⟩ := h
  exact ⟨g1, g2, h1.trans g3, sz, g4, h2.trans g5, fun p hp => ⟨fun q => (h3 p hp).trans ((g6 p hp).1 q), (g6 p hp).2⟩⟩
def und (k a : Nat) : Bool := decide (k = a) || (decide (a = 0) || (decide (a = 2) && decide (k = 3) || (decide (a = 1) && (decide (k = 4) || decide (k = 5)))))
theorem und0 : ∀ a, a < 6 → ((0 = a → und 0 a = true) ∧ (¬ 0 = a → und 0 a = false)) := by decide
theorem und1 : ∀ a, a < 6 → (1 = a → und 1 a = true) ∧ (¬ 1 = a → (0 = a → und 1 a = true) ∧ (¬ 0 = a → und 1 a = false)) := by decide
theorem und2 : ∀ a, a < 6 → (2 = a → und 2 a = true) ∧ (¬ 2 = a → (0 = a → und 2 a = true) ∧ (¬ 0 = a → und 2 a = false)) := by decide
theorem und3 : ∀ a, a < 6 → (3 = a → und 3 a = true) ∧ (¬ 3 = a → (2 = a → und 3 a = true) ∧ (¬ 2 = a → (0 = a → und 3 a = true) ∧ (¬ 0 = a → und 3 a = false))) := by decide
theorem und4 : ∀ a, a < 6 → (4 = a → und 4 a = true) ∧ (¬ 4 = a → (1 = a → und 4 a = true) ∧ (¬ 1 = a → (0 = a → und 4 a = true) ∧ (¬ 0 = a → und 4 a = false))) := by decide
theorem und5 : ∀ a, a < 6 → (5 = a → und 5 a = true) ∧ (¬ 5 = a → (1 = a → und 5 a = true) ∧ (¬ 1 = a → (0 = a → und 5 a = true) ∧ (¬ 0 = a → und 5 a = false))) := by decide
theorem r_isUnder {E : am_E} (zi : am_inj E) {k : Nat} (hk : 1 ≤ k) (I : am_I) (w : Int64) {kd a : Nat} (hkd : kd < 6) (ha : a < 6) : am_Ret E k Y_TC_isUnder [.int (nI kd), .int (nI a)] I w (am_eq (some (.int (bi (und kd a)))) I w) := by
  refine am_intro (pv_TC_isUnder E k) (by decide) zi ?_ rfl rfl ?_
  · rintro _ _ _ ⟨rfl, -⟩; exact bi_nr _
  intro S hS
  obtain ⟨B, hB⟩ : ∃ B, B = und kd a := ⟨_, rfl⟩
  rw [← hB] at hS
  have stop : ∀ i, i < 6 → B = false → S 4 [some (.int (nI kd)), some (.int (nI a)), some (.int (-1)), some (.int (nI i))] [] I w := by
    intro i hi hb
    refine am_at hS (fun t => Nat.beq t 4) 60 4 ?_
    refine ⟨fun _ => ?_, fun q => absurd (show nI i < nI 6 from nI_lt hi (by decide)) q⟩
    refine ⟨_, _, (by omega : k - 1 < k), r_isKind zi (-1) I w, am_elim ?_⟩
    refine ⟨fun _ => ?_, fun q => absurd rfl q⟩
    rw [hb]
    exact ⟨rfl, rfl, rfl⟩
  have step : ∀ x i v, x < 6 → i < 6 → am_under x = v → (x = a → B = true) → (¬ x = a → S 4 [some (.int (nI kd)), some (.int (nI a)), some (.int v), some (.int (nI (i + 1)))] [] I w) → S 4 [some (.int (nI kd)), some (.int (nI a)), some (.int (nI x)), some (.int (nI i))] [] I w := by
    intro x i v hx hi hv hy hn
    refine am_at hS (fun t => Nat.beq t 4) 60 4 ?_
    refine ⟨fun _ => ?_, fun q => absurd (show nI i < nI 6 from nI_lt hi (by decide)) q⟩
    refine ⟨_, _, (by omega : k - 1 < k), r_isKind zi (nI x) I w, am_elim ?_⟩
    have hin : inb (nI x) 6 = true := by unfold inb; rw [nI_toInt (by omega), decide_eq_true (by omega), decide_eq_true (by omega)]; rfl
    refine ⟨fun q => absurd q (by rw [hin]; decide), fun _ => ?_⟩
    refine ⟨fun h => ?_, fun h => ?_⟩
    · rw [neq (by omega) (by omega)] at h
      rw [hy h]
      exact ⟨rfl, rfl, rfl⟩
    · rw [neq (by omega) (by omega)] at h
      refine ⟨vp_in_nI hx (by omega), ?_⟩
      rw [nI_clamp (by omega), hv]
      have hq := hn h
      rw [← nI_1] at hq
      exact hq
  refine am_at hS (fun t => Nat.beq t 4) 60 0 ?_
  have fin : ∀ i, i ≤ 4 → ((0 = a → B = true) ∧ (¬ 0 = a → B = false)) → S 4 [some (.int (nI kd)), some (.int (nI a)), some (.int (nI 0)), some (.int (nI i))] [] I w := fun i hi h => step 0 i (-1) (by omega) (by omega) rfl h.1 (fun q => stop (i + 1) (by omega) (h.2 q))
  have hc : kd = 0 ∨ kd = 1 ∨ kd = 2 ∨ kd = 3 ∨ kd = 4 ∨ kd = 5 := by omega
  rcases hc with rfl | rfl | rfl | rfl | rfl | rfl
  · exact fin 0 (by omega) (by rw [hB]; exact und0 a ha)
  · exact step 1 0 (nI 0) (by omega) (by omega) rfl (by rw [hB]; exact (und1 a ha).1) (fun q => fin 1 (by omega) (by rw [hB]; exact (und1 a ha).2 q))
  · exact step 2 0 (nI 0) (by omega) (by omega) rfl (by rw [hB]; exact (und2 a ha).1) (fun q => fin 1 (by omega) (by rw [hB]; exact (und2 a ha).2 q))
  · exact step 3 0 (nI 2) (by omega) (by omega) rfl (by rw [hB]; exact (und3 a ha).1) (fun q => step 2 1 (nI 0) (by omega) (by omega) rfl (by rw [hB]; exact ((und3 a ha).2 q).1) (fun q2 => fin 2 (by omega) (by rw [hB]; exact ((und3 a ha).2 q).2 q2)))
  · exact step 4 0 (nI 1) (by omega) (by omega) rfl (by rw [hB]; exact (und4 a ha).1) (fun q => step 1 1 (nI 0) (by omega) (by omega) rfl (by rw [hB]; exact ((und4 a ha).2 q).1) (fun q2 => fin 2 (by omega) (by rw [hB]; exact ((und4 a ha).2 q).2 q2)))
  · exact step 5 0 (nI 1) (by omega) (by omega) rfl (by rw [hB]; exact (und5 a ha).1) (fun q => step 1 1 (nI 0) (by omega) (by omega) rfl (by rw [hB]; exact ((und5 a ha).2 q).1) (fun q2 => fin 2 (by omega) (by rw [hB]; exact ((und5 a ha).2 q).2 q2)))
theorem r_campOf {E : am_E} (zi : am_inj E) {k : Nat} {I : am_I} (w : Int64) {o kd : Nat} {a : Nat → Nat} (ho : oB o) (hO : cpO I o kd a) {p : Nat} (hp : p < 9) : am_Ret E k Y_Camping_campOf [.ref o, .int (nI p)] I w (am_eq (some (.int (nI (a p)))) I w) := by
  refine am_intro (pv_Camping_campOf E k) (by decide) zi ?_ rfl rfl ?_
  · rintro _ _ _ ⟨rfl, -⟩; rfl
  intro S hS
  obtain ⟨g1, g2, g3, sz, g4, g5, g6⟩ := hO
  obtain ⟨g7, g8⟩ := g6 p hp
  rcases ho with rfl | rfl | rfl | rfl | rfl | rfl | rfl | rfl | rfl | rfl | rfl
  all_goals
    refine am_at hS (fun _ => false) 60 0 ?_
    refine ⟨fun h => ?_, fun h => ?_⟩
    · rw [g5, nlt (by omega) (by omega)] at h
      refine ⟨vp_in_nI (by omega) (by omega), ?_⟩
      rw [nI_clamp (by omega)]
      exact ⟨congrArg (fun y => some (Value.int y)) (g7 h), rfl, rfl⟩
    · rw [g5, nlt (by omega) (by omega)] at h
      exact ⟨congrArg (fun y => some (Value.int (nI y))) (g8 (by omega)).symm, rfl, rfl⟩
def cin (σ : St) (a : Nat → Nat) (v : Nat) : Nat := cnt (fun p => decide (a p = v)) (sN σ)
theorem r_countIn {E : am_E} (zi : am_inj E) {k : Nat} (hk : 1 ≤ k) {σ : St} (zw : wf σ) {I : am_I} (zC : CS I σ) (w : Int64) {o kd : Nat} {a : Nat → Nat} (ho : oB o) (hO : cpO I o kd a) {v : Nat} (hv : v < 10) : am_Ret E k Y_Camping_countIn [.ref o, .int (nI v)] I w (am_eq (some (.int (nI (cin σ a v)))) I w) := by
  refine am_intro (pv_Camping_countIn E k) (by decide) zi ?_ rfl rfl ?_
  · rintro _ _ _ ⟨rfl, -⟩; rfl
  intro S hS
  have h9 := zw.1
  have hisc := hO.2.1
  have hcall := fun p (hp : p < 9) => r_campOf zi (k := k - 1) w ho hO hp
  unfold cin at hS
  rcases ho with rfl | rfl | rfl | rfl | rfl | rfl | rfl | rfl | rfl | rfl | rfl
  all_goals
    refine am_at hS (fun t => Nat.beq t 4) 60 0 ?_
    refine down (P := fun p => S 4 [some (.ref _), some (.int (nI v)), some (.int (nI (cnt (fun p => decide (a p = v)) p))), some (.int (nI p))] [] I w) (sN σ) ?_ ?_ 0 (Nat.zero_le _)
    · refine am_at hS (fun t => Nat.beq t 4) 60 4 ?_
      exact ⟨fun q => absurd q (by show ¬ nI (sN σ) < I 1 0; rw [zC.1.1]; exact nI_nlt (Nat.le_refl _) (by omega)), fun _ => ⟨rfl, rfl, rfl⟩⟩
    · intro p hp hn
      have hap := isc_lt (hisc p)
      refine am_at hS (fun t => Nat.beq t 4) 60 4 ?_
      refine ⟨fun _ => ?_, fun q => absurd (show nI p < I 1 0 by rw [zC.1.1]; exact nI_lt hp (by omega)) q⟩
      refine ⟨_, _, (by omega : k - 1 < k), hcall p (by omega), am_elim ?_⟩
      refine ⟨fun h => ?_, fun h => ?_⟩
      · rw [neq (by omega) (by omega)] at h
        have hq := hn
        rw [← cnt_t (decide_eq_true h), ← nI_1 p] at hq
        exact hq
      · rw [neq (by omega) (by omega)] at h
        have hq := hn
        rw [← cnt_f (decide_eq_false h), ← nI_1 p] at hq
        exact hq
def usd (σ : St) (a : Nat → Nat) : Nat := cnt (fun c => decide (0 < cin σ a c)) 4
theorem r_usedCamps {E : am_E} (zi : am_inj E) {k : Nat} (hk : 2 ≤ k) {σ : St} (zw : wf σ) {I : am_I} (zC : CS I σ) (w : Int64) {o kd : Nat} {a : Nat → Nat} (ho : oB o) (hO : cpO I o kd a) : am_Ret E k Y_Camping_usedCamps [.ref o] I w (am_eq (some (.int (nI (usd σ a)))) I w) := by
  refine am_intro (pv_Camping_usedCamps E k) (by decide) zi ?_ rfl rfl ?_
  · rintro _ _ _ ⟨rfl, -⟩; rfl
  intro S hS
  have h9 := zw.1
  unfold usd at hS
  have hcall := fun c (hc : c < 10) => r_countIn zi (k := k - 1) (by omega) zw zC w ho hO hc
  rcases ho with rfl | rfl | rfl | rfl | rfl | rfl | rfl | rfl | rfl | rfl | rfl
  all_goals
    refine am_at hS (fun t => Nat.beq t 4) 60 0 ?_
    refine down (P := fun c => S 4 [some (.ref _), some (.int (nI (cnt (fun c => decide (0 < cin σ a c)) c))), some (.int (nI c))] [] I w) 4 ?_ ?_ 0 (by omega)
    · refine am_at hS (fun t => Nat.beq t 4) 60 4 ?_
      exact ⟨fun q => absurd q (nI_nlt (Nat.le_refl 4) (by decide)), fun _ => ⟨rfl, rfl, rfl⟩⟩
    · intro c hc hn
      have hle : cin σ a c ≤ sN σ := cnt_le _ _
      have e0 : ((0 : Int32) < nI (cin σ a c)) = (0 < cin σ a c) := nlt (a := 0) (by omega) (by omega)
      refine am_at hS (fun t => Nat.beq t 4) 60 4 ?_
      refine ⟨fun _ => ?_, fun q => absurd (show nI c < nI 4 from nI_lt hc (by decide)) q⟩
      refine ⟨_, _, (by omega : k - 1 < k), hcall c (by omega), am_elim ?_⟩
      refine ⟨fun h => ?_, fun h => ?_⟩
      · have h : 0 < cin σ a c := e0.mp h
        have hq := hn
        rw [← cnt_t (decide_eq_true h), ← nI_1 c] at hq
        exact hq
      · have h : ¬ 0 < cin σ a c := fun q => h (e0.mpr q)
        have hq := hn
        rw [← cnt_f (decide_eq_false h), ← nI_1 c] at hq
        exact hq
def wra (σ : St) (a : Nat → Nat) (f : Nat) : Bool := !decide (a (sL σ f) = 9) && (!decide (a (sG σ f) = 9) && wrt σ f (decide (a (sL σ f) = a (sG σ f))))
theorem r_isWrongA {E : am_E} (zi : am_inj E) {k : Nat} (hk : 1 ≤ k) {σ : St} (zw : wf σ) {I : am_I} (zC : CS I σ) (w : Int64) {o kd : Nat} {a : Nat → Nat} (ho : oB o) (hO : cpO I o kd a) {f : Nat} (hf : f < sM σ) : am_Ret E k Y_Camping_isWrong [.ref o, .int (nI f)] I w (am_eq (some (.int (bi (wra σ a f)))) I w) := by
  refine am_intro (pv_Camping_isWrong E k) (by decide) zi ?_ rfl rfl ?_
  · rintro _ _ _ ⟨rfl, -⟩; exact bi_nr _
  intro S hS
  have h9 := zw.1
  have h36 := sM_le zw
  have h3 := zw.2.1.1 f hf
  obtain ⟨e1, e2, -⟩ := zC.2.2.1 f hf
  have i1 := isc_lt (hO.2.1 (sL σ f))
  have i2 := isc_lt (hO.2.1 (sG σ f))
  have hcall := fun p (hp : p < 9) => r_campOf zi (k := k - 1) w ho hO hp
  have bd : vp_in (nI f) 36 := vp_in_nI (by omega) (by omega)
  have cl : (nI f).toNatClampNeg = f := nI_clamp (by omega)
  unfold wra at hS
  obtain ⟨u, hu⟩ : ∃ u, u = o := ⟨_, rfl⟩
  rcases ho with rfl | rfl | rfl | rfl | rfl | rfl | rfl | rfl | rfl | rfl | rfl
  all_goals
    refine am_at hS (fun t => Nat.beq t 55) 60 0 ?_
    refine ⟨bd, ?_⟩
    rw [cl, e1]
    refine ⟨_, _, (by omega : k - 1 < k), hcall _ (by omega), am_elim ?_⟩
    refine ⟨bd, ?_⟩
    rw [cl, e2]
    refine ⟨_, _, (by omega : k - 1 < k), hcall _ (by omega), am_elim ?_⟩
    refine ⟨fun h => ?_, fun h => ?_⟩
    · have h : a (sL σ f) = 9 := (neq (b := 9) (by omega) (by omega)).mp h
      rw [decide_eq_true h]
      exact ⟨rfl, rfl, rfl⟩
    have h : ¬ a (sL σ f) = 9 := fun q => h ((neq (b := 9) (by omega) (by omega)).mpr q)
    rw [decide_eq_false h] at hS ⊢
    refine ⟨fun g => ?_, fun g => ?_⟩
    · have g : a (sG σ f) = 9 := (neq (b := 9) (by omega) (by omega)).mp g
      rw [decide_eq_true g]
      exact ⟨rfl, rfl, rfl⟩
    have g : ¬ a (sG σ f) = 9 := fun q => g ((neq (b := 9) (by omega) (by omega)).mpr q)
    rw [decide_eq_false g] at hS ⊢
    have a55 : ∀ t, t = decide (a (sL σ f) = a (sG σ f)) → S 55 [some (.ref u), some (.int (nI f)), some (.int (nI (a (sL σ f)))), some (.int (nI (a (sG σ f))))] [.int (bi t), .int (nI f), .ref 7] I w := by
      intro t ht
      rw [← ht] at hS
      rw [hu]
      refine am_at hS (fun _ => false) 60 55 ?_
      refine ⟨_, _, (by omega : k - 1 < k), r_isWrong zi zw zC w hf t, am_elim ?_⟩
      refine ⟨fun q => ?_, fun q => ?_⟩
      · rw [bi_eq0] at q
        rw [q]
        exact ⟨rfl, rfl, rfl⟩
      · rw [bi_eq0, Bool.not_eq_false] at q
        rw [q]
        exact ⟨rfl, rfl, rfl⟩
    refine ⟨fun q => ?_, fun q => ?_⟩
    · rw [neq (by omega) (by omega)] at q
      have q2 := a55 true (decide_eq_true q).symm
      rw [hu] at q2
      exact q2
    · rw [neq (by omega) (by omega)] at q
      have q2 := a55 false (decide_eq_false q).symm
      rw [hu] at q2
      exact q2
def wrc (σ : St) (a : Nat → Nat) : Nat := cnt (wra σ a) (sM σ)
theorem r_wrongCount {E : am_E} (zi : am_inj E) {k : Nat} (hk : 2 ≤ k) {σ : St} (zw : wf σ) {I : am_I} (zC : CS I σ) (w : Int64) {o kd : Nat} {a : Nat → Nat} (ho : oB o) (hO : cpO I o kd a) : am_Ret E k Y_Camping_wrongCount [.ref o] I w (am_eq (some (.int (nI (wrc σ a)))) I w) := by
  refine am_intro (pv_Camping_wrongCount E k) (by decide) zi ?_ rfl rfl ?_
  · rintro _ _ _ ⟨rfl, -⟩; rfl
  intro S hS
  have h36 := sM_le zw
  have hcall := fun f (hf : f < sM σ) => r_isWrongA zi (k := k - 1) (by omega) zw zC w ho hO hf
  unfold wrc at hS
  rcases ho with rfl | rfl | rfl | rfl | rfl | rfl | rfl | rfl | rfl | rfl | rfl
  all_goals
    refine am_at hS (fun t => Nat.beq t 4) 60 0 ?_
    refine down (P := fun f => S 4 [some (.ref _), some (.int (nI (cnt (wra σ a) f))), some (.int (nI f))] [] I w) (sM σ) ?_ ?_ 0 (Nat.zero_le _)
    · refine am_at hS (fun t => Nat.beq t 4) 60 4 ?_
      exact ⟨fun q => absurd q (by show ¬ nI (sM σ) < I 7 0; rw [zC.2.1]; exact nI_nlt (Nat.le_refl _) (by omega)), fun _ => ⟨rfl, rfl, rfl⟩⟩
    · intro f hf hn
      refine am_at hS (fun t => Nat.beq t 4) 60 4 ?_
      refine ⟨fun _ => ?_, fun q => absurd (show nI f < I 7 0 by rw [zC.2.1]; exact nI_lt hf (by omega)) q⟩
      refine ⟨_, _, (by omega : k - 1 < k), hcall f hf, am_elim ?_⟩
      refine ⟨fun h => ?_, fun h => ?_⟩
      · rw [bi_eq0] at h
        have hq := hn
        rw [← cnt_f h, ← nI_1 f] at hq
        exact hq
      · rw [bi_eq0, Bool.not_eq_false] at h
        have hq := hn
        rw [← cnt_t h, ← nI_1 f] at hq
        exact hq
