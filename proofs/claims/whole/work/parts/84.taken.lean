/-! CAMPINGS: same: the reference's; taken: both -/
theorem m_same {E : am_E} (zi : am_inj E) {k : Nat} (hk : 2 ≤ k) {σ : St} (zw : wf σ) {I : am_I} (zR : RS I σ) (w : Int64) {z : Cz} (hz : wfz z) (hZ : zR_ I z) (x y : Int32) :
    am_Ret E k Y_MO_same [.ref 88, .int x, .int y] I w (am_eq (some (.int (aSam σ z x y))) I w) := by
  refine am_intro (pv_MO_same E k) (by decide) zi ?_ rfl rfl ?_
  · rintro _ _ _ ⟨rfl, -⟩; rfl
  intro S hS
  have h9 := zw.1
  have hz1 := hz.1
  unfold aSam at hS
  refine am_at hS (fun t => Nat.beq t 21) 60 0 ?_
  refine ⟨_, _, (by omega : k - 1 < k), m_isCamping zi (by omega) I w (by omega) hZ.1 x, am_elim ?_⟩
  refine ⟨fun h => ?_, fun h => ?_⟩
  · rw [bi_eq0] at h
    rw [h]
    exact ⟨rfl, rfl, rfl⟩
  rw [bi_eq0, Bool.not_eq_false] at h
  refine ⟨_, _, (by omega : k - 1 < k), m_isCamping zi (by omega) I w (by omega) hZ.1 y, am_elim ?_⟩
  refine ⟨fun g => ?_, fun g => ?_⟩
  · rw [bi_eq0] at g
    rw [h, g]
    exact ⟨rfl, rfl, rfl⟩
  rw [bi_eq0, Bool.not_eq_false] at g
  rw [h, g] at hS
  obtain ⟨c, hc, rfl⟩ := inb_of h (by omega)
  obtain ⟨d, hd, rfl⟩ := inb_of g (by omega)
  obtain ⟨a, ea⟩ : ∃ a, a = zA z c := ⟨_, rfl⟩
  obtain ⟨b, eb⟩ : ∃ b, b = zA z d := ⟨_, rfl⟩
  have hS2 : am_ok S (am_po (am_eq (some (.int (bi (alN_ a b (sN σ))))) I w)) (P_MO_same E k) := by
    have := hS
    rw [nI_clamp (show c < 2 ^ 31 by omega), nI_clamp (show d < 2 ^ 31 by omega), ← ea, ← eb] at this
    exact this
  have ca : ∀ p, p < 9 → am_Ret E (k - 1) Y_MO_in9 [.ref 88, .int (nI c), .int (nI p)] I w (am_eq (some (.int (nI (a p)))) I w) := fun p hp => by rw [ea]; exact m_in9 zi w hz hZ hc hp
  have cb : ∀ p, p < 9 → am_Ret E (k - 1) Y_MO_in9 [.ref 88, .int (nI d), .int (nI p)] I w (am_eq (some (.int (nI (b p)))) I w) := fun p hp => by rw [eb]; exact m_in9 zi w hz hZ hd hp
  have la : ∀ p, a p < 10 := fun p => by rw [ea]; exact isc_lt (zA_isc hz hc p)
  have lb_ : ∀ p, b p < 10 := fun p => by rw [eb]; exact isc_lt (zA_isc hz hd p)
  have loop := down (P := fun p => ∀ X4, alN_ a b p = true → S 21 [some (.ref 88), some (.int (nI c)), some (.int (nI d)), some (.int (nI p)), X4] [] I w) (sN σ) ?z ?s
  case z =>
    intro X4 ha
    rw [ha] at hS2
    refine am_at hS2 (fun t => Nat.beq t 21) 60 21 ?_
    exact ⟨fun q => absurd q (by rw [zR.1.1]; exact nI_nlt (Nat.le_refl _) (by omega)), fun _ => ⟨rfl, rfl, rfl⟩⟩
  case s =>
    intro p hp hn X4 hap
    have ap := la p
    have bp := lb_ p
    have no : alk a b p = false → bi (alN_ a b (sN σ)) = 0 := fun q => by rw [alN_no (p := p + 1) (by rw [alN_, q, Bool.and_false]) (sN σ) (by omega)]; rfl
    have l69 := down (P := fun q => alq a b p q = true → (decide (a p = 9) == decide (b p = 9)) = true → S 69 [some (.ref 88), some (.int (nI c)), some (.int (nI d)), some (.int (nI p)), some (.int (nI q))] [] I w) p ?z2 ?s2
    case z2 =>
      intro hq h9
      refine am_at hS2 (fun t => Nat.beq t 21) 60 69 ?_
      refine ⟨fun q => absurd q (nI_nlt (Nat.le_refl _) (by omega)), fun _ => ?_⟩
      have h2 := hn (some (.int (nI p))) (by rw [alN_, hap, alk, h9, hq]; rfl)
      rw [← nI_1] at h2
      exact h2
    case s2 =>
      intro q hq hn2 ha h9
      have aq := la q
      have bq := lb_ q
      have a117 : ∀ u v, u = decide (a q = a p) → v = decide (b q = b p) → S 117 [some (.ref 88), some (.int (nI c)), some (.int (nI d)), some (.int (nI p)), some (.int (nI q))] [.int (bi v), .int (bi u)] I w := by
        intro u v hu hv
        refine am_at hS2 (fun t => Nat.beq t 69) 60 117 ?_
        refine ⟨fun h => ?_, fun h => ?_⟩
        · rw [bi_inj] at h
          have hq2 := hn2 (by rw [alq, ha, ← hu, ← hv, h]; cases v <;> rfl) h9
          rw [← nI_1] at hq2
          exact hq2
        · rw [bi_inj] at h
          have e : alq a b p (q + 1) = false := by rw [alq, ha, ← hu, ← hv]; cases u <;> cases v <;> first | rfl | exact absurd rfl h
          have e0 := no (by rw [alk, alq_no e p (by omega), Bool.and_false])
          exact ⟨congrArg (fun y => some (Value.int y)) e0.symm, rfl, rfl⟩
      have a96 : ∀ u, u = decide (a q = a p) → S 96 [some (.ref 88), some (.int (nI c)), some (.int (nI d)), some (.int (nI p)), some (.int (nI q))] [.int (bi u)] I w := by
        intro u hu
        refine am_at hS2 (fun t => Nat.beq t 117) 60 96 ?_
        refine ⟨_, _, (by omega : k - 1 < k), cb p (by omega), am_elim ?_⟩
        refine ⟨_, _, (by omega : k - 1 < k), cb q (by omega), am_elim ?_⟩
        refine ⟨fun h => ?_, fun h => ?_⟩
        · rw [neq (by omega) (by omega)] at h
          exact a117 u true hu (decide_eq_true h.symm).symm
        · rw [neq (by omega) (by omega)] at h
          exact a117 u false hu (decide_eq_false (fun e => h e.symm)).symm
      refine am_at hS2 (fun t => Nat.beq t 69 || Nat.beq t 96) 60 69 ?_
      refine ⟨fun _ => ?_, fun h => absurd (nI_lt hq (by omega)) h⟩
      refine ⟨_, _, (by omega : k - 1 < k), ca p (by omega), am_elim ?_⟩
      refine ⟨_, _, (by omega : k - 1 < k), ca q (by omega), am_elim ?_⟩
      refine ⟨fun h => ?_, fun h => ?_⟩
      · rw [neq (by omega) (by omega)] at h
        exact a96 true (decide_eq_true h.symm).symm
      · rw [neq (by omega) (by omega)] at h
        exact a96 false (decide_eq_false (fun e => h e.symm)).symm
    have a61 : ∀ u v, u = decide (a p = 9) → v = decide (b p = 9) → S 61 [some (.ref 88), some (.int (nI c)), some (.int (nI d)), some (.int (nI p)), X4] [.int (bi v), .int (bi u)] I w := by
      intro u v hu hv
      refine am_at hS2 (fun t => Nat.beq t 69) 60 61 ?_
      refine ⟨fun h => ?_, fun h => ?_⟩
      · rw [bi_inj] at h
        exact l69 0 (Nat.zero_le _) rfl (by rw [← hu, ← hv, h]; cases v <;> rfl)
      · rw [bi_inj] at h
        have e0 := no (by rw [alk, ← hu, ← hv, show (u == v) = false by cases u <;> cases v <;> first | rfl | exact absurd rfl h]; rfl)
        exact ⟨congrArg (fun y => some (Value.int y)) e0.symm, rfl, rfl⟩
    have a45 : ∀ u, u = decide (a p = 9) → S 45 [some (.ref 88), some (.int (nI c)), some (.int (nI d)), some (.int (nI p)), X4] [.int (bi u)] I w := by
      intro u hu
      refine am_at hS2 (fun t => Nat.beq t 61) 60 45 ?_
      refine ⟨_, _, (by omega : k - 1 < k), cb p (by omega), am_elim ?_⟩
      refine ⟨fun h => ?_, fun h => ?_⟩
      · have h : b p = 9 := (neq (b := 9) (by omega) (by omega)).mp h
        exact a61 u true hu (decide_eq_true h).symm
      · have h : ¬ b p = 9 := fun q => h ((neq (b := 9) (by omega) (by omega)).mpr q)
        exact a61 u false hu (decide_eq_false h).symm
    refine am_at hS2 (fun t => Nat.beq t 21 || Nat.beq t 45) 60 21 ?_
    refine ⟨fun _ => ?_, fun q => absurd (show nI p < I 88 9 by rw [zR.1.1]; exact nI_lt hp (by omega)) q⟩
    refine ⟨_, _, (by omega : k - 1 < k), ca p (by omega), am_elim ?_⟩
    refine ⟨fun h => ?_, fun h => ?_⟩
    · have h : a p = 9 := (neq (b := 9) (by omega) (by omega)).mp h
      exact a45 true (decide_eq_true h).symm
    · have h : ¬ a p = 9 := fun q => h ((neq (b := 9) (by omega) (by omega)).mpr q)
      exact a45 false (decide_eq_false h).symm
  exact loop 0 (Nat.zero_le _) none rfl
def aTkn (z : Cz) (x y : Int32) : Int32 := cond (inb y 6) (cond (inb x (zN z)) (cond (und (zK z x.toNatClampNeg) y.toNatClampNeg) (nI (zS z x.toNatClampNeg)) (-13)) (-11)) (-2)
theorem c_taken {E : am_E} (zi : am_inj E) {k : Nat} (hk : 2 ≤ k) {I : am_I} (w : Int64) {z : Cz} (hz : wfz z) (hZ : cZ I z) (x y : Int32) :
    am_Ret E k Y_TC_taken [.ref 0, .int x, .int y] I w (am_eq (some (.int (aTkn z x y))) I w) := by
  refine am_intro (pv_TC_taken E k) (by decide) zi ?_ rfl rfl ?_
  · rintro _ _ _ ⟨rfl, -⟩; rfl
  intro S hS
  have hz1 := hz.1
  unfold aTkn at hS
  refine am_at hS (fun _ => false) 60 0 ?_
  refine ⟨_, _, (by omega : k - 1 < k), r_isKind zi y I w, am_elim ?_⟩
  refine ⟨fun g => ?_, fun g => ?_⟩
  · rw [bi_eq0] at g
    rw [g]
    exact ⟨rfl, rfl, rfl⟩
  rw [bi_eq0, Bool.not_eq_false] at g
  rw [g, cond_true] at hS ⊢
  refine ⟨_, _, (by omega : k - 1 < k), r_isCamping zi (by omega) x I w hZ.1, am_elim ?_⟩
  refine ⟨fun h => ?_, fun h => ?_⟩
  · rw [bi_eq0] at h
    rw [h]
    exact ⟨rfl, rfl, rfl⟩
  rw [bi_eq0, Bool.not_eq_false] at h
  rw [h, cond_true] at hS ⊢
  obtain ⟨c, hc, rfl⟩ := inb_of h (by omega)
  obtain ⟨d, hd, rfl⟩ := inb_of g (by omega)
  rw [nI_clamp (show c < 2 ^ 31 by omega), nI_clamp (show d < 2 ^ 31 by omega)] at hS ⊢
  obtain ⟨⟨g1, -, g3, -⟩, g4⟩ := hZ.2 c hc
  have bdc : vp_in (nI c) 10 := vp_in_nI (by omega) (by omega)
  have clc : (nI c).toNatClampNeg = c := nI_clamp (by omega)
  have hu : am_Ret E (k - 1) Y_TC_isUnder [.int (I (49 + 2 * c) 3), .int (nI d)] I w (am_eq (some (.int (bi (und (zK z c) d)))) I w) := by rw [g3]; exact r_isUnder zi (by omega) I w g1 hd
  obtain ⟨B, eB⟩ : ∃ B, B = und (zK z c) d := ⟨_, rfl⟩
  obtain ⟨Z, eZ⟩ : ∃ Z, Z = zS z c := ⟨_, rfl⟩
  rw [← eB] at hu hS ⊢
  rw [← eZ] at g4 hS ⊢
  refine ⟨bdc, ?_⟩
  rw [clc]
  have hc10 : c = 0 ∨ c = 1 ∨ c = 2 ∨ c = 3 ∨ c = 4 ∨ c = 5 ∨ c = 6 ∨ c = 7 ∨ c = 8 ∨ c = 9 := by omega
  clear eB eZ g1 g3
  rcases hc10 with rfl | rfl | rfl | rfl | rfl | rfl | rfl | rfl | rfl | rfl
  all_goals
    refine ⟨_, _, (by omega : k - 1 < k), hu, am_elim ?_⟩
    refine ⟨fun q => ?_, fun q => ?_⟩
    · rw [bi_eq0] at q
      rw [q]
      exact ⟨rfl, rfl, rfl⟩
    · rw [bi_eq0, Bool.not_eq_false] at q
      rw [q]
      refine ⟨bdc, ?_⟩
      rw [clc]
      exact ⟨congrArg (fun y => some (Value.int y)) g4, rfl, rfl⟩
theorem m_over {E : am_E} (zi : am_inj E) {k : Nat} (I : am_I) (w : Int64) {kd : Nat} (hkd : kd < 6) : am_Ret E k Y_MO_over [.int (nI kd)] I w (am_eq (some (.int (am_under kd))) I w) := by
  refine am_intro (pv_MO_over E k) (by decide) zi ?_ rfl rfl ?_
  · rintro _ _ _ ⟨rfl, -⟩; rfl
  intro S hS
  have hc : kd = 0 ∨ kd = 1 ∨ kd = 2 ∨ kd = 3 ∨ kd = 4 ∨ kd = 5 := by omega
  rcases hc with rfl | rfl | rfl | rfl | rfl | rfl
  · refine am_at hS (fun _ => false) 60 0 ?_
    exact ⟨fun _ => ⟨rfl, rfl, rfl⟩, fun q => absurd rfl q⟩
  · refine am_at hS (fun _ => false) 60 0 ?_
    exact ⟨fun q => absurd q (by decide), fun _ => ⟨fun q => absurd q (by decide), fun _ => ⟨fun q => absurd q (by decide), fun _ => ⟨fun q => absurd q (by decide), fun _ => ⟨rfl, rfl, rfl⟩⟩⟩⟩⟩
  · refine am_at hS (fun _ => false) 60 0 ?_
    exact ⟨fun q => absurd q (by decide), fun _ => ⟨fun q => absurd q (by decide), fun _ => ⟨fun q => absurd q (by decide), fun _ => ⟨fun q => absurd q (by decide), fun _ => ⟨rfl, rfl, rfl⟩⟩⟩⟩⟩
  · refine am_at hS (fun _ => false) 60 0 ?_
    exact ⟨fun q => absurd q (by decide), fun _ => ⟨fun _ => ⟨rfl, rfl, rfl⟩, fun q => absurd rfl q⟩⟩
  · refine am_at hS (fun _ => false) 60 0 ?_
    exact ⟨fun q => absurd q (by decide), fun _ => ⟨fun q => absurd q (by decide), fun _ => ⟨fun _ => ⟨rfl, rfl, rfl⟩, fun q => absurd rfl q⟩⟩⟩
  · refine am_at hS (fun _ => false) 60 0 ?_
    exact ⟨fun q => absurd q (by decide), fun _ => ⟨fun q => absurd q (by decide), fun _ => ⟨fun q => absurd q (by decide), fun _ => ⟨fun _ => ⟨rfl, rfl, rfl⟩, fun q => absurd rfl q⟩⟩⟩⟩
theorem inl_05 (x : Int32) : inl x.toInt64 0 5 = inb x 6 := by
  rw [inl_r]
  unfold inb
  rw [show (0 : Int64).toInt = 0 from rfl, show (5 : Int64).toInt = 5 from rfl]
  congr 1
  apply decide_eq_decide.mpr
  omega
theorem m_taken {E : am_E} (zi : am_inj E) {k : Nat} (hk : 2 ≤ k) {I : am_I} (w : Int64) {z : Cz} (hz : wfz z) (hZ : zR_ I z) (x y : Int32) :
    am_Ret E k Y_MO_taken [.ref 88, .int x, .int y] I w (am_eq (some (.int (aTkn z x y))) I w) := by
  refine am_intro (pv_MO_taken E k) (by decide) zi ?_ rfl rfl ?_
  · rintro _ _ _ ⟨rfl, -⟩; rfl
  intro S hS
  have hz1 := hz.1
  unfold aTkn at hS
  refine am_at hS (fun t => Nat.beq t 33) 60 0 ?_
  refine ⟨_, _, (by omega : k - 1 < k), r_in zi I w _ _ _, am_elim ?_⟩
  rw [inl_05]
  refine ⟨fun g => ?_, fun g => ?_⟩
  · rw [bi_eq0] at g
    rw [g]
    exact ⟨rfl, rfl, rfl⟩
  rw [bi_eq0, Bool.not_eq_false] at g
  rw [g, cond_true] at hS ⊢
  refine ⟨_, _, (by omega : k - 1 < k), m_isCamping zi (by omega) I w (by omega) hZ.1 x, am_elim ?_⟩
  refine ⟨fun h => ?_, fun h => ?_⟩
  · rw [bi_eq0] at h
    rw [h]
    exact ⟨rfl, rfl, rfl⟩
  rw [bi_eq0, Bool.not_eq_false] at h
  rw [h, cond_true] at hS ⊢
  obtain ⟨c, hc, rfl⟩ := inb_of h (by omega)
  obtain ⟨d, hd, rfl⟩ := inb_of g (by omega)
  rw [nI_clamp (show c < 2 ^ 31 by omega), nI_clamp (show d < 2 ^ 31 by omega)] at hS ⊢
  obtain ⟨e100, e101, -⟩ := hZ.2 c hc
  have k6 := (hz.2 c hc).1
  have bdc : vp_in (nI c) 10 := vp_in_nI (by omega) (by omega)
  have clc : (nI c).toNatClampNeg = c := nI_clamp (by omega)
  obtain ⟨B, eB⟩ : ∃ B, B = und (zK z c) d := ⟨_, rfl⟩
  obtain ⟨K, eK⟩ : ∃ K, K = zK z c := ⟨_, rfl⟩
  rw [← eB] at hS ⊢
  rw [← eK] at e100 eB k6
  have yes : B = true → S 33 [some (.ref 88), some (.int (nI c)), some (.int (nI d)), some (.int (nI d))] [] I w := by
    intro hB
    rw [hB] at hS
    have a51 : S 51 [some (.ref 88), some (.int (nI c)), some (.int (nI d)), some (.int (nI d))] [] I w := by
      refine am_at hS (fun _ => false) 60 51 ?_
      refine ⟨fun _ => ?_, fun q => absurd rfl q⟩
      refine ⟨bdc, ?_⟩
      rw [clc]
      exact ⟨congrArg (fun y => some (Value.int y)) e101, rfl, rfl⟩
    refine am_at hS (fun t => Nat.beq t 51) 60 33 ?_
    exact ⟨fun _ => a51, fun _ => ⟨fun _ => a51, fun q => absurd rfl q⟩⟩
  have nope : B = false → S 33 [some (.ref 88), some (.int (nI c)), some (.int (nI d)), some (.int (-1))] [] I w := by
    intro hB
    rw [hB] at hS
    refine am_at hS (fun _ => false) 60 33 ?_
    refine ⟨fun _ => ?_, fun q => absurd rfl q⟩
    exact ⟨fun q => absurd q.symm (nI_ne1 (by omega)), fun _ => ⟨rfl, rfl, rfl⟩⟩
  have step : ∀ x v, x < 6 → am_under x = v → (x = d → B = true) → (¬ x = d → S 33 [some (.ref 88), some (.int (nI c)), some (.int (nI d)), some (.int v)] [] I w) → S 33 [some (.ref 88), some (.int (nI c)), some (.int (nI d)), some (.int (nI x))] [] I w := by
    intro x v hx hv hy hn
    by_cases e : x = d
    · rw [e]; exact yes (hy e)
    · refine am_at hS (fun t => Nat.beq t 33) 60 33 ?_
      refine ⟨fun q => absurd q (nI_ne1 (by omega)), fun _ => ?_⟩
      refine ⟨fun q => absurd q (by rw [neq (by omega) (by omega)]; exact e), fun _ => ?_⟩
      refine ⟨_, _, (by omega : k - 1 < k), m_over zi I w hx, am_elim ?_⟩
      rw [hv]
      exact hn e
  have fin : ((0 = d → B = true) ∧ (¬ 0 = d → B = false)) → S 33 [some (.ref 88), some (.int (nI c)), some (.int (nI d)), some (.int (nI 0))] [] I w := fun h => step 0 (-1) (by omega) rfl h.1 (fun q => nope (h.2 q))
  refine ⟨bdc, ?_⟩
  rw [clc, e100]
  have hcK : K = 0 ∨ K = 1 ∨ K = 2 ∨ K = 3 ∨ K = 4 ∨ K = 5 := by omega
  clear eK e100
  rcases hcK with rfl | rfl | rfl | rfl | rfl | rfl
  · exact fin (by rw [eB]; exact und0 d hd)
  · exact step 1 (nI 0) (by omega) rfl (by rw [eB]; exact (und1 d hd).1) (fun q => fin (by rw [eB]; exact (und1 d hd).2 q))
  · exact step 2 (nI 0) (by omega) rfl (by rw [eB]; exact (und2 d hd).1) (fun q => fin (by rw [eB]; exact (und2 d hd).2 q))
  · exact step 3 (nI 2) (by omega) rfl (by rw [eB]; exact (und3 d hd).1) (fun q => step 2 (nI 0) (by omega) rfl (by rw [eB]; exact ((und3 d hd).2 q).1) (fun q2 => fin (by rw [eB]; exact ((und3 d hd).2 q).2 q2)))
  · exact step 4 (nI 1) (by omega) rfl (by rw [eB]; exact (und4 d hd).1) (fun q => step 1 (nI 0) (by omega) rfl (by rw [eB]; exact ((und4 d hd).2 q).1) (fun q2 => fin (by rw [eB]; exact ((und4 d hd).2 q).2 q2)))
  · exact step 5 (nI 1) (by omega) rfl (by rw [eB]; exact (und5 d hd).1) (fun q => step 1 (nI 0) (by omega) rfl (by rw [eB]; exact ((und5 d hd).2 q).1) (fun q2 => fin (by rw [eB]; exact ((und5 d hd).2 q).2 q2)))
