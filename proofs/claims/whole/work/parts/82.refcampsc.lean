/-! CAMPINGS: cost, move, camped, taken: the reference's -/
theorem m_isCamping {E : am_E} (zi : am_inj E) {k : Nat} (hk : 1 ≤ k) (I : am_I) (w : Int64) {C : Nat} (hC : C < 2 ^ 30) (h0 : I 88 32 = nI C) (x : Int32) : am_Ret E k Y_MO_isCamping [.ref 88, .int x] I w (am_eq (some (.int (bi (inb x C)))) I w) := by
  refine am_intro (pv_MO_isCamping E k) (by decide) zi ?_ rfl rfl ?_
  · rintro _ _ _ ⟨rfl, -⟩; exact bi_nr _
  intro S hS
  refine am_at hS (fun _ => false) 60 0 ?_
  refine ⟨_, _, (by omega : k - 1 < k), r_in zi I w _ _ _, am_elim ?_⟩
  refine ⟨?_, rfl, rfl⟩
  rw [h0, inl_inb x hC]
theorem zA_aA {J : am_I} {σ : St} {z : Cz} (hz : wfz z) {c : Nat} (hc : c < zN z) (h : ∀ p, p < sN σ → J 103 p = nI (zA z c p)) : aA J σ (zA z c) := ⟨zA_isc hz hc, h⟩
theorem RL_cp {I J : am_I} {T r : Nat} {V : Tx} (h : am_fs 88 [] [103] I J) (zL : RL I T r V) : RL J T r V := RL_of (h.1 89 (by decide) (by decide)) (h.1 90 (by decide) (by decide)) (h.2 3 (by decide)) (h.2 4 (by decide)) zL
theorem m_cost {E : am_E} (zi : am_inj E) {k : Nat} (hk : 45 ≤ k) {σ : St} (zw : wf σ) {I : am_I} (zR : RS I σ) (w : Int64) {T r : Nat} {V : Tx} (zL : RL I T r V) {z : Cz} (hz : wfz z) (hZ : zR_ I z) (x : Int32) :
    am_Ret E k Y_MO_cost [.ref 88, .int x] I w (fun q I' w' => q = some (.long (aCst V r σ z x)) ∧ am_fs 88 rdFs [103] I I') := by
  refine am_intro (pv_MO_cost E k) (by decide) zi ?_ rfl rfl ?_
  · rintro _ _ _ ⟨rfl, -⟩; trivial
  intro S hS
  have hz1 := hz.1
  unfold aCst at hS
  refine am_at hS (fun _ => false) 60 0 ?_
  refine ⟨_, _, (by omega : k - 1 < k), m_isCamping zi (by omega) I w (by omega) hZ.1 x, am_elim ?_⟩
  refine ⟨fun h => ?_, fun h => ?_⟩
  · rw [bi_eq0] at h
    rw [h]
    exact ⟨rfl, am_fs.refl⟩
  · rw [bi_eq0, Bool.not_eq_false] at h
    obtain ⟨c, hc, rfl⟩ := inb_of h (by omega)
    rw [h, cond_true, nI_clamp (by omega)]
    refine ⟨_, _, (by omega : k - 1 < k), m_looksAt zi (by omega) zw zR w hz hZ hc, ?_⟩
    rintro _ J w1 ⟨rfl, rfl, hJ, fJ⟩
    have e100 : J 100 c = nI (zK z c) := by rw [fJ.1 100 (by decide) (by decide)]; exact (hZ.2 c hc).1
    have k6 := (hz.2 c hc).1
    refine ⟨vp_in_nI (by omega) (by omega), ?_⟩
    rw [nI_clamp (by omega), e100]
    refine ⟨_, _, (by omega : k - 1 < k), m_costBy zi (by omega) zw (RS_cp fJ zR) w1 (RL_cp fJ zL) k6 (zA_aA hz hc hJ), ?_⟩
    rintro _ F w2 ⟨rfl, fF⟩
    exact ⟨rfl, (fJ.mono (fun q hq => absurd hq List.not_mem_nil) (fun _ h => h)).trans (fF.mono (fun _ h => h) (fun q hq => absurd hq List.not_mem_nil))⟩
theorem inl_icp {v : Int32} : (inl v.toInt64 0 3 || decide (v = 9)) = icp v := by
  rw [inl_3]
  unfold icp
  rfl
theorem m_move {E : am_E} (zi : am_inj E) {k : Nat} (hk : 45 ≤ k) {σ : St} (zw : wf σ) {I : am_I} (zR : RS I σ) (w : Int64) {T r : Nat} {V : Tx} (zL : RL I T r V) {z : Cz} (hz : wfz z) (hZ : zR_ I z) (x y v : Int32) :
    am_Ret E k Y_MO_move [.ref 88, .int x, .int y, .int v] I w (fun q I' w' => q = some (.long (aMov V r σ z x y v)) ∧ am_fs 88 rdFs [103] I I') := by
  refine am_intro (pv_MO_move E k) (by decide) zi ?_ rfl rfl ?_
  · rintro _ _ _ ⟨rfl, -⟩; trivial
  intro S hS
  have h9 := zw.1
  have hz1 := hz.1
  have up : ∀ {J F : am_I}, am_fs 88 [] [103] J F → am_fs 88 rdFs [103] J F := fun h => h.mono (fun q hq => absurd hq List.not_mem_nil) (fun _ h => h)
  have up2 : ∀ {J F : am_I}, am_fs 88 rdFs [] J F → am_fs 88 rdFs [103] J F := fun h => h.mono (fun _ h => h) (fun q hq => absurd hq List.not_mem_nil)
  unfold aMov at hS
  refine am_at hS (fun t => Nat.beq t 38) 60 0 ?_
  refine ⟨_, _, (by omega : k - 1 < k), m_isCamping zi (by omega) I w (by omega) hZ.1 x, am_elim ?_⟩
  refine ⟨fun h => ?_, fun h => ?_⟩
  · rw [bi_eq0] at h
    rw [h]
    exact ⟨rfl, am_fs.refl⟩
  rw [bi_eq0, Bool.not_eq_false] at h
  rw [h, Bool.true_and] at hS ⊢
  refine ⟨_, _, (by omega : k - 1 < k), r_isPerson zi I w (by omega) (by omega) zR.1.1 y, am_elim ?_⟩
  refine ⟨fun g => ?_, fun g => ?_⟩
  · rw [bi_eq0] at g
    rw [g]
    exact ⟨rfl, am_fs.refl⟩
  rw [bi_eq0, Bool.not_eq_false] at g
  rw [g, Bool.true_and] at hS ⊢
  have a38 : icp v = true → S 38 [some (.ref 88), some (.int x), some (.int y), some (.int v), none, none] [] I w := by
    intro j
    rw [j, cond_true] at hS
    obtain ⟨c, hc, rfl⟩ := inb_of h (by omega)
    obtain ⟨p, hp, rfl⟩ := inb_of g (by omega)
    obtain ⟨u, hu, rfl⟩ := icp_of j
    have hu10 := isc_lt hu
    have bd : vp_in (nI c) 10 := vp_in_nI (by omega) (by omega)
    have cl : (nI c).toNatClampNeg = c := nI_clamp (by omega)
    have k6 := (hz.2 c hc).1
    rw [nI_clamp (show c < 2 ^ 31 by omega), nI_clamp (show p < 2 ^ 31 by omega), nI_clamp (show u < 2 ^ 31 by omega)] at hS
    refine am_at hS (fun _ => false) 60 38 ?_
    refine ⟨_, _, (by omega : k - 1 < k), m_looksAt zi (by omega) zw zR w hz hZ hc, ?_⟩
    rintro _ J w1 ⟨rfl, rfl, hJ, fJ⟩
    have e100 : J 100 c = nI (zK z c) := by rw [fJ.1 100 (by decide) (by decide)]; exact (hZ.2 c hc).1
    refine ⟨bd, ?_⟩
    rw [cl, e100]
    refine ⟨_, _, (by omega : k - 1 < k), m_costBy zi (by omega) zw (RS_cp fJ zR) w1 (RL_cp fJ zL) k6 (zA_aA hz hc hJ), ?_⟩
    rintro _ F w2 ⟨rfl, fF⟩
    have zF := RS_rd fF (RS_cp fJ zR)
    have lF := RL_rd fF (RL_cp fJ zL)
    have f103 : ∀ q, q < sN σ → F 103 q = nI (zA z c q) := fun q hq => by rw [fF.1 103 List.not_mem_nil (by decide)]; exact hJ q hq
    have fG : am_fs 88 [] [103] F (am_up F 103 p (nI u)) := am_fs.up am_fs.refl (by decide) (by decide)
    have hG : aA (am_up F 103 p (nI u)) σ (zM (sN σ) (zA z c) p u) := ⟨zM_isc (zA_isc hz hc) hu, fun q hq => by
      unfold zM
      rw [if_pos hq]
      by_cases e : q = p
      · rw [e, am_seq, fup_self]
      · rw [am_sne e, fup_ne e]; exact f103 q hq⟩
    have e100G : am_up F 103 p (nI u) 100 c = nI (zK z c) := by rw [am_up_ne (by decide), fF.1 100 List.not_mem_nil (by decide)]; exact e100
    refine ⟨vp_in_nI (by omega) (by omega), ?_⟩
    rw [nI_clamp (show p < 2 ^ 31 by omega)]
    refine ⟨bd, ?_⟩
    rw [cl, e100G]
    refine ⟨_, _, (by omega : k - 1 < k), m_costBy zi (by omega) zw (RS_cp fG zF) w2 (RL_cp fG lF) k6 hG, ?_⟩
    rintro _ F2 w3 ⟨rfl, fF2⟩
    exact ⟨rfl, (((up fJ).trans (up2 fF)).trans (up fG)).trans (up2 fF2)⟩
  refine ⟨_, _, (by omega : k - 1 < k), r_in zi I w _ _ _, am_elim ?_⟩
  refine ⟨fun j => ?_, fun j => ?_⟩
  · rw [bi_eq0] at j
    refine ⟨fun j9 => ?_, fun j9 => ?_⟩
    · exact a38 (by rw [← inl_icp, decide_eq_true (show v = 9 from j9), Bool.or_true])
    · have e : icp v = false := by rw [← inl_icp, decide_eq_false (show ¬ v = 9 from j9), Bool.or_false]; exact j
      rw [e]
      exact ⟨rfl, am_fs.refl⟩
  · rw [bi_eq0, Bool.not_eq_false] at j
    have j2 : inl v.toInt64 0 3 = true := j
    exact a38 (by rw [← inl_icp, j2]; rfl)
theorem m_campsOf {E : am_E} (zi : am_inj E) {k : Nat} (I : am_I) (w : Int64) {kd : Nat} (hkd : kd < 6) : am_Ret E k Y_MO_campsOf [.int (nI kd)] I w (am_eq (some (.int (am_room kd))) I w) := by
  refine am_intro (pv_MO_campsOf E k) (by decide) zi ?_ rfl rfl ?_
  · rintro _ _ _ ⟨rfl, -⟩; rfl
  intro S hS
  have hc : kd = 0 ∨ kd = 1 ∨ kd = 2 ∨ kd = 3 ∨ kd = 4 ∨ kd = 5 := by omega
  have fls : ∀ {P : Prop} {x y : Int32}, x ≠ y → x = y → P := fun h1 h2 => absurd h2 h1
  rcases hc with rfl | rfl | rfl | rfl | rfl | rfl
  · refine am_at hS (fun _ => false) 60 0 ?_
    exact ⟨fun _ => ⟨rfl, rfl, rfl⟩, fun q => absurd rfl q⟩
  · refine am_at hS (fun _ => false) 60 0 ?_
    exact ⟨fun q => absurd q (by decide), fun _ => ⟨fun q => absurd q (by decide), fun _ => ⟨fun q => absurd q (by decide), fun _ => ⟨rfl, rfl, rfl⟩⟩⟩⟩
  · refine am_at hS (fun _ => false) 60 0 ?_
    exact ⟨fun q => absurd q (by decide), fun _ => ⟨fun _ => ⟨rfl, rfl, rfl⟩, fun q => absurd rfl q⟩⟩
  · refine am_at hS (fun _ => false) 60 0 ?_
    exact ⟨fun q => absurd q (by decide), fun _ => ⟨fun q => absurd q (by decide), fun _ => ⟨fun _ => ⟨rfl, rfl, rfl⟩, fun q => absurd rfl q⟩⟩⟩
  · refine am_at hS (fun _ => false) 60 0 ?_
    exact ⟨fun q => absurd q (by decide), fun _ => ⟨fun q => absurd q (by decide), fun _ => ⟨fun q => absurd q (by decide), fun _ => ⟨rfl, rfl, rfl⟩⟩⟩⟩
  · refine am_at hS (fun _ => false) 60 0 ?_
    exact ⟨fun q => absurd q (by decide), fun _ => ⟨fun q => absurd q (by decide), fun _ => ⟨fun q => absurd q (by decide), fun _ => ⟨rfl, rfl, rfl⟩⟩⟩⟩
theorem m_camped {E : am_E} (zi : am_inj E) {k : Nat} (hk : 3 ≤ k) {σ : St} (zw : wf σ) {I : am_I} (zR : RS I σ) (w : Int64) {z : Cz} (hz : wfz z) (hZ : zR_ I z) (x y : Int32) :
    am_Ret E k Y_MO_camped [.ref 88, .int x, .int y] I w (fun q I' w' => q = some (.int (aCmd σ z x y)) ∧ w' = w ∧ am_fs 88 [] [103] I I') := by
  refine am_intro (pv_MO_camped E k) (by decide) zi ?_ rfl rfl ?_
  · rintro _ _ _ ⟨rfl, -⟩; rfl
  intro S hS
  have hz1 := hz.1
  unfold aCmd at hS
  refine am_at hS (fun _ => false) 60 0 ?_
  refine ⟨_, _, (by omega : k - 1 < k), m_isCamping zi (by omega) I w (by omega) hZ.1 x, am_elim ?_⟩
  refine ⟨fun h => ?_, fun h => ?_⟩
  · rw [bi_eq0] at h
    rw [h]
    exact ⟨rfl, rfl, am_fs.refl⟩
  rw [bi_eq0, Bool.not_eq_false] at h
  obtain ⟨c, hc, rfl⟩ := inb_of h (by omega)
  rw [h, cond_true, nI_clamp (by omega)]
  refine ⟨_, _, (by omega : k - 1 < k), m_looksAt zi (by omega) zw zR w hz hZ hc, ?_⟩
  rintro _ J w1 ⟨rfl, rfl, hJ, fJ⟩
  have e100 : J 100 c = nI (zK z c) := by rw [fJ.1 100 (by decide) (by decide)]; exact (hZ.2 c hc).1
  have k6 := (hz.2 c hc).1
  have hA := zA_aA hz hc hJ
  have zJ := RS_cp fJ zR
  have bd : vp_in (nI c) 10 := vp_in_nI (by omega) (by omega)
  have cl : (nI c).toNatClampNeg = c := nI_clamp (by omega)
  refine ⟨fun q => ?_, fun q => ?_⟩
  · refine ⟨bd, ?_⟩
    rw [cl, e100]
    exact ⟨congrArg (fun y => some (Value.int y)) (if_pos q).symm, rfl, fJ⟩
  refine ⟨fun q1 => ?_, fun q1 => ?_⟩
  · refine ⟨bd, ?_⟩
    rw [cl, e100]
    refine ⟨_, _, (by omega : k - 1 < k), m_campsOf zi J w1 k6, am_elim ?_⟩
    exact ⟨congrArg (fun y => some (Value.int y)) (((if_neg q).trans (if_pos q1)).symm), rfl, fJ⟩
  refine ⟨fun q2 => ?_, fun q2 => ?_⟩
  · refine ⟨_, _, (by omega : k - 1 < k), m_lived zi (by omega) zw zJ w1 hA, am_elim ?_⟩
    exact ⟨congrArg (fun y => some (Value.int y)) (((if_neg q).trans ((if_neg q1).trans (if_pos q2))).symm), rfl, fJ⟩
  refine ⟨fun q3 => ?_, fun q3 => ?_⟩
  · refine ⟨_, _, (by omega : k - 1 < k), m_wrongs zi (by omega) zw zJ w1 hA, am_elim ?_⟩
    exact ⟨congrArg (fun y => some (Value.int y)) (((if_neg q).trans ((if_neg q1).trans ((if_neg q2).trans (if_pos q3)))).symm), rfl, fJ⟩
  refine ⟨fun q4 => ?_, fun q4 => ?_⟩
  · refine ⟨_, _, (by omega : k - 1 < k), m_outside zi zw zJ w1 hA, am_elim ?_⟩
    exact ⟨congrArg (fun y => some (Value.int y)) (((if_neg q).trans ((if_neg q1).trans ((if_neg q2).trans ((if_neg q3).trans (if_pos q4))))).symm), rfl, fJ⟩
  exact ⟨congrArg (fun y => some (Value.int y)) (((if_neg q).trans ((if_neg q1).trans ((if_neg q2).trans ((if_neg q3).trans (if_neg q4))))).symm), rfl, fJ⟩
