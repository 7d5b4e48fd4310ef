/-! ONE CALL TO BOTH -/
def du (E : am_E) (Yc Ym : am_Y) (as : List Value) {α : Type} (mk : α → Value) : Prop := ∀ (A : ab), iW A → ∃ (v : α) (A' : ab), iW A' ∧ (∀ (I : am_I) (w : Int64), iC A I → am_Ret E 60 Yc (.ref 0 :: as) I w (fun q I' _ => q = some (mk v) ∧ iC A' I' ∧ ∀ q, 88 ≤ q → I' q = I q)) ∧ ∀ (I : am_I) (w : Int64), iR A I → am_Ret E 60 Ym (.ref 88 :: as) I w (fun q I' _ => q = some (mk v) ∧ iR A' I' ∧ ∀ q, q < 88 → I' q = I q)
theorem du_person {E : am_E} (zi : am_inj E) (a1 : Int32) : du E Y_TC_person Y_MO_person [.int a1] Value.int := by
  rintro ⟨σ, ⟨T, r, V⟩, kp, ⟨n, b⟩, z, h⟩ ⟨w1, w2, w3, w4, w5, w6⟩
  refine ⟨(aPerson σ a1).1, ((aPerson σ a1).2, (T, r, V), kp, (n, b), z, h), ⟨wf_aPerson w1 a1, wfk_N N_person w2, w3, w4, w5, w6⟩, fun I w hC => ?_, fun I w hR => ?_⟩
  · obtain ⟨z1, z2, z3, z4, z5, z6⟩ := hC
    refine am_Ret.imp (c_person zi (by decide) w1 z1 w a1) ?_
    rintro q J w' ⟨e, -, y0, f⟩
    have f := fs_fr (o := 0) (by decide) f
    exact ⟨e, ⟨y0, k_LC f (by decide) z2, k_KC f (by decide) z3, k_tC f (by decide) z4, k_cZ w4 f (by decide) z5, k_hC f (by decide) z6⟩, k_hi f (by decide)⟩
  · obtain ⟨z1, z2, z3, z4, z5, z6⟩ := hR
    refine am_Ret.imp (m_person zi (by decide) w1 z1 w a1) ?_
    rintro q J w' ⟨e, -, y0, f⟩
    exact ⟨e, ⟨y0, k_RL f (by decide) z2, k_RK f (by decide) z3, k_tR f (by decide) z4, k_zR f (by decide) z5, k_hR f (by decide) z6⟩, k_lo f (by decide)⟩
theorem du_set {E : am_E} (zi : am_inj E) (a1 : Int32) (a2 : Int32) (a3 : Int32) : du E Y_TC_set Y_MO_set [.int a1, .int a2, .int a3] Value.int := by
  rintro ⟨σ, ⟨T, r, V⟩, kp, ⟨n, b⟩, z, h⟩ ⟨w1, w2, w3, w4, w5, w6⟩
  refine ⟨(aSet σ a1 a2 a3).1, ((aSet σ a1 a2 a3).2, (T, r, V), kp, (n, b), z, h), ⟨wf_aSet w1 a1 a2 a3, wfk_N (Nat.le_of_eq N_set.symm) w2, w3, w4, w5, w6⟩, fun I w hC => ?_, fun I w hR => ?_⟩
  · obtain ⟨z1, z2, z3, z4, z5, z6⟩ := hC
    refine am_Ret.imp (c_set zi (by decide) w1 z1 w a1 a2 a3) ?_
    rintro q J w' ⟨e, -, y0, f⟩
    have f := fs_fr (o := 0) (by decide) f
    exact ⟨e, ⟨y0, k_LC f (by decide) z2, k_KC f (by decide) z3, k_tC f (by decide) z4, k_cZ w4 f (by decide) z5, k_hC f (by decide) z6⟩, k_hi f (by decide)⟩
  · obtain ⟨z1, z2, z3, z4, z5, z6⟩ := hR
    refine am_Ret.imp (m_set zi (by decide) w1 z1 w a1 a2 a3) ?_
    rintro q J w' ⟨e, -, y0, f⟩
    exact ⟨e, ⟨y0, k_RL f (by decide) z2, k_RK f (by decide) z3, k_tR f (by decide) z4, k_zR f (by decide) z5, k_hR f (by decide) z6⟩, k_lo f (by decide)⟩
theorem du_feel {E : am_E} (zi : am_inj E) (a1 : Int32) (a2 : Int32) (a3 : Int32) (a4 : Int32) (a5 : Int32) : du E Y_TC_feel Y_MO_feel [.int a1, .int a2, .int a3, .int a4, .int a5] Value.int := by
  rintro ⟨σ, ⟨T, r, V⟩, kp, ⟨n, b⟩, z, h⟩ ⟨w1, w2, w3, w4, w5, w6⟩
  refine ⟨(aFeel σ a1 a2 a3 a4 a5).1, ((aFeel σ a1 a2 a3 a4 a5).2, (T, r, V), kp, (n, b), z, h), ⟨wf_aFeel w1 a1 a2 a3 a4 a5, wfk_N (Nat.le_of_eq N_feel.symm) w2, w3, w4, w5, w6⟩, fun I w hC => ?_, fun I w hR => ?_⟩
  · obtain ⟨z1, z2, z3, z4, z5, z6⟩ := hC
    refine am_Ret.imp (c_feel zi (by decide) w1 z1 w a1 a2 a3 a4 a5) ?_
    rintro q J w' ⟨e, -, y0, f⟩
    have f := fs_fr (o := 0) (by decide) f
    exact ⟨e, ⟨y0, k_LC f (by decide) z2, k_KC f (by decide) z3, k_tC f (by decide) z4, k_cZ w4 f (by decide) z5, k_hC f (by decide) z6⟩, k_hi f (by decide)⟩
  · obtain ⟨z1, z2, z3, z4, z5, z6⟩ := hR
    refine am_Ret.imp (m_feel zi (by decide) w1 z1 w a1 a2 a3 a4 a5) ?_
    rintro q J w' ⟨e, -, y0, f⟩
    exact ⟨e, ⟨y0, k_RL f (by decide) z2, k_RK f (by decide) z3, k_tR f (by decide) z4, k_zR f (by decide) z5, k_hR f (by decide) z6⟩, k_lo f (by decide)⟩
theorem du_felt {E : am_E} (zi : am_inj E) (a1 : Int32) (a2 : Int32) : du E Y_TC_felt Y_MO_felt [.int a1, .int a2] Value.int := by
  rintro ⟨σ, ⟨T, r, V⟩, kp, ⟨n, b⟩, z, h⟩ ⟨w1, w2, w3, w4, w5, w6⟩
  refine ⟨aFelt V r σ a1 a2, (σ, (T, r, V), kp, (n, b), z, h), ⟨w1, w2, w3, w4, w5, w6⟩, fun I w hC => ?_, fun I w hR => ?_⟩
  · obtain ⟨z1, z2, z3, z4, z5, z6⟩ := hC
    refine am_Ret.imp (c_felt zi (by decide) w1 z1 w z2 a1 a2) ?_
    rintro q J w' ⟨e, -, f⟩
    exact ⟨e, ⟨k_CS f (by decide) z1, k_LC f (by decide) z2, k_KC f (by decide) z3, k_tC f (by decide) z4, k_cZ w4 f (by decide) z5, k_hC f (by decide) z6⟩, k_hi f (by decide)⟩
  · obtain ⟨z1, z2, z3, z4, z5, z6⟩ := hR
    refine am_Ret.imp (m_felt zi (by decide) w1 z1 w z2 a1 a2) ?_
    rintro q J w' ⟨e, f⟩
    exact ⟨e, ⟨k_RS f (by decide) z1, k_RL f (by decide) z2, k_RK f (by decide) z3, k_tR f (by decide) z4, k_zR f (by decide) z5, k_hR f (by decide) z6⟩, k_lo f (by decide)⟩
theorem du_between {E : am_E} (zi : am_inj E) (a1 : Int32) (a2 : Int32) : du E Y_TC_between Y_MO_between [.int a1, .int a2] Value.int := by
  rintro ⟨σ, ⟨T, r, V⟩, kp, ⟨n, b⟩, z, h⟩ ⟨w1, w2, w3, w4, w5, w6⟩
  refine ⟨aBetween σ a1 a2, (σ, (T, r, V), kp, (n, b), z, h), ⟨w1, w2, w3, w4, w5, w6⟩, fun I w hC => ?_, fun I w hR => ?_⟩
  · obtain ⟨z1, z2, z3, z4, z5, z6⟩ := hC
    refine am_Ret.imp (c_between zi (by decide) w1 z1 w a1 a2) ?_
    rintro q J w' ⟨e, e2, -⟩
    rw [e2]
    exact ⟨e, ⟨z1, z2, z3, z4, z5, z6⟩, fun _ _ => rfl⟩
  · obtain ⟨z1, z2, z3, z4, z5, z6⟩ := hR
    refine am_Ret.imp (m_between zi (by decide) w1 z1 w a1 a2) ?_
    rintro q J w' ⟨e, e2, -⟩
    rw [e2]
    exact ⟨e, ⟨z1, z2, z3, z4, z5, z6⟩, fun _ _ => rfl⟩
theorem du_feed {E : am_E} (zi : am_inj E) (a1 : Int32) (a2 : Int64) : du E Y_TC_feed Y_MO_feed [.int a1, .long a2] Value.int := by
  rintro ⟨σ, ⟨T, r, V⟩, kp, ⟨n, b⟩, z, h⟩ ⟨w1, w2, w3, w4, w5, w6⟩
  refine ⟨(aFeed n a1).1, (σ, (T, r, V), kp, ((aFeed n a1).2, fdb n b a2), z, h), ⟨w1, w2, wf_feed w3 a1 a2, w4, w5, w6⟩, fun I w hC => ?_, fun I w hR => ?_⟩
  · obtain ⟨z1, z2, z3, z4, z5, z6⟩ := hC
    refine am_Ret.imp (c_feed zi (by decide) w3 z4 w a1 a2) ?_
    rintro q J w' ⟨e, -, y0, f⟩
    have f := fs_fr (o := 0) (by decide) f
    exact ⟨e, ⟨k_CS f (by decide) z1, k_LC f (by decide) z2, k_KC f (by decide) z3, y0, k_cZ w4 f (by decide) z5, k_hC f (by decide) z6⟩, k_hi f (by decide)⟩
  · obtain ⟨z1, z2, z3, z4, z5, z6⟩ := hR
    refine am_Ret.imp (m_feed zi (by decide) w3 z4 w a1 a2) ?_
    rintro q J w' ⟨e, -, y0, f⟩
    exact ⟨e, ⟨k_RS f (by decide) z1, k_RL f (by decide) z2, k_RK f (by decide) z3, y0, k_zR f (by decide) z5, k_hR f (by decide) z6⟩, k_lo f (by decide)⟩
theorem du_street {E : am_E} (zi : am_inj E)  : du E Y_TC_street Y_MO_street [] Value.int := by
  rintro ⟨σ, ⟨T, r, V⟩, kp, ⟨n, b⟩, z, h⟩ ⟨w1, w2, w3, w4, w5, w6⟩
  refine ⟨(aStreet n b σ).1, ((aStreet n b σ).2, (T, r, V), kp, (0, b), z, h), ⟨aStreet_wf w1, wfk_N (Nat.le_of_eq N_street.symm) w2, wft_0, w4, w5, w6⟩, fun I w hC => ?_, fun I w hR => ?_⟩
  · obtain ⟨z1, z2, z3, z4, z5, z6⟩ := hC
    refine am_Ret.imp (c_street zi (by decide) w3 w1 z1 z4 w) ?_
    rintro q J w' ⟨e, -, y0, y1, f⟩
    have f := fs_fr (o := 0) (by decide) f
    exact ⟨e, ⟨y0, k_LC f (by decide) z2, k_KC f (by decide) z3, y1, k_cZ w4 f (by decide) z5, k_hC f (by decide) z6⟩, k_hi f (by decide)⟩
  · obtain ⟨z1, z2, z3, z4, z5, z6⟩ := hR
    refine am_Ret.imp (m_street zi (by decide) w3 w1 z1 z4 w) ?_
    rintro q J w' ⟨e, -, y0, y1, f⟩
    exact ⟨e, ⟨y0, k_RL f (by decide) z2, k_RK f (by decide) z3, y1, k_zR f (by decide) z5, k_hR f (by decide) z6⟩, k_lo f (by decide)⟩
theorem du_text {E : am_E} (zi : am_inj E)  : du E Y_TC_text Y_MO_text [] Value.int := by
  rintro ⟨σ, ⟨T, r, V⟩, kp, ⟨n, b⟩, z, h⟩ ⟨w1, w2, w3, w4, w5, w6⟩
  refine ⟨(aText n b T V).1, (σ, ((aText n b T V).2.1, r, (aText n b T V).2.2.1), kp, ((aText n b T V).2.2.2, b), z, h), ⟨w1, wfk_T T_text w2, wft_text w3, w4, w5, ⟨Nat.lt_of_lt_of_le w6.1 T_text, T_text6 w6.2⟩⟩, fun I w hC => ?_, fun I w hR => ?_⟩
  · obtain ⟨z1, z2, z3, z4, z5, z6⟩ := hC
    refine am_Ret.imp (c_text zi (by decide) w3 z4 w z2) ?_
    rintro q J w' ⟨e, -, y0, y1, f⟩
    have f := fs_fr (o := 0) (by decide) f
    exact ⟨e, ⟨k_CS f (by decide) z1, y0, k_KC f (by decide) z3, y1, k_cZ w4 f (by decide) z5, k_hC f (by decide) z6⟩, k_hi f (by decide)⟩
  · obtain ⟨z1, z2, z3, z4, z5, z6⟩ := hR
    refine am_Ret.imp (m_text zi (by decide) w3 z4 w z2) ?_
    rintro q J w' ⟨e, y0, y1, f⟩
    exact ⟨e, ⟨k_RS f (by decide) z1, y0, k_RK f (by decide) z3, y1, k_zR f (by decide) z5, k_hR f (by decide) z6⟩, k_lo f (by decide)⟩
theorem du_force {E : am_E} (zi : am_inj E) (a1 : Int32) : du E Y_TC_force Y_MO_force [.int a1] Value.int := by
  rintro ⟨σ, ⟨T, r, V⟩, kp, ⟨n, b⟩, z, h⟩ ⟨w1, w2, w3, w4, w5, w6⟩
  refine ⟨(aForce T r a1).1, (σ, (T, (aForce T r a1).2, V), kp, (n, b), z, h), ⟨w1, w2, w3, w4, w5, ⟨aForce_lt w6.1 w6.2 a1, w6.2⟩⟩, fun I w hC => ?_, fun I w hR => ?_⟩
  · obtain ⟨z1, z2, z3, z4, z5, z6⟩ := hC
    refine am_Ret.imp (c_force zi w z2 a1) ?_
    rintro q J w' ⟨e, -, y0, f⟩
    exact ⟨e, ⟨k_CS f (by decide) z1, y0, k_KC f (by decide) z3, k_tC f (by decide) z4, k_cZ w4 f (by decide) z5, k_hC f (by decide) z6⟩, k_hi f (by decide)⟩
  · obtain ⟨z1, z2, z3, z4, z5, z6⟩ := hR
    refine am_Ret.imp (m_force zi (by decide) w w6.2 z2.1 z2.2.1 a1) ?_
    rintro q J w' ⟨e, -, y0, f⟩
    exact ⟨e, ⟨k_RS f (by decide) z1, k_RLr f (by decide) y0 (aForce_lt w6.1 w6.2 a1) z2, k_RK f (by decide) z3, k_tR f (by decide) z4, k_zR f (by decide) z5, k_hR f (by decide) z6⟩, k_lo f (by decide)⟩
theorem du_camping {E : am_E} (zi : am_inj E) (a1 : Int32) (a2 : Int32) : du E Y_TC_camping Y_MO_camping [.int a1, .int a2] Value.int := by
  rintro ⟨σ, ⟨T, r, V⟩, kp, ⟨n, b⟩, z, h⟩ ⟨w1, w2, w3, w4, w5, w6⟩
  refine ⟨aCpg σ z h a1 a2, (σ, (T, r, V), kp, (n, b), sCpg σ z h a1 a2, h), ⟨w1, w2, w3, wfz_cpg w1 w4 w5, w5, w6⟩, fun I w hC => ?_, fun I w hR => ?_⟩
  · obtain ⟨z1, z2, z3, z4, z5, z6⟩ := hC
    refine am_Ret.imp (c_camping zi (by decide) w1 z1 w w4 z5 w5 z6 a1 a2) ?_
    rintro q J w' ⟨e, -, y0, f⟩
    exact ⟨e, ⟨k_CS f (by decide) z1, k_LC f (by decide) z2, k_KC f (by decide) z3, k_tC f (by decide) z4, y0, k_hC f (by decide) z6⟩, k_hi f (by decide)⟩
  · obtain ⟨z1, z2, z3, z4, z5, z6⟩ := hR
    refine am_Ret.imp (m_camping zi (by decide) w1 z1 w w4 z5 w5 z6 a1 a2) ?_
    rintro q J w' ⟨e, -, y0, f⟩
    exact ⟨e, ⟨k_RS f (by decide) z1, k_RL f (by decide) z2, k_RK f (by decide) z3, k_tR f (by decide) z4, y0, k_hR f (by decide) z6⟩, k_lo f (by decide)⟩
theorem du_camped {E : am_E} (zi : am_inj E) (a1 : Int32) (a2 : Int32) : du E Y_TC_camped Y_MO_camped [.int a1, .int a2] Value.int := by
  rintro ⟨σ, ⟨T, r, V⟩, kp, ⟨n, b⟩, z, h⟩ ⟨w1, w2, w3, w4, w5, w6⟩
  refine ⟨aCmd σ z a1 a2, (σ, (T, r, V), kp, (n, b), z, h), ⟨w1, w2, w3, w4, w5, w6⟩, fun I w hC => ?_, fun I w hR => ?_⟩
  · obtain ⟨z1, z2, z3, z4, z5, z6⟩ := hC
    refine am_Ret.imp (c_camped zi (by decide) w1 z1 w w4 z5 a1 a2) ?_
    rintro q J w' ⟨e, e2, -⟩
    rw [e2]
    exact ⟨e, ⟨z1, z2, z3, z4, z5, z6⟩, fun _ _ => rfl⟩
  · obtain ⟨z1, z2, z3, z4, z5, z6⟩ := hR
    refine am_Ret.imp (m_camped zi (by decide) w1 z1 w w4 z5 a1 a2) ?_
    rintro q J w' ⟨e, -, f⟩
    exact ⟨e, ⟨k_RS f (by decide) z1, k_RL f (by decide) z2, k_RK f (by decide) z3, k_tR f (by decide) z4, k_zR f (by decide) z5, k_hR f (by decide) z6⟩, k_lo f (by decide)⟩
theorem du_cost {E : am_E} (zi : am_inj E) (a1 : Int32) : du E Y_TC_cost Y_MO_cost [.int a1] Value.long := by
  rintro ⟨σ, ⟨T, r, V⟩, kp, ⟨n, b⟩, z, h⟩ ⟨w1, w2, w3, w4, w5, w6⟩
  refine ⟨aCst V r σ z a1, (σ, (T, r, V), kp, (n, b), z, h), ⟨w1, w2, w3, w4, w5, w6⟩, fun I w hC => ?_, fun I w hR => ?_⟩
  · obtain ⟨z1, z2, z3, z4, z5, z6⟩ := hC
    refine am_Ret.imp (c_cost zi (by decide) w1 z1 w z2 w4 z5 a1) ?_
    rintro q J w' ⟨e, -, f⟩
    exact ⟨e, ⟨k_CS f (by decide) z1, k_LC f (by decide) z2, k_KC f (by decide) z3, k_tC f (by decide) z4, k_cZ w4 f (by decide) z5, k_hC f (by decide) z6⟩, k_hi f (by decide)⟩
  · obtain ⟨z1, z2, z3, z4, z5, z6⟩ := hR
    refine am_Ret.imp (m_cost zi (by decide) w1 z1 w z2 w4 z5 a1) ?_
    rintro q J w' ⟨e, f⟩
    exact ⟨e, ⟨k_RS f (by decide) z1, k_RL f (by decide) z2, k_RK f (by decide) z3, k_tR f (by decide) z4, k_zR f (by decide) z5, k_hR f (by decide) z6⟩, k_lo f (by decide)⟩
theorem du_move {E : am_E} (zi : am_inj E) (a1 : Int32) (a2 : Int32) (a3 : Int32) : du E Y_TC_move Y_MO_move [.int a1, .int a2, .int a3] Value.long := by
  rintro ⟨σ, ⟨T, r, V⟩, kp, ⟨n, b⟩, z, h⟩ ⟨w1, w2, w3, w4, w5, w6⟩
  refine ⟨aMov V r σ z a1 a2 a3, (σ, (T, r, V), kp, (n, b), z, h), ⟨w1, w2, w3, w4, w5, w6⟩, fun I w hC => ?_, fun I w hR => ?_⟩
  · obtain ⟨z1, z2, z3, z4, z5, z6⟩ := hC
    refine am_Ret.imp (c_move zi (by decide) w1 z1 w z2 w4 z5 a1 a2 a3) ?_
    rintro q J w' ⟨e, -, f⟩
    exact ⟨e, ⟨k_CS f (by decide) z1, k_LC f (by decide) z2, k_KC f (by decide) z3, k_tC f (by decide) z4, k_cZ w4 f (by decide) z5, k_hC f (by decide) z6⟩, k_hi f (by decide)⟩
  · obtain ⟨z1, z2, z3, z4, z5, z6⟩ := hR
    refine am_Ret.imp (m_move zi (by decide) w1 z1 w z2 w4 z5 a1 a2 a3) ?_
    rintro q J w' ⟨e, f⟩
    exact ⟨e, ⟨k_RS f (by decide) z1, k_RL f (by decide) z2, k_RK f (by decide) z3, k_tR f (by decide) z4, k_zR f (by decide) z5, k_hR f (by decide) z6⟩, k_lo f (by decide)⟩
theorem du_same {E : am_E} (zi : am_inj E) (a1 : Int32) (a2 : Int32) : du E Y_TC_same Y_MO_same [.int a1, .int a2] Value.int := by
  rintro ⟨σ, ⟨T, r, V⟩, kp, ⟨n, b⟩, z, h⟩ ⟨w1, w2, w3, w4, w5, w6⟩
  refine ⟨aSam σ z a1 a2, (σ, (T, r, V), kp, (n, b), z, h), ⟨w1, w2, w3, w4, w5, w6⟩, fun I w hC => ?_, fun I w hR => ?_⟩
  · obtain ⟨z1, z2, z3, z4, z5, z6⟩ := hC
    refine am_Ret.imp (c_same zi (by decide) w1 z1 w w4 z5 a1 a2) ?_
    rintro q J w' ⟨e, e2, -⟩
    rw [e2]
    exact ⟨e, ⟨z1, z2, z3, z4, z5, z6⟩, fun _ _ => rfl⟩
  · obtain ⟨z1, z2, z3, z4, z5, z6⟩ := hR
    refine am_Ret.imp (m_same zi (by decide) w1 z1 w w4 z5 a1 a2) ?_
    rintro q J w' ⟨e, e2, -⟩
    rw [e2]
    exact ⟨e, ⟨z1, z2, z3, z4, z5, z6⟩, fun _ _ => rfl⟩
theorem du_peace {E : am_E} (zi : am_inj E)  : du E Y_TC_peace Y_MO_peace [] Value.int := by
  rintro ⟨σ, ⟨T, r, V⟩, kp, ⟨n, b⟩, z, h⟩ ⟨w1, w2, w3, w4, w5, w6⟩
  refine ⟨aPeace σ, (σ, (T, r, V), kp, (n, b), z, h), ⟨w1, w2, w3, w4, w5, w6⟩, fun I w hC => ?_, fun I w hR => ?_⟩
  · obtain ⟨z1, z2, z3, z4, z5, z6⟩ := hC
    refine am_Ret.imp (c_peace zi (by decide) w1 z1 w) ?_
    rintro q J w' ⟨e, e2, -⟩
    rw [e2]
    exact ⟨e, ⟨z1, z2, z3, z4, z5, z6⟩, fun _ _ => rfl⟩
  · obtain ⟨z1, z2, z3, z4, z5, z6⟩ := hR
    refine am_Ret.imp (m_peace zi (by decide) w1 z1 w) ?_
    rintro q J w' ⟨e, -, f⟩
    exact ⟨e, ⟨k_RS f (by decide) z1, k_RL f (by decide) z2, k_RK f (by decide) z3, k_tR f (by decide) z4, k_zR f (by decide) z5, k_hR f (by decide) z6⟩, k_lo f (by decide)⟩
theorem du_ring {E : am_E} (zi : am_inj E) (a1 : Int32) : du E Y_TC_ring Y_MO_ring [.int a1] Value.int := by
  rintro ⟨σ, ⟨T, r, V⟩, kp, ⟨n, b⟩, z, h⟩ ⟨w1, w2, w3, w4, w5, w6⟩
  refine ⟨aRing σ a1, (σ, (T, r, V), kp, (n, b), z, h), ⟨w1, w2, w3, w4, w5, w6⟩, fun I w hC => ?_, fun I w hR => ?_⟩
  · obtain ⟨z1, z2, z3, z4, z5, z6⟩ := hC
    refine am_Ret.imp (c_ring zi (by decide) w1 z1 w a1) ?_
    rintro q J w' ⟨e, -, f⟩
    exact ⟨e, ⟨k_CS f (by decide) z1, k_LC f (by decide) z2, k_KC f (by decide) z3, k_tC f (by decide) z4, k_cZ w4 f (by decide) z5, k_hC f (by decide) z6⟩, k_hi f (by decide)⟩
  · obtain ⟨z1, z2, z3, z4, z5, z6⟩ := hR
    refine am_Ret.imp (m_ring zi (by decide) w1 z1 w a1) ?_
    rintro q J w' ⟨e, -, f⟩
    exact ⟨e, ⟨k_RS f (by decide) z1, k_RL f (by decide) z2, k_RK f (by decide) z3, k_tR f (by decide) z4, k_zR f (by decide) z5, k_hR f (by decide) z6⟩, k_lo f (by decide)⟩
theorem du_least {E : am_E} (zi : am_inj E)  : du E Y_TC_least Y_MO_least [] Value.int := by
  rintro ⟨σ, ⟨T, r, V⟩, kp, ⟨n, b⟩, z, h⟩ ⟨w1, w2, w3, w4, w5, w6⟩
  refine ⟨aLeast V r σ, (σ, (T, r, V), kp, (n, b), z, h), ⟨w1, w2, w3, w4, w5, w6⟩, fun I w hC => ?_, fun I w hR => ?_⟩
  · obtain ⟨z1, z2, z3, z4, z5, z6⟩ := hC
    refine am_Ret.imp (c_least zi (by decide) w1 z1 w z2) ?_
    rintro q J w' ⟨e, -, f⟩
    exact ⟨e, ⟨k_CS f (by decide) z1, k_LC f (by decide) z2, k_KC f (by decide) z3, k_tC f (by decide) z4, k_cZ w4 f (by decide) z5, k_hC f (by decide) z6⟩, k_hi f (by decide)⟩
  · obtain ⟨z1, z2, z3, z4, z5, z6⟩ := hR
    refine am_Ret.imp (m_least zi (by decide) w1 z1 w z2) ?_
    rintro q J w' ⟨e, f⟩
    exact ⟨e, ⟨k_RS f (by decide) z1, k_RL f (by decide) z2, k_RK f (by decide) z3, k_tR f (by decide) z4, k_zR f (by decide) z5, k_hR f (by decide) z6⟩, k_lo f (by decide)⟩
theorem du_all {E : am_E} (zi : am_inj E) (a1 : Int32) : du E Y_TC_all Y_MO_all [.int a1] Value.int := by
  rintro ⟨σ, ⟨T, r, V⟩, kp, ⟨n, b⟩, z, h⟩ ⟨w1, w2, w3, w4, w5, w6⟩
  refine ⟨aAll V r σ a1, (σ, (T, r, V), kp, (n, b), z, h), ⟨w1, w2, w3, w4, w5, w6⟩, fun I w hC => ?_, fun I w hR => ?_⟩
  · obtain ⟨z1, z2, z3, z4, z5, z6⟩ := hC
    refine am_Ret.imp (c_all zi (by decide) w1 z1 w z2 a1) ?_
    rintro q J w' ⟨e, -, f⟩
    exact ⟨e, ⟨k_CS f (by decide) z1, k_LC f (by decide) z2, k_KC f (by decide) z3, k_tC f (by decide) z4, k_cZ w4 f (by decide) z5, k_hC f (by decide) z6⟩, k_hi f (by decide)⟩
  · obtain ⟨z1, z2, z3, z4, z5, z6⟩ := hR
    refine am_Ret.imp (m_all zi (by decide) w1 z1 w z2 a1) ?_
    rintro q J w' ⟨e, f⟩
    exact ⟨e, ⟨k_RS f (by decide) z1, k_RL f (by decide) z2, k_RK f (by decide) z3, k_tR f (by decide) z4, k_zR f (by decide) z5, k_hR f (by decide) z6⟩, k_lo f (by decide)⟩
theorem du_together {E : am_E} (zi : am_inj E) (a1 : Int32) (a2 : Int32) : du E Y_TC_together Y_MO_together [.int a1, .int a2] Value.int := by
  rintro ⟨σ, ⟨T, r, V⟩, kp, ⟨n, b⟩, z, h⟩ ⟨w1, w2, w3, w4, w5, w6⟩
  refine ⟨aTog V r σ a1 a2, (σ, (T, r, V), kp, (n, b), z, h), ⟨w1, w2, w3, w4, w5, w6⟩, fun I w hC => ?_, fun I w hR => ?_⟩
  · obtain ⟨z1, z2, z3, z4, z5, z6⟩ := hC
    refine am_Ret.imp (c_together zi (by decide) w1 z1 w z2 a1 a2) ?_
    rintro q J w' ⟨e, -, f⟩
    exact ⟨e, ⟨k_CS f (by decide) z1, k_LC f (by decide) z2, k_KC f (by decide) z3, k_tC f (by decide) z4, k_cZ w4 f (by decide) z5, k_hC f (by decide) z6⟩, k_hi f (by decide)⟩
  · obtain ⟨z1, z2, z3, z4, z5, z6⟩ := hR
    refine am_Ret.imp (m_together zi (by decide) w1 z1 w z2 a1 a2) ?_
    rintro q J w' ⟨e, f⟩
    exact ⟨e, ⟨k_RS f (by decide) z1, k_RL f (by decide) z2, k_RK f (by decide) z3, k_tR f (by decide) z4, k_zR f (by decide) z5, k_hR f (by decide) z6⟩, k_lo f (by decide)⟩
theorem du_aside {E : am_E} (zi : am_inj E)  : du E Y_TC_aside Y_MO_aside [] Value.int := by
  rintro ⟨σ, ⟨T, r, V⟩, kp, ⟨n, b⟩, z, h⟩ ⟨w1, w2, w3, w4, w5, w6⟩
  refine ⟨aAsd σ, (σ, (T, r, V), kp, (n, b), z, h), ⟨w1, w2, w3, w4, w5, w6⟩, fun I w hC => ?_, fun I w hR => ?_⟩
  · obtain ⟨z1, z2, z3, z4, z5, z6⟩ := hC
    refine am_Ret.imp (c_aside zi (by decide) w1 z1 w) ?_
    rintro q J w' ⟨e, e2, -⟩
    rw [e2]
    exact ⟨e, ⟨z1, z2, z3, z4, z5, z6⟩, fun _ _ => rfl⟩
  · obtain ⟨z1, z2, z3, z4, z5, z6⟩ := hR
    refine am_Ret.imp (m_aside zi (by decide) w1 z1 w) ?_
    rintro q J w' ⟨e, -, f⟩
    exact ⟨e, ⟨k_RS f (by decide) z1, k_RL f (by decide) z2, k_RK f (by decide) z3, k_tR f (by decide) z4, k_zR f (by decide) z5, k_hR f (by decide) z6⟩, k_lo f (by decide)⟩
theorem du_many {E : am_E} (zi : am_inj E) (a1 : Int32) : du E Y_TC_many Y_MO_many [.int a1] Value.int := by
  rintro ⟨σ, ⟨T, r, V⟩, kp, ⟨n, b⟩, z, h⟩ ⟨w1, w2, w3, w4, w5, w6⟩
  refine ⟨aMny V r σ a1, (σ, (T, r, V), kp, (n, b), z, h), ⟨w1, w2, w3, w4, w5, w6⟩, fun I w hC => ?_, fun I w hR => ?_⟩
  · obtain ⟨z1, z2, z3, z4, z5, z6⟩ := hC
    refine am_Ret.imp (c_many zi (by decide) w1 z1 w z2 a1) ?_
    rintro q J w' ⟨e, -, f⟩
    exact ⟨e, ⟨k_CS f (by decide) z1, k_LC f (by decide) z2, k_KC f (by decide) z3, k_tC f (by decide) z4, k_cZ w4 f (by decide) z5, k_hC f (by decide) z6⟩, k_hi f (by decide)⟩
  · obtain ⟨z1, z2, z3, z4, z5, z6⟩ := hR
    refine am_Ret.imp (m_many zi (by decide) w1 z1 w z2 a1) ?_
    rintro q J w' ⟨e, f⟩
    exact ⟨e, ⟨k_RS f (by decide) z1, k_RL f (by decide) z2, k_RK f (by decide) z3, k_tR f (by decide) z4, k_zR f (by decide) z5, k_hR f (by decide) z6⟩, k_lo f (by decide)⟩
theorem du_part {E : am_E} (zi : am_inj E) (a1 : Int32) : du E Y_TC_part Y_MO_part2 [.int a1] Value.int := by
  rintro ⟨σ, ⟨T, r, V⟩, kp, ⟨n, b⟩, z, h⟩ ⟨w1, w2, w3, w4, w5, w6⟩
  refine ⟨aPart σ a1, (σ, (T, r, V), kp, (n, b), z, h), ⟨w1, w2, w3, w4, w5, w6⟩, fun I w hC => ?_, fun I w hR => ?_⟩
  · obtain ⟨z1, z2, z3, z4, z5, z6⟩ := hC
    refine am_Ret.imp (c_part zi (by decide) w1 z1 w a1) ?_
    rintro q J w' ⟨e, e2, -⟩
    rw [e2]
    exact ⟨e, ⟨z1, z2, z3, z4, z5, z6⟩, fun _ _ => rfl⟩
  · obtain ⟨z1, z2, z3, z4, z5, z6⟩ := hR
    refine am_Ret.imp (m_part zi (by decide) w1 z1 w a1) ?_
    rintro q J w' ⟨e, e2, -⟩
    rw [e2]
    exact ⟨e, ⟨z1, z2, z3, z4, z5, z6⟩, fun _ _ => rfl⟩
theorem du_doors {E : am_E} (zi : am_inj E)  : du E Y_TC_doors Y_MO_doors [] Value.int := by
  rintro ⟨σ, ⟨T, r, V⟩, kp, ⟨n, b⟩, z, h⟩ ⟨w1, w2, w3, w4, w5, w6⟩
  refine ⟨aDors σ, (σ, (T, r, V), kp, (n, b), z, h), ⟨w1, w2, w3, w4, w5, w6⟩, fun I w hC => ?_, fun I w hR => ?_⟩
  · obtain ⟨z1, z2, z3, z4, z5, z6⟩ := hC
    refine am_Ret.imp (c_doors zi (by decide) w1 z1 w) ?_
    rintro q J w' ⟨e, e2, -⟩
    rw [e2]
    exact ⟨e, ⟨z1, z2, z3, z4, z5, z6⟩, fun _ _ => rfl⟩
  · obtain ⟨z1, z2, z3, z4, z5, z6⟩ := hR
    refine am_Ret.imp (m_doors zi (by decide) w1 z1 w) ?_
    rintro q J w' ⟨e, e2, -⟩
    rw [e2]
    exact ⟨e, ⟨z1, z2, z3, z4, z5, z6⟩, fun _ _ => rfl⟩
theorem du_threes {E : am_E} (zi : am_inj E)  : du E Y_TC_threes Y_MO_threes [] Value.int := by
  rintro ⟨σ, ⟨T, r, V⟩, kp, ⟨n, b⟩, z, h⟩ ⟨w1, w2, w3, w4, w5, w6⟩
  refine ⟨nI (c3 σ), (σ, (T, r, V), kp, (n, b), z, h), ⟨w1, w2, w3, w4, w5, w6⟩, fun I w hC => ?_, fun I w hR => ?_⟩
  · obtain ⟨z1, z2, z3, z4, z5, z6⟩ := hC
    refine am_Ret.imp (by have q := c_threes zi (k := 60) (by decide) w1 z1 w; rw [threes_eq w1] at q; exact q) ?_
    rintro q J w' ⟨e, e2, -⟩
    rw [e2]
    exact ⟨e, ⟨z1, z2, z3, z4, z5, z6⟩, fun _ _ => rfl⟩
  · obtain ⟨z1, z2, z3, z4, z5, z6⟩ := hR
    refine am_Ret.imp (m_threes zi (by decide) w1 z1 w) ?_
    rintro q J w' ⟨e, e2, -⟩
    rw [e2]
    exact ⟨e, ⟨z1, z2, z3, z4, z5, z6⟩, fun _ _ => rfl⟩
theorem du_step {E : am_E} (zi : am_inj E) (a1 : Int32) : du E Y_TC_step Y_MO_step [.int a1] Value.int := by
  rintro ⟨σ, ⟨T, r, V⟩, kp, ⟨n, b⟩, z, h⟩ ⟨w1, w2, w3, w4, w5, w6⟩
  refine ⟨(aStep V r σ a1).1, (sSg σ (aStep V r σ a1).2, (T, r, V), kp, (n, b), z, h), ⟨wf_step w1, wfk_N (Nat.le_refl _) w2, w3, w4, w5, w6⟩, fun I w hC => ?_, fun I w hR => ?_⟩
  · obtain ⟨z1, z2, z3, z4, z5, z6⟩ := hC
    refine am_Ret.imp (c_step zi (by decide) w1 z1 w z2 a1) ?_
    rintro q J w' ⟨e, -, y0, f⟩
    exact ⟨e, ⟨y0, k_LC f (by decide) z2, k_KC f (by decide) z3, k_tC f (by decide) z4, k_cZ w4 f (by decide) z5, k_hC f (by decide) z6⟩, k_hi f (by decide)⟩
  · obtain ⟨z1, z2, z3, z4, z5, z6⟩ := hR
    refine am_Ret.imp (m_step zi (by decide) w1 z1 w z2 a1) ?_
    rintro q J w' ⟨e, y0, f⟩
    exact ⟨e, ⟨y0, k_RL f (by decide) z2, k_RK f (by decide) z3, k_tR f (by decide) z4, k_zR f (by decide) z5, k_hR f (by decide) z6⟩, k_lo f (by decide)⟩
theorem du_ends {E : am_E} (zi : am_inj E) (a1 : Int32) : du E Y_TC_ends Y_MO_ends [.int a1] Value.int := by
  rintro ⟨σ, ⟨T, r, V⟩, kp, ⟨n, b⟩, z, h⟩ ⟨w1, w2, w3, w4, w5, w6⟩
  refine ⟨aEnds V r σ a1, (σ, (T, r, V), kp, (n, b), z, h), ⟨w1, w2, w3, w4, w5, w6⟩, fun I w hC => ?_, fun I w hR => ?_⟩
  · obtain ⟨z1, z2, z3, z4, z5, z6⟩ := hC
    refine am_Ret.imp (c_ends zi (by decide) w1 z1 w z2 a1) ?_
    rintro q J w' ⟨e, -, y0, f⟩
    exact ⟨e, ⟨y0, k_LC f (by decide) z2, k_KC f (by decide) z3, k_tC f (by decide) z4, k_cZ w4 f (by decide) z5, k_hC f (by decide) z6⟩, k_hi f (by decide)⟩
  · obtain ⟨z1, z2, z3, z4, z5, z6⟩ := hR
    refine am_Ret.imp (m_ends zi (by decide) w1 z1 w z2 a1) ?_
    rintro q J w' ⟨e, y0, f⟩
    exact ⟨e, ⟨y0, k_RL f (by decide) z2, k_RK f (by decide) z3, k_tR f (by decide) z4, k_zR f (by decide) z5, k_hR f (by decide) z6⟩, k_lo f (by decide)⟩
theorem du_meet {E : am_E} (zi : am_inj E) (a1 : Int32) (a2 : Int32) (a3 : Int32) : du E Y_TC_meet Y_MO_meet [.int a1, .int a2, .int a3] Value.long := by
  rintro ⟨σ, ⟨T, r, V⟩, kp, ⟨n, b⟩, z, h⟩ ⟨w1, w2, w3, w4, w5, w6⟩
  refine ⟨aMeet V r σ a1 a2 a3, (σ, (T, r, V), kp, (n, b), z, h), ⟨w1, w2, w3, w4, w5, w6⟩, fun I w hC => ?_, fun I w hR => ?_⟩
  · obtain ⟨z1, z2, z3, z4, z5, z6⟩ := hC
    refine am_Ret.imp (c_meet zi (by decide) w1 z1 w z2 a1 a2 a3) ?_
    rintro q J w' ⟨e, -, f⟩
    exact ⟨e, ⟨k_CS f (by decide) z1, k_LC f (by decide) z2, k_KC f (by decide) z3, k_tC f (by decide) z4, k_cZ w4 f (by decide) z5, k_hC f (by decide) z6⟩, k_hi f (by decide)⟩
  · obtain ⟨z1, z2, z3, z4, z5, z6⟩ := hR
    refine am_Ret.imp (m_meet zi (by decide) w1 z1 w z2 a1 a2 a3) ?_
    rintro q J w' ⟨e, f⟩
    exact ⟨e, ⟨k_RS f (by decide) z1, k_RL f (by decide) z2, k_RK f (by decide) z3, k_tR f (by decide) z4, k_zR f (by decide) z5, k_hR f (by decide) z6⟩, k_lo f (by decide)⟩
theorem du_edge {E : am_E} (zi : am_inj E) (a1 : Int32) : du E Y_TC_edge Y_MO_edge [.int a1] Value.long := by
  rintro ⟨σ, ⟨T, r, V⟩, kp, ⟨n, b⟩, z, h⟩ ⟨w1, w2, w3, w4, w5, w6⟩
  refine ⟨aEdge V r σ a1, (σ, (T, r, V), kp, (n, b), z, h), ⟨w1, w2, w3, w4, w5, w6⟩, fun I w hC => ?_, fun I w hR => ?_⟩
  · obtain ⟨z1, z2, z3, z4, z5, z6⟩ := hC
    refine am_Ret.imp (c_edge zi (by decide) w1 z1 w z2 a1) ?_
    rintro q J w' ⟨e, -, f⟩
    exact ⟨e, ⟨k_CS f (by decide) z1, k_LC f (by decide) z2, k_KC f (by decide) z3, k_tC f (by decide) z4, k_cZ w4 f (by decide) z5, k_hC f (by decide) z6⟩, k_hi f (by decide)⟩
  · obtain ⟨z1, z2, z3, z4, z5, z6⟩ := hR
    refine am_Ret.imp (m_edge zi (by decide) w1 z1 w z2 a1) ?_
    rintro q J w' ⟨e, f⟩
    exact ⟨e, ⟨k_RS f (by decide) z1, k_RL f (by decide) z2, k_RK f (by decide) z3, k_tR f (by decide) z4, k_zR f (by decide) z5, k_hR f (by decide) z6⟩, k_lo f (by decide)⟩
theorem du_bring {E : am_E} (zi : am_inj E) (a1 : Int32) (a2 : Int32) : du E Y_TC_bring Y_MO_bring [.int a1, .int a2] Value.int := by
  rintro ⟨σ, ⟨T, r, V⟩, kp, ⟨n, b⟩, z, h⟩ ⟨w1, w2, w3, w4, w5, w6⟩
  refine ⟨aBring V r σ a1 a2, (σ, (T, r, V), kp, (n, b), z, h), ⟨w1, w2, w3, w4, w5, w6⟩, fun I w hC => ?_, fun I w hR => ?_⟩
  · obtain ⟨z1, z2, z3, z4, z5, z6⟩ := hC
    refine am_Ret.imp (c_bring zi (by decide) w1 z1 w z2 a1 a2) ?_
    rintro q J w' ⟨e, -, f⟩
    exact ⟨e, ⟨k_CS f (by decide) z1, k_LC f (by decide) z2, k_KC f (by decide) z3, k_tC f (by decide) z4, k_cZ w4 f (by decide) z5, k_hC f (by decide) z6⟩, k_hi f (by decide)⟩
  · obtain ⟨z1, z2, z3, z4, z5, z6⟩ := hR
    refine am_Ret.imp (m_bring zi (by decide) w1 z1 w z2 a1 a2) ?_
    rintro q J w' ⟨e, f⟩
    exact ⟨e, ⟨k_RS f (by decide) z1, k_RL f (by decide) z2, k_RK f (by decide) z3, k_tR f (by decide) z4, k_zR f (by decide) z5, k_hR f (by decide) z6⟩, k_lo f (by decide)⟩
theorem du_image {E : am_E} (zi : am_inj E)  : du E Y_TC_image Y_MO_image [] Value.int := by
  rintro ⟨σ, ⟨T, r, V⟩, kp, ⟨n, b⟩, z, h⟩ ⟨w1, w2, w3, w4, w5, w6⟩
  refine ⟨nI (sM σ), (σ, (T, r, V), some (σ, r), (n, b), z, h), ⟨w1, ⟨w1, Nat.le_refl _, w6.1⟩, w3, w4, w5, w6⟩, fun I w hC => ?_, fun I w hR => ?_⟩
  · obtain ⟨z1, z2, z3, z4, z5, z6⟩ := hC
    refine am_Ret.imp (c_image zi (by decide) w1 z1 w z2.2.1) ?_
    rintro q J w' ⟨e, -, y0, f⟩
    exact ⟨e, ⟨k_CS f (by decide) z1, k_LC f (by decide) z2, y0, k_tC f (by decide) z4, k_cZ w4 f (by decide) z5, k_hC f (by decide) z6⟩, k_hi f (by decide)⟩
  · obtain ⟨z1, z2, z3, z4, z5, z6⟩ := hR
    refine am_Ret.imp (m_image zi w1 z1 w z2.2.1) ?_
    rintro q J w' ⟨e, -, y0, f⟩
    exact ⟨e, ⟨k_RS f (by decide) z1, k_RL f (by decide) z2, y0, k_tR f (by decide) z4, k_zR f (by decide) z5, k_hR f (by decide) z6⟩, k_lo f (by decide)⟩
theorem du_back {E : am_E} (zi : am_inj E)  : du E Y_TC_back Y_MO_back [] Value.int := by
  rintro ⟨σ, ⟨T, r, V⟩, kp, ⟨n, b⟩, z, h⟩ ⟨w1, w2, w3, w4, w5, w6⟩
  refine ⟨(aBack σ r kp).1, ((aBack σ r kp).2.1, (T, (aBack σ r kp).2.2, V), kp, (n, b), z, h), ⟨(wf_aBack w1 w6.1 w2).1, wfk_N (Nat.le_of_eq (wf_aBack w1 w6.1 w2).2.1.symm) w2, w3, w4, w5, ⟨(wf_aBack w1 w6.1 w2).2.2, w6.2⟩⟩, fun I w hC => ?_, fun I w hR => ?_⟩
  · obtain ⟨z1, z2, z3, z4, z5, z6⟩ := hC
    refine am_Ret.imp (c_back zi (by decide) w1 z1 w z2 z3 w2) ?_
    rintro q J w' ⟨e, -, y0, y1, f⟩
    exact ⟨e, ⟨y0, y1, k_KC f (by decide) z3, k_tC f (by decide) z4, k_cZ w4 f (by decide) z5, k_hC f (by decide) z6⟩, k_hi f (by decide)⟩
  · obtain ⟨z1, z2, z3, z4, z5, z6⟩ := hR
    refine am_Ret.imp (m_back zi w1 z1 w z2.2.1 z3 w2) ?_
    rintro q J w' ⟨e, -, y0, y1, f⟩
    exact ⟨e, ⟨y0, k_RLr f (by decide) y1 (wf_aBack w1 w6.1 w2).2.2 z2, k_RK f (by decide) z3, k_tR f (by decide) z4, k_zR f (by decide) z5, k_hR f (by decide) z6⟩, k_lo f (by decide)⟩
theorem du_count {E : am_E} (zi : am_inj E) (a1 : Int32) : du E Y_TC_count Y_MO_count [.int a1] Value.int := by
  rintro ⟨σ, ⟨T, r, V⟩, kp, ⟨n, b⟩, z, h⟩ ⟨w1, w2, w3, w4, w5, w6⟩
  refine ⟨aCnt σ (nI T) (nI n) (nI r) (nI (zN z)) a1, (σ, (T, r, V), kp, (n, b), z, h), ⟨w1, w2, w3, w4, w5, w6⟩, fun I w hC => ?_, fun I w hR => ?_⟩
  · obtain ⟨z1, z2, z3, z4, z5, z6⟩ := hC
    refine am_Ret.imp (c_count zi (by decide) w1 z1 w z2.1 z4.1 z2.2.1 z5.1 a1) ?_
    rintro q J w' ⟨e, e2, -⟩
    rw [e2]
    exact ⟨e, ⟨z1, z2, z3, z4, z5, z6⟩, fun _ _ => rfl⟩
  · obtain ⟨z1, z2, z3, z4, z5, z6⟩ := hR
    refine am_Ret.imp (m_count zi (by decide) w1 z1 w z2.1 z4.1 z2.2.1 z5.1 a1) ?_
    rintro q J w' ⟨e, e2, -⟩
    rw [e2]
    exact ⟨e, ⟨z1, z2, z3, z4, z5, z6⟩, fun _ _ => rfl⟩
theorem du_sheet {E : am_E} (zi : am_inj E) (a1 : Int32) (a2 : Int32) (a3 : Int32) : du E Y_TC_sheet Y_MO_sheet [.int a1, .int a2, .int a3] Value.int := by
  rintro ⟨σ, ⟨T, r, V⟩, kp, ⟨n, b⟩, z, h⟩ ⟨w1, w2, w3, w4, w5, w6⟩
  refine ⟨aShe a1 a2 a3, (σ, (T, r, V), kp, (n, b), z, sShe h a1 a2 a3), ⟨w1, w2, w3, w4, wfh_she w5 a1 a2 a3, w6⟩, fun I w hC => ?_, fun I w hR => ?_⟩
  · obtain ⟨z1, z2, z3, z4, z5, z6⟩ := hC
    refine am_Ret.imp (c_sheet zi (by decide) w z6 a1 a2 a3) ?_
    rintro q J w' ⟨e, -, y0, f⟩
    have f := fs_fr (o := 0) (by decide) f
    exact ⟨e, ⟨k_CS f (by decide) z1, k_LC f (by decide) z2, k_KC f (by decide) z3, k_tC f (by decide) z4, k_cZ w4 f (by decide) z5, y0⟩, k_hi f (by decide)⟩
  · obtain ⟨z1, z2, z3, z4, z5, z6⟩ := hR
    refine am_Ret.imp (m_sheet zi (by decide) w w5 z6 a1 a2 a3) ?_
    rintro q J w' ⟨e, -, y0, f⟩
    have f := fs_fr (o := 88) (by decide) f
    exact ⟨e, ⟨k_RS f (by decide) z1, k_RL f (by decide) z2, k_RK f (by decide) z3, k_tR f (by decide) z4, k_zR f (by decide) z5, y0⟩, k_lo f (by decide)⟩
theorem du_cell {E : am_E} (zi : am_inj E) (a1 : Int32) (a2 : Int32) (a3 : Int32) : du E Y_TC_cell Y_MO_cell [.int a1, .int a2, .int a3] Value.int := by
  rintro ⟨σ, ⟨T, r, V⟩, kp, ⟨n, b⟩, z, h⟩ ⟨w1, w2, w3, w4, w5, w6⟩
  refine ⟨aCel h a1 a2, (σ, (T, r, V), kp, (n, b), z, sCel h a1 a2 a3), ⟨w1, w2, w3, w4, wfh_cel w5 a1 a2 a3, w6⟩, fun I w hC => ?_, fun I w hR => ?_⟩
  · obtain ⟨z1, z2, z3, z4, z5, z6⟩ := hC
    refine am_Ret.imp (c_cell zi (by decide) w w5 z6 a1 a2 a3) ?_
    rintro q J w' ⟨e, -, y0, f⟩
    have f := fs_fr (o := 0) (by decide) f
    exact ⟨e, ⟨k_CS f (by decide) z1, k_LC f (by decide) z2, k_KC f (by decide) z3, k_tC f (by decide) z4, k_cZ w4 f (by decide) z5, y0⟩, k_hi f (by decide)⟩
  · obtain ⟨z1, z2, z3, z4, z5, z6⟩ := hR
    refine am_Ret.imp (m_cell zi (by decide) w w5 z6 a1 a2 a3) ?_
    rintro q J w' ⟨e, -, y0, f⟩
    have f := fs_fr (o := 88) (by decide) f
    exact ⟨e, ⟨k_RS f (by decide) z1, k_RL f (by decide) z2, k_RK f (by decide) z3, k_tR f (by decide) z4, k_zR f (by decide) z5, y0⟩, k_lo f (by decide)⟩
theorem du_copy {E : am_E} (zi : am_inj E) (a1 : Int32) (a2 : Int32) (a3 : Int32) (a4 : Int32) (a5 : Int32) : du E Y_TC_copy Y_MO_copy [.int a1, .int a2, .int a3, .int a4, .int a5] Value.int := by
  rintro ⟨σ, ⟨T, r, V⟩, kp, ⟨n, b⟩, z, h⟩ ⟨w1, w2, w3, w4, w5, w6⟩
  refine ⟨aCpo h a1 a2 a3 a4 a5, (σ, (T, r, V), kp, (n, b), z, sCpo h a1 a2 a3 a4 a5), ⟨w1, w2, w3, w4, wfh_cpo w5 a1 a2 a3 a4 a5, w6⟩, fun I w hC => ?_, fun I w hR => ?_⟩
  · obtain ⟨z1, z2, z3, z4, z5, z6⟩ := hC
    refine am_Ret.imp (c_copy zi (by decide) w w5 z6 a1 a2 a3 a4 a5) ?_
    rintro q J w' ⟨e, -, y0, f⟩
    have f := fs_fr (o := 0) (by decide) f
    exact ⟨e, ⟨k_CS f (by decide) z1, k_LC f (by decide) z2, k_KC f (by decide) z3, k_tC f (by decide) z4, k_cZ w4 f (by decide) z5, y0⟩, k_hi f (by decide)⟩
  · obtain ⟨z1, z2, z3, z4, z5, z6⟩ := hR
    refine am_Ret.imp (m_copy zi (by decide) w w5 z6 a1 a2 a3 a4 a5) ?_
    rintro q J w' ⟨e, -, y0, f⟩
    have f := fs_fr (o := 88) (by decide) f
    exact ⟨e, ⟨k_RS f (by decide) z1, k_RL f (by decide) z2, k_RK f (by decide) z3, k_tR f (by decide) z4, k_zR f (by decide) z5, y0⟩, k_lo f (by decide)⟩
theorem du_feels {E : am_E} (zi : am_inj E) (a1 : Int32) (a2 : Int32) (a3 : Int32) (a4 : Int32) : du E Y_TC_feels Y_MO_feels [.int a1, .int a2, .int a3, .int a4] Value.int := by
  rintro ⟨σ, ⟨T, r, V⟩, kp, ⟨n, b⟩, z, h⟩ ⟨w1, w2, w3, w4, w5, w6⟩
  refine ⟨(aFes σ h a1 a2 a3 a4).1, ((aFes σ h a1 a2 a3 a4).2, (T, r, V), kp, (n, b), z, h), ⟨wf_aFes w1 h a1 a2 a3 a4, wfk_N (Nat.le_of_eq N_feels.symm) w2, w3, w4, w5, w6⟩, fun I w hC => ?_, fun I w hR => ?_⟩
  · obtain ⟨z1, z2, z3, z4, z5, z6⟩ := hC
    refine am_Ret.imp (c_feels zi (by decide) w1 z1 w w5 z6 a1 a2 a3 a4) ?_
    rintro q J w' ⟨e, -, y0, f⟩
    have f := fs_fr (o := 0) (by decide) f
    exact ⟨e, ⟨y0, k_LC f (by decide) z2, k_KC f (by decide) z3, k_tC f (by decide) z4, k_cZ w4 f (by decide) z5, k_hC f (by decide) z6⟩, k_hi f (by decide)⟩
  · obtain ⟨z1, z2, z3, z4, z5, z6⟩ := hR
    refine am_Ret.imp (m_feels zi (by decide) w1 z1 w w5 z6 a1 a2 a3 a4) ?_
    rintro q J w' ⟨e, -, y0, f⟩
    exact ⟨e, ⟨y0, k_RL f (by decide) z2, k_RK f (by decide) z3, k_tR f (by decide) z4, k_zR f (by decide) z5, k_hR f (by decide) z6⟩, k_lo f (by decide)⟩
theorem du_taken {E : am_E} (zi : am_inj E) (a1 : Int32) (a2 : Int32) : du E Y_TC_taken Y_MO_taken [.int a1, .int a2] Value.int := by
  rintro ⟨σ, ⟨T, r, V⟩, kp, ⟨n, b⟩, z, h⟩ ⟨w1, w2, w3, w4, w5, w6⟩
  refine ⟨aTkn z a1 a2, (σ, (T, r, V), kp, (n, b), z, h), ⟨w1, w2, w3, w4, w5, w6⟩, fun I w hC => ?_, fun I w hR => ?_⟩
  · obtain ⟨z1, z2, z3, z4, z5, z6⟩ := hC
    refine am_Ret.imp (c_taken zi (by decide) w w4 z5 a1 a2) ?_
    rintro q J w' ⟨e, e2, -⟩
    rw [e2]
    exact ⟨e, ⟨z1, z2, z3, z4, z5, z6⟩, fun _ _ => rfl⟩
  · obtain ⟨z1, z2, z3, z4, z5, z6⟩ := hR
    refine am_Ret.imp (m_taken zi (by decide) w w4 z5 a1 a2) ?_
    rintro q J w' ⟨e, e2, -⟩
    rw [e2]
    exact ⟨e, ⟨z1, z2, z3, z4, z5, z6⟩, fun _ _ => rfl⟩
