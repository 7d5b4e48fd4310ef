/-! COUNT: both -/
def hat (σ : St) : Nat := cnt (fun f => decide (sS σ f < 0)) (sM σ)
def aCnt (σ : St) (a2 a3 a4 a5 x : Int32) : Int32 := if x = 0 then nI (sN σ) else if x = 1 then nI (sM σ) else if x = 2 then a2 else if x = 3 then a3 else if x = 4 then a4 else if x = 5 then a5 else if x = 6 then nI (hat σ) else if x = 7 then nI (cnt (rep σ 0) (sN σ)) else -2
theorem c_count {E : am_E} (zi : am_inj E) {k : Nat} (hk : 4 ≤ k) {σ : St} (zw : wf σ) {I : am_I} (zC : CS I σ) (w : Int64) {a2 a3 a4 a5 : Int32} (e2 : I 25 2 = a2) (e3 : I 23 0 = a3) (e4 : I 25 3 = a4) (e5 : I 0 11 = a5) (x : Int32) :
    am_Ret E k Y_TC_count [.ref 0, .int x] I w (am_eq (some (.int (aCnt σ a2 a3 a4 a5 x))) I w) := by
  refine am_intro (pv_TC_count E k) (by decide) zi ?_ rfl rfl ?_
  · rintro _ _ _ ⟨rfl, -⟩; rfl
  intro S hS
  unfold aCnt at hS
  refine am_at hS (fun _ => false) 90 0 ?_
  refine ⟨fun h => ?_, fun h => ?_⟩
  · exact ⟨by rw [if_pos h]; exact congrArg (fun y => some (Value.int y)) zC.1.1, rfl, rfl⟩
  refine ⟨fun h1 => ?_, fun h1 => ?_⟩
  · exact ⟨by rw [if_neg h, if_pos h1]; exact congrArg (fun y => some (Value.int y)) zC.2.1, rfl, rfl⟩
  refine ⟨fun h2 => ?_, fun h2 => ?_⟩
  · exact ⟨by rw [if_neg h, if_neg h1, if_pos h2]; exact congrArg (fun y => some (Value.int y)) e2, rfl, rfl⟩
  refine ⟨fun h3 => ?_, fun h3 => ?_⟩
  · exact ⟨by rw [if_neg h, if_neg h1, if_neg h2, if_pos h3]; exact congrArg (fun y => some (Value.int y)) e3, rfl, rfl⟩
  refine ⟨fun h4 => ?_, fun h4 => ?_⟩
  · exact ⟨by rw [if_neg h, if_neg h1, if_neg h2, if_neg h3, if_pos h4]; exact congrArg (fun y => some (Value.int y)) e4, rfl, rfl⟩
  refine ⟨fun h5 => ?_, fun h5 => ?_⟩
  · exact ⟨by rw [if_neg h, if_neg h1, if_neg h2, if_neg h3, if_neg h4, if_pos h5]; exact congrArg (fun y => some (Value.int y)) e5, rfl, rfl⟩
  refine ⟨fun h6 => ?_, fun h6 => ?_⟩
  · refine ⟨_, _, (by omega : k - 1 < k), r_hatreds zi zw zC w, am_elim ?_⟩
    exact ⟨by rw [if_neg h, if_neg h1, if_neg h2, if_neg h3, if_neg h4, if_neg h5, if_pos h6]; rfl, rfl, rfl⟩
  refine ⟨fun h7 => ?_, fun h7 => ?_⟩
  · refine ⟨_, _, (by omega : k - 1 < k), r_countWithout zi (by omega) zw zC w (o := 0) (by decide), am_elim ?_⟩
    exact ⟨by rw [if_neg h, if_neg h1, if_neg h2, if_neg h3, if_neg h4, if_neg h5, if_neg h6, if_pos h7], rfl, rfl⟩
  · exact ⟨by rw [if_neg h, if_neg h1, if_neg h2, if_neg h3, if_neg h4, if_neg h5, if_neg h6, if_neg h7], rfl, rfl⟩
theorem m_count {E : am_E} (zi : am_inj E) {k : Nat} (hk : 2 ≤ k) {σ : St} (zw : wf σ) {I : am_I} (zR : RS I σ) (w : Int64) {a2 a3 a4 a5 : Int32} (e2 : I 88 3 = a2) (e3 : I 88 6 = a3) (e4 : I 88 4 = a4) (e5 : I 88 32 = a5) (x : Int32) :
    am_Ret E k Y_MO_count [.ref 88, .int x] I w (am_eq (some (.int (aCnt σ a2 a3 a4 a5 x))) I w) := by
  refine am_intro (pv_MO_count E k) (by decide) zi ?_ rfl rfl ?_
  · rintro _ _ _ ⟨rfl, -⟩; rfl
  intro S hS
  have h9 := zw.1
  have h36 := sM_le zw
  unfold aCnt at hS
  refine am_at hS (fun t => Nat.beq t 80 || Nat.beq t 115) 90 0 ?_
  refine ⟨fun h => ?_, fun h => ?_⟩
  · exact ⟨by rw [if_pos h]; exact congrArg (fun y => some (Value.int y)) zR.1.1, rfl, rfl⟩
  refine ⟨fun h1 => ?_, fun h1 => ?_⟩
  · exact ⟨by rw [if_neg h, if_pos h1]; exact congrArg (fun y => some (Value.int y)) zR.2.1, rfl, rfl⟩
  refine ⟨fun h2 => ?_, fun h2 => ?_⟩
  · exact ⟨by rw [if_neg h, if_neg h1, if_pos h2]; exact congrArg (fun y => some (Value.int y)) e2, rfl, rfl⟩
  refine ⟨fun h3 => ?_, fun h3 => ?_⟩
  · exact ⟨by rw [if_neg h, if_neg h1, if_neg h2, if_pos h3]; exact congrArg (fun y => some (Value.int y)) e3, rfl, rfl⟩
  refine ⟨fun h4 => ?_, fun h4 => ?_⟩
  · exact ⟨by rw [if_neg h, if_neg h1, if_neg h2, if_neg h3, if_pos h4]; exact congrArg (fun y => some (Value.int y)) e4, rfl, rfl⟩
  refine ⟨fun h5 => ?_, fun h5 => ?_⟩
  · exact ⟨by rw [if_neg h, if_neg h1, if_neg h2, if_neg h3, if_neg h4, if_pos h5]; exact congrArg (fun y => some (Value.int y)) e5, rfl, rfl⟩
  have add0 : ∀ a : Nat, nI a + 0 = nI a := fun a => Int32.add_zero _
  refine ⟨fun h6 => ?_, fun h6 => ?_⟩
  · rw [if_neg h, if_neg h1, if_neg h2, if_neg h3, if_neg h4, if_neg h5, if_pos h6] at hS
    have loop := down (P := fun f => S 80 [some (.ref 88), some (.int x), some (.int (nI (cnt (fun f => decide (sS σ f < 0)) f))), some (.int (nI f))] [] I w) (sM σ) ?z ?s
    case z =>
      refine am_at hS (fun t => Nat.beq t 80) 90 80 ?_
      exact ⟨fun q => absurd q (by rw [zR.2.1]; exact nI_nlt (Nat.le_refl _) (by omega)), fun _ => ⟨rfl, rfl, rfl⟩⟩
    case s =>
      intro f hf hn
      obtain ⟨e94, e95, e96, -⟩ := zR.2.2 f hf
      refine am_at hS (fun t => Nat.beq t 80) 90 80 ?_
      refine ⟨fun _ => ?_, fun q => absurd (show nI f < I 88 16 by rw [zR.2.1]; exact nI_lt hf (by omega)) q⟩
      refine ⟨vp_in_nI (by omega) (by omega), ?_⟩
      rw [nI_clamp (by omega), e96]
      refine ⟨fun h => ?_, fun h => ?_⟩
      · have hq := hn
        rw [← cnt_t (decide_eq_true h), ← nI_1 f] at hq
        exact hq
      · have hq := hn
        rw [← cnt_f (decide_eq_false h), ← nI_1 f, ← add0] at hq
        exact hq
    exact loop 0 (Nat.zero_le _)
  refine ⟨fun h7 => ?_, fun h7 => ?_⟩
  · rw [if_neg h, if_neg h1, if_neg h2, if_neg h3, if_neg h4, if_neg h5, if_neg h6, if_pos h7] at hS
    have loop := down (P := fun p => S 115 [some (.ref 88), some (.int x), some (.int (nI (cnt (rep σ 0) p))), some (.int (nI p))] [] I w) (sN σ) ?z2 ?s2
    case z2 =>
      refine am_at hS (fun t => Nat.beq t 115) 90 115 ?_
      exact ⟨fun q => absurd q (by rw [zR.1.1]; exact nI_nlt (Nat.le_refl _) (by omega)), fun _ => ⟨rfl, rfl, rfl⟩⟩
    case s2 =>
      intro p hp hn
      have hx := itn_lt zw (out := 0) (p := p) (by omega) 9
      obtain ⟨l1, l2, l3⟩ := lb_of hx (itn_pos 9)
      refine am_at hS (fun t => Nat.beq t 115) 90 115 ?_
      refine ⟨fun _ => ?_, fun q => absurd (show nI p < I 88 9 by rw [zR.1.1]; exact nI_lt hp (by omega)) q⟩
      refine ⟨_, _, (by omega : k - 1 < k), r_hangs zi zw zR w (p := p) (o := 0) (by omega) (by decide), am_elim ?_⟩
      refine ⟨_, _, (by omega : k - 1 < k), r_leastOfM zi hx l2 l1 l3 I w, am_elim ?_⟩
      have er : rep σ 0 p = decide (lb (itn σ 0 p 9) = p) := by unfold rep; rw [Nat.zero_testBit]; rfl
      refine ⟨fun h => ?_, fun h => ?_⟩
      · rw [neq (by omega) (by omega)] at h
        have hq := hn
        rw [← cnt_t (er.trans (decide_eq_true h)), ← nI_1 p] at hq
        exact hq
      · rw [neq (by omega) (by omega)] at h
        have hq := hn
        rw [← cnt_f (er.trans (decide_eq_false h)), ← nI_1 p, ← add0] at hq
        exact hq
    exact loop 0 (Nat.zero_le _)
  · exact ⟨by rw [if_neg h, if_neg h1, if_neg h2, if_neg h3, if_neg h4, if_neg h5, if_neg h6, if_neg h7], rfl, rfl⟩
