/-! the least of one's PART: both -/
def lb (m : Nat) : Nat := cnt (fun i => decide (m % 2 ^ (i + 1) = 0)) 9
theorem lb_ok : (List.range 512).all (fun m => decide (m = 0) || (m.testBit (lb m) && (decide (lb m < 9) && (List.range (lb m)).all (fun q => !m.testBit q)))) = true := by decide +kernel
theorem lb_of {m : Nat} (h : m < 512) (h0 : ¬ m = 0) : m.testBit (lb m) = true ∧ lb m < 9 ∧ ∀ q, q < lb m → m.testBit q = false := by
  have h1 := List.all_eq_true.mp lb_ok m (List.mem_range.mpr h)
  rw [decide_eq_false h0, Bool.false_or, Bool.and_eq_true, Bool.and_eq_true, decide_eq_true_eq] at h1
  refine ⟨h1.1, h1.2.1, fun q hq => ?_⟩
  have h2 := List.all_eq_true.mp h1.2.2 q (List.mem_range.mpr hq)
  rw [Bool.not_eq_true'] at h2
  exact h2
theorem itn_self {σ : St} {out p : Nat} : ∀ i, (itn σ out p i).testBit p = true
  | 0 => Nat.testBit_two_pow_self
  | i + 1 => rd1_sub (itn_self i) _
theorem lb_le {m p : Nat} (h : m < 512) (hp : m.testBit p = true) : lb m ≤ p := by
  have h0 : ¬ m = 0 := fun e => by rw [e, Nat.zero_testBit] at hp; cases hp
  rcases Nat.lt_or_ge p (lb m) with q | q
  · have := (lb_of h h0).2.2 p q
    rw [this] at hp
    cases hp
  · exact q
theorem r_leastOf {E : am_E} (zi : am_inj E) {k : Nat} (hk : 2 ≤ k) {σ : St} (zw : wf σ) {I : am_I} (zC : CS I σ) (w : Int64) {p : Nat} (hp : p < 9) :
    am_Ret E k Y_Net_leastOf [.ref 71, .int (nI p)] I w (am_eq (some (.int (nI (lb (itn σ 0 p 9))))) I w) := by
  refine am_intro (pv_Net_leastOf E k) (by decide) zi ?_ rfl rfl ?_
  · rintro _ _ _ ⟨rfl, -⟩; rfl
  intro S hS
  have hx := itn_lt zw (out := 0) hp 9
  have hb := lb_le hx (itn_self (σ := σ) (out := 0) (p := p) 9)
  obtain ⟨b1, b2, b3⟩ := lb_of hx (itn_pos 9)
  have loop := down (P := fun i => S 12 [some (.ref 71), some (.int (nI p)), some (.int (nI (itn σ 0 p 9))), some (.int (nI i)), some (.int (nI i))] [] I w) (lb (itn σ 0 p 9)) ?z ?s
  case z =>
    refine am_at hS (fun t => Nat.beq t 12) 80 12 ?_
    refine ⟨fun _ => ?_, fun _ => ⟨rfl, rfl, rfl⟩⟩
    have eb : (nI (itn σ 0 p 9) >>> (nI (lb (itn σ 0 p 9)) &&& 31)) &&& 1 = bi ((itn σ 0 p 9).testBit (lb (itn σ 0 p 9))) := nI_bit (by omega) (by omega)
    exact ⟨fun q => absurd q (by show ¬ (nI (itn σ 0 p 9) >>> (nI (lb (itn σ 0 p 9)) &&& 31)) &&& 1 = 0; rw [eb, b1]; decide), fun _ => ⟨rfl, rfl, rfl⟩⟩
  case s =>
    intro i hi hn
    refine am_at hS (fun t => Nat.beq t 12) 80 12 ?_
    have eb : (nI (itn σ 0 p 9) >>> (nI i &&& 31)) &&& 1 = bi ((itn σ 0 p 9).testBit i) := nI_bit (by omega) (by omega)
    rw [← nI_1] at hn
    refine ⟨fun _ => ?_, fun q => absurd (nI_lt (by omega) (by omega)) q⟩
    exact ⟨fun _ => hn, fun q => absurd (show (nI (itn σ 0 p 9) >>> (nI i &&& 31)) &&& 1 = 0 by rw [eb, b3 i hi]; rfl) q⟩
  refine am_at hS (fun t => Nat.beq t 12) 80 0 ?_
  refine ⟨_, _, (by omega : k - 1 < k), r_reach zi (by omega) zw zC w (o := 0) hp (by decide), am_elim ?_⟩
  exact loop 0 (Nat.zero_le _)
def aPart (σ : St) (x : Int32) : Int32 := cond (inb x (sN σ)) (nI (lb (itn σ 0 x.toNatClampNeg 9))) (-2)
theorem c_part {E : am_E} (zi : am_inj E) {k : Nat} (hk : 3 ≤ k) {σ : St} (zw : wf σ) {I : am_I} (zC : CS I σ) (w : Int64) (x : Int32) :
    am_Ret E k Y_TC_part [.ref 0, .int x] I w (am_eq (some (.int (aPart σ x))) I w) := by
  refine am_intro (pv_TC_part E k) (by decide) zi ?_ rfl rfl ?_
  · rintro _ _ _ ⟨rfl, -⟩; rfl
  intro S hS
  have h9 := zw.1
  unfold aPart at hS
  refine am_at hS (fun _ => false) 60 0 ?_
  refine ⟨_, _, (by omega : k - 1 < k), r_hasP zi (by omega) x I w zC.1.1, am_elim ?_⟩
  refine ⟨fun h => ?_, fun h => ?_⟩
  · rw [bi_eq0] at h
    rw [h]
    exact ⟨rfl, rfl, rfl⟩
  · rw [bi_eq0, Bool.not_eq_false] at h
    rw [h]
    obtain ⟨p, hp, rfl⟩ := inb_of h (by omega)
    refine ⟨_, _, (by omega : k - 1 < k), r_leastOf zi (by omega) zw zC w (p := p) (by omega), am_elim ?_⟩
    rw [nI_clamp (by omega)]
    exact ⟨rfl, rfl, rfl⟩
theorem m_part {E : am_E} (zi : am_inj E) {k : Nat} (hk : 2 ≤ k) {σ : St} (zw : wf σ) {I : am_I} (zR : RS I σ) (w : Int64) (x : Int32) :
    am_Ret E k Y_MO_part2 [.ref 88, .int x] I w (am_eq (some (.int (aPart σ x))) I w) := by
  refine am_intro (pv_MO_part2 E k) (by decide) zi ?_ rfl rfl ?_
  · rintro _ _ _ ⟨rfl, -⟩; rfl
  intro S hS
  have h9 := zw.1
  unfold aPart at hS
  refine am_at hS (fun _ => false) 60 0 ?_
  refine ⟨_, _, (by omega : k - 1 < k), r_isPerson zi I w (by omega) (by omega) zR.1.1 x, am_elim ?_⟩
  refine ⟨fun h => ?_, fun h => ?_⟩
  · rw [bi_eq0] at h
    rw [h]
    exact ⟨rfl, rfl, rfl⟩
  · rw [bi_eq0, Bool.not_eq_false] at h
    rw [h]
    obtain ⟨p, hp, rfl⟩ := inb_of h (by omega)
    have hx := itn_lt zw (out := 0) (p := p) (by omega) 9
    obtain ⟨b1, b2, b3⟩ := lb_of hx (itn_pos 9)
    refine ⟨_, _, (by omega : k - 1 < k), r_hangs zi zw zR w (p := p) (o := 0) (by omega) (by decide), am_elim ?_⟩
    refine ⟨_, _, (by omega : k - 1 < k), r_leastOfM zi hx b2 b1 b3 I w, am_elim ?_⟩
    rw [nI_clamp (by omega)]
    exact ⟨rfl, rfl, rfl⟩

