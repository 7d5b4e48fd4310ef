/-! PRICES of some PEOPLE; who is cheaper -/
def prc (σ : St) (m : Nat) : Nat → Nat
  | 0 => 0
  | p + 1 => prc σ m p + cond (m.testBit p) (sP σ p).toNatClampNeg 0
theorem sP_nI {σ : St} (zw : wf σ) {p : Nat} (hp : p < sN σ) : sP σ p = nI (sP σ p).toNatClampNeg ∧ (sP σ p).toNatClampNeg < 100 := by
  obtain ⟨q, hq, e⟩ := inb_of (zw.2.2 p hp).1 (by decide)
  rw [e, nI_clamp (by omega)]
  exact ⟨rfl, hq⟩
theorem prc_le {σ : St} (zw : wf σ) {m : Nat} : ∀ p, p ≤ sN σ → prc σ m p ≤ 100 * p
  | 0, _ => Nat.le_refl _
  | p + 1, h => by
    have := prc_le zw (m := m) p (by omega)
    have := (sP_nI zw (p := p) (by omega)).2
    rw [prc]
    cases m.testBit p <;> simp only [cond_true, cond_false] <;> omega
theorem r_priceOf {E : am_E} (zi : am_inj E) {k : Nat} {σ : St} (zw : wf σ) {I : am_I} (zC : CS I σ) (w : Int64) {m : Nat} (hm : m < 512) :
    am_Ret E k Y_People_priceOf [.ref 1, .int (nI m)] I w (am_eq (some (.int (nI (prc σ m (sN σ))))) I w) := by
  refine am_intro (pv_People_priceOf E k) (by decide) zi ?_ rfl rfl ?_
  · rintro _ _ _ ⟨rfl, -⟩; rfl
  intro S hS
  have h9 := zw.1
  have c1 := zC.1.1
  have loop := down (P := fun p => S 4 [some (.ref 1), some (.int (nI m)), some (.int (nI (prc σ m p))), some (.int (nI p))] [] I w) (sN σ) ?z ?s
  case z =>
    refine am_at hS (fun t => Nat.beq t 4) 80 4 ?_
    exact ⟨fun q => absurd q (by show ¬ nI (sN σ) < I 1 0; rw [c1]; exact nI_nlt (Nat.le_refl _) (by omega)), fun _ => ⟨rfl, rfl, rfl⟩⟩
  case s =>
    intro p hp hn
    have eb : (nI m >>> (nI p &&& 31)) &&& 1 = bi (m.testBit p) := nI_bit (by omega) (by omega)
    refine am_at hS (fun t => Nat.beq t 4) 80 4 ?_
    refine ⟨fun _ => ?_, fun q => absurd (show nI p < I 1 0 by rw [c1]; exact nI_lt hp (by omega)) q⟩
    rw [prc, ← nI_1] at hn
    refine ⟨fun h => ?_, fun h => ?_⟩
    · have hb : m.testBit p = true := by
        have h2 : bi (m.testBit p) = bi true := by rw [← eb]; exact h
        rw [bi_inj] at h2
        exact h2
      refine ⟨vp_in_nI (by omega) (by omega), ?_⟩
      rw [nI_clamp (by omega), (zC.1.2 p hp).1]
      rw [hb, cond_true, ← nI_add, ← (sP_nI zw hp).1] at hn
      exact hn
    · have hb : m.testBit p = false := by
        have h2 : ¬ bi (m.testBit p) = bi true := by rw [← eb]; exact h
        rw [bi_inj, Bool.not_eq_true] at h2
        exact h2
      rw [hb] at hn
      exact hn
  exact am_at hS (fun t => Nat.beq t 4) 80 0 (loop 0 (Nat.zero_le _))
theorem pcn_le (m : Nat) : pcn m ≤ 9 := by
  have := List.countP_le_length (p := fun i => m.testBit i) (l := List.range 9)
  rw [List.length_range] at this
  exact this
/-- fewer, then cheaper -/
def chp (σ : St) (a b : Nat) : Bool := decide (pcn a < pcn b) || (decide (pcn a = pcn b) && decide (prc σ a (sN σ) < prc σ b (sN σ)))
theorem r_isCheaper {E : am_E} (zi : am_inj E) {k : Nat} (hk : 1 ≤ k) {σ : St} (zw : wf σ) {I : am_I} (zC : CS I σ) (w : Int64) {a b : Nat} (ha : a < 512) (hb : b < 512) :
    am_Ret E k Y_People_isCheaper [.ref 1, .int (nI a), .int (nI b)] I w (am_eq (some (.int (bi (chp σ a b)))) I w) := by
  refine am_intro (pv_People_isCheaper E k) (by decide) zi ?_ rfl rfl ?_
  · rintro _ _ _ ⟨rfl, -⟩; exact bi_nr _
  intro S hS
  have h9 := zw.1
  have pa := pcn_le a
  have pb := pcn_le b
  have qa := prc_le zw (m := a) (sN σ) (Nat.le_refl _)
  have qb := prc_le zw (m := b) (sN σ) (Nat.le_refl _)
  unfold chp at hS
  refine am_at hS (fun _ => false) 80 0 ?_
  refine ⟨_, _, (by omega : k - 1 < k), r_bitCount zi ha I w, am_elim ?_⟩
  refine ⟨_, _, (by omega : k - 1 < k), r_bitCount zi hb I w, am_elim ?_⟩
  have et : (nI (pcn a) - nI (pcn b)).toInt = (pcn a : Int) - pcn b := pk_sub_toInt (by omega) (by omega)
  have e0 : (0 : Int32).toInt = 0 := rfl
  refine ⟨fun h11 => ?_, fun h11 => ?_⟩
  · have h : pcn a < pcn b := by
      have h2 : nI (pcn a) - nI (pcn b) < 0 := h11
      rw [i_lt, et, e0] at h2
      omega
    rw [decide_eq_true h]
    exact ⟨rfl, rfl, rfl⟩
  have h : ¬ pcn a < pcn b := by
    have h2 : ¬ nI (pcn a) - nI (pcn b) < 0 := h11
    rw [i_lt, et, e0] at h2
    omega
  rw [decide_eq_false h]
  refine ⟨fun h15 => ?_, fun h15 => ?_⟩
  · have hq : pcn a = pcn b := by
      have h2 : nI (pcn a) - nI (pcn b) = 0 := h15
      rw [i32_eq, et, e0] at h2
      omega
    rw [decide_eq_true hq]
    refine ⟨_, _, (by omega : k - 1 < k), r_priceOf zi zw zC w ha, am_elim ?_⟩
    refine ⟨_, _, (by omega : k - 1 < k), r_priceOf zi zw zC w hb, am_elim ?_⟩
    refine ⟨fun h28 => ?_, fun h28 => ?_⟩
    · rw [nlt (by omega) (by omega)] at h28
      rw [decide_eq_true h28]
      exact ⟨rfl, rfl, rfl⟩
    · rw [nlt (by omega) (by omega)] at h28
      rw [decide_eq_false h28]
      exact ⟨rfl, rfl, rfl⟩
  · have hq : ¬ pcn a = pcn b := by
      have h2 : ¬ nI (pcn a) - nI (pcn b) = 0 := h15
      rw [i32_eq, et, e0] at h2
      omega
    rw [decide_eq_false hq]
    exact ⟨rfl, rfl, rfl⟩

