/-! the reference's bits -/
theorem bi_inj {a b : Bool} : (bi a = bi b) = (a = b) := by cases a <;> cases b <;> decide
theorem low_ok : (List.range 512).all (fun m => decide (m = 0) || (decide (pcn (m &&& (m - 1)) + 1 = pcn m) && decide (m &&& (m - 1) < m))) = true := by decide +kernel
theorem low_of {m : Nat} (h : m < 512) (h0 : 0 < m) : pcn (m &&& (m - 1)) + 1 = pcn m ∧ m &&& (m - 1) < m := by
  have h1 := List.all_eq_true.mp low_ok m (List.mem_range.mpr h)
  rw [decide_eq_false (show ¬ m = 0 by omega), Bool.false_or, Bool.and_eq_true, decide_eq_true_eq, decide_eq_true_eq] at h1
  exact h1
theorem pcn_0 : pcn 0 = 0 := by decide
theorem r_bitsOfM {E : am_E} (zi : am_inj E) {k m : Nat} (hm : m < 512) (I : am_I) (w : Int64) : am_Ret E k Y_MO_bitsOf [.int (nI m)] I w (am_eq (some (.int (nI (pcn m)))) I w) := by
  refine am_intro (pv_MO_bitsOf E k) (by decide) zi ?_ rfl rfl ?_
  · rintro _ _ _ ⟨rfl, rfl, rfl⟩; rfl
  intro S hS
  have loop : ∀ n x, x ≤ n → x < 512 → ∀ c, c + pcn x = pcn m → S 4 [some (.int (nI m)), some (.int (nI c)), some (.int (nI x))] [] I w := by
    intro n
    induction n with
    | zero =>
      intro x hx _ c hc
      have e : x = 0 := by omega
      subst e
      rw [pcn_0] at hc
      refine am_at hS (fun t => Nat.beq t 4) 40 4 ?_
      exact ⟨fun _ => ⟨by rw [← hc]; rfl, rfl, rfl⟩, fun q => absurd rfl q⟩
    | succ n ih =>
      intro x hx h5 c hc
      refine am_at hS (fun t => Nat.beq t 4) 40 4 ?_
      refine ⟨fun q => ?_, fun q => ?_⟩
      · have e : x = 0 := by
          have q2 : nI x = nI 0 := q
          rw [neq (by omega) (by decide)] at q2
          exact q2
        subst e
        rw [pcn_0] at hc
        exact ⟨by rw [← hc]; rfl, rfl, rfl⟩
      · have h0 : 0 < x := by
          rcases Nat.eq_zero_or_pos x with e | e
          · exact absurd (by rw [e]; rfl) q
          · exact e
        obtain ⟨l1, l2⟩ := low_of h5 h0
        have hgo := ih (x &&& (x - 1)) (by omega) (by omega) (c + 1) (by omega)
        rw [← nI_1 c, ← nI_and, ← pk_sub (a := x) (b := 1) h0] at hgo
        exact hgo
  exact am_at hS (fun t => Nat.beq t 4) 40 0 (loop m m (Nat.le_refl _) hm 0 (Nat.zero_add _))
theorem r_leastOfM {E : am_E} (zi : am_inj E) {k m p : Nat} (hm : m < 512) (hp : p < 9) (h1 : m.testBit p = true) (h2 : ∀ q, q < p → m.testBit q = false) (I : am_I) (w : Int64) : am_Ret E k Y_MO_leastOf [.ref 88, .int (nI m)] I w (am_eq (some (.int (nI p))) I w) := by
  refine am_intro (pv_MO_leastOf E k) (by decide) zi ?_ rfl rfl ?_
  · rintro _ _ _ ⟨rfl, rfl, rfl⟩; rfl
  intro S hS
  have loop := down (P := fun i => S 2 [some (.ref 88), some (.int (nI m)), some (.int (nI i))] [] I w) p ?z ?s
  case z =>
    refine am_at hS (fun t => Nat.beq t 2) 40 2 ?_
    have eb : (nI m >>> (nI p &&& 31)) &&& 1 = bi (m.testBit p) := nI_bit (by omega) (by omega)
    exact ⟨fun q => absurd q (by show ¬ (nI m >>> (nI p &&& 31)) &&& 1 = 0; rw [eb, h1]; decide), fun _ => ⟨rfl, rfl, rfl⟩⟩
  case s =>
    intro i hi hn
    refine am_at hS (fun t => Nat.beq t 2) 40 2 ?_
    have eb : (nI m >>> (nI i &&& 31)) &&& 1 = bi (m.testBit i) := nI_bit (by omega) (by omega)
    rw [← nI_1] at hn
    exact ⟨fun _ => hn, fun q => absurd (show (nI m >>> (nI i &&& 31)) &&& 1 = 0 by rw [eb, h2 i hi]; rfl) q⟩
  exact am_at hS (fun t => Nat.beq t 2) 40 0 (loop 0 (Nat.zero_le _))
theorem r_isWrongInM {E : am_E} (zi : am_inj E) {k : Nat} {σ : St} (zw : wf σ) {I : am_I} (zR : RS I σ) (w : Int64) {f m : Nat} (hf : f < sM σ) (hm : m < 512) : am_Ret E k Y_MO_isWrongIn [.ref 88, .int (nI f), .int (nI m)] I w (am_eq (some (.int (bi (wrm σ f m)))) I w) := by
  refine am_intro (pv_MO_isWrongIn E k) (by decide) zi ?_ rfl rfl ?_
  · rintro _ _ _ ⟨rfl, rfl, rfl⟩; exact bi_nr _
  intro S hS
  have h36 := sM_le zw
  have h9 := zw.1
  obtain ⟨e1, e2, e3, -⟩ := zR.2.2 f hf
  have h3 := zw.2.1.1 f hf
  have bd : vp_in (nI f) 36 := vp_in_nI (by omega) (by omega)
  unfold wrm wrt at hS
  refine am_at hS (fun _ => false) 80 0 ?_
  refine ⟨bd, ?_⟩
  rw [nI_clamp (by omega), e1]
  refine ⟨bd, ?_⟩
  have eb : (nI m >>> (nI (sG σ f) &&& 31)) &&& 1 = bi (m.testBit (sG σ f)) := nI_bit (by omega) (by omega)
  rw [nI_clamp (by omega), e2, nI_bit (by omega) (by omega)]
  refine ⟨fun h20 => ?_, fun h20 => ?_⟩
  · have h20 : m.testBit (sL σ f) = m.testBit (sG σ f) := by rw [← bi_inj, ← eb]; exact h20
    rw [h20, show (m.testBit (sG σ f) == m.testBit (sG σ f)) = true from beq_self_eq_true _]
    refine ⟨bd, ?_⟩
    rw [nI_clamp (by omega), e3]
    refine ⟨fun h => ?_, fun h => ?_⟩
    · rw [decide_eq_true (show 0 < sS σ f from h)]
      exact ⟨fun q => absurd q (by decide), fun _ => ⟨rfl, rfl, rfl⟩⟩
    · rw [decide_eq_false (show ¬ 0 < sS σ f from h)]
      exact ⟨fun _ => ⟨rfl, rfl, rfl⟩, fun q => absurd rfl q⟩
  · have h20 : ¬ m.testBit (sL σ f) = m.testBit (sG σ f) := by rw [← bi_inj, ← eb]; exact h20
    rw [beq_eq_false_iff_ne.mpr h20]
    refine ⟨bd, ?_⟩
    rw [nI_clamp (by omega), e3]
    refine ⟨fun h => ?_, fun h => ?_⟩
    · rw [decide_eq_true (show 0 < sS σ f from h)]
      exact ⟨fun _ => ⟨rfl, rfl, rfl⟩, fun q => absurd rfl q⟩
    · rw [decide_eq_false (show ¬ 0 < sS σ f from h)]
      exact ⟨fun q => absurd q (by decide), fun _ => ⟨rfl, rfl, rfl⟩⟩

