/-! who hangs together: both -/
theorem itn_9 {σ : St} (zw : wf σ) {out p : Nat} (hp : p < 9) : ∃ j, j ≤ 9 ∧ itn σ out p (j + 1) = itn σ out p j := by
  apply Classical.byContradiction
  intro q
  have h := itn_grow zw (out := out) hp 10 (fun j hj e => q ⟨j, by omega, e⟩)
  have := pcn_le (itn σ out p 10)
  omega
theorem itn_at {σ : St} (zw : wf σ) {out p i : Nat} (hp : p < 9) (h : itn σ out p (i + 1) = itn σ out p i) : itn σ out p i = itn σ out p 9 := by
  obtain ⟨j, hj, e⟩ := itn_9 zw (out := out) hp
  have h2 := itn_stay e 9 hj
  rcases Nat.le_total i 9 with q | q
  · exact (itn_stay h 9 q).symm
  · rw [h2]; exact itn_stay e i (by omega)
theorem itn_pos {σ : St} {out p : Nat} : ∀ i, ¬ itn σ out p i = 0 := by
  have key : ∀ i, (itn σ out p i).testBit p = true := by
    intro i
    induction i with
    | zero => exact Nat.testBit_two_pow_self
    | succ i ih => exact rd1_sub ih _
  intro i e
  have h := key i
  rw [e, Nat.zero_testBit] at h
  cases h
theorem r_reach {E : am_E} (zi : am_inj E) {k : Nat} (hk : 1 ≤ k) {σ : St} (zw : wf σ) {I : am_I} (zC : CS I σ) (w : Int64) {p o : Nat} (hp : p < 9) (ho : o < 512) :
    am_Ret E k Y_Net_reach [.ref 71, .int (nI p), .int (nI o)] I w (am_eq (some (.int (nI (itn σ o p 9)))) I w) := by
  refine am_intro (pv_Net_reach E k) (by decide) zi ?_ rfl rfl ?_
  · rintro _ _ _ ⟨rfl, -⟩; rfl
  intro S hS
  have h36 := sM_le zw
  have outer := down (P := fun i => ∀ la x6 x7, (la = 0 ∨ ∃ j, i = j + 1 ∧ la = itn σ o p j) → S 10 [some (.ref 71), some (.int (nI p)), some (.int (nI o)), some (.int (nI (itn σ o p i))), some (.int (nI la)), some (.int (nI i)), x6, x7] [] I w) 9 ?z ?s
  case z =>
    intro la x6 x7 _
    refine am_at hS (fun t => Nat.beq t 10) 80 10 ?_
    exact ⟨fun q => absurd q (nI_nlt (Nat.le_refl 9) (by decide)), fun _ => ⟨rfl, rfl, rfl⟩⟩
  case s =>
    intro i hi hn la x6 x7 hla
    have hx := itn_lt zw (out := o) hp i
    have hlt : la < 512 := by
      rcases hla with e | ⟨j, _, e⟩
      · omega
      · rw [e]; exact itn_lt zw hp j
    refine am_at hS (fun t => Nat.beq t 10 || Nat.beq t 29) 80 10 ?_
    refine ⟨fun _ => ?_, fun q => absurd (show nI i < nI 9 from nI_lt hi (by decide)) q⟩
    refine ⟨fun h => ?_, fun h => ?_⟩
    · rw [neq (by omega) (by omega)] at h
      refine ⟨?_, rfl, rfl⟩
      rcases hla with e | ⟨j, e1, e2⟩
      · exact absurd (h.trans e) (itn_pos i)
      · subst e1
        have e3 : itn σ o p (j + 1) = itn σ o p j := h.trans e2
        rw [e3, itn_at zw hp e3]
    · have inner := down (P := fun f => ∀ x7, S 29 [some (.ref 71), some (.int (nI p)), some (.int (nI o)), some (.int (nI (rd1 σ o (itn σ o p i) f))), some (.int (nI (itn σ o p i))), some (.int (nI i)), some (.int (nI f)), x7] [] I w) (sM σ) ?z2 ?s2
      case z2 =>
        intro x7
        refine am_at hS (fun t => Nat.beq t 10 || Nat.beq t 29) 80 29 ?_
        refine ⟨fun q => absurd q (by show ¬ nI (sM σ) < I 7 0; rw [zC.2.1]; exact nI_nlt (Nat.le_refl _) (by omega)), fun _ => ?_⟩
        have hgo := hn (itn σ o p i) (some (.int (nI (sM σ)))) x7 (Or.inr ⟨i, rfl, rfl⟩)
        rw [← nI_1] at hgo
        exact hgo
      case s2 =>
        intro f hf hgo x7
        have hr := rd1_lt zw (out := o) hx f (by omega)
        have he := eb_lt zw hf
        refine am_at hS (fun t => Nat.beq t 29) 80 29 ?_
        refine ⟨fun _ => ?_, fun q => absurd (show nI f < I 7 0 by rw [zC.2.1]; exact nI_lt hf (by omega)) q⟩
        refine ⟨_, _, (by omega : k - 1 < k), r_bitsOf zi zw zC w hf, am_elim ?_⟩
        have b1 : eb σ f &&& o < 512 := Nat.and_lt_two_pow (n := 9) _ ho
        have b2 : eb σ f &&& rd1 σ o (itn σ o p i) f < 512 := Nat.and_lt_two_pow (n := 9) _ hr
        rw [rd1, ← nI_1] at hgo
        refine ⟨fun h56 => ?_, fun h56 => ?_⟩
        · have h56 : eb σ f &&& o = 0 := by
            have q : nI (eb σ f) &&& nI o = nI 0 := h56
            rw [nI_and, neq (by omega) (by decide)] at q
            exact q
          refine ⟨fun h63 => ?_, fun h63 => ?_⟩
          · have h63 : eb σ f &&& rd1 σ o (itn σ o p i) f = 0 := by
              have q : nI (eb σ f) &&& nI (rd1 σ o (itn σ o p i) f) = nI 0 := h63
              rw [nI_and, neq (by omega) (by decide)] at q
              exact q
            have h2 := hgo (some (.int (nI (eb σ f))))
            rw [decide_eq_true h63, Bool.not_true, Bool.and_false] at h2
            exact h2
          · have h63 : ¬ eb σ f &&& rd1 σ o (itn σ o p i) f = 0 := by
              have q : ¬ nI (eb σ f) &&& nI (rd1 σ o (itn σ o p i) f) = nI 0 := h63
              rw [nI_and, neq (by omega) (by decide)] at q
              exact q
            have h2 := hgo (some (.int (nI (eb σ f))))
            rw [decide_eq_false h63, decide_eq_true h56, Bool.not_false, Bool.and_true, cond_true, ← nI_or] at h2
            exact h2
        · have h56 : ¬ eb σ f &&& o = 0 := by
            have q : ¬ nI (eb σ f) &&& nI o = nI 0 := h56
            rw [nI_and, neq (by omega) (by decide)] at q
            exact q
          have h2 := hgo (some (.int (nI (eb σ f))))
          rw [decide_eq_false h56, Bool.false_and] at h2
          exact h2
      exact inner 0 (Nat.zero_le _) x7
  have hgo := outer 0 (Nat.zero_le _) 0 none none (Or.inl rfl)
  rw [show nI (itn σ o p 0) = (1 : Int32) <<< (nI p &&& 31) from (nI_shl1 (by omega)).symm] at hgo
  exact am_at hS (fun t => Nat.beq t 10) 80 0 hgo

