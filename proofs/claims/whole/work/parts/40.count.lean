/-! how many PARTS without some -/
def cwo (σ : St) (o : Nat) : Nat → Nat × Nat
  | 0 => (o, 0)
  | p + 1 => cond ((cwo σ o p).1.testBit p) (cwo σ o p) ((cwo σ o p).1 ||| itn σ o p 9, (cwo σ o p).2 + 1)
/-- the least of its PART, and not out -/
def rep (σ : St) (o p : Nat) : Bool := !o.testBit p && decide (lb (itn σ o p 9) = p)
theorem out_clo {σ : St} {o : Nat} : clo σ o (fun q => o.testBit q = false) := by
  intro f _ h _
  have key : ∀ q, (eb σ f).testBit q = true → o.testBit q = false := fun q hq => by
    have h2 := congrArg (fun z => z.testBit q) h
    simp only [Nat.testBit_and, hq, Nat.zero_testBit, Bool.true_and] at h2
    exact h2
  exact ⟨key _ (eb_bit.mpr (Or.inl rfl)), key _ (eb_bit.mpr (Or.inr rfl))⟩
theorem prt_out {σ : St} {o p q : Nat} (hp : o.testBit p = false) (h : prt σ o p q) : o.testBit q = false := prt_min (D := fun q => o.testBit q = false) out_clo hp h
theorem prt_lb {σ : St} (zw : wf σ) {o p : Nat} (hp : p < 9) : prt σ o p (lb (itn σ o p 9)) ∧ lb (itn σ o p 9) ≤ p ∧ ∀ q, q < lb (itn σ o p 9) → ¬ prt σ o p q := by
  have hx := itn_lt zw (out := o) hp 9
  obtain ⟨b1, b2, b3⟩ := lb_of hx (itn_pos 9)
  exact ⟨b1, lb_le hx (itn_self 9), fun q hq h => by rw [prt, b3 q hq] at h; cases h⟩
theorem cwo_spec {σ : St} (zw : wf σ) {o : Nat} : ∀ p, p ≤ 9 → (∀ q, (cwo σ o p).1.testBit q = true ↔ (o.testBit q = true ∨ ∃ r, r < p ∧ o.testBit r = false ∧ prt σ o r q)) ∧ (cwo σ o p).2 = cnt (rep σ o) p
  | 0, _ => ⟨fun q => ⟨fun h => Or.inl h, fun h => h.elim id (fun ⟨r, hr, _⟩ => absurd hr (by omega))⟩, rfl⟩
  | p + 1, hp => by
    obtain ⟨ih1, ih2⟩ := cwo_spec zw (o := o) p (by omega)
    obtain ⟨l1, l2, l3⟩ := prt_lb zw (o := o) (p := p) (by omega)
    cases hs : (cwo σ o p).1.testBit p with
    | true =>
      have e : cwo σ o (p + 1) = cwo σ o p := by rw [cwo, hs]; rfl
      rw [e]
      refine ⟨fun q => ?_, ?_⟩
      · rw [ih1 q]
        constructor
        · rintro (h | ⟨r, h1, h2, h3⟩)
          · exact Or.inl h
          · exact Or.inr ⟨r, by omega, h2, h3⟩
        · rintro (h | ⟨r, h1, h2, h3⟩)
          · exact Or.inl h
          · by_cases er : r = p
            · subst er
              rcases (ih1 r).mp hs with g | ⟨x, g1, g2, g3⟩
              · rw [g] at h2; cases h2
              · exact Or.inr ⟨x, g1, g2, prt_trans zw (by omega) g3 h3⟩
            · exact Or.inr ⟨r, by omega, h2, h3⟩
      · rw [ih2, cnt]
        have e2 : rep σ o p = false := by
          unfold rep
          rcases (ih1 p).mp hs with g | ⟨x, g1, g2, g3⟩
          · rw [g]; rfl
          · rw [decide_eq_false (fun q => l3 x (by omega) (prt_symm zw (by omega) g3)), Bool.and_false]
        rw [e2]; rfl
    | false =>
      have e : cwo σ o (p + 1) = ((cwo σ o p).1 ||| itn σ o p 9, (cwo σ o p).2 + 1) := by rw [cwo, hs]; rfl
      have hn : ¬ (o.testBit p = true ∨ ∃ r, r < p ∧ o.testBit r = false ∧ prt σ o r p) := fun z => by rw [(ih1 p).mpr z] at hs; cases hs
      have ho : o.testBit p = false := by
        cases ho : o.testBit p with
        | false => rfl
        | true => exact absurd (Or.inl ho) hn
      rw [e]
      refine ⟨fun q => ?_, ?_⟩
      · show ((cwo σ o p).1 ||| itn σ o p 9).testBit q = true ↔ _
        rw [Nat.testBit_or, Bool.or_eq_true, ih1 q]
        constructor
        · rintro ((h | ⟨r, h1, h2, h3⟩) | h)
          · exact Or.inl h
          · exact Or.inr ⟨r, by omega, h2, h3⟩
          · exact Or.inr ⟨p, by omega, ho, h⟩
        · rintro (h | ⟨r, h1, h2, h3⟩)
          · exact Or.inl (Or.inl h)
          · by_cases er : r = p
            · subst er; exact Or.inr h3
            · exact Or.inl (Or.inr ⟨r, by omega, h2, h3⟩)
      · show (cwo σ o p).2 + 1 = cnt (rep σ o) (p + 1)
        rw [ih2, cnt]
        have e2 : rep σ o p = true := by
          unfold rep
          rw [ho, Bool.not_false, Bool.true_and, decide_eq_true_eq]
          apply Classical.byContradiction
          intro hne
          exact hn (Or.inr ⟨_, by omega, prt_out ho l1, prt_symm zw (by omega) l1⟩)
        rw [e2]; rfl
theorem cwo_lt {σ : St} (zw : wf σ) {o : Nat} (ho : o < 512) : ∀ p, p ≤ 9 → (cwo σ o p).1 < 512 ∧ (cwo σ o p).2 ≤ p
  | 0, _ => ⟨ho, Nat.le_refl _⟩
  | p + 1, hp => by
    obtain ⟨h1, h2⟩ := cwo_lt zw ho p (by omega)
    rw [cwo]
    cases (cwo σ o p).1.testBit p with
    | true => exact ⟨h1, by show (cwo σ o p).2 ≤ p + 1; omega⟩
    | false => exact ⟨Nat.or_lt_two_pow (n := 9) h1 (itn_lt zw (by omega) 9), by show (cwo σ o p).2 + 1 ≤ p + 1; omega⟩
theorem r_countWithout {E : am_E} (zi : am_inj E) {k : Nat} (hk : 2 ≤ k) {σ : St} (zw : wf σ) {I : am_I} (zC : CS I σ) (w : Int64) {o : Nat} (ho : o < 512) :
    am_Ret E k Y_Net_countWithout [.ref 71, .int (nI o)] I w (am_eq (some (.int (nI (cnt (rep σ o) (sN σ))))) I w) := by
  refine am_intro (pv_Net_countWithout E k) (by decide) zi ?_ rfl rfl ?_
  · rintro _ _ _ ⟨rfl, -⟩; rfl
  intro S hS
  have h9 := zw.1
  rw [← (cwo_spec zw (o := o) (sN σ) h9).2] at hS
  have loop := down (P := fun p => S 7 [some (.ref 71), some (.int (nI o)), some (.int (nI (cwo σ o p).1)), some (.int (nI (cwo σ o p).2)), some (.int (nI p))] [] I w) (sN σ) ?z ?s
  case z =>
    refine am_at hS (fun t => Nat.beq t 7) 80 7 ?_
    exact ⟨fun q => absurd q (by show ¬ nI (sN σ) < I 1 0; rw [zC.1.1]; exact nI_nlt (Nat.le_refl _) (by omega)), fun _ => ⟨rfl, rfl, rfl⟩⟩
  case s =>
    intro p hp hn
    obtain ⟨c1, c2⟩ := cwo_lt zw ho p (by omega)
    have eb : (nI (cwo σ o p).1 >>> (nI p &&& 31)) &&& 1 = bi ((cwo σ o p).1.testBit p) := nI_bit (by omega) (by omega)
    refine am_at hS (fun t => Nat.beq t 7) 80 7 ?_
    refine ⟨fun _ => ?_, fun q => absurd (show nI p < I 1 0 by rw [zC.1.1]; exact nI_lt hp (by omega)) q⟩
    rw [cwo, ← nI_1 p] at hn
    refine ⟨fun h => ?_, fun h => ?_⟩
    · have hb : (cwo σ o p).1.testBit p = false := by
        have h2 : (nI (cwo σ o p).1 >>> (nI p &&& 31)) &&& 1 = 0 := h
        rw [eb, bi_eq0] at h2
        exact h2
      refine ⟨_, _, (by omega : k - 1 < k), r_reach zi (by omega) zw zC w (p := p) (by omega) ho, am_elim ?_⟩
      rw [hb, cond_false, ← nI_or, ← nI_1] at hn
      exact hn
    · have hb : (cwo σ o p).1.testBit p = true := by
        have h2 : ¬ (nI (cwo σ o p).1 >>> (nI p &&& 31)) &&& 1 = 0 := h
        rw [eb, bi_eq0, Bool.not_eq_false] at h2
        exact h2
      rw [hb] at hn
      exact hn
  exact am_at hS (fun t => Nat.beq t 7) 80 0 (loop 0 (Nat.zero_le _))

