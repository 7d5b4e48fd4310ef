/-! who hangs together: closed sets -/
def clo (σ : St) (out : Nat) (D : Nat → Prop) : Prop := ∀ f, f < sM σ → eb σ f &&& out = 0 → (D (sL σ f) ∨ D (sG σ f)) → D (sL σ f) ∧ D (sG σ f)
theorem eb_bit {σ : St} {f q : Nat} : (eb σ f).testBit q = true ↔ q = sL σ f ∨ q = sG σ f := by
  show (2 ^ sL σ f ||| 2 ^ sG σ f).testBit q = true ↔ _
  rw [Nat.testBit_or, Bool.or_eq_true, Nat.testBit_two_pow, Nat.testBit_two_pow, decide_eq_true_eq, decide_eq_true_eq]
  omega
theorem and_bit {x y : Nat} : ¬ x &&& y = 0 ↔ ∃ q, x.testBit q = true ∧ y.testBit q = true := by
  constructor
  · intro h
    apply Classical.byContradiction
    intro g
    apply h
    apply Nat.eq_of_testBit_eq
    intro q
    rw [Nat.testBit_and, Nat.zero_testBit]
    cases hx : x.testBit q with
    | false => rfl
    | true =>
      cases hy : y.testBit q with
      | false => rfl
      | true => exact absurd ⟨q, hx, hy⟩ g
  · rintro ⟨q, hx, hy⟩ h
    have := congrArg (fun z => z.testBit q) h
    simp only [Nat.testBit_and, hx, hy, Nat.zero_testBit] at this
    cases this
theorem eb_and {σ : St} {f y : Nat} : ¬ eb σ f &&& y = 0 ↔ (y.testBit (sL σ f) = true ∨ y.testBit (sG σ f) = true) := by
  rw [and_bit]
  constructor
  · rintro ⟨q, h1, h2⟩
    rcases eb_bit.mp h1 with e | e
    · left; rw [← e]; exact h2
    · right; rw [← e]; exact h2
  · rintro (h | h)
    · exact ⟨_, eb_bit.mpr (Or.inl rfl), h⟩
    · exact ⟨_, eb_bit.mpr (Or.inr rfl), h⟩
/-- least -/
theorem rd1_min {σ : St} {out x : Nat} {D : Nat → Prop} (hD : clo σ out D) (hx : ∀ q, x.testBit q = true → D q) : ∀ f, f ≤ sM σ → ∀ q, (rd1 σ out x f).testBit q = true → D q
  | 0, _, q, h => hx q h
  | f + 1, hf, q, h => by
    have ih := rd1_min hD hx f (by omega)
    rw [rd1] at h
    by_cases g : eb σ f &&& out = 0 ∧ ¬ eb σ f &&& rd1 σ out x f = 0
    · rw [decide_eq_true g.1, decide_eq_false g.2, Bool.not_false, Bool.and_true, cond_true, Nat.testBit_or, Bool.or_eq_true] at h
      rcases h with h | h
      · exact ih q h
      · have h2 := eb_and.mp g.2
        have h3 := hD f (by omega) g.1 (h2.elim (fun z => Or.inl (ih _ z)) (fun z => Or.inr (ih _ z)))
        rcases eb_bit.mp h with e | e
        · rw [e]; exact h3.1
        · rw [e]; exact h3.2
    · have e : (decide (eb σ f &&& out = 0) && !decide (eb σ f &&& rd1 σ out x f = 0)) = false := by
        rw [← decide_not, ← Bool.decide_and]
        exact decide_eq_false g
      rw [e] at h
      exact ih q h
theorem itn_min {σ : St} {out p : Nat} {D : Nat → Prop} (hD : clo σ out D) (hp : D p) : ∀ i q, (itn σ out p i).testBit q = true → D q
  | 0, q, h => by
    rw [itn, Nat.testBit_two_pow, decide_eq_true_eq] at h
    rw [← h]; exact hp
  | i + 1, q, h => rd1_min hD (fun x hx => itn_min hD hp i x hx) (sM σ) (Nat.le_refl _) q h
theorem rd1_mono {σ : St} {out x q : Nat} : ∀ {f g : Nat}, f ≤ g → (rd1 σ out x f).testBit q = true → (rd1 σ out x g).testBit q = true := by
  intro f g hfg h
  induction g with
  | zero => rw [show f = 0 by omega] at h; exact h
  | succ g ih =>
    by_cases e : f = g + 1
    · rw [← e]; exact h
    · have h1 := ih (by omega)
      rw [rd1]
      cases (decide (eb σ g &&& out = 0) && !decide (eb σ g &&& rd1 σ out x g = 0)) with
      | false => exact h1
      | true => show (rd1 σ out x g ||| eb σ g).testBit q = true
                rw [Nat.testBit_or, h1]; rfl
/-- closed -/
theorem rd1_clo {σ : St} {out x : Nat} (h : rd1 σ out x (sM σ) = x) : clo σ out (fun q => x.testBit q = true) := by
  intro f hf ho ht
  have e : ¬ eb σ f &&& rd1 σ out x f = 0 := eb_and.mpr (ht.elim (fun z => Or.inl (rd1_mono (Nat.zero_le f) z)) (fun z => Or.inr (rd1_mono (Nat.zero_le f) z)))
  have h2 : rd1 σ out x (f + 1) = rd1 σ out x f ||| eb σ f := by
    rw [rd1, decide_eq_true ho, decide_eq_false e]
    rfl
  have h3 : ∀ q, (eb σ f).testBit q = true → x.testBit q = true := fun q hq => by
    have h4 := rd1_mono (σ := σ) (out := out) (x := x) (q := q) (show f + 1 ≤ sM σ from hf) (by rw [h2, Nat.testBit_or, hq, Bool.or_true])
    rw [h] at h4
    exact h4
  exact ⟨h3 _ (eb_bit.mpr (Or.inl rfl)), h3 _ (eb_bit.mpr (Or.inr rfl))⟩
/-- the PART of one without some -/
def prt (σ : St) (out p q : Nat) : Prop := (itn σ out p 9).testBit q = true
theorem prt_self {σ : St} {out p : Nat} : prt σ out p p := itn_self 9
theorem prt_clo {σ : St} (zw : wf σ) {out p : Nat} (hp : p < 9) : clo σ out (prt σ out p) := rd1_clo (itn_10 zw hp)
theorem prt_min {σ : St} {out p : Nat} {D : Nat → Prop} (hD : clo σ out D) (hp : D p) {q : Nat} (h : prt σ out p q) : D q := itn_min hD hp 9 q h
theorem prt_lt {σ : St} (zw : wf σ) {out p q : Nat} (hp : p < 9) (h : prt σ out p q) : q < 9 := by
  rcases Nat.lt_or_ge q 9 with g | g
  · exact g
  · have e : (2 : Nat) ^ 9 ≤ 2 ^ q := Nat.pow_le_pow_right (by decide) g
    unfold prt at h
    rw [Nat.testBit_lt_two_pow (Nat.lt_of_lt_of_le (itn_lt zw hp 9) e)] at h
    cases h
theorem prt_trans {σ : St} (zw : wf σ) {out p q x : Nat} (hp : p < 9) (h : prt σ out p q) (h2 : prt σ out q x) : prt σ out p x := prt_min (prt_clo zw hp) h h2
theorem prt_symm {σ : St} (zw : wf σ) {out p q : Nat} (hp : p < 9) (h : prt σ out p q) : prt σ out q p := by
  apply Classical.byContradiction
  intro hn
  have hq := prt_lt zw hp h
  have hD : clo σ out (fun x => prt σ out p x ∧ ¬ prt σ out q x) := by
    intro f hf ho ht
    have h1 := prt_clo zw (out := out) hp f hf ho (ht.elim (fun z => Or.inl z.1) (fun z => Or.inr z.1))
    have h2 : ¬ (prt σ out q (sL σ f) ∨ prt σ out q (sG σ f)) := fun z => by
      have h3 := prt_clo zw (out := out) hq f hf ho z
      exact ht.elim (fun y => y.2 h3.1) (fun y => y.2 h3.2)
    exact ⟨⟨h1.1, fun z => h2 (Or.inl z)⟩, ⟨h1.2, fun z => h2 (Or.inr z)⟩⟩
  exact (prt_min hD ⟨prt_self, hn⟩ h).2 prt_self
theorem prt_eq {σ : St} (zw : wf σ) {out p q : Nat} (hp : p < 9) (h : prt σ out p q) : itn σ out p 9 = itn σ out q 9 := by
  have hq := prt_lt zw hp h
  refine bit_ext (itn_lt zw hp 9) (itn_lt zw hq 9) (fun i _ => ?_)
  have h1 : prt σ out p i → prt σ out q i := fun z => prt_trans zw hq (prt_symm zw hp h) z
  have h2 : prt σ out q i → prt σ out p i := fun z => prt_trans zw hp h z
  unfold prt at h1 h2
  cases e1 : (itn σ out p 9).testBit i with
  | true => exact (h1 e1).symm
  | false =>
    cases e2 : (itn σ out q 9).testBit i with
    | false => rfl
    | true => rw [h2 e2] at e1; cases e1

