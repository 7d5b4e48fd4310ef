/-! who hangs together: rounds -/
theorem cnt_range (Q : Nat → Bool) : ∀ (n : Nat), (List.range n).countP Q = cnt Q n
  | 0 => rfl
  | n + 1 => by
    rw [List.range_succ, List.countP_append, cnt_range Q n, cnt]
    cases h : Q n <;> simp [h]
theorem pcn_cnt (m : Nat) : pcn m = cnt (fun i => m.testBit i) 9 := cnt_range _ 9
theorem cnt_mono {Q R : Nat → Bool} : ∀ (n : Nat), (∀ i, i < n → Q i = true → R i = true) → cnt Q n ≤ cnt R n
  | 0, _ => Nat.le_refl _
  | n + 1, h => by
    have h1 := cnt_mono n (fun i hi => h i (by omega))
    have h2 := h n (by omega)
    rw [cnt, cnt]
    cases hq : Q n with
    | false => cases R n <;> simp only [cond_true, cond_false] <;> omega
    | true => rw [h2 hq]; simp only [cond_true]; omega
theorem cnt_lt {Q R : Nat → Bool} {x : Nat} : ∀ (n : Nat), (∀ i, i < n → Q i = true → R i = true) → x < n → R x = true → Q x = false → cnt Q n < cnt R n
  | 0, _, hx, _, _ => by omega
  | n + 1, h, hx, h1, h2 => by
    rw [cnt, cnt]
    by_cases e : x = n
    · subst e
      have := cnt_mono x (fun i hi => h i (by omega))
      rw [h1, h2]
      simp only [cond_true, cond_false]
      omega
    · have h3 := cnt_lt n (fun i hi => h i (by omega)) (by omega) h1 h2
      have h4 := h n (by omega)
      cases hq : Q n with
      | false => cases R n <;> simp only [cond_true, cond_false] <;> omega
      | true => rw [h4 hq]; simp only [cond_true]; omega
theorem bit_ext {x y : Nat} (hx : x < 512) (hy : y < 512) (h : ∀ i, i < 9 → x.testBit i = y.testBit i) : x = y := by
  apply Nat.eq_of_testBit_eq
  intro i
  by_cases hi : i < 9
  · exact h i hi
  · have e : (2 : Nat) ^ 9 ≤ 2 ^ i := Nat.pow_le_pow_right (by decide) (by omega)
    rw [Nat.testBit_lt_two_pow (Nat.lt_of_lt_of_le hx e), Nat.testBit_lt_two_pow (Nat.lt_of_lt_of_le hy e)]
theorem pcn_lt {x y : Nat} (hx : x < 512) (hy : y < 512) (h : ∀ i, x.testBit i = true → y.testBit i = true) (hne : ¬ x = y) : pcn x < pcn y := by
  rw [pcn_cnt, pcn_cnt]
  have hz : ∃ i, i < 9 ∧ ¬ x.testBit i = y.testBit i := by
    apply Classical.byContradiction
    intro q
    exact hne (bit_ext hx hy (fun i hi => Classical.byContradiction fun q2 => q ⟨i, hi, q2⟩))
  obtain ⟨i, hi, hd⟩ := hz
  have h2 := h i
  refine cnt_lt 9 (fun j _ => h j) hi ?_ ?_
  · show y.testBit i = true
    cases hx2 : x.testBit i with
    | true => exact h2 hx2
    | false =>
      cases hy2 : y.testBit i with
      | true => rfl
      | false => exact absurd (by rw [hx2, hy2]) hd
  · show x.testBit i = false
    cases hx2 : x.testBit i with
    | false => rfl
    | true => exact absurd (by rw [hx2, h2 hx2]) hd
theorem eb_lt {σ : St} (zw : wf σ) {f : Nat} (hf : f < sM σ) : eb σ f < 512 := by
  have h1 := zw.2.1.1 f hf
  have h9 := zw.1
  have e1 : (2 : Nat) ^ sL σ f < 2 ^ 9 := Nat.pow_lt_pow_right (by decide) (by omega)
  have e2 : (2 : Nat) ^ sG σ f < 2 ^ 9 := Nat.pow_lt_pow_right (by decide) (by omega)
  exact Nat.or_lt_two_pow e1 e2
/-- a round over the first FEELINGS -/
def rd1 (σ : St) (out x : Nat) : Nat → Nat
  | 0 => x
  | f + 1 => cond (decide (eb σ f &&& out = 0) && !decide (eb σ f &&& rd1 σ out x f = 0)) (rd1 σ out x f ||| eb σ f) (rd1 σ out x f)
theorem rd1_lt {σ : St} (zw : wf σ) {out x : Nat} (hx : x < 512) : ∀ f, f ≤ sM σ → rd1 σ out x f < 512
  | 0, _ => hx
  | f + 1, hf => by
    have h1 := rd1_lt zw (out := out) hx f (by omega)
    have h2 := eb_lt zw (f := f) (by omega)
    rw [rd1]
    cases (decide (eb σ f &&& out = 0) && !decide (eb σ f &&& rd1 σ out x f = 0)) with
    | false => exact h1
    | true => exact Nat.or_lt_two_pow (n := 9) h1 h2
theorem rd1_sub {σ : St} {out x i : Nat} (h : x.testBit i = true) : ∀ f, (rd1 σ out x f).testBit i = true
  | 0 => h
  | f + 1 => by
    have h1 := rd1_sub (σ := σ) (out := out) h f
    rw [rd1]
    cases (decide (eb σ f &&& out = 0) && !decide (eb σ f &&& rd1 σ out x f = 0)) with
    | false => exact h1
    | true => show (rd1 σ out x f ||| eb σ f).testBit i = true
              rw [Nat.testBit_or, h1]; rfl
def itn (σ : St) (out p : Nat) : Nat → Nat
  | 0 => 2 ^ p
  | i + 1 => rd1 σ out (itn σ out p i) (sM σ)
theorem itn_lt {σ : St} (zw : wf σ) {out p : Nat} (hp : p < 9) : ∀ i, itn σ out p i < 512
  | 0 => Nat.pow_lt_pow_right (n := 9) (by decide) hp
  | i + 1 => rd1_lt zw (itn_lt zw hp i) _ (Nat.le_refl _)
theorem itn_stay {σ : St} {out p i : Nat} (h : itn σ out p (i + 1) = itn σ out p i) : ∀ j, i ≤ j → itn σ out p j = itn σ out p i
  | 0, hj => by rw [show i = 0 by omega]
  | j + 1, hj => by
    by_cases e : i = j + 1
    · rw [e]
    · rw [itn, itn_stay h j (by omega)]
      exact h
theorem itn_grow {σ : St} (zw : wf σ) {out p : Nat} (hp : p < 9) : ∀ i, (∀ j, j < i → ¬ itn σ out p (j + 1) = itn σ out p j) → i ≤ pcn (itn σ out p i)
  | 0, _ => Nat.zero_le _
  | i + 1, h => by
    have h1 := itn_grow zw hp i (fun j hj => h j (by omega))
    have h2 := pcn_lt (itn_lt zw hp i) (itn_lt zw hp (i + 1)) (fun q hq => rd1_sub hq (sM σ)) (fun q => h i (by omega) q.symm)
    omega

