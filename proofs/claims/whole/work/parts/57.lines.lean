/-! a STREET's LINES; the class reads them -/
def lsI (n : Nat) (b : Nat → Nat) (N p : Nat) : Bool := decide (p < n ∧ 97 ≤ b p ∧ b p < 97 + N)
def lsP (n : Nat) (b : Nat → Nat) (N : Nat) (but : Option Nat) (s : Bool × Nat) : Nat × Bool × Nat := cond (s.1 && (lsI n b N s.2 && !decide (but = some (b s.2 - 97)))) (b s.2 - 97, true, s.2 + 1) (0, false, s.2)
def lsM (n : Nat) (b : Nat → Nat) (c : Nat) (s : Bool × Nat) : Bool × Bool × Nat := cond (s.1 && decide (s.2 < n ∧ b s.2 = c)) (true, true, s.2 + 1) (false, s.1, s.2)
def lsS (n : Nat) (b : Nat → Nat) (s : Bool × Nat) : Nat × Bool × Nat := cond (s.1 && isD n b s.2) (cond (isD n b (s.2 + 1) && (decide (48 < b s.2) || decide (48 < b (s.2 + 1)))) ((b s.2 - 48) * 10 + (b (s.2 + 1) - 48), true, s.2 + 2) (b s.2 - 48, decide (48 < b s.2), s.2 + 1)) (0, false, s.2)
/-- a sign: whether +; the two -/
def lsG (n : Nat) (b : Nat → Nat) (s : Bool × Nat) : Bool × Bool × Nat := ((lsM n b 43 s).1, cond (lsM n b 43 s).1 (lsM n b 43 s).2 (cond (lsM n b 45 s).1 (lsM n b 45 s).2 (false, s.2)))
def lsE (n : Nat) (b : Nat → Nat) (s : Bool × Nat) : Bool × Nat := cond (lsM n b 59 s).1 (lsM n b 59 s).2 (false, s.2)
abbrev LD : Type := (Nat × Nat) × Bool × Nat × Bool × Bool
def lnA (n : Nat) (b : Nat → Nat) (N : Nat) (s : Bool × Nat) : Nat × Bool × Nat := lsP n b N none s
def lnG (n : Nat) (b : Nat → Nat) (N : Nat) (s : Bool × Nat) : Bool × Bool × Nat := lsG n b (lnA n b N s).2
def lnB (n : Nat) (b : Nat → Nat) (N : Nat) (s : Bool × Nat) : Nat × Bool × Nat := lsP n b N (some (lnA n b N s).1) (lnG n b N s).2
def lnV (n : Nat) (b : Nat → Nat) (N : Nat) (s : Bool × Nat) : Nat × Bool × Nat := lsS n b (lnB n b N s).2
def lnK (n : Nat) (b : Nat → Nat) (N : Nat) (s : Bool × Nat) : Bool × Bool × Nat := lsM n b 107 (lnV n b N s).2
def lnX (n : Nat) (b : Nat → Nat) (N : Nat) (s : Bool × Nat) : Bool × Bool × Nat := lsM n b 33 (lnK n b N s).2
def lnE (n : Nat) (b : Nat → Nat) (N : Nat) (s : Bool × Nat) : Bool × Nat := lsE n b (lnX n b N s).2
theorem lsP_f {n : Nat} {b : Nat → Nat} {N : Nat} {but : Option Nat} {s : Bool × Nat} (h : s.1 = false) : lsP n b N but s = (0, false, s.2) := by unfold lsP; rw [h]; rfl
theorem lsM_f {n : Nat} {b : Nat → Nat} {c : Nat} {s : Bool × Nat} (h : s.1 = false) : lsM n b c s = (false, false, s.2) := by unfold lsM; rw [h]; rfl
theorem lsS_f {n : Nat} {b : Nat → Nat} {s : Bool × Nat} (h : s.1 = false) : lsS n b s = (0, false, s.2) := by unfold lsS; rw [h]; rfl
theorem lsG_f {n : Nat} {b : Nat → Nat} {s : Bool × Nat} (h : s.1 = false) : (lsG n b s).2 = (false, s.2) := by unfold lsG; rw [lsM_f h, lsM_f h]; rfl
theorem lsE_f {n : Nat} {b : Nat → Nat} {s : Bool × Nat} (h : s.1 = false) : lsE n b s = (false, s.2) := by unfold lsE; rw [lsM_f h]; rfl
section LN
variable {n : Nat} {b : Nat → Nat} {N : Nat} {s : Bool × Nat}
theorem fE_X (h : (lnX n b N s).2.1 = false) : lnE n b N s = (false, (lnX n b N s).2.2) := lsE_f h
theorem fE_K (h : (lnK n b N s).2.1 = false) : lnE n b N s = (false, (lnK n b N s).2.2) := by
  have e : lnX n b N s = (false, false, (lnK n b N s).2.2) := lsM_f h
  rw [fE_X (by rw [e]), e]
theorem fE_V (h : (lnV n b N s).2.1 = false) : lnE n b N s = (false, (lnV n b N s).2.2) := by
  have e : lnK n b N s = (false, false, (lnV n b N s).2.2) := lsM_f h
  rw [fE_K (by rw [e]), e]
theorem fE_B (h : (lnB n b N s).2.1 = false) : lnE n b N s = (false, (lnB n b N s).2.2) := by
  have e : lnV n b N s = (0, false, (lnB n b N s).2.2) := lsS_f h
  rw [fE_V (by rw [e]), e]
theorem fE_G (h : (lnG n b N s).2.1 = false) : lnE n b N s = (false, (lnG n b N s).2.2) := by
  have e : lnB n b N s = (0, false, (lnG n b N s).2.2) := lsP_f h
  rw [fE_B (by rw [e]), e]
theorem fE_A (h : (lnA n b N s).2.1 = false) : lnE n b N s = (false, (lnA n b N s).2.2) := by
  have e : (lnG n b N s).2 = (false, (lnA n b N s).2.2) := lsG_f h
  rw [fE_G (by rw [e]), e]
theorem lsP_t {but : Option Nat} (h : (lsP n b N but s).2.1 = true) : s.1 = true ∧ (lsP n b N but s).1 < N ∧ (lsP n b N but s).2.2 = s.2 + 1 ∧ s.2 < n ∧ ¬ but = some (lsP n b N but s).1 := by
  unfold lsP at h ⊢
  cases hc : (s.1 && (lsI n b N s.2 && !decide (but = some (b s.2 - 97)))) with
  | false => rw [hc] at h; cases h
  | true =>
    rw [cond_true]
    simp only [Bool.and_eq_true, Bool.not_eq_true', decide_eq_false_iff_not] at hc
    obtain ⟨h1, h2, h3⟩ := hc
    have h4 := of_decide_eq_true h2
    exact ⟨h1, by show b s.2 - 97 < N; omega, rfl, h4.1, h3⟩
theorem lsM_t {c : Nat} (h : (lsM n b c s).1 = true) : s.1 = true ∧ (lsM n b c s).2 = (true, s.2 + 1) ∧ s.2 < n := by
  unfold lsM at h ⊢
  cases hc : (s.1 && decide (s.2 < n ∧ b s.2 = c)) with
  | false => rw [hc] at h; cases h
  | true =>
    rw [Bool.and_eq_true, decide_eq_true_eq] at hc
    exact ⟨hc.1, rfl, hc.2.1⟩
theorem lsM_n {c : Nat} (h : (lsM n b c s).1 = false) : (lsM n b c s).2 = s := by
  unfold lsM at h ⊢
  cases hc : (s.1 && decide (s.2 < n ∧ b s.2 = c)) with
  | true => rw [hc] at h; cases h
  | false => rfl
theorem lsM_b {c : Nat} (h : (lsM n b c s).2.1 = true) : s.1 = true ∧ s.2 ≤ (lsM n b c s).2.2 ∧ (s.2 ≤ n → (lsM n b c s).2.2 ≤ n) := by
  cases hc : (lsM n b c s).1 with
  | true =>
    obtain ⟨a1, a2, a3⟩ := lsM_t hc
    rw [a2]
    exact ⟨a1, Nat.le_succ _, fun _ => a3⟩
  | false =>
    have e := lsM_n hc
    rw [e] at h
    rw [e]
    exact ⟨h, Nat.le_refl _, fun q => q⟩
theorem lsG_t (h : (lsG n b s).2.1 = true) : s.1 = true ∧ (lsG n b s).2.2 = s.2 + 1 ∧ s.2 < n := by
  unfold lsG at h ⊢
  cases h1 : (lsM n b 43 s).1 with
  | true =>
    obtain ⟨a1, a2, a3⟩ := lsM_t h1
    rw [cond_true, a2]
    exact ⟨a1, rfl, a3⟩
  | false =>
    rw [h1, cond_false] at h
    rw [cond_false]
    cases h2 : (lsM n b 45 s).1 with
    | true =>
      obtain ⟨a1, a2, a3⟩ := lsM_t h2
      rw [cond_true, a2]
      exact ⟨a1, rfl, a3⟩
    | false => rw [h2] at h; cases h
theorem lsS_t (h : (lsS n b s).2.1 = true) : s.1 = true ∧ s.2 < (lsS n b s).2.2 ∧ (lsS n b s).2.2 ≤ n ∧ 1 ≤ (lsS n b s).1 ∧ (lsS n b s).1 ≤ 99 := by
  unfold lsS at h ⊢
  cases h1 : (s.1 && isD n b s.2) with
  | false => rw [h1] at h; cases h
  | true =>
    rw [h1, cond_true] at h
    rw [cond_true]
    rw [Bool.and_eq_true] at h1
    have d1 := of_decide_eq_true h1.2
    cases h2 : (isD n b (s.2 + 1) && (decide (48 < b s.2) || decide (48 < b (s.2 + 1)))) with
    | true =>
      rw [cond_true]
      rw [Bool.and_eq_true, Bool.or_eq_true, decide_eq_true_eq, decide_eq_true_eq] at h2
      have d2 := of_decide_eq_true h2.1
      refine ⟨h1.1, by show s.2 < s.2 + 2; omega, by show s.2 + 2 ≤ n; omega, ?_, ?_⟩
      · show 1 ≤ (b s.2 - 48) * 10 + (b (s.2 + 1) - 48)
        omega
      · show (b s.2 - 48) * 10 + (b (s.2 + 1) - 48) ≤ 99
        omega
    | false =>
      rw [h2, cond_false] at h
      rw [cond_false]
      have d3 := of_decide_eq_true h
      exact ⟨h1.1, by show s.2 < s.2 + 1; omega, by show s.2 + 1 ≤ n; omega, by show 1 ≤ b s.2 - 48; omega, by show b s.2 - 48 ≤ 99; omega⟩
theorem lsE_t (h : (lsE n b s).1 = true) : s.1 = true ∧ (lsE n b s).2 = s.2 + 1 ∧ s.2 < n := by
  unfold lsE at h ⊢
  cases h1 : (lsM n b 59 s).1 with
  | true =>
    obtain ⟨a1, a2, a3⟩ := lsM_t h1
    rw [cond_true, a2]
    exact ⟨a1, rfl, a3⟩
  | false => rw [h1] at h; cases h
/-- of a LINE that is one -/
theorem ln_t (h : (lnE n b N s).1 = true) : (lnA n b N s).1 < N ∧ (lnB n b N s).1 < N ∧ ¬ (lnA n b N s).1 = (lnB n b N s).1 ∧ (1 ≤ (lnV n b N s).1 ∧ (lnV n b N s).1 ≤ 99) ∧ s.2 < (lnE n b N s).2 ∧ (lnE n b N s).2 ≤ n := by
  obtain ⟨e1, e2, e3⟩ := lsE_t h
  obtain ⟨x1, x2, x3⟩ := lsM_b (c := 33) e1
  obtain ⟨k1, k2, k3⟩ := lsM_b (c := 107) x1
  obtain ⟨v1, v2, v3, v4, v5⟩ := lsS_t k1
  obtain ⟨b1, b2, b3, b4, b5⟩ := lsP_t v1
  obtain ⟨g1, g2, g3⟩ := lsG_t b1
  obtain ⟨a1, a2, a3, a4, a5⟩ := lsP_t g1
  have q1 : (lnA n b N s).2.2 = s.2 + 1 := a3
  have q2 : (lnG n b N s).2.2 = (lnA n b N s).2.2 + 1 := g2
  have q3 : (lnB n b N s).2.2 = (lnG n b N s).2.2 + 1 := b3
  have q4 : (lnB n b N s).2.2 < (lnV n b N s).2.2 := v2
  have q5 : (lnV n b N s).2.2 ≤ (lnK n b N s).2.2 := k2
  have q6 : (lnK n b N s).2.2 ≤ (lnX n b N s).2.2 := x2
  have q7 : (lnE n b N s).2 = (lnX n b N s).2.2 + 1 := e2
  have q8 : (lnX n b N s).2.2 < n := e3
  exact ⟨a2, b2, fun z => b5 (congrArg some z), ⟨v4, v5⟩, by omega, by omega⟩
end LN
theorem am_up_id {I : am_I} {q j : Nat} {v : Int32} (h : I q j = v) : am_up I q j v = I := by
  funext x i
  unfold am_up
  by_cases h1 : x = q
  · subst h1
    rw [if_pos rfl]
    by_cases h2 : i = j
    · subst h2
      rw [if_pos rfl, h]
    · rw [if_neg h2]
  · rw [if_neg h1]
theorem inb_p {n : Nat} {b : Nat → Nat} (zt : wft n b) {N p : Nat} (hN : N ≤ 9) : inb (tat n b p - 97) N = lsI n b N p := by
  unfold inb lsI
  rw [← Bool.decide_and]
  apply decide_eq_decide.mpr
  by_cases h : p < n
  · have hb := zt.2 p h
    have e : (tat n b p - 97).toInt = (b p : Int) - 97 := by rw [tat_in h, show (97 : Int32) = nI 97 from rfl, pk_sub_toInt (by omega) (by decide)]; rfl
    rw [e]
    omega
  · rw [tat_out (by omega), show ((-1 : Int32) - 97).toInt = -98 from by decide]
    omega
theorem tat_P {n : Nat} {b : Nat → Nat} {N p : Nat} (h : lsI n b N p = true) : tat n b p - 97 = nI (b p - 97) := by
  have h1 := of_decide_eq_true h
  rw [tat_in h1.1, show (97 : Int32) = nI 97 from rfl, pk_sub h1.2.1]
section CLN
variable {n : Nat} {b : Nat → Nat} {N : Nat}
theorem r_srSkip {E : am_E} (zi : am_inj E) {k : Nat} (hk : 1 ≤ k) (zt : wft n b) {I : am_I} (zT : tC I n b) (w : Int64) {p c : Nat} (hp : p ≤ n) (h3 : I 47 3 = nI p) (hc : c < 1000) : am_Ret E k Y_StreetReader_skip [.ref 47, .int (nI c)] I w (am_eq (some (.int (bi (lsM n b c (true, p)).1))) (am_up I 47 3 (nI (lsM n b c (true, p)).2.2)) w) := by
  refine am_intro (pv_StreetReader_skip E k) (by decide) zi ?_ rfl rfl ?_
  · rintro _ _ _ ⟨rfl, -⟩; exact bi_nr _
  intro S hS
  have h16 := zt.1
  unfold lsM at hS
  refine am_at hS (fun _ => false) 60 0 ?_
  refine ⟨_, _, (by omega : k - 1 < k), (by rw [h3]; exact r_at zi zt zT w (by omega)), am_elim ?_⟩
  refine ⟨fun h => ?_, fun h => ?_⟩
  · rw [tat_eq zt (by omega)] at h
    have e : (true && decide (p < n ∧ b p = c)) = true := by rw [decide_eq_true h]; rfl
    rw [show ((true, p) : Bool × Nat).1 = true from rfl, show ((true, p) : Bool × Nat).2 = p from rfl, e]
    exact ⟨rfl, by rw [h3, nI_1]; rfl, rfl⟩
  · rw [tat_eq zt (by omega)] at h
    have e : (true && decide (p < n ∧ b p = c)) = false := by rw [decide_eq_false h]; rfl
    rw [show ((true, p) : Bool × Nat).1 = true from rfl, show ((true, p) : Bool × Nat).2 = p from rfl, e]
    exact ⟨rfl, (am_up_id h3).symm, rfl⟩
theorem r_srPerson {E : am_E} (zi : am_inj E) {k : Nat} (hk : 1 ≤ k) (zt : wft n b) {I : am_I} (zT : tC I n b) (w : Int64) {p : Nat} (hp : p ≤ n) (h3 : I 47 3 = nI p) (hN : N ≤ 9) (h1 : I 1 0 = nI N) (but : Option Nat) (hbut : ∀ a, but = some a → a < 9) : am_Ret E k Y_StreetReader_readPerson [.ref 47, .int (enc but)] I w (am_eq (some (.int (cond (lsP n b N but (true, p)).2.1 (nI (lsP n b N but (true, p)).1) (-1)))) (am_up I 47 3 (nI (lsP n b N but (true, p)).2.2)) w) := by
  refine am_intro (pv_StreetReader_readPerson E k) (by decide) zi ?_ rfl rfl ?_
  · rintro _ _ _ ⟨rfl, -⟩; rfl
  intro S hS
  have h16 := zt.1
  refine am_at hS (fun _ => false) 60 0 ?_
  refine ⟨_, _, (by omega : k - 1 < k), (by rw [h3]; exact r_at zi zt zT w (by omega)), am_elim ?_⟩
  refine ⟨_, _, (by omega : k - 1 < k), r_hasP zi (by omega) (tat n b p - 97) I w h1, am_elim ?_⟩
  have no : (lsI n b N p && !decide (but = some (b p - 97))) = false → some (Value.int (-1)) = some (.int (cond (lsP n b N but (true, p)).2.1 (nI (lsP n b N but (true, p)).1) (-1))) ∧ I = am_up I 47 3 (nI (lsP n b N but (true, p)).2.2) ∧ w = w := fun h => by
    have e : lsP n b N but (true, p) = (0, false, p) := by
      unfold lsP
      rw [show ((true, p) : Bool × Nat).2 = p from rfl, h]
      rfl
    rw [e]
    exact ⟨rfl, (am_up_id h3).symm, rfl⟩
  rw [inb_p zt hN]
  refine ⟨fun h => ?_, fun h => ?_⟩
  · rw [bi_eq0] at h
    exact no (by rw [h]; rfl)
  rw [bi_eq0, Bool.not_eq_false] at h
  have hP := of_decide_eq_true h
  rw [tat_P h]
  have en : (nI (b p - 97) = enc but) = (but = some (b p - 97)) := by
    apply propext
    cases but with
    | none => exact ⟨fun q => absurd q (nI_ne1 (by omega)), fun q => by cases q⟩
    | some a =>
      have ha := hbut a rfl
      show (nI (b p - 97) = nI a) ↔ _
      rw [neq (by omega) (by omega)]
      exact ⟨fun q => by rw [q], fun q => by cases q; rfl⟩
  refine ⟨fun h28 => ?_, fun h28 => ?_⟩
  · rw [en] at h28
    exact no (by rw [decide_eq_true h28, Bool.not_true, Bool.and_false])
  · rw [en] at h28
    have e : lsP n b N but (true, p) = (b p - 97, true, p + 1) := by
      unfold lsP
      rw [show ((true, p) : Bool × Nat).2 = p from rfl, h, decide_eq_false h28]
      rfl
    rw [e]
    exact ⟨rfl, by rw [h3, nI_1], rfl⟩
theorem tC_47 {I J : am_I} {js : List Nat} (h : am_fs 47 js [] I J) (zT : tC I n b) : tC J n b := ⟨by rw [h.1 23 List.not_mem_nil (by decide)]; exact zT.1, fun i hi => by rw [h.1 24 List.not_mem_nil (by decide)]; exact zT.2 i hi⟩
theorem r_srSign {E : am_E} (zi : am_inj E) {k : Nat} (hk : 2 ≤ k) (zt : wft n b) {I : am_I} (zT : tC I n b) (w : Int64) {p : Nat} (hp : p ≤ n) (h3 : I 47 3 = nI p) : am_Ret E k Y_StreetReader_readSign [.ref 47] I w (fun q I' w' => q = some (.int (bi (lsG n b (true, p)).2.1)) ∧ w' = w ∧ am_fs 47 [3, 6] [] I I' ∧ I' 47 3 = nI (lsG n b (true, p)).2.2 ∧ ((lsG n b (true, p)).2.1 = true → I' 47 6 = cond (lsG n b (true, p)).1 1 (-1))) := by
  refine am_intro (pv_StreetReader_readSign E k) (by decide) zi ?_ rfl rfl ?_
  · rintro _ _ _ ⟨rfl, -⟩; exact bi_nr _
  intro S hS
  have h16 := zt.1
  have f1 : ∀ v, am_fs 47 [3, 6] [] I (am_up I 47 6 v) := fun v => am_fs.upo am_fs.refl (by decide)
  have f2 : ∀ v u, am_fs 47 [3, 6] [] I (am_up (am_up I 47 6 v) 47 3 u) := fun v u => am_fs.upo (f1 v) (by decide)
  have f3 : ∀ v u z, am_fs 47 [3, 6] [] I (am_up (am_up (am_up I 47 6 v) 47 3 u) 47 3 z) := fun v u z => am_fs.upo (f2 v u) (by decide)
  have sm : ∀ c, lsM n b c (true, p) = cond (decide (p < n ∧ b p = c)) (true, true, p + 1) (false, true, p) := fun c => rfl
  refine am_at hS (fun _ => false) 90 0 ?_
  refine ⟨_, _, (by omega : k - 1 < k), (by rw [h3]; exact r_at zi zt zT w (by omega)), am_elim ?_⟩
  refine ⟨fun h => ?_, fun h => ?_⟩
  · have h1 : tat n b p = nI 45 := h
    rw [tat_eq zt (by decide)] at h1
    have e45 : lsM n b 45 (true, p) = (true, true, p + 1) := by rw [sm, decide_eq_true h1]; rfl
    have e43 : lsM n b 43 (true, p) = (false, true, p) := by rw [sm, decide_eq_false (by omega)]; rfl
    have eG : lsG n b (true, p) = (false, true, p + 1) := by unfold lsG; rw [e43, e45]; rfl
    have hk1 := r_srSkip zi (k := k - 1) (by omega) zt (tC_47 (f1 (-1)) zT) w (c := 45) hp (by rw [am_sne (by decide)]; exact h3) (by decide)
    rw [e45] at hk1
    refine ⟨_, _, (by omega : k - 1 < k), hk1, am_elim ?_⟩
    refine ⟨fun q => absurd (show (1 : Int32) = 0 from q) (by decide), fun _ => ?_⟩
    rw [eG]
    exact ⟨rfl, rfl, f2 _ _, am_seq, fun _ => by rw [am_sne (by decide), am_seq]; rfl⟩
  · have h1 : ¬ tat n b p = nI 45 := h
    rw [tat_eq zt (by decide)] at h1
    have e45 : lsM n b 45 (true, p) = (false, true, p) := by rw [sm, decide_eq_false h1]; rfl
    have hk1 := r_srSkip zi (k := k - 1) (by omega) zt (tC_47 (f1 1) zT) w (c := 45) hp (by rw [am_sne (by decide)]; exact h3) (by decide)
    rw [e45] at hk1
    refine ⟨_, _, (by omega : k - 1 < k), hk1, am_elim ?_⟩
    refine ⟨fun _ => ?_, fun q => absurd rfl q⟩
    have hk2 := r_srSkip zi (k := k - 1) (by omega) zt (tC_47 (f2 1 (nI p)) zT) w (c := 43) hp am_seq (by decide)
    refine ⟨_, _, (by omega : k - 1 < k), hk2, am_elim ?_⟩
    cases hc : decide (p < n ∧ b p = 43) with
    | true =>
      have e43 : lsM n b 43 (true, p) = (true, true, p + 1) := by rw [sm, hc]; rfl
      have eG : lsG n b (true, p) = (true, true, p + 1) := by unfold lsG; rw [e43]; rfl
      rw [e43, eG]
      refine ⟨fun q => absurd (show (1 : Int32) = 0 from q) (by decide), fun _ => ?_⟩
      exact ⟨rfl, rfl, f3 _ _ _, am_seq, fun _ => by rw [am_sne (by decide), am_sne (by decide), am_seq]; rfl⟩
    | false =>
      have e43 : lsM n b 43 (true, p) = (false, true, p) := by rw [sm, hc]; rfl
      have eG : lsG n b (true, p) = (false, false, p) := by unfold lsG; rw [e43, e45]; rfl
      rw [e43, eG]
      refine ⟨fun _ => ?_, fun q => absurd rfl q⟩
      exact ⟨rfl, rfl, f3 _ _ _, am_seq, fun q => (by cases q)⟩
theorem r_srStrength {E : am_E} (zi : am_inj E) {k : Nat} (hk : 2 ≤ k) (zt : wft n b) {I : am_I} (zT : tC I n b) (w : Int64) {p : Nat} (hp : p ≤ n) (h3 : I 47 3 = nI p) : am_Ret E k Y_StreetReader_readStrength [.ref 47] I w (fun q I' w' => q = some (.int (bi (lsS n b (true, p)).2.1)) ∧ w' = w ∧ am_fs 47 [3, 7] [] I I' ∧ I' 47 3 = nI (lsS n b (true, p)).2.2 ∧ ((lsS n b (true, p)).2.1 = true → I' 47 7 = nI (lsS n b (true, p)).1)) := by
  refine am_intro (pv_StreetReader_readStrength E k) (by decide) zi ?_ rfl rfl ?_
  · rintro _ _ _ ⟨rfl, -⟩; exact bi_nr _
  intro S hS
  have h16 := zt.1
  have f1 : ∀ v, am_fs 47 [3, 7] [] I (am_up I 47 7 v) := fun v => am_fs.upo am_fs.refl (by decide)
  have f2 : ∀ v u, am_fs 47 [3, 7] [] I (am_up (am_up I 47 7 v) 47 3 u) := fun v u => am_fs.upo (f1 v) (by decide)
  have f4 : ∀ v u z y, am_fs 47 [3, 7] [] I (am_up (am_up (am_up (am_up I 47 7 v) 47 3 u) 47 7 z) 47 3 y) := fun v u z y => am_fs.upo (am_fs.upo (f2 v u) (by decide)) (by decide)
  refine am_at hS (fun t => Nat.beq t 87) 90 0 ?_
  refine ⟨_, _, (by omega : k - 1 < k), (by rw [h3]; exact r_digitAt zi (by omega) zt zT w (by omega)), am_elim ?_⟩
  have s7 : ∀ v, am_up I 47 7 v 47 7 = v := fun v => am_seq
  have s3 : ∀ v, am_up I 47 7 v 47 3 = nI p := fun v => by rw [am_sne (by decide)]; exact h3
  refine ⟨fun h => ?_, fun h => ?_⟩
  · rw [s7, dgt_m1 zt] at h
    have e : lsS n b (true, p) = (0, false, p) := by unfold lsS; rw [show ((true, p) : Bool × Nat).2 = p from rfl, h]; rfl
    rw [e]
    exact ⟨rfl, rfl, f1 _, s3 _, fun q => (by cases q)⟩
  rw [s7, dgt_m1 zt, Bool.not_eq_false] at h
  have d1 := of_decide_eq_true h
  have ed : dgt n b p = nI (b p - 48) := by unfold dgt; rw [h]; rfl
  rw [ed]
  have e27 : am_up I 47 7 (nI (b p - 48)) 47 3 + 1 = nI (p + 1) := by rw [s3, nI_1]
  have last : ∀ (u : Int32) J, ((isD n b (p + 1) && (decide (48 < b p) || decide (48 < b (p + 1)))) = true → J = am_up (am_up (am_up (am_up I 47 7 (nI (b p - 48))) 47 3 (nI (p + 1))) 47 7 (nI ((b p - 48) * 10 + (b (p + 1) - 48)))) 47 3 (nI (p + 2))) → ((isD n b (p + 1) && (decide (48 < b p) || decide (48 < b (p + 1)))) = false → J = am_up (am_up I 47 7 (nI (b p - 48))) 47 3 (nI (p + 1))) → S 87 [some (.ref 47), some (.int u)] [] J w := by
    intro u J hy hn
    refine am_at hS (fun _ => false) 60 87 ?_
    cases hc : (isD n b (p + 1) && (decide (48 < b p) || decide (48 < b (p + 1)))) with
    | true =>
      have eJ := hy hc
      rw [Bool.and_eq_true, Bool.or_eq_true, decide_eq_true_eq, decide_eq_true_eq] at hc
      have d2 := of_decide_eq_true hc.1
      have e : lsS n b (true, p) = ((b p - 48) * 10 + (b (p + 1) - 48), true, p + 2) := by
        unfold lsS
        rw [show ((true, p) : Bool × Nat).2 = p from rfl, h, show (isD n b (p + 1) && (decide (48 < b p) || decide (48 < b (p + 1)))) = true by rw [hc.1, Bool.true_and, Bool.or_eq_true, decide_eq_true_eq, decide_eq_true_eq]; exact hc.2]
        rfl
      have j7 : J 47 7 = nI ((b p - 48) * 10 + (b (p + 1) - 48)) := by rw [eJ, am_sne (by decide), am_seq]
      rw [e]
      refine ⟨fun _ => ?_, fun q => absurd (show nI 0 < J 47 7 by rw [j7]; exact nI_lt (by omega) (by omega)) q⟩
      exact ⟨rfl, rfl, by rw [eJ]; exact f4 _ _ _ _, by rw [eJ, am_seq], fun _ => j7⟩
    | false =>
      have eJ := hn hc
      have e : lsS n b (true, p) = (b p - 48, decide (48 < b p), p + 1) := by
        unfold lsS
        rw [show ((true, p) : Bool × Nat).2 = p from rfl, h, hc]
        rfl
      have j7 : J 47 7 = nI (b p - 48) := by rw [eJ, am_sne (by decide), am_seq]
      rw [e]
      refine ⟨fun q => ?_, fun q => ?_⟩
      · have q2 : nI 0 < J 47 7 := q
        rw [j7, nlt (by omega) (by omega)] at q2
        exact ⟨by rw [decide_eq_true (show 48 < b p by omega)]; rfl, rfl, by rw [eJ]; exact f2 _ _, by rw [eJ, am_seq], fun _ => j7⟩
      · have q2 : ¬ nI 0 < J 47 7 := q
        rw [j7, nlt (by omega) (by omega)] at q2
        exact ⟨by rw [decide_eq_false (show ¬ 48 < b p by omega)]; rfl, rfl, by rw [eJ]; exact f2 _ _, by rw [eJ, am_seq], fun z => absurd (of_decide_eq_true z) (by omega)⟩
  have t3 : am_up (am_up I 47 7 (nI (b p - 48))) 47 3 (nI (p + 1)) 47 3 = nI (p + 1) := am_seq
  have t7 : am_up (am_up I 47 7 (nI (b p - 48))) 47 3 (nI (p + 1)) 47 7 = nI (b p - 48) := by rw [am_sne (by decide), am_seq]
  refine ⟨_, _, (by omega : k - 1 < k), (by rw [e27, t3]; exact r_digitAt zi (by omega) zt (tC_47 (f2 _ _) zT) w (by omega)), am_elim ?_⟩
  refine ⟨fun h2 => ?_, fun h2 => ?_⟩
  · rw [dgt_m1 zt] at h2
    exact last _ _ (fun q => by rw [h2] at q; cases q) (fun _ => rfl)
  rw [dgt_m1 zt, Bool.not_eq_false] at h2
  have d2 := of_decide_eq_true h2
  have ed2 : dgt n b (p + 1) = nI (b (p + 1) - 48) := by unfold dgt; rw [h2]; rfl
  rw [ed2]
  have ev : am_up (am_up I 47 7 (nI (b p - 48))) 47 3 (nI (p + 1)) 47 7 * 10 + nI (b (p + 1) - 48) = nI ((b p - 48) * 10 + (b (p + 1) - 48)) := by
    rw [t7, show (10 : Int32) = nI 10 from rfl, pk_mul, nI_add]
  refine ⟨fun h3 => ?_, fun h3 => ?_⟩
  · have h4 : nI 0 < am_up (am_up I 47 7 (nI (b p - 48))) 47 3 (nI (p + 1)) 47 7 * 10 + nI (b (p + 1) - 48) := h3
    rw [ev, nlt (by omega) (by omega)] at h4
    refine last _ _ (fun _ => ?_) (fun q => ?_)
    · rw [ev, am_sne (show (3 : Nat) ≠ 7 by decide), t3, nI_1]
    · rw [h2, Bool.true_and, Bool.or_eq_false_iff, decide_eq_false_iff_not, decide_eq_false_iff_not] at q
      omega
  · have h4 : ¬ nI 0 < am_up (am_up I 47 7 (nI (b p - 48))) 47 3 (nI (p + 1)) 47 7 * 10 + nI (b (p + 1) - 48) := h3
    rw [ev, nlt (by omega) (by omega)] at h4
    refine last _ _ (fun q => ?_) (fun _ => rfl)
    rw [h2, Bool.true_and, Bool.or_eq_true, decide_eq_true_eq, decide_eq_true_eq] at q
    omega
theorem r_srKind {E : am_E} (zi : am_inj E) {k : Nat} (hk : 2 ≤ k) (zt : wft n b) {I : am_I} (zT : tC I n b) (w : Int64) {p : Nat} (hp : p ≤ n) (h3 : I 47 3 = nI p) : am_Ret E k Y_StreetReader_readKind [.ref 47] I w (fun q I' w' => q = some (.int (bi (lsE n b (lsM n b 33 (lsM n b 107 (true, p)).2).2).1)) ∧ w' = w ∧ am_fs 47 [3, 8] [] I I' ∧ I' 47 3 = nI (lsE n b (lsM n b 33 (lsM n b 107 (true, p)).2).2).2 ∧ I' 47 8 = nI (2 * (lsM n b 107 (true, p)).1.toNat + (lsM n b 33 (lsM n b 107 (true, p)).2).1.toNat)) := by
  refine am_intro (pv_StreetReader_readKind E k) (by decide) zi ?_ rfl rfl ?_
  · rintro _ _ _ ⟨rfl, -⟩; exact bi_nr _
  intro S hS
  obtain ⟨A, eA⟩ : ∃ A, A = lsM n b 107 (true, p) := ⟨_, rfl⟩
  obtain ⟨B, eB⟩ : ∃ B, B = lsM n b 33 A.2 := ⟨_, rfl⟩
  obtain ⟨C, eC⟩ : ∃ C, C = lsM n b 59 B.2 := ⟨_, rfl⟩
  have A1 : A.2.1 = true ∧ A.2.2 ≤ n := by
    rw [eA]
    cases hc : (lsM n b 107 (true, p)).1 with
    | true => obtain ⟨a1, a2, a3⟩ := lsM_t hc; rw [a2]; exact ⟨rfl, a3⟩
    | false => rw [lsM_n hc]; exact ⟨rfl, hp⟩
  have A2 : A.2 = (true, A.2.2) := Prod.ext A1.1 rfl
  have B1 : B.2.1 = true ∧ B.2.2 ≤ n := by
    rw [eB]
    cases hc : (lsM n b 33 A.2).1 with
    | true => obtain ⟨a1, a2, a3⟩ := lsM_t hc; rw [a2]; exact ⟨rfl, a3⟩
    | false => rw [lsM_n hc]; exact A1
  have B2 : B.2 = (true, B.2.2) := Prod.ext B1.1 rfl
  have eE : lsE n b B.2 = (C.1, C.2.2) := by
    unfold lsE
    rw [← eC]
    cases hc : C.1 with
    | true =>
      rw [eC] at hc
      obtain ⟨a1, a2, a3⟩ := lsM_t hc
      rw [eC, a2]
      rfl
    | false =>
      rw [eC] at hc
      rw [eC, lsM_n hc]
      rfl
  rw [← eA, ← eB, eE] at hS
  have last : ∀ J, am_fs 47 [3, 8] [] I J → J 47 3 = nI B.2.2 → J 47 8 = nI (2 * A.1.toNat + B.1.toNat) → S 37 [some (.ref 47)] [] J w := by
    intro J hJ j3 j8
    refine am_at hS (fun _ => false) 60 37 ?_
    have hk3 := r_srSkip zi (k := k - 1) (by omega) zt (tC_47 hJ zT) w (c := 59) B1.2 j3 (by decide)
    rw [← B2, ← eC] at hk3
    refine ⟨_, _, (by omega : k - 1 < k), hk3, am_elim ?_⟩
    exact ⟨rfl, rfl, am_fs.upo hJ (by decide), am_seq, by rw [am_sne (by decide)]; exact j8⟩
  have mid : ∀ J, am_fs 47 [3, 8] [] I J → J 47 3 = nI A.2.2 → J 47 8 = nI (2 * A.1.toNat) → S 18 [some (.ref 47)] [] J w := by
    intro J hJ j3 j8
    refine am_at hS (fun t => Nat.beq t 37) 60 18 ?_
    have hk3 := r_srSkip zi (k := k - 1) (by omega) zt (tC_47 hJ zT) w (c := 33) A1.2 j3 (by decide)
    rw [← A2, ← eB] at hk3
    refine ⟨_, _, (by omega : k - 1 < k), hk3, am_elim ?_⟩
    have f5 : am_fs 47 [3, 8] [] I (am_up J 47 3 (nI B.2.2)) := am_fs.upo hJ (by decide)
    cases hc : B.1 with
    | false =>
      refine ⟨fun _ => ?_, fun q => absurd rfl q⟩
      exact last _ f5 am_seq (by rw [am_sne (by decide), j8, hc]; rfl)
    | true =>
      refine ⟨fun q => absurd q (by decide), fun _ => ?_⟩
      exact last _ (am_fs.upo f5 (by decide)) (by rw [am_sne (by decide), am_seq]) (by rw [am_seq, am_sne (by decide), j8, nI_1, hc]; rfl)
  refine am_at hS (fun t => Nat.beq t 18) 60 0 ?_
  have hk1 := r_srSkip zi (k := k - 1) (by omega) zt zT w (c := 107) hp h3 (by decide)
  rw [← eA] at hk1
  refine ⟨_, _, (by omega : k - 1 < k), hk1, am_elim ?_⟩
  have f4 : am_fs 47 [3, 8] [] I (am_up I 47 3 (nI A.2.2)) := am_fs.upo am_fs.refl (by decide)
  cases hc : A.1 with
  | false =>
    refine ⟨fun _ => ?_, fun q => absurd rfl q⟩
    exact mid _ (am_fs.upo f4 (by decide)) (by rw [am_sne (by decide), am_seq]) (by rw [am_seq, hc]; rfl)
  | true =>
    refine ⟨fun q => absurd q (by decide), fun _ => ?_⟩
    exact mid _ (am_fs.upo f4 (by decide)) (by rw [am_sne (by decide), am_seq]) (by rw [am_seq, hc]; rfl)
end CLN

