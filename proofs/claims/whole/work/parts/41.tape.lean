/-! reading THE TAPE: bytes, runs of bytes, ends of TOKENS -/
def tat (n : Nat) (b : Nat → Nat) (i : Nat) : Int32 := if i < n then nI (b i) else -1
def isL (n : Nat) (b : Nat → Nat) (i : Nat) : Bool := decide (i < n ∧ 97 ≤ b i ∧ b i ≤ 122)
def isD (n : Nat) (b : Nat → Nat) (i : Nat) : Bool := decide (i < n ∧ 48 ≤ b i ∧ b i ≤ 57)
def isB (n : Nat) (b : Nat → Nat) (i : Nat) : Bool := decide (i < n ∧ (b i = 32 ∨ b i = 10))
/-- the end of a run -/
def skp (B : Nat → Bool) : Nat → Nat → Nat
  | 0, i => i
  | d + 1, i => cond (B i) (skp B d (i + 1)) i
theorem skp_spec {B : Nat → Bool} {n : Nat} (hB : ∀ i, n ≤ i → B i = false) : ∀ (d i : Nat), n ≤ i + d → i ≤ skp B d i ∧ (∀ j, i ≤ j → j < skp B d i → B j = true) ∧ B (skp B d i) = false ∧ (skp B d i ≤ n ∨ skp B d i = i)
  | 0, i, h => ⟨Nat.le_refl _, fun j h1 h2 => absurd h2 (by show ¬ j < i; omega), hB i h, Or.inr rfl⟩
  | d + 1, i, h => by
    cases hb : B i with
    | false =>
      have e : skp B (d + 1) i = i := by rw [skp, hb]; rfl
      rw [e]
      exact ⟨Nat.le_refl _, fun j h1 h2 => absurd h2 (by omega), hb, Or.inr rfl⟩
    | true =>
      have e : skp B (d + 1) i = skp B d (i + 1) := by rw [skp, hb]; rfl
      rw [e]
      have hi : i < n := by
        apply Classical.byContradiction
        intro hq
        rw [hB i (by omega)] at hb
        cases hb
      obtain ⟨a1, a2, a3, a4⟩ := skp_spec hB d (i + 1) (by omega)
      refine ⟨by omega, fun j h1 h2 => ?_, a3, Or.inl (by omega)⟩
      by_cases ej : j = i
      · rw [ej]; exact hb
      · exact a2 j (by omega) h2
theorem skp_uniq {B : Nat → Bool} {n : Nat} (hB : ∀ i, n ≤ i → B i = false) {d i j : Nat} (h : n ≤ i + d) (h1 : i ≤ j) (h2 : ∀ t, i ≤ t → t < j → B t = true) (h3 : B j = false) : skp B d i = j := by
  obtain ⟨a1, a2, a3, a4⟩ := skp_spec hB d i h
  rcases Nat.lt_trichotomy (skp B d i) j with q | q | q
  · rw [h2 _ a1 q] at a3; cases a3
  · exact q
  · rw [a2 j h1 q] at h3; cases h3
theorem skp_t {B : Nat → Bool} {d i : Nat} (h : B i = true) : skp B (d + 1) i = skp B d (i + 1) := by rw [skp, h]; rfl
theorem skp_f {B : Nat → Bool} {d i : Nat} (h : B i = false) : skp B d i = i := by
  cases d with
  | zero => rfl
  | succ d => rw [skp, h]; rfl
theorem isL_out {n : Nat} {b : Nat → Nat} {i : Nat} (h : n ≤ i) : isL n b i = false := decide_eq_false (fun q => by omega)
theorem isD_out {n : Nat} {b : Nat → Nat} {i : Nat} (h : n ≤ i) : isD n b i = false := decide_eq_false (fun q => by omega)
theorem isB_out {n : Nat} {b : Nat → Nat} {i : Nat} (h : n ≤ i) : isB n b i = false := decide_eq_false (fun q => by omega)
def inT (n : Nat) (b : Nat → Nat) (f j : Nat) : Bool := (isL n b f && isL n b j) || (isD n b f && isD n b j)
theorem inT_out {n : Nat} {b : Nat → Nat} {f i : Nat} (h : n ≤ i) : inT n b f i = false := by unfold inT; rw [isL_out h, isD_out h, Bool.and_false, Bool.and_false]; rfl
/-- behind the blanks; behind a TOKEN -/
def skb (n : Nat) (b : Nat → Nat) (i : Nat) : Nat := skp (isB n b) 160 i
def eot (n : Nat) (b : Nat → Nat) (f : Nat) : Nat := skp (inT n b f) 160 (f + 1)
theorem skb_spec {n : Nat} {b : Nat → Nat} (zt : wft n b) (i : Nat) : i ≤ skb n b i ∧ (∀ j, i ≤ j → j < skb n b i → isB n b j = true) ∧ isB n b (skb n b i) = false ∧ (skb n b i ≤ n ∨ skb n b i = i) := skp_spec (fun j hj => isB_out hj) 160 i (by have := zt.1; omega)
theorem eot_spec {n : Nat} {b : Nat → Nat} (zt : wft n b) (f : Nat) : f + 1 ≤ eot n b f ∧ (∀ j, f + 1 ≤ j → j < eot n b f → inT n b f j = true) ∧ inT n b f (eot n b f) = false ∧ (eot n b f ≤ n ∨ eot n b f = f + 1) := skp_spec (fun j hj => inT_out hj) 160 (f + 1) (by have := zt.1; omega)
theorem tat_in {n : Nat} {b : Nat → Nat} {i : Nat} (h : i < n) : tat n b i = nI (b i) := if_pos h
theorem tat_out {n : Nat} {b : Nat → Nat} {i : Nat} (h : n ≤ i) : tat n b i = -1 := if_neg (by omega)
theorem tat_lt {n : Nat} {b : Nat → Nat} (zt : wft n b) {i c : Nat} (hc : c < 2 ^ 31) : (tat n b i < nI c) = ¬ (i < n ∧ c ≤ b i) := by
  apply propext
  by_cases h : i < n
  · have := zt.2 i h
    rw [tat_in h, nlt (by omega) hc]
    omega
  · rw [tat_out (by omega), i_lt, nI_toInt hc]
    have e1 : (-1 : Int32).toInt = -1 := rfl
    omega
theorem tat_gt {n : Nat} {b : Nat → Nat} (zt : wft n b) {i c : Nat} (hc : c < 2 ^ 31) : (nI c < tat n b i) = (i < n ∧ c < b i) := by
  apply propext
  by_cases h : i < n
  · have := zt.2 i h
    rw [tat_in h, nlt hc (by omega)]
    omega
  · rw [tat_out (by omega), i_lt, nI_toInt hc]
    have e1 : (-1 : Int32).toInt = -1 := rfl
    omega
theorem tat_eq {n : Nat} {b : Nat → Nat} (zt : wft n b) {i c : Nat} (hc : c < 2 ^ 31) : (tat n b i = nI c) = (i < n ∧ b i = c) := by
  apply propext
  by_cases h : i < n
  · have := zt.2 i h
    rw [tat_in h, neq (by omega) hc]
    omega
  · rw [tat_out (by omega)]
    constructor
    · intro q
      exact absurd q.symm (nI_ne1 hc)
    · intro q
      omega
theorem tat_m1 {n : Nat} {b : Nat → Nat} (zt : wft n b) {i : Nat} : (tat n b i = -1) = (n ≤ i) := by
  apply propext
  by_cases h : i < n
  · have := zt.2 i h
    rw [tat_in h]
    constructor
    · intro q
      exact absurd q (nI_ne1 (by omega))
    · intro q
      omega
  · rw [tat_out (by omega)]
    exact ⟨fun _ => by omega, fun _ => rfl⟩
theorem r_at {E : am_E} (zi : am_inj E) {k n : Nat} {b : Nat → Nat} (zt : wft n b) {I : am_I} (zT : tC I n b) (w : Int64) {i : Nat} (hi : i < 1000) : am_Ret E k Y_Tape_at [.ref 23, .int (nI i)] I w (am_eq (some (.int (tat n b i))) I w) := by
  refine am_intro (pv_Tape_at E k) (by decide) zi ?_ rfl rfl ?_
  · rintro _ _ _ ⟨rfl, -⟩; rfl
  intro S hS
  have h16 := zt.1
  refine am_at hS (fun _ => false) 60 0 ?_
  refine ⟨fun q => absurd q (nI_pos (by omega)), fun _ => ?_⟩
  refine ⟨fun h9 => ?_, fun h9 => ?_⟩
  · rw [zT.1, nlt (by omega) (by omega)] at h9
    refine ⟨vp_in_nI (by omega) (by omega), ?_⟩
    rw [nI_clamp (by omega), zT.2 i h9, tat_in h9]
    exact ⟨rfl, rfl, rfl⟩
  · rw [zT.1, nlt (by omega) (by omega)] at h9
    rw [tat_out (by omega)]
    exact ⟨rfl, rfl, rfl⟩
def dgt (n : Nat) (b : Nat → Nat) (i : Nat) : Int32 := cond (isD n b i) (nI (b i - 48)) (-1)
theorem r_digitAt {E : am_E} (zi : am_inj E) {k n : Nat} (hk : 1 ≤ k) {b : Nat → Nat} (zt : wft n b) {I : am_I} (zT : tC I n b) (w : Int64) {i : Nat} (hi : i < 1000) : am_Ret E k Y_Tape_digitAt [.ref 23, .int (nI i)] I w (am_eq (some (.int (dgt n b i))) I w) := by
  refine am_intro (pv_Tape_digitAt E k) (by decide) zi ?_ rfl rfl ?_
  · rintro _ _ _ ⟨rfl, -⟩; rfl
  intro S hS
  refine am_at hS (fun _ => false) 60 0 ?_
  refine ⟨_, _, (by omega : k - 1 < k), r_at zi zt zT w hi, am_elim ?_⟩
  refine ⟨fun h9 => ?_, fun h9 => ?_⟩
  · have h9' : tat n b i < nI 48 := h9
    rw [tat_lt zt (by decide)] at h9'
    unfold dgt
    rw [show isD n b i = false from decide_eq_false (fun q => h9' ⟨q.1, q.2.1⟩)]
    exact ⟨rfl, rfl, rfl⟩
  have h9' : ¬ tat n b i < nI 48 := h9
  rw [tat_lt zt (by decide), Classical.not_not] at h9'
  refine ⟨fun h15 => ?_, fun h15 => ?_⟩
  · have h15' : nI 57 < tat n b i := h15
    rw [tat_gt zt (by decide)] at h15'
    unfold dgt
    rw [show isD n b i = false from decide_eq_false (fun q => by omega)]
    exact ⟨rfl, rfl, rfl⟩
  have h15' : ¬ nI 57 < tat n b i := h15
  rw [tat_gt zt (by decide)] at h15'
  have hd : isD n b i = true := decide_eq_true ⟨h9'.1, h9'.2, by omega⟩
  refine ⟨?_, rfl, rfl⟩
  unfold dgt
  rw [hd, tat_in h9'.1, show (48 : Int32) = nI 48 from rfl, pk_sub h9'.2]
  rfl
theorem dgt_m1 {n : Nat} {b : Nat → Nat} (zt : wft n b) {i : Nat} : (dgt n b i = -1) = (isD n b i = false) := by
  unfold dgt
  apply propext
  cases hq : isD n b i with
  | false => exact ⟨fun _ => rfl, fun _ => rfl⟩
  | true =>
    have h := of_decide_eq_true hq
    have := zt.2 i h.1
    exact ⟨fun z => absurd z (nI_ne1 (by omega)), fun z => by cases z⟩
theorem r_isDigit {E : am_E} (zi : am_inj E) {k n : Nat} (hk : 2 ≤ k) {b : Nat → Nat} (zt : wft n b) {I : am_I} (zT : tC I n b) (w : Int64) {i : Nat} (hi : i < 1000) : am_Ret E k Y_Tape_isDigit [.ref 23, .int (nI i)] I w (am_eq (some (.int (bi (isD n b i)))) I w) := by
  refine am_intro (pv_Tape_isDigit E k) (by decide) zi ?_ rfl rfl ?_
  · rintro _ _ _ ⟨rfl, -⟩; exact bi_nr _
  intro S hS
  refine am_at hS (fun _ => false) 60 0 ?_
  refine ⟨_, _, (by omega : k - 1 < k), r_digitAt zi (by omega) zt zT w hi, am_elim ?_⟩
  refine ⟨fun h6 => ?_, fun h6 => ?_⟩
  · rw [dgt_m1 zt] at h6
    rw [h6]
    exact ⟨rfl, rfl, rfl⟩
  · rw [dgt_m1 zt, Bool.not_eq_false] at h6
    rw [h6]
    exact ⟨rfl, rfl, rfl⟩
theorem r_isLetter {E : am_E} (zi : am_inj E) {k n : Nat} (hk : 1 ≤ k) {b : Nat → Nat} (zt : wft n b) {I : am_I} (zT : tC I n b) (w : Int64) {i : Nat} (hi : i < 1000) : am_Ret E k Y_Tape_isLetter [.ref 23, .int (nI i)] I w (am_eq (some (.int (bi (isL n b i)))) I w) := by
  refine am_intro (pv_Tape_isLetter E k) (by decide) zi ?_ rfl rfl ?_
  · rintro _ _ _ ⟨rfl, -⟩; exact bi_nr _
  intro S hS
  refine am_at hS (fun _ => false) 60 0 ?_
  refine ⟨_, _, (by omega : k - 1 < k), r_at zi zt zT w hi, am_elim ?_⟩
  refine ⟨fun h9 => ?_, fun h9 => ?_⟩
  · have h9' : tat n b i < nI 97 := h9
    rw [tat_lt zt (by decide)] at h9'
    rw [show isL n b i = false from decide_eq_false (fun q => h9' ⟨q.1, q.2.1⟩)]
    exact ⟨rfl, rfl, rfl⟩
  have h9' : ¬ tat n b i < nI 97 := h9
  rw [tat_lt zt (by decide), Classical.not_not] at h9'
  refine ⟨fun h15 => ?_, fun h15 => ?_⟩
  · have h15' : nI 122 < tat n b i := h15
    rw [tat_gt zt (by decide)] at h15'
    rw [show isL n b i = false from decide_eq_false (fun q => by omega)]
    exact ⟨rfl, rfl, rfl⟩
  have h15' : ¬ nI 122 < tat n b i := h15
  rw [tat_gt zt (by decide)] at h15'
  rw [show isL n b i = true from decide_eq_true ⟨h9'.1, h9'.2, by omega⟩]
  exact ⟨rfl, rfl, rfl⟩
theorem r_skipBlanks {E : am_E} (zi : am_inj E) {k n : Nat} (hk : 1 ≤ k) {b : Nat → Nat} (zt : wft n b) {I : am_I} (zT : tC I n b) (w : Int64) {i : Nat} (hi : i < 400) : am_Ret E k Y_TextReader_skipBlanks [.ref 42, .int (nI i)] I w (am_eq (some (.int (nI (skb n b i)))) I w) := by
  refine am_intro (pv_TextReader_skipBlanks E k) (by decide) zi ?_ rfl rfl ?_
  · rintro _ _ _ ⟨rfl, -⟩; rfl
  intro S hS
  have loop := down (P := fun t => skb n b i = skp (isB n b) (160 - t) (i + t) → S 4 [some (.ref 42), some (.int (nI i)), some (.int (nI (i + t))), some (.int (nI t))] [] I w) 160 ?z ?s
  case z =>
    intro e
    refine am_at hS (fun t => Nat.beq t 4) 60 4 ?_
    refine ⟨fun q => absurd q (by decide), fun _ => ⟨?_, rfl, rfl⟩⟩
    rw [e]; rfl
  case s =>
    intro t ht hn e
    have e2 : 160 - t = (160 - (t + 1)) + 1 := by omega
    have go : isB n b (i + t) = true → S 4 [some (.ref 42), some (.int (nI i)), some (.int (nI (i + t) + 1)), some (.int (nI t + 1))] [] I w := fun hb => by
      have := hn (by rw [e, e2, skp_t hb]; rfl)
      rw [nI_1, nI_1]
      exact this
    refine am_at hS (fun t => Nat.beq t 4) 60 4 ?_
    refine ⟨fun _ => ?_, fun q => absurd (show nI t < nI 160 from nI_lt ht (by decide)) q⟩
    refine ⟨_, _, (by omega : k - 1 < k), r_at zi zt zT w (by omega), am_elim ?_⟩
    refine ⟨fun h21 => ?_, fun h21 => ?_⟩
    · have h : tat n b (i + t) = nI 32 := h21
      rw [tat_eq zt (by decide)] at h
      exact go (decide_eq_true ⟨h.1, Or.inl h.2⟩)
    have h21' : ¬ tat n b (i + t) = nI 32 := h21
    rw [tat_eq zt (by decide)] at h21'
    refine ⟨_, _, (by omega : k - 1 < k), r_at zi zt zT w (by omega), am_elim ?_⟩
    refine ⟨fun h34 => ?_, fun h34 => ?_⟩
    · have h : tat n b (i + t) = nI 10 := h34
      rw [tat_eq zt (by decide)] at h
      exact go (decide_eq_true ⟨h.1, Or.inr h.2⟩)
    have h34' : ¬ tat n b (i + t) = nI 10 := h34
    rw [tat_eq zt (by decide)] at h34'
    have hb : isB n b (i + t) = false := decide_eq_false (fun q => by omega)
    refine ⟨?_, rfl, rfl⟩
    rw [e, skp_f hb]
  exact am_at hS (fun t => Nat.beq t 4) 60 0 (loop 0 (Nat.zero_le _) rfl)
theorem r_endOfToken {E : am_E} (zi : am_inj E) {k n : Nat} (hk : 3 ≤ k) {b : Nat → Nat} (zt : wft n b) {I : am_I} (zT : tC I n b) (w : Int64) {i : Nat} (hi : i < 400) : am_Ret E k Y_TextReader_endOfToken [.ref 42, .int (nI i)] I w (am_eq (some (.int (nI (eot n b i)))) I w) := by
  refine am_intro (pv_TextReader_endOfToken E k) (by decide) zi ?_ rfl rfl ?_
  · rintro _ _ _ ⟨rfl, -⟩; rfl
  intro S hS
  have loop := down (P := fun t => eot n b i = skp (inT n b i) (160 - t) (i + 1 + t) → S 26 [some (.ref 42), some (.int (nI i)), some (.int (nI (i + 1 + t))), some (.int (bi (isL n b i))), some (.int (bi (isD n b i))), some (.int (nI t))] [] I w) 160 ?z ?s
  case z =>
    intro e
    refine am_at hS (fun t => Nat.beq t 26) 60 26 ?_
    refine ⟨fun q => absurd q (by decide), fun _ => ⟨?_, rfl, rfl⟩⟩
    rw [e]; rfl
  case s =>
    intro t ht hn e
    have e2 : 160 - t = (160 - (t + 1)) + 1 := by omega
    have go : inT n b i (i + 1 + t) = true → S 26 [some (.ref 42), some (.int (nI i)), some (.int (nI (i + 1 + t) + 1)), some (.int (bi (isL n b i))), some (.int (bi (isD n b i))), some (.int (nI t + 1))] [] I w := fun hb => by
      have := hn (by rw [e, e2, skp_t hb]; rfl)
      rw [nI_1, nI_1]
      exact this
    have no : inT n b i (i + 1 + t) = false → some (Value.int (nI (i + 1 + t))) = some (.int (nI (eot n b i))) ∧ I = I ∧ w = w := fun hb => ⟨by rw [e, skp_f hb], rfl, rfl⟩
    refine am_at hS (fun t => Nat.beq t 26) 80 26 ?_
    refine ⟨fun _ => ?_, fun q => absurd (show nI t < nI 160 from nI_lt ht (by decide)) q⟩
    refine ⟨fun h35 => ?_, fun h35 => ?_⟩
    · rw [bi_eq0] at h35
      refine ⟨fun h51 => ?_, fun h51 => ?_⟩
      · rw [bi_eq0] at h51
        exact no (by unfold inT; rw [h35, h51]; rfl)
      · rw [bi_eq0, Bool.not_eq_false] at h51
        refine ⟨_, _, (by omega : k - 1 < k), r_isDigit zi (by omega) zt zT w (by omega), am_elim ?_⟩
        refine ⟨fun h62 => ?_, fun h62 => ?_⟩
        · rw [bi_eq0] at h62
          exact no (by unfold inT; rw [h35, h51, h62]; rfl)
        · rw [bi_eq0, Bool.not_eq_false] at h62
          exact go (by unfold inT; rw [h35, h51, h62]; rfl)
    · rw [bi_eq0, Bool.not_eq_false] at h35
      refine ⟨_, _, (by omega : k - 1 < k), r_isLetter zi (by omega) zt zT w (by omega), am_elim ?_⟩
      refine ⟨fun h46 => ?_, fun h46 => ?_⟩
      · rw [bi_eq0] at h46
        refine ⟨fun h51 => ?_, fun h51 => ?_⟩
        · rw [bi_eq0] at h51
          exact no (by unfold inT; rw [h35, h46, h51]; rfl)
        · rw [bi_eq0, Bool.not_eq_false] at h51
          refine ⟨_, _, (by omega : k - 1 < k), r_isDigit zi (by omega) zt zT w (by omega), am_elim ?_⟩
          refine ⟨fun h62 => ?_, fun h62 => ?_⟩
          · rw [bi_eq0] at h62
            exact no (by unfold inT; rw [h46, h62, Bool.and_false, Bool.and_false]; rfl)
          · rw [bi_eq0, Bool.not_eq_false] at h62
            exact go (by unfold inT; rw [h51, h62, Bool.and_true, Bool.or_true])
      · rw [bi_eq0, Bool.not_eq_false] at h46
        exact go (by unfold inT; rw [h35, h46]; rfl)
  refine am_at hS (fun t => Nat.beq t 26) 60 0 ?_
  refine ⟨_, _, (by omega : k - 1 < k), r_isLetter zi (by omega) zt zT w (by omega), am_elim ?_⟩
  refine ⟨_, _, (by omega : k - 1 < k), r_isDigit zi (by omega) zt zT w (by omega), am_elim ?_⟩
  have hgo := loop 0 (Nat.zero_le _) rfl
  rw [nI_1]
  exact hgo
