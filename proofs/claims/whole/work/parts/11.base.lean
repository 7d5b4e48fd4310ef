/-! small things: booleans, indices, bits -/
def bi (b : Bool) : Int32 := cond b 1 0
theorem bi_nr (b : Bool) : narrow .boolean (.int (bi b)) = .int (bi b) := by cases b <;> rfl
theorem bi_eq0 (b : Bool) : (bi b = 0) = (b = false) := by cases b <;> decide
theorem bi_01 (b : Bool) : bi b = 0 ∨ bi b = 1 := by cases b <;> decide
theorem i1n0 : ¬ (1 : Int32) = 0 := by decide
def inb (x : Int32) (N : Nat) : Bool := decide (0 ≤ x.toInt) && decide (x.toInt < N)
theorem inb_nI {p N : Nat} (hp : p < 2 ^ 31) : inb (nI p) N = decide (p < N) := by
  unfold inb
  rw [nI_toInt hp]
  simp
theorem inb_of {x : Int32} {N : Nat} (h : inb x N = true) (hN : N < 2 ^ 31) : ∃ p, p < N ∧ x = nI p := by
  unfold inb at h
  rw [Bool.and_eq_true, decide_eq_true_eq, decide_eq_true_eq] at h
  obtain ⟨j, hj, rfl⟩ := nI_of (x := x) (by rw [Int32.lt_iff_toInt_lt, Int32.toInt_zero]; omega)
  rw [nI_toInt hj] at h
  exact ⟨j, by omega, rfl⟩
theorem i_lt {x y : Int32} : x < y ↔ x.toInt < y.toInt := Int32.lt_iff_toInt_lt
theorem inb_tt {x : Int32} {N : Nat} (h1 : ¬ x < 0) (h2 : x < nI N) (hN : N < 2 ^ 31) : inb x N = true := by
  rw [i_lt, Int32.toInt_zero] at h1
  rw [i_lt, nI_toInt hN] at h2
  simp [inb, h2]
  omega
theorem inb_ff1 {x : Int32} {N : Nat} (h1 : x < 0) : inb x N = false := by
  rw [i_lt, Int32.toInt_zero] at h1
  simp [inb]
  omega
theorem inb_ff2 {x : Int32} {N : Nat} (h2 : ¬ x < nI N) (hN : N < 2 ^ 31) : inb x N = false := by
  rw [i_lt, nI_toInt hN] at h2
  simp [inb]
  omega
theorem nlt {a b : Nat} (ha : a < 2 ^ 31) (hb : b < 2 ^ 31) : (nI a < nI b) = (a < b) := propext (nI_ltI ha hb)
theorem neq {a b : Nat} (ha : a < 2 ^ 31) (hb : b < 2 ^ 31) : (nI a = nI b) = (a = b) := propext (nI_eq ha hb)
theorem nI_ne1 {a : Nat} (ha : a < 2 ^ 31) : ¬ nI a = -1 := by
  intro h
  have := congrArg Int32.toInt h
  rw [nI_toInt ha] at this
  have e : (-1 : Int32).toInt = -1 := by decide
  omega
theorem nI_and (x y : Nat) : nI x &&& nI y = nI (x &&& y) := by
  apply Int32.toBitVec_inj.mp
  apply BitVec.eq_of_toNat_eq
  show ((nI x).toBitVec &&& (nI y).toBitVec).toNat = (BitVec.ofNat 32 (x &&& y)).toNat
  rw [BitVec.toNat_and, BitVec.toNat_ofNat, Nat.and_mod_two_pow]
  rfl
theorem nI_or (x y : Nat) : nI x ||| nI y = nI (x ||| y) := by
  apply Int32.toBitVec_inj.mp
  apply BitVec.eq_of_toNat_eq
  show ((nI x).toBitVec ||| (nI y).toBitVec).toNat = (BitVec.ofNat 32 (x ||| y)).toNat
  rw [BitVec.toNat_or, BitVec.toNat_ofNat, Nat.or_mod_two_pow]
  rfl
theorem nI_xor (x y : Nat) : nI x ^^^ nI y = nI (x ^^^ y) := by
  apply Int32.toBitVec_inj.mp
  apply BitVec.eq_of_toNat_eq
  show ((nI x).toBitVec ^^^ (nI y).toBitVec).toNat = (BitVec.ofNat 32 (x ^^^ y)).toNat
  rw [BitVec.toNat_xor, BitVec.toNat_ofNat, Nat.xor_mod_two_pow]
  rfl
theorem sh31 : (List.range 32).all (fun a => decide (((nI a &&& 31).toBitVec.smod 32).toNat = a)) = true := by decide +kernel
theorem sh31_of {a : Nat} (h : a < 32) : ((nI a &&& 31).toBitVec.smod 32).toNat = a := of_decide_eq_true (List.all_eq_true.mp sh31 a (List.mem_range.mpr h))
theorem nI_shr {x a : Nat} (hx : x < 2 ^ 31) (ha : a < 32) : nI x >>> (nI a &&& 31) = nI (x / 2 ^ a) := pk_shrN hx _ a (sh31_of ha)
theorem nI_shl {x a : Nat} (ha : a < 32) (h : x * 2 ^ a < 2 ^ 32) : nI x <<< (nI a &&& 31) = nI (x * 2 ^ a) := pk_shlN _ a (sh31_of ha) h
theorem nI_shl1 {a : Nat} (ha : a < 31) : (1 : Int32) <<< (nI a &&& 31) = nI (2 ^ a) := by
  have := nI_shl (x := 1) (a := a) (by omega) (by rw [Nat.one_mul]; exact Nat.pow_lt_pow_right (by decide) (by omega))
  rw [Nat.one_mul] at this
  exact this
theorem nI_and1 (x : Nat) (hx : x < 2 ^ 32) : nI x &&& 1 = nI (x % 2) := pk_andN hx 1 (by decide)
theorem nI_bit {x a : Nat} (hx : x < 2 ^ 31) (ha : a < 32) : (nI x >>> (nI a &&& 31)) &&& 1 = bi (x.testBit a) := by
  rw [nI_shr hx ha, nI_and1 _ (by have := Nat.div_le_self x (2 ^ a); omega), Nat.testBit_eq_decide_div_mod_eq]
  rcases Nat.mod_two_eq_zero_or_one (x / 2 ^ a) with h | h <;> rw [h] <;> rfl
theorem am_elim {P : Option Value → am_I → Int64 → Prop} {r : Option Value} {I : am_I} {w : Int64} (h : P r I w) : ∀ r' I' w', am_eq r I w r' I' w' → P r' I' w' := by
  rintro _ _ _ ⟨rfl, rfl, rfl⟩
  exact h
def am_fr (l : List Nat) (I I' : am_I) : Prop := ∀ q, q ∉ l → I' q = I q
/-! the JDK's -/
def am_fill (I : am_I) (a n : Nat) (v : Int32) : am_I := fun q j => if q = a ∧ j < n then v else I q j
theorem am_fill_up (I : am_I) (a i : Nat) (v : Int32) : am_up (am_fill I a i v) a i v = am_fill I a (i + 1) v := by
  funext q j
  unfold am_up am_fill
  by_cases h : q = a
  · subst h
    by_cases h2 : j = i
    · subst h2; simp
    · by_cases h3 : j < i
      · simp [h2, h3, show j < i + 1 by omega]
      · simp [h2, h3, show ¬ j < i + 1 by omega]
  · simp [h]
theorem r_fill {E : am_E} (hi : am_inj E) {k a n : Nat} (ha : am_arr 0 a = some n) (hn : n < 2 ^ 31) (I : am_I) (w : Int64) (v : Int32) : am_Ret E k Y_Arr_fill [.ref a, .int v] I w (am_eq none (am_fill I a n v) w) := by
  refine am_intro (pv_Arr_fill E k) (by decide) hi ?_ rfl rfl ?_
  · rintro _ _ _ ⟨rfl, rfl, rfl⟩; trivial
  intro S hS
  have loop : ∀ d i, i + d = n → S 5 [some (.ref a), some (.int v), some (.int (nI i)), some (.int (nI n))] [] (am_fill I a i v) w := by
    intro d
    induction d with
    | zero =>
      intro i h
      have e : i = n := by omega
      subst e
      refine am_at hS (fun t => Nat.beq t 5) 40 5 ?_
      exact ⟨fun h => absurd h (nI_nlt (Nat.le_refl _) hn), fun _ => ⟨rfl, rfl, rfl⟩⟩
    | succ d ih =>
      intro i h
      refine am_at hS (fun t => Nat.beq t 5) 40 5 ?_
      refine ⟨fun _ => ?_, fun h2 => absurd (nI_lt (by omega) hn) h2⟩
      show (match am_arr 0 a with
        | some n => _
        | none => False)
      rw [ha]
      refine ⟨vp_in_nI (by omega) (by omega), ?_⟩
      rw [nI_clamp (by omega), am_fill_up]
      have := ih (i + 1) (by omega)
      rw [← nI_1] at this
      exact this
  refine am_at hS (fun t => Nat.beq t 5) 40 0 ?_
  show (match am_arr 0 a with
        | some n => _
        | none => False)
  rw [ha]
  have h0 : am_fill I a 0 v = I := by funext q j; simp [am_fill]
  have := loop n 0 (by omega)
  rw [h0] at this
  exact this
/-- how many of the first nine bits -/
def pcn (m : Nat) : Nat := (List.range 9).countP (fun i => m.testBit i)
def bcx (x : Int32) : Int32 :=
  let y := x - ((x.toUInt32 >>> ((1 : Int32).toUInt32 &&& Int32.toUInt32 31)).toInt32 &&& 1431655765)
  let z := (y &&& 858993459) + ((y.toUInt32 >>> ((2 : Int32).toUInt32 &&& Int32.toUInt32 31)).toInt32 &&& 858993459)
  let u := (z + (z.toUInt32 >>> ((4 : Int32).toUInt32 &&& Int32.toUInt32 31)).toInt32) &&& 252645135
  let v := u + (u.toUInt32 >>> ((8 : Int32).toUInt32 &&& Int32.toUInt32 31)).toInt32
  let t := v + (v.toUInt32 >>> ((16 : Int32).toUInt32 &&& Int32.toUInt32 31)).toInt32
  t &&& 63
theorem bcx_ok : (List.range 512).all (fun m => decide (bcx (nI m) = nI (pcn m))) = true := by decide +kernel
theorem r_bitCount {E : am_E} (hi : am_inj E) {k m : Nat} (hm : m < 512) (I : am_I) (w : Int64) : am_Ret E k Y_Int_bitCount [.int (nI m)] I w (am_eq (some (.int (nI (pcn m)))) I w) := by
  refine am_intro (pv_Int_bitCount E k) (by decide) hi ?_ rfl rfl ?_
  · rintro _ _ _ ⟨rfl, rfl, rfl⟩; rfl
  intro S hS
  refine am_at hS (fun _ => false) 80 0 ?_
  have e : bcx (nI m) = nI (pcn m) := of_decide_eq_true (List.all_eq_true.mp bcx_ok m (List.mem_range.mpr hm))
  refine ⟨?_, rfl, rfl⟩
  rw [← e]
  rfl

theorem r_isTogether {E : am_E} (hi : am_inj E) {k m a b : Nat} (hm : m < 512) (ha : a < 9) (hb : b < 9) (I : am_I) (w : Int64) : am_Ret E k Y_TC_isTogether [.int (nI m), .int (nI a), .int (nI b)] I w (am_eq (some (.int (bi (m.testBit a == m.testBit b)))) I w) := by
  refine am_intro (pv_TC_isTogether E k) (by decide) hi ?_ rfl rfl ?_
  · rintro _ _ _ ⟨rfl, rfl, rfl⟩; exact bi_nr _
  intro S hS
  have e : ((nI m >>> (nI a &&& 31)) ^^^ (nI m >>> (nI b &&& 31))) &&& 1 = bi (!(m.testBit a == m.testBit b)) := by
    have e1 := nI_bit (x := m) (a := a) (by omega) (by omega)
    have e2 := nI_bit (x := m) (a := b) (by omega) (by omega)
    rw [nI_shr (by omega) (by omega), nI_and1 _ (by have := Nat.div_le_self m (2 ^ a); omega)] at e1
    rw [nI_shr (by omega) (by omega), nI_and1 _ (by have := Nat.div_le_self m (2 ^ b); omega)] at e2
    rw [nI_shr (by omega) (by omega), nI_shr (by omega) (by omega), nI_xor]
    rw [pk_andN (n := m / 2 ^ a ^^^ m / 2 ^ b) (Nat.xor_lt_two_pow (n := 32) (by have := Nat.div_le_self m (2 ^ a); omega) (by have := Nat.div_le_self m (2 ^ b); omega)) 1 (by decide)]
    rw [Nat.testBit_eq_decide_div_mod_eq, Nat.testBit_eq_decide_div_mod_eq]
    rw [show (2 : Nat) ^ 1 = 2 from rfl, show (m / 2 ^ a ^^^ m / 2 ^ b) % 2 = (m / 2 ^ a) % 2 ^^^ (m / 2 ^ b) % 2 from Nat.xor_mod_two_pow (n := 1)]
    rcases Nat.mod_two_eq_zero_or_one (m / 2 ^ a) with h | h <;> rcases Nat.mod_two_eq_zero_or_one (m / 2 ^ b) with h' | h' <;> rw [h, h'] <;> rfl
  refine am_at hS (fun _ => false) 40 0 ?_
  refine ⟨fun h => ⟨?_, rfl, rfl⟩, fun h => ⟨?_, rfl, rfl⟩⟩
  · rw [e, bi_eq0] at h
    rw [Bool.not_eq_false'] at h
    rw [h]; rfl
  · rw [e, bi_eq0] at h
    have h' : (m.testBit a == m.testBit b) = false := by
      cases hx : (m.testBit a == m.testBit b) <;> simp_all
    rw [h']; rfl
theorem r_isKind {E : am_E} (hi : am_inj E) {k : Nat} (x : Int32) (I : am_I) (w : Int64) : am_Ret E k Y_TC_isKind [.int x] I w (am_eq (some (.int (bi (inb x 6)))) I w) := by
  refine am_intro (pv_TC_isKind E k) (by decide) hi ?_ rfl rfl ?_
  · rintro _ _ _ ⟨rfl, rfl, rfl⟩; exact bi_nr _
  intro S hS
  refine am_at hS (fun _ => false) 40 0 ?_
  exact ⟨fun h => ⟨by rw [inb_ff1 h]; rfl, rfl, rfl⟩, fun h => ⟨fun h2 => ⟨by rw [inb_tt (N := 6) h h2 (by decide)]; rfl, rfl, rfl⟩, fun h2 => ⟨by rw [inb_ff2 (N := 6) h2 (by decide)]; rfl, rfl, rfl⟩⟩⟩
theorem r_isSheet {E : am_E} (hi : am_inj E) {k : Nat} (x : Int32) (I : am_I) (w : Int64) : am_Ret E k Y_TC_isSheet [.int x] I w (am_eq (some (.int (bi (inb x 4)))) I w) := by
  refine am_intro (pv_TC_isSheet E k) (by decide) hi ?_ rfl rfl ?_
  · rintro _ _ _ ⟨rfl, rfl, rfl⟩; exact bi_nr _
  intro S hS
  refine am_at hS (fun _ => false) 40 0 ?_
  exact ⟨fun h => ⟨by rw [inb_ff1 h]; rfl, rfl, rfl⟩, fun h => ⟨fun h2 => ⟨by rw [inb_tt (N := 4) h h2 (by decide)]; rfl, rfl, rfl⟩, fun h2 => ⟨by rw [inb_ff2 (N := 4) h2 (by decide)]; rfl, rfl, rfl⟩⟩⟩
theorem r_isPrice {E : am_E} (hi : am_inj E) {k : Nat} (x : Int32) (I : am_I) (w : Int64) : am_Ret E k Y_TC_isPrice [.int x] I w (am_eq (some (.int (bi (inb x 100)))) I w) := by
  refine am_intro (pv_TC_isPrice E k) (by decide) hi ?_ rfl rfl ?_
  · rintro _ _ _ ⟨rfl, rfl, rfl⟩; exact bi_nr _
  intro S hS
  refine am_at hS (fun _ => false) 40 0 ?_
  have e : (99 : Int32).toInt = 99 := by decide
  refine ⟨fun h => ⟨by rw [inb_ff1 h]; rfl, rfl, rfl⟩, fun h => ⟨fun h2 => ⟨?_, rfl, rfl⟩, fun h2 => ⟨?_, rfl, rfl⟩⟩⟩
  · rw [inb_ff2 (N := 100) (by rw [i_lt] at h2 ⊢; rw [nI_toInt (by decide)]; omega) (by decide)]; rfl
  · rw [inb_tt (N := 100) h (by rw [i_lt] at h2 ⊢; rw [nI_toInt (by decide)]; omega) (by decide)]; rfl
/-- a camp: 0 .. 3, 9 -/
def icp (x : Int32) : Bool := inb x 4 || x == 9
theorem r_isCamp {E : am_E} (hi : am_inj E) {k : Nat} (x : Int32) (I : am_I) (w : Int64) : am_Ret E k Y_TC_isCamp [.int x] I w (am_eq (some (.int (bi (icp x)))) I w) := by
  refine am_intro (pv_TC_isCamp E k) (by decide) hi ?_ rfl rfl ?_
  · rintro _ _ _ ⟨rfl, rfl, rfl⟩; exact bi_nr _
  intro S hS
  refine am_at hS (fun _ => false) 40 0 ?_
  refine ⟨fun h => ⟨fun h2 => ⟨?_, rfl, rfl⟩, fun h2 => ⟨?_, rfl, rfl⟩⟩, fun h => ⟨fun h2 => ⟨?_, rfl, rfl⟩, fun h2 => ⟨fun h3 => ⟨?_, rfl, rfl⟩, fun h3 => ⟨?_, rfl, rfl⟩⟩⟩⟩
  · subst h2; rfl
  · simp [icp, inb_ff1 h, beq_eq_false_iff_ne.mpr h2]; rfl
  · simp [icp, inb_tt (N := 4) h h2 (by decide)]; rfl
  · subst h3; rfl
  · simp [icp, inb_ff2 (N := 4) h2 (by decide), beq_eq_false_iff_ne.mpr h3]; rfl
theorem r_isCamping {E : am_E} (hi : am_inj E) {k C : Nat} (hC : C < 2 ^ 31) (x : Int32) (I : am_I) (w : Int64) (h0 : I 0 11 = nI C) : am_Ret E k Y_TC_isCamping [.ref 0, .int x] I w (am_eq (some (.int (bi (inb x C)))) I w) := by
  refine am_intro (pv_TC_isCamping E k) (by decide) hi ?_ rfl rfl ?_
  · rintro _ _ _ ⟨rfl, rfl, rfl⟩; exact bi_nr _
  intro S hS
  refine am_at hS (fun _ => false) 40 0 ?_
  refine ⟨fun h => ⟨by rw [inb_ff1 h]; rfl, rfl, rfl⟩, fun h => ⟨fun h2 => ⟨?_, rfl, rfl⟩, fun h2 => ⟨?_, rfl, rfl⟩⟩⟩
  · rw [h0] at h2; rw [inb_tt h h2 hC]; rfl
  · rw [h0] at h2; rw [inb_ff2 h2 hC]; rfl
theorem r_hasP {E : am_E} (hi : am_inj E) {k C : Nat} (hC : C < 2 ^ 31) (x : Int32) (I : am_I) (w : Int64) (h0 : I 1 0 = nI C) : am_Ret E k Y_People_has [.ref 1, .int x] I w (am_eq (some (.int (bi (inb x C)))) I w) := by
  refine am_intro (pv_People_has E k) (by decide) hi ?_ rfl rfl ?_
  · rintro _ _ _ ⟨rfl, rfl, rfl⟩; exact bi_nr _
  intro S hS
  refine am_at hS (fun _ => false) 40 0 ?_
  refine ⟨fun h => ⟨by rw [inb_ff1 h]; rfl, rfl, rfl⟩, fun h => ⟨fun h2 => ⟨?_, rfl, rfl⟩, fun h2 => ⟨?_, rfl, rfl⟩⟩⟩
  · rw [h0] at h2; rw [inb_tt h h2 hC]; rfl
  · rw [h0] at h2; rw [inb_ff2 h2 hC]; rfl
theorem r_hasF {E : am_E} (hi : am_inj E) {k C : Nat} (hC : C < 2 ^ 31) (x : Int32) (I : am_I) (w : Int64) (h0 : I 7 0 = nI C) : am_Ret E k Y_Feelings_has [.ref 7, .int x] I w (am_eq (some (.int (bi (inb x C)))) I w) := by
  refine am_intro (pv_Feelings_has E k) (by decide) hi ?_ rfl rfl ?_
  · rintro _ _ _ ⟨rfl, rfl, rfl⟩; exact bi_nr _
  intro S hS
  refine am_at hS (fun _ => false) 40 0 ?_
  refine ⟨fun h => ⟨by rw [inb_ff1 h]; rfl, rfl, rfl⟩, fun h => ⟨fun h2 => ⟨?_, rfl, rfl⟩, fun h2 => ⟨?_, rfl, rfl⟩⟩⟩
  · rw [h0] at h2; rw [inb_tt h h2 hC]; rfl
  · rw [h0] at h2; rw [inb_ff2 h2 hC]; rfl
/-- two PEOPLE there are, not the same -/
def two (a b : Int32) (N : Nat) : Bool := inb a N && (inb b N && !(a == b))
theorem r_hasTwo {E : am_E} (hi : am_inj E) {k N : Nat} (hk : 1 ≤ k) (hN : N < 2 ^ 31) (a b : Int32) (I : am_I) (w : Int64) (h0 : I 1 0 = nI N) : am_Ret E k Y_People_hasTwo [.ref 1, .int a, .int b] I w (am_eq (some (.int (bi (two a b N)))) I w) := by
  refine am_intro (pv_People_hasTwo E k) (by decide) hi ?_ rfl rfl ?_
  · rintro _ _ _ ⟨rfl, rfl, rfl⟩; exact bi_nr _
  intro S hS
  refine am_at hS (fun _ => false) 40 0 ?_
  refine ⟨_, _, (by omega : k - 1 < k), r_hasP hi hN a I w h0, am_elim ?_⟩
  refine ⟨fun h5 => ?_, fun h5 => ?_⟩
  · skip
    refine ⟨?_, rfl, rfl⟩
    rw [bi_eq0] at h5
    simp [two, h5]; rfl
  · skip
    refine ⟨_, _, (by omega : k - 1 < k), r_hasP hi hN b I w h0, am_elim ?_⟩
    refine ⟨fun h13 => ?_, fun h13 => ?_⟩
    · skip
      refine ⟨?_, rfl, rfl⟩
      rw [bi_eq0] at h5 h13
      simp [two, h13]; rfl
    · skip
      refine ⟨fun h18 => ?_, fun h18 => ?_⟩
      · skip
        refine ⟨?_, rfl, rfl⟩
        simp [two, h18]; rfl
      · skip
        refine ⟨?_, rfl, rfl⟩
        rw [bi_eq0, Bool.not_eq_false] at h5 h13
        simp [two, h5, h13, beq_eq_false_iff_ne.mpr h18]; rfl
