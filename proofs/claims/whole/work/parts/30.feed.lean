/-! the tape: feed of both -/
def bq (x : Int64) (i : Nat) : Nat := (x >>> ((8 * nI i).toInt64 &&& 63)).toInt32.toBitVec.toNat % 2 ^ 8
theorem bq_lt {x : Int64} {i : Nat} : bq x i < 256 := Nat.mod_lt _ (by decide)
theorem bq_c {x : Int64} {i : Nat} : (x >>> ((8 * nI i).toInt64 &&& 63)).toInt32 &&& 255 = nI (bq x i) := pk_and _ 8 (by decide)
theorem bq_m {x : Int64} {i : Nat} : (x >>> ((8 * nI i).toInt64 &&& 63) &&& 255).toInt32 = nI (bq x i) := by
  rw [Int64.toInt32_and]
  exact bq_c
def tC (I : am_I) (n : Nat) (b : Nat → Nat) : Prop := I 23 0 = nI n ∧ ∀ i, i < n → I 24 i = nI (b i)
def tR (I : am_I) (n : Nat) (b : Nat → Nat) : Prop := I 88 6 = nI n ∧ ∀ i, i < n → I 91 i = nI (b i)
def wft (n : Nat) (b : Nat → Nat) : Prop := n ≤ 160 ∧ ∀ i, i < n → b i < 256
def isf (v : Int32) : Bool := !decide (v < 1) && !decide (8 < v)
theorem isf_of {v : Int32} (h : isf v = true) : ∃ m, 1 ≤ m ∧ m ≤ 8 ∧ v = nI m := by
  unfold isf at h
  rw [Bool.and_eq_true, Bool.not_eq_true', Bool.not_eq_true', decide_eq_false_iff_not, decide_eq_false_iff_not, i_lt, i_lt] at h
  have e1 : (1 : Int32).toInt = 1 := rfl
  have e2 : (8 : Int32).toInt = 8 := rfl
  have e3 : (nI 9).toInt = 9 := rfl
  obtain ⟨m, hm, rfl⟩ := inb_of (N := 9) (inb_tt (x := v) (by rw [i_lt]; have e0 : (0 : Int32).toInt = 0 := rfl; omega) (by rw [i_lt]; omega) (by decide)) (by decide)
  rw [nI_toInt (by omega)] at h
  exact ⟨m, by omega, by omega, rfl⟩
theorem inl_8 (v : Int32) : inl v.toInt64 1 8 = isf v := by
  rw [inl_r]
  unfold isf
  rw [show (1 : Int64).toInt = 1 from rfl, show (8 : Int64).toInt = 8 from rfl, ← decide_not, ← decide_not]
  have e1 : (1 : Int32).toInt = 1 := rfl
  have e2 : (8 : Int32).toInt = 8 := rfl
  congr 1 <;> apply decide_eq_decide.mpr <;> rw [i_lt] <;> omega
def fdb (n : Nat) (b : Nat → Nat) (x : Int64) (i : Nat) : Nat := if i < n then b i else bq x (i - n)
/-- its answer, how many bytes there are then -/
def aFeed (n : Nat) (v : Int32) : Int32 × Nat := cond (isf v) (cond (decide (160 < n + v.toNatClampNeg)) (-4, n) (nI (n + v.toNatClampNeg), n + v.toNatClampNeg)) (-2, n)
theorem wf_feed {n : Nat} {b : Nat → Nat} (zt : wft n b) (v : Int32) (x : Int64) : wft (aFeed n v).2 (fdb n b x) := by
  have old : wft n (fdb n b x) := ⟨zt.1, fun i hi => by unfold fdb; rw [if_pos hi]; exact zt.2 i hi⟩
  unfold aFeed
  cases isf v with
  | false => exact old
  | true =>
    by_cases h : 160 < n + v.toNatClampNeg
    · rw [decide_eq_true h]; exact old
    · rw [decide_eq_false h]
      refine ⟨by show n + v.toNatClampNeg ≤ 160; omega, fun i _ => ?_⟩
      unfold fdb
      by_cases q : i < n
      · rw [if_pos q]; exact zt.2 i q
      · rw [if_neg q]; exact bq_lt
theorem fdb_old {n : Nat} {b : Nat → Nat} {x : Int64} {i : Nat} (h : i < n) : fdb n b x i = b i := if_pos h
theorem fdb_new {n : Nat} {b : Nat → Nat} {x : Int64} {i : Nat} : fdb n b x (n + i) = bq x i := by
  unfold fdb
  rw [if_neg (by omega), show n + i - n = i by omega]
theorem r_tadd {E : am_E} (zi : am_inj E) {k : Nat} {I : am_I} (w : Int64) {n : Nat} (hn : n < 160) (h0 : I 23 0 = nI n) (v : Int32) : am_Ret E k Y_Tape_add [.ref 23, .int v] I w (am_eq none (am_up (am_up I 24 n v) 23 0 (nI (n + 1))) w) := by
  refine am_intro (pv_Tape_add E k) (by decide) zi ?_ rfl rfl ?_
  · rintro _ _ _ ⟨rfl, -⟩; trivial
  intro S hS
  refine am_at hS (fun _ => false) 60 0 ?_
  refine ⟨by rw [h0]; exact vp_in_nI (by omega) (by omega), ?_⟩
  rw [h0, nI_clamp (by omega)]
  refine ⟨rfl, ?_, rfl⟩
  rw [show am_up I 24 n v 23 0 = nI n by rw [am_up_ne (by decide)]; exact h0, nI_1]
theorem feed_cmp {n m : Nat} (hn : n ≤ 160) (hm : m ≤ 8) : ((160 : Int32) < nI n + nI m) = (160 < n + m) := by
  rw [nI_add, show (160 : Int32) = nI 160 from rfl, nlt (by decide) (by omega)]
theorem c_feed {E : am_E} (zi : am_inj E) {k : Nat} (hk : 1 ≤ k) {n : Nat} {b : Nat → Nat} (zt : wft n b) {I : am_I} (zT : tC I n b) (w : Int64) (v : Int32) (x : Int64) :
    am_Ret E k Y_TC_feed [.ref 0, .int v, .long x] I w (fun q I' w' => q = some (.int (aFeed n v).1) ∧ w' = w ∧ tC I' (aFeed n v).2 (fdb n b x) ∧ am_fr [23, 24] I I') := by
  refine am_intro (pv_TC_feed E k) (by decide) zi ?_ rfl rfl ?_
  · rintro _ _ _ ⟨rfl, -⟩; rfl
  intro S hS
  have h16 := zt.1
  have old : tC I n (fdb n b x) := ⟨zT.1, fun i hi => by rw [fdb_old hi]; exact zT.2 i hi⟩
  unfold aFeed at hS
  refine am_at hS (fun t => Nat.beq t 35) 60 0 ?_
  refine ⟨fun h2 => ?_, fun h2 => ?_⟩
  · rw [show isf v = false by unfold isf; rw [decide_eq_true h2]; rfl]
    exact ⟨rfl, rfl, old, am_fr.refl⟩
  refine ⟨fun h8 => ?_, fun h8 => ?_⟩
  · rw [show isf v = false by unfold isf; rw [decide_eq_true (show 8 < v from h8)]; exact Bool.and_false _]
    exact ⟨rfl, rfl, old, am_fr.refl⟩
  have hv : isf v = true := by unfold isf; rw [decide_eq_false h2, decide_eq_false (show ¬ 8 < v from h8)]; rfl
  obtain ⟨m, hm1, hm8, rfl⟩ := isf_of hv
  rw [hv, nI_clamp (by omega)] at hS
  rw [hv, nI_clamp (by omega)]
  refine ⟨fun h26 => ?_, fun h26 => ?_⟩
  · have h : 160 < n + m := by rw [← feed_cmp h16 hm8, ← zT.1]; exact h26
    rw [decide_eq_true h]
    exact ⟨rfl, rfl, old, am_fr.refl⟩
  have h : ¬ 160 < n + m := by rw [← feed_cmp h16 hm8, ← zT.1]; exact h26
  rw [decide_eq_false h] at hS
  have loop := down (P := fun i => ∀ J, am_fr [23, 24] I J → tC J (n + i) (fdb n b x) → S 35 [some (.ref 0), some (.int (nI m)), some (.long x), none, some (.int (nI i))] [] J w) m ?z ?s
  case z =>
    intro J hJ zJ
    refine am_at hS (fun t => Nat.beq t 35) 60 35 ?_
    refine ⟨fun q => absurd q (nI_nlt (Nat.le_refl _) (by omega)), fun _ => ⟨congrArg (fun z => some (Value.int z)) zJ.1, rfl, zJ, hJ⟩⟩
  case s =>
    intro i hi hn J hJ zJ
    refine am_at hS (fun t => Nat.beq t 35) 60 35 ?_
    refine ⟨fun _ => ?_, fun q => absurd (nI_lt hi (by omega)) q⟩
    refine ⟨_, _, (by omega : k - 1 < k), r_tadd zi w (by omega) zJ.1 _, am_elim ?_⟩
    rw [bq_c]
    have hgo := hn (am_up (am_up J 24 (n + i) (nI (bq x i))) 23 0 (nI (n + i + 1))) (am_fr.up (am_fr.up hJ (by decide)) (by decide)) ⟨by rw [am_up_fup, fup_self]; rfl, fun j hj => ?_⟩
    · rw [← nI_1] at hgo
      exact hgo
    · rw [am_up_ne (by decide), am_up_fup]
      by_cases e : j = n + i
      · rw [e, fup_self, fdb_new]
      · rw [fup_ne e]; exact zJ.2 j (by omega)
  exact loop 0 (Nat.zero_le _) I am_fr.refl old
theorem m_feed {E : am_E} (zi : am_inj E) {k : Nat} (hk : 1 ≤ k) {n : Nat} {b : Nat → Nat} (zt : wft n b) {I : am_I} (zT : tR I n b) (w : Int64) (v : Int32) (x : Int64) :
    am_Ret E k Y_MO_feed [.ref 88, .int v, .long x] I w (fun q I' w' => q = some (.int (aFeed n v).1) ∧ w' = w ∧ tR I' (aFeed n v).2 (fdb n b x) ∧ am_fs 88 [6] [91] I I') := by
  refine am_intro (pv_MO_feed E k) (by decide) zi ?_ rfl rfl ?_
  · rintro _ _ _ ⟨rfl, -⟩; rfl
  intro S hS
  have h16 := zt.1
  have old : tR I n (fdb n b x) := ⟨zT.1, fun i hi => by rw [fdb_old hi]; exact zT.2 i hi⟩
  unfold aFeed at hS
  refine am_at hS (fun t => Nat.beq t 33) 60 0 ?_
  refine ⟨_, _, (by omega : k - 1 < k), r_in zi I w _ _ _, am_elim ?_⟩
  rw [inl_8]
  refine ⟨fun h9 => ?_, fun h9 => ?_⟩
  · rw [bi_eq0] at h9
    rw [h9]
    exact ⟨rfl, rfl, old, am_fs.refl⟩
  rw [bi_eq0, Bool.not_eq_false] at h9
  obtain ⟨m, hm1, hm8, rfl⟩ := isf_of h9
  rw [h9, nI_clamp (by omega)] at hS
  rw [h9, nI_clamp (by omega)]
  refine ⟨fun h26 => ?_, fun h26 => ?_⟩
  · have h : 160 < n + m := by rw [← feed_cmp h16 hm8, ← zT.1]; exact h26
    rw [decide_eq_true h]
    exact ⟨rfl, rfl, old, am_fs.refl⟩
  have h : ¬ 160 < n + m := by rw [← feed_cmp h16 hm8, ← zT.1]; exact h26
  rw [decide_eq_false h] at hS
  have loop := down (P := fun i => ∀ J, am_fs 88 [6] [91] I J → tR J (n + i) (fdb n b x) → S 33 [some (.ref 88), some (.int (nI m)), some (.long x), none, some (.int (nI i))] [] J w) m ?z ?s
  case z =>
    intro J hJ zJ
    refine am_at hS (fun t => Nat.beq t 33) 60 33 ?_
    refine ⟨fun q => absurd q (nI_nlt (Nat.le_refl _) (by omega)), fun _ => ⟨congrArg (fun z => some (Value.int z)) zJ.1, rfl, zJ, hJ⟩⟩
  case s =>
    intro i hi hn J hJ zJ
    refine am_at hS (fun t => Nat.beq t 33) 60 33 ?_
    refine ⟨fun _ => ?_, fun q => absurd (nI_lt hi (by omega)) q⟩
    refine ⟨by rw [zJ.1]; exact vp_in_nI (by omega) (by omega), ?_⟩
    rw [bq_m, zJ.1, nI_clamp (by omega)]
    have e6 : am_up J 91 (n + i) (nI (bq x i)) 88 6 + 1 = nI (n + i + 1) := by rw [am_up_ne (by decide), zJ.1, nI_1]
    have hgo := hn (am_up (am_up J 91 (n + i) (nI (bq x i))) 88 6 (nI (n + i + 1))) (am_fs.upo (am_fs.up hJ (by decide) (by decide)) (by decide)) ⟨by rw [am_up_fup, fup_self]; rfl, fun j hj => ?_⟩
    · rw [← nI_1 i, ← e6] at hgo
      exact hgo
    · rw [am_up_ne (by decide), am_up_fup]
      by_cases e : j = n + i
      · rw [e, fup_self, fdb_new]
      · rw [fup_ne e]; exact zJ.2 j (by omega)
  exact loop 0 (Nat.zero_le _) I am_fs.refl old

