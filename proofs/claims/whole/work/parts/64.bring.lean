/-! bring of both -/
def so0 (V : Tx) (r : Nat) (σ : St) : Nat := (lA V r σ).getD 0 0
def bad1 (so told a b m : Nat) : Bool := ((m ^^^ so) &&& told == 0) && !tg m a b
def enB (V : Tx) (r : Nat) (σ : St) (a b told : Nat) : Bool := decide (cnt (fun i => bad1 (so0 V r σ) told a b ((lA V r σ).getD i 0)) (lA V r σ).length = 0)
def few (t : Nat) : Option Nat → Bool
  | none => true
  | some g => decide (pcn t < pcn g)
def fbN (V : Tx) (r : Nat) (σ : St) (a b : Nat) : Nat → Option Nat
  | 0 => none
  | t + 1 => cond ((t &&& (2 ^ a ||| 2 ^ b) == 0) && (few t (fbN V r σ a b t) && enB V r σ a b t)) (some t) (fbN V r σ a b t)
theorem fbN_lt {V : Tx} {r : Nat} {σ : St} {a b g : Nat} : ∀ {t : Nat}, fbN V r σ a b t = some g → g < t
  | 0, h => by cases h
  | t + 1, h => by
    rw [fbN] at h
    cases hc : ((t &&& (2 ^ a ||| 2 ^ b) == 0) && (few t (fbN V r σ a b t) && enB V r σ a b t)) with
    | true => rw [hc] at h; cases h; exact Nat.lt_succ_self _
    | false => rw [hc] at h; exact Nat.lt_succ_of_lt (fbN_lt h)
def aBring (V : Tx) (r : Nat) (σ : St) (a b : Int32) : Int32 := cond (two a b (sN σ)) (if mA V r σ = none then -3 else cond (tg (so0 V r σ) a.toNatClampNeg b.toNatClampNeg) (enc (fbN V r σ a.toNatClampNeg b.toNatClampNeg (2 ^ sN σ))) (-3)) (-2)
theorem pcn_9 {m : Nat} : pcn m ≤ 9 := by
  unfold pcn
  exact Nat.le_trans (List.countP_le_length) (by decide)
theorem and2_0 {t a b : Nat} : (t &&& (2 ^ a ||| 2 ^ b) == 0) = (!t.testBit a && !t.testBit b) := by
  rw [Bool.eq_iff_iff, beq_iff_eq, Bool.and_eq_true, Bool.not_eq_true', Bool.not_eq_true']
  constructor
  · intro h
    have key : ∀ j, (j = a ∨ j = b) → t.testBit j = false := fun j hj => by
      have h2 := congrArg (fun z => z.testBit j) h
      simp only [Nat.testBit_and, Nat.testBit_or, Nat.testBit_two_pow, Nat.zero_testBit] at h2
      rcases hj with rfl | rfl <;> simpa using h2
    exact ⟨key a (Or.inl rfl), key b (Or.inr rfl)⟩
  · rintro ⟨h1, h2⟩
    apply Nat.eq_of_testBit_eq
    intro j
    rw [Nat.testBit_and, Nat.testBit_or, Nat.testBit_two_pow, Nat.testBit_two_pow, Nat.zero_testBit]
    by_cases ea : a = j
    · rw [← ea, h1]; rfl
    · by_cases eb : b = j
      · rw [← eb, h2]; rfl
      · rw [decide_eq_false ea, decide_eq_false eb, Bool.or_false, Bool.and_false]
theorem lA_first {V : Tx} {r : Nat} {σ : St} {x : Nat} (hm : mA V r σ = some x) : ∃ u, u < hN (sN σ) ∧ vv V r σ u = some x ∧ (∀ t, t < u → ¬ vv V r σ t = some x) ∧ so0 V r σ = 2 * u := by
  obtain ⟨w0, h1, h2⟩ := ls_mem hm
  obtain ⟨u, hu, hmin⟩ := pk_least (fun u => vv V r σ u = some x) ⟨w0, h2⟩
  have hlt : u < hN (sN σ) := by
    apply Classical.byContradiction
    intro q
    exact hmin w0 (by omega) h2
  refine ⟨u, hlt, hu, hmin, ?_⟩
  unfold so0
  rw [lA_of hm]
  have := al_get hu _ hlt
  rw [alN_nil u hmin] at this
  exact this
theorem so_lt {V : Tx} {r : Nat} {σ : St} (zw : wf σ) {x : Nat} (hm : mA V r σ = some x) : so0 V r σ < 512 := lA_lt zw (lA_pos hm)
theorem r_isEnough {E : am_E} (zi : am_inj E) {k : Nat} (hk : 1 ≤ k) {σ : St} (zw : wf σ) {I : am_I} {V : Tx} {r : Nat} (hB : BS I (mA V r σ, lA V r σ)) (w : Int64) {x : Nat} (hm : mA V r σ = some x) {told a b : Nat} (ht : told < 512) (ha : a < 9) (hb : b < 9) :
    am_Ret E k Y_Best_isEnough [.ref 76, .int (nI told), .int (nI a), .int (nI b)] I w (am_eq (some (.int (bi (enB V r σ a b told)))) I w) := by
  refine am_intro (pv_Best_isEnough E k) (by decide) zi ?_ rfl rfl ?_
  · rintro _ _ _ ⟨rfl, -⟩; exact bi_nr _
  intro S hS
  have hl := lA_len (V := V) (r := r) zw
  have hpos := lA_pos hm
  obtain ⟨b1, b2, b3⟩ := hB
  have b2' : I 76 4 = nI (lA V r σ).length := b2
  have hs := so_lt zw hm
  have loop := down (P := fun t => cnt (fun i => bad1 (so0 V r σ) told a b ((lA V r σ).getD i 0)) t = 0 → S 3 [some (.ref 76), some (.int (nI told)), some (.int (nI a)), some (.int (nI b)), some (.int (nI t))] [] I w) (lA V r σ).length ?z ?s
  case z =>
    intro h0
    refine am_at hS (fun t => Nat.beq t 3) 60 3 ?_
    refine ⟨fun q => absurd q (by rw [b2']; exact nI_nlt (Nat.le_refl _) (by omega)), fun _ => ?_⟩
    unfold enB
    rw [decide_eq_true h0]
    exact ⟨rfl, rfl, rfl⟩
  case s =>
    intro t ht2 hn h0
    have hlt := lA_lt zw ht2
    refine am_at hS (fun t => Nat.beq t 3) 60 3 ?_
    refine ⟨fun _ => ?_, fun q => absurd (by rw [b2']; exact nI_lt ht2 (by omega)) q⟩
    refine ⟨vp_in_nI (by omega) (by omega), ?_⟩
    refine ⟨show vp_in (nI 0) 256 from vp_in_nI (by decide) (by decide), ?_⟩
    rw [nI_clamp (by omega), b3 t ht2, show (0 : Int32).toNatClampNeg = 0 from rfl, b3 0 hpos]
    have ex : (nI ((lA V r σ).getD t 0) ^^^ nI ((lA V r σ).getD 0 0)) &&& nI told = nI (((lA V r σ).getD t 0 ^^^ so0 V r σ) &&& told) := by
      rw [nI_xor, nI_and]
      rfl
    have hb2 : ((lA V r σ).getD t 0 ^^^ so0 V r σ) &&& told < 512 := Nat.lt_of_le_of_lt Nat.and_le_right ht
    have go : bad1 (so0 V r σ) told a b ((lA V r σ).getD t 0) = false → S 3 [some (.ref 76), some (.int (nI told)), some (.int (nI a)), some (.int (nI b)), some (.int (nI t + 1))] [] I w := fun h => by
      have := hn (by rw [cnt, h0, h]; rfl)
      rw [← nI_1] at this
      exact this
    refine ⟨fun h => ?_, fun h => ?_⟩
    · have h2 : (nI ((lA V r σ).getD t 0) ^^^ nI ((lA V r σ).getD 0 0)) &&& nI told = nI 0 := h
      rw [ex, neq (by omega) (by decide)] at h2
      refine ⟨vp_in_nI (by omega) (by omega), ?_⟩
      rw [nI_clamp (by omega), b3 t ht2]
      refine ⟨_, _, (by omega : k - 1 < k), r_isTogether zi hlt ha hb I w, am_elim ?_⟩
      refine ⟨fun h3 => ?_, fun h3 => ?_⟩
      · rw [bi_eq0] at h3
        have hbad : bad1 (so0 V r σ) told a b ((lA V r σ).getD t 0) = true := by
          unfold bad1 tg
          rw [h2, h3]
          rfl
        unfold enB
        rw [decide_eq_false (fun q => by
          have := (cnt_pos (Q := fun i => bad1 (so0 V r σ) told a b ((lA V r σ).getD i 0))).mpr ⟨t, ht2, hbad⟩
          omega)]
        exact ⟨rfl, rfl, rfl⟩
      · rw [bi_eq0, Bool.not_eq_false] at h3
        exact go (by unfold bad1 tg; rw [h3, Bool.not_true, Bool.and_false])
    · have h2 : ¬ (nI ((lA V r σ).getD t 0) ^^^ nI ((lA V r σ).getD 0 0)) &&& nI told = nI 0 := h
      rw [ex, neq (by omega) (by decide)] at h2
      exact go (by unfold bad1; rw [beq_eq_false_iff_ne.mpr h2]; rfl)
  exact am_at hS (fun t => Nat.beq t 3) 60 0 (loop 0 (Nat.zero_le _) rfl)
theorem r_fewest {E : am_E} (zi : am_inj E) {k : Nat} (hk : 2 ≤ k) {σ : St} (zw : wf σ) {I : am_I} (zC : CS I σ) {V : Tx} {r : Nat} (hB : BS I (mA V r σ, lA V r σ)) (w : Int64) {x : Nat} (hm : mA V r σ = some x) {a b : Nat} (ha : a < 9) (hb : b < 9) :
    am_Ret E k Y_Best_fewestToTell [.ref 76, .int (nI a), .int (nI b)] I w (am_eq (some (.int (enc (fbN V r σ a b (2 ^ sN σ))))) I w) := by
  refine am_intro (pv_Best_fewestToTell E k) (by decide) zi ?_ rfl rfl ?_
  · rintro _ _ _ ⟨rfl, -⟩; rfl
  intro S hS
  have h9 := zw.1
  have hp2 := p2_le h9
  have p1 : I 1 0 = nI (sN σ) := zC.1.1
  have e2 : ((1 : Int32) <<< (nI a &&& 31)) ||| ((1 : Int32) <<< (nI b &&& 31)) = nI (2 ^ a ||| 2 ^ b) := by rw [nI_shl1 (by omega), nI_shl1 (by omega), nI_or]
  have loop := down (P := fun t => ∀ x6, S 14 [some (.ref 76), some (.int (nI a)), some (.int (nI b)), some (.int (nI (2 ^ a ||| 2 ^ b))), some (.int (enc (fbN V r σ a b t))), some (.int (nI t)), x6] [] I w) (2 ^ sN σ) ?z ?s
  case z =>
    intro x6
    refine am_at hS (fun t => Nat.beq t 14) 90 14 ?_
    exact ⟨fun q => absurd q (by rw [p1, nI_shl1 (by omega)]; exact nI_nlt (Nat.le_refl _) (by omega)), fun _ => ⟨rfl, rfl, rfl⟩⟩
  case s =>
    intro t ht hn x6
    have ht5 : t < 512 := by omega
    have no : ((t &&& (2 ^ a ||| 2 ^ b) == 0) && (few t (fbN V r σ a b t) && enB V r σ a b t)) = false → ∀ x6, S 14 [some (.ref 76), some (.int (nI a)), some (.int (nI b)), some (.int (nI (2 ^ a ||| 2 ^ b))), some (.int (enc (fbN V r σ a b t))), some (.int (nI t + 1)), x6] [] I w := fun h x6 => by
      have := hn x6
      rw [fbN, h, cond_false, ← nI_1] at this
      exact this
    have a52 : ∀ q, q = few t (fbN V r σ a b t) → ∀ x6, S 52 [some (.ref 76), some (.int (nI a)), some (.int (nI b)), some (.int (nI (2 ^ a ||| 2 ^ b))), some (.int (enc (fbN V r σ a b t))), some (.int (nI t)), x6] [.int (bi q)] I w := fun q hq x6 => by
      subst hq
      refine am_at hS (fun t => Nat.beq t 14) 90 52 ?_
      have ea : nI t &&& nI (2 ^ a ||| 2 ^ b) = nI (t &&& (2 ^ a ||| 2 ^ b)) := nI_and _ _
      have hle : t &&& (2 ^ a ||| 2 ^ b) < 512 := Nat.lt_of_le_of_lt Nat.and_le_left ht5
      refine ⟨fun h => ?_, fun h => ?_⟩
      · have h2 : nI t &&& nI (2 ^ a ||| 2 ^ b) = nI 0 := h
        rw [ea, neq (by omega) (by decide)] at h2
        cases hf : few t (fbN V r σ a b t) with
        | false => exact ⟨fun _ => no (by rw [hf, Bool.false_and, Bool.and_false]) _, fun q => absurd rfl q⟩
        | true =>
          refine ⟨fun q => absurd (show (1 : Int32) = 0 from q) (by decide), fun _ => ?_⟩
          refine ⟨_, _, (by omega : k - 1 < k), r_isEnough zi (by omega) zw hB w hm ht5 ha hb, am_elim ?_⟩
          refine ⟨fun h3 => ?_, fun h3 => ?_⟩
          · rw [bi_eq0] at h3
            exact no (by rw [h3, Bool.and_false, Bool.and_false]) _
          · rw [bi_eq0, Bool.not_eq_false] at h3
            have := hn (some (.int (bi true)))
            rw [fbN, h2, hf, h3, ← nI_1] at this
            exact this
      · have h2 : ¬ nI t &&& nI (2 ^ a ||| 2 ^ b) = nI 0 := h
        rw [ea, neq (by omega) (by decide)] at h2
        exact no (by rw [beq_eq_false_iff_ne.mpr h2]; rfl) _
    refine am_at hS (fun t => Nat.beq t 14 || Nat.beq t 52) 90 14 ?_
    refine ⟨fun _ => ?_, fun q => absurd (by rw [p1, nI_shl1 (by omega)]; exact nI_lt ht (by omega)) q⟩
    cases hf : fbN V r σ a b t with
    | none =>
      rw [hf] at a52
      exact ⟨fun _ => a52 true rfl _, fun q => absurd rfl q⟩
    | some g =>
      have hg := fbN_lt hf
      rw [hf] at a52
      refine ⟨fun q => absurd q (nI_ne1 (by omega)), fun _ => ?_⟩
      refine ⟨_, _, (by omega : k - 1 < k), r_bitCount zi ht5 I w, am_elim ?_⟩
      refine ⟨_, _, (by omega : k - 1 < k), r_bitCount zi (show g < 512 by omega) I w, am_elim ?_⟩
      have q1 := pcn_9 (m := t)
      have q2 := pcn_9 (m := g)
      refine ⟨fun h => ?_, fun h => ?_⟩
      · rw [nlt (by omega) (by omega)] at h
        exact a52 true (by show true = decide (pcn t < pcn g); rw [decide_eq_true h]) _
      · rw [nlt (by omega) (by omega)] at h
        exact a52 false (by show false = decide (pcn t < pcn g); rw [decide_eq_false h]) _
  refine am_at hS (fun t => Nat.beq t 14) 90 0 ?_
  have hq := loop 0 (Nat.zero_le _) none
  rw [← e2] at hq
  exact hq
theorem c_bring {E : am_E} (zi : am_inj E) {k : Nat} (hk : 6 ≤ k) {σ : St} (zw : wf σ) {I : am_I} (zC : CS I σ) (w : Int64) {T r : Nat} {V : Tx} (zL : LC I T r V) (a b : Int32) :
    am_Ret E k Y_TC_bring [.ref 0, .int a, .int b] I w (fun q I' w' => q = some (.int (aBring V r σ a b)) ∧ w' = w ∧ am_fs 25 [7] cBs I I') := by
  refine am_intro (pv_TC_bring E k) (by decide) zi ?_ rfl rfl ?_
  · rintro _ _ _ ⟨rfl, -⟩; rfl
  intro S hS
  have h9 := zw.1
  have hl := lA_len (V := V) (r := r) zw
  unfold aBring at hS
  refine am_at hS (fun _ => false) 60 0 ?_
  refine ⟨_, _, (by omega : k - 1 < k), r_hasTwo zi (by omega) (by omega) a b I w zC.1.1, am_elim ?_⟩
  refine ⟨fun h => ?_, fun h => ?_⟩
  · rw [bi_eq0] at h
    rw [h]
    exact ⟨rfl, rfl, am_fs.refl⟩
  rw [bi_eq0, Bool.not_eq_false] at h
  obtain ⟨x, y, hx, hy, hxy, rfl, rfl⟩ := two_of h (by omega)
  rw [h, cond_true, nI_clamp (by omega), nI_clamp (by omega)]
  refine ⟨_, _, (by omega : k - 1 < k), r_search zi (by omega) zw zC w zL, ?_⟩
  rintro _ J w1 ⟨rfl, rfl, hW, hB, fJ⟩
  have b2' : J 76 4 = nI (lA V r σ).length := hB.2.1
  refine ⟨fun h2 => ?_, fun h2 => ?_⟩
  · rw [b2', size_0 zw] at h2
    rw [if_pos h2]
    exact ⟨rfl, rfl, fJ⟩
  rw [b2', size_0 zw] at h2
  rw [if_neg h2]
  cases hm : mA V r σ with
  | none => exact absurd hm h2
  | some v =>
    have hpos := lA_pos hm
    refine ⟨show vp_in (nI 0) 256 from vp_in_nI (by decide) (by decide), ?_⟩
    rw [show (0 : Int32).toNatClampNeg = 0 from rfl, hB.2.2 0 hpos]
    refine ⟨_, _, (by omega : k - 1 < k), r_isTogether zi (so_lt zw hm) (show x < 9 by omega) (show y < 9 by omega) J w1, am_elim ?_⟩
    refine ⟨fun h3 => ?_, fun h3 => ?_⟩
    · rw [bi_eq0] at h3
      rw [show tg (so0 V r σ) x y = false from h3]
      exact ⟨rfl, rfl, fJ⟩
    · rw [bi_eq0, Bool.not_eq_false] at h3
      rw [show tg (so0 V r σ) x y = true from h3]
      refine ⟨_, _, (by omega : k - 1 < k), r_fewest zi (by omega) zw (CS_bs fJ zC) hB w1 hm (by omega) (by omega), am_elim ?_⟩
      exact ⟨rfl, rfl, fJ⟩

