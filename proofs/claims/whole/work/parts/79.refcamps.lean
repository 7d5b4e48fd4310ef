/-! CAMPINGS: the reference's -/
abbrev Cz : Type := Nat × (Nat → Nat) × (Nat → Nat) × (Nat → Nat → Nat)
abbrev zN (z : Cz) : Nat := z.1
abbrev zK (z : Cz) : Nat → Nat := z.2.1
abbrev zS (z : Cz) : Nat → Nat := z.2.2.1
abbrev zV (z : Cz) : Nat → Nat → Nat := z.2.2.2
def wfz (z : Cz) : Prop := zN z ≤ 10 ∧ ∀ c, c < zN z → zK z c < 6 ∧ zS z c ≤ 9 ∧ ∀ p, isc (zV z c p)
def zA (z : Cz) (c p : Nat) : Nat := if p < zS z c then zV z c p else 0
theorem zA_isc {z : Cz} (h : wfz z) {c : Nat} (hc : c < zN z) (p : Nat) : isc (zA z c p) := by
  unfold zA
  split
  · exact (h.2 c hc).2.2 p
  · exact Or.inl (by decide)
def zR_ (I : am_I) (z : Cz) : Prop := I 88 32 = nI (zN z) ∧ ∀ c, c < zN z → I 100 c = nI (zK z c) ∧ I 101 c = nI (zS z c) ∧ ∀ p, p < zS z c → I 102 (9 * c + p) = nI (zV z c p)
theorem m_in9 {E : am_E} (zi : am_inj E) {k : Nat} {I : am_I} (w : Int64) {z : Cz} (hz : wfz z) (hR : zR_ I z) {c p : Nat} (hc : c < zN z) (hp : p < 9) : am_Ret E k Y_MO_in9 [.ref 88, .int (nI c), .int (nI p)] I w (am_eq (some (.int (nI (zA z c p)))) I w) := by
  refine am_intro (pv_MO_in9 E k) (by decide) zi ?_ rfl rfl ?_
  · rintro _ _ _ ⟨rfl, -⟩; rfl
  intro S hS
  obtain ⟨h1, h2⟩ := hz
  obtain ⟨k1, k2, k3⟩ := h2 c hc
  obtain ⟨r1, r2⟩ := hR
  obtain ⟨e1, e2, e3⟩ := r2 c hc
  unfold zA at hS
  refine am_at hS (fun _ => false) 60 0 ?_
  refine ⟨vp_in_nI (by omega) (by omega), ?_⟩
  rw [nI_clamp (by omega), e2]
  refine ⟨fun h => ?_, fun h => ?_⟩
  · rw [nlt (by omega) (by omega)] at h
    refine ⟨by rw [show (9 : Int32) = nI 9 from rfl, pk_mul, nI_add]; exact vp_in_nI (by omega) (by omega), ?_⟩
    rw [show (9 : Int32) = nI 9 from rfl, pk_mul, nI_add, nI_clamp (by omega), if_pos h]
    exact ⟨congrArg (fun y => some (Value.int y)) (e3 p h), rfl, rfl⟩
  · rw [nlt (by omega) (by omega)] at h
    rw [if_neg h]
    exact ⟨rfl, rfl, rfl⟩
theorem RS_cp {I J : am_I} {σ : St} (h : am_fs 88 [] [103] I J) (zR : RS I σ) : RS J σ := RS_fs h (fun q h1 h2 hz => by simp only [List.mem_cons, List.not_mem_nil, or_false] at hz; omega) (by decide) (by decide) zR
theorem zR_fs {I J : am_I} {z : Cz} {js l : List Nat} (h : am_fs 88 js l I J) (h32 : 32 ∉ js) (hl : 100 ∉ l ∧ 101 ∉ l ∧ 102 ∉ l) (hR : zR_ I z) : zR_ J z := by
  unfold zR_
  rw [h.2 32 h32, h.1 100 hl.1 (by decide), h.1 101 hl.2.1 (by decide), h.1 102 hl.2.2 (by decide)]
  exact hR
theorem m_looksAt {E : am_E} (zi : am_inj E) {k : Nat} (hk : 1 ≤ k) {σ : St} (zw : wf σ) {I : am_I} (zR : RS I σ) (w : Int64) {z : Cz} (hz : wfz z) (hR : zR_ I z) {c : Nat} (hc : c < zN z) :
    am_Ret E k Y_MO_looksAt [.ref 88, .int (nI c)] I w (fun q I' w' => q = none ∧ w' = w ∧ (∀ p, p < sN σ → I' 103 p = nI (zA z c p)) ∧ am_fs 88 [] [103] I I') := by
  refine am_intro (pv_MO_looksAt E k) (by decide) zi ?_ rfl rfl ?_
  · rintro _ _ _ ⟨rfl, -⟩; trivial
  intro S hS
  have h9 := zw.1
  have loop := down (P := fun p => ∀ J, (∀ q, q < p → J 103 q = nI (zA z c q)) → am_fs 88 [] [103] I J → S 2 [some (.ref 88), some (.int (nI c)), some (.int (nI p))] [] J w) (sN σ) ?z ?s
  case z =>
    intro J hA fJ
    refine am_at hS (fun t => Nat.beq t 2) 60 2 ?_
    exact ⟨fun q => absurd q (by rw [(RS_cp fJ zR).1.1]; exact nI_nlt (Nat.le_refl _) (by omega)), fun _ => ⟨rfl, rfl, hA, fJ⟩⟩
  case s =>
    intro p hp hn J hA fJ
    have zJ := RS_cp fJ zR
    refine am_at hS (fun t => Nat.beq t 2) 60 2 ?_
    refine ⟨fun _ => ?_, fun q => absurd (show nI p < J 88 9 by rw [zJ.1.1]; exact nI_lt hp (by omega)) q⟩
    refine ⟨_, _, (by omega : k - 1 < k), m_in9 zi w hz (zR_fs fJ (by decide) (by decide) hR) hc (by omega), am_elim ?_⟩
    refine ⟨vp_in_nI (by omega) (by omega), ?_⟩
    rw [nI_clamp (by omega)]
    have hq := hn (am_up J 103 p (nI (zA z c p))) (fun q hq => by
      by_cases e : q = p
      · rw [e, am_seq]
      · rw [am_sne e]; exact hA q (by omega)) (am_fs.up fJ (by decide) (by decide))
    rw [← nI_1] at hq
    exact hq
  exact am_at hS (fun t => Nat.beq t 2) 60 0 (loop 0 (Nat.zero_le _) I (fun q hq => absurd hq (by omega)) am_fs.refl)
def aA (I : am_I) (σ : St) (a : Nat → Nat) : Prop := (∀ p, isc (a p)) ∧ ∀ p, p < sN σ → I 103 p = nI (a p)
theorem m_isWrong {E : am_E} (zi : am_inj E) {k : Nat} {σ : St} (zw : wf σ) {I : am_I} (zR : RS I σ) (w : Int64) {a : Nat → Nat} (hA : aA I σ a) {f : Nat} (hf : f < sM σ) : am_Ret E k Y_MO_isWrong [.ref 88, .int (nI f)] I w (am_eq (some (.int (bi (wra σ a f)))) I w) := by
  refine am_intro (pv_MO_isWrong E k) (by decide) zi ?_ rfl rfl ?_
  · rintro _ _ _ ⟨rfl, -⟩; exact bi_nr _
  intro S hS
  have h9 := zw.1
  have h36 := sM_le zw
  have h3 := zw.2.1.1 f hf
  obtain ⟨e94, e95, e96, -⟩ := zR.2.2 f hf
  have bd : vp_in (nI f) 36 := vp_in_nI (by omega) (by omega)
  have cl : (nI f).toNatClampNeg = f := nI_clamp (by omega)
  have i1 := isc_lt (hA.1 (sL σ f))
  have i2 := isc_lt (hA.1 (sG σ f))
  have e1 := hA.2 (sL σ f) (by omega)
  have e2 := hA.2 (sG σ f) (by omega)
  obtain ⟨x, ex⟩ : ∃ x, x = a (sL σ f) := ⟨_, rfl⟩
  obtain ⟨y, ey⟩ : ∃ y, y = a (sG σ f) := ⟨_, rfl⟩
  unfold wra wrt at hS
  rw [← ex, ← ey] at hS
  rw [← ex] at e1 i1
  rw [← ey] at e2 i2
  refine am_at hS (fun _ => false) 60 0 ?_
  refine ⟨bd, ?_⟩
  rw [cl, e94]
  refine ⟨vp_in_nI (by omega) (by omega), ?_⟩
  rw [nI_clamp (by omega), e1]
  refine ⟨bd, ?_⟩
  rw [cl, e95]
  refine ⟨vp_in_nI (by omega) (by omega), ?_⟩
  rw [nI_clamp (by omega), e2]
  refine ⟨fun h => ?_, fun h => ?_⟩
  · have h : x = 9 := (neq (b := 9) (by omega) (by omega)).mp h
    rw [decide_eq_true h]
    exact ⟨rfl, rfl, rfl⟩
  have h : ¬ x = 9 := fun q => h ((neq (b := 9) (by omega) (by omega)).mpr q)
  rw [decide_eq_false h]
  refine ⟨fun g => ?_, fun g => ?_⟩
  · have g : y = 9 := (neq (b := 9) (by omega) (by omega)).mp g
    rw [decide_eq_true g]
    exact ⟨rfl, rfl, rfl⟩
  have g : ¬ y = 9 := fun q => g ((neq (b := 9) (by omega) (by omega)).mpr q)
  rw [decide_eq_false g]
  refine ⟨bd, ?_⟩
  rw [cl, e96]
  refine ⟨fun s => ?_, fun s => ?_⟩
  · rw [decide_eq_true (show 0 < sS σ f from s)]
    refine ⟨fun q => ?_, fun q => ?_⟩
    · rw [neq (by omega) (by omega)] at q
      rw [decide_eq_true q]
      exact ⟨rfl, rfl, rfl⟩
    · rw [neq (by omega) (by omega)] at q
      rw [decide_eq_false q]
      exact ⟨rfl, rfl, rfl⟩
  · rw [decide_eq_false (show ¬ 0 < sS σ f from s)]
    refine ⟨fun q => ?_, fun q => ?_⟩
    · rw [neq (by omega) (by omega)] at q
      rw [decide_eq_true q]
      exact ⟨rfl, rfl, rfl⟩
    · rw [neq (by omega) (by omega)] at q
      rw [decide_eq_false q]
      exact ⟨rfl, rfl, rfl⟩
def orA (a : Nat → Nat) : Nat → Nat
  | 0 => 0
  | p + 1 => orA a p ||| cond (decide (a p = 9)) 0 (2 ^ a p)
theorem orA_bit {a : Nat → Nat} {c : Nat} : ∀ p, (orA a p).testBit c = true ↔ ∃ q, q < p ∧ a q = c ∧ ¬ a q = 9
  | 0 => ⟨fun h => (by rw [orA, Nat.zero_testBit] at h; cases h), fun ⟨q, hq, _⟩ => absurd hq (Nat.not_lt_zero _)⟩
  | p + 1 => by
    rw [orA, Nat.testBit_or, Bool.or_eq_true, orA_bit p]
    have e : (cond (decide (a p = 9)) 0 (2 ^ a p)).testBit c = true ↔ a p = c ∧ ¬ a p = 9 := by
      by_cases h : a p = 9
      · rw [decide_eq_true h, cond_true, Nat.zero_testBit]
        exact ⟨fun q => (by cases q), fun q => absurd h q.2⟩
      · rw [decide_eq_false h, cond_false, Nat.testBit_two_pow, decide_eq_true_eq]
        exact ⟨fun q => ⟨q, h⟩, fun q => q.1⟩
    rw [e]
    constructor
    · rintro (⟨q, h1, h2⟩ | h)
      · exact ⟨q, by omega, h2⟩
      · exact ⟨p, by omega, h⟩
    · rintro ⟨q, h1, h2⟩
      by_cases e : q = p
      · subst e; exact Or.inr h2
      · exact Or.inl ⟨q, by omega, h2⟩
theorem orA_lt {a : Nat → Nat} (h : ∀ p, isc (a p)) : ∀ p, orA a p < 512
  | 0 => (by decide : 0 < 512)
  | p + 1 => by
    rw [orA]
    refine Nat.or_lt_two_pow (n := 9) (orA_lt h p) ?_
    by_cases e : a p = 9
    · rw [decide_eq_true e, cond_true]; decide
    · rw [decide_eq_false e, cond_false]
      have := h p
      unfold isc at this
      exact Nat.pow_lt_pow_right (by decide) (by omega)
theorem orA_usd {σ : St} {a : Nat → Nat} (h : ∀ p, isc (a p)) : pcn (orA a (sN σ)) = usd σ a := by
  have hb : ∀ c, 4 ≤ c → (orA a (sN σ)).testBit c = false := fun c hc => by
    cases e : (orA a (sN σ)).testBit c with
    | false => rfl
    | true =>
      obtain ⟨q, h1, h2, h3⟩ := (orA_bit _).mp e
      have := h q
      unfold isc at this
      omega
  rw [pcn_cnt, cnt, cnt, cnt, cnt, cnt, hb 8 (by omega), hb 7 (by omega), hb 6 (by omega), hb 5 (by omega), hb 4 (by omega)]
  unfold usd
  refine cnt_congr 4 (fun c hc => ?_)
  rw [Bool.eq_iff_iff, decide_eq_true_eq, orA_bit]
  unfold cin
  rw [cnt_pos]
  constructor
  · rintro ⟨q, h1, h2, h3⟩
    exact ⟨q, h1, decide_eq_true h2⟩
  · rintro ⟨q, h1, h2⟩
    have h2 := of_decide_eq_true h2
    exact ⟨q, h1, h2, by omega⟩
theorem m_lived {E : am_E} (zi : am_inj E) {k : Nat} (hk : 1 ≤ k) {σ : St} (zw : wf σ) {I : am_I} (zR : RS I σ) (w : Int64) {a : Nat → Nat} (hA : aA I σ a) : am_Ret E k Y_MO_lived [.ref 88] I w (am_eq (some (.int (nI (usd σ a)))) I w) := by
  refine am_intro (pv_MO_lived E k) (by decide) zi ?_ rfl rfl ?_
  · rintro _ _ _ ⟨rfl, -⟩; rfl
  intro S hS
  have h9 := zw.1
  rw [← orA_usd hA.1] at hS
  have loop := down (P := fun p => S 4 [some (.ref 88), some (.int (nI (orA a p))), some (.int (nI p))] [] I w) (sN σ) ?z ?s
  case z =>
    refine am_at hS (fun t => Nat.beq t 4) 60 4 ?_
    refine ⟨fun q => absurd q (by rw [zR.1.1]; exact nI_nlt (Nat.le_refl _) (by omega)), fun _ => ?_⟩
    refine ⟨_, _, (by omega : k - 1 < k), r_bitsOfM zi (orA_lt hA.1 _) I w, am_elim ?_⟩
    exact ⟨rfl, rfl, rfl⟩
  case s =>
    intro p hp hn
    have e1 := hA.2 p hp
    have i1 := isc_lt (hA.1 p)
    have bd : vp_in (nI p) 9 := vp_in_nI (by omega) (by omega)
    have cl : (nI p).toNatClampNeg = p := nI_clamp (by omega)
    refine am_at hS (fun t => Nat.beq t 4) 60 4 ?_
    refine ⟨fun _ => ?_, fun q => absurd (show nI p < I 88 9 by rw [zR.1.1]; exact nI_lt hp (by omega)) q⟩
    refine ⟨bd, ?_⟩
    rw [cl, e1]
    rw [orA, ← nI_or, ← nI_1 p] at hn
    refine ⟨fun h => ?_, fun h => ?_⟩
    · have h : a p = 9 := (neq (b := 9) (by omega) (by omega)).mp h
      rw [decide_eq_true h] at hn
      exact hn
    · have h : ¬ a p = 9 := fun q => h ((neq (b := 9) (by omega) (by omega)).mpr q)
      refine ⟨bd, ?_⟩
      rw [cl, e1]
      rw [decide_eq_false h, cond_false, ← nI_shl1 (by omega)] at hn
      exact hn
  exact am_at hS (fun t => Nat.beq t 4) 60 0 (loop 0 (Nat.zero_le _))
theorem m_outside {E : am_E} (zi : am_inj E) {k : Nat} {σ : St} (zw : wf σ) {I : am_I} (zR : RS I σ) (w : Int64) {a : Nat → Nat} (hA : aA I σ a) : am_Ret E k Y_MO_outside [.ref 88] I w (am_eq (some (.int (nI (cin σ a 9)))) I w) := by
  refine am_intro (pv_MO_outside E k) (by decide) zi ?_ rfl rfl ?_
  · rintro _ _ _ ⟨rfl, -⟩; rfl
  intro S hS
  have h9 := zw.1
  unfold cin at hS
  have add0 : ∀ a : Nat, nI a + 0 = nI a := fun a => Int32.add_zero _
  have loop := down (P := fun p => S 4 [some (.ref 88), some (.int (nI (cnt (fun p => decide (a p = 9)) p))), some (.int (nI p))] [] I w) (sN σ) ?z ?s
  case z =>
    refine am_at hS (fun t => Nat.beq t 4) 60 4 ?_
    exact ⟨fun q => absurd q (by rw [zR.1.1]; exact nI_nlt (Nat.le_refl _) (by omega)), fun _ => ⟨rfl, rfl, rfl⟩⟩
  case s =>
    intro p hp hn
    have e1 := hA.2 p hp
    have i1 := isc_lt (hA.1 p)
    refine am_at hS (fun t => Nat.beq t 4) 60 4 ?_
    refine ⟨fun _ => ?_, fun q => absurd (show nI p < I 88 9 by rw [zR.1.1]; exact nI_lt hp (by omega)) q⟩
    refine ⟨vp_in_nI (by omega) (by omega), ?_⟩
    rw [nI_clamp (by omega), e1]
    refine ⟨fun h => ?_, fun h => ?_⟩
    · have h : a p = 9 := (neq (b := 9) (by omega) (by omega)).mp h
      have hq := hn
      rw [← cnt_t (decide_eq_true h), ← nI_1 p] at hq
      exact hq
    · have h : ¬ a p = 9 := fun q => h ((neq (b := 9) (by omega) (by omega)).mpr q)
      have hq := hn
      rw [← cnt_f (decide_eq_false h), ← nI_1 p, ← add0] at hq
      exact hq
  exact am_at hS (fun t => Nat.beq t 4) 60 0 (loop 0 (Nat.zero_le _))
theorem m_wrongs {E : am_E} (zi : am_inj E) {k : Nat} (hk : 1 ≤ k) {σ : St} (zw : wf σ) {I : am_I} (zR : RS I σ) (w : Int64) {a : Nat → Nat} (hA : aA I σ a) : am_Ret E k Y_MO_wrongs [.ref 88] I w (am_eq (some (.int (nI (wrc σ a)))) I w) := by
  refine am_intro (pv_MO_wrongs E k) (by decide) zi ?_ rfl rfl ?_
  · rintro _ _ _ ⟨rfl, -⟩; rfl
  intro S hS
  have h36 := sM_le zw
  unfold wrc at hS
  have add0 : ∀ a : Nat, nI a + 0 = nI a := fun a => Int32.add_zero _
  have loop := down (P := fun f => S 4 [some (.ref 88), some (.int (nI (cnt (wra σ a) f))), some (.int (nI f))] [] I w) (sM σ) ?z ?s
  case z =>
    refine am_at hS (fun t => Nat.beq t 4) 60 4 ?_
    exact ⟨fun q => absurd q (by rw [zR.2.1]; exact nI_nlt (Nat.le_refl _) (by omega)), fun _ => ⟨rfl, rfl, rfl⟩⟩
  case s =>
    intro f hf hn
    refine am_at hS (fun t => Nat.beq t 4) 60 4 ?_
    refine ⟨fun _ => ?_, fun q => absurd (show nI f < I 88 16 by rw [zR.2.1]; exact nI_lt hf (by omega)) q⟩
    refine ⟨_, _, (by omega : k - 1 < k), m_isWrong zi zw zR w hA hf, am_elim ?_⟩
    refine ⟨fun h => ?_, fun h => ?_⟩
    · rw [bi_eq0] at h
      have hq := hn
      rw [← cnt_f h, ← nI_1 f, ← add0] at hq
      exact hq
    · rw [bi_eq0, Bool.not_eq_false] at h
      have hq := hn
      rw [← cnt_t h, ← nI_1 f] at hq
      exact hq
  exact am_at hS (fun t => Nat.beq t 4) 60 0 (loop 0 (Nat.zero_le _))
