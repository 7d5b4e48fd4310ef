/-! DOORS: both -/
theorem cnt_split {Q a : Nat → Bool} : ∀ n, cnt Q n = cnt (fun i => Q i && a i) n + cnt (fun i => Q i && !a i) n
  | 0 => rfl
  | n + 1 => by
    rw [cnt, cnt, cnt, cnt_split (a := a) n]
    cases Q n <;> cases a n <;> simp only [Bool.and_true, Bool.and_false, Bool.not_true, Bool.not_false, cond_true, cond_false] <;> omega
theorem cnt_ge1 {Q : Nat → Bool} {i : Nat} : ∀ n, i < n → Q i = true → 1 ≤ cnt Q n
  | 0, h, _ => absurd h (Nat.not_lt_zero _)
  | n + 1, h, hQ => by
    rw [cnt]
    by_cases e : i = n
    · rw [← e, hQ, cond_true]; omega
    · have := cnt_ge1 (Q := Q) n (by omega) hQ
      omega
theorem cnt_ge2 {Q : Nat → Bool} {i j : Nat} : ∀ n, i < j → j < n → Q i = true → Q j = true → 2 ≤ cnt Q n
  | 0, _, h, _, _ => absurd h (Nat.not_lt_zero _)
  | n + 1, hij, h, hi, hj => by
    rw [cnt]
    by_cases e : j = n
    · have := cnt_ge1 (Q := Q) n (show i < n by omega) hi
      rw [← e, hj, cond_true]
      rw [← e] at this
      omega
    · have := cnt_ge2 (Q := Q) n hij (by omega) hi hj
      omega
theorem cnt_0 {Q : Nat → Bool} : ∀ n, (∀ i, i < n → Q i = false) → cnt Q n = 0
  | 0, _ => rfl
  | n + 1, h => by rw [cnt, cnt_0 n (fun i hi => h i (by omega)), h n (by omega)]; rfl
theorem cnt_le1 {Q : Nat → Bool} : ∀ n, (∀ i j, i < n → j < n → Q i = true → Q j = true → i = j) → cnt Q n ≤ 1
  | 0, _ => Nat.zero_le _
  | n + 1, h => by
    rw [cnt]
    cases hq : Q n with
    | false => have := cnt_le1 (Q := Q) n (fun i j hi hj => h i j (by omega) (by omega)); rw [cond_false]; omega
    | true =>
      rw [cnt_0 n (fun i hi => by
        cases e : Q i with
        | false => rfl
        | true => have := h i n (by omega) (by omega) e hq; omega), cond_true]
      exact Nat.le_refl _
theorem prt_sub {σ : St} (zw : wf σ) {o q x : Nat} (hq : q < 9) (h : prt σ o q x) : prt σ 0 q x := prt_min (D := fun x => prt σ 0 q x) (fun f hf _ hD => prt_clo zw hq f hf (Nat.and_zero _) hD) prt_self h
theorem prt_far {σ : St} (zw : wf σ) {p q x : Nat} (hp : p < 9) (hq : q < 9) (hn : ¬ prt σ 0 p q) (h : prt σ 0 q x) : prt σ (2 ^ p) q x := by
  refine prt_min (D := fun x => prt σ (2 ^ p) q x) (fun f hf _ hD => prt_clo zw hq f hf ?_ hD) prt_self h
  apply Classical.byContradiction
  intro hne
  have h1 := eb_and.mp hne
  rw [Nat.testBit_two_pow, Nat.testBit_two_pow, decide_eq_true_eq, decide_eq_true_eq] at h1
  have hD0 : prt σ 0 q (sL σ f) ∨ prt σ 0 q (sG σ f) := hD.elim (fun z => Or.inl (prt_sub zw hq z)) (fun z => Or.inr (prt_sub zw hq z))
  have hc := prt_clo zw (out := 0) hq f hf (Nat.and_zero _) hD0
  refine hn (prt_symm zw hq ?_)
  rcases h1 with e | e
  · rw [e]; exact hc.1
  · rw [e]; exact hc.2
theorem rep_lb {σ : St} (zw : wf σ) {o q : Nat} (hq : q < 9) (ho : o.testBit q = false) : rep σ o (lb (itn σ o q 9)) = true := by
  obtain ⟨l1, -, -⟩ := prt_lb zw (o := o) hq
  unfold rep
  rw [prt_out ho l1, ← prt_eq zw hq l1, decide_eq_true rfl]
  rfl
theorem rep_of {σ : St} {o q : Nat} (h : rep σ o q = true) : o.testBit q = false ∧ lb (itn σ o q 9) = q := by
  unfold rep at h
  rw [Bool.and_eq_true, Bool.not_eq_true', decide_eq_true_eq] at h
  exact h
def oth (σ : St) (p : Nat) : Nat := nwc (itn σ 0 p 9) (2 ^ p)
theorem oth_lt {σ : St} (zw : wf σ) {p : Nat} (hp : p < 9) : oth σ p < 512 := nwc_lt (itn_lt zw hp 9)
theorem oth_bit {σ : St} (zw : wf σ) {p x : Nat} (hp : p < 9) : (oth σ p).testBit x = true ↔ prt σ 0 p x ∧ x ≠ p := by
  unfold oth prt
  rw [nwc_bit (itn_lt zw hp 9), Nat.testBit_two_pow, Bool.and_eq_true, Bool.not_eq_true', decide_eq_false_iff_not]
  exact ⟨fun h => ⟨h.1, fun e => h.2 e.symm⟩, fun h => ⟨h.1, fun e => h.2 e.symm⟩⟩
theorem door_eq {σ : St} (zw : wf σ) {p : Nat} (hp : p < sN σ) : cnt (rep σ 0) (sN σ) < cnt (rep σ (2 ^ p)) (sN σ) ↔ (¬ oth σ p = 0 ∧ ¬ itn σ (2 ^ p) (lb (oth σ p)) 9 = oth σ p) := by
  have h9 := zw.1
  have hp9 : p < 9 := by omega
  have z0 : ∀ q, (0 : Nat).testBit q = false := fun q => Nat.zero_testBit q
  obtain ⟨a, ea⟩ : ∃ a : Nat → Bool, a = fun q => (itn σ 0 p 9).testBit q := ⟨_, rfl⟩
  have aT : ∀ q, a q = true ↔ prt σ 0 p q := fun q => by rw [ea]; exact Iff.rfl
  have far : cnt (fun i => rep σ 0 i && !a i) (sN σ) = cnt (fun i => rep σ (2 ^ p) i && !a i) (sN σ) := by
    refine cnt_congr (sN σ) (fun q hq => ?_)
    cases haq : a q with
    | true => rw [Bool.not_true, Bool.and_false, Bool.and_false]
    | false =>
      have hn : ¬ prt σ 0 p q := fun h => by rw [(aT q).mpr h] at haq; cases haq
      have hqp : ¬ p = q := fun e => hn (by rw [← e]; exact prt_self)
      have ei : itn σ 0 q 9 = itn σ (2 ^ p) q 9 := by
        refine bit_ext (itn_lt zw (by omega) 9) (itn_lt zw (by omega) 9) (fun i _ => ?_)
        rw [Bool.eq_iff_iff]
        exact ⟨fun h => prt_far zw hp9 (by omega) hn h, fun h => prt_sub zw (by omega) h⟩
      unfold rep
      rw [z0, ei, Nat.testBit_two_pow, decide_eq_false hqp]
  have one : cnt (fun i => rep σ 0 i && a i) (sN σ) = 1 := by
    have hle : cnt (fun i => rep σ 0 i && a i) (sN σ) ≤ 1 := by
      refine cnt_le1 (sN σ) (fun i j hi hj h1 h2 => ?_)
      rw [Bool.and_eq_true, aT] at h1 h2
      rw [← (rep_of h1.1).2, ← (rep_of h2.1).2, ← prt_eq zw hp9 h1.2, ← prt_eq zw hp9 h2.2]
    obtain ⟨l1, l2, -⟩ := prt_lb zw (o := 0) hp9
    have hge := cnt_ge1 (Q := fun i => rep σ 0 i && a i) (i := lb (itn σ 0 p 9)) (sN σ) (by omega) (by
      show (rep σ 0 (lb (itn σ 0 p 9)) && a (lb (itn σ 0 p 9))) = true
      rw [rep_lb zw hp9 (z0 _), (aT _).mpr l1]
      rfl)
    omega
  rw [cnt_split (a := a), cnt_split (Q := rep σ (2 ^ p)) (a := a), far, one]
  constructor
  · intro hlt
    have h2 : ¬ cnt (fun i => rep σ (2 ^ p) i && a i) (sN σ) ≤ 1 := by omega
    have inO : ∀ i, (rep σ (2 ^ p) i && a i) = true → (oth σ p).testBit i = true := fun i h => by
      rw [Bool.and_eq_true, aT] at h
      refine (oth_bit zw hp9).mpr ⟨h.2, fun e => ?_⟩
      have := (rep_of h.1).1
      rw [e, Nat.testBit_two_pow, decide_eq_true rfl] at this
      cases this
    refine ⟨fun e => h2 (cnt_le1 (sN σ) (fun i j hi hj h1 _ => ?_)), fun e => h2 (cnt_le1 (sN σ) (fun i j hi hj h1 h3 => ?_))⟩
    · have := inO i h1
      rw [e, z0] at this
      cases this
    · have g1 := inO i h1
      have g3 := inO j h3
      have hl : lb (oth σ p) < 9 := (lb_of (oth_lt zw hp9) (fun e => by rw [e, z0] at g1; cases g1)).2.1
      rw [← e] at g1 g3
      rw [Bool.and_eq_true] at h1 h3
      rw [← (rep_of h1.1).2, ← (rep_of h3.1).2, ← prt_eq zw hl g1, ← prt_eq zw hl g3]
  · rintro ⟨h0, hne⟩
    obtain ⟨l1, l2, -⟩ := lb_of (oth_lt zw hp9) h0
    obtain ⟨m1, m2⟩ := (oth_bit zw hp9).mp l1
    have hol : (2 ^ p).testBit (lb (oth σ p)) = false := by rw [Nat.testBit_two_pow]; exact decide_eq_false (fun e => m2 e.symm)
    have sub : ∀ x y, (oth σ p).testBit x = true → x < 9 → prt σ (2 ^ p) x y → (oth σ p).testBit y = true := fun x y hx hx9 h => by
      obtain ⟨g1, g2⟩ := (oth_bit zw hp9).mp hx
      refine (oth_bit zw hp9).mpr ⟨prt_trans zw hp9 g1 (prt_sub zw hx9 h), fun e => ?_⟩
      have := prt_out (σ := σ) (o := 2 ^ p) (p := x) (by rw [Nat.testBit_two_pow]; exact decide_eq_false (fun z => g2 z.symm)) h
      rw [e, Nat.testBit_two_pow, decide_eq_true rfl] at this
      cases this
    obtain ⟨x, hx9, hx1, hx2⟩ : ∃ x, x < 9 ∧ (oth σ p).testBit x = true ∧ ¬ prt σ (2 ^ p) (lb (oth σ p)) x := by
      apply Classical.byContradiction
      intro hno
      refine hne (bit_ext (itn_lt zw l2 9) (oth_lt zw hp9) (fun i hi => ?_))
      rw [Bool.eq_iff_iff]
      exact ⟨fun h => sub _ i l1 l2 h, fun h => Classical.byContradiction fun h3 => hno ⟨i, hi, h, h3⟩⟩
    have hox : (2 ^ p).testBit x = false := by rw [Nat.testBit_two_pow]; exact decide_eq_false (fun e => ((oth_bit zw hp9).mp hx1).2 e.symm)
    obtain ⟨r1, r2, -⟩ := prt_lb zw (o := 2 ^ p) l2
    obtain ⟨s1, s2, -⟩ := prt_lb zw (o := 2 ^ p) hx9
    have fin : ∀ y, (oth σ p).testBit y = true → y < sN σ ∧ a y = true := fun y hy => by
      obtain ⟨g1, -⟩ := (oth_bit zw hp9).mp hy
      exact ⟨prt_N zw hp g1, (aT y).mpr g1⟩
    have f1 := fin _ (sub _ _ l1 l2 r1)
    have f2 := fin _ (sub _ _ hx1 hx9 s1)
    have dif : ¬ lb (itn σ (2 ^ p) (lb (oth σ p)) 9) = lb (itn σ (2 ^ p) x 9) := fun e => by
      refine hx2 (prt_trans zw l2 r1 ?_)
      rw [e]
      exact prt_symm zw hx9 s1
    have Q1 : (rep σ (2 ^ p) (lb (itn σ (2 ^ p) (lb (oth σ p)) 9)) && a (lb (itn σ (2 ^ p) (lb (oth σ p)) 9))) = true := by rw [rep_lb zw l2 hol, f1.2]; rfl
    have Q2 : (rep σ (2 ^ p) (lb (itn σ (2 ^ p) x 9)) && a (lb (itn σ (2 ^ p) x 9))) = true := by rw [rep_lb zw hx9 hox, f2.2]; rfl
    have : 2 ≤ cnt (fun i => rep σ (2 ^ p) i && a i) (sN σ) := by
      rcases Nat.lt_or_ge (lb (itn σ (2 ^ p) (lb (oth σ p)) 9)) (lb (itn σ (2 ^ p) x 9)) with h | h
      · exact cnt_ge2 (Q := fun i => rep σ (2 ^ p) i && a i) (sN σ) h f2.1 Q1 Q2
      · exact cnt_ge2 (Q := fun i => rep σ (2 ^ p) i && a i) (sN σ) (show lb (itn σ (2 ^ p) x 9) < lb (itn σ (2 ^ p) (lb (oth σ p)) 9) by omega) f1.1 Q2 Q1
    omega
def isD_ (σ : St) (p : Nat) : Bool := decide (cnt (rep σ 0) (sN σ) < cnt (rep σ (2 ^ p)) (sN σ))
def dor (σ : St) : Nat → Nat
  | 0 => 0
  | p + 1 => dor σ p ||| cond (isD_ σ p) (2 ^ p) 0
def aDors (σ : St) : Int32 := nI (dor σ (sN σ))
theorem c_doors {E : am_E} (zi : am_inj E) {k : Nat} (hk : 4 ≤ k) {σ : St} (zw : wf σ) {I : am_I} (zC : CS I σ) (w : Int64) :
    am_Ret E k Y_TC_doors [.ref 0] I w (am_eq (some (.int (aDors σ))) I w) := by
  refine am_intro (pv_TC_doors E k) (by decide) zi ?_ rfl rfl ?_
  · rintro _ _ _ ⟨rfl, -⟩; rfl
  intro S hS
  have h9 := zw.1
  have c0 := cnt_le (rep σ 0) (sN σ)
  unfold aDors at hS
  have loop := down (P := fun p => S 13 [some (.ref 0), some (.int (nI (dor σ p))), some (.int (nI (cnt (rep σ 0) (sN σ)))), some (.int (nI p))] [] I w) (sN σ) ?z ?s
  case z =>
    refine am_at hS (fun t => Nat.beq t 13) 80 13 ?_
    exact ⟨fun q => absurd q (by show ¬ nI (sN σ) < I 1 0; rw [zC.1.1]; exact nI_nlt (Nat.le_refl _) (by omega)), fun _ => ⟨rfl, rfl, rfl⟩⟩
  case s =>
    intro p hp hn
    have c1 := cnt_le (rep σ (2 ^ p)) (sN σ)
    have e2 : (2 : Nat) ^ p < 512 := Nat.pow_lt_pow_right (n := 9) (by decide) (by omega)
    refine am_at hS (fun t => Nat.beq t 13) 80 13 ?_
    refine ⟨fun _ => ?_, fun q => absurd (show nI p < I 1 0 by rw [zC.1.1]; exact nI_lt hp (by omega)) q⟩
    refine ⟨_, _, (by omega : k - 1 < k), (by rw [nI_shl1 (by omega)]; exact r_countWithout zi (by omega) zw zC w e2), am_elim ?_⟩
    rw [dor, ← nI_1] at hn
    refine ⟨fun h => ?_, fun h => ?_⟩
    · rw [nlt (by omega) (by omega)] at h
      rw [show isD_ σ p = true from decide_eq_true h, cond_true, ← nI_or, ← nI_shl1 (by omega)] at hn
      exact hn
    · rw [nlt (by omega) (by omega)] at h
      rw [show isD_ σ p = false from decide_eq_false h, cond_false, Nat.or_zero] at hn
      exact hn
  refine am_at hS (fun t => Nat.beq t 13) 80 0 ?_
  refine ⟨_, _, (by omega : k - 1 < k), r_countWithout zi (by omega) zw zC w (o := 0) (by decide), am_elim ?_⟩
  exact loop 0 (Nat.zero_le _)
theorem m_doors {E : am_E} (zi : am_inj E) {k : Nat} (hk : 2 ≤ k) {σ : St} (zw : wf σ) {I : am_I} (zR : RS I σ) (w : Int64) :
    am_Ret E k Y_MO_doors [.ref 88] I w (am_eq (some (.int (aDors σ))) I w) := by
  refine am_intro (pv_MO_doors E k) (by decide) zi ?_ rfl rfl ?_
  · rintro _ _ _ ⟨rfl, -⟩; rfl
  intro S hS
  have h9 := zw.1
  unfold aDors at hS
  have loop := down (P := fun p => ∀ X3, S 4 [some (.ref 88), some (.int (nI (dor σ p))), some (.int (nI p)), X3] [] I w) (sN σ) ?z ?s
  case z =>
    intro X3
    refine am_at hS (fun t => Nat.beq t 4) 80 4 ?_
    exact ⟨fun q => absurd q (by rw [zR.1.1]; exact nI_nlt (Nat.le_refl _) (by omega)), fun _ => ⟨rfl, rfl, rfl⟩⟩
  case s =>
    intro p hp hn X3
    have e2 : (2 : Nat) ^ p < 512 := Nat.pow_lt_pow_right (n := 9) (by decide) (by omega)
    have ho := oth_lt zw (p := p) (by omega)
    have hd := door_eq zw hp
    have eo : nI (itn σ 0 p 9) &&& ((1 : Int32) <<< (nI p &&& 31) ^^^ (-1)) = nI (oth σ p) := by rw [nI_shl1 (by omega), nwI (itn_lt zw (by omega) 9)]; rfl
    have yes : isD_ σ p = true → ∀ X3, S 4 [some (.ref 88), some (.int (nI (dor σ p) ||| 1 <<< (nI p &&& 31))), some (.int (nI p + 1)), X3] [] I w := fun h X3 => by
      have hq := hn X3
      rw [dor, h, cond_true, ← nI_or, ← nI_1, ← nI_shl1 (by omega)] at hq
      exact hq
    have no : isD_ σ p = false → ∀ X3, S 4 [some (.ref 88), some (.int (nI (dor σ p))), some (.int (nI p + 1)), X3] [] I w := fun h X3 => by
      have hq := hn X3
      rw [dor, h, cond_false, Nat.or_zero, ← nI_1] at hq
      exact hq
    refine am_at hS (fun t => Nat.beq t 4) 80 4 ?_
    refine ⟨fun _ => ?_, fun q => absurd (show nI p < I 88 9 by rw [zR.1.1]; exact nI_lt hp (by omega)) q⟩
    refine ⟨_, _, (by omega : k - 1 < k), r_hangs zi zw zR w (p := p) (o := 0) (by omega) (by decide), am_elim ?_⟩
    refine ⟨fun h => ?_, fun h => ?_⟩
    · have h0 : oth σ p = 0 := by
        have q : nI (itn σ 0 p 9) &&& ((1 : Int32) <<< (nI p &&& 31) ^^^ (-1)) = nI 0 := h
        rw [eo, neq (by omega) (by decide)] at q
        exact q
      exact no (decide_eq_false (fun q => (hd.mp q).1 h0)) _
    · have h0 : ¬ oth σ p = 0 := by
        have q : ¬ nI (itn σ 0 p 9) &&& ((1 : Int32) <<< (nI p &&& 31) ^^^ (-1)) = nI 0 := h
        rw [eo, neq (by omega) (by decide)] at q
        exact q
      obtain ⟨l1, l2, l3⟩ := lb_of ho h0
      refine ⟨_, _, (by omega : k - 1 < k), (by rw [eo]; exact r_leastOfM zi ho l2 l1 l3 I w), am_elim ?_⟩
      refine ⟨_, _, (by omega : k - 1 < k), (by rw [nI_shl1 (by omega)]; exact r_hangs zi zw zR w l2 e2), am_elim ?_⟩
      have hi := itn_lt zw (out := 2 ^ p) l2 9
      refine ⟨fun h42 => ?_, fun h42 => ?_⟩
      · have h42 : itn σ (2 ^ p) (lb (oth σ p)) 9 = oth σ p := by
          have q : nI (itn σ (2 ^ p) (lb (oth σ p)) 9) = nI (itn σ 0 p 9) &&& ((1 : Int32) <<< (nI p &&& 31) ^^^ (-1)) := h42
          rw [eo, neq (by omega) (by omega)] at q
          exact q
        exact no (decide_eq_false (fun q => (hd.mp q).2 h42)) _
      · have h42 : ¬ itn σ (2 ^ p) (lb (oth σ p)) 9 = oth σ p := by
          have q : ¬ nI (itn σ (2 ^ p) (lb (oth σ p)) 9) = nI (itn σ 0 p 9) &&& ((1 : Int32) <<< (nI p &&& 31) ^^^ (-1)) := h42
          rw [eo, neq (by omega) (by omega)] at q
          exact q
        exact yes (decide_eq_true (hd.mpr ⟨h0, h42⟩)) _
  exact am_at hS (fun t => Nat.beq t 4) 80 0 (loop 0 (Nat.zero_le _) none)
