/-! PEACE: the class's -/
theorem r_forcedBy {E : am_E} (zi : am_inj E) {k : Nat} (hk : 3 ≤ k) {σ : St} (zw : wf σ) {I : am_I} (zC : CS I σ) (w : Int64) {p o : Nat} (hp : p < 9) (ho : o < 512) :
    am_Ret E k Y_Net_forcedBy [.ref 71, .int (nI p), .int (nI o)] I w (fun q I' w' => (∃ c, q = some (.int (nI c)) ∧ FF σ o (fun q => q = p) (itn σ o p 9) c) ∧ I' = I ∧ w' = w) := by
  refine am_intro (pv_Net_forcedBy E k) (by decide) zi ?_ rfl rfl ?_
  · rintro _ _ _ ⟨⟨c, rfl, -⟩, -, -⟩; rfl
  intro S hS
  have h36 := sM_le zw
  have outer := down (P := fun i => ∀ la m x7 x8 x9, (la = 0 ∨ ∃ j, i = j + 1 ∧ la = itn σ o p j) → FF σ o (fun q => q = p) (itn σ o p i) m → S 13 [some (.ref 71), some (.int (nI p)), some (.int (nI o)), some (.int (nI (itn σ o p i))), some (.int (nI la)), some (.int (nI m)), some (.int (nI i)), x7, x8, x9] [] I w) 9 ?z ?s
  case z =>
    intro la m x7 x8 x9 _ hF
    refine am_at hS (fun t => Nat.beq t 13) 80 13 ?_
    exact ⟨fun q => absurd q (nI_nlt (Nat.le_refl 9) (by decide)), fun _ => ⟨⟨m, rfl, hF⟩, rfl, rfl⟩⟩
  case s =>
    intro i hi hn la m x7 x8 x9 hla hF
    have hx := itn_lt zw (out := o) hp i
    have hlt : la < 512 := by
      rcases hla with e | ⟨j, _, e⟩
      · omega
      · rw [e]; exact itn_lt zw hp j
    refine am_at hS (fun t => Nat.beq t 13 || Nat.beq t 32) 80 13 ?_
    refine ⟨fun _ => ?_, fun q => absurd (show nI i < nI 9 from nI_lt hi (by decide)) q⟩
    refine ⟨fun h => ?_, fun h => ?_⟩
    · rw [neq (by omega) (by omega)] at h
      refine ⟨⟨m, rfl, ?_⟩, rfl, rfl⟩
      rcases hla with e | ⟨j, e1, e2⟩
      · exact absurd (h.trans e) (itn_pos i)
      · subst e1
        have e3 : itn σ o p (j + 1) = itn σ o p j := h.trans e2
        rw [e3, itn_at zw hp e3] at hF
        exact hF
    · have inner := down (P := fun f => ∀ m x8 x9, FF σ o (fun q => q = p) (rd1 σ o (itn σ o p i) f) m → S 32 [some (.ref 71), some (.int (nI p)), some (.int (nI o)), some (.int (nI (rd1 σ o (itn σ o p i) f))), some (.int (nI (itn σ o p i))), some (.int (nI m)), some (.int (nI i)), some (.int (nI f)), x8, x9] [] I w) (sM σ) ?z2 ?s2
      case z2 =>
        intro m x8 x9 hF
        refine am_at hS (fun t => Nat.beq t 13 || Nat.beq t 32) 80 32 ?_
        refine ⟨fun q => absurd q (by show ¬ nI (sM σ) < I 7 0; rw [zC.2.1]; exact nI_nlt (Nat.le_refl _) (by omega)), fun _ => ?_⟩
        have hgo := hn (itn σ o p i) m (some (.int (nI (sM σ)))) x8 x9 (Or.inr ⟨i, rfl, rfl⟩) hF
        rw [← nI_1] at hgo
        exact hgo
      case s2 =>
        intro f hf hgo m x8 x9 hF
        obtain ⟨x, ex⟩ : ∃ x, x = rd1 σ o (itn σ o p i) f := ⟨_, rfl⟩
        have hr := rd1_lt zw (out := o) hx f (by omega)
        have hpx : x.testBit p = true := by rw [ex]; exact rd1_sub (itn_self i) f
        have he := eb_lt zw hf
        have h3 := zw.2.1.1 f hf
        have erd : rd1 σ o (itn σ o p i) (f + 1) = cond (decide (eb σ f &&& o = 0) && !decide (eb σ f &&& x = 0)) (x ||| eb σ f) x := by rw [rd1, ← ex]
        rw [← ex] at hF hr ⊢
        rw [erd] at hgo
        have b1 : eb σ f &&& o < 512 := Nat.and_lt_two_pow (n := 9) _ ho
        have hnl := nwc_lt (x := x) he
        have hp9 := pcn_le (nwc (eb σ f) x)
        refine am_at hS (fun t => Nat.beq t 32) 80 32 ?_
        refine ⟨fun _ => ?_, fun q => absurd (show nI f < I 7 0 by rw [zC.2.1]; exact nI_lt hf (by omega)) q⟩
        refine ⟨_, _, (by omega : k - 1 < k), r_bitsOf zi zw zC w hf, am_elim ?_⟩
        have same : cond (decide (eb σ f &&& o = 0) && !decide (eb σ f &&& x = 0)) (x ||| eb σ f) x = x → S 32 [some (.ref 71), some (.int (nI p)), some (.int (nI o)), some (.int (nI x)), some (.int (nI (itn σ o p i))), some (.int (nI m)), some (.int (nI i)), some (.int (nI f + 1)), some (.int (nI (eb σ f))), some (.int (nI (eb σ f) &&& (nI x ^^^ (-1))))] [] I w := fun e => by
          have h2 := hgo m (some (.int (nI (eb σ f)))) (some (.int (nI (eb σ f) &&& (nI x ^^^ (-1))))) (by rw [e]; exact hF)
          rw [e, ← nI_1] at h2
          exact h2
        refine ⟨fun h56 => ?_, fun h56 => ?_⟩
        · have h56 : eb σ f &&& o = 0 := by
            have q : nI (eb σ f) &&& nI o = nI 0 := h56
            rw [nI_and, neq (by omega) (by decide)] at q
            exact q
          refine ⟨_, _, (by omega : k - 1 < k), (by rw [nwI he]; exact r_bitCount zi hnl I w), am_elim ?_⟩
          have ep := pcn_nwc zw (x := x) hf
          refine ⟨fun h76 => ?_, fun h76 => ?_⟩
          · have h76 : pcn (nwc (eb σ f) x) = 1 := by
              have q : nI (pcn (nwc (eb σ f) x)) = nI 1 := h76
              rw [neq (by omega) (by decide)] at q
              exact q
            rw [ep] at h76
            obtain ⟨a, b, hs, ha, hb⟩ : ∃ a b, ((sL σ f = a ∧ sG σ f = b) ∨ (sL σ f = b ∧ sG σ f = a)) ∧ x.testBit a = true ∧ x.testBit b = false := by
              cases q1 : x.testBit (sL σ f) with
              | true =>
                cases q2 : x.testBit (sG σ f) with
                | true => rw [q1, q2] at h76; exact absurd h76 (by decide)
                | false => exact ⟨_, _, Or.inl ⟨rfl, rfl⟩, q1, q2⟩
              | false =>
                cases q2 : x.testBit (sG σ f) with
                | true => exact ⟨_, _, Or.inr ⟨rfl, rfl⟩, q2, q1⟩
                | false => rw [q1, q2] at h76; exact absurd h76 (by decide)
            have enw : nwc (eb σ f) x = 2 ^ b := by
              rw [nwc_eb zw hf]
              rcases hs with ⟨e1, e2⟩ | ⟨e1, e2⟩
              · rw [e1, e2, ha, hb, cond_true, cond_false, Nat.zero_or]
              · rw [e1, e2, ha, hb, cond_true, cond_false, Nat.or_zero]
            have hx0 : ¬ eb σ f &&& x = 0 := eb_and.mpr (hs.elim (fun e => Or.inl (by rw [e.1]; exact ha)) (fun e => Or.inr (by rw [e.2]; exact ha)))
            have ecd : cond (decide (eb σ f &&& o = 0) && !decide (eb σ f &&& x = 0)) (x ||| eb σ f) x = x ||| eb σ f := by rw [decide_eq_true h56, decide_eq_false hx0]; rfl
            rw [ecd, ← nI_or] at hgo
            have hst := FF_step zw hF hf h56 hs ha hb (fun e => by rw [e, hpx] at hb; cases hb)
            refine ⟨_, _, (by omega : k - 1 < k), r_isWrongIn zi zw zC w (by omega) hf hF.1, am_elim ?_⟩
            refine ⟨fun h95 => ?_, fun h95 => ?_⟩
            · rw [bi_eq0] at h95
              rw [h95, cond_false, Nat.or_zero] at hst
              have h2 := hgo m (some (.int (nI (eb σ f)))) (some (.int (nI (eb σ f) &&& (nI x ^^^ (-1))))) hst
              rw [← nI_1] at h2
              exact h2
            · rw [bi_eq0, Bool.not_eq_false] at h95
              rw [h95, cond_true, ← enw] at hst
              have h2 := hgo (m ||| nwc (eb σ f) x) (some (.int (nI (eb σ f)))) (some (.int (nI (eb σ f) &&& (nI x ^^^ (-1))))) hst
              rw [← nI_1, ← nI_or, ← nwI he] at h2
              exact h2
          · have h76 : ¬ pcn (nwc (eb σ f) x) = 1 := by
              have q : ¬ nI (pcn (nwc (eb σ f) x)) = nI 1 := h76
              rw [neq (by omega) (by decide)] at q
              exact q
            rw [ep] at h76
            refine same ?_
            by_cases hx0 : eb σ f &&& x = 0
            · rw [decide_eq_true hx0, Bool.not_true, Bool.and_false]; rfl
            · have hh := eb_and.mp hx0
              have hb2 : x.testBit (sL σ f) = true ∧ x.testBit (sG σ f) = true := by
                cases q1 : x.testBit (sL σ f) <;> cases q2 : x.testBit (sG σ f) <;> rw [q1, q2] at h76 hh
                · exact absurd hh (by decide)
                · exact absurd rfl h76
                · exact absurd rfl h76
                · exact ⟨rfl, rfl⟩
              rw [decide_eq_true h56, decide_eq_false hx0]
              show x ||| eb σ f = x
              apply Nat.eq_of_testBit_eq
              intro q
              rw [Nat.testBit_or]
              cases hq : (eb σ f).testBit q with
              | false => rw [Bool.or_false]
              | true =>
                rcases eb_bit.mp hq with rfl | rfl
                · rw [hb2.1]; rfl
                · rw [hb2.2]; rfl
        · have h56 : ¬ eb σ f &&& o = 0 := by
            have q : ¬ nI (eb σ f) &&& nI o = nI 0 := h56
            rw [nI_and, neq (by omega) (by decide)] at q
            exact q
          exact same (by rw [decide_eq_false h56]; rfl)
      exact inner 0 (Nat.zero_le _) m x8 x9 hF
  have hgo := outer 0 (Nat.zero_le _) 0 0 none none none (Or.inl rfl) ⟨by decide, fun q hq => (by rw [Nat.zero_testBit] at hq; cases hq), fun m' r1 _ q hq => (by
    have e : p = q := by
      have h : (2 ^ p).testBit q = true := hq
      rw [Nat.testBit_two_pow, decide_eq_true_eq] at h
      exact h
    rw [Nat.zero_testBit, r1 q e.symm])⟩
  rw [show nI (itn σ o p 0) = (1 : Int32) <<< (nI p &&& 31) from (nI_shl1 (by omega)).symm] at hgo
  exact am_at hS (fun t => Nat.beq t 13) 80 0 hgo
def HH (σ : St) (o p m : Nat) : Prop := m < 512 ∧ (∀ q, m.testBit q = true → q < sN σ ∧ o.testBit q = false ∧ rep σ o q = false ∧ (cwo σ o p).1.testBit q = true) ∧ ∀ m', psP σ o m' → ∀ q, (cwo σ o p).1.testBit q = true → o.testBit q = false → m.testBit q = m'.testBit q
theorem HH_end {σ : St} (zw : wf σ) {o m : Nat} (h : HH σ o (sN σ) m) : psF σ o m := by
  obtain ⟨h1, h2, h3⟩ := h
  have cs := (cwo_spec zw (o := o) (sN σ) zw.1).1
  refine ⟨h1, fun q hq => ⟨(h2 q hq).1, (h2 q hq).2.1, (h2 q hq).2.2.1⟩, fun m' hP q => ?_⟩
  by_cases hq : q < sN σ ∧ o.testBit q = false
  · exact (h3 m' hP q ((cs q).mpr (Or.inr ⟨q, hq.1, hq.2, prt_self⟩)) hq.2).symm
  · have e1 : m'.testBit q = false := by
      cases e : m'.testBit q with
      | false => rfl
      | true => exact absurd ⟨(hP.1 q e).1, (hP.1 q e).2.1⟩ hq
    have e2 : m.testBit q = false := by
      cases e : m.testBit q with
      | false => rfl
      | true => exact absurd ⟨(h2 q e).1, (h2 q e).2.1⟩ hq
    rw [e1, e2]
theorem HH_step {σ : St} (zw : wf σ) {o p m c : Nat} (hp : p < sN σ) (hs : (cwo σ o p).1.testBit p = false) (h : HH σ o p m) (hc : FF σ o (fun q => q = p) (itn σ o p 9) c) : HH σ o (p + 1) (m ||| c) := by
  obtain ⟨h1, h2, h3⟩ := h
  obtain ⟨c1, c2, c3⟩ := hc
  have h9 := zw.1
  have cs := (cwo_spec zw (o := o) p (by omega)).1
  have hn : ¬ (o.testBit p = true ∨ ∃ r, r < p ∧ o.testBit r = false ∧ prt σ o r p) := fun z => by rw [(cs p).mpr z] at hs; cases hs
  have hop : o.testBit p = false := by
    cases ho : o.testBit p with
    | false => rfl
    | true => exact absurd (Or.inl ho) hn
  have disj : ∀ q, (cwo σ o p).1.testBit q = true → o.testBit q = false → ¬ prt σ o p q := fun q hq hoq hpq => by
    rcases (cs q).mp hq with g | ⟨r, g1, g2, g3⟩
    · rw [hoq] at g; cases g
    · exact hn (Or.inr ⟨r, g1, g2, prt_trans zw (by omega) g3 (prt_symm zw (by omega) hpq)⟩)
  have e1 : (cwo σ o (p + 1)).1 = (cwo σ o p).1 ||| itn σ o p 9 := by rw [cwo, hs]; rfl
  have hrep : rep σ o p = true := by
    obtain ⟨l1, l2, l3⟩ := prt_lb zw (o := o) (p := p) (by omega)
    unfold rep
    rw [hop, Bool.not_false, Bool.true_and, decide_eq_true_eq]
    apply Classical.byContradiction
    intro hne
    exact hn (Or.inr ⟨_, by omega, prt_out hop l1, prt_symm zw (by omega) l1⟩)
  unfold HH
  rw [e1]
  refine ⟨Nat.or_lt_two_pow (n := 9) h1 c1, fun q hq => ?_, fun m' hP q hq hoq => ?_⟩
  · rw [Nat.testBit_or, Bool.or_eq_true] at hq
    rw [Nat.testBit_or, Bool.or_eq_true]
    rcases hq with hq | hq
    · obtain ⟨g1, g2, g3, g4⟩ := h2 q hq
      exact ⟨g1, g2, g3, Or.inl g4⟩
    · obtain ⟨g1, g2⟩ := c2 q hq
      refine ⟨prt_N zw hp g1, prt_out hop g1, ?_, Or.inr g1⟩
      have hle : ¬ q < p := fun hlt => by
        have hrp := rep_no zw (o := o) (p := q) (q := p) (by omega) (prt_symm zw (by omega) g1) hlt
        rw [hrep] at hrp
        cases hrp
      exact rep_no zw (by omega) g1 (by omega)
  · rw [Nat.testBit_or, Bool.or_eq_true] at hq
    rw [Nat.testBit_or]
    rcases hq with hq | hq
    · have e2 : c.testBit q = false := by
        cases e : c.testBit q with
        | false => rfl
        | true => exact absurd (c2 q e).1 (disj q hq hoq)
      rw [e2, Bool.or_false]
      exact h3 m' hP q hq hoq
    · have e2 : m.testBit q = false := by
        cases e : m.testBit q with
        | false => rfl
        | true => exact absurd hq (disj q (h2 q e).2.2.2 hoq)
      rw [e2, Bool.false_or]
      refine c3 m' (fun x hx => ?_) hP.2 q hq
      rw [hx]
      cases e : m'.testBit p with
      | false => rfl
      | true => rw [(hP.1 p e).2.2] at hrep; cases hrep
theorem r_peaceWithout {E : am_E} (zi : am_inj E) {k : Nat} (hk : 4 ≤ k) {σ : St} (zw : wf σ) {I : am_I} (zC : CS I σ) (w : Int64) {o : Nat} (ho : o < 512) :
    am_Ret E k Y_Net_peaceWithout [.ref 71, .int (nI o)] I w (am_eq (some (.int (enc (pea σ o)))) I w) := by
  refine am_intro (pv_Net_peaceWithout E k) (by decide) zi ?_ rfl rfl ?_
  · rintro _ _ _ ⟨rfl, -⟩; rfl
  intro S hS
  have h9 := zw.1
  have h36 := sM_le zw
  have tail : ∀ m, psF σ o m → ∀ x2, S 57 [some (.ref 71), some (.int (nI o)), x2, some (.int (nI m)), some (.int (nI 0))] [] I w := by
    intro m hF x2
    have l2 := down (P := fun f => (∀ g, g < f → eb σ g &&& o = 0 → wrm σ g m = false) → S 57 [some (.ref 71), some (.int (nI o)), x2, some (.int (nI m)), some (.int (nI f))] [] I w) (sM σ) ?z ?s
    case z =>
      intro hb
      refine am_at hS (fun t => Nat.beq t 57) 80 57 ?_
      refine ⟨fun q => absurd q (by show ¬ nI (sM σ) < I 7 0; rw [zC.2.1]; exact nI_nlt (Nat.le_refl _) (by omega)), fun _ => ?_⟩
      rw [psF_yes hF hb]
      exact ⟨rfl, rfl, rfl⟩
    case s =>
      intro f hf hn hb
      have b1 : eb σ f &&& o < 512 := Nat.and_lt_two_pow (n := 9) _ ho
      have next : (eb σ f &&& o = 0 → wrm σ f m = false) → S 57 [some (.ref 71), some (.int (nI o)), x2, some (.int (nI m)), some (.int (nI f + 1))] [] I w := fun h => by
        have h2 := hn (fun g hg hgo => by
          by_cases e : g = f
          · rw [e]; rw [e] at hgo; exact h hgo
          · exact hb g (by omega) hgo)
        rw [← nI_1] at h2
        exact h2
      refine am_at hS (fun t => Nat.beq t 57) 80 57 ?_
      refine ⟨fun _ => ?_, fun q => absurd (show nI f < I 7 0 by rw [zC.2.1]; exact nI_lt hf (by omega)) q⟩
      refine ⟨_, _, (by omega : k - 1 < k), r_bitsOf zi zw zC w hf, am_elim ?_⟩
      refine ⟨fun h => ?_, fun h => ?_⟩
      · have h56 : eb σ f &&& o = 0 := by
          have q : nI (eb σ f) &&& nI o = nI 0 := h
          rw [nI_and, neq (by omega) (by decide)] at q
          exact q
        refine ⟨_, _, (by omega : k - 1 < k), r_isWrongIn zi zw zC w (by omega) hf hF.1, am_elim ?_⟩
        refine ⟨fun h95 => ?_, fun h95 => ?_⟩
        · rw [bi_eq0] at h95
          exact next (fun _ => h95)
        · rw [bi_eq0, Bool.not_eq_false] at h95
          rw [psF_no hF hf h56 h95]
          exact ⟨rfl, rfl, rfl⟩
      · have h56 : ¬ eb σ f &&& o = 0 := by
          have q : ¬ nI (eb σ f) &&& nI o = nI 0 := h
          rw [nI_and, neq (by omega) (by decide)] at q
          exact q
        exact next (fun q => absurd q h56)
    exact l2 0 (Nat.zero_le _) (fun g hg => absurd hg (by omega))
  have loop := down (P := fun p => ∀ m, HH σ o p m → S 7 [some (.ref 71), some (.int (nI o)), some (.int (nI (cwo σ o p).1)), some (.int (nI m)), some (.int (nI p))] [] I w) (sN σ) ?z ?s
  case z =>
    intro m hH
    refine am_at hS (fun t => Nat.beq t 7 || Nat.beq t 57) 80 7 ?_
    exact ⟨fun q => absurd q (by show ¬ nI (sN σ) < I 1 0; rw [zC.1.1]; exact nI_nlt (Nat.le_refl _) (by omega)), fun _ => tail m (HH_end zw hH) _⟩
  case s =>
    intro p hp hn m hH
    obtain ⟨c1, -⟩ := cwo_lt zw ho p (by omega)
    have eb : (nI (cwo σ o p).1 >>> (nI p &&& 31)) &&& 1 = bi ((cwo σ o p).1.testBit p) := nI_bit (by omega) (by omega)
    refine am_at hS (fun t => Nat.beq t 7) 80 7 ?_
    refine ⟨fun _ => ?_, fun q => absurd (show nI p < I 1 0 by rw [zC.1.1]; exact nI_lt hp (by omega)) q⟩
    refine ⟨fun h => ?_, fun h => ?_⟩
    · have hb : (cwo σ o p).1.testBit p = false := by
        have h2 : (nI (cwo σ o p).1 >>> (nI p &&& 31)) &&& 1 = 0 := h
        rw [eb, bi_eq0] at h2
        exact h2
      refine ⟨_, _, (by omega : k - 1 < k), r_forcedBy zi (by omega) zw zC w (p := p) (by omega) ho, ?_⟩
      rintro _ I1 w1 ⟨⟨c, rfl, hc⟩, e1, e2⟩
      rw [e1, e2]
      refine ⟨_, _, (by omega : k - 1 < k), r_reach zi (by omega) zw zC w (p := p) (by omega) ho, am_elim ?_⟩
      have h2 := hn (m ||| c) (HH_step zw hp hb hH hc)
      rw [cwo, hb, cond_false, ← nI_or, ← nI_or, ← nI_1] at h2
      exact h2
    · have hb : (cwo σ o p).1.testBit p = true := by
        have h2 : ¬ (nI (cwo σ o p).1 >>> (nI p &&& 31)) &&& 1 = 0 := h
        rw [eb, bi_eq0, Bool.not_eq_false] at h2
        exact h2
      have ec : cwo σ o (p + 1) = cwo σ o p := by rw [cwo, hb]; rfl
      have hH2 : HH σ o (p + 1) m := by unfold HH; rw [ec]; exact hH
      have h2 := hn m hH2
      rw [ec, ← nI_1] at h2
      exact h2
  refine am_at hS (fun t => Nat.beq t 7) 80 0 ?_
  refine loop 0 (Nat.zero_le _) 0 ⟨by decide, fun q hq => (by rw [Nat.zero_testBit] at hq; cases hq), fun m' _ q hq hoq => ?_⟩
  have hq2 : o.testBit q = true := hq
  rw [hoq] at hq2
  cases hq2
def aPeace (σ : St) : Int32 := enc (pea σ 0)
theorem c_peace {E : am_E} (zi : am_inj E) {k : Nat} (hk : 5 ≤ k) {σ : St} (zw : wf σ) {I : am_I} (zC : CS I σ) (w : Int64) :
    am_Ret E k Y_TC_peace [.ref 0] I w (am_eq (some (.int (aPeace σ))) I w) := by
  refine am_intro (pv_TC_peace E k) (by decide) zi ?_ rfl rfl ?_
  · rintro _ _ _ ⟨rfl, -⟩; rfl
  intro S hS
  refine am_at hS (fun _ => false) 80 0 ?_
  refine ⟨_, _, (by omega : k - 1 < k), r_peaceWithout zi (by omega) zw zC w (o := 0) (by decide), am_elim ?_⟩
  exact ⟨rfl, rfl, rfl⟩
