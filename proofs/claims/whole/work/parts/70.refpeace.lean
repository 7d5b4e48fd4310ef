/-! PEACE: the reference's -/
def WW (σ : St) (o p t m : Nat) : Prop := t < 512 ∧ FF σ o (fun q => rep σ o q = true) t m ∧ (∀ q, t.testBit q = true → q < sN σ ∧ o.testBit q = false ∧ ∃ r, r < p ∧ o.testBit r = false ∧ prt σ o r q) ∧ ∀ q, q < p → o.testBit q = false → t.testBit q = true
def QQ (σ : St) (o p t m : Nat) : Prop := WW σ o p t m ∧ clo σ o (fun q => t.testBit q = true)
theorem QQ_skip {σ : St} {o p t m : Nat} (h : QQ σ o p t m) (hp : t.testBit p = true ∨ o.testBit p = true) : QQ σ o (p + 1) t m := by
  obtain ⟨⟨h1, h2, h3, h4⟩, h5⟩ := h
  refine ⟨⟨h1, h2, fun q hq => ?_, fun q hq hoq => ?_⟩, h5⟩
  · obtain ⟨g1, g2, r, g3, g4⟩ := h3 q hq
    exact ⟨g1, g2, r, by omega, g4⟩
  · by_cases e : q = p
    · subst e
      rcases hp with hp | hp
      · exact hp
      · rw [hoq] at hp; cases hp
    · exact h4 q (by omega) hoq
theorem QQ_in {σ : St} (zw : wf σ) {o p t m : Nat} (hp : p < sN σ) (h : QQ σ o p t m) (htp : t.testBit p = false) (hop : o.testBit p = false) : WW σ o (p + 1) (t ||| 2 ^ p) m := by
  obtain ⟨⟨h1, ⟨f1, f2, f3⟩, h3, h4⟩, h5⟩ := h
  have h9 := zw.1
  have hrep : rep σ o p = true := by
    obtain ⟨l1, l2, l3⟩ := prt_lb zw (o := o) (p := p) (by omega)
    unfold rep
    rw [hop, Bool.not_false, Bool.true_and, decide_eq_true_eq]
    apply Classical.byContradiction
    intro hne
    have hl : t.testBit (lb (itn σ o p 9)) = true := h4 _ (by omega) (prt_out hop l1)
    have := prt_min (D := fun q => t.testBit q = true) h5 hl (prt_symm zw (by omega) l1)
    rw [htp] at this
    cases this
  refine ⟨Nat.or_lt_two_pow (n := 9) h1 (Nat.pow_lt_pow_right (by decide) (by omega)), ⟨f1, fun q hq => ?_, fun m' r1 r2 q hq => ?_⟩, fun q hq => ?_, fun q hq hoq => ?_⟩
  · obtain ⟨g1, g2⟩ := f2 q hq
    exact ⟨by rw [Nat.testBit_or, g1]; rfl, g2⟩
  · rw [Nat.testBit_or, Nat.testBit_two_pow, Bool.or_eq_true, decide_eq_true_eq] at hq
    rcases hq with hq | rfl
    · exact f3 m' r1 r2 q hq
    · rw [r1 p hrep]
      cases e : m.testBit p with
      | false => rfl
      | true => rw [(f2 p e).1] at htp; cases htp
  · rw [Nat.testBit_or, Nat.testBit_two_pow, Bool.or_eq_true, decide_eq_true_eq] at hq
    rcases hq with hq | rfl
    · obtain ⟨g1, g2, r, g3, g4⟩ := h3 q hq
      exact ⟨g1, g2, r, by omega, g4⟩
    · exact ⟨hp, hop, p, by omega, hop, prt_self⟩
  · rw [Nat.testBit_or, Nat.testBit_two_pow]
    by_cases e : q = p
    · rw [e, decide_eq_true rfl, Bool.or_true]
    · rw [h4 q (by omega) hoq]; rfl
theorem WW_step {σ : St} (zw : wf σ) {o p t m f a b : Nat} (h : WW σ o p t m) (hp : p ≤ sN σ) (hf : f < sM σ) (ho : eb σ f &&& o = 0) (hs : (sL σ f = a ∧ sG σ f = b) ∨ (sL σ f = b ∧ sG σ f = a)) (ha : t.testBit a = true) (hb : t.testBit b = false) :
    WW σ o p (t ||| 2 ^ b) (m ||| cond (wrm σ f m) (2 ^ b) 0) ∧ pcn t < pcn (t ||| 2 ^ b) ∧ m.testBit b = false := by
  obtain ⟨h1, h2, h3, h4⟩ := h
  have h9 := zw.1
  have e3 := zw.2.1.1 f hf
  obtain ⟨ga, oa, r, hr, hor, hpr⟩ := h3 a ha
  have hbN : b < sN σ := by rcases hs with ⟨-, e⟩ | ⟨e, -⟩ <;> omega
  have hob : o.testBit b = false := by
    have hc := out_clo (σ := σ) (o := o) f hf ho (hs.elim (fun e => Or.inl (by rw [e.1]; exact oa)) (fun e => Or.inr (by rw [e.2]; exact oa)))
    rcases hs with ⟨-, e⟩ | ⟨e, -⟩
    · rw [← e]; exact hc.2
    · rw [← e]; exact hc.1
  have hrb : prt σ o r b := by
    have hc := prt_clo zw (out := o) (p := r) (by omega) f hf ho (hs.elim (fun e => Or.inl (by rw [e.1]; exact hpr)) (fun e => Or.inr (by rw [e.2]; exact hpr)))
    rcases hs with ⟨-, e⟩ | ⟨e, -⟩
    · rw [← e]; exact hc.2
    · rw [← e]; exact hc.1
  have hpb : ¬ b < p := fun q => by rw [h4 b q hob] at hb; cases hb
  have hnr : ¬ rep σ o b = true := fun q => by rw [rep_no zw (by omega) hrb (by omega)] at q; cases q
  have et : t ||| 2 ^ b = t ||| eb σ f := by
    apply Nat.eq_of_testBit_eq
    intro q
    rw [Nat.testBit_or, Nat.testBit_or, Nat.testBit_two_pow, Bool.eq_iff_iff, Bool.or_eq_true, Bool.or_eq_true, decide_eq_true_eq, eb_bit]
    constructor
    · rintro (g | rfl)
      · exact Or.inl g
      · exact Or.inr (by rcases hs with ⟨-, e⟩ | ⟨e, -⟩ <;> omega)
    · rintro (g | g)
      · exact Or.inl g
      · rcases hs with ⟨e1, e2⟩ | ⟨e1, e2⟩ <;> rcases g with g | g
        · exact Or.inl (by rw [g, e1]; exact ha)
        · exact Or.inr (by omega)
        · exact Or.inr (by omega)
        · exact Or.inl (by rw [g, e2]; exact ha)
  have hst := FF_step zw h2 hf ho hs ha hb hnr
  have hlt : t ||| 2 ^ b < 512 := Nat.or_lt_two_pow (n := 9) h1 (Nat.pow_lt_pow_right (by decide) (by omega))
  refine ⟨⟨hlt, by rw [et]; exact hst, fun q hq => ?_, fun q hq hoq => by rw [Nat.testBit_or, h4 q hq hoq]; rfl⟩, pcn_lt h1 hlt (fun i hi => by rw [Nat.testBit_or, hi]; rfl) (fun e => ?_), ?_⟩
  · rw [Nat.testBit_or, Nat.testBit_two_pow, Bool.or_eq_true, decide_eq_true_eq] at hq
    rcases hq with hq | rfl
    · exact h3 q hq
    · exact ⟨hbN, hob, r, hr, hor, hrb⟩
  · rw [e, Nat.testBit_or, Nat.testBit_two_pow, decide_eq_true rfl, Bool.or_true] at hb
    cases hb
  · cases e : m.testBit b with
    | false => rfl
    | true => rw [(h2.2.1 b e).1] at hb; cases hb
theorem QQ_end {σ : St} {o t m : Nat} (h : QQ σ o (sN σ) t m) : psF σ o m := by
  obtain ⟨⟨h1, ⟨f1, f2, f3⟩, h3, h4⟩, h5⟩ := h
  refine ⟨f1, fun q hq => ?_, fun m' hP q => ?_⟩
  · obtain ⟨g1, g2⟩ := f2 q hq
    obtain ⟨g3, g4, -⟩ := h3 q g1
    refine ⟨g3, g4, ?_⟩
    cases e : rep σ o q with
    | false => rfl
    | true => exact absurd e g2
  · by_cases hq : t.testBit q = true
    · refine (f3 m' (fun x hx => ?_) hP.2 q hq).symm
      cases e : m'.testBit x with
      | false => rfl
      | true => exact absurd (show rep σ o x = true from hx) (by rw [(hP.1 x e).2.2]; decide)
    · have e1 : m'.testBit q = false := by
        cases e : m'.testBit q with
        | false => rfl
        | true => exact absurd (h4 q (hP.1 q e).1 (hP.1 q e).2.1) hq
      have e2 : m.testBit q = false := by
        cases e : m.testBit q with
        | false => rfl
        | true => exact absurd (f2 q e).1 hq
      rw [e1, e2]
theorem bi_xor {u v : Bool} : bi u ^^^ bi v = bi (u != v) := by cases u <;> cases v <;> decide
theorem bi_shl {v : Bool} {b : Nat} (hb : b < 31) : bi v <<< (nI b &&& 31) = nI (cond v (2 ^ b) 0) := by
  cases v with
  | true => exact nI_shl1 hb
  | false =>
    have := nI_shl (x := 0) (a := b) (by omega) (by omega)
    rw [Nat.zero_mul] at this
    exact this
theorem bb2 {m a b : Nat} (hm : m < 512) (ha : a < 9) (hb : b < 9) : ((nI m >>> (nI a &&& 31)) &&& 1 = (nI m >>> (nI b &&& 31)) &&& 1) = (m.testBit a = m.testBit b) := by
  rw [nI_bit (by omega) (by omega), nI_bit (by omega) (by omega), bi_inj]
theorem bb1 {m a : Nat} (hm : m < 512) (ha : a < 9) : ((nI m >>> (nI a &&& 31)) &&& 1 = 1) = (m.testBit a = true) := by
  rw [nI_bit (by omega) (by omega), show (1 : Int32) = bi true from rfl, bi_inj]
theorem m_isPeace {E : am_E} (zi : am_inj E) {k : Nat} {σ : St} (zw : wf σ) {I : am_I} (zR : RS I σ) (w : Int64) {o : Nat} (ho : o < 512) :
    am_Ret E k Y_MO_isPeace [.ref 88, .int (nI o)] I w (fun q I' w' => q = some (.int (bi (pea σ o).isSome)) ∧ w' = w ∧ (∀ x, pea σ o = some x → I' 88 34 = nI x) ∧ am_fs 88 [34] [] I I') := by
  refine am_intro (pv_MO_isPeace E k) (by decide) zi ?_ rfl rfl ?_
  · rintro _ _ _ ⟨rfl, -⟩; exact bi_nr _
  intro S hS
  have h9 := zw.1
  have h36 := sM_le zw
  have RSk : ∀ {J : am_I}, am_fs 88 [34] [] I J → RS J σ := fun h => RS_fs h (fun q _ _ hz => absurd hz List.not_mem_nil) (by decide) (by decide) zR
  have bd : ∀ {f : Nat}, f < sM σ → vp_in (nI f) 36 := fun h => vp_in_nI (by omega) (by omega)
  have cl : ∀ {f : Nat}, f < sM σ → (nI f).toNatClampNeg = f := fun h => nI_clamp (by omega)
  have hz : ∀ f, f < sM σ → ((((1 : Int32) <<< (nI (sL σ f) &&& 31) ||| 1 <<< (nI (sG σ f) &&& 31)) &&& nI o = 0) = (eb σ f &&& o = 0)) := fun f hf => by
    have e3 := zw.2.1.1 f hf
    have b1 : eb σ f &&& o < 512 := Nat.and_lt_two_pow (n := 9) _ ho
    rw [nI_shl1 (by omega), nI_shl1 (by omega), nI_or, nI_and]
    show (nI (eb σ f &&& o) = nI 0) = _
    rw [neq (by omega) (by decide)]
  have tail : ∀ m J X4 X5 X6 X7 X8 X9 x2, psF σ o m → J 88 34 = nI m → am_fs 88 [34] [] I J → S 216 [some (.ref 88), some (.int (nI o)), some (.int x2), some (.int (nI 0)), X4, X5, X6, X7, X8, X9] [] J w := by
    intro m J X4 X5 X6 X7 X8 X9 x2 hF h34 fJ
    have zJ := RSk fJ
    have l2 := down (P := fun f => ∀ X4 X5, (∀ g, g < f → eb σ g &&& o = 0 → wrm σ g m = false) → S 216 [some (.ref 88), some (.int (nI o)), some (.int x2), some (.int (nI f)), X4, X5, X6, X7, X8, X9] [] J w) (sM σ) ?z ?s
    case z =>
      intro X4 X5 hb
      refine am_at hS (fun t => Nat.beq t 216) 90 216 ?_
      refine ⟨fun q => absurd q (by rw [zJ.2.1]; exact nI_nlt (Nat.le_refl _) (by omega)), fun _ => ?_⟩
      rw [psF_yes hF hb]
      exact ⟨rfl, rfl, fun x hx => (by cases hx; exact h34), fJ⟩
    case s =>
      intro f hf hn X4 X5 hb
      have m512 := hF.1
      obtain ⟨e94, e95, e96, -⟩ := zJ.2.2 f hf
      have e3 := zw.2.1.1 f hf
      have hsg := zw.2.1.2.1 f hf
      have next : (eb σ f &&& o = 0 → wrm σ f m = false) → ∀ X4 X5, S 216 [some (.ref 88), some (.int (nI o)), some (.int x2), some (.int (nI f + 1)), X4, X5, X6, X7, X8, X9] [] J w := fun h X4 X5 => by
        have h2 := hn X4 X5 (fun g hg hgo => by
          by_cases e : g = f
          · rw [e]; rw [e] at hgo; exact h hgo
          · exact hb g (by omega) hgo)
        rw [← nI_1] at h2
        exact h2
      have a289 : ∀ b c, b = !decide (eb σ f &&& o = 0) → c = !(m.testBit (sL σ f) == m.testBit (sG σ f)) → S 289 [some (.ref 88), some (.int (nI o)), some (.int x2), some (.int (nI f)), some (.int (bi b)), some (.int (bi c)), X6, X7, X8, X9] [] J w := by
        intro b c hb2 hc
        refine am_at hS (fun t => Nat.beq t 216) 90 289 ?_
        refine ⟨fun h => ?_, fun h => ?_⟩
        · rw [bi_eq0] at h
          have h56 : eb σ f &&& o = 0 := by
            rw [h] at hb2
            have := congrArg (!·) hb2
            rw [Bool.not_not, Bool.not_false] at this
            exact of_decide_eq_true this.symm
          have ew : wrm σ f m = (decide (0 < sS σ f) != !c) := by unfold wrm wrt; rw [hc, Bool.not_not]
          have ret : wrm σ f m = true → am_po (fun q I' w' => q = some (.int (bi (pea σ o).isSome)) ∧ w' = w ∧ (∀ x, pea σ o = some x → I' 88 34 = nI x) ∧ am_fs 88 [34] [] I I') [] [.int 0] J w := fun hw => by
            show _ ∧ _ ∧ _ ∧ _
            rw [psF_no hF hf h56 hw]
            exact ⟨rfl, rfl, fun x hx => (by cases hx), fJ⟩
          refine ⟨bd hf, ?_⟩
          rw [cl hf, e96]
          refine ⟨fun h0 => ?_, fun h0 => ?_⟩
          · have hg : decide (0 < sS σ f) = false := by rcases hsg with e | e <;> rw [e] at h0 ⊢ <;> revert h0 <;> decide
            rw [hg] at ew
            cases c with
            | true => exact ⟨fun _ => next (fun _ => ew) _ _, fun q => absurd rfl q⟩
            | false => exact ⟨fun q => absurd (show (0 : Int32) = 1 from q) (by decide), fun _ => ret ew⟩
          · have hg : decide (0 < sS σ f) = true := by rcases hsg with e | e <;> rw [e] at h0 ⊢ <;> revert h0 <;> decide
            rw [hg] at ew
            cases c with
            | true => exact ⟨fun q => absurd (show (1 : Int32) = 0 from q) (by decide), fun _ => ret ew⟩
            | false => exact ⟨fun _ => next (fun _ => ew) _ _, fun q => absurd rfl q⟩
        · rw [bi_eq0, Bool.not_eq_false] at h
          rw [h] at hb2
          have h56 : ¬ eb σ f &&& o = 0 := fun q => by rw [decide_eq_true q] at hb2; cases hb2
          exact next (fun q => absurd q h56) _ _
      have a253 : ∀ b, b = !decide (eb σ f &&& o = 0) → ∀ X5, S 253 [some (.ref 88), some (.int (nI o)), some (.int x2), some (.int (nI f)), some (.int (bi b)), X5, X6, X7, X8, X9] [] J w := by
        intro b hb2 X5
        refine am_at hS (fun t => Nat.beq t 216 || Nat.beq t 289) 90 253 ?_
        refine ⟨bd hf, ?_⟩
        refine ⟨bd hf, ?_⟩
        rw [cl hf, e94, e95, h34]
        refine ⟨fun h => ?_, fun h => ?_⟩
        · have h := (bb2 m512 (by omega) (by omega)).mp h
          exact a289 b false hb2 (by rw [h, beq_self_eq_true]; rfl)
        · have h := fun q => h ((bb2 m512 (by omega) (by omega)).mpr q)
          exact a289 b true hb2 (by rw [beq_eq_false_iff_ne.mpr h]; rfl)
      refine am_at hS (fun t => Nat.beq t 216 || Nat.beq t 253) 90 216 ?_
      refine ⟨fun _ => ?_, fun q => absurd (show nI f < J 88 16 by rw [zJ.2.1]; exact nI_lt hf (by omega)) q⟩
      refine ⟨bd hf, ?_⟩
      refine ⟨bd hf, ?_⟩
      rw [cl hf, e94, e95]
      refine ⟨fun h => ?_, fun h => ?_⟩
      · have h := (hz f hf).mp h
        exact a253 false (by rw [decide_eq_true h]; rfl) X5
      · have h := fun q => h ((hz f hf).mpr q)
        exact a253 true (by rw [decide_eq_false h]; rfl) X5
    exact l2 0 (Nat.zero_le _) X4 X5 (fun g hg => absurd hg (by omega))
  have loop := down (P := fun p => ∀ t m J X4 X5 X6 X7 X8 X9, QQ σ o p t m → J 88 34 = nI m → am_fs 88 [34] [] I J → S 9 [some (.ref 88), some (.int (nI o)), some (.int (nI t)), some (.int (nI p)), X4, X5, X6, X7, X8, X9] [] J w) (sN σ) ?z ?s
  case z =>
    intro t m J X4 X5 X6 X7 X8 X9 hQ h34 fJ
    have zJ := RSk fJ
    refine am_at hS (fun t => Nat.beq t 9 || Nat.beq t 216) 80 9 ?_
    exact ⟨fun q => absurd q (by rw [zJ.1.1]; exact nI_nlt (Nat.le_refl _) (by omega)), fun _ => tail m J _ _ _ _ _ _ _ (QQ_end hQ) h34 fJ⟩
  case s =>
    intro p hp hn t m J X4 X5 X6 X7 X8 X9 hQ h34 fJ
    have zJ := RSk fJ
    have ht := hQ.1.1
    have next : QQ σ o (p + 1) t m → S 9 [some (.ref 88), some (.int (nI o)), some (.int (nI t)), some (.int (nI p + 1)), X4, X5, X6, X7, X8, X9] [] J w := fun h => by
      have h2 := hn t m J X4 X5 X6 X7 X8 X9 h h34 fJ
      rw [← nI_1] at h2
      exact h2
    have pass : ∀ n t m J X5 X6 X7 X8 X9, 10 - pcn t ≤ n → WW σ o (p + 1) t m → J 88 34 = nI m → am_fs 88 [34] [] I J → S 47 [some (.ref 88), some (.int (nI o)), some (.int (nI t)), some (.int (nI p)), some (.int 1), X5, X6, X7, X8, X9] [] J w := by
      intro n
      induction n with
      | zero =>
        intro t m J X5 X6 X7 X8 X9 hm
        have := pcn_le t
        omega
      | succ n ih =>
        intro t m J X5 X6 X7 X8 X9 hm hW h34 fJ
        have inner := down (P := fun f => ∀ (t' m' : Nat) (J : am_I) (b : Bool) X6 X7 X8 X9, WW σ o (p + 1) t' m' → J 88 34 = nI m' → am_fs 88 [34] [] I J → (b = false → t' = t ∧ ∀ g, g < f → eb σ g &&& o = 0 → t.testBit (sL σ g) = t.testBit (sG σ g)) → (b = true → pcn t < pcn t') → S 58 [some (.ref 88), some (.int (nI o)), some (.int (nI t')), some (.int (nI p)), some (.int (bi b)), some (.int (nI f)), X6, X7, X8, X9] [] J w) (sM σ) ?z2 ?s2
        case z2 =>
          intro t' m' J b X6 X7 X8 X9 hW h34 fJ hb0 hb1
          have zJ := RSk fJ
          refine am_at hS (fun t => Nat.beq t 47) 90 58 ?_
          refine ⟨fun q => absurd q (by rw [zJ.2.1]; exact nI_nlt (Nat.le_refl _) (by omega)), fun _ => ?_⟩
          cases b with
          | true =>
            have h1 := hb1 rfl
            exact ih t' m' J _ _ _ _ _ (by omega) hW h34 fJ
          | false =>
            obtain ⟨e1, e2⟩ := hb0 rfl
            refine am_at hS (fun t => Nat.beq t 9) 90 47 ?_
            refine ⟨fun _ => ?_, fun q => absurd rfl q⟩
            have hQ2 : QQ σ o (p + 1) t' m' := ⟨hW, fun f hf hfo hor => by
              have e := e2 f hf hfo
              rw [← e1] at e
              rcases hor with h | h
              · exact ⟨h, e.symm.trans h⟩
              · exact ⟨e.trans h, h⟩⟩
            have h2 := hn t' m' J (some (.int (bi false))) (some (.int (nI (sM σ)))) X6 X7 X8 X9 hQ2 h34 fJ
            rw [← nI_1] at h2
            exact h2
        case s2 =>
          intro f hf hgo t' m' J b X6 X7 X8 X9 hW h34 fJ hb0 hb1
          have zJ := RSk fJ
          obtain ⟨e94, e95, e96, -⟩ := zJ.2.2 f hf
          have e3 := zw.2.1.1 f hf
          have hsg := zw.2.1.2.1 f hf
          have t512 := hW.1
          have m512 := hW.2.1.1
          have stay : (eb σ f &&& o = 0 → t'.testBit (sL σ f) = t'.testBit (sG σ f)) → ∀ X6 X7 X8 X9, S 58 [some (.ref 88), some (.int (nI o)), some (.int (nI t')), some (.int (nI p)), some (.int (bi b)), some (.int (nI f + 1)), X6, X7, X8, X9] [] J w := fun h X6 X7 X8 X9 => by
            have h2 := hgo t' m' J b X6 X7 X8 X9 hW h34 fJ (fun hb => by
              obtain ⟨g1, g2⟩ := hb0 hb
              refine ⟨g1, fun g hg hgo => ?_⟩
              by_cases e : g = f
              · rw [e] at hgo ⊢
                rw [← g1]
                exact h hgo
              · exact g2 g (by omega) hgo) hb1
            rw [← nI_1] at h2
            exact h2
          have a152 : ∀ a y, ((sL σ f = a ∧ sG σ f = y) ∨ (sL σ f = y ∧ sG σ f = a)) → eb σ f &&& o = 0 → t'.testBit a = true → t'.testBit y = false → ∀ X6 X7, S 152 [some (.ref 88), some (.int (nI o)), some (.int (nI t')), some (.int (nI p)), some (.int (bi b)), some (.int (nI f)), X6, X7, some (.int (nI a)), some (.int (nI y))] [] J w := by
            intro a y hs h56 ha hy X6 X7
            obtain ⟨w1, w2, w3⟩ := WW_step zw hW (by omega) hf h56 hs ha hy
            have ay9 : a < 9 ∧ y < 9 := by rcases hs with ⟨q1, q2⟩ | ⟨q1, q2⟩ <;> omega
            have fin : ∀ v : Int32, v = nI (m' ||| cond (wrm σ f m') (2 ^ y) 0) → S 58 [some (.ref 88), some (.int (nI o)), some (.int (nI t' ||| 1 <<< (nI y &&& 31))), some (.int (nI p)), some (.int 1), some (.int (nI f + 1)), X6, X7, some (.int (nI a)), some (.int (nI y))] [] (am_up J 88 34 v) w := fun v hv => by
              have h2 := hgo (t' ||| 2 ^ y) (m' ||| cond (wrm σ f m') (2 ^ y) 0) (am_up J 88 34 v) true X6 X7 (some (.int (nI a))) (some (.int (nI y))) w1 (am_seq.trans hv) (am_fs.upo fJ (by decide)) (fun q => by cases q) (fun _ => by
                cases b with
                | true => have := hb1 rfl; omega
                | false => rw [← (hb0 rfl).1]; exact w2)
              rw [← nI_or, ← nI_1, ← nI_shl1 (by omega)] at h2
              exact h2
            have val : ∀ hb : Bool, hb = decide (sS σ f < 0) → nI m' ||| (((nI m' >>> (nI a &&& 31)) &&& 1) ^^^ bi hb) <<< (nI y &&& 31) = nI (m' ||| cond (wrm σ f m') (2 ^ y) 0) := fun hb hh => by
              have ew : wrm σ f m' = (m'.testBit a != hb) := by
                rw [wrm_sw hs, w3, hh]
                rcases hsg with e | e <;> rw [e] <;> cases m'.testBit a <;> decide
              rw [nI_bit (by omega) (by omega), bi_xor, bi_shl (by omega), nI_or, ew]
            refine am_at hS (fun t => Nat.beq t 58) 90 152 ?_
            refine ⟨bd hf, ?_⟩
            rw [cl hf, e96]
            refine ⟨fun h0 => ?_, fun h0 => ?_⟩
            · rw [h34]
              exact fin _ (val true (decide_eq_true h0).symm)
            · rw [h34]
              exact fin _ (val false (decide_eq_false h0).symm)
          refine am_at hS (fun t => Nat.beq t 58 || Nat.beq t 152) 90 58 ?_
          refine ⟨fun _ => ?_, fun q => absurd (show nI f < J 88 16 by rw [zJ.2.1]; exact nI_lt hf (by omega)) q⟩
          refine ⟨bd hf, ?_⟩
          rw [cl hf, e94]
          refine ⟨bd hf, ?_⟩
          rw [cl hf, e95]
          refine ⟨fun h56 => ?_, fun h56 => ?_⟩
          · have h56 := (hz f hf).mp h56
            refine ⟨fun h => ?_, fun h => ?_⟩
            · have h := (bb2 t512 (by omega) (by omega)).mp h
              exact stay (fun _ => h) _ _ _ _
            · have h := fun q => h ((bb2 t512 (by omega) (by omega)).mpr q)
              refine ⟨fun h1 => ?_, fun h1 => ?_⟩
              · have h1 : t'.testBit (sL σ f) = true := (bb1 t512 (by omega)).mp h1
                refine ⟨fun _ => ?_, fun q => absurd rfl q⟩
                exact a152 _ _ (Or.inl ⟨rfl, rfl⟩) h56 h1 (by cases q : t'.testBit (sG σ f) with | false => rfl | true => exact absurd (h1.trans q.symm) h) _ _
              · have h1 : t'.testBit (sL σ f) = false := by
                  cases q : t'.testBit (sL σ f) with
                  | false => rfl
                  | true => exact absurd ((bb1 t512 (by omega)).mpr q) h1
                refine ⟨fun q => ?_, fun _ => ?_⟩
                · rw [neq (by omega) (by omega)] at q
                  omega
                · exact a152 _ _ (Or.inr ⟨rfl, rfl⟩) h56 (by cases q : t'.testBit (sG σ f) with | true => rfl | false => exact absurd (h1.trans q.symm) h) h1 _ _
          · exact stay (fun q => absurd ((hz f hf).mpr q) h56) _ _ _ _
        refine am_at hS (fun t => Nat.beq t 58) 90 47 ?_
        refine ⟨fun q => absurd (show (1 : Int32) = 0 from q) (by decide), fun _ => ?_⟩
        exact inner 0 (Nat.zero_le _) t m J false X6 X7 X8 X9 hW h34 fJ (fun _ => ⟨rfl, fun g hg => absurd hg (by omega)⟩) (fun q => by cases q)
    refine am_at hS (fun t => Nat.beq t 9 || Nat.beq t 47) 80 9 ?_
    refine ⟨fun _ => ?_, fun q => absurd (show nI p < J 88 9 by rw [zJ.1.1]; exact nI_lt hp (by omega)) q⟩
    refine ⟨fun h => ?_, fun h => ?_⟩
    · have h1 : t.testBit p = true := (bb1 ht (by omega)).mp h
      exact next (QQ_skip hQ (Or.inl h1))
    · have h1 : t.testBit p = false := by
        cases q : t.testBit p with
        | false => rfl
        | true => exact absurd ((bb1 ht (by omega)).mpr q) h
      refine ⟨fun h2 => ?_, fun h2 => ?_⟩
      · have h2 : o.testBit p = true := (bb1 ho (by omega)).mp h2
        exact next (QQ_skip hQ (Or.inr h2))
      · have h2 : o.testBit p = false := by
          cases q : o.testBit p with
          | false => rfl
          | true => exact absurd ((bb1 ho (by omega)).mpr q) h2
        have h3 := pass 10 (t ||| 2 ^ p) m J X5 X6 X7 X8 X9 (by omega) (QQ_in zw hp hQ h1 h2) h34 fJ
        rw [← nI_or, ← nI_shl1 (by omega)] at h3
        exact h3
  refine am_at hS (fun t => Nat.beq t 9) 80 0 ?_
  exact loop 0 (Nat.zero_le _) 0 0 (am_up I 88 34 0) none none none none none none ⟨⟨by decide, ⟨by decide, fun q hq => (by rw [Nat.zero_testBit] at hq; cases hq), fun m' _ _ q hq => (by rw [Nat.zero_testBit] at hq; cases hq)⟩, fun q hq => (by rw [Nat.zero_testBit] at hq; cases hq), fun q hq => absurd hq (by omega)⟩, fun f _ _ hor => (by rcases hor with h | h <;> (rw [Nat.zero_testBit] at h; cases h))⟩ am_seq (am_fs.upo am_fs.refl (by decide))
theorem m_peace {E : am_E} (zi : am_inj E) {k : Nat} (hk : 1 ≤ k) {σ : St} (zw : wf σ) {I : am_I} (zR : RS I σ) (w : Int64) :
    am_Ret E k Y_MO_peace [.ref 88] I w (fun q I' w' => q = some (.int (aPeace σ)) ∧ w' = w ∧ am_fs 88 [34] [] I I') := by
  refine am_intro (pv_MO_peace E k) (by decide) zi ?_ rfl rfl ?_
  · rintro _ _ _ ⟨rfl, -⟩; rfl
  intro S hS
  unfold aPeace at hS
  refine am_at hS (fun _ => false) 80 0 ?_
  refine ⟨_, _, (by omega : k - 1 < k), m_isPeace zi zw zR w (o := 0) (by decide), ?_⟩
  rintro _ J w1 ⟨rfl, rfl, h34, fJ⟩
  refine ⟨fun h => ?_, fun h => ?_⟩
  · rw [bi_eq0] at h
    cases hp : pea σ 0 with
    | none => exact ⟨rfl, rfl, fJ⟩
    | some x => rw [hp] at h; cases h
  · rw [bi_eq0, Bool.not_eq_false] at h
    cases hp : pea σ 0 with
    | none => rw [hp] at h; cases h
    | some x =>
      exact ⟨congrArg (fun y => some (Value.int y)) (h34 x hp), rfl, fJ⟩
