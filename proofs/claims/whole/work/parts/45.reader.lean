/-! the class reads a TEXT: its parts -/
def tkS (T : Nat → Int32) (L : Nat) (I : am_I) : Prop := ∀ j, j ≤ L → I 43 j = T j
def lay (f : Nat → Int32) (c : List Int32) : Prop := ∀ (j : Nat) (v : Int32), c[j]? = some v → f j = v
theorem lay_up {f : Nat → Int32} {c : List Int32} {v : Int32} (h : lay f c) : lay (fup f c.length v) (c ++ [v]) := by
  intro j u hj
  by_cases hl : j < c.length
  · rw [List.getElem?_append_left hl] at hj
    rw [fup_ne (by omega)]
    exact h j u hj
  · rw [List.getElem?_append_right (by omega)] at hj
    have e : j = c.length := by
      apply Classical.byContradiction
      intro q
      rw [List.getElem?_eq_none (by rw [List.length_singleton]; omega)] at hj
      cases hj
    subst e
    rw [Nat.sub_self] at hj
    cases hj
    exact fup_self
def rdS (T : Nat → Int32) (i : Nat) (c : List Int32) (I : am_I) : Prop := (I 42 3 = nI i ∧ I 42 4 = T i) ∧ I 45 1 = nI c.length ∧ lay (I 46) c ∧ c.length ≤ i
def stt (T : Nat → Int32) (c : List Int32) (r : PR) (J : am_I) : Prop := (pOk r = true → rdS T (pAt r) (c ++ pCo r) J) ∧ (pOk r = false → J 42 3 = nI (pAt r) ∧ ∃ z, z ≤ 160 ∧ J 45 1 = nI z)
def adv (T : Nat → Int32) (i : Nat) (I : am_I) : am_I := am_up (am_up I 42 3 (nI (i + 1))) 42 4 (T (i + 1))
def adI (v : Int32) (z : Nat) (I : am_I) : am_I := cond (decide (z < 160)) (am_up (am_up I 46 z v) 45 1 (nI (z + 1))) I
theorem tkS_fs {T : Nat → Int32} {L : Nat} {I J : am_I} (h : am_fs 45 [1] [42, 46] I J) (hT : tkS T L I) : tkS T L J := fun j hj => by rw [h.1 43 (by decide) (by decide)]; exact hT j hj
theorem adv_fs {T : Nat → Int32} {i : Nat} {I : am_I} : am_fs 45 [1] [42, 46] I (adv T i I) := am_fs.up (am_fs.up am_fs.refl (by decide) (by decide)) (by decide) (by decide)
theorem adI_fs {v : Int32} {z : Nat} {I : am_I} : am_fs 45 [1] [42, 46] I (adI v z I) := by
  unfold adI
  cases decide (z < 160) with
  | true => exact am_fs.upo (am_fs.up am_fs.refl (by decide) (by decide)) (by decide)
  | false => exact am_fs.refl
theorem rdS_adv {T : Nat → Int32} {i : Nat} {c : List Int32} {I : am_I} (h : rdS T i c I) : rdS T (i + 1) c (adv T i I) := by
  obtain ⟨⟨h1, h2⟩, h3, h4, h5⟩ := h
  have e3 : adv T i I 42 3 = nI (i + 1) := by unfold adv; rw [am_up_fup, fup_ne (by decide), am_up_fup, fup_self]
  have e4 : adv T i I 42 4 = T (i + 1) := by unfold adv; rw [am_up_fup, fup_self]
  have e5 : adv T i I 45 = I 45 := by unfold adv; rw [am_up_ne (by decide), am_up_ne (by decide)]
  have e6 : adv T i I 46 = I 46 := by unfold adv; rw [am_up_ne (by decide), am_up_ne (by decide)]
  exact ⟨⟨e3, e4⟩, by rw [e5]; exact h3, by rw [e6]; exact h4, by omega⟩
theorem adI_42 {v : Int32} {z : Nat} {I : am_I} : adI v z I 42 = I 42 := by
  unfold adI
  cases decide (z < 160) with
  | true => rw [cond_true, am_up_ne (by decide), am_up_ne (by decide)]
  | false => rfl
theorem adI_z {v : Int32} {z : Nat} {I : am_I} (hz : z ≤ 160) (h : I 45 1 = nI z) : ∃ y, y ≤ 160 ∧ adI v z I 45 1 = nI y := by
  unfold adI
  by_cases hq : z < 160
  · rw [decide_eq_true hq, cond_true, am_up_fup, fup_self]
    exact ⟨z + 1, by omega, rfl⟩
  · rw [decide_eq_false hq]
    exact ⟨z, hz, h⟩
theorem stt_add {T : Nat → Int32} {c2 : List Int32} {q : PR} {J : am_I} (h : stt T c2 q J) {c : List Int32} {r : PR} {t : Int32} (h1 : pOk r = pOk q) (h2 : pAt r = pAt q) (h3 : c ++ pCo r = (c2 ++ pCo q) ++ [t]) (h4 : pOk q = true → (c2 ++ pCo q).length < pAt q) (hL : pAt q ≤ 160) : ∃ z, z ≤ 160 ∧ J 45 1 = nI z ∧ stt T c r (adI t z J) := by
  cases hok : pOk q with
  | true =>
    obtain ⟨⟨a1, a2⟩, a3, a4, a5⟩ := h.1 hok
    have hl := h4 hok
    refine ⟨(c2 ++ pCo q).length, by omega, a3, fun _ => ?_, fun z => by rw [h1, hok] at z; cases z⟩
    have e : adI t (c2 ++ pCo q).length J = am_up (am_up J 46 (c2 ++ pCo q).length t) 45 1 (nI ((c2 ++ pCo q).length + 1)) := by
      unfold adI
      rw [decide_eq_true (by omega), cond_true]
    refine ⟨⟨by rw [adI_42, h2]; exact a1, by rw [adI_42, h2]; exact a2⟩, ?_, ?_, ?_⟩
    · rw [e, am_up_fup, fup_self, h3, List.length_append (bs := [t])]
      rfl
    · rw [e, am_up_ne (by decide), am_up_fup, h3]
      exact lay_up a4
    · rw [h3, h2, List.length_append (bs := [t]), List.length_singleton]
      omega
  | false =>
    obtain ⟨a1, z, a2, a3⟩ := h.2 hok
    refine ⟨z, a2, a3, fun y => (by rw [h1, hok] at y; cases y), fun _ => ⟨by rw [adI_42, h2]; exact a1, adI_z a2 a3⟩⟩
theorem skip_t {E : am_E} (zi : am_inj E) {k : Nat} {T : Nat → Int32} {L : Nat} (hL : L ≤ 160) {I : am_I} (hT : tkS T L I) {i : Nat} (h3 : I 42 3 = nI i) (h4 : I 42 4 = T i) (w : Int64) (hi : i < L) : am_Ret E k Y_TextReader_skip [.ref 42, .int (T i)] I w (am_eq (some (.int 1)) (adv T i I) w) := by
  refine am_intro (pv_TextReader_skip E k) (by decide) zi ?_ rfl rfl ?_
  · rintro _ _ _ ⟨rfl, -⟩; rfl
  intro S hS
  have e3 : am_up I 42 3 (I 42 3 + 1) 42 3 = nI (i + 1) := by rw [am_up_fup, fup_self, h3, nI_1]
  refine am_at hS (fun _ => false) 60 0 ?_
  refine ⟨fun _ => ?_, fun q => absurd h4 q⟩
  refine ⟨fun _ => ?_, fun q => absurd (show I 42 3 + 1 < nI 161 by rw [h3, nI_1]; exact nI_lt (by omega) (by omega)) q⟩
  refine ⟨by rw [e3]; exact vp_in_nI (by omega) (by omega), ?_⟩
  rw [e3, nI_clamp (by omega), am_up_ne (show (43 : Nat) ≠ 42 by decide), hT _ (by omega)]
  exact ⟨rfl, by unfold adv; rw [h3, nI_1], rfl⟩
theorem skip_f {E : am_E} (zi : am_inj E) {k : Nat} {T : Nat → Int32} {I : am_I} {i : Nat} (h4 : I 42 4 = T i) (w : Int64) {v : Int32} (hv : ¬ T i = v) : am_Ret E k Y_TextReader_skip [.ref 42, .int v] I w (am_eq (some (.int 0)) I w) := by
  refine am_intro (pv_TextReader_skip E k) (by decide) zi ?_ rfl rfl ?_
  · rintro _ _ _ ⟨rfl, -⟩; rfl
  intro S hS
  refine am_at hS (fun _ => false) 60 0 ?_
  exact ⟨fun q => absurd (h4.symm.trans q) hv, fun _ => ⟨rfl, rfl, rfl⟩⟩
theorem r_tAdd {E : am_E} (zi : am_inj E) {k : Nat} {I : am_I} {z : Nat} (hz : z ≤ 160) (h : I 45 1 = nI z) (v : Int32) (w : Int64) : am_Ret E k Y_Text_add [.ref 45, .int v] I w (am_eq none (adI v z I) w) := by
  refine am_intro (pv_Text_add E k) (by decide) zi ?_ rfl rfl ?_
  · rintro _ _ _ ⟨rfl, -⟩; trivial
  intro S hS
  unfold adI at hS
  refine am_at hS (fun _ => false) 60 0 ?_
  refine ⟨fun q => ?_, fun q => ?_⟩
  · have hq : z < 160 := by
      have h2 : I 45 1 < nI 160 := q
      rw [h, nlt (by omega) (by decide)] at h2
      exact h2
    refine ⟨by rw [h]; exact vp_in_nI (by omega) (by omega), ?_⟩
    rw [h, nI_clamp (by omega)]
    refine ⟨rfl, ?_, rfl⟩
    rw [decide_eq_true hq, cond_true, am_up_ne (show (45 : Nat) ≠ 46 by decide), h, nI_1]
  · have hq : ¬ z < 160 := by
      intro hz2
      have h2 : ¬ I 45 1 < nI 160 := q
      rw [h, nlt (by omega) (by decide)] at h2
      exact h2 hz2
    refine ⟨rfl, ?_, rfl⟩
    rw [decide_eq_false hq, cond_false]
/-- a method of the reader does what a part of the grammar says -/
def CK (E : am_E) (T : Nat → Int32) (L K : Nat) (Y : am_Y) (o : Nat) (g : Nat → PR) : Prop := ∀ (k : Nat), K ≤ k → ∀ (I : am_I) (w : Int64) (i : Nat) (c : List Int32), i ≤ L → tkS T L I → rdS T i c I →
  am_Ret E k Y [.ref 42, .int (nI o)] I w (fun q I' w' => q = some (.int (bi (pOk (g i)))) ∧ w' = w ∧ am_fs 45 [1] [42, 46] I I' ∧ stt T c (g i) I')
theorem cJ_co {c : List Int32} {t : Int32} {r q : PR} : c ++ pCo (pJ t r q) = (c ++ pCo r ++ pCo q) ++ [t] := by
  show c ++ (pCo r ++ pCo q ++ [t]) = (c ++ pCo r ++ pCo q) ++ [t]
  rw [← List.append_assoc, ← List.append_assoc]
theorem cJ_len {L i : Nat} {c : List Int32} {t : Int32} {r q : PR} (hc : c.length ≤ i) (h : GR L i (pJ t r q)) (hok : pOk q = true) : (c ++ pCo r ++ pCo q).length < pAt q := by
  obtain ⟨h1, h2, h3⟩ := h
  obtain ⟨a1, a2, a3⟩ := h3 hok
  have a4 : (pCo r ++ pCo q ++ [t]).length ≤ pAt q - i := a2
  have a5 : i < pAt q := a1
  rw [List.length_append, List.length_append, List.length_singleton] at a4
  rw [List.length_append, List.length_append]
  omega

theorem c_readTerm {E : am_E} (zi : am_inj E) {T : Nat → Int32} {L : Nat} (hL : stp (T L)) (hL160 : L ≤ 160) {K o : Nat} {g G : Nat → PR} (hg : GP L g) (hG : ∀ i, G i = lop T isTi g 160 (g i)) (hc : CK E T L K Y_TextReader_readOne o g) : CK E T L (K + 1) Y_TextReader_readTerm o G := by
  intro k hk I w i c hi hT hr0
  refine am_intro (pv_TextReader_readTerm E k) (by decide) zi ?_ rfl rfl ?_
  · rintro _ _ _ ⟨rfl, -⟩; exact bi_nr _
  intro S hS
  have hcl : c.length ≤ i := hr0.2.2.2
  have loop := down (P := fun t => ∀ (r : PR) (J : am_I), GR L i r → lop T isTi g (160 - t) r = G i → am_fs 45 [1] [42, 46] I J → stt T c r J → S 8 [some (.ref 42), some (.int (nI o)), some (.int (bi (pOk r))), some (.int (nI t))] [] J w) 160 ?z ?s
  case z =>
    intro r J hR e hJ hs
    have e2 : r = G i := e
    refine am_at hS (fun t => Nat.beq t 8) 120 8 ?_
    refine ⟨fun q => absurd q (by decide), fun _ => ?_⟩
    rw [← e2]
    exact ⟨rfl, rfl, hJ, hs⟩
  case s =>
    intro t ht hn r J hR e hJ hs
    have e160 : 160 - t = (160 - (t + 1)) + 1 := by omega
    rw [e160, lop] at e
    refine am_at hS (fun t => Nat.beq t 8) 120 8 ?_
    refine ⟨fun _ => ?_, fun q => absurd (show nI t < nI 160 from nI_lt ht (by decide)) q⟩
    cases hok : pOk r with
    | false =>
      rw [hok, Bool.false_and, cond_false] at e
      refine ⟨fun _ => ?_, fun q => absurd rfl q⟩
      rw [← e]
      exact ⟨by rw [hok], rfl, hJ, hs⟩
    | true =>
      obtain ⟨⟨s3, s4⟩, s5, s6, s7⟩ := hs.1 hok
      rw [hok, Bool.true_and] at e
      have stop : isTi (T (pAt r)) = false → some (Value.int 1) = some (.int (bi (pOk (G i)))) ∧ w = w ∧ am_fs 45 [1] [42, 46] I J ∧ stt T c (G i) J := fun hno => by
        rw [hno, cond_false] at e
        rw [← e, hok]
        exact ⟨rfl, rfl, hJ, hs⟩
      refine ⟨fun q => absurd q (by decide), fun _ => ?_⟩
      refine ⟨fun h25 => ?_, fun h25 => ?_⟩
      · have hv : T (pAt r) = -42 := s4.symm.trans h25
        have hop : isTi (T (pAt r)) = true := by rw [hv]; rfl
        have hlt : pAt r < L := st_lt hL hR.2.1 (opk_st (isTi_ok hop))
        rw [hop, cond_true] at e
        have hR2 := GR_J hL (fun _ => isTi_ok) hg hR hok hop
        refine ⟨_, _, (by omega : k - 1 < k), (by rw [← hv]; exact skip_t zi hL160 (tkS_fs hJ hT) s3 s4 w hlt), am_elim ?_⟩
        refine ⟨fun q => absurd q (by decide), fun _ => ?_⟩
        refine ⟨_, _, (by omega : k - 1 < k), hc (k - 1) (by omega) _ w (pAt r + 1) (c ++ pCo r) hlt (tkS_fs adv_fs (tkS_fs hJ hT)) (rdS_adv ⟨⟨s3, s4⟩, s5, s6, s7⟩), ?_⟩
        rintro _ I2 w2 ⟨rfl, rfl, f2, st2⟩
        have hf2 : am_fs 45 [1] [42, 46] I I2 := (hJ.trans adv_fs).trans f2
        obtain ⟨z, hz, ez, st3⟩ := stt_add st2 (r := pJ (T (pAt r)) r (g (pAt r + 1))) (c := c) (t := T (pAt r)) rfl rfl cJ_co (cJ_len hcl hR2) (Nat.le_trans hR2.2.1 hL160)
        have hnx := fun (_ : Unit) => hn (pJ (T (pAt r)) r (g (pAt r + 1))) _ hR2 e (hf2.trans adI_fs) st3
        refine ⟨fun h42 => ?_, fun h42 => ?_⟩
        · rw [bi_eq0] at h42
          refine ⟨_, _, (by omega : k - 1 < k), (by rw [← hv]; exact r_tAdd zi hz ez (T (pAt r)) w2), am_elim ?_⟩
          have hq := hnx ()
          rw [show pOk (pJ (T (pAt r)) r (g (pAt r + 1))) = false from h42, ← nI_1] at hq
          exact hq
        · rw [bi_eq0, Bool.not_eq_false] at h42
          refine ⟨_, _, (by omega : k - 1 < k), (by rw [← hv]; exact r_tAdd zi hz ez (T (pAt r)) w2), am_elim ?_⟩
          have hq := hnx ()
          rw [show pOk (pJ (T (pAt r)) r (g (pAt r + 1))) = true from h42, ← nI_1] at hq
          exact hq
      · exact stop (beq_eq_false_iff_ne.mpr (fun q => h25 (s4.trans q)))
  refine am_at hS (fun t => Nat.beq t 8) 120 0 ?_
  refine ⟨_, _, (by omega : k - 1 < k), hc (k - 1) (by omega) I w i c hi hT hr0, ?_⟩
  rintro _ I1 w1 ⟨rfl, rfl, f1, st1⟩
  exact loop 0 (Nat.zero_le _) (g i) I1 (hg i hi) (hG i).symm f1 st1
theorem c_readSum {E : am_E} (zi : am_inj E) {T : Nat → Int32} {L : Nat} (hL : stp (T L)) (hL160 : L ≤ 160) {K o : Nat} {g G : Nat → PR} (hg : GP L g) (hG : ∀ i, G i = lop T isSu g 160 (g i)) (hc : CK E T L K Y_TextReader_readTerm o g) : CK E T L (K + 1) Y_TextReader_readSum o G := by
  intro k hk I w i c hi hT hr0
  refine am_intro (pv_TextReader_readSum E k) (by decide) zi ?_ rfl rfl ?_
  · rintro _ _ _ ⟨rfl, -⟩; exact bi_nr _
  intro S hS
  have hcl : c.length ≤ i := hr0.2.2.2
  have loop := down (P := fun t => ∀ (r : PR) (J : am_I) (X : Option Value), GR L i r → lop T isSu g (160 - t) r = G i → am_fs 45 [1] [42, 46] I J → stt T c r J → S 8 [some (.ref 42), some (.int (nI o)), some (.int (bi (pOk r))), some (.int (nI t)), X] [] J w) 160 ?z ?s
  case z =>
    intro r J X hR e hJ hs
    have e2 : r = G i := e
    refine am_at hS (fun t => Nat.beq t 8) 120 8 ?_
    refine ⟨fun q => absurd q (by decide), fun _ => ?_⟩
    rw [← e2]
    exact ⟨rfl, rfl, hJ, hs⟩
  case s =>
    intro t ht hn r J X hR e hJ hs
    have e160 : 160 - t = (160 - (t + 1)) + 1 := by omega
    rw [e160, lop] at e
    refine am_at hS (fun t => Nat.beq t 8 || Nat.beq t 37) 120 8 ?_
    refine ⟨fun _ => ?_, fun q => absurd (show nI t < nI 160 from nI_lt ht (by decide)) q⟩
    cases hok : pOk r with
    | false =>
      rw [hok, Bool.false_and, cond_false] at e
      refine ⟨fun _ => ?_, fun q => absurd rfl q⟩
      rw [← e]
      exact ⟨by rw [hok], rfl, hJ, hs⟩
    | true =>
      obtain ⟨⟨s3, s4⟩, s5, s6, s7⟩ := hs.1 hok
      rw [hok, Bool.true_and] at e
      have stop : isSu (T (pAt r)) = false → some (Value.int 1) = some (.int (bi (pOk (G i)))) ∧ w = w ∧ am_fs 45 [1] [42, 46] I J ∧ stt T c (G i) J := fun hno => by
        rw [hno, cond_false] at e
        rw [← e, hok]
        exact ⟨rfl, rfl, hJ, hs⟩
      refine ⟨fun q => absurd q (by decide), fun _ => ?_⟩
      have both : isSu (T (pAt r)) = true → S 37 [some (.ref 42), some (.int (nI o)), some (.int (bi true)), some (.int (nI t)), X] [] J w := fun hop => by
        refine am_at hS (fun t => Nat.beq t 8) 120 37 ?_
        have hlt : pAt r < L := st_lt hL hR.2.1 (opk_st (isSu_ok hop))
        rw [hop, cond_true] at e
        have hR2 := GR_J hL (fun _ => isSu_ok) hg hR hok hop
        refine ⟨_, _, (by omega : k - 1 < k), (by rw [s4]; exact skip_t zi hL160 (tkS_fs hJ hT) s3 s4 w hlt), am_elim ?_⟩
        refine ⟨fun q => absurd q (by decide), fun _ => ?_⟩
        refine ⟨_, _, (by omega : k - 1 < k), hc (k - 1) (by omega) _ w (pAt r + 1) (c ++ pCo r) hlt (tkS_fs adv_fs (tkS_fs hJ hT)) (rdS_adv ⟨⟨s3, s4⟩, s5, s6, s7⟩), ?_⟩
        rintro _ I2 w2 ⟨rfl, rfl, f2, st2⟩
        have hf2 : am_fs 45 [1] [42, 46] I I2 := (hJ.trans adv_fs).trans f2
        obtain ⟨z, hz, ez, st3⟩ := stt_add st2 (r := pJ (T (pAt r)) r (g (pAt r + 1))) (c := c) (t := T (pAt r)) rfl rfl cJ_co (cJ_len hcl hR2) (Nat.le_trans hR2.2.1 hL160)
        have hnx := fun X => hn (pJ (T (pAt r)) r (g (pAt r + 1))) _ X hR2 e (hf2.trans adI_fs) st3
        refine ⟨fun h42 => ?_, fun h42 => ?_⟩
        · rw [bi_eq0] at h42
          refine ⟨_, _, (by omega : k - 1 < k), (by rw [s4]; exact r_tAdd zi hz ez (T (pAt r)) w2), am_elim ?_⟩
          have hq := hnx (some (.int (J 42 4)))
          rw [show pOk (pJ (T (pAt r)) r (g (pAt r + 1))) = false from h42, ← nI_1] at hq
          exact hq
        · rw [bi_eq0, Bool.not_eq_false] at h42
          refine ⟨_, _, (by omega : k - 1 < k), (by rw [s4]; exact r_tAdd zi hz ez (T (pAt r)) w2), am_elim ?_⟩
          have hq := hnx (some (.int (J 42 4)))
          rw [show pOk (pJ (T (pAt r)) r (g (pAt r + 1))) = true from h42, ← nI_1] at hq
          exact hq
      refine ⟨fun h25 => ?_, fun h25 => ?_⟩
      · exact both (by rw [show T (pAt r) = -43 from s4.symm.trans h25]; rfl)
      refine ⟨fun h34 => ?_, fun h34 => ?_⟩
      · exact both (by rw [show T (pAt r) = -45 from s4.symm.trans h34]; rfl)
      · exact stop (by
          unfold isSu
          rw [beq_eq_false_iff_ne.mpr (fun q => h25 (s4.trans q)), beq_eq_false_iff_ne.mpr (fun q => h34 (s4.trans q))]
          rfl)
  refine am_at hS (fun t => Nat.beq t 8) 120 0 ?_
  refine ⟨_, _, (by omega : k - 1 < k), hc (k - 1) (by omega) I w i c hi hT hr0, ?_⟩
  rintro _ I1 w1 ⟨rfl, rfl, f1, st1⟩
  exact loop 0 (Nat.zero_le _) (g i) I1 none (hg i hi) (hG i).symm f1 st1
theorem c_readAnd {E : am_E} (zi : am_inj E) {T : Nat → Int32} {L : Nat} (hL : stp (T L)) (hL160 : L ≤ 160) {K o : Nat} {g G : Nat → PR} (hg : GP L g) (hG : ∀ i, G i = lop T isAn g 160 (g i)) (hc : CK E T L K Y_TextReader_readNot o g) : CK E T L (K + 1) Y_TextReader_readAnd o G := by
  intro k hk I w i c hi hT hr0
  refine am_intro (pv_TextReader_readAnd E k) (by decide) zi ?_ rfl rfl ?_
  · rintro _ _ _ ⟨rfl, -⟩; exact bi_nr _
  intro S hS
  have hcl : c.length ≤ i := hr0.2.2.2
  have loop := down (P := fun t => ∀ (r : PR) (J : am_I), GR L i r → lop T isAn g (160 - t) r = G i → am_fs 45 [1] [42, 46] I J → stt T c r J → S 8 [some (.ref 42), some (.int (nI o)), some (.int (bi (pOk r))), some (.int (nI t))] [] J w) 160 ?z ?s
  case z =>
    intro r J hR e hJ hs
    have e2 : r = G i := e
    refine am_at hS (fun t => Nat.beq t 8) 120 8 ?_
    refine ⟨fun q => absurd q (by decide), fun _ => ?_⟩
    rw [← e2]
    exact ⟨rfl, rfl, hJ, hs⟩
  case s =>
    intro t ht hn r J hR e hJ hs
    have e160 : 160 - t = (160 - (t + 1)) + 1 := by omega
    rw [e160, lop] at e
    refine am_at hS (fun t => Nat.beq t 8) 120 8 ?_
    refine ⟨fun _ => ?_, fun q => absurd (show nI t < nI 160 from nI_lt ht (by decide)) q⟩
    cases hok : pOk r with
    | false =>
      rw [hok, Bool.false_and, cond_false] at e
      refine ⟨fun _ => ?_, fun q => absurd rfl q⟩
      rw [← e]
      exact ⟨by rw [hok], rfl, hJ, hs⟩
    | true =>
      obtain ⟨⟨s3, s4⟩, s5, s6, s7⟩ := hs.1 hok
      rw [hok, Bool.true_and] at e
      have stop : isAn (T (pAt r)) = false → some (Value.int 1) = some (.int (bi (pOk (G i)))) ∧ w = w ∧ am_fs 45 [1] [42, 46] I J ∧ stt T c (G i) J := fun hno => by
        rw [hno, cond_false] at e
        rw [← e, hok]
        exact ⟨rfl, rfl, hJ, hs⟩
      refine ⟨fun q => absurd q (by decide), fun _ => ?_⟩
      refine ⟨fun h25 => ?_, fun h25 => ?_⟩
      · have hv : T (pAt r) = -6 := s4.symm.trans h25
        have hop : isAn (T (pAt r)) = true := by rw [hv]; rfl
        have hlt : pAt r < L := st_lt hL hR.2.1 (opk_st (isAn_ok hop))
        rw [hop, cond_true] at e
        have hR2 := GR_J hL (fun _ => isAn_ok) hg hR hok hop
        refine ⟨_, _, (by omega : k - 1 < k), (by rw [← hv]; exact skip_t zi hL160 (tkS_fs hJ hT) s3 s4 w hlt), am_elim ?_⟩
        refine ⟨fun q => absurd q (by decide), fun _ => ?_⟩
        refine ⟨_, _, (by omega : k - 1 < k), hc (k - 1) (by omega) _ w (pAt r + 1) (c ++ pCo r) hlt (tkS_fs adv_fs (tkS_fs hJ hT)) (rdS_adv ⟨⟨s3, s4⟩, s5, s6, s7⟩), ?_⟩
        rintro _ I2 w2 ⟨rfl, rfl, f2, st2⟩
        have hf2 : am_fs 45 [1] [42, 46] I I2 := (hJ.trans adv_fs).trans f2
        obtain ⟨z, hz, ez, st3⟩ := stt_add st2 (r := pJ (T (pAt r)) r (g (pAt r + 1))) (c := c) (t := T (pAt r)) rfl rfl cJ_co (cJ_len hcl hR2) (Nat.le_trans hR2.2.1 hL160)
        have hnx := fun (_ : Unit) => hn (pJ (T (pAt r)) r (g (pAt r + 1))) _ hR2 e (hf2.trans adI_fs) st3
        refine ⟨fun h42 => ?_, fun h42 => ?_⟩
        · rw [bi_eq0] at h42
          refine ⟨_, _, (by omega : k - 1 < k), (by rw [← hv]; exact r_tAdd zi hz ez (T (pAt r)) w2), am_elim ?_⟩
          have hq := hnx ()
          rw [show pOk (pJ (T (pAt r)) r (g (pAt r + 1))) = false from h42, ← nI_1] at hq
          exact hq
        · rw [bi_eq0, Bool.not_eq_false] at h42
          refine ⟨_, _, (by omega : k - 1 < k), (by rw [← hv]; exact r_tAdd zi hz ez (T (pAt r)) w2), am_elim ?_⟩
          have hq := hnx ()
          rw [show pOk (pJ (T (pAt r)) r (g (pAt r + 1))) = true from h42, ← nI_1] at hq
          exact hq
      · exact stop (beq_eq_false_iff_ne.mpr (fun q => h25 (s4.trans q)))
  refine am_at hS (fun t => Nat.beq t 8) 120 0 ?_
  refine ⟨_, _, (by omega : k - 1 < k), hc (k - 1) (by omega) I w i c hi hT hr0, ?_⟩
  rintro _ I1 w1 ⟨rfl, rfl, f1, st1⟩
  exact loop 0 (Nat.zero_le _) (g i) I1 (hg i hi) (hG i).symm f1 st1
theorem c_readOr {E : am_E} (zi : am_inj E) {T : Nat → Int32} {L : Nat} (hL : stp (T L)) (hL160 : L ≤ 160) {K o : Nat} {g G : Nat → PR} (hg : GP L g) (hG : ∀ i, G i = lop T isOr g 160 (g i)) (hc : CK E T L K Y_TextReader_readAnd o g) : CK E T L (K + 1) Y_TextReader_readOr o G := by
  intro k hk I w i c hi hT hr0
  refine am_intro (pv_TextReader_readOr E k) (by decide) zi ?_ rfl rfl ?_
  · rintro _ _ _ ⟨rfl, -⟩; exact bi_nr _
  intro S hS
  have hcl : c.length ≤ i := hr0.2.2.2
  have loop := down (P := fun t => ∀ (r : PR) (J : am_I), GR L i r → lop T isOr g (160 - t) r = G i → am_fs 45 [1] [42, 46] I J → stt T c r J → S 8 [some (.ref 42), some (.int (nI o)), some (.int (bi (pOk r))), some (.int (nI t))] [] J w) 160 ?z ?s
  case z =>
    intro r J hR e hJ hs
    have e2 : r = G i := e
    refine am_at hS (fun t => Nat.beq t 8) 120 8 ?_
    refine ⟨fun q => absurd q (by decide), fun _ => ?_⟩
    rw [← e2]
    exact ⟨rfl, rfl, hJ, hs⟩
  case s =>
    intro t ht hn r J hR e hJ hs
    have e160 : 160 - t = (160 - (t + 1)) + 1 := by omega
    rw [e160, lop] at e
    refine am_at hS (fun t => Nat.beq t 8) 120 8 ?_
    refine ⟨fun _ => ?_, fun q => absurd (show nI t < nI 160 from nI_lt ht (by decide)) q⟩
    cases hok : pOk r with
    | false =>
      rw [hok, Bool.false_and, cond_false] at e
      refine ⟨fun _ => ?_, fun q => absurd rfl q⟩
      rw [← e]
      exact ⟨by rw [hok], rfl, hJ, hs⟩
    | true =>
      obtain ⟨⟨s3, s4⟩, s5, s6, s7⟩ := hs.1 hok
      rw [hok, Bool.true_and] at e
      have stop : isOr (T (pAt r)) = false → some (Value.int 1) = some (.int (bi (pOk (G i)))) ∧ w = w ∧ am_fs 45 [1] [42, 46] I J ∧ stt T c (G i) J := fun hno => by
        rw [hno, cond_false] at e
        rw [← e, hok]
        exact ⟨rfl, rfl, hJ, hs⟩
      refine ⟨fun q => absurd q (by decide), fun _ => ?_⟩
      refine ⟨fun h25 => ?_, fun h25 => ?_⟩
      · have hv : T (pAt r) = -5 := s4.symm.trans h25
        have hop : isOr (T (pAt r)) = true := by rw [hv]; rfl
        have hlt : pAt r < L := st_lt hL hR.2.1 (opk_st (isOr_ok hop))
        rw [hop, cond_true] at e
        have hR2 := GR_J hL (fun _ => isOr_ok) hg hR hok hop
        refine ⟨_, _, (by omega : k - 1 < k), (by rw [← hv]; exact skip_t zi hL160 (tkS_fs hJ hT) s3 s4 w hlt), am_elim ?_⟩
        refine ⟨fun q => absurd q (by decide), fun _ => ?_⟩
        refine ⟨_, _, (by omega : k - 1 < k), hc (k - 1) (by omega) _ w (pAt r + 1) (c ++ pCo r) hlt (tkS_fs adv_fs (tkS_fs hJ hT)) (rdS_adv ⟨⟨s3, s4⟩, s5, s6, s7⟩), ?_⟩
        rintro _ I2 w2 ⟨rfl, rfl, f2, st2⟩
        have hf2 : am_fs 45 [1] [42, 46] I I2 := (hJ.trans adv_fs).trans f2
        obtain ⟨z, hz, ez, st3⟩ := stt_add st2 (r := pJ (T (pAt r)) r (g (pAt r + 1))) (c := c) (t := T (pAt r)) rfl rfl cJ_co (cJ_len hcl hR2) (Nat.le_trans hR2.2.1 hL160)
        have hnx := fun (_ : Unit) => hn (pJ (T (pAt r)) r (g (pAt r + 1))) _ hR2 e (hf2.trans adI_fs) st3
        refine ⟨fun h42 => ?_, fun h42 => ?_⟩
        · rw [bi_eq0] at h42
          refine ⟨_, _, (by omega : k - 1 < k), (by rw [← hv]; exact r_tAdd zi hz ez (T (pAt r)) w2), am_elim ?_⟩
          have hq := hnx ()
          rw [show pOk (pJ (T (pAt r)) r (g (pAt r + 1))) = false from h42, ← nI_1] at hq
          exact hq
        · rw [bi_eq0, Bool.not_eq_false] at h42
          refine ⟨_, _, (by omega : k - 1 < k), (by rw [← hv]; exact r_tAdd zi hz ez (T (pAt r)) w2), am_elim ?_⟩
          have hq := hnx ()
          rw [show pOk (pJ (T (pAt r)) r (g (pAt r + 1))) = true from h42, ← nI_1] at hq
          exact hq
      · exact stop (beq_eq_false_iff_ne.mpr (fun q => h25 (s4.trans q)))
  refine am_at hS (fun t => Nat.beq t 8) 120 0 ?_
  refine ⟨_, _, (by omega : k - 1 < k), hc (k - 1) (by omega) I w i c hi hT hr0, ?_⟩
  rintro _ I1 w1 ⟨rfl, rfl, f1, st1⟩
  exact loop 0 (Nat.zero_le _) (g i) I1 (hg i hi) (hG i).symm f1 st1
theorem c_readComparison {E : am_E} (zi : am_inj E) {T : Nat → Int32} {L : Nat} (hL : stp (T L)) (hL160 : L ≤ 160) {K o : Nat} {g G : Nat → PR} (hg : GP L g) (hG : ∀ i, G i = lop T isCo g 1 (g i)) (hc : CK E T L K Y_TextReader_readSum o g) : CK E T L (K + 1) Y_TextReader_readComparison o G := by
  intro k hk I w i c hi hT hr0
  refine am_intro (pv_TextReader_readComparison E k) (by decide) zi ?_ rfl rfl ?_
  · rintro _ _ _ ⟨rfl, -⟩; exact bi_nr _
  intro S hS
  have hcl : c.length ≤ i := hr0.2.2.2
  refine am_at hS (fun t => Nat.beq t 27) 120 0 ?_
  refine ⟨_, _, (by omega : k - 1 < k), hc (k - 1) (by omega) I w i c hi hT hr0, ?_⟩
  rintro _ J w1 ⟨rfl, rfl, hJ, hs⟩
  obtain ⟨r, er⟩ : ∃ r, r = g i := ⟨_, rfl⟩
  have e := hG i
  have hR := hg i hi
  rw [← er] at e hs hR
  rw [← er]
  rw [lop] at e
  cases hok : pOk r with
  | false =>
    rw [hok, Bool.false_and, cond_false] at e
    refine ⟨fun _ => ?_, fun q => absurd rfl q⟩
    rw [e]
    exact ⟨by rw [hok], rfl, hJ, hs⟩
  | true =>
    obtain ⟨⟨s3, s4⟩, s5, s6, s7⟩ := hs.1 hok
    rw [hok, Bool.true_and] at e
    refine ⟨fun q => absurd q (by decide), fun _ => ?_⟩
    have both : isCo (T (pAt r)) = true → S 27 [some (.ref 42), some (.int (nI o)), some (.int (bi true)), some (.int (J 42 4))] [] J w1 := fun hop => by
      refine am_at hS (fun t => Nat.beq t 8) 120 27 ?_
      have hlt : pAt r < L := st_lt hL hR.2.1 (opk_st (isCo_ok hop))
      rw [hop, cond_true] at e
      have hR2 := GR_J hL (fun _ => isCo_ok) hg hR hok hop
      refine ⟨_, _, (by omega : k - 1 < k), (by rw [s4]; exact skip_t zi hL160 (tkS_fs hJ hT) s3 s4 w1 hlt), am_elim ?_⟩
      refine ⟨fun q => absurd q (by decide), fun _ => ?_⟩
      refine ⟨_, _, (by omega : k - 1 < k), hc (k - 1) (by omega) _ w1 (pAt r + 1) (c ++ pCo r) hlt (tkS_fs adv_fs (tkS_fs hJ hT)) (rdS_adv ⟨⟨s3, s4⟩, s5, s6, s7⟩), ?_⟩
      rintro _ I2 w2 ⟨rfl, rfl, f2, st2⟩
      have hf2 : am_fs 45 [1] [42, 46] I I2 := (hJ.trans adv_fs).trans f2
      obtain ⟨z, hz, ez, st3⟩ := stt_add st2 (r := pJ (T (pAt r)) r (g (pAt r + 1))) (c := c) (t := T (pAt r)) rfl rfl cJ_co (cJ_len hcl hR2) (Nat.le_trans hR2.2.1 hL160)
      have ef : G i = pJ (T (pAt r)) r (g (pAt r + 1)) := e
      refine ⟨fun h42 => ?_, fun h42 => ?_⟩
      · rw [bi_eq0] at h42
        refine ⟨_, _, (by omega : k - 1 < k), (by rw [s4]; exact r_tAdd zi hz ez (T (pAt r)) w2), am_elim ?_⟩
        rw [ef]
        exact ⟨by rw [show pOk (pJ (T (pAt r)) r (g (pAt r + 1))) = false from h42]; rfl, rfl, hf2.trans adI_fs, st3⟩
      · rw [bi_eq0, Bool.not_eq_false] at h42
        refine ⟨_, _, (by omega : k - 1 < k), (by rw [s4]; exact r_tAdd zi hz ez (T (pAt r)) w2), am_elim ?_⟩
        rw [ef]
        exact ⟨by rw [show pOk (pJ (T (pAt r)) r (g (pAt r + 1))) = true from h42]; rfl, rfl, hf2.trans adI_fs, st3⟩
    refine ⟨fun h25 => ?_, fun h25 => ?_⟩
    · exact both (by rw [show T (pAt r) = -60 from s4.symm.trans h25]; rfl)
    refine ⟨fun h34 => ?_, fun h34 => ?_⟩
    · exact both (by rw [show T (pAt r) = -61 from s4.symm.trans h34]; rfl)
    have hno : isCo (T (pAt r)) = false := by
      unfold isCo
      rw [beq_eq_false_iff_ne.mpr (fun q => h25 (s4.trans q)), beq_eq_false_iff_ne.mpr (fun q => h34 (s4.trans q))]
      rfl
    rw [hno, cond_false] at e
    rw [e, hok]
    exact ⟨rfl, rfl, hJ, hs⟩
