/-! the reference reads: not, ONE, all depths -/
section RS3
variable {n : Nat} {b : Nat → Nat} {L x a : Nat} {e : Nat → Int32}
theorem rB_23 {i : Nat} {I : am_I} {v : Int32} (h : rB n b i I) : rB n b i (am_up I 88 23 v) := ⟨by rw [am_sne (by decide)]; exact h.1, by rw [am_sne (by decide)]; exact h.2⟩
theorem up23_fs {I : am_I} {v : Int32} : am_fs 88 [19, 20, 22, 23, 24, 25] [] I (am_up I 88 23 v) := am_fs.upo am_fs.refl (by decide)
theorem rS_back {i o : Nat} {I : am_I} {w : Int64} (h : rS n b L x a e i (o + 1) I w) : rS n b L x a e i o (am_up I 88 23 (I 88 23 - 1)) w := by
  have h1 := h.2.1.2.2.2.2
  rw [h1, nI_pred]
  exact rS_o h o
theorem m_not {E : am_E} (zi : am_inj E) (hfs : fsL n b L) {K o : Nat} (hK : 3 ≤ K) {dn : Option ((Nat → PR) × (Nat → PR))} {g cm : Nat → PR} (hg : GP L g) (hG : ∀ i, cm i = lop (tkc n b) isCo g 1 (g i)) (hc : CR E n b L x a e K Y_MO_added o g) (ho : dn = none → o = 5) (hd : ∀ u, dn = some u → o < 5 ∧ CR E n b L x a e K Y_MO_not (o + 1) u.2) : CR E n b L x a e (K + 1) Y_MO_not o (pN (tkc n b) dn cm) := by
  intro k hk I w i h0
  refine am_intro (pv_MO_not E k) (by decide) zi ?_ rfl rfl ?_
  · rintro _ _ _ ⟨-, v, rfl, -⟩; rfl
  intro S hS
  have hiL := h0.1.2.2.2
  refine am_at hS (fun t => Nat.beq t 69) 120 0 ?_
  refine ⟨_, _, (by omega : k - 1 < k), r_isW zi h0 (j := 4) (by decide), am_elim ?_⟩
  refine ⟨fun h => ?_, fun h => ?_⟩
  · rw [bi_eq0, beq_eq_false_iff_ne] at h
    have e0 : pN (tkc n b) dn cm i = cm i := by
      unfold pN
      rw [if_neg (fun z => h (z.trans (by decide)))]
    refine ⟨_, _, (by omega : k - 1 < k), hc (k - 1) (by omega) I w i h0, ?_⟩
    rintro _ J u ⟨hJ, v, rfl, q1, q2⟩
    have e1 := hG i
    have hR := hg i hiL
    obtain ⟨r, er⟩ : ∃ r, r = g i := ⟨_, rfl⟩
    rw [← er] at q1 q2 e1 hR
    have done : pN (tkc n b) dn cm i = r → rQ n b L x a e o (pN (tkc n b) dn cm i) I (some (.int v)) J u := fun z => by
      rw [z]
      exact ⟨hJ, v, rfl, q1, q2⟩
    cases hok : pOk r with
    | false =>
      have hB := q2 hok
      refine ⟨_, _, (by omega : k - 1 < k), r_isSb zi u 60 hB.1, am_elim ?_⟩
      refine ⟨fun _ => ?_, fun q => absurd rfl q⟩
      refine ⟨_, _, (by omega : k - 1 < k), r_isSb zi u 61 hB.1, am_elim ?_⟩
      refine ⟨fun _ => ?_, fun q => absurd rfl q⟩
      exact done (by rw [e0, e1, lop_f hok])
    | true =>
      obtain ⟨hv, hrs⟩ := q1 hok
      have atW : isCo (tkc n b (pAt r)) = true → S 69 [some (.ref 88), some (.int v), none, none] [] J u := fun hop => by
        have hlt : pAt r < L := rS_not hrs (opk_st (isCo_ok hop))
        have e2 : pN (tkc n b) dn cm i = pJ (tkc n b (pAt r)) r (g (pAt r + 1)) := by
          rw [e0, e1, lop, hok, hop]
          rfl
        have fin : ∀ v' I2 w2, am_fs 88 [19, 20, 22, 23, 24, 25] [] I I2 → (pOk (g (pAt r + 1)) = true → v' = joi (tkc n b (pAt r)) (pVa r e) (pVa (g (pAt r + 1)) e) ∧ rS n b L x a e (pAt (g (pAt r + 1))) o I2 w2) → (pOk (g (pAt r + 1)) = false → rB n b (pAt (g (pAt r + 1))) I2) → rQ n b L x a e o (pN (tkc n b) dn cm i) I (some (.int v')) I2 w2 := fun v' I2 w2 h1 h2 h3 => by
          rw [e2]
          exact ⟨h1, v', rfl, h2, h3⟩
        rcases Bool.or_eq_true_iff.mp hop with hq | hq
        · have hc0 : tkc n b (pAt r) = -60 := beq_iff_eq.mp hq
          have hu : u = lN 60 := ((hrs.2.1.2.1.2.1 60 rfl).mpr (hc0.trans (by decide))).2
          refine am_at hS (fun t => false) 120 69 ?_
          refine ⟨fun h => ?_, fun h => ?_⟩
          · refine ⟨_, _, (by omega : k - 1 < k), r_nextS zi (by omega) hrs hlt, ?_⟩
            rintro _ I1 w1 ⟨rfl, f1, h3⟩
            refine ⟨_, _, (by omega : k - 1 < k), hc (k - 1) (by omega) _ _ _ h3, ?_⟩
            rintro _ I2 w2 ⟨f2, v2, rfl, p1, p2⟩
            have hf2 := (hJ.trans (f1.mono (by decide) (by decide))).trans f2
            refine ⟨fun q => absurd q (by decide), fun _ => ?_⟩
            refine ⟨fun hl => ?_, fun hl => ?_⟩
            · exact fin 1 I2 w2 hf2 (fun z => ⟨by rw [hc0, joi_le, ← hv, ← (p1 z).1, decide_eq_true hl]; rfl, (p1 z).2⟩) p2
            · exact fin 0 I2 w2 hf2 (fun z => ⟨by rw [hc0, joi_le, ← hv, ← (p1 z).1, decide_eq_false hl]; rfl, (p1 z).2⟩) p2
          · rw [cmp_eq] at h
            exact absurd hu h
        · have hc0 : tkc n b (pAt r) = -61 := beq_iff_eq.mp hq
          have hu : u = lN 61 := ((hrs.2.1.2.1.2.1 61 rfl).mpr (hc0.trans (by decide))).2
          refine am_at hS (fun t => false) 120 69 ?_
          refine ⟨fun h => ?_, fun h => ?_⟩
          · rw [cmp_eq] at h
            exact absurd (hu.symm.trans h) (by decide)
          · refine ⟨_, _, (by omega : k - 1 < k), r_nextS zi (by omega) hrs hlt, ?_⟩
            rintro _ I1 w1 ⟨rfl, f1, h3⟩
            refine ⟨_, _, (by omega : k - 1 < k), hc (k - 1) (by omega) _ _ _ h3, ?_⟩
            rintro _ I2 w2 ⟨f2, v2, rfl, p1, p2⟩
            have hf2 := (hJ.trans (f1.mono (by decide) (by decide))).trans f2
            refine ⟨fun _ => ?_, fun q => absurd rfl q⟩
            refine ⟨fun hl => ?_, fun hl => ?_⟩
            · exact fin 1 I2 w2 hf2 (fun z => ⟨by rw [hc0, joi_eq, ← hv, ← (p1 z).1, decide_eq_true hl]; rfl, (p1 z).2⟩) p2
            · exact fin 0 I2 w2 hf2 (fun z => ⟨by rw [hc0, joi_eq, ← hv, ← (p1 z).1, decide_eq_false hl]; rfl, (p1 z).2⟩) p2
      refine ⟨_, _, (by omega : k - 1 < k), r_isS zi hrs (s := 60) rfl, am_elim ?_⟩
      refine ⟨fun h1 => ?_, fun h1 => ?_⟩
      · rw [bi_eq0, beq_eq_false_iff_ne] at h1
        refine ⟨_, _, (by omega : k - 1 < k), r_isS zi hrs (s := 61) rfl, am_elim ?_⟩
        refine ⟨fun h2 => ?_, fun h2 => ?_⟩
        · rw [bi_eq0, beq_eq_false_iff_ne] at h2
          have hno : isCo (tkc n b (pAt r)) = false := by
            unfold isCo
            rw [beq_eq_false_iff_ne.mpr (fun z => h1 (z.trans (by decide))), beq_eq_false_iff_ne.mpr (fun z => h2 (z.trans (by decide)))]
            rfl
          exact done (by rw [e0, e1, lop_n hno])
        · rw [bi_eq0, Bool.not_eq_false, beq_iff_eq] at h2
          exact atW (by rw [h2]; rfl)
      · rw [bi_eq0, Bool.not_eq_false, beq_iff_eq] at h1
        exact atW (by rw [h1]; rfl)
  · rw [bi_eq0, Bool.not_eq_false, beq_iff_eq] at h
    have hv : tkc n b i = -7 := h.trans (by decide)
    have hlt : i < L := rS_not h0 (by rw [hv]; exact ns_c (by decide))
    cases hdn : dn with
    | none =>
      have o5 := ho hdn
      subst o5
      have e0 : pN (tkc n b) none cm i = pF i := by
        unfold pN
        rw [if_pos hv]
      refine ⟨_, _, (by omega : k - 1 < k), r_opens5 zi (by omega) h0, am_elim ?_⟩
      refine ⟨fun _ => ?_, fun q => absurd rfl q⟩
      rw [e0]
      exact ⟨fl_fs, 0, rfl, fun q => (by cases q), fun _ => rB_fail h0⟩
    | some u =>
      obtain ⟨o5, hcn⟩ := hd u hdn
      have e0 : pN (tkc n b) (some u) cm i = pQ (u.2 (i + 1)) := by
        unfold pN
        rw [if_pos hv]
      refine ⟨_, _, (by omega : k - 1 < k), r_opensO zi (by omega) h0 o5 hlt, ?_⟩
      rintro _ I1 w1 ⟨rfl, f1, h3⟩
      refine ⟨fun q => absurd q (by decide), fun _ => ?_⟩
      refine ⟨_, _, (by omega : k - 1 < k), hcn (k - 1) (by omega) _ _ _ h3, ?_⟩
      rintro _ I2 w2 ⟨f2, v2, rfl, q1, q2⟩
      have hf2 := (f1.trans f2).trans (up23_fs (I := I2) (v := I2 88 23 - 1))
      have fin : ∀ v', v' = bi (decide (v2 = 0)) → rQ n b L x a e o (pN (tkc n b) (some u) cm i) I (some (.int v')) (am_up I2 88 23 (I2 88 23 - 1)) w2 := fun v' hv' => by
        rw [e0]
        exact ⟨hf2, v', rfl, fun z => ⟨by rw [hv', (q1 z).1]; rfl, rS_back (q1 z).2⟩, fun z => rB_23 (q2 z)⟩
      refine ⟨fun hz => ?_, fun hz => ?_⟩
      · exact fin 1 (by rw [decide_eq_true hz]; rfl)
      · exact fin 0 (by rw [decide_eq_false hz]; rfl)
theorem p1_lo {T : Nat → Int32} {dn : Option ((Nat → PR) × (Nat → PR))} {i : Nat} (h1 : T i < 0) (h2 : isn (T i) = false) : p1 T dn i = match dn with
    | none => pF i
    | some u => if T i = -40 then pB T (pO T u.2 (i + 1)) else if T i = -45 then pM (u.1 (i + 1)) else pF i := by
  unfold p1
  rw [if_neg (fun q => q h1), if_neg (by rw [h2]; exact Bool.false_ne_true)]
  cases dn <;> rfl
theorem m_one {E : am_E} (zi : am_inj E) (hfs : fsL n b L) {K o : Nat} (hK : 3 ≤ K) {dn : Option ((Nat → PR) × (Nat → PR))} (hg : ∀ u, dn = some u → GP L u.1 ∧ GP L u.2) (ho : dn = none → o = 5) (hd : ∀ u, dn = some u → o < 5 ∧ CR E n b L x a e K Y_MO_one (o + 1) u.1 ∧ CR E n b L x a e K Y_MO_either (o + 1) (pO (tkc n b) u.2)) : CR E n b L x a e (K + 1) Y_MO_one o (p1 (tkc n b) dn) := by
  intro k hk I w i h0
  refine am_intro (pv_MO_one E k) (by decide) zi ?_ rfl rfl ?_
  · rintro _ _ _ ⟨-, v, rfl, -⟩; rfl
  intro S hS
  have hiL := h0.1.2.2.2
  have hTR := h0.2.1.2.1
  have hb0 := h0.2.1.1
  have lo := fun h1 h2 => p1_lo (T := tkc n b) (dn := dn) (i := i) h1 h2
  refine am_at hS (fun t => Nat.beq t 95) 160 0 ?_
  refine ⟨_, _, (by omega : k - 1 < k), r_isS zi h0 (s := 45) rfl, am_elim ?_⟩
  refine ⟨fun h => ?_, fun h => ?_⟩
  · rw [bi_eq0, beq_eq_false_iff_ne] at h
    have n45 : ¬ tkc n b i = -45 := fun z => h (z.trans (by decide))
    refine ⟨_, _, (by omega : k - 1 < k), r_isS zi h0 (s := 40) rfl, am_elim ?_⟩
    refine ⟨fun h => ?_, fun h => ?_⟩
    · rw [bi_eq0, beq_eq_false_iff_ne] at h
      have n40 : ¬ tkc n b i = -40 := fun z => h (z.trans (by decide))
      refine am_at hS (fun t => false) 120 95 ?_
      refine ⟨fun _ => ?_, fun q => absurd hb0 q⟩
      have lF : tkc n b i < 0 → isn (tkc n b i) = false → p1 (tkc n b) dn i = pF i := fun h1 h2 => by
        rw [lo h1 h2]
        cases dn with
        | none => rfl
        | some u =>
          show (if tkc n b i = -40 then _ else _) = _
          rw [if_neg n40, if_neg n45]
      refine ⟨fun h2 => ?_, fun h2 => ?_⟩
      · have hn0 : ¬ tkc n b i < 0 := hTR.2.2.1.mp h2
        have hw : w.toInt32 = tkc n b i := hTR.2.2.2.1 h2
        have hlt : i < L := rS_not h0 (fun q => hn0 (by rcases q with q | q <;> rw [q] <;> decide))
        have e0 : p1 (tkc n b) dn i = (true, i + 1, [tkc n b i], fun _ => tkc n b i) := by
          unfold p1
          rw [if_pos hn0]
        refine ⟨_, _, (by omega : k - 1 < k), r_nextS zi (by omega) h0 hlt, ?_⟩
        rintro _ I1 w1 ⟨rfl, f1, h3⟩
        rw [e0]
        exact ⟨f1.mono (by decide) (by decide), _, rfl, fun _ => ⟨hw, h3⟩, fun q => (by cases q)⟩
      · have hneg : tkc n b i < 0 := Classical.byContradiction fun z => h2 (hTR.2.2.1.mpr z)
        refine ⟨fun _ => ?_, fun q => absurd hb0 q⟩
        refine ⟨fun h3 => ?_, fun h3 => ?_⟩
        · cases hn : isn (tkc n b i) with
          | true =>
            have hlt : i < L := rS_not h0 (fun q => absurd hn (by rcases q with q | q <;> rw [q] <;> decide))
            have e0 : p1 (tkc n b) dn i = (true, i + 1, [tkc n b i], fun e => nam e (tkc n b i)) := by
              unfold p1
              rw [if_neg (fun q => q hneg), if_pos hn]
            refine ⟨_, _, (by omega : k - 1 < k), r_nameY zi (by omega) h0 hn, am_elim ?_⟩
            refine ⟨fun _ => ?_, fun q => absurd hb0 q⟩
            refine ⟨_, _, (by omega : k - 1 < k), r_nextS zi (by omega) h0 hlt, ?_⟩
            rintro _ I1 w1 ⟨rfl, f1, h4⟩
            rw [e0]
            exact ⟨f1.mono (by decide) (by decide), _, rfl, fun _ => ⟨rfl, h4⟩, fun q => (by cases q)⟩
          | false =>
            refine ⟨_, _, (by omega : k - 1 < k), r_nameN zi (by omega) h0 hn, am_elim ?_⟩
            have hB := rB_fail h0
            refine ⟨fun q => absurd (hB.1.symm.trans q) (by decide), fun _ => ?_⟩
            rw [lF hneg hn]
            exact ⟨fl_fs, 0, rfl, fun q => (by cases q), fun _ => hB⟩
        · have hn : isn (tkc n b i) = false := by
            cases hn : isn (tkc n b i) with
            | false => rfl
            | true =>
              have hj : ∃ j, j < 11 ∧ tkc n b i = wcd j := by
                rcases isn_is hn with z | z | z | z | z | z
                · exact ⟨5, by decide, z⟩
                · exact ⟨6, by decide, z⟩
                · exact ⟨7, by decide, z⟩
                · exact ⟨8, by decide, z⟩
                · exact ⟨9, by decide, z⟩
                · exact ⟨10, by decide, z⟩
              obtain ⟨j, hj, z⟩ := hj
              exact absurd ((hTR.1 j hj).mpr z).1 h3
          refine ⟨_, _, (by omega : k - 1 < k), r_fail0 zi I w hb0, am_elim ?_⟩
          rw [lF hneg hn]
          exact ⟨fl_fs, 0, rfl, fun q => (by cases q), fun _ => rB_fail h0⟩
    · rw [bi_eq0, Bool.not_eq_false, beq_iff_eq] at h
      have hv : tkc n b i = -40 := h.trans (by decide)
      have hlt : i < L := rS_not h0 (by rw [hv]; exact ns_c (by decide))
      have l1 := lo (by rw [hv]; decide) (by rw [hv]; decide)
      cases hdn : dn with
      | none =>
        have o5 := ho hdn
        subst o5
        subst hdn
        refine ⟨_, _, (by omega : k - 1 < k), r_opens5 zi (by omega) h0, am_elim ?_⟩
        refine ⟨fun _ => ?_, fun q => absurd rfl q⟩
        rw [l1]
        exact ⟨fl_fs, 0, rfl, fun q => (by cases q), fun _ => rB_fail h0⟩
      | some u =>
        obtain ⟨o5, hc1, hcO⟩ := hd u hdn
        obtain ⟨g1, g2⟩ := hg u hdn
        subst hdn
        have l2 : p1 (tkc n b) (some u) i = pB (tkc n b) (pO (tkc n b) u.2 (i + 1)) := by
          rw [l1]
          show (if tkc n b i = -40 then _ else _) = _
          rw [if_pos hv]
        have hR := GP_O hfs.1 g2 (i + 1) hlt
        refine ⟨_, _, (by omega : k - 1 < k), r_opensO zi (by omega) h0 o5 hlt, ?_⟩
        rintro _ I1 w1 ⟨rfl, f1, h3⟩
        refine ⟨fun q => absurd q (by decide), fun _ => ?_⟩
        refine ⟨_, _, (by omega : k - 1 < k), hcO (k - 1) (by omega) _ _ _ h3, ?_⟩
        rintro _ I2 w2 ⟨f2, v2, rfl, q1, q2⟩
        have hf2 := f1.trans f2
        obtain ⟨q, eq⟩ : ∃ q, q = pO (tkc n b) u.2 (i + 1) := ⟨_, rfl⟩
        rw [← eq] at l2 hR q1 q2
        cases hok : pOk q with
        | false =>
          have hB := q2 hok
          refine ⟨_, _, (by omega : k - 1 < k), r_isSb zi w2 41 hB.1, am_elim ?_⟩
          refine ⟨fun _ => ?_, fun q => absurd rfl q⟩
          refine ⟨_, _, (by omega : k - 1 < k), r_fail1 zi I2 w2 hB.1, am_elim ?_⟩
          have hB2 := rB_23 (v := I2 88 23 - 1) hB
          refine ⟨fun q => absurd (hB2.1.symm.trans q) (by decide), fun _ => ?_⟩
          rw [l2]
          unfold pB
          rw [hok]
          exact ⟨hf2.trans up23_fs, v2, rfl, fun q => (by cases q), fun _ => hB2⟩
        | true =>
          obtain ⟨hvv, hrs⟩ := q1 hok
          by_cases h41 : tkc n b (pAt q) = -41
          · have t41 : (tkc n b (pAt q) == -(nI 41)) = true := beq_iff_eq.mpr (h41.trans (by decide))
            have hlt2 : pAt q < L := rS_not hrs (by rw [h41]; exact ns_c (by decide))
            have hk2 := r_isS zi hrs (k := k - 1) (s := 41) rfl
            rw [t41] at hk2
            refine ⟨_, _, (by omega : k - 1 < k), hk2, am_elim ?_⟩
            refine ⟨fun q => absurd q (by decide), fun _ => ?_⟩
            have hb2 := rS_back hrs
            refine ⟨fun _ => ?_, fun z => absurd hb2.2.1.1 z⟩
            refine ⟨_, _, (by omega : k - 1 < k), r_nextS zi (by omega) hb2 hlt2, ?_⟩
            rintro _ I3 w3 ⟨rfl, f3, h5⟩
            have l3 : p1 (tkc n b) (some u) i = (true, pAt q + 1, pCo q, pVa q) := by
              rw [l2]
              unfold pB
              rw [hok, h41]
              rfl
            rw [l3]
            exact ⟨(hf2.trans up23_fs).trans (f3.mono (by decide) (by decide)), v2, rfl, fun _ => ⟨hvv, h5⟩, fun q => (by cases q)⟩
          · have t41 : (tkc n b (pAt q) == -(nI 41)) = false := beq_eq_false_iff_ne.mpr (fun z => h41 (z.trans (by decide)))
            have hk2 := r_isS zi hrs (k := k - 1) (s := 41) rfl
            rw [t41] at hk2
            refine ⟨_, _, (by omega : k - 1 < k), hk2, am_elim ?_⟩
            refine ⟨fun _ => ?_, fun q => absurd rfl q⟩
            refine ⟨_, _, (by omega : k - 1 < k), r_fail0 zi I2 w2 hrs.2.1.1, am_elim ?_⟩
            have hB := rB_23 (v := am_up (am_up I2 88 24 1) 88 25 (I2 88 20) 88 23 - 1) (rB_fail hrs)
            refine ⟨fun q => absurd (hB.1.symm.trans q) (by decide), fun _ => ?_⟩
            have l3 : p1 (tkc n b) (some u) i = pF (pAt q) := by
              rw [l2]
              unfold pB
              rw [hok, beq_eq_false_iff_ne.mpr h41]
              rfl
            rw [l3]
            exact ⟨(hf2.trans fl_fs).trans up23_fs, v2, rfl, fun q => (by cases q), fun _ => hB⟩
  · rw [bi_eq0, Bool.not_eq_false, beq_iff_eq] at h
    have hv : tkc n b i = -45 := h.trans (by decide)
    have hlt : i < L := rS_not h0 (by rw [hv]; exact ns_c (by decide))
    have l1 := lo (by rw [hv]; decide) (by rw [hv]; decide)
    cases hdn : dn with
    | none =>
      have o5 := ho hdn
      subst o5
      subst hdn
      refine ⟨_, _, (by omega : k - 1 < k), r_opens5 zi (by omega) h0, am_elim ?_⟩
      refine ⟨fun _ => ?_, fun q => absurd rfl q⟩
      rw [l1]
      exact ⟨fl_fs, 0, rfl, fun q => (by cases q), fun _ => rB_fail h0⟩
    | some u =>
      obtain ⟨o5, hc1, hcO⟩ := hd u hdn
      subst hdn
      have l2 : p1 (tkc n b) (some u) i = pM (u.1 (i + 1)) := by
        rw [l1]
        show (if tkc n b i = -40 then _ else _) = _
        rw [if_neg (by rw [hv]; decide), if_pos hv]
      refine ⟨_, _, (by omega : k - 1 < k), r_opensO zi (by omega) h0 o5 hlt, ?_⟩
      rintro _ I1 w1 ⟨rfl, f1, h3⟩
      refine ⟨fun q => absurd q (by decide), fun _ => ?_⟩
      refine ⟨_, _, (by omega : k - 1 < k), hc1 (k - 1) (by omega) _ _ _ h3, ?_⟩
      rintro _ I2 w2 ⟨f2, v2, rfl, q1, q2⟩
      rw [l2]
      exact ⟨(f1.trans f2).trans up23_fs, _, rfl, fun z => ⟨by rw [(q1 z).1]; rfl, rS_back (q1 z).2⟩, fun z => rB_23 (q2 z)⟩
theorem m_levels {E : am_E} (zi : am_inj E) (hfs : fsL n b L) (hL160 : L ≤ 160) : ∀ d, d ≤ 5 → CR E n b L x a e (6 * d + 4) Y_MO_one (5 - d) (lev (tkc n b) d).1 ∧ CR E n b L x a e (6 * d + 7) Y_MO_not (5 - d) (lev (tkc n b) d).2 ∧ CR E n b L x a e (6 * d + 9) Y_MO_either (5 - d) (pO (tkc n b) (lev (tkc n b) d).2)
  | d, hd => by
    have hL := hfs.1
    have step : ∀ (dn : Option ((Nat → PR) × (Nat → PR))) (K : Nat), 3 ≤ K → (∀ u, dn = some u → GP L u.1 ∧ GP L u.2) → (dn = none → 5 - d = 5) → (∀ u, dn = some u → 5 - d < 5 ∧ CR E n b L x a e K Y_MO_one (5 - d + 1) u.1 ∧ CR E n b L x a e K Y_MO_either (5 - d + 1) (pO (tkc n b) u.2) ∧ CR E n b L x a e K Y_MO_not (5 - d + 1) u.2) → CR E n b L x a e (K + 1) Y_MO_one (5 - d) (p1 (tkc n b) dn) ∧ CR E n b L x a e (K + 4) Y_MO_not (5 - d) (pN (tkc n b) dn (pC (tkc n b) (p1 (tkc n b) dn))) ∧ CR E n b L x a e (K + 6) Y_MO_either (5 - d) (pO (tkc n b) (pN (tkc n b) dn (pC (tkc n b) (p1 (tkc n b) dn)))) := by
      intro dn K hK hg ho hc
      have k1 := m_one zi hfs hK hg ho (fun u hu => ⟨(hc u hu).1, (hc u hu).2.1, (hc u hu).2.2.1⟩)
      have g1 := GP_1 hL hg
      have k2 := m_term zi hfs hL160 (by omega) g1 (fun i => rfl) k1
      have g2 := GP_T hL g1
      have k3 := m_added zi hfs hL160 (by omega) g2 (fun i => rfl) k2
      have g3 := GP_S hL g1
      have k4 := m_not zi hfs (by omega) (dn := dn) g3 (fun i => rfl) k3 ho (fun u hu => ⟨(hc u hu).1, fun k hk => (hc u hu).2.2.2 k (by omega)⟩)
      have g5 := GP_N hL hg (GP_C hL g1)
      have k6 := m_both zi hfs hL160 (by omega) g5 (fun i => rfl) k4
      have k7 := m_either zi hfs hL160 (by omega) (GP_A hL g5) (fun i => rfl) k6
      exact ⟨k1, k4, k7⟩
    rw [lev_eq]
    cases d with
    | zero =>
      obtain ⟨a1, a2, a3⟩ := step none 3 (by decide) (fun u h => by cases h) (fun _ => rfl) (fun u h => by cases h)
      exact ⟨a1, a2, a3⟩
    | succ d =>
      obtain ⟨b1, b2, b3⟩ := m_levels zi hfs hL160 d (by omega)
      obtain ⟨a1, a2, a3⟩ := step (some (lev (tkc n b) d)) (6 * d + 9) (by omega) (GP_dwn hL (d + 1)) (fun h => by cases h) (fun u h => by
        cases h
        have eo : 5 - (d + 1) + 1 = 5 - d := by omega
        rw [eo]
        exact ⟨by omega, fun k hk => b1 k (by omega), fun k hk => b3 k (by omega), fun k hk => b2 k (by omega)⟩)
      exact ⟨fun k hk => a1 k (by omega), fun k hk => a2 k (by omega), fun k hk => a3 k (by omega)⟩
end RS3

