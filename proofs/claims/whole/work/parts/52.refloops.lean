/-! the reference reads: loops, not, ONE -/
theorem joi_ti (u v : Int32) : joi (-42) u v = u * v := rfl
theorem joi_pl (u v : Int32) : joi (-43) u v = u + v := rfl
theorem joi_mi (u v : Int32) : joi (-45) u v = u - v := rfl
theorem joi_an (u v : Int32) : joi (-6) u v = bi (!decide (u = 0) && !decide (v = 0)) := rfl
theorem joi_or (u v : Int32) : joi (-5) u v = bi (!decide (u = 0) || !decide (v = 0)) := rfl
theorem joi_le (u v : Int32) : joi (-60) u v = bi (decide (u < v)) := rfl
theorem joi_eq (u v : Int32) : joi (-61) u v = bi (decide (u = v)) := rfl
def rQ (n : Nat) (b : Nat → Nat) (L x a : Nat) (e : Nat → Int32) (o : Nat) (r : PR) (I : am_I) : am_Q := fun q I' w' => am_fs 88 [19, 20, 22, 23, 24, 25] [] I I' ∧ ∃ v, q = some (.int v) ∧ (pOk r = true → v = pVa r e ∧ rS n b L x a e (pAt r) o I' w') ∧ (pOk r = false → rB n b (pAt r) I')
def CR (E : am_E) (n : Nat) (b : Nat → Nat) (L x a : Nat) (e : Nat → Int32) (K : Nat) (Y : am_Y) (o : Nat) (g : Nat → PR) : Prop := ∀ (k : Nat), K ≤ k → ∀ (I : am_I) (w : Int64) (i : Nat), rS n b L x a e i o I w → am_Ret E k Y [.ref 88] I w (rQ n b L x a e o (g i) I)
theorem lop_f {T : Nat → Int32} {op : Int32 → Bool} {g : Nat → PR} {r : PR} (h : pOk r = false) : ∀ m, lop T op g m r = r
  | 0 => rfl
  | m + 1 => by rw [lop, h]; rfl
theorem lop_n {T : Nat → Int32} {op : Int32 → Bool} {g : Nat → PR} {r : PR} (h : op (T (pAt r)) = false) : ∀ m, lop T op g m r = r
  | 0 => rfl
  | m + 1 => by rw [lop, h, Bool.and_false]; rfl
section RS2
variable {n : Nat} {b : Nat → Nat} {L x a : Nat} {e : Nat → Int32}

theorem m_term {E : am_E} (zi : am_inj E) (hfs : fsL n b L) (hL160 : L ≤ 160) {K o : Nat} (hK : 1 ≤ K) {g G : Nat → PR} (hg : GP L g) (hG : ∀ i, G i = lop (tkc n b) isTi g 160 (g i)) (hc : CR E n b L x a e K Y_MO_one o g) : CR E n b L x a e (K + 1) Y_MO_term o G := by
  intro k hk I w i h0
  refine am_intro (pv_MO_term E k) (by decide) zi ?_ rfl rfl ?_
  · rintro _ _ _ ⟨-, v, rfl, -⟩; rfl
  intro S hS
  have sb : ∀ v J u, am_fs 88 [19, 20, 22, 23, 24, 25] [] I J → pOk (G i) = false → rB n b (pAt (G i)) J → S 5 [some (.ref 88), some (.int v)] [] J u := by
    intro v J u hJ hbad hB
    refine am_at hS (fun t => Nat.beq t 5) 80 5 ?_
    refine ⟨_, _, (by omega : k - 1 < k), r_isSb zi u 42 hB.1, am_elim ?_⟩
    refine ⟨fun _ => ?_, fun q => absurd rfl q⟩
    exact ⟨hJ, v, rfl, fun q => (by rw [hbad] at q; cases q), fun _ => hB⟩
  have loop : ∀ m r, GR L i r → (pOk r = true → 161 ≤ pAt r + m) → lop (tkc n b) isTi g m r = G i → ∀ v J u, am_fs 88 [19, 20, 22, 23, 24, 25] [] I J → (pOk r = true → v = pVa r e ∧ rS n b L x a e (pAt r) o J u) → (pOk r = false → rB n b (pAt r) J) → S 5 [some (.ref 88), some (.int v)] [] J u := by
    intro m
    induction m with
    | zero =>
      intro r hR hm e0 v J u hJ h1 h2
      cases hok : pOk r with
      | true => exact absurd (hm hok) (by have := hR.2.1; omega)
      | false =>
        have e1 : r = G i := e0
        rw [e1] at hok h2
        exact sb v J u hJ hok (h2 hok)
    | succ m ih =>
      intro r hR hm e0 v J u hJ h1 h2
      cases hok : pOk r with
      | false =>
        have e1 : r = G i := by rw [← e0, lop_f hok]
        rw [e1] at hok h2
        exact sb v J u hJ hok (h2 hok)
      | true =>
        obtain ⟨hv, hrs⟩ := h1 hok
        have stop : isTi (tkc n b (pAt r)) = false → rQ n b L x a e o (G i) I (some (.int v)) J u := fun hno => by
          have e1 : r = G i := by rw [← e0, lop_n hno]
          rw [← e1]
          exact ⟨hJ, v, rfl, h1, h2⟩
        rw [lop, hok, Bool.true_and] at e0
        refine am_at hS (fun t => Nat.beq t 5) 120 5 ?_
        refine ⟨_, _, (by omega : k - 1 < k), r_isS zi hrs (s := 42) rfl, am_elim ?_⟩
        refine ⟨fun h => ?_, fun h => ?_⟩
        · rw [bi_eq0, beq_eq_false_iff_ne] at h
          exact stop (beq_eq_false_iff_ne.mpr (fun z => h (z.trans (by decide))))
        rw [bi_eq0, Bool.not_eq_false, beq_iff_eq] at h
        have hc0 : tkc n b (pAt r) = -42 := h.trans (by decide)
        have hop : isTi (tkc n b (pAt r)) = true := by rw [hc0]; rfl
        have hlt : pAt r < L := rS_not hrs (opk_st (isTi_ok hop))
        rw [hop, cond_true] at e0
        have hR2 := GR_J hfs.1 (fun _ => isTi_ok) hg hR hok hop
        have hg1 := hg (pAt r + 1) hlt
        have hm2 : pOk (pJ (tkc n b (pAt r)) r (g (pAt r + 1))) = true → 161 ≤ pAt (pJ (tkc n b (pAt r)) r (g (pAt r + 1))) + m := fun z => by
          have z1 := hm hok
          have z2 := (hg1.2.2 z).1
          show 161 ≤ pAt (g (pAt r + 1)) + m
          omega
        refine ⟨_, _, (by omega : k - 1 < k), r_nextS zi (by omega) hrs hlt, ?_⟩
        rintro _ I1 w1 ⟨rfl, f1, h3⟩
        refine ⟨_, _, (by omega : k - 1 < k), hc (k - 1) (by omega) _ _ _ h3, ?_⟩
        rintro _ I2 w2 ⟨f2, v2, rfl, q1, q2⟩
        have hf2 := (hJ.trans (f1.mono (by decide) (by decide))).trans f2
        have hnx := fun v' (hv' : v' = joi (tkc n b (pAt r)) v v2) => ih _ hR2 hm2 e0 v' I2 w2 hf2 (fun z => ⟨by rw [hv', hv, (q1 z).1]; rfl, (q1 z).2⟩) q2
        exact hnx _ (by rw [hc0, joi_ti])
  refine am_at hS (fun t => Nat.beq t 5) 80 0 ?_
  refine ⟨_, _, (by omega : k - 1 < k), hc (k - 1) (by omega) I w i h0, ?_⟩
  rintro _ I1 w1 ⟨f1, v1, rfl, q1, q2⟩
  have hgi := hg i h0.1.2.2.2
  exact loop 160 (g i) hgi (fun z => by have := (hgi.2.2 z).1; omega) (hG i).symm v1 I1 w1 f1 q1 q2
theorem m_added {E : am_E} (zi : am_inj E) (hfs : fsL n b L) (hL160 : L ≤ 160) {K o : Nat} (hK : 1 ≤ K) {g G : Nat → PR} (hg : GP L g) (hG : ∀ i, G i = lop (tkc n b) isSu g 160 (g i)) (hc : CR E n b L x a e K Y_MO_term o g) : CR E n b L x a e (K + 1) Y_MO_added o G := by
  intro k hk I w i h0
  refine am_intro (pv_MO_added E k) (by decide) zi ?_ rfl rfl ?_
  · rintro _ _ _ ⟨-, v, rfl, -⟩; rfl
  intro S hS
  have sb : ∀ v X2 X3 J u, am_fs 88 [19, 20, 22, 23, 24, 25] [] I J → pOk (G i) = false → rB n b (pAt (G i)) J → S 5 [some (.ref 88), some (.int v), X2, X3] [] J u := by
    intro v X2 X3 J u hJ hbad hB
    refine am_at hS (fun t => Nat.beq t 5) 80 5 ?_
    refine ⟨_, _, (by omega : k - 1 < k), r_isSb zi u 43 hB.1, am_elim ?_⟩
    refine ⟨fun _ => ?_, fun q => absurd rfl q⟩
    refine ⟨_, _, (by omega : k - 1 < k), r_isSb zi u 45 hB.1, am_elim ?_⟩
    refine ⟨fun _ => ?_, fun q => absurd rfl q⟩
    exact ⟨hJ, v, rfl, fun q => (by rw [hbad] at q; cases q), fun _ => hB⟩
  have loop : ∀ m r, GR L i r → (pOk r = true → 161 ≤ pAt r + m) → lop (tkc n b) isSu g m r = G i → ∀ v X2 X3 J u, am_fs 88 [19, 20, 22, 23, 24, 25] [] I J → (pOk r = true → v = pVa r e ∧ rS n b L x a e (pAt r) o J u) → (pOk r = false → rB n b (pAt r) J) → S 5 [some (.ref 88), some (.int v), X2, X3] [] J u := by
    intro m
    induction m with
    | zero =>
      intro r hR hm e0 v X2 X3 J u hJ h1 h2
      cases hok : pOk r with
      | true => exact absurd (hm hok) (by have := hR.2.1; omega)
      | false =>
        have e1 : r = G i := e0
        rw [e1] at hok h2
        exact sb v X2 X3 J u hJ hok (h2 hok)
    | succ m ih =>
      intro r hR hm e0 v X2 X3 J u hJ h1 h2
      cases hok : pOk r with
      | false =>
        have e1 : r = G i := by rw [← e0, lop_f hok]
        rw [e1] at hok h2
        exact sb v X2 X3 J u hJ hok (h2 hok)
      | true =>
        obtain ⟨hv, hrs⟩ := h1 hok
        have stop : isSu (tkc n b (pAt r)) = false → rQ n b L x a e o (G i) I (some (.int v)) J u := fun hno => by
          have e1 : r = G i := by rw [← e0, lop_n hno]
          rw [← e1]
          exact ⟨hJ, v, rfl, h1, h2⟩
        rw [lop, hok, Bool.true_and] at e0
        have atW : isSu (tkc n b (pAt r)) = true → S 23 [some (.ref 88), some (.int v), X2, X3] [] J u := fun hop => by
          have hop2 := hop
          have hlt : pAt r < L := rS_not hrs (opk_st (isSu_ok hop))
          rw [hop, cond_true] at e0
          have hR2 := GR_J hfs.1 (fun _ => isSu_ok) hg hR hok hop
          have hg1 := hg (pAt r + 1) hlt
          have hm2 : pOk (pJ (tkc n b (pAt r)) r (g (pAt r + 1))) = true → 161 ≤ pAt (pJ (tkc n b (pAt r)) r (g (pAt r + 1))) + m := fun z => by
            have z1 := hm hok
            have z2 := (hg1.2.2 z).1
            show 161 ≤ pAt (g (pAt r + 1)) + m
            omega
          have go : ∀ (c : Int32) (u' : Value), False → False := fun _ _ h => h
          clear go
          rcases Bool.or_eq_true_iff.mp hop with hq | hq
          · have hc0 : tkc n b (pAt r) = -43 := beq_iff_eq.mp hq
            have hu : u = lN 43 := ((hrs.2.1.2.1.2.1 43 rfl).mpr (hc0.trans (by decide))).2
            refine am_at hS (fun t => Nat.beq t 5) 120 23 ?_
            refine ⟨fun h => ?_, fun h => ?_⟩
            · refine ⟨_, _, (by omega : k - 1 < k), r_nextS zi (by omega) hrs hlt, ?_⟩
              rintro _ I1 w1 ⟨rfl, f1, h3⟩
              refine ⟨_, _, (by omega : k - 1 < k), hc (k - 1) (by omega) _ _ _ h3, ?_⟩
              rintro _ I2 w2 ⟨f2, v2, rfl, q1, q2⟩
              have hf2 := (hJ.trans (f1.mono (by decide) (by decide))).trans f2
              have hnx := fun v' (hv' : v' = joi (tkc n b (pAt r)) v v2) X2 X3 => ih _ hR2 hm2 e0 v' X2 X3 I2 w2 hf2 (fun z => ⟨by rw [hv', hv, (q1 z).1]; rfl, (q1 z).2⟩) q2

              exact ⟨fun q => absurd q (by decide), fun _ => hnx _ (by rw [hc0, joi_pl]) _ _⟩
            · rw [cmp_eq] at h
              exact absurd hu h
          · have hc0 : tkc n b (pAt r) = -45 := beq_iff_eq.mp hq
            have hu : u = lN 45 := ((hrs.2.1.2.1.2.1 45 rfl).mpr (hc0.trans (by decide))).2
            refine am_at hS (fun t => Nat.beq t 5) 120 23 ?_
            refine ⟨fun h => ?_, fun h => ?_⟩
            · rw [cmp_eq] at h
              exact absurd (hu.symm.trans h) (by decide)
            · refine ⟨_, _, (by omega : k - 1 < k), r_nextS zi (by omega) hrs hlt, ?_⟩
              rintro _ I1 w1 ⟨rfl, f1, h3⟩
              refine ⟨_, _, (by omega : k - 1 < k), hc (k - 1) (by omega) _ _ _ h3, ?_⟩
              rintro _ I2 w2 ⟨f2, v2, rfl, q1, q2⟩
              have hf2 := (hJ.trans (f1.mono (by decide) (by decide))).trans f2
              have hnx := fun v' (hv' : v' = joi (tkc n b (pAt r)) v v2) X2 X3 => ih _ hR2 hm2 e0 v' X2 X3 I2 w2 hf2 (fun z => ⟨by rw [hv', hv, (q1 z).1]; rfl, (q1 z).2⟩) q2

              exact ⟨fun _ => hnx _ (by rw [hc0, joi_mi]) _ _, fun q => absurd rfl q⟩
        refine am_at hS (fun t => Nat.beq t 23) 120 5 ?_
        refine ⟨_, _, (by omega : k - 1 < k), r_isS zi hrs (s := 43) rfl, am_elim ?_⟩
        refine ⟨fun h => ?_, fun h => ?_⟩
        · rw [bi_eq0, beq_eq_false_iff_ne] at h
          refine ⟨_, _, (by omega : k - 1 < k), r_isS zi hrs (s := 45) rfl, am_elim ?_⟩
          refine ⟨fun h2 => ?_, fun h2 => ?_⟩
          · rw [bi_eq0, beq_eq_false_iff_ne] at h2
            exact stop (by
              unfold isSu
              rw [beq_eq_false_iff_ne.mpr (fun z => h (z.trans (by decide))), beq_eq_false_iff_ne.mpr (fun z => h2 (z.trans (by decide)))]
              rfl)
          · rw [bi_eq0, Bool.not_eq_false, beq_iff_eq] at h2
            exact atW (by rw [h2]; rfl)
        · rw [bi_eq0, Bool.not_eq_false, beq_iff_eq] at h
          exact atW (by rw [h]; rfl)
  refine am_at hS (fun t => Nat.beq t 5) 80 0 ?_
  refine ⟨_, _, (by omega : k - 1 < k), hc (k - 1) (by omega) I w i h0, ?_⟩
  rintro _ I1 w1 ⟨f1, v1, rfl, q1, q2⟩
  have hgi := hg i h0.1.2.2.2
  exact loop 160 (g i) hgi (fun z => by have := (hgi.2.2 z).1; omega) (hG i).symm v1 none none I1 w1 f1 q1 q2
theorem m_both {E : am_E} (zi : am_inj E) (hfs : fsL n b L) (hL160 : L ≤ 160) {K o : Nat} (hK : 1 ≤ K) {g G : Nat → PR} (hg : GP L g) (hG : ∀ i, G i = lop (tkc n b) isAn g 160 (g i)) (hc : CR E n b L x a e K Y_MO_not o g) : CR E n b L x a e (K + 1) Y_MO_both o G := by
  intro k hk I w i h0
  refine am_intro (pv_MO_both E k) (by decide) zi ?_ rfl rfl ?_
  · rintro _ _ _ ⟨-, v, rfl, -⟩; rfl
  intro S hS
  have sb : ∀ v X2 J u, am_fs 88 [19, 20, 22, 23, 24, 25] [] I J → pOk (G i) = false → rB n b (pAt (G i)) J → S 5 [some (.ref 88), some (.int v), X2] [] J u := by
    intro v X2 J u hJ hbad hB
    refine am_at hS (fun t => Nat.beq t 5) 80 5 ?_
    refine ⟨_, _, (by omega : k - 1 < k), r_isWb zi u 1111 hB.1, am_elim ?_⟩
    refine ⟨fun _ => ?_, fun q => absurd rfl q⟩
    exact ⟨hJ, v, rfl, fun q => (by rw [hbad] at q; cases q), fun _ => hB⟩
  have loop : ∀ m r, GR L i r → (pOk r = true → 161 ≤ pAt r + m) → lop (tkc n b) isAn g m r = G i → ∀ v X2 J u, am_fs 88 [19, 20, 22, 23, 24, 25] [] I J → (pOk r = true → v = pVa r e ∧ rS n b L x a e (pAt r) o J u) → (pOk r = false → rB n b (pAt r) J) → S 5 [some (.ref 88), some (.int v), X2] [] J u := by
    intro m
    induction m with
    | zero =>
      intro r hR hm e0 v X2 J u hJ h1 h2
      cases hok : pOk r with
      | true => exact absurd (hm hok) (by have := hR.2.1; omega)
      | false =>
        have e1 : r = G i := e0
        rw [e1] at hok h2
        exact sb v X2 J u hJ hok (h2 hok)
    | succ m ih =>
      intro r hR hm e0 v X2 J u hJ h1 h2
      cases hok : pOk r with
      | false =>
        have e1 : r = G i := by rw [← e0, lop_f hok]
        rw [e1] at hok h2
        exact sb v X2 J u hJ hok (h2 hok)
      | true =>
        obtain ⟨hv, hrs⟩ := h1 hok
        have stop : isAn (tkc n b (pAt r)) = false → rQ n b L x a e o (G i) I (some (.int v)) J u := fun hno => by
          have e1 : r = G i := by rw [← e0, lop_n hno]
          rw [← e1]
          exact ⟨hJ, v, rfl, h1, h2⟩
        rw [lop, hok, Bool.true_and] at e0
        refine am_at hS (fun t => Nat.beq t 5) 120 5 ?_
        refine ⟨_, _, (by omega : k - 1 < k), r_isW zi hrs (j := 3) (by decide), am_elim ?_⟩
        refine ⟨fun h => ?_, fun h => ?_⟩
        · rw [bi_eq0, beq_eq_false_iff_ne] at h
          exact stop (beq_eq_false_iff_ne.mpr (fun z => h (z.trans (by decide))))
        rw [bi_eq0, Bool.not_eq_false, beq_iff_eq] at h
        have hc0 : tkc n b (pAt r) = -6 := h.trans (by decide)
        have hop : isAn (tkc n b (pAt r)) = true := by rw [hc0]; rfl
        have hlt : pAt r < L := rS_not hrs (opk_st (isAn_ok hop))
        rw [hop, cond_true] at e0
        have hR2 := GR_J hfs.1 (fun _ => isAn_ok) hg hR hok hop
        have hg1 := hg (pAt r + 1) hlt
        have hm2 : pOk (pJ (tkc n b (pAt r)) r (g (pAt r + 1))) = true → 161 ≤ pAt (pJ (tkc n b (pAt r)) r (g (pAt r + 1))) + m := fun z => by
          have z1 := hm hok
          have z2 := (hg1.2.2 z).1
          show 161 ≤ pAt (g (pAt r + 1)) + m
          omega
        refine ⟨_, _, (by omega : k - 1 < k), r_nextS zi (by omega) hrs hlt, ?_⟩
        rintro _ I1 w1 ⟨rfl, f1, h3⟩
        refine ⟨_, _, (by omega : k - 1 < k), hc (k - 1) (by omega) _ _ _ h3, ?_⟩
        rintro _ I2 w2 ⟨f2, v2, rfl, q1, q2⟩
        have hf2 := (hJ.trans (f1.mono (by decide) (by decide))).trans f2
        have hnx := fun v' (hv' : v' = joi (tkc n b (pAt r)) v v2) X2 => ih _ hR2 hm2 e0 v' X2 I2 w2 hf2 (fun z => ⟨by rw [hv', hv, (q1 z).1]; rfl, (q1 z).2⟩) q2
        refine ⟨fun ha => ?_, fun ha => ?_⟩
        · exact hnx 0 (by rw [hc0, joi_an, decide_eq_true ha]; rfl) _
        refine ⟨fun hb => ?_, fun hb => ?_⟩
        · exact hnx 0 (by rw [hc0, joi_an, decide_eq_true hb, Bool.not_true, Bool.and_false]; rfl) _
        · exact hnx 1 (by rw [hc0, joi_an, decide_eq_false ha, decide_eq_false hb]; rfl) _
  refine am_at hS (fun t => Nat.beq t 5) 80 0 ?_
  refine ⟨_, _, (by omega : k - 1 < k), hc (k - 1) (by omega) I w i h0, ?_⟩
  rintro _ I1 w1 ⟨f1, v1, rfl, q1, q2⟩
  have hgi := hg i h0.1.2.2.2
  exact loop 160 (g i) hgi (fun z => by have := (hgi.2.2 z).1; omega) (hG i).symm v1 none I1 w1 f1 q1 q2
theorem m_either {E : am_E} (zi : am_inj E) (hfs : fsL n b L) (hL160 : L ≤ 160) {K o : Nat} (hK : 1 ≤ K) {g G : Nat → PR} (hg : GP L g) (hG : ∀ i, G i = lop (tkc n b) isOr g 160 (g i)) (hc : CR E n b L x a e K Y_MO_both o g) : CR E n b L x a e (K + 1) Y_MO_either o G := by
  intro k hk I w i h0
  refine am_intro (pv_MO_either E k) (by decide) zi ?_ rfl rfl ?_
  · rintro _ _ _ ⟨-, v, rfl, -⟩; rfl
  intro S hS
  have sb : ∀ v X2 J u, am_fs 88 [19, 20, 22, 23, 24, 25] [] I J → pOk (G i) = false → rB n b (pAt (G i)) J → S 5 [some (.ref 88), some (.int v), X2] [] J u := by
    intro v X2 J u hJ hbad hB
    refine am_at hS (fun t => Nat.beq t 5) 80 5 ?_
    refine ⟨_, _, (by omega : k - 1 < k), r_isWb zi u 423 hB.1, am_elim ?_⟩
    refine ⟨fun _ => ?_, fun q => absurd rfl q⟩
    exact ⟨hJ, v, rfl, fun q => (by rw [hbad] at q; cases q), fun _ => hB⟩
  have loop : ∀ m r, GR L i r → (pOk r = true → 161 ≤ pAt r + m) → lop (tkc n b) isOr g m r = G i → ∀ v X2 J u, am_fs 88 [19, 20, 22, 23, 24, 25] [] I J → (pOk r = true → v = pVa r e ∧ rS n b L x a e (pAt r) o J u) → (pOk r = false → rB n b (pAt r) J) → S 5 [some (.ref 88), some (.int v), X2] [] J u := by
    intro m
    induction m with
    | zero =>
      intro r hR hm e0 v X2 J u hJ h1 h2
      cases hok : pOk r with
      | true => exact absurd (hm hok) (by have := hR.2.1; omega)
      | false =>
        have e1 : r = G i := e0
        rw [e1] at hok h2
        exact sb v X2 J u hJ hok (h2 hok)
    | succ m ih =>
      intro r hR hm e0 v X2 J u hJ h1 h2
      cases hok : pOk r with
      | false =>
        have e1 : r = G i := by rw [← e0, lop_f hok]
        rw [e1] at hok h2
        exact sb v X2 J u hJ hok (h2 hok)
      | true =>
        obtain ⟨hv, hrs⟩ := h1 hok
        have stop : isOr (tkc n b (pAt r)) = false → rQ n b L x a e o (G i) I (some (.int v)) J u := fun hno => by
          have e1 : r = G i := by rw [← e0, lop_n hno]
          rw [← e1]
          exact ⟨hJ, v, rfl, h1, h2⟩
        rw [lop, hok, Bool.true_and] at e0
        refine am_at hS (fun t => Nat.beq t 5) 120 5 ?_
        refine ⟨_, _, (by omega : k - 1 < k), r_isW zi hrs (j := 2) (by decide), am_elim ?_⟩
        refine ⟨fun h => ?_, fun h => ?_⟩
        · rw [bi_eq0, beq_eq_false_iff_ne] at h
          exact stop (beq_eq_false_iff_ne.mpr (fun z => h (z.trans (by decide))))
        rw [bi_eq0, Bool.not_eq_false, beq_iff_eq] at h
        have hc0 : tkc n b (pAt r) = -5 := h.trans (by decide)
        have hop : isOr (tkc n b (pAt r)) = true := by rw [hc0]; rfl
        have hlt : pAt r < L := rS_not hrs (opk_st (isOr_ok hop))
        rw [hop, cond_true] at e0
        have hR2 := GR_J hfs.1 (fun _ => isOr_ok) hg hR hok hop
        have hg1 := hg (pAt r + 1) hlt
        have hm2 : pOk (pJ (tkc n b (pAt r)) r (g (pAt r + 1))) = true → 161 ≤ pAt (pJ (tkc n b (pAt r)) r (g (pAt r + 1))) + m := fun z => by
          have z1 := hm hok
          have z2 := (hg1.2.2 z).1
          show 161 ≤ pAt (g (pAt r + 1)) + m
          omega
        refine ⟨_, _, (by omega : k - 1 < k), r_nextS zi (by omega) hrs hlt, ?_⟩
        rintro _ I1 w1 ⟨rfl, f1, h3⟩
        refine ⟨_, _, (by omega : k - 1 < k), hc (k - 1) (by omega) _ _ _ h3, ?_⟩
        rintro _ I2 w2 ⟨f2, v2, rfl, q1, q2⟩
        have hf2 := (hJ.trans (f1.mono (by decide) (by decide))).trans f2
        have hnx := fun v' (hv' : v' = joi (tkc n b (pAt r)) v v2) X2 => ih _ hR2 hm2 e0 v' X2 I2 w2 hf2 (fun z => ⟨by rw [hv', hv, (q1 z).1]; rfl, (q1 z).2⟩) q2
        refine ⟨fun ha => ?_, fun ha => ?_⟩
        · refine ⟨fun hb => ?_, fun hb => ?_⟩
          · exact hnx 0 (by rw [hc0, joi_or, decide_eq_true ha, decide_eq_true hb]; rfl) _
          · exact hnx 1 (by rw [hc0, joi_or, decide_eq_false hb, Bool.not_false, Bool.or_true]; rfl) _
        · exact hnx 1 (by rw [hc0, joi_or, decide_eq_false ha]; rfl) _
  refine am_at hS (fun t => Nat.beq t 5) 80 0 ?_
  refine ⟨_, _, (by omega : k - 1 < k), hc (k - 1) (by omega) I w i h0, ?_⟩
  rintro _ I1 w1 ⟨f1, v1, rfl, q1, q2⟩
  have hgi := hg i h0.1.2.2.2
  exact loop 160 (g i) hgi (fun z => by have := (hgi.2.2 z).1; omega) (hG i).symm v1 none I1 w1 f1 q1 q2
end RS2
