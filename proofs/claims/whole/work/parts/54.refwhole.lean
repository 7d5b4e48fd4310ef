/-! the reference reads a whole TEXT -/
def pPa (T : Nat → Int32) (j i : Nat) : PR := cond (T i == wcd j) (cond (pOk (pO T (lev T 5).2 (i + 1)) && T (pAt (pO T (lev T 5).2 (i + 1))) == -59) (true, pAt (pO T (lev T 5).2 (i + 1)) + 1, pCo (pO T (lev T 5).2 (i + 1)), pVa (pO T (lev T 5).2 (i + 1))) (pF (pAt (pO T (lev T 5).2 (i + 1))))) (pF i)
theorem ptx_pPa (T : Nat → Int32) : ptx T = cond (pOk (pPa T 0 0)) (cond (pOk (pPa T 1 (pAt (pPa T 0 0)))) ((T (pAt (pPa T 1 (pAt (pPa T 0 0)))) == -1, pAt (pPa T 1 (pAt (pPa T 0 0)))), (pCo (pPa T 0 0), pCo (pPa T 1 (pAt (pPa T 0 0)))), (pVa (pPa T 0 0), pVa (pPa T 1 (pAt (pPa T 0 0))))) (tF (pAt (pPa T 1 (pAt (pPa T 0 0)))))) (tF (pAt (pPa T 0 0))) := by
  unfold ptx
  cases h0 : (T 0 == -3) with
  | false =>
    have e0 : pPa T 0 0 = pF 0 := by
      unfold pPa
      rw [show (T 0 == wcd 0) = false from h0]
      rfl
    rw [e0]
    rfl
  | true =>
    obtain ⟨r, er⟩ : ∃ r, r = pO T (lev T 5).2 1 := ⟨_, rfl⟩
    have u0 : pPa T 0 0 = cond (pOk r && T (pAt r) == -59) (true, pAt r + 1, pCo r, pVa r) (pF (pAt r)) := by
      unfold pPa
      rw [show (T 0 == wcd 0) = true from h0, er]
      rfl
    rw [u0, cond_true, ← er]
    unfold ptx1
    cases h1 : (pOk r && T (pAt r) == -59) with
    | false => rfl
    | true =>
      rw [cond_true, cond_true]
      show _ = cond true (cond (pOk (pPa T 1 (pAt r + 1))) _ _) _
      rw [cond_true]
      cases h2 : (T (pAt r + 1) == -4) with
      | false =>
        have e0 : pPa T 1 (pAt r + 1) = pF (pAt r + 1) := by
          unfold pPa
          rw [show (T (pAt r + 1) == wcd 1) = false from h2]
          rfl
        show _ = cond (pOk (pPa T 1 (pAt r + 1))) _ (tF (pAt (pPa T 1 (pAt r + 1))))
        rw [e0]
        rfl
      | true =>
        obtain ⟨q, eq⟩ : ∃ q, q = pO T (lev T 5).2 (pAt r + 2) := ⟨_, rfl⟩
        have u1 : pPa T 1 (pAt r + 1) = cond (pOk q && T (pAt q) == -59) (true, pAt q + 1, pCo q, pVa q) (pF (pAt q)) := by
          unfold pPa
          rw [show (T (pAt r + 1) == wcd 1) = true from h2, eq]
          rfl
        show _ = cond (pOk (pPa T 1 (pAt r + 1))) ((T (pAt (pPa T 1 (pAt r + 1))) == -1, pAt (pPa T 1 (pAt r + 1))), (pCo r, pCo (pPa T 1 (pAt r + 1))), (pVa r, pVa (pPa T 1 (pAt r + 1)))) (tF (pAt (pPa T 1 (pAt r + 1))))
        rw [u1, cond_true, ← eq]
        unfold ptx2
        cases h3 : (pOk q && T (pAt q) == -59) with
        | false => rfl
        | true => rfl
section RS4
variable {n : Nat} {b : Nat → Nat} {L x a : Nat} {e : Nat → Int32}
theorem m_partK {E : am_E} (zi : am_inj E) (hfs : fsL n b L) (hL160 : L ≤ 160) {k : Nat} (hk : 41 ≤ k) {I : am_I} {w : Int64} {i : Nat} (h0 : rS n b L x a e i 0 I w) {j : Nat} (hj : j < 11) : am_Ret E k Y_MO_part [.ref 88, .long (wk j)] I w (rQ n b L x a e 0 (pPa (tkc n b) j i) I) := by
  refine am_intro (pv_MO_part E k) (by decide) zi ?_ rfl rfl ?_
  · rintro _ _ _ ⟨-, v, rfl, -⟩; rfl
  intro S hS
  have hb0 := h0.2.1.1
  have cO := (m_levels zi hfs hL160 (x := x) (a := a) (e := e) 5 (Nat.le_refl _)).2.2
  have g5 := GP_O hfs.1 (GP_lev hfs.1 5).2
  unfold pPa at hS
  refine am_at hS (fun _ => false) 120 0 ?_
  refine ⟨_, _, (by omega : k - 1 < k), r_isW zi h0 hj, am_elim ?_⟩
  refine ⟨fun h => ?_, fun h => ?_⟩
  · rw [bi_eq0] at h
    rw [h, cond_false]
    have hB := rB_fail h0
    refine ⟨_, _, (by omega : k - 1 < k), r_fail0 zi I w hb0, am_elim ?_⟩
    refine ⟨fun q => absurd (hB.1.symm.trans q) (by decide), fun _ => ?_⟩
    refine ⟨fun q => absurd (hB.1.symm.trans q) (by decide), fun _ => ?_⟩
    refine ⟨_, _, (by omega : k - 1 < k), r_isSb zi w 59 hB.1, am_elim ?_⟩
    refine ⟨fun _ => ?_, fun q => absurd rfl q⟩
    refine ⟨_, _, (by omega : k - 1 < k), r_fail1 zi _ w hB.1, am_elim ?_⟩
    refine ⟨fun q => absurd (hB.1.symm.trans q) (by decide), fun _ => ?_⟩
    exact ⟨fl_fs, 0, rfl, fun q => (by cases q), fun _ => hB⟩
  · rw [bi_eq0, Bool.not_eq_false] at h
    have hlt : i < L := rS_not h0 (by
      rw [beq_iff_eq.mp h]
      exact fun q => q.elim (fun z => (wk_of hj).2.2.2.2.2.1 z) (fun z => (wk_of hj).2.2.2.2.1 z))
    rw [h, cond_true]
    refine ⟨fun _ => ?_, fun q => absurd hb0 q⟩
    refine ⟨_, _, (by omega : k - 1 < k), r_nextS zi (by omega) h0 hlt, ?_⟩
    rintro _ I1 w1 ⟨rfl, f1, h3⟩
    refine ⟨fun _ => ?_, fun q => absurd h3.2.1.1 q⟩
    refine ⟨_, _, (by omega : k - 1 < k), cO (k - 1) (by omega) _ _ _ h3, ?_⟩
    rintro _ I2 w2 ⟨f2, v2, rfl, q1, q2⟩
    have hf2 := (f1.mono (js' := [19, 20, 22, 23, 24, 25]) (l' := []) (by decide) (by decide)).trans f2
    obtain ⟨q, eq⟩ : ∃ q, q = pO (tkc n b) (lev (tkc n b) 5).2 (i + 1) := ⟨_, rfl⟩
    rw [← eq]
    rw [← eq] at q1 q2
    cases hok : pOk q with
    | false =>
      have hB := q2 hok
      refine ⟨_, _, (by omega : k - 1 < k), r_isSb zi w2 59 hB.1, am_elim ?_⟩
      refine ⟨fun _ => ?_, fun q => absurd rfl q⟩
      refine ⟨_, _, (by omega : k - 1 < k), r_fail1 zi _ w2 hB.1, am_elim ?_⟩
      refine ⟨fun q => absurd (hB.1.symm.trans q) (by decide), fun _ => ?_⟩
      exact ⟨hf2, v2, rfl, fun q => (by cases q), fun _ => hB⟩
    | true =>
      obtain ⟨hv, hrs⟩ := q1 hok
      rw [Bool.true_and]
      have hk2 := r_isS zi hrs (k := k - 1) (s := 59) rfl
      cases ht : (tkc n b (pAt q) == -59) with
      | false =>
        have t59 : (tkc n b (pAt q) == -(nI 59)) = false := beq_eq_false_iff_ne.mpr (fun z => (beq_eq_false_iff_ne.mp ht) (z.trans (by decide)))
        rw [t59] at hk2
        refine ⟨_, _, (by omega : k - 1 < k), hk2, am_elim ?_⟩
        refine ⟨fun _ => ?_, fun q => absurd rfl q⟩
        refine ⟨_, _, (by omega : k - 1 < k), r_fail0 zi I2 w2 hrs.2.1.1, am_elim ?_⟩
        have hB := rB_fail hrs
        refine ⟨fun q => absurd (hB.1.symm.trans q) (by decide), fun _ => ?_⟩
        exact ⟨hf2.trans fl_fs, v2, rfl, fun q => (by cases q), fun _ => hB⟩
      | true =>
        have h59 : tkc n b (pAt q) = -59 := beq_iff_eq.mp ht
        have t59 : (tkc n b (pAt q) == -(nI 59)) = true := beq_iff_eq.mpr (h59.trans (by decide))
        rw [t59] at hk2
        have hlt2 : pAt q < L := rS_not hrs (by rw [h59]; exact ns_c (by decide))
        refine ⟨_, _, (by omega : k - 1 < k), hk2, am_elim ?_⟩
        refine ⟨fun q => absurd q (by decide), fun _ => ?_⟩
        refine ⟨fun _ => ?_, fun q => absurd hrs.2.1.1 q⟩
        refine ⟨_, _, (by omega : k - 1 < k), r_nextS zi (by omega) hrs hlt2, ?_⟩
        rintro _ I3 w3 ⟨rfl, f3, h5⟩
        exact ⟨hf2.trans (f3.mono (by decide) (by decide)), v2, rfl, fun _ => ⟨hv, h5⟩, fun q => (by cases q)⟩
end RS4
def rdFs : List Nat := [17, 18, 19, 20, 22, 23, 24, 25, 26]
def rdQ (n : Nat) (b : Nat → Nat) (e : Nat → Int32) (q : Int32) (I : am_I) : am_Q := fun z I' w' => am_fs 88 rdFs [] I I' ∧ ∃ v, z = some (.int v) ∧ ((ptx (tkc n b)).1.1 = true → v = (if q = 0 then (ptx (tkc n b)).2.2.1 e else (ptx (tkc n b)).2.2.2 e) ∧ I' 88 24 = 0) ∧ ((ptx (tkc n b)).1.1 = false → I' 88 24 = 1 ∧ I' 88 25 = nI (tpl n b (ptx (tkc n b)).1.2))
theorem r_read {E : am_E} (zi : am_inj E) {k n : Nat} (hk : 42 ≤ k) {b : Nat → Nat} (zt : wft n b) {I : am_I} (w : Int64) {x f : Nat} (hx : x < 6) (hf : f < 36) (h90 : I 90 x = nI n) (h89 : ∀ j, j < n → I 89 (160 * x + j) = nI (b j)) (q : Int32) :
    am_Ret E k Y_MO_read [.ref 88, .int (nI x), .int (nI f), .int q] I w (rdQ n b (eM I f) q I) := by
  refine am_intro (pv_MO_read E k) (by decide) zi ?_ rfl rfl ?_
  · rintro _ _ _ ⟨-, v, rfl, -⟩; rfl
  intro S hS
  obtain ⟨L, hfs⟩ := fsL_ex zt
  have hL160 : L ≤ 160 := Nat.le_trans (fsL_le zt hfs) zt.1
  have e160 : (160 : Int32) * nI x = nI (160 * x) := by rw [show (160 : Int32) = nI 160 from rfl, pk_mul]
  refine am_at hS (fun t => Nat.beq t 90) 160 0 ?_
  refine ⟨vp_in_nI (by omega) (by omega), ?_⟩
  rw [e160, nI_clamp (by omega), am_up_ne (show (90 : Nat) ≠ 88 by decide), am_up_ne (show (90 : Nat) ≠ 88 by decide), h90]
  refine ⟨Or.inl rfl, ?_⟩
  obtain ⟨J, eJ⟩ : ∃ J, J = am_up (am_up (am_up (am_up (am_up (am_up I 88 26 (nI f)) 88 17 (nI (160 * x))) 88 18 (nI n)) 88 22 0) 88 23 0) 88 24 0 := ⟨_, rfl⟩
  have fJ : am_fs 88 rdFs [] I J := by
    rw [eJ]
    exact am_fs.upo (am_fs.upo (am_fs.upo (am_fs.upo (am_fs.upo (am_fs.upo am_fs.refl (by decide)) (by decide)) (by decide)) (by decide)) (by decide)) (by decide)
  have j24 : J 88 24 = 0 := by rw [eJ, am_seq]
  have j23 : J 88 23 = nI 0 := by rw [eJ, am_sne (by decide), am_seq]; rfl
  have j22 : J 88 22 = nI 0 := by rw [eJ, am_sne (by decide), am_sne (by decide), am_seq]; rfl
  have j18 : J 88 18 = nI n := by rw [eJ, am_sne (by decide), am_sne (by decide), am_sne (by decide), am_seq]
  have j17 : J 88 17 = nI (160 * x) := by rw [eJ, am_sne (by decide), am_sne (by decide), am_sne (by decide), am_sne (by decide), am_seq]
  have j26 : J 88 26 = nI f := by rw [eJ, am_sne (by decide), am_sne (by decide), am_sne (by decide), am_sne (by decide), am_sne (by decide), am_seq]
  have rTJ : rT J x n b := ⟨hx, j17, j18, fun j hj => by rw [fJ.1 89 (by decide) (by decide)]; exact h89 j hj⟩
  have eE : eM I f = eM J f := (eM_fs fJ (fun _ _ _ => List.not_mem_nil) f).symm
  have nx := r_next zi (k := k - 1) (by omega) zt rTJ w (Nat.zero_le _) j22
  have tx := ptx_pPa (tkc n b)
  obtain ⟨r, er⟩ : ∃ r, r = pPa (tkc n b) 0 0 := ⟨_, rfl⟩
  rw [← er] at tx
  have fin : ∀ (X4 X5 : Int32) F u, am_fs 88 rdFs [] I F → ((ptx (tkc n b)).1.1 = true → X4 = (ptx (tkc n b)).2.2.1 (eM I f) ∧ X5 = (ptx (tkc n b)).2.2.2 (eM I f) ∧ F 88 24 = 0) → ((ptx (tkc n b)).1.1 = false → F 88 24 = 1 ∧ F 88 25 = nI (tpl n b (ptx (tkc n b)).1.2)) → S 90 [some (.ref 88), some (.int (nI x)), some (.int (nI f)), some (.int q), some (.int X4), some (.int X5)] [] F u := by
    intro X4 X5 F u h1 h2 h3
    refine am_at hS (fun t => false) 60 90 ?_
    refine ⟨fun hq => ?_, fun hq => ?_⟩
    · exact ⟨h1, X4, rfl, fun z => ⟨by rw [if_pos hq]; exact (h2 z).1, (h2 z).2.2⟩, h3⟩
    · exact ⟨h1, X5, rfl, fun z => ⟨by rw [if_neg hq]; exact (h2 z).2.1, (h2 z).2.2⟩, h3⟩
  subst eJ
  refine ⟨_, _, (by omega : k - 1 < k), nx, ?_⟩
  rintro _ I1 w1 ⟨rfl, f1, f2, f3, f4⟩
  have hr1 : rS n b L x f (eM I f) 0 0 I1 w1 := by
    refine ⟨⟨zt, hfs, rT_fs f1 (by decide) (by decide) (by decide) rTJ, Nat.zero_le _⟩, ⟨by rw [f1.2 24 (by decide)]; exact j24, f3, f2, fun hl => f4 (hfs.2 _ hl), by rw [f1.2 23 (by decide)]; exact j23⟩, hf, by rw [f1.2 26 (by decide)]; exact j26, ?_⟩
    rw [eE]
    exact (eM_fs f1 (fun _ _ _ => List.not_mem_nil) f).symm
  have g1 := fJ.trans (f1.mono (js' := rdFs) (l' := []) (by decide) (by decide))
  refine ⟨_, _, (by omega : k - 1 < k), m_partK zi hfs hL160 (by omega) hr1 (j := 0) (by decide), ?_⟩
  rintro _ I2 w2 ⟨f5, v2, rfl, q1, q2⟩
  rw [← er] at q1 q2
  have g2 := g1.trans (f5.mono (js' := rdFs) (l' := []) (by decide) (by decide))
  cases hok : pOk r with
  | false =>
    have hB := q2 hok
    have tx2 : ptx (tkc n b) = tF (pAt r) := by rw [tx, hok]; rfl
    refine ⟨fun z => absurd (hB.1.symm.trans z) (by decide), fun _ => ?_⟩
    refine ⟨fun z => absurd (hB.1.symm.trans z) (by decide), fun _ => ?_⟩
    exact fin v2 0 I2 w2 g2 (fun z => by rw [tx2] at z; cases z) (fun _ => by rw [tx2]; exact hB)
  | true =>
    obtain ⟨hv, hrs⟩ := q1 hok
    refine ⟨fun _ => ?_, fun z => absurd hrs.2.1.1 z⟩
    obtain ⟨p, ep⟩ : ∃ p, p = pPa (tkc n b) 1 (pAt r) := ⟨_, rfl⟩
    rw [hok, cond_true, ← ep] at tx
    refine ⟨_, _, (by omega : k - 1 < k), m_partK zi hfs hL160 (by omega) hrs (j := 1) (by decide), ?_⟩
    rintro _ I3 w3 ⟨f6, v3, rfl, p1, p2⟩
    rw [← ep] at p1 p2
    have g3 := g2.trans (f6.mono (js' := rdFs) (l' := []) (by decide) (by decide))
    cases hok2 : pOk p with
    | false =>
      have hB := p2 hok2
      have tx2 : ptx (tkc n b) = tF (pAt p) := by rw [tx, hok2]; rfl
      refine ⟨fun z => absurd (hB.1.symm.trans z) (by decide), fun _ => ?_⟩
      exact fin v2 v3 I3 w3 g3 (fun z => by rw [tx2] at z; cases z) (fun _ => by rw [tx2]; exact hB)
    | true =>
      obtain ⟨hv3, hrs3⟩ := p1 hok2
      rw [hok2, cond_true] at tx
      refine ⟨fun _ => ?_, fun z => absurd hrs3.2.1.1 z⟩
      have hT := hrs3.2.1.2.1.2.2.2.2
      refine ⟨fun h83 => ?_, fun h83 => ?_⟩
      · have e1 := hT.mp h83
        refine fin v2 v3 I3 w3 g3 (fun _ => ?_) (fun z => ?_)
        · rw [tx]
          exact ⟨hv, hv3, hrs3.2.1.1⟩
        · rw [tx] at z
          have z2 : (tkc n b (pAt p) == -1) = false := z
          rw [e1] at z2
          cases z2
      · have e1 : (tkc n b (pAt p) == -1) = false := beq_eq_false_iff_ne.mpr (fun z => h83 (hT.mpr z))
        refine ⟨_, _, (by omega : k - 1 < k), r_fail0 zi I3 w3 hrs3.2.1.1, am_elim ?_⟩
        refine fin v2 v3 _ w3 (g3.trans (fl_fs.mono (by decide) (by decide))) (fun z => ?_) (fun _ => ?_)
        · rw [tx] at z
          have z2 : (tkc n b (pAt p) == -1) = true := z
          rw [e1] at z2
          cases z2
        · rw [tx]
          exact rB_fail hrs3

