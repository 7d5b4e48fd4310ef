/-! the class reads a whole TEXT -/
abbrev TX : Type := (Bool × Nat) × (List Int32 × List Int32) × (((Nat → Int32) → Int32) × ((Nat → Int32) → Int32))
def tF (i : Nat) : TX := ((false, i), ([], []), (fun _ => 0, fun _ => 0))
def ptx2 (T : Nat → Int32) (r q : PR) : TX := cond (pOk q && T (pAt q) == -59) ((T (pAt q + 1) == -1, pAt q + 1), (pCo r, pCo q), (pVa r, pVa q)) (tF (pAt q))
def ptx1 (T : Nat → Int32) (r : PR) : TX := cond (pOk r && T (pAt r) == -59) (cond (T (pAt r + 1) == -4) (ptx2 T r (pO T (lev T 5).2 (pAt r + 2))) (tF (pAt r + 1))) (tF (pAt r))
def ptx (T : Nat → Int32) : TX := cond (T 0 == -3) (ptx1 T (pO T (lev T 5).2 1)) (tF 0)
def txG (L : Nat) (x : TX) : Prop := x.1.2 ≤ L ∧ (x.1.1 = true → x.2.1.1.length + x.2.1.2.length ≤ L ∧ ∀ e s, runL e x.2.1.1 s = x.2.2.1 e :: s ∧ runL e x.2.1.2 s = x.2.2.2 e :: s)
theorem ns_c {c : Int32} (h : (!(c == -1) && !(c == -2)) = true) : ¬ stp c := by
  simp only [Bool.and_eq_true, Bool.not_eq_true', beq_eq_false_iff_ne] at h
  exact fun q => q.elim h.1 h.2
theorem ptx_G {T : Nat → Int32} {L : Nat} (hL : stp (T L)) : txG L (ptx T) := by
  have fl : ∀ i, i ≤ L → txG L (tF i) := fun i hi => ⟨hi, fun q => by cases q⟩
  have g5 := GP_O hL (GP_lev hL 5).2
  unfold ptx
  cases h0 : (T 0 == -3) with
  | false => exact fl 0 (Nat.zero_le _)
  | true =>
    have l0 := st_lt hL (Nat.zero_le _) (by rw [beq_iff_eq.mp h0]; exact ns_c (by decide))
    obtain ⟨r, er⟩ : ∃ r, r = pO T (lev T 5).2 1 := ⟨_, rfl⟩
    have hr := g5 1 l0
    rw [← er] at hr
    rw [cond_true, ← er]
    unfold ptx1
    cases h1 : (pOk r && T (pAt r) == -59) with
    | false => exact fl _ hr.2.1
    | true =>
      rw [Bool.and_eq_true, beq_iff_eq] at h1
      have l1 := st_lt hL hr.2.1 (by rw [h1.2]; exact ns_c (by decide))
      rw [cond_true]
      cases h2 : (T (pAt r + 1) == -4) with
      | false => exact fl _ l1
      | true =>
        have l2 := st_lt hL l1 (by rw [beq_iff_eq.mp h2]; exact ns_c (by decide))
        rw [cond_true]
        obtain ⟨q, eq⟩ : ∃ q, q = pO T (lev T 5).2 (pAt r + 2) := ⟨_, rfl⟩
        have hq := g5 (pAt r + 2) l2
        rw [← eq] at hq
        rw [← eq]
        unfold ptx2
        cases h3 : (pOk q && T (pAt q) == -59) with
        | false => exact fl _ hq.2.1
        | true =>
          rw [Bool.and_eq_true, beq_iff_eq] at h3
          have l3 := st_lt hL hq.2.1 (by rw [h3.2]; exact ns_c (by decide))
          obtain ⟨a1, a2, a3⟩ := hr.2.2 h1.1
          obtain ⟨b1, b2, b3⟩ := hq.2.2 h3.1
          have c0 := hr.1
          have d0 := hq.1
          refine ⟨l3, fun _ => ⟨?_, fun e s => ⟨a3 e s, b3 e s⟩⟩⟩
          show (pCo r).length + (pCo q).length ≤ L
          omega
theorem r_clear {E : am_E} (zi : am_inj E) {k : Nat} (I : am_I) (w : Int64) : am_Ret E k Y_Text_clear [.ref 45] I w (am_eq none (am_up (am_up I 45 1 0) 45 2 0) w) := by
  refine am_intro (pv_Text_clear E k) (by decide) zi ?_ rfl rfl ?_
  · rintro _ _ _ ⟨rfl, -⟩; trivial
  intro S hS
  exact am_at hS (fun _ => false) 60 0 ⟨rfl, rfl, rfl⟩
theorem r_endCost {E : am_E} (zi : am_inj E) {k : Nat} (I : am_I) (w : Int64) : am_Ret E k Y_Text_endCost [.ref 45] I w (am_eq none (am_up I 45 2 (I 45 1)) w) := by
  refine am_intro (pv_Text_endCost E k) (by decide) zi ?_ rfl rfl ?_
  · rintro _ _ _ ⟨rfl, -⟩; trivial
  intro S hS
  exact am_at hS (fun _ => false) 60 0 ⟨rfl, rfl, rfl⟩
theorem am_fs.fr {l : List Nat} {o : Nat} {js l' : List Nat} {I J : am_I} (h : am_fr l I J) (h2 : ∀ q, q ∈ l → q ∈ l' ∧ q ≠ o) : am_fs o js l' I J := ⟨fun q h3 _ => h q (fun z => h3 (h2 q z).1), fun j _ => by
  by_cases e : o ∈ l
  · exact absurd rfl (h2 o e).2
  · rw [h o e]⟩
def isTP (n : Nat) (b : Nat → Nat) (L : Nat) (x : TX) (I : am_I) (w : Int64) : am_Q := fun q I' w' => q = some (.int (bi x.1.1)) ∧ w' = w ∧ am_fs 45 [1, 2] [42, 43, 44, 46] I I' ∧ I' 42 3 = nI x.1.2 ∧ (∀ j, j ≤ L → I' 44 j = nI (tpl n b j)) ∧ (x.1.1 = true → I' 45 1 = nI (x.2.1.1.length + x.2.1.2.length) ∧ I' 45 2 = nI x.2.1.1.length ∧ lay (I' 46) (x.2.1.1 ++ x.2.1.2))
theorem r_isText {E : am_E} (zi : am_inj E) {k n : Nat} (hk : 51 ≤ k) {b : Nat → Nat} (zt : wft n b) {I : am_I} (zT : tC I n b) (w : Int64) {L : Nat} (hfs : fsL n b L) :
    am_Ret E k Y_TextReader_isText [.ref 42] I w (isTP n b L (ptx (tkc n b)) I w) := by
  refine am_intro (pv_TextReader_isText E k) (by decide) zi ?_ rfl rfl ?_
  · rintro _ _ _ ⟨rfl, -⟩; exact bi_nr _
  intro S hS
  obtain ⟨T, eT⟩ : ∃ T, T = tkc n b := ⟨_, rfl⟩
  have hL : stp (T L) := by rw [eT]; exact hfs.1
  have hL160 : L ≤ 160 := Nat.le_trans (fsL_le zt hfs) zt.1
  rw [← eT] at hS
  have cO := (c_levels zi hL hL160 5 (Nat.le_refl _)).2.2
  have g5 := GP_O hL (GP_lev hL 5).2
  have zT1 : tC (am_up (am_up I 45 1 0) 45 2 0) n b := ⟨by rw [am_up_ne (by decide), am_up_ne (by decide)]; exact zT.1, fun j hj => by rw [am_up_ne (by decide), am_up_ne (by decide)]; exact zT.2 j hj⟩
  refine am_at hS (fun _ => false) 160 0 ?_
  refine ⟨_, _, (by omega : k - 1 < k), r_clear zi I w, am_elim ?_⟩
  refine ⟨_, _, (by omega : k - 1 < k), r_layTokens zi (by omega) zt zT1 w hfs, ?_⟩
  rintro _ I1 w1 ⟨rfl, rfl, f1, lt⟩
  have e43 : I1 43 0 = T 0 := by rw [eT]; exact (lt 0 (Nat.zero_le _)).1
  refine ⟨show vp_in (nI 0) 161 from vp_in_nI (by decide) (by decide), ?_⟩
  rw [show (0 : Int32).toNatClampNeg = 0 from rfl, am_up_ne (show (43 : Nat) ≠ 42 by decide), e43]
  obtain ⟨J, eJ⟩ : ∃ J, J = am_up (am_up I1 42 3 0) 42 4 (T 0) := ⟨_, rfl⟩
  have fJ1 : am_fr [42] I1 J := by rw [eJ]; exact am_fr.up (am_fr.up am_fr.refl (by decide)) (by decide)
  have fI : am_fs 45 [1, 2] [42, 43, 44, 46] I (am_up (am_up I 45 1 0) 45 2 0) := am_fs.upo (am_fs.upo am_fs.refl (by decide)) (by decide)
  have fJ : am_fs 45 [1, 2] [42, 43, 44, 46] I J := (fI.trans (am_fs.fr f1 (by decide))).trans (am_fs.fr fJ1 (by decide))
  have p44 : ∀ j, j ≤ L → J 44 j = nI (tpl n b j) := fun j hj => by rw [fJ1 44 (by decide)]; exact (lt j hj).2
  have tJ : tkS T L J := fun j hj => by rw [fJ1 43 (by decide), eT]; exact (lt j hj).1
  have e45 : ∀ j, J 45 j = am_up (am_up I 45 1 0) 45 2 0 45 j := fun j => by rw [fJ1 45 (by decide), f1 45 (by decide)]
  have r0 : rdS T 0 [] J := by
    refine ⟨⟨?_, ?_⟩, ?_, fun j v h => (by cases h), Nat.le_refl _⟩
    · rw [eJ, am_up_fup, fup_ne (by decide), am_up_fup, fup_self]; rfl
    · rw [eJ, am_up_fup, fup_self]
    · rw [e45, am_up_fup, fup_ne (by decide), am_up_fup, fup_self]; rfl
  have fail : ∀ F i, am_fs 45 [1, 2] [42, 43, 44, 46] I F → F 42 3 = nI i → (∀ j, j ≤ L → F 44 j = nI (tpl n b j)) → ptx T = tF i → isTP n b L (ptx T) I w1 (some (.int 0)) F w1 := fun F i h1 h2 h3 h4 => by
    rw [h4]
    exact ⟨rfl, rfl, h1, h2, h3, fun q => by cases q⟩
  have ext : ∀ {F G : am_I}, am_fs 45 [1, 2] [42, 43, 44, 46] I F → am_fs 45 [1] [42, 46] F G → am_fs 45 [1, 2] [42, 43, 44, 46] I G := fun h1 h2 => h1.trans (h2.mono (by decide) (by decide))
  subst eJ
  by_cases h0 : T 0 = -3
  · have l0 := st_lt hL (Nat.zero_le _) (by rw [h0]; exact ns_c (by decide))
    refine ⟨_, _, (by omega : k - 1 < k), (by rw [← h0]; exact skip_t zi hL160 tJ r0.1.1 r0.1.2 w1 l0), am_elim ?_⟩
    refine ⟨fun q => absurd q (by decide), fun _ => ?_⟩
    refine ⟨_, _, (by omega : k - 1 < k), cO (k - 1) (by omega) _ w1 1 [] l0 (tkS_fs adv_fs tJ) (rdS_adv r0), ?_⟩
    rintro _ I2 w2 ⟨rfl, rfl, f2, s2⟩
    obtain ⟨r, er⟩ : ∃ r, r = pO T (lev T 5).2 1 := ⟨_, rfl⟩
    have hr := g5 1 l0
    rw [← er] at hr s2
    rw [← er]
    have x0 : ptx T = ptx1 T r := by unfold ptx; rw [h0, er]; rfl
    have a2 := (adv_fs (T := T) (i := 0)).trans f2
    have g2 := ext fJ a2
    have p2 : ∀ j, j ≤ L → I2 44 j = nI (tpl n b j) := fun j hj => by rw [a2.1 44 (by decide) (by decide)]; exact p44 j hj
    have t2 := tkS_fs a2 tJ
    refine ⟨fun h40 => ?_, fun h40 => ?_⟩
    · rw [bi_eq0] at h40
      exact fail I2 (pAt r) g2 (s2.2 h40).1 p2 (by rw [x0]; unfold ptx1; rw [h40]; rfl)
    rw [bi_eq0, Bool.not_eq_false] at h40
    have r2 := s2.1 h40
    by_cases h1 : T (pAt r) = -59
    · have l1 := st_lt hL hr.2.1 (by rw [h1]; exact ns_c (by decide))
      refine ⟨_, _, (by omega : k - 1 < k), (by rw [← h1]; exact skip_t zi hL160 t2 r2.1.1 r2.1.2 w2 l1), am_elim ?_⟩
      refine ⟨fun q => absurd q (by decide), fun _ => ?_⟩
      refine ⟨_, _, (by omega : k - 1 < k), r_endCost zi _ w2, am_elim ?_⟩
      have r3 := rdS_adv r2
      obtain ⟨I3, e3⟩ : ∃ I3, I3 = am_up (adv T (pAt r) I2) 45 2 (adv T (pAt r) I2 45 1) := ⟨_, rfl⟩
      rw [← e3]
      have f3 : ∀ q, q ≠ 45 → I3 q = adv T (pAt r) I2 q := fun q hq => by rw [e3, am_up_ne hq]
      have h45 : I3 45 1 = nI (pCo r).length := by rw [e3, am_up_fup, fup_ne (by decide)]; exact r3.2.1
      have h452 : I3 45 2 = nI (pCo r).length := by rw [e3, am_up_fup, fup_self]; exact r3.2.1
      have rr : rdS T (pAt r + 1) (pCo r) I3 := ⟨⟨by rw [f3 42 (by decide)]; exact r3.1.1, by rw [f3 42 (by decide)]; exact r3.1.2⟩, h45, by rw [f3 46 (by decide)]; exact r3.2.2.1, r3.2.2.2⟩
      have g3 : am_fs 45 [1, 2] [42, 43, 44, 46] I I3 := by rw [e3]; exact am_fs.upo (ext g2 adv_fs) (by decide)
      have t3 : tkS T L I3 := fun j hj => by rw [f3 43 (by decide)]; exact tkS_fs adv_fs t2 j hj
      have p3 : ∀ j, j ≤ L → I3 44 j = nI (tpl n b j) := fun j hj => by rw [f3 44 (by decide), (adv_fs (T := T) (i := pAt r) (I := I2)).1 44 (by decide) (by decide)]; exact p2 j hj
      have x1 : ptx T = cond (T (pAt r + 1) == -4) (ptx2 T r (pO T (lev T 5).2 (pAt r + 2))) (tF (pAt r + 1)) := by rw [x0]; unfold ptx1; rw [h40, h1]; rfl
      by_cases h2 : T (pAt r + 1) = -4
      · have l2 := st_lt hL l1 (by rw [h2]; exact ns_c (by decide))
        refine ⟨_, _, (by omega : k - 1 < k), (by rw [← h2]; exact skip_t zi hL160 t3 rr.1.1 rr.1.2 w2 l2), am_elim ?_⟩
        refine ⟨fun q => absurd q (by decide), fun _ => ?_⟩
        refine ⟨_, _, (by omega : k - 1 < k), cO (k - 1) (by omega) _ w2 (pAt r + 2) (pCo r) l2 (tkS_fs adv_fs t3) (rdS_adv rr), ?_⟩
        rintro _ I4 w3 ⟨rfl, rfl, f4, s4⟩
        obtain ⟨q, eq⟩ : ∃ q, q = pO T (lev T 5).2 (pAt r + 2) := ⟨_, rfl⟩
        have hq := g5 (pAt r + 2) l2
        rw [← eq] at hq s4
        rw [← eq]
        have x2 : ptx T = ptx2 T r q := by rw [x1, h2, eq]; rfl
        have a4 : am_fs 45 [1] [42, 46] I3 I4 := adv_fs.trans f4
        have g4 := ext g3 a4
        have p4 : ∀ j, j ≤ L → I4 44 j = nI (tpl n b j) := fun j hj => by rw [a4.1 44 (by decide) (by decide)]; exact p3 j hj
        have t4 := tkS_fs a4 t3
        refine ⟨fun h75 => ?_, fun h75 => ?_⟩
        · rw [bi_eq0] at h75
          exact fail I4 (pAt q) g4 (s4.2 h75).1 p4 (by rw [x2]; unfold ptx2; rw [h75]; rfl)
        rw [bi_eq0, Bool.not_eq_false] at h75
        have r4 := s4.1 h75
        by_cases h3 : T (pAt q) = -59
        · have l3 := st_lt hL hq.2.1 (by rw [h3]; exact ns_c (by decide))
          refine ⟨_, _, (by omega : k - 1 < k), (by rw [← h3]; exact skip_t zi hL160 t4 r4.1.1 r4.1.2 w3 l3), am_elim ?_⟩
          refine ⟨fun q => absurd q (by decide), fun _ => ?_⟩
          have r5 := rdS_adv r4
          have g5' := ext g4 (adv_fs (T := T) (i := pAt q) (I := I4))
          have p5 : ∀ j, j ≤ L → adv T (pAt q) I4 44 j = nI (tpl n b j) := fun j hj => by rw [(adv_fs (T := T) (i := pAt q) (I := I4)).1 44 (by decide) (by decide)]; exact p4 j hj
          have x3 : ptx T = ((T (pAt q + 1) == -1, pAt q + 1), (pCo r, pCo q), (pVa r, pVa q)) := by rw [x2]; unfold ptx2; rw [h75, h3]; rfl
          have done : isTP n b L (ptx T) I w3 (some (.int (bi (T (pAt q + 1) == -1)))) (adv T (pAt q) I4) w3 := by
            rw [x3]
            refine ⟨rfl, rfl, g5', r5.1.1, p5, fun _ => ⟨?_, ?_, r5.2.2.1⟩⟩
            · rw [r5.2.1, List.length_append]
            · rw [(adv_fs (T := T) (i := pAt q) (I := I4)).2 2 (by decide), a4.2 2 (by decide)]
              exact h452
          refine ⟨fun h92 => ?_, fun h92 => ?_⟩
          · have e1 : T (pAt q + 1) = -1 := r5.1.2.symm.trans h92
            rw [e1] at done
            exact done
          · have e1 : ¬ T (pAt q + 1) = -1 := fun z => h92 (r5.1.2.trans z)
            rw [beq_eq_false_iff_ne.mpr e1] at done
            exact done
        · refine ⟨_, _, (by omega : k - 1 < k), skip_f zi r4.1.2 w3 h3, am_elim ?_⟩
          refine ⟨fun _ => ?_, fun q => absurd rfl q⟩
          exact fail I4 (pAt q) g4 r4.1.1 p4 (by rw [x2]; unfold ptx2; rw [h75, beq_eq_false_iff_ne.mpr h3]; rfl)
      · refine ⟨_, _, (by omega : k - 1 < k), skip_f zi rr.1.2 w2 h2, am_elim ?_⟩
        refine ⟨fun _ => ?_, fun q => absurd rfl q⟩
        exact fail I3 (pAt r + 1) g3 rr.1.1 p3 (by rw [x1, beq_eq_false_iff_ne.mpr h2]; rfl)
    · refine ⟨_, _, (by omega : k - 1 < k), skip_f zi r2.1.2 w2 h1, am_elim ?_⟩
      refine ⟨fun _ => ?_, fun q => absurd rfl q⟩
      exact fail I2 (pAt r) g2 r2.1.1 p2 (by rw [x0]; unfold ptx1; rw [h40, beq_eq_false_iff_ne.mpr h1]; rfl)
  · refine ⟨_, _, (by omega : k - 1 < k), skip_f zi r0.1.2 w1 h0, am_elim ?_⟩
    refine ⟨fun _ => ?_, fun q => absurd rfl q⟩
    exact fail _ 0 fJ r0.1.1 p44 (by unfold ptx; rw [beq_eq_false_iff_ne.mpr h0]; rfl)
theorem r_place {E : am_E} (zi : am_inj E) {k : Nat} {I : am_I} (w : Int64) {i : Nat} (hi : i ≤ 160) (h : I 42 3 = nI i) : am_Ret E k Y_TextReader_place [.ref 42] I w (am_eq (some (.int (I 44 i))) I w) := by
  refine am_intro (pv_TextReader_place E k) (by decide) zi ?_ rfl rfl ?_
  · rintro _ _ _ ⟨rfl, -⟩; rfl
  intro S hS
  refine am_at hS (fun _ => false) 60 0 ?_
  refine ⟨by rw [h]; exact vp_in_nI (by omega) (by omega), ?_⟩
  rw [h, nI_clamp (by omega)]
  exact ⟨rfl, rfl, rfl⟩
