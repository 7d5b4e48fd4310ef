/-! the class reads a TEXT: not, ONE, the whole -/
theorem stt_F {T : Nat → Int32} {i : Nat} {c : List Int32} {I : am_I} (h : rdS T i c I) (hi : i ≤ 160) : stt T c (pF i) I := ⟨fun q => (by cases q), fun _ => ⟨h.1.1, c.length, by have := h.2.2.2; omega, h.2.1⟩⟩
theorem c_readNot {E : am_E} (zi : am_inj E) {T : Nat → Int32} {L : Nat} (hL : stp (T L)) (hL160 : L ≤ 160) {K o : Nat} {dn : Option ((Nat → PR) × (Nat → PR))} {cm : Nat → PR} (hg : ∀ u, dn = some u → GP L u.2) (hc : CK E T L K Y_TextReader_readComparison o cm) (ho : dn = none → o = 5) (hd : ∀ u, dn = some u → o < 5 ∧ CK E T L K Y_TextReader_readNot (o + 1) u.2) : CK E T L (K + 1) Y_TextReader_readNot o (pN T dn cm) := by
  intro k hk I w i c hi hT hr0
  refine am_intro (pv_TextReader_readNot E k) (by decide) zi ?_ rfl rfl ?_
  · rintro _ _ _ ⟨rfl, -⟩; exact bi_nr _
  intro S hS
  obtain ⟨⟨s3, s4⟩, s5, s6, s7⟩ := hr0
  unfold pN at hS
  refine am_at hS (fun _ => false) 120 0 ?_
  refine ⟨fun h6 => ?_, fun h6 => ?_⟩
  · have hv : T i = -7 := s4.symm.trans h6
    rw [if_pos hv]
    have hlt : i < L := st_lt hL hi (by rw [hv]; exact fun q => absurd q (by rintro (q | q) <;> exact absurd q (by decide)))
    cases hdn : dn with
    | none =>
      have o5 := ho hdn
      subst o5
      refine ⟨fun q => absurd q (by decide), fun _ => ?_⟩
      refine ⟨_, _, (by omega : k - 1 < k), r_tAdd zi (z := c.length) (by omega) s5 (-7) w, am_elim ?_⟩
      refine ⟨rfl, rfl, adI_fs, ⟨fun q => (by cases q), fun _ => ⟨by rw [adI_42]; exact s3, adI_z (by omega) s5⟩⟩⟩
    | some u =>
      obtain ⟨o5, hcn⟩ := hd u hdn
      have hR := hg u hdn (i + 1) hlt
      refine ⟨fun _ => ?_, fun q => absurd (show nI o < nI 5 from nI_lt o5 (by decide)) q⟩
      refine ⟨_, _, (by omega : k - 1 < k), (by rw [← hv]; exact skip_t zi hL160 hT s3 s4 w hlt), am_elim ?_⟩
      refine ⟨fun q => absurd q (by decide), fun _ => ?_⟩
      refine ⟨_, _, (by omega : k - 1 < k), (by rw [nI_1]; exact hcn (k - 1) (by omega) _ w (i + 1) c hlt (tkS_fs adv_fs hT) (rdS_adv ⟨⟨s3, s4⟩, s5, s6, s7⟩)), ?_⟩
      rintro _ I2 w2 ⟨rfl, rfl, f2, st2⟩
      have hf2 : am_fs 45 [1] [42, 46] I I2 := adv_fs.trans f2
      obtain ⟨z, hz, ez, st3⟩ := stt_add st2 (r := pQ (u.2 (i + 1))) (c := c) (t := -7) rfl rfl (List.append_assoc _ _ _).symm (fun hok => by
        have := (hR.2.2 hok).2.1
        rw [List.length_append]
        have := (hR.2.2 hok).1
        omega) (Nat.le_trans hR.2.1 hL160)
      refine ⟨fun h36 => ?_, fun h36 => ?_⟩
      · rw [bi_eq0] at h36
        refine ⟨_, _, (by omega : k - 1 < k), r_tAdd zi hz ez (-7) w2, am_elim ?_⟩
        exact ⟨by show some (Value.int 0) = some (.int (bi (pOk (u.2 (i + 1))))); rw [h36]; rfl, rfl, hf2.trans adI_fs, st3⟩
      · rw [bi_eq0, Bool.not_eq_false] at h36
        refine ⟨_, _, (by omega : k - 1 < k), r_tAdd zi hz ez (-7) w2, am_elim ?_⟩
        exact ⟨by show some (Value.int 1) = some (.int (bi (pOk (u.2 (i + 1))))); rw [h36]; rfl, rfl, hf2.trans adI_fs, st3⟩
  · rw [if_neg (fun q => h6 (s4.trans q))]
    refine ⟨_, _, (by omega : k - 1 < k), hc (k - 1) (by omega) I w i c hi hT ⟨⟨s3, s4⟩, s5, s6, s7⟩, ?_⟩
    rintro _ I1 w1 ⟨rfl, rfl, f1, st1⟩
    exact ⟨rfl, rfl, f1, st1⟩

theorem rdS_lit {T : Nat → Int32} {i : Nat} {c : List Int32} {I : am_I} (h : rdS T i c I) (hi : i < 160) : rdS T (i + 1) (c ++ [T i]) (adv T i (adI (T i) c.length I)) := by
  obtain ⟨⟨h1, h2⟩, h3, h4, h5⟩ := h
  have ea : adI (T i) c.length I = am_up (am_up I 46 c.length (T i)) 45 1 (nI (c.length + 1)) := by
    unfold adI
    rw [decide_eq_true (by omega), cond_true]
  have e3 : ∀ J, adv T i J 42 3 = nI (i + 1) := fun J => by unfold adv; rw [am_up_fup, fup_ne (by decide), am_up_fup, fup_self]
  have e4 : ∀ J, adv T i J 42 4 = T (i + 1) := fun J => by unfold adv; rw [am_up_fup, fup_self]
  have e5 : ∀ J, adv T i J 45 = J 45 := fun J => by unfold adv; rw [am_up_ne (by decide), am_up_ne (by decide)]
  have e6 : ∀ J, adv T i J 46 = J 46 := fun J => by unfold adv; rw [am_up_ne (by decide), am_up_ne (by decide)]
  refine ⟨⟨e3 _, e4 _⟩, ?_, ?_, ?_⟩
  · rw [e5, ea, am_up_fup, fup_self, List.length_append]
    rfl
  · rw [e6, ea, am_up_ne (by decide), am_up_fup]
    exact lay_up h4
  · rw [List.length_append, List.length_singleton]
    omega
theorem c_readOne {E : am_E} (zi : am_inj E) {T : Nat → Int32} {L : Nat} (hL : stp (T L)) (hL160 : L ≤ 160) {K o : Nat} (hK : 1 ≤ K) {dn : Option ((Nat → PR) × (Nat → PR))} (hg : ∀ u, dn = some u → GP L u.1 ∧ GP L u.2) (ho : dn = none → o = 5) (hd : ∀ u, dn = some u → o < 5 ∧ CK E T L K Y_TextReader_readOne (o + 1) u.1 ∧ CK E T L K Y_TextReader_readOr (o + 1) (pO T u.2)) : CK E T L (K + 1) Y_TextReader_readOne o (p1 T dn) := by
  intro k hk I w i c hi hT hr0
  refine am_intro (pv_TextReader_readOne E k) (by decide) zi ?_ rfl rfl ?_
  · rintro _ _ _ ⟨rfl, -⟩; exact bi_nr _
  intro S hS
  have hrd := hr0
  obtain ⟨⟨s3, s4⟩, s5, s6, s7⟩ := hr0
  have lit : ∀ v : (Nat → Int32) → Int32, ¬ stp (T i) → p1 T dn i = (true, i + 1, [T i], v) → S 17 [some (.ref 42), some (.int (nI o)), none] [] I w := fun v hs e => by
    have hlt : i < L := st_lt hL hi hs
    refine am_at hS (fun _ => false) 60 17 ?_
    refine ⟨_, _, (by omega : k - 1 < k), (by rw [s4]; exact r_tAdd zi (z := c.length) (by omega) s5 (T i) w), am_elim ?_⟩
    refine ⟨_, _, (by omega : k - 1 < k), (by rw [adI_42, s4]; exact skip_t zi hL160 (tkS_fs adI_fs hT) (by rw [adI_42]; exact s3) (by rw [adI_42]; exact s4) w hlt), am_elim ?_⟩
    rw [e]
    exact ⟨rfl, rfl, adI_fs.trans adv_fs, ⟨fun _ => rdS_lit hrd (by omega), fun q => (by cases q)⟩⟩
  refine am_at hS (fun t => Nat.beq t 17) 160 0 ?_
  refine ⟨fun h4 => ?_, fun h4 => ?_⟩
  · have h0 : T i < 0 := by rw [← s4]; exact h4
    refine ⟨_, _, (by omega : k - 1 < k), (by rw [s4]; exact r_isName zi (T i) I w), am_elim ?_⟩
    refine ⟨fun h14 => ?_, fun h14 => ?_⟩
    · rw [bi_eq0] at h14
      cases hdn : dn with
      | none =>
        have e : p1 T none i = pF i := by
          unfold p1
          rw [if_neg (fun q => q h0), if_neg (by rw [h14]; exact Bool.false_ne_true)]
        have o5 := ho hdn
        subst o5
        refine ⟨fun q => absurd q (by decide), fun _ => ?_⟩
        rw [e]
        exact ⟨rfl, rfl, am_fs.refl, stt_F hrd (by omega)⟩
      | some u =>
        have u1 : p1 T (some u) i = if T i = -40 then pB T (pO T u.2 (i + 1)) else if T i = -45 then pM (u.1 (i + 1)) else pF i := by
          unfold p1
          rw [if_neg (fun q => q h0), if_neg (by rw [h14]; exact Bool.false_ne_true)]
        obtain ⟨o5, hc1, hcO⟩ := hd u hdn
        obtain ⟨g1, g2⟩ := hg u hdn
        refine ⟨fun _ => ?_, fun q => absurd (show nI o < nI 5 from nI_lt o5 (by decide)) q⟩
        refine ⟨fun h50 => ?_, fun h50 => ?_⟩
        · have hv : T i = -40 := s4.symm.trans h50
          rw [if_pos hv] at u1
          have hlt : i < L := st_lt hL hi (by rw [hv]; exact fun q => absurd q (by rintro (q | q) <;> exact absurd q (by decide)))
          have hR := GP_O hL g2 (i + 1) hlt
          refine ⟨_, _, (by omega : k - 1 < k), (by rw [← hv]; exact skip_t zi hL160 hT s3 s4 w hlt), am_elim ?_⟩
          refine ⟨fun q => absurd q (by decide), fun _ => ?_⟩
          refine ⟨_, _, (by omega : k - 1 < k), (by rw [nI_1]; exact hcO (k - 1) (by omega) _ w (i + 1) c hlt (tkS_fs adv_fs hT) (rdS_adv hrd)), ?_⟩
          rintro _ I2 w2 ⟨rfl, rfl, f2, st2⟩
          have hf2 : am_fs 45 [1] [42, 46] I I2 := adv_fs.trans f2
          refine ⟨fun h69 => ?_, fun h69 => ?_⟩
          · rw [bi_eq0] at h69
            have e : p1 T (some u) i = pF (pAt (pO T u.2 (i + 1))) := by
              rw [u1]
              unfold pB
              rw [h69]
              rfl
            rw [e]
            exact ⟨rfl, rfl, hf2, ⟨fun q => (by cases q), fun _ => st2.2 h69⟩⟩
          · rw [bi_eq0, Bool.not_eq_false] at h69
            have hrd2 := st2.1 h69
            obtain ⟨⟨a3, a4⟩, a5, a6, a7⟩ := hrd2
            by_cases hv2 : T (pAt (pO T u.2 (i + 1))) = -41
            · have hlt2 := st_lt hL hR.2.1 (by rw [hv2]; exact fun q => absurd q (by rintro (q | q) <;> exact absurd q (by decide)))
              have e : p1 T (some u) i = (true, pAt (pO T u.2 (i + 1)) + 1, pCo (pO T u.2 (i + 1)), pVa (pO T u.2 (i + 1))) := by
                rw [u1]
                unfold pB
                rw [h69, hv2]
                rfl
              refine ⟨_, _, (by omega : k - 1 < k), (by rw [← hv2]; exact skip_t zi hL160 (tkS_fs hf2 hT) a3 a4 w2 hlt2), am_elim ?_⟩
              refine ⟨fun q => absurd q (by decide), fun _ => ?_⟩
              rw [e]
              exact ⟨rfl, rfl, hf2.trans adv_fs, ⟨fun _ => rdS_adv (st2.1 h69), fun q => (by cases q)⟩⟩
            · have e : p1 T (some u) i = pF (pAt (pO T u.2 (i + 1))) := by
                rw [u1]
                unfold pB
                rw [h69, beq_eq_false_iff_ne.mpr hv2]
                rfl
              refine ⟨_, _, (by omega : k - 1 < k), skip_f zi a4 w2 hv2, am_elim ?_⟩
              refine ⟨fun _ => ?_, fun q => absurd rfl q⟩
              rw [e]
              exact ⟨rfl, rfl, hf2, ⟨fun q => (by cases q), fun _ => ⟨a3, _, Nat.le_trans a7 (Nat.le_trans hR.2.1 hL160), a5⟩⟩⟩
        · have hn : ¬ T i = -40 := fun q => h50 (s4.trans q)
          rw [if_neg hn] at u1
          by_cases hv : T i = -45
          · rw [if_pos hv] at u1
            have hlt : i < L := st_lt hL hi (by rw [hv]; exact fun q => absurd q (by rintro (q | q) <;> exact absurd q (by decide)))
            have hR := g1 (i + 1) hlt
            refine ⟨_, _, (by omega : k - 1 < k), (by rw [← hv]; exact skip_t zi hL160 hT s3 s4 w hlt), am_elim ?_⟩
            refine ⟨fun q => absurd q (by decide), fun _ => ?_⟩
            refine ⟨_, _, (by omega : k - 1 < k), (by rw [nI_1]; exact hc1 (k - 1) (by omega) _ w (i + 1) c hlt (tkS_fs adv_fs hT) (rdS_adv hrd)), ?_⟩
            rintro _ I2 w2 ⟨rfl, rfl, f2, st2⟩
            have hf2 : am_fs 45 [1] [42, 46] I I2 := adv_fs.trans f2
            obtain ⟨z, hz, ez, st3⟩ := stt_add st2 (r := pM (u.1 (i + 1))) (c := c) (t := -8) rfl rfl (List.append_assoc _ _ _).symm (fun hok => by
              have := (hR.2.2 hok).2.1
              rw [List.length_append]
              have := (hR.2.2 hok).1
              omega) (Nat.le_trans hR.2.1 hL160)
            rw [u1]
            refine ⟨fun h36 => ?_, fun h36 => ?_⟩
            · rw [bi_eq0] at h36
              refine ⟨_, _, (by omega : k - 1 < k), r_tAdd zi hz ez (-8) w2, am_elim ?_⟩
              exact ⟨by show some (Value.int 0) = some (.int (bi (pOk (u.1 (i + 1))))); rw [h36]; rfl, rfl, hf2.trans adI_fs, st3⟩
            · rw [bi_eq0, Bool.not_eq_false] at h36
              refine ⟨_, _, (by omega : k - 1 < k), r_tAdd zi hz ez (-8) w2, am_elim ?_⟩
              exact ⟨by show some (Value.int 1) = some (.int (bi (pOk (u.1 (i + 1))))); rw [h36]; rfl, rfl, hf2.trans adI_fs, st3⟩
          · rw [if_neg hv] at u1
            refine ⟨_, _, (by omega : k - 1 < k), skip_f zi s4 w hv, am_elim ?_⟩
            refine ⟨fun _ => ?_, fun q => absurd rfl q⟩
            refine ⟨_, _, (by omega : k - 1 < k), r_tAdd zi (z := c.length) (by omega) s5 (-8) w, am_elim ?_⟩
            rw [u1]
            exact ⟨rfl, rfl, adI_fs, ⟨fun q => (by cases q), fun _ => ⟨by rw [adI_42]; exact s3, adI_z (by omega) s5⟩⟩⟩
    · rw [bi_eq0, Bool.not_eq_false] at h14
      refine lit (fun e => nam e (T i)) (fun q => absurd h14 (by rcases q with q | q <;> rw [q] <;> decide)) ?_
      unfold p1
      rw [if_neg (fun q => q h0), if_pos h14]
  · have h0 : ¬ T i < 0 := by rw [← s4]; exact h4
    refine lit (fun _ => T i) (fun q => h0 (by rcases q with q | q <;> rw [q] <;> decide)) ?_
    unfold p1
    rw [if_pos h0]
/-- all parts, at every depth -/
theorem c_levels {E : am_E} (zi : am_inj E) {T : Nat → Int32} {L : Nat} (hL : stp (T L)) (hL160 : L ≤ 160) : ∀ d, d ≤ 5 → CK E T L (8 * d + 3) Y_TextReader_readOne (5 - d) (lev T d).1 ∧ CK E T L (8 * d + 7) Y_TextReader_readNot (5 - d) (lev T d).2 ∧ CK E T L (8 * d + 9) Y_TextReader_readOr (5 - d) (pO T (lev T d).2)
  | d, hd => by
    have step : ∀ (dn : Option ((Nat → PR) × (Nat → PR))) (K : Nat), 1 ≤ K → (∀ u, dn = some u → GP L u.1 ∧ GP L u.2) → (dn = none → 5 - d = 5) → (∀ u, dn = some u → 5 - d < 5 ∧ CK E T L K Y_TextReader_readOne (5 - d + 1) u.1 ∧ CK E T L K Y_TextReader_readOr (5 - d + 1) (pO T u.2) ∧ CK E T L K Y_TextReader_readNot (5 - d + 1) u.2) → CK E T L (K + 1) Y_TextReader_readOne (5 - d) (p1 T dn) ∧ CK E T L (K + 5) Y_TextReader_readNot (5 - d) (pN T dn (pC T (p1 T dn))) ∧ CK E T L (K + 7) Y_TextReader_readOr (5 - d) (pO T (pN T dn (pC T (p1 T dn)))) := by
      intro dn K hK hg ho hc
      have k1 := c_readOne zi hL hL160 hK hg ho (fun u hu => ⟨(hc u hu).1, (hc u hu).2.1, (hc u hu).2.2.1⟩)
      have g1 := GP_1 hL hg
      have k2 := c_readTerm zi hL hL160 g1 (fun i => rfl) k1
      have g2 := GP_T hL g1
      have k3 := c_readSum zi hL hL160 g2 (fun i => rfl) k2
      have g3 := GP_S hL g1
      have k4 := c_readComparison zi hL hL160 g3 (fun i => rfl) k3
      have k5 := c_readNot zi hL hL160 (dn := dn) (fun u hu => (hg u hu).2) k4 ho (fun u hu => ⟨(hc u hu).1, fun k hk => (hc u hu).2.2.2 k (by omega)⟩)
      have g5 := GP_N hL hg (GP_C hL g1)
      have k6 := c_readAnd zi hL hL160 g5 (fun i => rfl) k5
      have k7 := c_readOr zi hL hL160 (GP_A hL g5) (fun i => rfl) k6
      exact ⟨k1, k5, k7⟩
    rw [lev_eq]
    cases d with
    | zero =>
      obtain ⟨a1, a2, a3⟩ := step none 2 (by decide) (fun u h => by cases h) (fun _ => rfl) (fun u h => by cases h)
      exact ⟨a1, a2, a3⟩
    | succ d =>
      obtain ⟨b1, b2, b3⟩ := c_levels zi hL hL160 d (by omega)
      obtain ⟨a1, a2, a3⟩ := step (some (lev T d)) (8 * d + 10) (by omega) (GP_dwn hL (d + 1)) (fun h => by cases h) (fun u h => by
        cases h
        have eo : 5 - (d + 1) + 1 = 5 - d := by omega
        rw [eo]
        exact ⟨by omega, fun k hk => b1 k (by omega), fun k hk => b3 k (by omega), fun k hk => b2 k (by omega)⟩)
      exact ⟨fun k hk => a1 k (by omega), fun k hk => a2 k (by omega), fun k hk => a3 k (by omega)⟩

