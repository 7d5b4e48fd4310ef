/-! the reference goes to the next TOKEN -/
theorem rT_fs {I J : am_I} {x n : Nat} {b : Nat → Nat} {js l : List Nat} (h : am_fs 88 js l I J) (h1 : 17 ∉ js) (h2 : 18 ∉ js) (h3 : 89 ∉ l) (zT : rT I x n b) : rT J x n b := ⟨zT.1, by rw [h.2 17 h1]; exact zT.2.1, by rw [h.2 18 h2]; exact zT.2.2.1, fun j hj => by rw [h.1 89 h3 (by decide)]; exact zT.2.2.2 j hj⟩
def nxP (n : Nat) (b : Nat → Nat) (f : Nat) (I : am_I) : am_Q := fun q I' w' => q = none ∧ am_fs 88 [19, 20, 22] [] I I' ∧ I' 88 20 = nI f ∧ TR (tco n b f (eot n b f)) (I' 88 19) w' ∧ (¬ stp (tco n b f (eot n b f)) → I' 88 22 = nI (eot n b f))
theorem r_next {E : am_E} (zi : am_inj E) {k n x : Nat} (hk : 1 ≤ k) {b : Nat → Nat} (zt : wft n b) {I : am_I} (zT : rT I x n b) (w : Int64) {p : Nat} (hp : p ≤ n) (h22 : I 88 22 = nI p) : am_Ret E k Y_MO_next [.ref 88] I w (nxP n b (skb n b p) I) := by
  refine am_intro (pv_MO_next E k) (by decide) zi ?_ rfl rfl ?_
  · rintro _ _ _ ⟨rfl, -⟩; trivial
  intro S hS
  have h16 := zt.1
  obtain ⟨s1, s2, s3, s4⟩ := skb_spec zt p
  obtain ⟨f, ef⟩ : ∃ f, f = skb n b p := ⟨_, rfl⟩
  rw [← ef] at s1 s2 s3 s4
  rw [← ef] at hS
  have hfn : f ≤ n := by omega
  obtain ⟨u1, u2, u3, u4⟩ := eot_spec zt f
  have rt : ∀ {J}, am_fs 88 [19, 20, 22] [] I J → rT J x n b := fun h => rT_fs h (by decide) (by decide) (by decide) zT
  have ch : isD n b f = true → isL n b f = false := fun h => by
    have := of_decide_eq_true h
    exact decide_eq_false (fun q => by omega)
  -- letters
  have l107 : isL n b f = true → ∀ (X : Int32) J, am_fs 88 [19, 20, 22] [] I J → J 88 19 = 1 → J 88 20 = nI f → J 88 22 = nI f → S 107 [some (.ref 88), some (.int X), some (.int 0)] [] J 0 := by
    intro hl X
    have hd : isD n b f = false := by
      cases hq : isD n b f with
      | false => rfl
      | true => rw [ch hq] at hl; cases hl
    have hfl : f < n := (of_decide_eq_true hl).1
    have hin : ∀ j, inT n b f j = isL n b j := fun j => by unfold inT; rw [hl, hd, Bool.true_and, Bool.false_and, Bool.or_false]
    have hlt : ∀ j, f ≤ j → j < eot n b f → isL n b j = true := fun j h1 h2 => by
      by_cases ej : j = f
      · rw [ej]; exact hl
      · rw [← hin]; exact u2 j (by omega) h2
    have hend : isL n b (eot n b f) = false := by rw [← hin]; exact u3
    have lp := down (P := fun m => ∀ J, am_fs 88 [19, 20, 22] [] I J → J 88 19 = 1 → J 88 20 = nI f → J 88 22 = nI (f + m) → S 107 [some (.ref 88), some (.int X), some (.int (nI m))] [] J (wv b f m)) (eot n b f - f) ?z ?s
    case z =>
      intro J hJ h19 h20 h22
      have e1 : f + (eot n b f - f) = eot n b f := by omega
      rw [e1] at h22
      refine am_at hS (fun t => Nat.beq t 107) 120 107 ?_
      refine ⟨_, _, (by omega : k - 1 < k), (by rw [h22]; exact r_byteAt zi zt (rt hJ) _ (by omega)), am_elim ?_⟩
      refine ⟨_, _, (by omega : k - 1 < k), r_in zi J _ _ _ _, am_elim ?_⟩
      rw [inl_L zt, hend]
      refine ⟨fun _ => ?_, fun q => absurd rfl q⟩
      have ec : tco n b f (eot n b f) = wco b f (eot n b f) 11 := by
        unfold tco
        rw [if_neg (by omega), hl]
        rfl
      refine ⟨rfl, hJ, h20, ?_, fun _ => h22⟩
      rw [ec, h19]
      exact TR_word (fun j hj => (of_decide_eq_true (hlt (f + j) (by omega) (by omega))).2)
    case s =>
      intro m hm hn J hJ h19 h20 h22
      have hlm := hlt (f + m) (by omega) (by omega)
      have hb := of_decide_eq_true hlm
      refine am_at hS (fun t => Nat.beq t 107) 120 107 ?_
      refine ⟨_, _, (by omega : k - 1 < k), (by rw [h22]; exact r_byteAt zi zt (rt hJ) _ (by omega)), am_elim ?_⟩
      refine ⟨_, _, (by omega : k - 1 < k), r_in zi J _ _ _ _, am_elim ?_⟩
      rw [inl_L zt, hlm]
      refine ⟨fun q => absurd q (by decide), fun _ => ?_⟩
      have go : ∀ v, v = wv b f (m + 1) → S 107 [some (.ref 88), some (.int X), some (.int (nI m + 1))] [] (am_up J 88 22 (J 88 22 + 1)) v := fun v hv => by
        have := hn (am_up J 88 22 (J 88 22 + 1)) (am_fs.upo hJ (by decide)) (by rw [am_sne (by decide)]; exact h19) (by rw [am_sne (by decide)]; exact h20) (by rw [am_seq, h22, nI_1]; rfl)
        rw [← nI_1, ← hv] at this
        exact this
      refine ⟨fun h132 => ?_, fun h132 => ?_⟩
      · have h8 : m < 8 := by
          have h1 : nI m < nI 8 := h132
          rw [nlt (by omega) (by decide)] at h1
          exact h1
        refine ⟨_, _, (by omega : k - 1 < k), (by rw [h22]; exact r_byteAt zi zt (rt hJ) _ (by omega)), am_elim ?_⟩
        have ev : 27 * wv b f m + (tat n b (f + m)).toInt64 - 96 = wv b f (m + 1) := by
          unfold wv
          rw [if_pos (by omega), if_pos (by omega), tat_in hb.1, nI_l (by omega), show (27 : Int64) = lN 27 from rfl, show (96 : Int64) = lN 96 from rfl, lN_mul, lN_add, lN_sub (by omega), hw]
        exact go _ ev
      · have h8 : ¬ m < 8 := by
          intro h2
          exact h132 (show nI m < nI 8 from nI_lt h2 (by decide))
        have ev : (-1 : Int64) = wv b f (m + 1) := by
          unfold wv
          rw [if_neg (by omega)]
        exact go _ ev
    intro J hJ h19 h20 h22
    exact lp 0 (Nat.zero_le _) J hJ h19 h20 h22
  -- digits
  have l211 : isD n b f = true → ∀ (X : Int32) J, am_fs 88 [19, 20, 22] [] I J → J 88 20 = nI f → J 88 22 = nI f → S 211 [some (.ref 88), some (.int X), some (.int 0)] [] J 0 := by
    intro hd X
    have hl := ch hd
    have hfl : f < n := (of_decide_eq_true hd).1
    have hin : ∀ j, inT n b f j = isD n b j := fun j => by unfold inT; rw [hl, hd, Bool.true_and, Bool.false_and, Bool.false_or]
    have hlt : ∀ j, f ≤ j → j < eot n b f → isD n b j = true := fun j h1 h2 => by
      by_cases ej : j = f
      · rw [ej]; exact hd
      · rw [← hin]; exact u2 j (by omega) h2
    have hend : isD n b (eot n b f) = false := by rw [← hin]; exact u3
    have lp := down (P := fun m => ∀ J, am_fs 88 [19, 20, 22] [] I J → J 88 20 = nI f → J 88 22 = nI (f + m) → S 211 [some (.ref 88), some (.int X), some (.int (nI m))] [] J (lN (nmv b f (min m 4)))) (eot n b f - f) ?z2 ?s2
    case z2 =>
      intro J hJ h20 h22
      have e1 : f + (eot n b f - f) = eot n b f := by omega
      rw [e1] at h22
      have ec : tco n b f (eot n b f) = nco b f (eot n b f) := by
        unfold tco
        rw [if_neg (by omega), hl, hd]
        rfl
      refine am_at hS (fun t => Nat.beq t 211) 120 211 ?_
      refine ⟨_, _, (by omega : k - 1 < k), (by rw [h22]; exact r_byteAt zi zt (rt hJ) _ (by omega)), am_elim ?_⟩
      refine ⟨_, _, (by omega : k - 1 < k), r_in zi J _ _ _ _, am_elim ?_⟩
      rw [inl_D zt, hend]
      refine ⟨fun _ => ?_, fun q => absurd rfl q⟩
      refine ⟨fun h289 => ?_, fun h289 => ?_⟩
      · have h4 : 4 < eot n b f - f := by
          have h1 : nI 4 < nI (eot n b f - f) := h289
          rw [nlt (by decide) (by omega)] at h1
          exact h1
        refine ⟨rfl, am_fs.upo hJ (by decide), by rw [am_sne (by decide)]; exact h20, ?_, fun _ => by rw [am_sne (by decide)]; exact h22⟩
        rw [ec, am_seq]
        unfold nco
        rw [if_pos h4]
        exact TR_bad
      · have h4 : ¬ 4 < eot n b f - f := fun h2 => h289 (show nI 4 < nI (eot n b f - f) from nI_lt h2 (by omega))
        refine ⟨rfl, am_fs.upo hJ (by decide), by rw [am_sne (by decide)]; exact h20, ?_, fun _ => by rw [am_sne (by decide)]; exact h22⟩
        rw [ec, am_seq]
        unfold nco
        rw [if_neg h4, Nat.min_eq_left (by omega)]
        have hv := nmv_lt (n := n) (b := b) (f := f) (eot n b f - f) (fun j hj => hlt (f + j) (by omega) (by omega))
        exact TR_num (Nat.lt_of_lt_of_le hv (Nat.le_trans (Nat.pow_le_pow_right (by decide) (show eot n b f - f ≤ 4 by omega)) (by decide)))
    case s2 =>
      intro m hm hn J hJ h20 h22
      have hlm := hlt (f + m) (by omega) (by omega)
      have hb := of_decide_eq_true hlm
      refine am_at hS (fun t => Nat.beq t 211) 120 211 ?_
      refine ⟨_, _, (by omega : k - 1 < k), (by rw [h22]; exact r_byteAt zi zt (rt hJ) _ (by omega)), am_elim ?_⟩
      refine ⟨_, _, (by omega : k - 1 < k), r_in zi J _ _ _ _, am_elim ?_⟩
      rw [inl_D zt, hlm]
      refine ⟨fun q => absurd q (by decide), fun _ => ?_⟩
      have go : ∀ v, v = lN (nmv b f (min (m + 1) 4)) → S 211 [some (.ref 88), some (.int X), some (.int (nI m + 1))] [] (am_up J 88 22 (J 88 22 + 1)) v := fun v hv => by
        have := hn (am_up J 88 22 (J 88 22 + 1)) (am_fs.upo hJ (by decide)) (by rw [am_sne (by decide)]; exact h20) (by rw [am_seq, h22, nI_1]; rfl)
        rw [← nI_1, ← hv] at this
        exact this
      refine ⟨fun h235 => ?_, fun h235 => ?_⟩
      · have h4 : m < 4 := by
          have h1 : nI m < nI 4 := h235
          rw [nlt (by omega) (by decide)] at h1
          exact h1
        refine ⟨_, _, (by omega : k - 1 < k), (by rw [h22]; exact r_byteAt zi zt (rt hJ) _ (by omega)), am_elim ?_⟩
        have ev : 10 * lN (nmv b f (min m 4)) + (tat n b (f + m)).toInt64 - 48 = lN (nmv b f (min (m + 1) 4)) := by
          rw [Nat.min_eq_left (by omega), Nat.min_eq_left (by omega), tat_in hb.1, nI_l (by omega), show (10 : Int64) = lN 10 from rfl, show (48 : Int64) = lN 48 from rfl, lN_mul, lN_add, lN_sub (by omega), nmv]
          congr 1
          omega
        exact go _ ev
      · have h4 : ¬ m < 4 := fun h2 => h235 (show nI m < nI 4 from nI_lt h2 (by decide))
        have ev : lN (nmv b f (min m 4)) = lN (nmv b f (min (m + 1) 4)) := by
          rw [Nat.min_eq_right (by omega), Nat.min_eq_right (by omega)]
        exact go _ ev
    intro J hJ h20 h22
    exact lp 0 (Nat.zero_le _) J hJ h20 h22
  -- signs
  have l351 : f < n → isL n b f = false → isD n b f = false → sgB (b f) = true → ∀ J v, am_fs 88 [19, 20, 22] [] I J → J 88 20 = nI f → J 88 22 = nI f → S 351 [some (.ref 88), some (.int (tat n b f)), none] [] J v := by
    intro hf hl hd hs J v hJ h20 h22
    have hb := zt.2 f hf
    have ec : tco n b f (eot n b f) = -(nI (b f)) := by
      unfold tco
      rw [if_neg (by omega), hl, hd]
      show sgc (b f) = _
      unfold sgc
      rw [hs]
      rfl
    have ee : eot n b f = f + 1 := by
      unfold eot
      exact skp_f (by unfold inT; rw [hl, hd, Bool.false_and, Bool.false_and]; rfl)
    refine am_at hS (fun _ => false) 60 351 ?_
    refine ⟨rfl, am_fs.upo (am_fs.upo hJ (by decide)) (by decide), by rw [am_sne (by decide), am_sne (by decide)]; exact h20, ?_, fun _ => by rw [am_seq, am_sne (by decide), h22, nI_1, ee]⟩
    rw [ec, am_sne (by decide), am_seq, tat_in hf, nI_l (by omega)]
    exact TR_sign hs
  have lp := down (P := fun p' => p ≤ p' → ∀ J, am_fs 88 [19, 20, 22] [] I J → J 88 22 = nI p' → S 0 [some (.ref 88), none, none] [] J w) f ?z3 ?s3
  case z3 =>
    intro _ J hJ h22
    have nb : ¬ (tat n b f = nI 32) ∧ ¬ (tat n b f = nI 10) := by
      have h := of_decide_eq_false s3
      refine ⟨fun q => ?_, fun q => ?_⟩
      · rw [tat_eq zt (by decide)] at q; exact h ⟨q.1, Or.inl q.2⟩
      · rw [tat_eq zt (by decide)] at q; exact h ⟨q.1, Or.inr q.2⟩
    refine am_at hS (fun t => Nat.beq t 107 || Nat.beq t 211 || Nat.beq t 351) 200 0 ?_
    refine ⟨_, _, (by omega : k - 1 < k), (by rw [h22]; exact r_byteAt zi zt (rt hJ) _ (by omega)), am_elim ?_⟩
    refine ⟨fun q => absurd q nb.1, fun _ => ?_⟩
    refine ⟨_, _, (by omega : k - 1 < k), (by rw [h22]; exact r_byteAt zi zt (rt hJ) _ (by omega)), am_elim ?_⟩
    refine ⟨fun q => absurd q nb.2, fun _ => ?_⟩
    have hJ1 : am_fs 88 [19, 20, 22] [] I (am_up J 88 20 (J 88 22)) := am_fs.upo hJ (by decide)
    have hJ2 : ∀ v, am_fs 88 [19, 20, 22] [] I (am_up (am_up J 88 20 (J 88 22)) 88 19 v) := fun v => am_fs.upo hJ1 (by decide)
    have hJ3 : ∀ v u, am_fs 88 [19, 20, 22] [] I (am_up (am_up (am_up J 88 20 (J 88 22)) 88 19 v) 88 19 u) := fun v u => am_fs.upo (hJ2 v) (by decide)
    have e20 : am_up J 88 20 (J 88 22) 88 20 = nI f := by rw [am_seq]; exact h22
    have e22 : am_up J 88 20 (J 88 22) 88 22 = nI f := by rw [am_sne (by decide)]; exact h22
    refine ⟨_, _, (by omega : k - 1 < k), (by rw [e22]; exact r_byteAt zi zt (rt hJ1) _ (by omega)), am_elim ?_⟩
    refine ⟨fun h62 => ?_, fun h62 => ?_⟩
    · have h1 : tat n b f < nI 0 := h62
      rw [tat_lt zt (by decide)] at h1
      have hfe : f = n := by
        apply Classical.byContradiction
        intro q
        exact h1 ⟨by omega, Nat.zero_le _⟩
      have ec : tco n b f (eot n b f) = -1 := by
        unfold tco
        rw [if_pos (by omega)]
      refine ⟨rfl, am_fs.upo (hJ3 _ _) (by decide), ?_, ?_, fun q => absurd (Or.inl ec) q⟩
      · rw [am_seq, am_sne (by decide), am_sne (by decide), am_sne (by decide), hJ.2 18 (by decide), hfe]
        exact zT.2.2.1
      · rw [ec, am_sne (by decide), am_seq]
        exact TR_end
    have hf : f < n := by
      have h1 : ¬ tat n b f < nI 0 := h62
      rw [tat_lt zt (by decide), Classical.not_not] at h1
      exact h1.1
    refine ⟨_, _, (by omega : k - 1 < k), r_in zi _ _ _ _ _, am_elim ?_⟩
    rw [inl_L zt]
    refine ⟨fun h92 => ?_, fun h92 => ?_⟩
    · rw [bi_eq0] at h92
      refine ⟨_, _, (by omega : k - 1 < k), r_in zi _ _ _ _ _, am_elim ?_⟩
      rw [inl_D zt]
      refine ⟨fun h196 => ?_, fun h196 => ?_⟩
      · rw [bi_eq0] at h196
        have sg : ∀ s, s < 2 ^ 31 → sgB s = true → tat n b f = nI s → S 351 [some (.ref 88), some (.int (tat n b f)), none] [] (am_up (am_up J 88 20 (J 88 22)) 88 19 4) w := fun s h0 h1 h2 => by
          rw [tat_eq zt h0] at h2
          exact l351 hf h92 h196 (by rw [h2.2]; exact h1) _ _ (hJ2 _) (by rw [am_sne (by decide)]; exact e20) (by rw [am_sne (by decide)]; exact e22)
        refine ⟨fun h => sg 40 (by decide) (by decide) h, fun n40 => ?_⟩
        refine ⟨fun h => sg 41 (by decide) (by decide) h, fun n41 => ?_⟩
        refine ⟨fun h => sg 59 (by decide) (by decide) h, fun n59 => ?_⟩
        refine ⟨fun h => sg 43 (by decide) (by decide) h, fun n43 => ?_⟩
        refine ⟨fun h => sg 45 (by decide) (by decide) h, fun n45 => ?_⟩
        refine ⟨fun h => sg 42 (by decide) (by decide) h, fun n42 => ?_⟩
        refine ⟨fun h => sg 60 (by decide) (by decide) h, fun n60 => ?_⟩
        refine ⟨fun h => sg 61 (by decide) (by decide) h, fun n61 => ?_⟩
        have hz : sgB (b f) = false := by
          have z : ∀ c : Nat, c < 2 ^ 31 → ¬ tat n b f = nI c → ¬ b f = c := fun c hc q e => q ((tat_eq zt hc).mpr ⟨hf, e⟩)
          unfold sgB
          rw [beq_eq_false_iff_ne.mpr (z 40 (by decide) n40), beq_eq_false_iff_ne.mpr (z 41 (by decide) n41), beq_eq_false_iff_ne.mpr (z 42 (by decide) n42), beq_eq_false_iff_ne.mpr (z 43 (by decide) n43), beq_eq_false_iff_ne.mpr (z 45 (by decide) n45), beq_eq_false_iff_ne.mpr (z 59 (by decide) n59), beq_eq_false_iff_ne.mpr (z 60 (by decide) n60), beq_eq_false_iff_ne.mpr (z 61 (by decide) n61)]
          rfl
        have ec : tco n b f (eot n b f) = -2 := by
          unfold tco
          rw [if_neg (by omega), h92, h196]
          show sgc (b f) = _
          unfold sgc
          rw [hz]
          rfl
        refine ⟨rfl, hJ2 _, by rw [am_sne (by decide)]; exact e20, ?_, fun q => absurd (Or.inr ec) q⟩
        rw [ec, am_seq]
        exact TR_bad
      · rw [bi_eq0, Bool.not_eq_false] at h196
        exact l211 h196 _ _ (hJ3 _ _) (by rw [am_sne (by decide), am_sne (by decide)]; exact e20) (by rw [am_sne (by decide), am_sne (by decide)]; exact e22)
    · rw [bi_eq0, Bool.not_eq_false] at h92
      exact l107 h92 _ _ (hJ3 _ _) am_seq (by rw [am_sne (by decide), am_sne (by decide)]; exact e20) (by rw [am_sne (by decide), am_sne (by decide)]; exact e22)
  case s3 =>
    intro q hq hn hpq J hJ h22
    have hb := of_decide_eq_true (s2 q hpq hq)
    have go : S 0 [some (.ref 88), none, none] [] (am_up J 88 22 (J 88 22 + 1)) w := hn (by omega) _ (am_fs.upo hJ (by decide)) (by rw [am_seq, h22, nI_1])
    refine am_at hS (fun t => Nat.beq t 0 || Nat.beq t 39) 80 0 ?_
    refine ⟨_, _, (by omega : k - 1 < k), (by rw [h22]; exact r_byteAt zi zt (rt hJ) _ (by omega)), am_elim ?_⟩
    refine ⟨fun _ => go, fun h10 => ?_⟩
    refine ⟨_, _, (by omega : k - 1 < k), (by rw [h22]; exact r_byteAt zi zt (rt hJ) _ (by omega)), am_elim ?_⟩
    refine ⟨fun _ => go, fun h23 => ?_⟩
    have a1 : ¬ tat n b q = nI 32 := h10
    have a2 : ¬ tat n b q = nI 10 := h23
    rw [tat_eq zt (by decide)] at a1 a2
    omega
  exact lp p s1 (Nat.le_refl _) I am_fs.refl h22
