/-! .. the reference's -/
theorem inl_14 (t : Int32) : inl t.toInt64 1 4 = iMn t := by
  rw [inl_r]
  unfold iMn
  rw [show (1 : Int64).toInt = 1 from rfl, show (4 : Int64).toInt = 4 from rfl]
theorem m_puts {E : am_E} (zi : am_inj E) {σ : St} (zw : wf σ) {C : Nat → Nat} {L : Nat → Bool} (hC : ∀ f, C f ≤ 9999) {K : Nat} (hK : K ≤ 4) (w : Int64) : ∀ (d k p u s : Nat) (cam : Nat → Nat) (l : Option Nat) (I : am_I), d + 2 ≤ k → p + d = sN σ → u ≤ 4 → s ≤ 359964 * p → (∀ y, l = some y → y ≤ 3239676) → RS I σ → WX 108 109 I C L (sM σ) → I 88 42 = enc l → (∀ j, j < p → I 103 j = nI (cam j) ∧ cam j < 4) →
    am_Ret E k Y_MO_puts [.ref 88, .int (nI p), .int (nI K), .int (nI u), .int (nI s)] I w (fun q I' w' => q = none ∧ w' = w ∧ I' 88 42 = enc (mnS (mnO C L σ) K d p u s cam l) ∧ (∀ y, mnS (mnO C L σ) K d p u s cam l = some y → y ≤ 3239676) ∧ (∀ j, j < p → I' 103 j = I 103 j) ∧ am_fs 88 [42] [103] I I') := by
  intro d
  induction d with
  | zero =>
    intro k p u s cam l I hk hp hu hs hl zR hW h8 hc
    have h9 := zw.1
    have p1 : I 88 9 = nI (sN σ) := zR.1.1
    refine am_intro (pv_MO_puts E k) (by decide) zi ?_ rfl rfl ?_
    · rintro _ _ _ ⟨rfl, -⟩; trivial
    intro S hS
    unfold mnS at hS
    have a18 : mnG l s = false → S 18 [some (.ref 88), some (.int (nI p)), some (.int (nI K)), some (.int (nI u)), some (.int (nI s)), none, none, none, none] [] I w := by
      intro hg
      rw [hg, cond_false] at hS
      refine am_at hS (fun _ => false) 90 18 ?_
      refine ⟨fun _ => ?_, fun q => absurd (show nI p = I 88 9 by rw [p1, show p = sN σ by omega]) q⟩
      exact ⟨rfl, rfl, am_seq, fun y hy => (by cases hy; omega), fun j hj => (by rw [am_up_ne (by decide)]), am_fs.upo am_fs.refl (by decide)⟩
    refine am_at hS (fun t => Nat.beq t 18) 90 0 ?_
    cases l with
    | none => exact ⟨fun _ => a18 rfl, fun q => absurd h8 q⟩
    | some y =>
      have hy := hl y rfl
      have h8' : I 88 42 = nI y := h8
      refine ⟨fun q => absurd (h8'.symm.trans q) (nI_ne1 (by omega)), fun _ => ?_⟩
      refine ⟨fun h => ?_, fun h => ?_⟩
      · rw [h8', nlt (by omega) (by omega)] at h
        exact a18 (decide_eq_false (by omega))
      · rw [h8', nlt (by omega) (by omega)] at h
        rw [show mnG (some y) s = true from decide_eq_true (by omega), cond_true]
        exact ⟨rfl, rfl, h8, hl, fun _ _ => rfl, am_fs.refl⟩
  | succ d ih =>
    intro k p u s cam l I hk hp hu hs hl zR hW h8 hc
    have h9 := zw.1
    have h36 := sM_le zw
    have p1 : I 88 9 = nI (sN σ) := zR.1.1
    refine am_intro (pv_MO_puts E k) (by decide) zi ?_ rfl rfl ?_
    · rintro _ _ _ ⟨rfl, -⟩; trivial
    intro S hS
    rw [mnS_s] at hS
    have a18 : mnG l s = false → S 18 [some (.ref 88), some (.int (nI p)), some (.int (nI K)), some (.int (nI u)), some (.int (nI s)), none, none, none, none] [] I w := by
      intro hg
      rw [hg, cond_false] at hS
      have loop := down (P := fun c => ∀ J x6 x7 x8, am_fs 88 [42] [103] I J → J 88 42 = enc (mnI (mnL (mnO C L σ) K d p u s cam) c l) → (∀ y, mnI (mnL (mnO C L σ) K d p u s cam) c l = some y → y ≤ 3239676) → (∀ j, j < p → J 103 j = I 103 j) → S 36 [some (.ref 88), some (.int (nI p)), some (.int (nI K)), some (.int (nI u)), some (.int (nI s)), some (.int (nI c)), x6, x7, x8] [] J w) (min K (u + 1)) ?z ?s
      case z =>
        intro J x6 x7 x8 fJ h8J hb hcJ
        refine am_at hS (fun t => Nat.beq t 36) 90 36 ?_
        have ret : am_po (fun q I' w' => q = none ∧ w' = w ∧ I' 88 42 = enc (mnI (mnL (mnO C L σ) K d p u s cam) (min K (u + 1)) l) ∧ (∀ y, mnI (mnL (mnO C L σ) K d p u s cam) (min K (u + 1)) l = some y → y ≤ 3239676) ∧ (∀ j, j < p → I' 103 j = I 103 j) ∧ am_fs 88 [42] [103] I I') [] [] J w := ⟨rfl, rfl, h8J, hb, hcJ, fJ⟩
        refine ⟨fun _ => ret, fun h => ?_⟩
        rw [nlt (by omega) (by omega)] at h
        refine ⟨fun q => absurd q (nI_nlt (by omega) (by omega)), fun _ => ret⟩
      case s =>
        intro c hc4 hn J x6 x7 x8 fJ h8J hb hcJ
        have zJ : RS J σ := RS_fs fJ (fun q h1 h2 hz => by simp only [List.mem_cons, List.not_mem_nil, or_false] at hz; omega) (by decide) (by decide) zR
        have hWJ : WX 108 109 J C L (sM σ) := fun f hf => by rw [fJ.1 108 (by decide) (by decide), fJ.1 109 (by decide) (by decide)]; exact hW f hf
        obtain ⟨F, eF⟩ : ∃ F, F = am_up J 103 p (nI c) := ⟨_, rfl⟩
        obtain ⟨m, em⟩ : ∃ m, m = fup cam p c := ⟨_, rfl⟩
        have up1 : ∀ j, j < p + 1 → F 103 j = nI (m j) ∧ m j < 4 := fun j hj => by
          rw [eF, em]
          by_cases e : j = p
          · rw [e, am_seq, fup_self]; exact ⟨rfl, by omega⟩
          · rw [am_sne e, fup_ne e, hcJ j (by omega)]; exact hc j (by omega)
        have mp : m p = c := by rw [em, fup_self]
        have fF : am_fs 88 [42] [103] I F := by rw [eF]; exact am_fs.up fJ (by decide) (by decide)
        have zF : RS F σ := RS_fs fF (fun q h1 h2 hz => by simp only [List.mem_cons, List.not_mem_nil, or_false] at hz; omega) (by decide) (by decide) zR
        have hWF : WX 108 109 F C L (sM σ) := fun f hf => by rw [fF.1 108 (by decide) (by decide), fF.1 109 (by decide) (by decide)]; exact hW f hf
        have h8F : F 88 42 = enc (mnI (mnL (mnO C L σ) K d p u s cam) c l) := by rw [eF, am_up_ne (by decide)]; exact h8J
        have hcF : ∀ j, j < p → F 103 j = I 103 j := fun j hj => by rw [eF, am_sne (by omega)]; exact hcJ j hj
        have inner := down (P := fun f => S 65 [some (.ref 88), some (.int (nI p)), some (.int (nI K)), some (.int (nI u)), some (.int (nI s)), some (.int (nI c)), some (.int (nI (sm (mnF C σ m p) f))), some (.int (bi (decide (sm (mnF (mnB L) σ m p) f = 0)))), some (.int (nI f))] [] F w) (sM σ) ?z2 ?s2
        case z2 =>
          refine am_at hS (fun t => Nat.beq t 36 || Nat.beq t 191) 90 65 ?_
          refine ⟨fun q => absurd q (by rw [zF.2.1]; exact nI_nlt (by omega) (by omega)), fun _ => ?_⟩
          have dO : mnO C L σ (fup cam p c) p = if sm (mnF (mnB L) σ m p) (sM σ) = 0 then some (sm (mnF C σ m p) (sM σ)) else none := by rw [← em]; rfl
          refine ⟨fun h => ?_, fun h => ?_⟩
          · rw [bi_eq0, decide_eq_false_iff_not] at h
            rw [if_neg h] at dO
            have e := mnL_no (K := K) (d := d) (u := u) (s := s) (l := mnI (mnL (mnO C L σ) K d p u s cam) c l) dO
            have hq := hn F (some (.int (nI (sm (mnF C σ m p) (sM σ))))) (some (.int (bi (decide (sm (mnF (mnB L) σ m p) (sM σ) = 0))))) (some (.int (nI (sM σ)))) fF (by rw [mnI, e]; exact h8F) (by rw [mnI, e]; exact hb) hcF
            rw [← nI_1] at hq
            exact hq
          · rw [bi_eq0, Bool.not_eq_false, decide_eq_true_eq] at h
            rw [if_pos h] at dO
            have hx := mnO_le zw hC dO
            have e := mnL_so (K := K) (d := d) (u := u) (s := s) (l := mnI (mnL (mnO C L σ) K d p u s cam) c l) dO
            have a191 : ∀ v, v = nI (max u (c + 1)) → S 191 [some (.ref 88), some (.int (nI p)), some (.int (nI K)), some (.int (nI u)), some (.int (nI s)), some (.int (nI c)), some (.int (nI (sm (mnF C σ m p) (sM σ)))), some (.int (bi (decide (sm (mnF (mnB L) σ m p) (sM σ) = 0)))), some (.int (nI (sM σ)))] [.int v, .int (nI K), .int (nI p + 1), .ref 88] F w := by
              intro v hv
              refine am_at hS (fun t => Nat.beq t 36) 90 191 ?_
              have hr := ih (k - 1) (p + 1) (max u (c + 1)) (s + sm (mnF C σ m p) (sM σ)) (fup cam p c) (mnI (mnL (mnO C L σ) K d p u s cam) c l) F (by omega) (by omega) (by omega) (by omega) hb zF hWF h8F (by rw [← em]; exact up1)
              rw [← e] at hr
              refine ⟨_, _, (by omega : k - 1 < k), (by rw [nI_1, hv, nI_add]; exact hr), ?_⟩
              rintro _ F2 w1 ⟨rfl, rfl, h8G, hbG, hcG, fG⟩
              have hq := hn F2 (some (.int (nI (sm (mnF C σ m p) (sM σ))))) (some (.int (bi (decide (sm (mnF (mnB L) σ m p) (sM σ) = 0))))) (some (.int (nI (sM σ)))) (fF.trans fG) h8G hbG (fun j hj => by rw [hcG j (by omega)]; exact hcF j hj)
              rw [← nI_1] at hq
              exact hq
            refine ⟨fun h181 => ?_, fun h181 => ?_⟩
            · rw [neq (by omega) (by omega)] at h181
              exact a191 _ (by rw [nI_1, show max u (c + 1) = u + 1 by omega])
            · rw [neq (by omega) (by omega)] at h181
              exact a191 _ (by rw [show max u (c + 1) = u by omega])
        case s2 =>
          intro f hf hn2
          have bd : vp_in (nI f) 36 := vp_in_nI (by omega) (by omega)
          have cl : (nI f).toNatClampNeg = f := nI_clamp (by omega)
          obtain ⟨e94, e95, e96, -⟩ := zF.2.2 f hf
          have h3 := zw.2.1.1 f hf
          have next : mnF C σ m p f = 0 → mnF (mnB L) σ m p f = 0 → S 65 [some (.ref 88), some (.int (nI p)), some (.int (nI K)), some (.int (nI u)), some (.int (nI s)), some (.int (nI c)), some (.int (nI (sm (mnF C σ m p) f))), some (.int (bi (decide (sm (mnF (mnB L) σ m p) f = 0)))), some (.int (nI f + 1))] [] F w := fun e1 e2 => by
            have hq := hn2
            rw [sm, sm, e1, e2, Nat.add_zero, Nat.add_zero, ← nI_1] at hq
            exact hq
          refine am_at hS (fun t => Nat.beq t 65 || Nat.beq t 107) 90 65 ?_
          refine ⟨fun _ => ?_, fun q => absurd (show nI f < F 88 16 by rw [zF.2.1]; exact nI_lt (by omega) (by omega)) q⟩
          refine ⟨bd, ?_⟩
          rw [cl, e95]
          refine ⟨fun h => ?_, fun h => ?_⟩
          · rw [neq (by omega) (by omega)] at h
            have eW : ∀ W, mnF W σ m p f = cond (wrt σ f (decide (m (sL σ f) = c))) (W f) 0 := fun W => by
              unfold mnF
              rw [decide_eq_true h, Bool.true_and, mp]
            have eC := eW C
            have eB := eW (mnB L)
            refine ⟨bd, ?_⟩
            rw [cl, e94]
            have uL := up1 (sL σ f) (by omega)
            refine ⟨vp_in_nI (by omega) (by omega), ?_⟩
            rw [nI_clamp (by omega), uL.1]
            have a128 : wrt σ f (decide (m (sL σ f) = c)) = true → S 128 [some (.ref 88), some (.int (nI p)), some (.int (nI K)), some (.int (nI u)), some (.int (nI s)), some (.int (nI c)), some (.int (nI (sm (mnF C σ m p) f))), some (.int (bi (decide (sm (mnF (mnB L) σ m p) f = 0)))), some (.int (nI f))] [] F w := by
              intro hw
              rw [hw, cond_true] at eC eB
              refine am_at hS (fun t => Nat.beq t 65) 90 128 ?_
              refine ⟨bd, ?_⟩
              rw [cl, (hWF f hf).1]
              have fin : ∀ b : Bool, b = decide (sm (mnF (mnB L) σ m p) (f + 1) = 0) → S 65 [some (.ref 88), some (.int (nI p)), some (.int (nI K)), some (.int (nI u)), some (.int (nI s)), some (.int (nI c)), some (.int (nI (sm (mnF C σ m p) f) + nI (C f))), some (.int (bi b)), some (.int (nI f + 1))] [] F w := fun b hb2 => by
                have hq := hn2
                rw [← hb2, sm, eC, ← nI_add, ← nI_1] at hq
                exact hq
              refine ⟨fun h140 => ?_, fun h140 => ?_⟩
              · rw [bi_eq0, decide_eq_false_iff_not] at h140
                exact fin false (decide_eq_false (by rw [sm]; omega)).symm
              · rw [bi_eq0, Bool.not_eq_false, decide_eq_true_eq] at h140
                refine ⟨bd, ?_⟩
                rw [cl, (hWF f hf).2]
                cases hL : L f with
                | false =>
                  refine ⟨fun _ => ?_, fun q => absurd rfl q⟩
                  exact fin false (decide_eq_false (by rw [sm, eB]; unfold mnB; rw [hL]; simp)).symm
                | true =>
                  refine ⟨fun q => absurd (show (1 : Int32) = 0 from q) (by decide), fun _ => ?_⟩
                  exact fin true (decide_eq_true (by rw [sm, eB, h140]; unfold mnB; rw [hL]; rfl)).symm
            have a107 : ∀ t, t = decide (m (sL σ f) = c) → S 107 [some (.ref 88), some (.int (nI p)), some (.int (nI K)), some (.int (nI u)), some (.int (nI s)), some (.int (nI c)), some (.int (nI (sm (mnF C σ m p) f))), some (.int (bi (decide (sm (mnF (mnB L) σ m p) f = 0)))), some (.int (nI f))] [.int (bi t)] F w := by
              intro t ht
              rw [← ht] at eC eB a128
              refine am_at hS (fun t => Nat.beq t 65 || Nat.beq t 128) 90 107 ?_
              refine ⟨bd, ?_⟩
              rw [cl, e96]
              unfold wrt at eC eB a128
              refine ⟨fun h0 => ?_, fun h0 => ?_⟩
              · rw [decide_eq_true (show 0 < sS σ f from h0)] at eC eB a128
                cases t with
                | true => exact ⟨fun _ => next eC eB, fun q => absurd rfl q⟩
                | false => exact ⟨fun q => absurd (show (0 : Int32) = 1 from q) (by decide), fun _ => a128 rfl⟩
              · rw [decide_eq_false (show ¬ 0 < sS σ f from h0)] at eC eB a128
                cases t with
                | true => exact ⟨fun q => absurd (show (1 : Int32) = 0 from q) (by decide), fun _ => a128 rfl⟩
                | false => exact ⟨fun _ => next eC eB, fun q => absurd rfl q⟩
            refine ⟨fun h2 => ?_, fun h2 => ?_⟩
            · rw [neq (by omega) (by omega)] at h2
              exact a107 true (decide_eq_true h2).symm
            · rw [neq (by omega) (by omega)] at h2
              exact a107 false (decide_eq_false h2).symm
          · rw [neq (by omega) (by omega)] at h
            exact next (mnF_ne h) (mnF_ne h)
        refine am_at hS (fun t => Nat.beq t 36 || Nat.beq t 65) 90 36 ?_
        refine ⟨fun q => absurd q (nI_nlt (by omega) (by omega)), fun _ => ?_⟩
        refine ⟨fun _ => ?_, fun q => absurd (nI_lt (by omega) (by omega)) q⟩
        refine ⟨vp_in_nI (by omega) (by omega), ?_⟩
        rw [nI_clamp (by omega), ← eF]
        exact inner 0 (Nat.zero_le _)
      refine am_at hS (fun t => Nat.beq t 36) 90 18 ?_
      refine ⟨fun q => absurd q (by rw [p1, neq (by omega) (by omega)]; omega), fun _ => ?_⟩
      exact loop 0 (Nat.zero_le _) I none none none am_fs.refl h8 hl (fun _ _ => rfl)
    refine am_at hS (fun t => Nat.beq t 18) 90 0 ?_
    cases l with
    | none => exact ⟨fun _ => a18 rfl, fun q => absurd h8 q⟩
    | some y =>
      have hy := hl y rfl
      have h8' : I 88 42 = nI y := h8
      refine ⟨fun q => absurd (h8'.symm.trans q) (nI_ne1 (by omega)), fun _ => ?_⟩
      refine ⟨fun h => ?_, fun h => ?_⟩
      · rw [h8', nlt (by omega) (by omega)] at h
        exact a18 (decide_eq_false (by omega))
      · rw [h8', nlt (by omega) (by omega)] at h
        rw [show mnG (some y) s = true from decide_eq_true (by omega), cond_true]
        exact ⟨rfl, rfl, h8, hl, fun _ _ => rfl, am_fs.refl⟩
theorem m_many {E : am_E} (zi : am_inj E) {k : Nat} (hk : 45 ≤ k) {σ : St} (zw : wf σ) {I : am_I} (zR : RS I σ) (w : Int64) {T r : Nat} {V : Tx} (zL : RL I T r V) (x : Int32) :
    am_Ret E k Y_MO_many [.ref 88, .int x] I w (fun q I' w' => q = some (.int (aMny V r σ x)) ∧ am_fs 88 (42 :: rdFs) [103, 108, 109] I I') := by
  refine am_intro (pv_MO_many E k) (by decide) zi ?_ rfl rfl ?_
  · rintro _ _ _ ⟨rfl, -⟩; rfl
  intro S hS
  have h9 := zw.1
  unfold aMny at hS
  refine am_at hS (fun _ => false) 90 0 ?_
  refine ⟨_, _, (by omega : k - 1 < k), r_in zi I w _ _ _, am_elim ?_⟩
  rw [inl_14]
  refine ⟨fun h => ?_, fun h => ?_⟩
  · rw [bi_eq0] at h
    rw [h]
    exact ⟨rfl, am_fs.refl⟩
  rw [bi_eq0, Bool.not_eq_false] at h
  obtain ⟨K, hK, e1, e2⟩ := iMn_of h
  rw [h, cond_true, e2] at hS
  rw [h, cond_true, e2]
  refine ⟨_, _, (by omega : k - 1 < k), m_weighs zi (by omega) zw zR w zL, ?_⟩
  rintro _ J w1 ⟨rfl, hW, fJ⟩
  have f1 : am_fs 88 (42 :: rdFs) [103, 108, 109] I (am_up J 88 42 (-1)) := am_fs.upo (fJ.mono (fun _ h => List.mem_cons_of_mem _ h) (by decide)) (by decide)
  have zF : RS (am_up J 88 42 (-1)) σ := RS_fs f1 (fun q h1 h2 hz => by simp only [List.mem_cons, List.not_mem_nil, or_false] at hz; omega) (by decide) (by decide) zR
  have hr := m_puts zi zw (C := co V r σ) (L := mw V r σ) (fun f => cst_le _) hK w1 (sN σ) (k - 1) 0 0 0 (fun _ => 0) none (am_up J 88 42 (-1)) (by omega) (by omega) (by omega) (by omega) (fun y hy => by cases hy) zF (fun f hf => by rw [am_up_ne (by decide), am_up_ne (by decide)]; exact hW f hf) am_seq (fun j hj => absurd hj (by omega))
  refine ⟨_, _, (by omega : k - 1 < k), (by rw [e1]; exact hr), ?_⟩
  rintro _ F w2 ⟨rfl, rfl, h8F, -, -, fF⟩
  exact ⟨by rw [h8F], f1.trans (fF.mono (by decide) (by decide))⟩
