/-! CAMPINGS: camping: the reference's -/
theorem zR_add {I J : am_I} {z : Cz} (hz : wfz z) (hZ : zR_ I z) {kd n : Nat} {cv : Nat → Nat} (j32 : J 88 32 = nI (zN z + 1)) (j100 : J 100 (zN z) = nI kd) (j101 : J 101 (zN z) = nI n) (j102 : ∀ p, p < n → J 102 (9 * zN z + p) = nI (cv p)) (k100 : ∀ c, c < zN z → J 100 c = I 100 c ∧ J 101 c = I 101 c) (k102 : ∀ q, q < 9 * zN z → J 102 q = I 102 q) : zR_ J (zAdd z kd n cv) := by
  refine ⟨j32, fun c hc => ?_⟩
  have hc : c < zN z + 1 := hc
  show J 100 c = nI (fup (zK z) (zN z) kd c) ∧ J 101 c = nI (fup (zS z) (zN z) n c) ∧ ∀ p, p < fup (zS z) (zN z) n c → J 102 (9 * c + p) = nI (fup (zV z) (zN z) cv c p)
  by_cases e : c = zN z
  · rw [e, fup_self, fup_self, fup_self]
    exact ⟨j100, j101, j102⟩
  · rw [fup_ne e, fup_ne e, fup_ne e]
    obtain ⟨g1, g2, g3⟩ := hZ.2 c (by omega)
    obtain ⟨k1, k2⟩ := k100 c (by omega)
    have hS := (hz.2 c (by omega)).2.1
    exact ⟨k1.trans g1, k2.trans g2, fun p hp => (k102 _ (by omega)).trans (g3 p hp)⟩
theorem m_camping {E : am_E} (zi : am_inj E) {k : Nat} (hk : 2 ≤ k) {σ : St} (zw : wf σ) {I : am_I} (zR : RS I σ) (w : Int64) {z : Cz} (hz : wfz z) (hZ : zR_ I z) {h : Hz} (hw : wfh h) (hI : hR I h) (x y : Int32) :
    am_Ret E k Y_MO_camping [.ref 88, .int x, .int y] I w (fun q I' w' => q = some (.int (aCpg σ z h x y)) ∧ w' = w ∧ zR_ I' (sCpg σ z h x y) ∧ am_fs 88 [32] [100, 101, 102] I I') := by
  refine am_intro (pv_MO_camping E k) (by decide) zi ?_ rfl rfl ?_
  · rintro _ _ _ ⟨rfl, -⟩; rfl
  intro S hS
  have h9 := zw.1
  have hz1 := hz.1
  have p1 := zR.1.1
  have bad : ∀ v, v < 0 → aCpg σ z h x y = v → am_po (fun q I' w' => q = some (.int (aCpg σ z h x y)) ∧ w' = w ∧ zR_ I' (sCpg σ z h x y) ∧ am_fs 88 [32] [100, 101, 102] I I') [] [.int v] I w := fun v hv e => by
    have e3 : sCpg σ z h x y = z := if_pos (by rw [e]; exact hv)
    exact ⟨congrArg (fun y => some (Value.int y)) e.symm, rfl, by rw [e3]; exact hZ, am_fs.refl⟩
  refine am_at hS (fun t => Nat.beq t 52) 60 0 ?_
  refine ⟨_, _, (by omega : k - 1 < k), r_in zi I w _ _ _, am_elim ?_⟩
  rw [inl_05]
  refine ⟨fun g => ?_, fun g => ?_⟩
  · rw [bi_eq0] at g
    exact bad (-2) (by decide) (by unfold aCpg; rw [g]; rfl)
  rw [bi_eq0, Bool.not_eq_false] at g
  refine ⟨_, _, (by omega : k - 1 < k), m_isSheet zi (by omega) I w y, am_elim ?_⟩
  refine ⟨fun g2 => ?_, fun g2 => ?_⟩
  · rw [bi_eq0] at g2
    exact bad (-2) (by decide) (by unfold aCpg; rw [g2, Bool.and_false]; rfl)
  rw [bi_eq0, Bool.not_eq_false] at g2
  obtain ⟨kd, hkd, rfl⟩ := inb_of g (by decide)
  obtain ⟨s, hs, rfl⟩ := inb_of g2 (by decide)
  have cs : (nI s).toNatClampNeg = s := nI_clamp (by omega)
  have ck : (nI kd).toNatClampNeg = kd := nI_clamp (by omega)
  have bds : vp_in (nI s) 4 := vp_in_nI (by omega) (by omega)
  have ea : aCpg σ z h (nI kd) (nI s) = aCm1 σ z h s (h.1 s) := by unfold aCpg; rw [g, g2, cs]; rfl
  refine ⟨bds, ?_⟩
  rw [cs]
  cases ho : h.1 s with
  | none =>
    have e := (hI s hs).1 ho
    rw [ho] at ea
    exact ⟨fun _ => bad (-11) (by decide) ea, fun q => absurd e q⟩
  | some o =>
    obtain ⟨t, n⟩ := o
    obtain ⟨e0, e1, e2, e3⟩ := (hI s hs).2 t n ho
    obtain ⟨ht, hn⟩ := hw s hs t n ho
    rw [ho] at ea
    have ea : aCpg σ z h (nI kd) (nI s) = cond (decide (n = sN σ) && tlc h s n) (cond (decide (zN z < 10)) (nI (zN z)) (-4)) (-2) := ea
    refine ⟨fun q => absurd (e0.symm.trans q) (by decide), fun _ => ?_⟩
    refine ⟨bds, ?_⟩
    rw [cs, e2]
    refine ⟨fun q => ?_, fun q => ?_⟩
    · rw [p1, neq (by omega) (by omega)] at q
      have hnN : n ≤ 9 := by omega
      have bdi : ∀ p, p < n → vp_in (40 * nI s + nI p) 160 := fun p hp => by rw [i40]; exact vp_in_nI (by omega) (by omega)
      have cli : ∀ p, p < n → (40 * nI s + nI p).toNatClampNeg = 40 * s + p := fun p hp => by rw [i40]; exact nI_clamp (by omega)
      have l52 := down (P := fun p => ∀ X4, tlc h s p = true → S 52 [some (.ref 88), some (.int (nI kd)), some (.int (nI s)), some (.int (nI p)), X4] [] I w) n ?z ?s
      case z =>
        intro X4 ha
        refine am_at hS (fun t => Nat.beq t 52 || Nat.beq t 139) 60 52 ?_
        refine ⟨fun q2 => absurd q2 (by rw [p1, ← q]; exact nI_nlt (Nat.le_refl _) (by omega)), fun _ => ?_⟩
        refine ⟨fun q4 => ?_, fun q4 => ?_⟩
        · have q4 : zN z = 10 := (neq (b := 10) (by omega) (by omega)).mp (hZ.1.symm.trans q4)
          exact bad (-4) (by decide) (by rw [ea, decide_eq_true q, ha, decide_eq_false (by omega)]; rfl)
        have q4 : ¬ zN z = 10 := fun z1 => q4 (hZ.1.trans ((neq (b := 10) (by omega) (by omega)).mpr z1))
        have q1 : zN z < 10 := by omega
        have ev : aCpg σ z h (nI kd) (nI s) = nI (zN z) := by rw [ea, decide_eq_true q, ha, decide_eq_true q1]; rfl
        have es : sCpg σ z h (nI kd) (nI s) = zAdd z kd n (cvO h s n) := by
          unfold sCpg
          rw [ev, if_neg (show ¬ nI (zN z) < (0 : Int32) from nI_nlt (Nat.zero_le _) (by omega)), ck, cs, q]
        obtain ⟨F, eF⟩ : ∃ F, F = am_up (am_up I 100 (zN z) (nI kd)) 101 (zN z) (nI (sN σ)) := ⟨_, rfl⟩
        have fF : am_fs 88 [32] [100, 101, 102] I F := by rw [eF]; exact am_fs.up (am_fs.up am_fs.refl (by decide) (by decide)) (by decide) (by decide)
        have l139 := down (P := fun p => ∀ J X4, am_fr [102] F J → (∀ i, i < p → J 102 (9 * zN z + i) = nI (cvO h s n i)) → (∀ i, i < 9 * zN z → J 102 i = F 102 i) → S 139 [some (.ref 88), some (.int (nI kd)), some (.int (nI s)), some (.int (nI p)), X4] [] J w) n ?z2 ?s2
        case z2 =>
          intro J X4 fJ j1 j2
          have j88 := fJ 88 (by decide)
          have j100 := fJ 100 (by decide)
          have j101 := fJ 101 (by decide)
          have e32 : J 88 32 = nI (zN z) := by rw [j88, eF, am_up_ne (by decide), am_up_ne (by decide)]; exact hZ.1
          have e9 : J 88 9 = nI (sN σ) := by rw [j88, eF, am_up_ne (by decide), am_up_ne (by decide)]; exact p1
          refine am_at hS (fun t => Nat.beq t 139) 60 139 ?_
          refine ⟨fun q2 => absurd q2 (by rw [e9, ← q]; exact nI_nlt (Nat.le_refl _) (by omega)), fun _ => ?_⟩
          refine ⟨?_, rfl, ?_, ?_⟩
          · refine congrArg (fun y => some (Value.int y)) ?_
            rw [ev, am_seq, e32, nI_1, sub_one (by omega) (by omega), Nat.add_sub_cancel]
          · rw [es]
            refine zR_add hz hZ (by rw [am_seq, e32, nI_1]) ?_ ?_ (fun p hp => ?_) (fun c hc => ⟨?_, ?_⟩) (fun i hi => ?_)
            · rw [am_up_ne (by decide), j100, eF, am_up_ne (by decide), am_seq]
            · rw [am_up_ne (by decide), j101, eF, am_seq, q]
            · rw [am_up_ne (by decide)]; exact j1 p hp
            · rw [am_up_ne (by decide), j100, eF, am_up_ne (by decide), am_sne (by omega)]
            · rw [am_up_ne (by decide), j101, eF, am_sne (by omega), am_up_ne (by decide)]
            · rw [am_up_ne (by decide), j2 i hi, eF, am_up_ne (by decide), am_up_ne (by decide)]
          · exact am_fs.upo (fF.trans (am_fs.fr fJ (fun q hq => by simp only [List.mem_cons, List.not_mem_nil, or_false] at hq; rw [hq]; decide))) (by decide)
        case s2 =>
          intro p hp hn2 J X4 fJ j1 j2
          have j88 := fJ 88 (by decide)
          have e32 : J 88 32 = nI (zN z) := by rw [j88, eF, am_up_ne (by decide), am_up_ne (by decide)]; exact hZ.1
          have e9 : J 88 9 = nI (sN σ) := by rw [j88, eF, am_up_ne (by decide), am_up_ne (by decide)]; exact p1
          have e116 : J 116 (40 * s + p) = nI (cvO h s n p) := by
            rw [fJ 116 (by decide), eF, am_up_ne (by decide), am_up_ne (by decide), e3 p hp]
            exact cvO_at ha hp
          have i9 : 9 * nI (zN z) + nI p = nI (9 * zN z + p) := by rw [show (9 : Int32) = nI 9 from rfl, pk_mul, nI_add]
          refine am_at hS (fun t => Nat.beq t 139) 60 139 ?_
          refine ⟨fun _ => ?_, fun q2 => absurd (show nI p < J 88 9 by rw [e9, ← q]; exact nI_lt hp (by omega)) q2⟩
          refine ⟨bdi p hp, ?_⟩
          refine ⟨by rw [e32, i9]; exact vp_in_nI (by omega) (by omega), ?_⟩
          rw [cli p hp, e116, e32, i9, nI_clamp (by omega)]
          have h2 := hn2 (am_up J 102 (9 * zN z + p) (nI (cvO h s n p))) X4 (am_fr.up fJ (by decide)) (fun i hi => by
            by_cases e : i = p
            · rw [e, am_seq]
            · rw [am_sne (by omega)]; exact j1 i (by omega)) (fun i hi => by rw [am_sne (by omega)]; exact j2 i hi)
          rw [← nI_1] at h2
          exact h2
        refine ⟨by rw [hZ.1]; exact vp_in_nI (by omega) (by omega), ?_⟩
        rw [hZ.1, nI_clamp (by omega)]
        have e32 : am_up I 100 (zN z) (nI kd) 88 32 = nI (zN z) := by rw [am_up_ne (by decide)]; exact hZ.1
        have e9 : am_up I 100 (zN z) (nI kd) 88 9 = nI (sN σ) := by rw [am_up_ne (by decide)]; exact p1
        refine ⟨by rw [e32]; exact vp_in_nI (by omega) (by omega), ?_⟩
        rw [e32, e9, nI_clamp (by omega)]
        have hq := l139 0 (Nat.zero_le _) F X4 am_fr.refl (fun i hi => absurd hi (Nat.not_lt_zero _)) (fun _ _ => rfl)
        rw [eF] at hq
        exact hq
      case s =>
        intro p hp hn2 X4 ha
        refine am_at hS (fun t => Nat.beq t 52) 60 52 ?_
        refine ⟨fun _ => ?_, fun q2 => absurd (show nI p < I 88 9 by rw [p1, ← q]; exact nI_lt hp (by omega)) q2⟩
        refine ⟨bdi p hp, ?_⟩
        rw [cli p hp, e3 p hp]
        have yes : icp (h.2 s p) = true → S 52 [some (.ref 88), some (.int (nI kd)), some (.int (nI s)), some (.int (nI p + 1)), some (.int (h.2 s p))] [] I w := fun e => by
          have h2 := hn2 (some (.int (h.2 s p))) (by rw [tlc, ha, e]; rfl)
          rw [← nI_1] at h2
          exact h2
        refine ⟨_, _, (by omega : k - 1 < k), r_in zi I w _ _ _, am_elim ?_⟩
        refine ⟨fun j => ?_, fun j => ?_⟩
        · rw [bi_eq0] at j
          have j2 : inl (h.2 s p).toInt64 0 3 = false := j
          refine ⟨fun j9 => yes (by rw [← inl_icp, decide_eq_true (show h.2 s p = 9 from j9), Bool.or_true]), fun j9 => ?_⟩
          have e : icp (h.2 s p) = false := by rw [← inl_icp, decide_eq_false (show ¬ h.2 s p = 9 from j9), Bool.or_false]; exact j2
          exact bad (-2) (by decide) (by rw [ea, tlc_no (i := p + 1) (by rw [tlc, e, Bool.and_false]) n (by omega), Bool.and_false]; rfl)
        · rw [bi_eq0, Bool.not_eq_false] at j
          have j2 : inl (h.2 s p).toInt64 0 3 = true := j
          exact yes (by rw [← inl_icp, j2]; rfl)
      exact l52 0 (Nat.zero_le _) none rfl
    · rw [p1, neq (by omega) (by omega)] at q
      exact bad (-2) (by decide) (by rw [ea, decide_eq_false q]; rfl)
