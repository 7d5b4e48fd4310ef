/-! SHEETS: feels: the reference's -/
theorem inl_2 (x : Int32) : inl x.toInt64 0 2 = inb x 3 := by
  rw [inl_r]
  unfold inb
  rw [show (0 : Int64).toInt = 0 from rfl, show (2 : Int64).toInt = 2 from rfl]
  congr 1
  apply decide_eq_decide.mpr
  omega
theorem inl_08 (x : Int32) : inl x.toInt64 0 8 = inb x 9 := by
  rw [inl_r]
  unfold inb
  rw [show (0 : Int64).toInt = 0 from rfl, show (8 : Int64).toInt = 8 from rfl]
  congr 1
  apply decide_eq_decide.mpr
  omega
theorem fz_t {N i : Nat} (hN : N ≤ 40) (hi : i ≤ 8) : (nI N - 5 * nI i - 5).toInt = (N : Int) - 5 * i - 5 := by
  rw [show (5 : Int32) = nI 5 from rfl, pk_mul, Int32.toInt_sub, pk_sub_toInt (by omega) (by omega), nI_toInt (by decide)]
  apply Int.bmod_eq_of_le <;> omega
theorem fz_h {N i f : Nat} (hN : N ≤ 40) (hi : i ≤ 8) (hf : f + 5 * i < 2 ^ 31) : (nI N - 5 * nI i - 5 < nI f) = (hld N (nI f + nI (5 * i)) 5 = false) := by
  rw [i_lt, fz_t hN hi, nI_toInt (by omega), nI_add]
  unfold hld
  rw [nI_toInt hf, show (5 : Int32).toInt = 5 from rfl]
  refine propext ⟨fun q => ?_, fun q => ?_⟩
  · rw [decide_eq_false (show ¬ (5 : Int) ≤ N - ((f + 5 * i : Nat) : Int) by omega), Bool.and_false, Bool.and_false]
  · refine Classical.byContradiction fun c => ?_
    rw [decide_eq_true (show (5 : Int) ≤ N - ((f + 5 * i : Nat) : Int) by omega), decide_eq_true (show ((f + 5 * i : Nat) : Int) ≤ N by omega), decide_eq_true (show (0 : Int) ≤ 5 by omega), decide_eq_true (show (0 : Int) ≤ ((f + 5 * i : Nat) : Int) by omega)] at q
    exact absurd q (by decide)
theorem hR_eq {I J : am_I} {h : Hz} (hI : hR I h) (h1 : J 113 = I 113) (h2 : J 114 = I 114) (h3 : J 115 = I 115) (h4 : J 116 = I 116) : hR J h := by
  unfold hR
  rw [h1, h2, h3, h4]
  exact hI
def mFe : List Nat := [94, 95, 96, 97, 98, 99]
theorem m_feels {E : am_E} (zi : am_inj E) {k : Nat} (hk : 3 ≤ k) {σ : St} (zw : wf σ) {I : am_I} (zR : RS I σ) (w : Int64) {h : Hz} (hw : wfh h) (hI : hR I h) (x srt p n : Int32) :
    am_Ret E k Y_MO_feels [.ref 88, .int x, .int srt, .int p, .int n] I w (fun q I' w' => q = some (.int (aFes σ h x srt p n).1) ∧ w' = w ∧ RS I' (aFes σ h x srt p n).2 ∧ am_fs 88 [16] mFe I I') := by
  refine am_intro (pv_MO_feels E k) (by decide) zi ?_ rfl rfl ?_
  · rintro _ _ _ ⟨rfl, -⟩; rfl
  intro S hS
  have fin : ∀ v σ' J, am_fs 88 [16] mFe I J → RS J σ' → aFes σ h x srt p n = (v, σ') → am_po (fun q I' w' => q = some (.int (aFes σ h x srt p n).1) ∧ w' = w ∧ RS I' (aFes σ h x srt p n).2 ∧ am_fs 88 [16] mFe I I') [] [.int v] J w := fun v σ' J f c e => by
    rw [e]
    exact ⟨rfl, rfl, c, f⟩
  have bad : ∀ v, aFes σ h x srt p n = (v, σ) → _ := fun v e => fin v σ I am_fs.refl zR e
  refine am_at hS (fun t => Nat.beq t 75) 90 0 ?_
  refine ⟨_, _, (by omega : k - 1 < k), m_isSheet zi (by omega) I w x, am_elim ?_⟩
  refine ⟨fun g => ?_, fun g => ?_⟩
  · rw [bi_eq0] at g
    exact bad (-2) (by unfold aFes; rw [g]; rfl)
  rw [bi_eq0, Bool.not_eq_false] at g
  refine ⟨_, _, (by omega : k - 1 < k), r_in zi I w _ _ _, am_elim ?_⟩
  refine ⟨fun q => ?_, fun ns => ?_⟩
  · rw [inl_2, bi_eq0] at q
    exact bad (-2) (by unfold aFes; rw [q, Bool.false_and, Bool.and_false]; rfl)
  rw [inl_2, bi_eq0, Bool.not_eq_false] at ns
  refine ⟨_, _, (by omega : k - 1 < k), r_in zi I w _ _ _, am_elim ?_⟩
  refine ⟨fun q => ?_, fun nn => ?_⟩
  · rw [inl_08, bi_eq0] at q
    exact bad (-2) (by unfold aFes; rw [q, Bool.and_false, Bool.and_false]; rfl)
  rw [inl_08, bi_eq0, Bool.not_eq_false] at nn
  obtain ⟨s, hs, rfl⟩ := inb_of g (by decide)
  obtain ⟨b, hb, rfl⟩ := inb_of nn (by decide)
  have cs : (nI s).toNatClampNeg = s := nI_clamp (by omega)
  have ea : aFes σ h (nI s) srt p (nI b) = aFe2 σ (h.1 s) (h.2 s) srt p (nI b) := by unfold aFes; rw [g, ns, nn, cs]; rfl
  have bds : vp_in (nI s) 4 := vp_in_nI (by omega) (by omega)
  cases ho : h.1 s with
  | none =>
    rw [ho] at ea
    have b0 := bad (-11) ea
    have e := (hI s hs).1 ho
    have e' : I 113 (nI s).toNatClampNeg = 0 := by rw [cs]; exact e
    refine ⟨bds, ?_⟩
    refine ⟨fun _ => ?_, fun q => absurd e' q⟩
    refine ⟨bds, ?_⟩
    exact ⟨fun _ => b0, fun q => absurd e' q⟩
  | some o =>
    obtain ⟨t, N⟩ := o
    obtain ⟨e0, e1, e2, -⟩ := (hI s hs).2 t N ho
    have hN := (hw s hs t N ho).2
    rw [ho] at ea
    have ea : aFes σ h (nI s) srt p (nI b) = cond (decide (nI t = srt)) (feR (h.2 s) N (nI b).toNatClampNeg p 0 σ) (-13, σ) := ea
    rw [nI_clamp (by omega)] at ea
    have e0' : ¬ I 113 (nI s).toNatClampNeg = 0 := by rw [cs, e0]; decide
    have e1' : I 114 (nI s).toNatClampNeg = nI t := by rw [cs]; exact e1
    refine ⟨bds, ?_⟩
    refine ⟨fun q => absurd q e0', fun _ => ?_⟩
    have loop := down (P := fun i => ∀ σ' J c l, wf σ' → RS J σ' → am_fs 88 [16] mFe I J → (i = 0 ∨ ∃ f, p = nI f ∧ f + 5 * i ≤ 40) → feR (h.2 s) N (b - i) (p + nI (5 * i)) c σ' = feR (h.2 s) N b p 0 σ → nI t = srt → S 75 [some (.ref 88), some (.int (nI s)), some (.int srt), some (.int p), some (.int (nI b)), some (.int c), some (.int (nI i)), l] [] J w) b ?z ?s
    case z =>
      intro σ' J c l wσ cσ fJ _ he ht
      rw [Nat.sub_self, feR_0] at he
      refine am_at hS (fun t => Nat.beq t 75) 60 75 ?_
      refine ⟨fun q => absurd q (nI_nlt (Nat.le_refl _) (by omega)), fun _ => ?_⟩
      exact fin c σ' J fJ cσ (by rw [ea, decide_eq_true ht, he]; rfl)
    case s =>
      intro i hi hn σ' J c l wσ cσ fJ hf he ht
      have j5 := fJ.1 115 (by decide) (by decide)
      have j6 := fJ.1 116 (by decide) (by decide)
      obtain ⟨m, hm⟩ : ∃ m, b - i = m + 1 := ⟨b - i - 1, by omega⟩
      have em : b - (i + 1) = m := by omega
      rw [hm] at he
      have no : hld N (p + nI (5 * i)) 5 = false → _ := fun q => fin (-12) σ' J fJ cσ (by rw [ea, decide_eq_true ht, ← he, feR_no q]; rfl)
      refine am_at hS (fun t => Nat.beq t 75) 120 75 ?_
      refine ⟨fun _ => ?_, fun q => absurd (nI_lt hi (by omega)) q⟩
      refine ⟨fun q => no ?_, fun q => ?_⟩
      · rcases hf with rfl | ⟨f, rfl, hf⟩
        · rw [show nI (5 * 0) = (0 : Int32) from rfl, Int32.add_zero]
          exact hld_ng (Or.inr q)
        · exact absurd q (nI_nlt (Nat.zero_le _) (by omega))
      obtain ⟨f, hf31, rfl⟩ := nI_of q
      have hf2 : i = 0 ∨ f + 5 * i ≤ 40 := by
        rcases hf with r | ⟨f2, e, hf⟩
        · exact Or.inl r
        · rw [neq hf31 (by omega)] at e
          exact Or.inr (by omega)
      have hfi : f + 5 * i < 2 ^ 31 := by omega
      have e2' : J 115 (nI s).toNatClampNeg = nI N := by rw [cs, j5]; exact e2
      refine ⟨bds, ?_⟩
      refine ⟨fun r => no ?_, fun r => ?_⟩
      · rw [e2'] at r
        exact (fz_h hN (by omega) hfi).mp r
      rw [e2'] at r
      have r2 : hld N (nI f + nI (5 * i)) 5 = true := by
        rw [fz_h hN (by omega) hfi, Bool.not_eq_false] at r
        exact r
      rw [i_lt, fz_t hN (by omega), nI_toInt hf31] at r
      have hfN : f + 5 * i + 5 ≤ N := by omega
      clear no
      rw [feR_yes r2] at he
      obtain ⟨v, hv⟩ : ∃ v, v = 40 * s + (f + 5 * i) := ⟨_, rfl⟩
      have x0 : 40 * nI s + nI f + 5 * nI i = nI v := by rw [hv, i40, show (5 : Int32) = nI 5 from rfl, pk_mul, nI_add]; exact congrArg nI (by omega)
      have x1 : nI v + 1 = nI (v + 1) := nI_1 v
      have x2 : nI v + 2 = nI (v + 2) := nI_add v 2
      have x3 : nI v + 3 = nI (v + 3) := nI_add v 3
      have x4 : nI v + 4 = nI (v + 4) := nI_add v 4
      have k0 : (40 * nI s + nI f + 5 * nI i).toNatClampNeg = v := by rw [x0]; exact nI_clamp (by omega)
      have k1 : (40 * nI s + nI f + 5 * nI i + 1).toNatClampNeg = v + 1 := by rw [x0, x1]; exact nI_clamp (by omega)
      have k2 : (40 * nI s + nI f + 5 * nI i + 2).toNatClampNeg = v + 2 := by rw [x0, x2]; exact nI_clamp (by omega)
      have k3 : (40 * nI s + nI f + 5 * nI i + 3).toNatClampNeg = v + 3 := by rw [x0, x3]; exact nI_clamp (by omega)
      have k4 : (40 * nI s + nI f + 5 * nI i + 4).toNatClampNeg = v + 4 := by rw [x0, x4]; exact nI_clamp (by omega)
      have j2 : ∀ q, q < N → J 116 (40 * s + q) = h.2 s q := fun q hq => by rw [j6]; exact ((hI s hs).2 t N ho).2.2.2 q hq
      have eA : aFeel σ' (J 116 (40 * nI s + nI f + 5 * nI i).toNatClampNeg) (J 116 (40 * nI s + nI f + 5 * nI i + 1).toNatClampNeg) (J 116 (40 * nI s + nI f + 5 * nI i + 2).toNatClampNeg) (J 116 (40 * nI s + nI f + 5 * nI i + 3).toNatClampNeg) (J 116 (40 * nI s + nI f + 5 * nI i + 4).toNatClampNeg) = feA (h.2 s) σ' (nI f + nI (5 * i)) := by
        unfold feA
        rw [k0, k1, k2, k3, k4, nI_add, nI_clamp hfi, hv, Nat.add_assoc (40 * s), Nat.add_assoc (40 * s), Nat.add_assoc (40 * s), Nat.add_assoc (40 * s), j2 _ (by omega), j2 _ (by omega), j2 _ (by omega), j2 _ (by omega), j2 _ (by omega)]
      have v0 : vp_in (40 * nI s + nI f + 5 * nI i) 160 := by rw [x0]; exact vp_in_nI (by omega) (by omega)
      have v1 : vp_in (40 * nI s + nI f + 5 * nI i + 1) 160 := by rw [x0, x1]; exact vp_in_nI (by omega) (by omega)
      have v2 : vp_in (40 * nI s + nI f + 5 * nI i + 2) 160 := by rw [x0, x2]; exact vp_in_nI (by omega) (by omega)
      have v3 : vp_in (40 * nI s + nI f + 5 * nI i + 3) 160 := by rw [x0, x3]; exact vp_in_nI (by omega) (by omega)
      have v4 : vp_in (40 * nI s + nI f + 5 * nI i + 4) 160 := by rw [x0, x4]; exact vp_in_nI (by omega) (by omega)
      refine ⟨v0, ?_⟩
      refine ⟨v1, ?_⟩
      refine ⟨v2, ?_⟩
      refine ⟨v3, ?_⟩
      refine ⟨v4, ?_⟩
      refine ⟨_, _, (by omega : k - 1 < k), m_feel zi (k := k - 1) (by omega) wσ cσ w _ _ _ _ _, ?_⟩
      rintro _ I1 w1 ⟨rfl, rfl, z1, f1⟩
      rw [eA] at z1
      have fgo : i + 1 = 0 ∨ ∃ f', nI f = nI f' ∧ f' + 5 * (i + 1) ≤ 40 := Or.inr ⟨f, rfl, by omega⟩
      have go := hn (feA (h.2 s) σ' (nI f + nI (5 * i))).2 I1
      have e5 : nI f + nI (5 * (i + 1)) = nI f + nI (5 * i) + 5 := by rw [show (5 : Int32) = nI 5 from rfl, nI_add, nI_add, nI_add]; exact congrArg nI (by omega)
      rw [em, ← nI_1, e5] at go
      refine ⟨fun r => ?_, fun r => ?_⟩
      · rw [eA] at r
        rw [if_pos r, ← Int32.add_zero c] at he
        exact go (c + 0) _ (wf_feA wσ _) z1 (fJ.trans f1) fgo he ht
      · rw [eA] at r
        rw [if_neg r] at he
        exact go (c + 1) _ (wf_feA wσ _) z1 (fJ.trans f1) fgo he ht
    have st := loop 0 (Nat.zero_le _) σ I 0 none zw zR am_fs.refl (Or.inl rfl) (by rw [show nI (5 * 0) = (0 : Int32) from rfl, Int32.add_zero]; rfl)
    refine ⟨bds, ?_⟩
    refine ⟨fun q => ?_, fun q => ?_⟩
    · refine ⟨bds, ?_⟩
      refine ⟨fun q => absurd q e0', fun _ => ?_⟩
      exact st (e1'.symm.trans q)
    · exact bad (-13) (by rw [ea, decide_eq_false (fun z1 => q (e1'.trans z1))]; rfl)
