/-! SHEETS: feels: the class's -/
theorem goA : ∀ {m : Option Nat} {n : Nat} {v : Int32} {B : Prop}, m = some n → vp_in v n ∧ B → (match m with | some n => vp_in v n ∧ B | none => False)
  | some _, _, _, _, e, h => by
    cases e
    exact h
def feA (g : Nat → Int32) (σ : St) (p : Int32) : Int32 × St := aFeel σ (g p.toNatClampNeg) (g (p.toNatClampNeg + 1)) (g (p.toNatClampNeg + 2)) (g (p.toNatClampNeg + 3)) (g (p.toNatClampNeg + 4))
def feR (g : Nat → Int32) (N : Nat) : Nat → Int32 → Int32 → St → Int32 × St
  | 0, _, c, σ => (c, σ)
  | m + 1, p, c, σ => cond (hld N p 5) (feR g N m (p + 5) (if (feA g σ p).1 < 0 then c else c + 1) (feA g σ p).2) (-12, σ)
theorem feR_0 {g : Nat → Int32} {N : Nat} {p c : Int32} {σ : St} : feR g N 0 p c σ = (c, σ) := rfl
theorem feR_no {g : Nat → Int32} {N m : Nat} {p c : Int32} {σ : St} (h : hld N p 5 = false) : feR g N (m + 1) p c σ = (-12, σ) := by
  show cond (hld N p 5) _ _ = _
  rw [h]; rfl
theorem feR_yes {g : Nat → Int32} {N m : Nat} {p c : Int32} {σ : St} (h : hld N p 5 = true) : feR g N (m + 1) p c σ = feR g N m (p + 5) (if (feA g σ p).1 < 0 then c else c + 1) (feA g σ p).2 := by
  show cond (hld N p 5) _ _ = _
  rw [h]; rfl
theorem wf_feA {g : Nat → Int32} {σ : St} (zw : wf σ) (p : Int32) : wf (feA g σ p).2 := wf_aFeel zw _ _ _ _ _
theorem wf_feR {g : Nat → Int32} {N : Nat} : ∀ (m : Nat) (p c : Int32) (σ : St), wf σ → wf (feR g N m p c σ).2 := by
  intro m
  induction m with
  | zero => intro p c σ h; exact h
  | succ m ih =>
    intro p c σ h
    cases q : hld N p 5 with
    | false => rw [feR_no q]; exact h
    | true => rw [feR_yes q]; exact ih _ _ _ (wf_feA h p)
def aFe2 (σ : St) (o : Option (Nat × Nat)) (g : Nat → Int32) (srt p n : Int32) : Int32 × St := match o with
  | none => (-11, σ)
  | some (t, N) => cond (decide (nI t = srt)) (feR g N n.toNatClampNeg p 0 σ) (-13, σ)
def aFes (σ : St) (h : Hz) (x srt p n : Int32) : Int32 × St := cond (inb x 4 && (inb srt 3 && inb n 9)) (aFe2 σ (h.1 x.toNatClampNeg) (h.2 x.toNatClampNeg) srt p n) (-2, σ)
theorem wf_aFes {σ : St} (zw : wf σ) (h : Hz) (x srt p n : Int32) : wf (aFes σ h x srt p n).2 := by
  unfold aFes
  cases (inb x 4 && (inb srt 3 && inb n 9)) with
  | false => exact zw
  | true =>
    show wf (aFe2 σ _ _ srt p n).2
    cases h.1 x.toNatClampNeg with
    | none => exact zw
    | some o =>
      obtain ⟨t, N⟩ := o
      show wf (cond (decide (nI t = srt)) (feR _ N n.toNatClampNeg p 0 σ) (-13, σ)).2
      cases decide (nI t = srt) with
      | false => exact zw
      | true => exact wf_feR _ _ _ _ zw
theorem inb_gt {x : Int32} {m : Nat} (h : nI m < x) (hm : m + 1 < 2 ^ 31) : inb x (m + 1) = false := inb_ff2 (by rw [i_lt, nI_toInt (by omega)] at h ⊢; omega) hm
theorem inb_le {x : Int32} {m : Nat} (h1 : ¬ x < 0) (h : ¬ nI m < x) (hm : m + 1 < 2 ^ 31) : inb x (m + 1) = true := inb_tt h1 (by rw [i_lt, nI_toInt (by omega)] at h ⊢; omega) hm
def fFe : List Nat := [7, 8, 9, 10, 11, 12, 13]
theorem hC_fr {I J : am_I} {h : Hz} (hI : hC I h) {l : List Nat} (f : am_fr l I J) (hl : ∀ q, 80 ≤ q → q < 88 → ¬ q ∈ l) : hC J h := fun s hs => by
  rw [f _ (hl _ (by omega) (by omega)), f _ (hl _ (by omega) (by omega))]
  exact hI s hs
theorem fFe_no : ∀ q, 80 ≤ q → q < 88 → ¬ q ∈ fFe := fun q h1 h2 => by
  unfold fFe
  simp only [List.mem_cons, List.not_mem_nil, or_false]
  omega
theorem c_feels {E : am_E} (zi : am_inj E) {k : Nat} (hk : 3 ≤ k) {σ : St} (zw : wf σ) {I : am_I} (zC : CS I σ) (w : Int64) {h : Hz} (hw : wfh h) (hI : hC I h) (x srt p n : Int32) :
    am_Ret E k Y_TC_feels [.ref 0, .int x, .int srt, .int p, .int n] I w (fun q I' w' => q = some (.int (aFes σ h x srt p n).1) ∧ w' = w ∧ CS I' (aFes σ h x srt p n).2 ∧ am_fr fFe I I') := by
  refine am_intro (pv_TC_feels E k) (by decide) zi ?_ rfl rfl ?_
  · rintro _ _ _ ⟨rfl, -⟩; rfl
  intro S hS
  have fin : ∀ v σ' J, am_fr fFe I J → CS J σ' → aFes σ h x srt p n = (v, σ') → am_po (fun q I' w' => q = some (.int (aFes σ h x srt p n).1) ∧ w' = w ∧ CS I' (aFes σ h x srt p n).2 ∧ am_fr fFe I I') [] [.int v] J w := fun v σ' J f c e => by
    rw [e]
    exact ⟨rfl, rfl, c, f⟩
  have bad : ∀ v, aFes σ h x srt p n = (v, σ) → _ := fun v e => fin v σ I am_fr.refl zC e
  refine am_at hS (fun t => Nat.beq t 71) 90 0 ?_
  refine ⟨_, _, (by omega : k - 1 < k), r_isSheet zi x I w, am_elim ?_⟩
  refine ⟨fun g => ?_, fun g => ?_⟩
  · rw [bi_eq0] at g
    exact bad (-2) (by unfold aFes; rw [g]; rfl)
  rw [bi_eq0, Bool.not_eq_false] at g
  refine ⟨fun q => bad (-2) (by unfold aFes; rw [inb_ff1 q, Bool.false_and, Bool.and_false]; rfl), fun q1 => ?_⟩
  refine ⟨fun q => bad (-2) (by unfold aFes; rw [inb_gt (m := 2) q (by decide), Bool.false_and, Bool.and_false]; rfl), fun q2 => ?_⟩
  refine ⟨fun q => bad (-2) (by unfold aFes; rw [inb_ff1 q, Bool.and_false, Bool.and_false]; rfl), fun q3 => ?_⟩
  refine ⟨fun q => bad (-2) (by unfold aFes; rw [inb_gt (m := 8) q (by decide), Bool.and_false, Bool.and_false]; rfl), fun q4 => ?_⟩
  obtain ⟨s, hs, rfl⟩ := inb_of g (by decide)
  have ns := inb_le (m := 2) q1 q2 (by decide)
  have nn := inb_le (m := 8) q3 q4 (by decide)
  clear q1 q2 q3 q4
  obtain ⟨b, hb, rfl⟩ := inb_of nn (by decide)
  have cs : (nI s).toNatClampNeg = s := nI_clamp (by omega)
  have ea : aFes σ h (nI s) srt p (nI b) = aFe2 σ (h.1 s) (h.2 s) srt p (nI b) := by unfold aFes; rw [g, ns, nn, cs]; rfl
  have bds : vp_in (nI s) 4 := vp_in_nI (by omega) (by omega)
  have c1 := r_isThere zi (k := k - 1) w hw hI hs
  refine ⟨bds, ?_⟩
  rw [cs]
  refine go2 (sh_f hs).1 rfl ?_
  refine ⟨_, _, (by omega : k - 1 < k), c1, am_elim ?_⟩
  cases ho : h.1 s with
  | none =>
    rw [ho] at ea
    have b0 := bad (-11) ea
    exact ⟨fun _ => b0, fun q => absurd rfl q⟩
  | some o =>
    obtain ⟨t, N⟩ := o
    obtain ⟨e0, -, -⟩ := (hI s hs).2 t N ho
    have hN := (hw s hs t N ho).2
    rw [ho] at ea
    have ea : aFes σ h (nI s) srt p (nI b) = cond (decide (nI t = srt)) (feR (h.2 s) N (nI b).toNatClampNeg p 0 σ) (-13, σ) := ea
    rw [nI_clamp (by omega)] at ea
    refine ⟨fun q => absurd (show (1 : Int32) = 0 from q) (by decide), fun _ => ?_⟩
    refine goC0 (sh_f hs).2.1 ?_
    have loop := down (P := fun i => ∀ σ' J p' c l, wf σ' → CS J σ' → am_fr fFe I J → feR (h.2 s) N (b - i) p' c σ' = feR (h.2 s) N b p 0 σ → nI t = srt → S 71 [some (.ref 0), some (.int (nI s)), some (.int srt), some (.int p), some (.int (nI b)), some (.ref (80 + 2 * s)), some (.int c), some (.int p'), some (.int (nI i)), l] [] J w) b ?z ?s
    case z =>
      intro σ' J p' c l wσ cσ fJ he ht
      rw [Nat.sub_self, feR_0] at he
      refine am_at hS (fun t => Nat.beq t 71) 60 71 ?_
      refine ⟨fun q => absurd q (nI_nlt (Nat.le_refl _) (by omega)), fun _ => ?_⟩
      exact fin c σ' J fJ cσ (by rw [ea, decide_eq_true ht, he]; rfl)
    case s =>
      intro i hi hn σ' J p' c l wσ cσ fJ he ht
      have hJ := hC_fr hI fJ fFe_no
      obtain ⟨-, j1, j2⟩ := (hJ s hs).2 t N ho
      have r1 := r_holds zi (k := k - 1) w hs hN j1 p' 5
      obtain ⟨m, hm⟩ : ∃ m, b - i = m + 1 := ⟨b - i - 1, by omega⟩
      rw [hm] at he
      refine am_at hS (fun t => Nat.beq t 71) 60 71 ?_
      refine ⟨fun _ => ?_, fun q => absurd (nI_lt hi (by omega)) q⟩
      refine go2 (sh_f hs).1 rfl ?_
      refine ⟨_, _, (by omega : k - 1 < k), r1, am_elim ?_⟩
      refine ⟨fun q => ?_, fun q => ?_⟩
      · rw [bi_eq0] at q
        rw [feR_no q] at he
        exact fin (-12) σ' J fJ cσ (by rw [ea, decide_eq_true ht, ← he]; rfl)
      rw [bi_eq0, Bool.not_eq_false] at q
      rw [feR_yes q] at he
      obtain ⟨j, b5, rfl, e5, hj⟩ := hld_of hN q
      have e5 : 5 = b5 := (neq (a := 5) (by omega) (by omega)).mp e5
      subst e5
      have k0 : (nI j).toNatClampNeg = j := nI_clamp (by omega)
      have k1 : (nI j + 1).toNatClampNeg = j + 1 := by rw [nI_1]; exact nI_clamp (by omega)
      have k2 : (nI j + 2).toNatClampNeg = j + 2 := by rw [show (2 : Int32) = nI 2 from rfl, nI_add]; exact nI_clamp (by omega)
      have k3 : (nI j + 3).toNatClampNeg = j + 3 := by rw [show (3 : Int32) = nI 3 from rfl, nI_add]; exact nI_clamp (by omega)
      have k4 : (nI j + 4).toNatClampNeg = j + 4 := by rw [show (4 : Int32) = nI 4 from rfl, nI_add]; exact nI_clamp (by omega)
      have v0 : vp_in (nI j) 40 := vp_in_nI (by omega) (by omega)
      have v1 : vp_in (nI j + 1) 40 := by rw [nI_1]; exact vp_in_nI (by omega) (by omega)
      have v2 : vp_in (nI j + 2) 40 := by rw [show (2 : Int32) = nI 2 from rfl, nI_add]; exact vp_in_nI (by omega) (by omega)
      have v3 : vp_in (nI j + 3) 40 := by rw [show (3 : Int32) = nI 3 from rfl, nI_add]; exact vp_in_nI (by omega) (by omega)
      have v4 : vp_in (nI j + 4) 40 := by rw [show (4 : Int32) = nI 4 from rfl, nI_add]; exact vp_in_nI (by omega) (by omega)
      have eA : aFeel σ' (J (81 + 2 * s) (nI j).toNatClampNeg) (J (81 + 2 * s) (nI j + 1).toNatClampNeg) (J (81 + 2 * s) (nI j + 2).toNatClampNeg) (J (81 + 2 * s) (nI j + 3).toNatClampNeg) (J (81 + 2 * s) (nI j + 4).toNatClampNeg) = feA (h.2 s) σ' (nI j) := by
        unfold feA
        rw [k0, k1, k2, k3, k4, j2 _ (by omega), j2 _ (by omega), j2 _ (by omega), j2 _ (by omega), j2 _ (by omega)]
      refine goCq (sh_f hs).2.2.2.1 ?_
      refine goA (sh_f hs).2.2.2.2 ⟨v0, ?_⟩
      refine goA (sh_f hs).2.2.2.2 ⟨v1, ?_⟩
      refine goA (sh_f hs).2.2.2.2 ⟨v2, ?_⟩
      refine goA (sh_f hs).2.2.2.2 ⟨v3, ?_⟩
      refine goA (sh_f hs).2.2.2.2 ⟨v4, ?_⟩
      refine ⟨_, _, (by omega : k - 1 < k), c_feel zi (k := k - 1) (by omega) wσ cσ w _ _ _ _ _, ?_⟩
      rintro _ I1 w1 ⟨rfl, rfl, z1, f1⟩
      rw [eA] at z1
      have em : b - (i + 1) = m := by omega
      have go := hn (feA (h.2 s) σ' (nI j)).2 I1 (nI j + 5)
      rw [em, ← nI_1] at go
      refine ⟨fun r => ?_, fun r => ?_⟩
      · rw [eA] at r
        rw [if_pos r] at he
        exact go c _ (wf_feA wσ _) z1 (fJ.trans f1) he ht
      · rw [eA] at r
        rw [if_neg r] at he
        exact go (c + 1) _ (wf_feA wσ _) z1 (fJ.trans f1) he ht
    refine ⟨fun q => ?_, fun q => ?_⟩
    · exact loop 0 (Nat.zero_le _) σ I p 0 none zw zC am_fr.refl rfl (e0.symm.trans q)
    · exact bad (-13) (by rw [ea, decide_eq_false (fun z1 => q (e0.trans z1))]; rfl)
