/-! ALL THAT IS KEPT: the state both hold, and what a frame leaves -/
abbrev ab : Type := St × (Nat × Nat × Tx) × Option (St × Nat) × (Nat × (Nat → Nat)) × Cz × Hz
def iW (A : ab) : Prop := wf A.1 ∧ wfk A.1 A.2.1.1 A.2.2.1 ∧ wft A.2.2.2.1.1 A.2.2.2.1.2 ∧ wfz A.2.2.2.2.1 ∧ wfh A.2.2.2.2.2 ∧ (A.2.1.2.1 < A.2.1.1 ∧ A.2.1.1 ≤ 6)
def iC (A : ab) (I : am_I) : Prop := CS I A.1 ∧ LC I A.2.1.1 A.2.1.2.1 A.2.1.2.2 ∧ KC I A.2.2.1 ∧ tC I A.2.2.2.1.1 A.2.2.2.1.2 ∧ cZ I A.2.2.2.2.1 ∧ hC I A.2.2.2.2.2
def iR (A : ab) (I : am_I) : Prop := RS I A.1 ∧ RL I A.2.1.1 A.2.1.2.1 A.2.1.2.2 ∧ RK I A.2.2.1 ∧ tR I A.2.2.2.1.1 A.2.2.2.1.2 ∧ zR_ I A.2.2.2.2.1 ∧ hR I A.2.2.2.2.2
/-- a frame leaves these cells, these slots -/
def okf (o : Nat) (js l cs : List Nat) (ss : List (Nat × Nat)) : Bool := cs.all (fun q => !(l.contains q) && !(Nat.beq q o)) && ss.all (fun p => !(l.contains p.1) && (!(Nat.beq p.1 o) || !(js.contains p.2)))
theorem okf_c {o : Nat} {js l cs : List Nat} {ss : List (Nat × Nat)} {I J : am_I} (h : okf o js l cs ss = true) (f : am_fs o js l I J) : ∀ q, q ∈ cs → J q = I q := fun q hq => by
  unfold okf at h
  rw [Bool.and_eq_true] at h
  have h1 := List.all_eq_true.mp h.1 q hq
  rw [Bool.and_eq_true, Bool.not_eq_true', Bool.not_eq_true'] at h1
  refine f.1 q (fun z => ?_) (fun e => ?_)
  · rw [List.contains_iff_mem.mpr z] at h1; exact absurd h1.1 (by decide)
  · rw [e, Nat.beq_refl] at h1; exact absurd h1.2 (by decide)
theorem okf_s {o : Nat} {js l cs : List Nat} {ss : List (Nat × Nat)} {I J : am_I} (h : okf o js l cs ss = true) (f : am_fs o js l I J) : ∀ p, p ∈ ss → J p.1 p.2 = I p.1 p.2 := fun p hp => by
  unfold okf at h
  rw [Bool.and_eq_true] at h
  have h1 := List.all_eq_true.mp h.2 p hp
  rw [Bool.and_eq_true, Bool.not_eq_true', Bool.or_eq_true, Bool.not_eq_true', Bool.not_eq_true'] at h1
  have hl : p.1 ∉ l := fun z => by rw [List.contains_iff_mem.mpr z] at h1; exact absurd h1.1 (by decide)
  by_cases e : p.1 = o
  · rcases h1.2 with h2 | h2
    · rw [e, Nat.beq_refl] at h2; exact absurd h2 (by decide)
    · rw [e]
      exact f.2 p.2 (fun z => by rw [List.contains_iff_mem.mpr z] at h2; exact absurd h2 (by decide))
  · rw [f.1 p.1 hl e]
theorem fs_fr {o : Nat} {l : List Nat} {I J : am_I} (ho : o ∉ l) (f : am_fr l I J) : am_fs o [] l I J := ⟨fun q hq _ => f q hq, fun j _ => by rw [f o ho]⟩
theorem fs_w {o : Nat} {js l : List Nat} {I : am_I} : am_fs o js l I I := am_fs.refl
section KEEP
variable {o : Nat} {js l : List Nat} {I J : am_I}
theorem k_CS {σ : St} (f : am_fs o js l I J) (h : okf o js l [2, 3, 8, 9, 10, 11, 12, 13] [(1, 0), (7, 0)] = true) (z : CS I σ) : CS J σ := by
  have c := okf_c h f
  have s1 : J 1 0 = I 1 0 := okf_s h f (1, 0) (by decide)
  have s2 : J 7 0 = I 7 0 := okf_s h f (7, 0) (by decide)
  unfold CS
  rw [c 2 (by decide), c 3 (by decide), c 8 (by decide), c 9 (by decide), c 10 (by decide), c 11 (by decide), c 12 (by decide), c 13 (by decide), s1, s2]
  exact z
def lawC : List Nat := [30, 31, 32, 33, 34, 35, 36, 37, 38, 39, 40, 41]
theorem lawC_in {q : Nat} (h1 : 30 ≤ q) (h2 : q < 42) : q ∈ lawC := by
  unfold lawC
  simp only [List.mem_cons, List.not_mem_nil, or_false]
  omega
theorem k_LC {T r : Nat} {V : Tx} (f : am_fs o js l I J) (h : okf o js l lawC [(25, 2), (25, 3)] = true) (z : LC I T r V) : LC J T r V :=
  LC_of (fun q h1 h2 => okf_c h f q (lawC_in h1 h2)) (okf_s h f (25, 2) (by decide)) (okf_s h f (25, 3) (by decide)) z
theorem k_KC {kp : Option (St × Nat)} (f : am_fs o js l I J) (h : okf o js l [4, 5, 6, 15, 16, 17, 18, 19, 20, 21] [(0, 4), (0, 5)] = true) (z : KC I kp) : KC J kp :=
  KC_of (okf_c h f) (okf_s h f (0, 4) (by decide)) (okf_s h f (0, 5) (by decide)) z
theorem k_tC {n : Nat} {b : Nat → Nat} (f : am_fs o js l I J) (h : okf o js l [24] [(23, 0)] = true) (z : tC I n b) : tC J n b := by
  have s1 : J 23 0 = I 23 0 := okf_s h f (23, 0) (by decide)
  unfold tC
  rw [okf_c h f 24 (by decide), s1]
  exact z
def cpsC : List Nat := [49, 50, 51, 52, 53, 54, 55, 56, 57, 58, 59, 60, 61, 62, 63, 64, 65, 66, 67, 68]
theorem cpsC_in {q : Nat} (h1 : 49 ≤ q) (h2 : q < 69) : q ∈ cpsC := by
  unfold cpsC
  simp only [List.mem_cons, List.not_mem_nil, or_false]
  omega
theorem k_cZ {z : Cz} (hz : wfz z) (f : am_fs o js l I J) (h : okf o js l cpsC [(0, 11)] = true) (hZ : cZ I z) : cZ J z := by
  have s1 : J 0 11 = I 0 11 := okf_s h f (0, 11) (by decide)
  refine ⟨by rw [s1]; exact hZ.1, fun c hc => ?_⟩
  have h10 := hz.1
  have e1 := okf_c h f (49 + 2 * c) (cpsC_in (by omega) (by omega))
  have e2 := okf_c h f (49 + 2 * c + 1) (cpsC_in (by omega) (by omega))
  have q := hZ.2 c hc
  unfold cpO at q ⊢
  rw [e1, e2]
  exact q
theorem shC_in {q : Nat} (h1 : 80 ≤ q) (h2 : q < 88) : q ∈ fSh := by
  unfold fSh
  simp only [List.mem_cons, List.not_mem_nil, or_false]
  omega
theorem k_hC {h : Hz} (f : am_fs o js l I J) (ho : okf o js l fSh [] = true) (hI : hC I h) : hC J h := fun s hs => by
  rw [okf_c ho f (80 + 2 * s) (shC_in (by omega) (by omega)), okf_c ho f (81 + 2 * s) (shC_in (by omega) (by omega))]
  exact hI s hs
theorem k_RS {σ : St} (f : am_fs o js l I J) (h : okf o js l [92, 93, 94, 95, 96, 97, 98, 99] [(88, 9), (88, 16)] = true) (z : RS I σ) : RS J σ :=
  RS_of (okf_c h f) (okf_s h f (88, 9) (by decide)) (okf_s h f (88, 16) (by decide)) z
theorem k_RL {T r : Nat} {V : Tx} (f : am_fs o js l I J) (h : okf o js l [89, 90] [(88, 3), (88, 4)] = true) (z : RL I T r V) : RL J T r V :=
  RL_of (okf_c h f 89 (by decide)) (okf_c h f 90 (by decide)) (okf_s h f (88, 3) (by decide)) (okf_s h f (88, 4) (by decide)) z
/-- another rule -/
theorem k_RLr {T r r' : Nat} {V : Tx} (f : am_fs o js l I J) (h : okf o js l [89, 90] [(88, 3)] = true) (h4 : J 88 4 = nI r') (hr : r' < T) (z : RL I T r V) : RL J T r' V := by
  obtain ⟨z1, z2, z3, z4, z5⟩ := z
  have s1 : J 88 3 = I 88 3 := okf_s h f (88, 3) (by decide)
  refine ⟨s1.trans z1, h4, z3, hr, fun x hx => ?_⟩
  rw [okf_c h f 89 (by decide), okf_c h f 90 (by decide)]
  exact z5 x hx
theorem k_RK {kp : Option (St × Nat)} (f : am_fs o js l I J) (h : okf o js l [112] [(88, 45), (88, 46), (88, 47), (88, 48)] = true) (z : RK I kp) : RK J kp :=
  RK_of (okf_c h f 112 (by decide)) (okf_s h f (88, 45) (by decide)) (okf_s h f (88, 46) (by decide)) (okf_s h f (88, 47) (by decide)) (okf_s h f (88, 48) (by decide)) z
theorem k_tR {n : Nat} {b : Nat → Nat} (f : am_fs o js l I J) (h : okf o js l [91] [(88, 6)] = true) (z : tR I n b) : tR J n b := by
  have s1 : J 88 6 = I 88 6 := okf_s h f (88, 6) (by decide)
  unfold tR
  rw [okf_c h f 91 (by decide), s1]
  exact z
theorem k_zR {z : Cz} (f : am_fs o js l I J) (h : okf o js l [100, 101, 102] [(88, 32)] = true) (hZ : zR_ I z) : zR_ J z := by
  have s1 : J 88 32 = I 88 32 := okf_s h f (88, 32) (by decide)
  unfold zR_
  rw [okf_c h f 100 (by decide), okf_c h f 101 (by decide), okf_c h f 102 (by decide), s1]
  exact hZ
theorem k_hR {h : Hz} (f : am_fs o js l I J) (ho : okf o js l [113, 114, 115, 116] [] = true) (hI : hR I h) : hR J h :=
  hR_eq hI (okf_c ho f 113 (by decide)) (okf_c ho f 114 (by decide)) (okf_c ho f 115 (by decide)) (okf_c ho f 116 (by decide))
def cAll : List Nat := [2, 3, 8, 9, 10, 11, 12, 13, 4, 5, 6, 15, 16, 17, 18, 19, 20, 21, 24] ++ (lawC ++ (cpsC ++ fSh))
theorem k_hi (f : am_fs o js l I J) (h : (Nat.blt o 88 && l.all (fun q => Nat.blt q 88)) = true) : ∀ q, 88 ≤ q → J q = I q := fun q hq => by
  rw [Bool.and_eq_true] at h
  have h1 : o < 88 := Nat.blt_eq.mp h.1
  refine f.1 q (fun z => ?_) (by omega)
  have : q < 88 := Nat.blt_eq.mp (List.all_eq_true.mp h.2 q z)
  omega
theorem k_lo (f : am_fs 88 js l I J) (h : l.all (fun q => Nat.ble 88 q) = true) : ∀ q, q < 88 → J q = I q := fun q hq => by
  refine f.1 q (fun z => ?_) (by omega)
  have : 88 ≤ q := Nat.ble_eq.mp (List.all_eq_true.mp h q z)
  omega
end KEEP
def okC (o : Nat) (js l : List Nat) : Bool := okf o js l [2, 3, 8, 9, 10, 11, 12, 13] [(1, 0), (7, 0)] && (okf o js l lawC [(25, 2), (25, 3)] && (okf o js l [4, 5, 6, 15, 16, 17, 18, 19, 20, 21] [(0, 4), (0, 5)] && (okf o js l [24] [(23, 0)] && (okf o js l cpsC [(0, 11)] && okf o js l fSh []))))
def okR (o : Nat) (js l : List Nat) : Bool := okf o js l [92, 93, 94, 95, 96, 97, 98, 99] [(88, 9), (88, 16)] && (okf o js l [89, 90] [(88, 3), (88, 4)] && (okf o js l [112] [(88, 45), (88, 46), (88, 47), (88, 48)] && (okf o js l [91] [(88, 6)] && (okf o js l [100, 101, 102] [(88, 32)] && okf o js l [113, 114, 115, 116] []))))
theorem k_iC {A : ab} {o : Nat} {js l : List Nat} {I J : am_I} (hW : iW A) (f : am_fs o js l I J) (h : okC o js l = true) (z : iC A I) : iC A J := by
  unfold okC at h
  rw [Bool.and_eq_true, Bool.and_eq_true, Bool.and_eq_true, Bool.and_eq_true, Bool.and_eq_true] at h
  obtain ⟨h1, h2, h3, h4, h5, h6⟩ := h
  obtain ⟨z1, z2, z3, z4, z5, z6⟩ := z
  exact ⟨k_CS f h1 z1, k_LC f h2 z2, k_KC f h3 z3, k_tC f h4 z4, k_cZ hW.2.2.2.1 f h5 z5, k_hC f h6 z6⟩
theorem k_iR {A : ab} {o : Nat} {js l : List Nat} {I J : am_I} (f : am_fs o js l I J) (h : okR o js l = true) (z : iR A I) : iR A J := by
  unfold okR at h
  rw [Bool.and_eq_true, Bool.and_eq_true, Bool.and_eq_true, Bool.and_eq_true, Bool.and_eq_true] at h
  obtain ⟨h1, h2, h3, h4, h5, h6⟩ := h
  obtain ⟨z1, z2, z3, z4, z5, z6⟩ := z
  exact ⟨k_RS f h1 z1, k_RL f h2 z2, k_RK f h3 z3, k_tR f h4 z4, k_zR f h5 z5, k_hR f h6 z6⟩
/-- the other side's work leaves it all -/
def am_mix (I J : am_I) (q : Nat) : am_I := fun a => if a < q then J a else I a
theorem iC_lo {A : ab} {I J : am_I} (hW : iW A) (h : ∀ q, q < 88 → J q = I q) (z : iC A I) : iC A J := by
  obtain ⟨z1, z2, z3, z4, z5, z6⟩ := z
  refine ⟨?_, ?_, ?_, ?_, ?_, fun s hs => ?_⟩
  · unfold CS
    rw [h 1 (by decide), h 2 (by decide), h 3 (by decide), h 7 (by decide), h 8 (by decide), h 9 (by decide), h 10 (by decide), h 11 (by decide), h 12 (by decide), h 13 (by decide)]
    exact z1
  · exact LC_of (fun q _ h2 => h q (by omega)) (by rw [h 25 (by decide)]) (by rw [h 25 (by decide)]) z2
  · exact KC_of (fun q hq => h q (by simp only [List.mem_cons, List.not_mem_nil, or_false] at hq; omega)) (by rw [h 0 (by decide)]) (by rw [h 0 (by decide)]) z3
  · unfold tC
    rw [h 23 (by decide), h 24 (by decide)]
    exact z4
  · refine ⟨by rw [h 0 (by decide)]; exact z5.1, fun c hc => ?_⟩
    have h10 := hW.2.2.2.1.1
    have q := z5.2 c hc
    unfold cpO at q ⊢
    rw [h (49 + 2 * c) (by omega), h (49 + 2 * c + 1) (by omega)]
    exact q
  · rw [h (80 + 2 * s) (by omega), h (81 + 2 * s) (by omega)]
    exact z6 s hs
theorem iR_hi {A : ab} {I J : am_I} (h : ∀ q, 88 ≤ q → J q = I q) (z : iR A I) : iR A J := by
  obtain ⟨z1, z2, z3, z4, z5, z6⟩ := z
  refine ⟨?_, ?_, ?_, ?_, ?_, ?_⟩
  · exact RS_of (fun q hq => h q (by simp only [List.mem_cons, List.not_mem_nil, or_false] at hq; omega)) (by rw [h 88 (by decide)]) (by rw [h 88 (by decide)]) z1
  · exact RL_of (h 89 (by decide)) (h 90 (by decide)) (by rw [h 88 (by decide)]) (by rw [h 88 (by decide)]) z2
  · exact RK_of (h 112 (by decide)) (by rw [h 88 (by decide)]) (by rw [h 88 (by decide)]) (by rw [h 88 (by decide)]) (by rw [h 88 (by decide)]) z3
  · unfold tR
    rw [h 88 (by decide), h 91 (by decide)]
    exact z4
  · unfold zR_
    rw [h 88 (by decide), h 100 (by decide), h 101 (by decide), h 102 (by decide)]
    exact z5
  · exact hR_eq z6 (h 113 (by decide)) (h 114 (by decide)) (h 115 (by decide)) (h 116 (by decide))
/-! how many people there are -/
theorem N_person {σ : St} {v : Int32} : sN σ ≤ sN (aPerson σ v).2 := by
  unfold aPerson
  cases inb v 100 with
  | false => exact Nat.le_refl _
  | true =>
    cases decide (sN σ < 9) with
    | false => exact Nat.le_refl _
    | true => exact Nat.le_succ _
theorem N_set {σ : St} {u x v : Int32} : sN (aSet σ u x v).2 = sN σ := by
  unfold aSet
  cases inb x (sN σ) with
  | false => rfl
  | true =>
    cases (decide (u = 0) && inb v 100) with
    | true => rfl
    | false => cases (decide (u = 1) && isl v) <;> rfl
theorem N_feel {σ : St} {a b s t kd : Int32} : sN (aFeel σ a b s t kd).2 = sN σ := by
  unfold aFeel
  cases fOk σ a b s t kd with
  | false => rfl
  | true => exact sTell_N
theorem N_feR {g : Nat → Int32} {N : Nat} : ∀ (m : Nat) (p c : Int32) (σ : St), sN (feR g N m p c σ).2 = sN σ := by
  intro m
  induction m with
  | zero => intro p c σ; rfl
  | succ m ih =>
    intro p c σ
    cases q : hld N p 5 with
    | false => rw [feR_no q]
    | true => rw [feR_yes q, ih]; exact N_feel
theorem N_feels {σ : St} {h : Hz} {x srt p n : Int32} : sN (aFes σ h x srt p n).2 = sN σ := by
  unfold aFes
  cases (inb x 4 && (inb srt 3 && inb n 9)) with
  | false => rfl
  | true =>
    show sN (aFe2 σ _ _ srt p n).2 = _
    cases h.1 x.toNatClampNeg with
    | none => rfl
    | some o =>
      obtain ⟨t, N⟩ := o
      show sN (cond (decide (nI t = srt)) (feR _ N n.toNatClampNeg p 0 σ) (-13, σ)).2 = _
      cases decide (nI t = srt) with
      | false => rfl
      | true => exact N_feR _ _ _ _
theorem N_rnL {n : Nat} {b : Nat → Nat} {tl : Bool} : ∀ (f p : Nat) (σ : St), sN (rnL n b tl f p σ).2.1 = sN σ := by
  intro f
  induction f with
  | zero => intro p σ; rfl
  | succ f ih =>
    intro p σ
    rw [rnL_s]
    have e : sN (cond tl (lnT n b p σ) σ) = sN σ := by
      cases tl with
      | false => rfl
      | true => exact lnT_N
    cases ((lnE n b (sN σ) (true, p)).1 && decide ((lnE n b (sN σ) (true, p)).2 < n)) with
    | true => exact (ih _ _).trans e
    | false =>
      show sN (cond (tl && (lnE n b (sN σ) (true, p)).1) (lnT n b p σ) σ) = sN σ
      cases (tl && (lnE n b (sN σ) (true, p)).1) with
      | false => rfl
      | true => exact lnT_N
theorem N_street {n : Nat} {b : Nat → Nat} {σ : St} : sN (aStreet n b σ).2 = sN σ := by
  unfold aStreet
  cases (rnL n b false 161 0 σ).1.1 with
  | true => exact N_rnL _ _ _
  | false => rfl
theorem wfk_N {σ σ' : St} {T : Nat} {kp : Option (St × Nat)} (h : sN σ ≤ sN σ') (z : wfk σ T kp) : wfk σ' T kp := by
  cases kp with
  | none => trivial
  | some x => exact ⟨z.1, Nat.le_trans z.2.1 h, z.2.2⟩
theorem wfk_T {σ : St} {T T' : Nat} {kp : Option (St × Nat)} (h : T ≤ T') (z : wfk σ T kp) : wfk σ T' kp := by
  cases kp with
  | none => trivial
  | some x => exact ⟨z.1, z.2.1, Nat.lt_of_lt_of_le z.2.2 h⟩
theorem T_text {n : Nat} {b : Nat → Nat} {T : Nat} {V : Tx} : T ≤ (aText n b T V).2.1 := by
  unfold aText
  by_cases h : T < 6
  · rw [if_pos h]
    cases (ptx (tkc n b)).1.1 with
    | true => exact Nat.le_succ _
    | false => exact Nat.le_refl _
  · rw [if_neg h]
    exact Nat.le_refl _
theorem wft_0 {b : Nat → Nat} : wft 0 b := ⟨Nat.zero_le _, fun i hi => absurd hi (Nat.not_lt_zero _)⟩
theorem wft_text {n : Nat} {b : Nat → Nat} (zt : wft n b) {T : Nat} {V : Tx} : wft (aText n b T V).2.2.2 b := by
  unfold aText
  by_cases h : T < 6
  · rw [if_pos h]
    cases (ptx (tkc n b)).1.1 with
    | true => exact wft_0
    | false => exact wft_0
  · rw [if_neg h]
    exact zt
theorem wf_step {σ : St} (zw : wf σ) {V : Tx} {r : Nat} {p : Int32} : wf (sSg σ (aStep V r σ p).2) := by
  unfold aStep
  cases inb p (sN σ) with
  | false => exact wf_sg zw zw.2.1.2.1
  | true => exact tW_sg zw _
theorem wfz_cpg {σ : St} (zw : wf σ) {z : Cz} (hz : wfz z) {h : Hz} (hw : wfh h) {x y : Int32} : wfz (sCpg σ z h x y) := by
  unfold sCpg
  by_cases c : aCpg σ z h x y < 0
  · rw [if_pos c]; exact hz
  · rw [if_neg c]
    unfold aCpg at c
    cases hc : (inb x 6 && inb y 4) with
    | false => rw [hc] at c; exact absurd (show (-2 : Int32) < 0 by decide) c
    | true =>
      rw [hc] at c
      rw [Bool.and_eq_true] at hc
      have c : ¬ aCm1 σ z h y.toNatClampNeg (h.1 y.toNatClampNeg) < 0 := c
      cases ho : h.1 y.toNatClampNeg with
      | none => rw [ho] at c; exact absurd (show (-11 : Int32) < 0 by decide) c
      | some o =>
        obtain ⟨t, n⟩ := o
        rw [ho] at c
        have c : ¬ cond (decide (n = sN σ) && tlc h y.toNatClampNeg n) (cond (decide (zN z < 10)) (nI (zN z)) (-4)) (-2) < 0 := c
        cases h1 : (decide (n = sN σ) && tlc h y.toNatClampNeg n) with
        | false => rw [h1] at c; exact absurd (show (-2 : Int32) < 0 by decide) c
        | true =>
          rw [h1] at c
          cases h2 : decide (zN z < 10) with
          | false => rw [h2] at c; exact absurd (show (-4 : Int32) < 0 by decide) c
          | true =>
            rw [Bool.and_eq_true, decide_eq_true_eq] at h1
            obtain ⟨x', hx', rfl⟩ := inb_of hc.1 (by decide)
            exact wfz_add hz (of_decide_eq_true h2) (by rw [nI_clamp (by omega)]; exact hx') zw.1 (fun p => cvO_isc (by rw [← h1.1]; exact h1.2) p)
theorem T_text6 {n : Nat} {b : Nat → Nat} {T : Nat} {V : Tx} (hT : T ≤ 6) : (aText n b T V).2.1 ≤ 6 := by
  unfold aText
  by_cases h : T < 6
  · rw [if_pos h]
    cases (ptx (tkc n b)).1.1 with
    | true => exact h
    | false => exact hT
  · rw [if_neg h]
    exact hT
theorem wf_aBack {σ : St} (zw : wf σ) {T r : Nat} (hr : r < T) {kp : Option (St × Nat)} (zk : wfk σ T kp) : wf (aBack σ r kp).2.1 ∧ sN (aBack σ r kp).2.1 = sN σ ∧ (aBack σ r kp).2.2 < T := by
  cases kp with
  | none => exact ⟨zw, rfl, hr⟩
  | some x => exact ⟨wf_back zw zk.1 zk.2.1, rfl, zk.2.2⟩
