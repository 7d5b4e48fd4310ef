/-! CAMPINGS: camping: the class's -/
def zAdd (z : Cz) (kd n : Nat) (cv : Nat → Nat) : Cz := (zN z + 1, fup (zK z) (zN z) kd, fup (zS z) (zN z) n, fup (zV z) (zN z) cv)
theorem wfz_add {z : Cz} (hz : wfz z) (h10 : zN z < 10) {kd n : Nat} {cv : Nat → Nat} (hk : kd < 6) (hn : n ≤ 9) (hv : ∀ p, isc (cv p)) : wfz (zAdd z kd n cv) := by
  refine ⟨h10, fun c hc => ?_⟩
  have hc : c < zN z + 1 := hc
  show fup (zK z) (zN z) kd c < 6 ∧ fup (zS z) (zN z) n c ≤ 9 ∧ ∀ p, isc (fup (zV z) (zN z) cv c p)
  by_cases e : c = zN z
  · rw [e, fup_self, fup_self, fup_self]
    exact ⟨hk, hn, hv⟩
  · rw [fup_ne e, fup_ne e, fup_ne e]
    exact hz.2 c (by omega)
theorem zA_new {z : Cz} {kd n : Nat} {cv : Nat → Nat} {p : Nat} : zA (zAdd z kd n cv) (zN z) p = if p < n then cv p else 0 := by
  show (if p < fup (zS z) (zN z) n (zN z) then fup (zV z) (zN z) cv (zN z) p else 0) = _
  rw [fup_self, fup_self]
theorem zA_old {z : Cz} {kd n : Nat} {cv : Nat → Nat} {c : Nat} (h : c ≠ zN z) : zA (zAdd z kd n cv) c = zA z c := by
  funext p
  show (if p < fup (zS z) (zN z) n c then fup (zV z) (zN z) cv c p else 0) = _
  rw [fup_ne h, fup_ne h]
  rfl
theorem cZ_add {I : am_I} {z : Cz} (hZ : cZ I z) (h10 : zN z < 10) {kd n s : Nat} {cv : Nat → Nat} (hk : kd < 6) (hn : n ≤ 9) (hv : ∀ p, isc (cv p)) (hcv : ∀ i, i < n → I (81 + 2 * s) i = nI (cv i)) :
    cZ (am_up (am_cpI (am_up (am_up I (49 + 2 * zN z) 3 (nI kd)) (49 + 2 * zN z) 4 (nI n)) (81 + 2 * s) (50 + 2 * zN z) 0 0 n) 0 11 (nI (zN z + 1))) (zAdd z kd n cv) := by
  refine ⟨am_seq, fun c hc => ?_⟩
  have hc : c < zN z + 1 := hc
  by_cases e : c = zN z
  · have eK : zK (zAdd z kd n cv) c = kd := by rw [e]; exact fup_self
    have eS : zS (zAdd z kd n cv) c = n := by rw [e]; exact fup_self
    rw [eK, eS, e]
    have j4 : am_up (am_cpI (am_up (am_up I (49 + 2 * zN z) 3 (nI kd)) (49 + 2 * zN z) 4 (nI n)) (81 + 2 * s) (50 + 2 * zN z) 0 0 n) 0 11 (nI (zN z + 1)) (49 + 2 * zN z) 4 = nI n := by
      rw [am_up_ne (show 49 + 2 * zN z ≠ 0 by omega), am_cpI_ne (show 49 + 2 * zN z ≠ 50 + 2 * zN z by omega), am_seq]
    refine ⟨⟨hk, fun p => ?_, ?_, n, hn, j4, fun p hp => ⟨fun hlt => ?_, fun hge => ?_⟩⟩, j4⟩
    · rw [zA_new]
      split
      · exact hv p
      · exact Or.inl (by decide)
    · rw [am_up_ne (show 49 + 2 * zN z ≠ 0 by omega), am_cpI_ne (show 49 + 2 * zN z ≠ 50 + 2 * zN z by omega), am_sne (by decide), am_seq]
    · rw [zA_new, if_pos hlt, show 49 + 2 * zN z + 1 = 50 + 2 * zN z by omega, am_up_ne (show 50 + 2 * zN z ≠ 0 by omega), cp_at hlt]
      by_cases q : 81 + 2 * s = 49 + 2 * zN z
      · omega
      · rw [am_up_ne q, am_up_ne q]
        exact hcv p hlt
    · rw [zA_new, if_neg (by omega)]
  · have eK : zK (zAdd z kd n cv) c = zK z c := fup_ne e
    have eS : zS (zAdd z kd n cv) c = zS z c := fup_ne e
    obtain ⟨g1, g2⟩ := hZ.2 c (by omega)
    have k1 : am_up (am_cpI (am_up (am_up I (49 + 2 * zN z) 3 (nI kd)) (49 + 2 * zN z) 4 (nI n)) (81 + 2 * s) (50 + 2 * zN z) 0 0 n) 0 11 (nI (zN z + 1)) (49 + 2 * c) = I (49 + 2 * c) := by
      rw [am_up_ne (show 49 + 2 * c ≠ 0 by omega), am_cpI_ne (show 49 + 2 * c ≠ 50 + 2 * zN z by omega), am_up_ne (show 49 + 2 * c ≠ 49 + 2 * zN z by omega), am_up_ne (show 49 + 2 * c ≠ 49 + 2 * zN z by omega)]
    have k2 : am_up (am_cpI (am_up (am_up I (49 + 2 * zN z) 3 (nI kd)) (49 + 2 * zN z) 4 (nI n)) (81 + 2 * s) (50 + 2 * zN z) 0 0 n) 0 11 (nI (zN z + 1)) (49 + 2 * c + 1) = I (49 + 2 * c + 1) := by
      rw [am_up_ne (show 49 + 2 * c + 1 ≠ 0 by omega), am_cpI_ne (show 49 + 2 * c + 1 ≠ 50 + 2 * zN z by omega), am_up_ne (show 49 + 2 * c + 1 ≠ 49 + 2 * zN z by omega), am_up_ne (show 49 + 2 * c + 1 ≠ 49 + 2 * zN z by omega)]
    rw [eK, eS, zA_old e]
    exact ⟨cpO_of g1 (by rw [k1]) (by rw [k1]) (fun p _ => by rw [k2]), by rw [k1]; exact g2⟩
def aCm1 (σ : St) (z : Cz) (h : Hz) (s : Nat) (o : Option (Nat × Nat)) : Int32 := match o with
  | none => -11
  | some (_, n) => cond (decide (n = sN σ) && tlc h s n) (cond (decide (zN z < 10)) (nI (zN z)) (-4)) (-2)
def aCpg (σ : St) (z : Cz) (h : Hz) (x y : Int32) : Int32 := cond (inb x 6 && inb y 4) (aCm1 σ z h y.toNatClampNeg (h.1 y.toNatClampNeg)) (-2)
def cvO (h : Hz) (s n p : Nat) : Nat := if p < n then (h.2 s p).toNatClampNeg else 0
def sCpg (σ : St) (z : Cz) (h : Hz) (x y : Int32) : Cz := if aCpg σ z h x y < 0 then z else zAdd z x.toNatClampNeg (sN σ) (cvO h y.toNatClampNeg (sN σ))
def fCp : List Nat := [49, 50, 51, 52, 53, 54, 55, 56, 57, 58, 59, 60, 61, 62, 63, 64, 65, 66, 67, 68]
theorem cvO_isc {h : Hz} {s n : Nat} (e : tlc h s n = true) (p : Nat) : isc (cvO h s n p) := by
  unfold cvO
  split
  · next q =>
    obtain ⟨x, hx, ex⟩ := icp_of (tlc_all e p q)
    have := isc_lt hx
    rw [ex, nI_clamp (by omega)]
    exact hx
  · exact Or.inl (by decide)
theorem cvO_at {h : Hz} {s n : Nat} (e : tlc h s n = true) {p : Nat} (hp : p < n) : h.2 s p = nI (cvO h s n p) := by
  obtain ⟨x, hx, ex⟩ := icp_of (tlc_all e p hp)
  have := isc_lt hx
  unfold cvO
  rw [if_pos hp, ex, nI_clamp (by omega)]
theorem c_camping {E : am_E} (zi : am_inj E) {k : Nat} (hk : 2 ≤ k) {σ : St} (zw : wf σ) {I : am_I} (zC : CS I σ) (w : Int64) {z : Cz} (hz : wfz z) (hZ : cZ I z) {h : Hz} (hw : wfh h) (hI : hC I h) (x y : Int32) :
    am_Ret E k Y_TC_camping [.ref 0, .int x, .int y] I w (fun q I' w' => q = some (.int (aCpg σ z h x y)) ∧ w' = w ∧ cZ I' (sCpg σ z h x y) ∧ am_fs 0 [11] fCp I I') := by
  refine am_intro (pv_TC_camping E k) (by decide) zi ?_ rfl rfl ?_
  · rintro _ _ _ ⟨rfl, -⟩; rfl
  intro S hS
  have h9 := zw.1
  have hz1 := hz.1
  have bad : ∀ v, v < 0 → aCpg σ z h x y = v → am_po (fun q I' w' => q = some (.int (aCpg σ z h x y)) ∧ w' = w ∧ cZ I' (sCpg σ z h x y) ∧ am_fs 0 [11] fCp I I') [] [.int v] I w := fun v hv e => by
    have e3 : sCpg σ z h x y = z := if_pos (by rw [e]; exact hv)
    exact ⟨congrArg (fun y => some (Value.int y)) e.symm, rfl, by rw [e3]; exact hZ, am_fs.refl⟩
  refine am_at hS (fun _ => false) 60 0 ?_
  refine ⟨_, _, (by omega : k - 1 < k), r_isKind zi x I w, am_elim ?_⟩
  refine ⟨fun g => ?_, fun g => ?_⟩
  · rw [bi_eq0] at g
    exact bad (-2) (by decide) (by unfold aCpg; rw [g]; rfl)
  rw [bi_eq0, Bool.not_eq_false] at g
  refine ⟨_, _, (by omega : k - 1 < k), r_isSheet zi y I w, am_elim ?_⟩
  refine ⟨fun g2 => ?_, fun g2 => ?_⟩
  · rw [bi_eq0] at g2
    exact bad (-2) (by decide) (by unfold aCpg; rw [g2, Bool.and_false]; rfl)
  rw [bi_eq0, Bool.not_eq_false] at g2
  obtain ⟨kd, hkd, rfl⟩ := inb_of g (by decide)
  obtain ⟨s, hs, rfl⟩ := inb_of g2 (by decide)
  have cs : (nI s).toNatClampNeg = s := nI_clamp (by omega)
  have ck : (nI kd).toNatClampNeg = kd := nI_clamp (by omega)
  have bds : vp_in (nI s) 4 := vp_in_nI (by omega) (by omega)
  have ea : aCpg σ z h (nI kd) (nI s) = aCm1 σ z h s (h.1 s) := by unfold aCpg; rw [g, g2, cs]; rfl
  have ct := r_isThere zi (k := k - 1) w hw hI hs
  have hc : s = 0 ∨ s = 1 ∨ s = 2 ∨ s = 3 := by omega
  cases ho : h.1 s with
  | none =>
    rw [ho] at ct ea
    have b0 := bad (-11) (by decide) ea
    refine ⟨bds, ?_⟩
    rw [cs]
    clear bad bds cs ea g2 ho
    rcases hc with rfl | rfl | rfl | rfl
    all_goals
      refine ⟨_, _, (by omega : k - 1 < k), ct, am_elim ?_⟩
      exact ⟨fun _ => b0, fun q => absurd rfl q⟩
  | some o =>
    obtain ⟨t, n⟩ := o
    obtain ⟨e0, e1, e2⟩ := (hI s hs).2 t n ho
    obtain ⟨ht, hn⟩ := hw s hs t n ho
    have cl := r_tellsCamps zi (k := k - 1) (by omega) w hs hn e1 e2
    rw [ho] at ct ea
    have ea : aCpg σ z h (nI kd) (nI s) = cond (decide (n = sN σ) && tlc h s n) (cond (decide (zN z < 10)) (nI (zN z)) (-4)) (-2) := ea
    have b2 : (decide (n = sN σ) && tlc h s n) = false → am_po (fun q I' w' => q = some (.int (aCpg σ z h (nI kd) (nI s))) ∧ w' = w ∧ cZ I' (sCpg σ z h (nI kd) (nI s)) ∧ am_fs 0 [11] fCp I I') [] [.int (-2)] I w := fun q => bad (-2) (by decide) (by rw [ea, q]; rfl)
    have b4 : (decide (n = sN σ) && tlc h s n) = true → ¬ zN z < 10 → am_po (fun q I' w' => q = some (.int (aCpg σ z h (nI kd) (nI s))) ∧ w' = w ∧ cZ I' (sCpg σ z h (nI kd) (nI s)) ∧ am_fs 0 [11] fCp I I') [] [.int (-4)] I w := fun q q2 => bad (-4) (by decide) (by rw [ea, q, decide_eq_false q2]; rfl)
    have be := fun (q : zN z < 10) (q2 : n ≤ 9) => r_becomeC zi (k := k - 1) (by omega) w q hs q2 e1 (nI kd)
    have e11 := hZ.1
    have p1 := zC.1.1
    have io : zN z < 10 → am_isc 8 (49 + 2 * zN z) = true := fun q => oB_isc (oB_c q)
    have done : zN z < 10 → n = sN σ → tlc h s n = true → am_po (fun q I' w' => q = some (.int (aCpg σ z h (nI kd) (nI s))) ∧ w' = w ∧ cZ I' (sCpg σ z h (nI kd) (nI s)) ∧ am_fs 0 [11] fCp I I') [] [.int (nI (zN z + 1) - 1)] (am_up (am_cpI (am_up (am_up I (49 + 2 * zN z) 3 (nI kd)) (49 + 2 * zN z) 4 (nI n)) (81 + 2 * s) (50 + 2 * zN z) 0 0 n) 0 11 (nI (zN z + 1))) w := by
      intro q1 q2 q3
      have ev : aCpg σ z h (nI kd) (nI s) = nI (zN z) := by rw [ea, decide_eq_true q2, q3, decide_eq_true q1]; rfl
      have es : sCpg σ z h (nI kd) (nI s) = zAdd z kd n (cvO h s n) := by
        unfold sCpg
        rw [ev, if_neg (show ¬ nI (zN z) < (0 : Int32) from nI_nlt (Nat.zero_le _) (by omega)), ck, cs, q2]
      refine ⟨congrArg (fun y => some (Value.int y)) ?_, rfl, ?_, ?_⟩
      · rw [ev, sub_one (by omega) (by omega), Nat.add_sub_cancel]
      · rw [es]
        exact cZ_add hZ q1 hkd (by omega) (cvO_isc q3) (fun i hi => (e2 i hi).trans (cvO_at q3 hi))
      · refine am_fs.upo ⟨fun q h1 h2 => ?_, fun j _ => ?_⟩ (by decide)
        · have hq : q ≠ 49 + 2 * zN z ∧ q ≠ 50 + 2 * zN z := by
            unfold fCp at h1
            simp only [List.mem_cons, List.not_mem_nil, or_false, not_or] at h1
            omega
          rw [am_cpI_ne hq.2, am_up_ne hq.1, am_up_ne hq.1]
        · rw [am_cpI_ne (show 0 ≠ 50 + 2 * zN z by omega), am_up_ne (show 0 ≠ 49 + 2 * zN z by omega), am_up_ne (show 0 ≠ 49 + 2 * zN z by omega)]
    obtain ⟨J, eJ⟩ : ∃ J, J = am_cpI (am_up (am_up I (49 + 2 * zN z) 3 (nI kd)) (49 + 2 * zN z) 4 (nI n)) (81 + 2 * s) (50 + 2 * zN z) 0 0 n := ⟨_, rfl⟩
    rw [← eJ] at done
    have j11 : J 0 11 = nI (zN z) := by rw [eJ, am_cpI_ne (show 0 ≠ 50 + 2 * zN z by omega), am_up_ne (show 0 ≠ 49 + 2 * zN z by omega), am_up_ne (show 0 ≠ 49 + 2 * zN z by omega), e11]
    have be : zN z < 10 → n ≤ 9 → am_Ret E (k - 1) Y_Camping_become [.ref (49 + 2 * zN z), .int (nI kd), .ref (80 + 2 * s)] I w (am_eq none J w) := fun q1 q2 => by
      have hb := be q1 q2
      rw [← eJ] at hb
      exact hb
    have hN : (I (80 + 2 * s) 1 = I 1 0) = (n = sN σ) := by rw [e1, p1, neq (by omega) (by omega)]
    refine ⟨bds, ?_⟩
    rw [cs]
    clear bad ea g2 ho e0 e2 cs bds eJ
    rcases hc with rfl | rfl | rfl | rfl
    all_goals
      refine ⟨_, _, (by omega : k - 1 < k), ct, am_elim ?_⟩
      refine ⟨fun q => absurd (show (1 : Int32) = 0 from q) (by decide), fun _ => ?_⟩
      refine ⟨fun q => ?_, fun q => ?_⟩
      · have q2 : n = sN σ := hN.mp q
        refine ⟨_, _, (by omega : k - 1 < k), cl, am_elim ?_⟩
        refine ⟨fun q3 => ?_, fun q3 => ?_⟩
        · rw [bi_eq0] at q3
          exact b2 (by rw [q3, Bool.and_false])
        · rw [bi_eq0, Bool.not_eq_false] at q3
          refine ⟨fun q1 => ?_, fun q1 => ?_⟩
          · rw [e11] at q1
            have q1 : zN z < 10 := (nlt (b := 10) (by omega) (by omega)).mp q1
            have hd := done q1 q2 q3
            rw [show nI (zN z + 1) - 1 = am_up J 0 11 (nI (zN z + 1)) 0 11 - 1 by rw [am_seq], ← nI_1 (zN z), ← j11] at hd
            refine ⟨by rw [e11]; exact vp_in_nI (by omega) (by omega), ?_⟩
            rw [e11, nI_clamp (show zN z < 2 ^ 31 by omega)]
            refine go2 (io q1) rfl ?_
            refine ⟨_, _, (by omega : k - 1 < k), be q1 (by omega), am_elim ?_⟩
            exact hd
          · rw [e11] at q1
            exact b4 (by rw [decide_eq_true q2, q3]; rfl) (fun z1 => q1 ((nlt (b := 10) (by omega) (by omega)).mpr z1))
      · exact b2 (by rw [decide_eq_false (fun z1 => q (hN.mpr z1))]; rfl)
