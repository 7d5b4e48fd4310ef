/-! the class's person, set, feel, felt, between -/
theorem CS_frI {I J : am_I} {σ : St} {l : List Nat} (hl : ∀ q, q ∈ l → q ∉ [1, 2, 3, 7, 8, 9, 10, 11, 12, 13]) (h : am_fr l I J) (zC : CS I σ) : CS J σ := CS_of (fun q hq => h q (fun z => hl q z hq)) zC
def sAdd (σ : St) (v : Int32) : St := ((sN σ + 1, sM σ), (sL σ, sG σ), (sS σ, sT σ, sK σ), (fup (sP σ) (sN σ) v, fup (sD σ) (sN σ) (-1)))
def sPP (σ : St) (P D : Nat → Int32) : St := ((sN σ, sM σ), (sL σ, sG σ), (sS σ, sT σ, sK σ), (P, D))
def aPerson (σ : St) (v : Int32) : Int32 × St := cond (inb v 100) (cond (decide (sN σ < 9)) (nI (sN σ), sAdd σ v) (-4, σ)) (-2, σ)
theorem wf_add {σ : St} (zw : wf σ) (h : sN σ < 9) {v : Int32} (hv : inb v 100 = true) : wf (sAdd σ v) := by
  refine ⟨h, ⟨fun f hf => ?_, zw.2.1.2.1, zw.2.1.2.2.1, zw.2.1.2.2.2⟩, fun p hp => ?_⟩
  · have := zw.2.1.1 f hf
    refine ⟨this.1, ?_⟩
    show sG σ f < sN σ + 1
    omega
  · show inb (fup (sP σ) (sN σ) v p) 100 = true ∧ (fup (sD σ) (sN σ) (-1) p = -1 ∨ fup (sD σ) (sN σ) (-1) p = 0 ∨ fup (sD σ) (sN σ) (-1) p = 1)
    by_cases e : p = sN σ
    · rw [e, fup_self, fup_self]; exact ⟨hv, Or.inl rfl⟩
    · rw [fup_ne e, fup_ne e]
      exact zw.2.2 p (by have : p < sN σ + 1 := hp; omega)
theorem wf_aPerson {σ : St} (zw : wf σ) (v : Int32) : wf (aPerson σ v).2 := by
  unfold aPerson
  cases hv : inb v 100 with
  | false => exact zw
  | true =>
    by_cases h : sN σ < 9
    · rw [decide_eq_true h]; exact wf_add zw h hv
    · rw [decide_eq_false h]; exact zw
theorem r_add {E : am_E} (zi : am_inj E) {k : Nat} {σ : St} {I : am_I} (zC : CS I σ) (w : Int64) (h : sN σ < 9) (v : Int32) :
    am_Ret E k Y_People_add [.ref 1, .int v] I w (fun q I' w' => q = some (.int (nI (sN σ))) ∧ w' = w ∧ CS I' (sAdd σ v) ∧ am_fr [1, 2, 3] I I') := by
  refine am_intro (pv_People_add E k) (by decide) zi ?_ rfl rfl ?_
  · rintro _ _ _ ⟨rfl, -⟩; rfl
  intro S hS
  have c1 := zC.1.1
  have bd : vp_in (I 1 0) 9 := by rw [c1]; exact vp_in_nI h (by omega)
  refine am_at hS (fun _ => false) 60 0 ?_
  refine ⟨bd, ?_⟩
  refine ⟨bd, ?_⟩
  rw [c1, nI_clamp (by omega)]
  rw [show am_up I 2 (sN σ) v 1 0 = nI (sN σ) by rw [am_up_ne (by decide)]; exact c1, nI_clamp (by omega)]
  have e1 : am_up (am_up (am_up I 2 (sN σ) v) 3 (sN σ) (-1)) 1 0 (am_up (am_up I 2 (sN σ) v) 3 (sN σ) (-1) 1 0 + 1) 1 0 = nI (sN σ + 1) := by
    rw [am_up_fup, fup_self, am_up_ne (by decide), am_up_ne (by decide), c1]
    exact nI_1 _
  refine ⟨?_, rfl, ⟨⟨e1, fun p hp => ?_⟩, ?_⟩, am_fr.up (am_fr.up (am_fr.up am_fr.refl (by decide)) (by decide)) (by decide)⟩
  · rw [e1]
    exact congrArg (fun z => some (Value.int z)) (nI_pred _)
  · have hp1 : p < sN σ + 1 := hp
    rw [am_up_ne (by decide), am_up_ne (by decide), am_up_fup, am_up_ne (by decide), am_up_fup, am_up_ne (by decide)]
    show fup (I 2) (sN σ) v p = fup (sP σ) (sN σ) v p ∧ fup (I 3) (sN σ) (-1) p = fup (sD σ) (sN σ) (-1) p
    by_cases e : p = sN σ
    · rw [e]; simp only [fup_self]; exact ⟨trivial, trivial⟩
    · simp only [fup_ne e]; exact zC.1.2 p (by omega)
  · have hh : ∀ q, q ∉ [1, 2, 3] → am_up (am_up (am_up I 2 (sN σ) v) 3 (sN σ) (-1)) 1 0 (am_up (am_up I 2 (sN σ) v) 3 (sN σ) (-1) 1 0 + 1) q = I q := am_fr.up (am_fr.up (am_fr.up am_fr.refl (by decide)) (by decide)) (by decide)
    rw [hh 7 (by decide), hh 8 (by decide), hh 9 (by decide), hh 10 (by decide), hh 11 (by decide), hh 12 (by decide), hh 13 (by decide)]
    exact zC.2
theorem c_person {E : am_E} (zi : am_inj E) {k : Nat} (hk : 1 ≤ k) {σ : St} (zw : wf σ) {I : am_I} (zC : CS I σ) (w : Int64) (v : Int32) :
    am_Ret E k Y_TC_person [.ref 0, .int v] I w (fun q I' w' => q = some (.int (aPerson σ v).1) ∧ w' = w ∧ CS I' (aPerson σ v).2 ∧ am_fr [1, 2, 3] I I') := by
  refine am_intro (pv_TC_person E k) (by decide) zi ?_ rfl rfl ?_
  · rintro _ _ _ ⟨rfl, -⟩; rfl
  intro S hS
  have h9 := zw.1
  have c1 := zC.1.1
  refine am_at hS (fun _ => false) 60 0 ?_
  refine ⟨_, _, (by omega : k - 1 < k), r_isPrice zi v I w, am_elim ?_⟩
  unfold aPerson
  refine ⟨fun h4 => ?_, fun h4 => ?_⟩
  · rw [bi_eq0] at h4
    rw [h4]
    exact ⟨rfl, rfl, zC, am_fr.refl⟩
  · rw [bi_eq0, Bool.not_eq_false] at h4
    rw [h4]
    by_cases h : sN σ < 9
    · rw [decide_eq_true h]
      refine ⟨fun _ => ?_, fun q => absurd (show I 1 0 < 9 by rw [c1]; exact nI_lt h (by decide)) q⟩
      refine ⟨_, _, (by omega : k - 1 < k), r_add zi zC w h v, ?_⟩
      rintro _ I1 w1 ⟨rfl, rfl, z1, f1⟩
      exact ⟨rfl, rfl, z1, f1⟩
    · rw [decide_eq_false h]
      refine ⟨fun q => absurd q (by show ¬ I 1 0 < nI 9; rw [c1]; exact nI_nlt (by omega) (by omega)), fun _ => ⟨rfl, rfl, zC, am_fr.refl⟩⟩
/-- -1, 0, 1 -/
def isl (v : Int32) : Bool := decide (v = -1) || (decide (v = 0) || decide (v = 1))
def aSet (σ : St) (u x v : Int32) : Int32 × St := cond (inb x (sN σ)) (cond (decide (u = 0) && inb v 100) (sP σ x.toNatClampNeg, sPP σ (fup (sP σ) x.toNatClampNeg v) (sD σ)) (cond (decide (u = 1) && isl v) (sD σ x.toNatClampNeg, sPP σ (sP σ) (fup (sD σ) x.toNatClampNeg v)) (-5, σ))) (-5, σ)
theorem isl_of {v : Int32} (h : isl v = true) : v = -1 ∨ v = 0 ∨ v = 1 := by
  unfold isl at h
  rw [Bool.or_eq_true, Bool.or_eq_true, decide_eq_true_eq, decide_eq_true_eq, decide_eq_true_eq] at h
  exact h
theorem wf_pp {σ : St} {P D : Nat → Int32} (zw : wf σ) (h : ∀ p, p < sN σ → inb (P p) 100 = true ∧ (D p = -1 ∨ D p = 0 ∨ D p = 1)) : wf (sPP σ P D) := ⟨zw.1, ⟨zw.2.1.1, zw.2.1.2.1, zw.2.1.2.2.1, zw.2.1.2.2.2⟩, h⟩
theorem wf_aSet {σ : St} (zw : wf σ) (u x v : Int32) : wf (aSet σ u x v).2 := by
  unfold aSet
  cases hx : inb x (sN σ) with
  | false => exact zw
  | true =>
    cases h1 : (decide (u = 0) && inb v 100) with
    | true =>
      rw [Bool.and_eq_true] at h1
      refine wf_pp zw (fun p hp => ⟨?_, (zw.2.2 p hp).2⟩)
      by_cases e : p = x.toNatClampNeg
      · rw [e, fup_self]; exact h1.2
      · rw [fup_ne e]; exact (zw.2.2 p hp).1
    | false =>
      cases h2 : (decide (u = 1) && isl v) with
      | true =>
        rw [Bool.and_eq_true] at h2
        refine wf_pp zw (fun p hp => ⟨(zw.2.2 p hp).1, ?_⟩)
        by_cases e : p = x.toNatClampNeg
        · rw [e, fup_self]; exact isl_of h2.2
        · rw [fup_ne e]; exact (zw.2.2 p hp).2
      | false => exact zw
theorem CS_pp {I J : am_I} {σ : St} {P D : Nat → Int32} (h : ∀ q, q ∈ [1, 7, 8, 9, 10, 11, 12, 13] → J q = I q) (hp : ∀ p, p < sN σ → J 2 p = P p ∧ J 3 p = D p) (zC : CS I σ) : CS J (sPP σ P D) := by
  refine ⟨⟨?_, hp⟩, ?_⟩
  · rw [h 1 (by decide)]; exact zC.1.1
  · rw [h 7 (by decide), h 8 (by decide), h 9 (by decide), h 10 (by decide), h 11 (by decide), h 12 (by decide), h 13 (by decide)]
    exact zC.2
theorem c_set {E : am_E} (zi : am_inj E) {k : Nat} (hk : 1 ≤ k) {σ : St} (zw : wf σ) {I : am_I} (zC : CS I σ) (w : Int64) (u x v : Int32) :
    am_Ret E k Y_TC_set [.ref 0, .int u, .int x, .int v] I w (fun q I' w' => q = some (.int (aSet σ u x v).1) ∧ w' = w ∧ CS I' (aSet σ u x v).2 ∧ am_fr [2, 3] I I') := by
  refine am_intro (pv_TC_set E k) (by decide) zi ?_ rfl rfl ?_
  · rintro _ _ _ ⟨rfl, -⟩; rfl
  intro S hS
  have h9 := zw.1
  have c1 := zC.1.1
  refine am_at hS (fun t => Nat.beq t 49) 60 0 ?_
  refine ⟨_, _, (by omega : k - 1 < k), r_hasP zi (by omega) x I w c1, am_elim ?_⟩
  unfold aSet
  refine ⟨fun h8 => ?_, fun h8 => ?_⟩
  · rw [bi_eq0] at h8
    rw [h8]
    exact ⟨rfl, rfl, zC, am_fr.refl⟩
  · rw [bi_eq0, Bool.not_eq_false] at h8
    obtain ⟨p, hp, rfl⟩ := inb_of h8 (by omega)
    have bd : vp_in (nI p) 9 := vp_in_nI (by omega) (by omega)
    have sto : (decide (u = 0) && inb v 100) = false → u = 1 → isl v = true → some (Value.int (I 3 p)) = some (.int (aSet σ u (nI p) v).1) ∧ w = w ∧ CS (am_up I 3 p v) (aSet σ u (nI p) v).2 ∧ am_fr [2, 3] I (am_up I 3 p v) := fun e1 e2 e3 => by
      unfold aSet
      rw [h8, e1, e3, decide_eq_true e2, nI_clamp (by omega), (zC.1.2 p hp).2]
      refine ⟨rfl, rfl, CS_pp (fun q hq => am_up_ne (by rintro rfl; exact absurd hq (by decide))) (fun g hg => ?_) zC, am_fr.up am_fr.refl (by decide)⟩
      rw [am_up_ne (by decide), am_up_fup]
      refine ⟨(zC.1.2 g hg).1, ?_⟩
      by_cases e : g = p
      · rw [e, fup_self, fup_self]
      · rw [fup_ne e, fup_ne e]; exact (zC.1.2 g hg).2
    have nos : (decide (u = 0) && inb v 100) = false → (decide (u = 1) && isl v) = false → some (Value.int (-5)) = some (.int (aSet σ u (nI p) v).1) ∧ w = w ∧ CS I (aSet σ u (nI p) v).2 ∧ am_fr [2, 3] I I := fun e1 e2 => by
      unfold aSet
      rw [h8, e1, e2]
      exact ⟨rfl, rfl, zC, am_fr.refl⟩
    have tail : (decide (u = 0) && inb v 100) = false → S 49 [some (.ref 0), some (.int u), some (.int (nI p)), some (.int v), none] [] I w := fun e1 => by
      refine am_at hS (fun _ => false) 80 49 ?_
      refine ⟨fun h51 => ?_, fun h51 => ?_⟩
      · refine ⟨fun h56 => ?_, fun h56 => ?_⟩
        · refine ⟨bd, ?_⟩
          refine ⟨bd, ?_⟩
          rw [nI_clamp (by omega)]
          exact sto e1 h51 (by rw [isl, decide_eq_true h56]; rfl)
        · refine ⟨fun h60 => ?_, fun h60 => ?_⟩
          · refine ⟨bd, ?_⟩
            refine ⟨bd, ?_⟩
            rw [nI_clamp (by omega)]
            exact sto e1 h51 (by rw [isl, decide_eq_true h60, decide_eq_false h56]; rfl)
          · refine ⟨fun h65 => ?_, fun h65 => ?_⟩
            · refine ⟨bd, ?_⟩
              refine ⟨bd, ?_⟩
              rw [nI_clamp (by omega)]
              exact sto e1 h51 (by rw [isl, decide_eq_true h65, decide_eq_false h56, decide_eq_false h60]; rfl)
            · exact nos e1 (by rw [isl, decide_eq_false h65, decide_eq_false h56, decide_eq_false h60]; exact Bool.and_false _)
      · exact nos e1 (by rw [decide_eq_false h51]; rfl)
    rw [h8]
    refine ⟨fun h15 => ?_, fun h15 => ?_⟩
    · refine ⟨_, _, (by omega : k - 1 < k), r_isPrice zi v I w, am_elim ?_⟩
      refine ⟨fun h22 => ?_, fun h22 => ?_⟩
      · rw [bi_eq0] at h22
        have := tail (by rw [h22]; exact Bool.and_false _)
        unfold aSet at hS
        rw [h8] at hS
        exact this
      · rw [bi_eq0, Bool.not_eq_false] at h22
        refine ⟨bd, ?_⟩
        refine ⟨bd, ?_⟩
        rw [nI_clamp (by omega), h22, decide_eq_true h15, (zC.1.2 p hp).1]
        refine ⟨rfl, rfl, CS_pp (fun q hq => am_up_ne (by rintro rfl; exact absurd hq (by decide))) (fun g hg => ?_) zC, am_fr.up am_fr.refl (by decide)⟩
        rw [am_up_fup, am_up_ne (by decide)]
        refine ⟨?_, (zC.1.2 g hg).2⟩
        by_cases e : g = p
        · rw [e, fup_self, fup_self]
        · rw [fup_ne e, fup_ne e]; exact (zC.1.2 g hg).1
    · exact tail (by rw [decide_eq_false h15]; rfl)

