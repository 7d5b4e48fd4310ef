/-! the class reads and tells a STREET -/
def okP (s : Bool × Nat) (n : Nat) : Prop := s.1 = true → s.2 ≤ n
theorem r_srLine {E : am_E} (zi : am_inj E) {k : Nat} (hk : 3 ≤ k) {n : Nat} {b : Nat → Nat} {N : Nat} (zt : wft n b) {I : am_I} (zT : tC I n b) (w : Int64) {p : Nat} (hp : p ≤ n) (h3 : I 47 3 = nI p) (hN : N ≤ 9) (h1 : I 1 0 = nI N) :
    am_Ret E k Y_StreetReader_readLine [.ref 47] I w (fun q I' w' => q = some (.int (bi (lnE n b N (true, p)).1)) ∧ w' = w ∧ am_fs 47 [3, 4, 5, 6, 7, 8] [] I I' ∧ I' 47 3 = nI (lnE n b N (true, p)).2 ∧ ((lnE n b N (true, p)).1 = true → I' 47 4 = nI (lnA n b N (true, p)).1 ∧ I' 47 5 = nI (lnB n b N (true, p)).1 ∧ I' 47 6 = cond (lnG n b N (true, p)).1 1 (-1) ∧ I' 47 7 = nI (lnV n b N (true, p)).1 ∧ I' 47 8 = nI (2 * (lnK n b N (true, p)).1.toNat + (lnX n b N (true, p)).1.toNat))) := by
  refine am_intro (pv_StreetReader_readLine E k) (by decide) zi ?_ rfl rfl ?_
  · rintro _ _ _ ⟨rfl, -⟩; exact bi_nr _
  intro S hS
  have P1 : ∀ {J js}, am_fs 47 js [] I J → J 1 0 = nI N := fun h => by rw [h.1 1 List.not_mem_nil (by decide)]; exact h1
  have fail : ∀ J q, am_fs 47 [3, 4, 5, 6, 7, 8] [] I J → J 47 3 = nI q → lnE n b N (true, p) = (false, q) → some (Value.int 0) = some (.int (bi (lnE n b N (true, p)).1)) ∧ w = w ∧ am_fs 47 [3, 4, 5, 6, 7, 8] [] I J ∧ J 47 3 = nI (lnE n b N (true, p)).2 ∧ ((lnE n b N (true, p)).1 = true → J 47 4 = nI (lnA n b N (true, p)).1 ∧ J 47 5 = nI (lnB n b N (true, p)).1 ∧ J 47 6 = cond (lnG n b N (true, p)).1 1 (-1) ∧ J 47 7 = nI (lnV n b N (true, p)).1 ∧ J 47 8 = nI (2 * (lnK n b N (true, p)).1.toNat + (lnX n b N (true, p)).1.toNat)) := fun J q hJ j3 e => by
    rw [e]
    exact ⟨rfl, rfl, hJ, j3, fun z => by cases z⟩
  refine am_at hS (fun _ => false) 120 0 ?_
  have hA := r_srPerson zi (k := k - 1) (by omega) zt zT w hp h3 hN h1 none (fun a q => by cases q)
  have aA : lsP n b N none (true, p) = lnA n b N (true, p) := rfl
  rw [aA] at hA
  refine ⟨_, _, (by omega : k - 1 < k), hA, am_elim ?_⟩
  obtain ⟨J1, e1⟩ : ∃ J1, J1 = am_up (am_up I 47 3 (nI (lnA n b N (true, p)).2.2)) 47 4 (cond (lnA n b N (true, p)).2.1 (nI (lnA n b N (true, p)).1) (-1)) := ⟨_, rfl⟩
  have f1 : am_fs 47 [3, 4, 5, 6, 7, 8] [] I J1 := by rw [e1]; exact am_fs.upo (am_fs.upo am_fs.refl (by decide)) (by decide)
  have j13 : J1 47 3 = nI (lnA n b N (true, p)).2.2 := by rw [e1, am_sne (by decide), am_seq]
  have j14 : J1 47 4 = cond (lnA n b N (true, p)).2.1 (nI (lnA n b N (true, p)).1) (-1) := by rw [e1, am_seq]
  subst e1
  cases hcA : (lnA n b N (true, p)).2.1 with
  | false =>
    rw [hcA] at j14 j13 f1
    refine ⟨fun _ => ?_, fun q => absurd j14 q⟩
    exact fail _ _ f1 j13 (fE_A hcA)
  | true =>
    obtain ⟨a1, a2, a3, a4, a5⟩ := lsP_t hcA
    have b1 : (lnA n b N (true, p)).1 < N := a2
    have b3 : (lnA n b N (true, p)).2.2 = p + 1 := a3
    have b4 : p < n := a4
    rw [hcA] at j14 j13 f1
    have j14' : (am_up (am_up I 47 3 (nI (lnA n b N (true, p)).2.2)) 47 4 (cond true (nI (lnA n b N (true, p)).1) (-1))) 47 4 = nI (lnA n b N (true, p)).1 := j14
    refine ⟨fun q => absurd (j14'.symm.trans q) (nI_ne1 (by omega)), fun _ => ?_⟩
    have eA : ((true, (lnA n b N (true, p)).2.2) : Bool × Nat) = (lnA n b N (true, p)).2 := Prod.ext hcA.symm rfl
    have hG := r_srSign zi (k := k - 1) (by omega) zt (tC_47 f1 zT) w (p := (lnA n b N (true, p)).2.2) (by omega) j13
    rw [eA, show lsG n b (lnA n b N (true, p)).2 = lnG n b N (true, p) from rfl] at hG
    refine ⟨_, _, (by omega : k - 1 < k), hG, ?_⟩
    rintro _ J2 w2 ⟨rfl, rfl, f2, j23, j26⟩
    have g2 := f1.trans (f2.mono (js' := [3, 4, 5, 6, 7, 8]) (l' := []) (by decide) (by decide))
    have j24 : J2 47 4 = nI (lnA n b N (true, p)).1 := by rw [f2.2 4 (by decide)]; exact j14'
    cases hcG : (lnG n b N (true, p)).2.1 with
    | false =>
      refine ⟨fun _ => ?_, fun q => absurd rfl q⟩
      exact fail _ _ g2 j23 (fE_G hcG)
    | true =>
      obtain ⟨c1, c2, c3⟩ := lsG_t hcG
      have d2 : (lnG n b N (true, p)).2.2 = (lnA n b N (true, p)).2.2 + 1 := c2
      have d3 : (lnA n b N (true, p)).2.2 < n := c3
      refine ⟨fun q => absurd (show (1 : Int32) = 0 from q) (by decide), fun _ => ?_⟩
      have eG : ((true, (lnG n b N (true, p)).2.2) : Bool × Nat) = (lnG n b N (true, p)).2 := Prod.ext hcG.symm rfl
      have hB := r_srPerson zi (k := k - 1) (by omega) zt (tC_47 g2 zT) w2 (p := (lnG n b N (true, p)).2.2) (by omega) j23 hN (P1 g2) (some (lnA n b N (true, p)).1) (fun a q => by cases q; omega)
      rw [eG, show lsP n b N (some (lnA n b N (true, p)).1) (lnG n b N (true, p)).2 = lnB n b N (true, p) from rfl] at hB
      refine ⟨_, _, (by omega : k - 1 < k), (by rw [j24]; exact hB), am_elim ?_⟩
      obtain ⟨J3, e3⟩ : ∃ J3, J3 = am_up (am_up J2 47 3 (nI (lnB n b N (true, p)).2.2)) 47 5 (cond (lnB n b N (true, p)).2.1 (nI (lnB n b N (true, p)).1) (-1)) := ⟨_, rfl⟩
      have f3 : am_fs 47 [3, 4, 5, 6, 7, 8] [] I J3 := by rw [e3]; exact am_fs.upo (am_fs.upo g2 (by decide)) (by decide)
      have j33 : J3 47 3 = nI (lnB n b N (true, p)).2.2 := by rw [e3, am_sne (by decide), am_seq]
      have j35 : J3 47 5 = cond (lnB n b N (true, p)).2.1 (nI (lnB n b N (true, p)).1) (-1) := by rw [e3, am_seq]
      have j34 : J3 47 4 = nI (lnA n b N (true, p)).1 := by rw [e3, am_sne (by decide), am_sne (by decide)]; exact j24
      have j36 : J3 47 6 = cond (lnG n b N (true, p)).1 1 (-1) := by rw [e3, am_sne (by decide), am_sne (by decide)]; exact j26 hcG
      subst e3
      cases hcB : (lnB n b N (true, p)).2.1 with
      | false =>
        rw [hcB] at j33 j35 f3
        refine ⟨fun _ => ?_, fun q => absurd j35 q⟩
        exact fail _ _ f3 j33 (fE_B hcB)
      | true =>
        obtain ⟨m1, m2, m3, m4, m5⟩ := lsP_t hcB
        have o2 : (lnB n b N (true, p)).1 < N := m2
        have o3 : (lnB n b N (true, p)).2.2 = (lnG n b N (true, p)).2.2 + 1 := m3
        have o4 : (lnG n b N (true, p)).2.2 < n := m4
        rw [hcB] at j33 j34 j35 j36 f3
        refine ⟨fun q => absurd (j35.symm.trans q) (nI_ne1 (by omega)), fun _ => ?_⟩
        have eB : ((true, (lnB n b N (true, p)).2.2) : Bool × Nat) = (lnB n b N (true, p)).2 := Prod.ext hcB.symm rfl
        have hV := r_srStrength zi (k := k - 1) (by omega) zt (tC_47 f3 zT) w2 (p := (lnB n b N (true, p)).2.2) (by omega) j33
        rw [eB, show lsS n b (lnB n b N (true, p)).2 = lnV n b N (true, p) from rfl] at hV
        refine ⟨_, _, (by omega : k - 1 < k), hV, ?_⟩
        rintro _ J4 w4 ⟨rfl, rfl, f4, j43, j47⟩
        have g4 := f3.trans (f4.mono (js' := [3, 4, 5, 6, 7, 8]) (l' := []) (by decide) (by decide))
        cases hcV : (lnV n b N (true, p)).2.1 with
        | false =>
          refine ⟨fun _ => ?_, fun q => absurd rfl q⟩
          exact fail _ _ g4 j43 (fE_V hcV)
        | true =>
          obtain ⟨v1, v2, v3, v4, v5⟩ := lsS_t hcV
          have x3 : (lnV n b N (true, p)).2.2 ≤ n := v3
          refine ⟨fun q => absurd (show (1 : Int32) = 0 from q) (by decide), fun _ => ?_⟩
          have eV : ((true, (lnV n b N (true, p)).2.2) : Bool × Nat) = (lnV n b N (true, p)).2 := Prod.ext hcV.symm rfl
          have hK := r_srKind zi (k := k - 1) (by omega) zt (tC_47 g4 zT) w4 (p := (lnV n b N (true, p)).2.2) (by omega) j43
          rw [eV, show lsM n b 107 (lnV n b N (true, p)).2 = lnK n b N (true, p) from rfl, show lsM n b 33 (lnK n b N (true, p)).2 = lnX n b N (true, p) from rfl, show lsE n b (lnX n b N (true, p)).2 = lnE n b N (true, p) from rfl] at hK
          refine ⟨_, _, (by omega : k - 1 < k), hK, ?_⟩
          rintro _ J5 w5 ⟨rfl, rfl, f5, j53, j58⟩
          have g5 := g4.trans (f5.mono (js' := [3, 4, 5, 6, 7, 8]) (l' := []) (by decide) (by decide))
          have z4 : J5 47 4 = nI (lnA n b N (true, p)).1 := by rw [f5.2 4 (by decide), f4.2 4 (by decide)]; exact j34
          have z5 : J5 47 5 = nI (lnB n b N (true, p)).1 := by rw [f5.2 5 (by decide), f4.2 5 (by decide)]; exact j35
          have z6 : J5 47 6 = cond (lnG n b N (true, p)).1 1 (-1) := by rw [f5.2 6 (by decide), f4.2 6 (by decide)]; exact j36
          have z7 : J5 47 7 = nI (lnV n b N (true, p)).1 := by rw [f5.2 7 (by decide)]; exact j47 hcV
          cases hcE : (lnE n b N (true, p)).1 with
          | false =>
            refine ⟨fun _ => ?_, fun q => absurd rfl q⟩
            exact ⟨rfl, rfl, g5, j53, fun q => by cases q⟩
          | true =>
            refine ⟨fun q => absurd (show (1 : Int32) = 0 from q) (by decide), fun _ => ?_⟩
            exact ⟨rfl, rfl, g5, j53, fun _ => ⟨z4, z5, z6, z7, j58⟩⟩
/-- telling a LINE -/
def lnT (n : Nat) (b : Nat → Nat) (p : Nat) (σ : St) : St := (sTell σ (lnA n b (sN σ) (true, p)).1 (lnB n b (sN σ) (true, p)).1 (cond (lnG n b (sN σ) (true, p)).1 1 (-1)) (nI (lnV n b (sN σ) (true, p)).1) (2 * (lnK n b (sN σ) (true, p)).1.toNat + (lnX n b (sN σ) (true, p)).1.toNat)).2
theorem sTell_N {σ : St} {a b : Nat} {s t : Int32} {kd : Nat} : sN (sTell σ a b s t kd).2 = sN σ := by
  unfold sTell
  cases sF σ a b <;> rfl
theorem lnT_N {n : Nat} {b : Nat → Nat} {p : Nat} {σ : St} : sN (lnT n b p σ) = sN σ := sTell_N
theorem ln_kd {x y : Bool} : 2 * x.toNat + y.toNat < 4 := by cases x <;> cases y <;> decide
theorem lnT_wf {n : Nat} {b : Nat → Nat} {p : Nat} {σ : St} (zw : wf σ) (h : (lnE n b (sN σ) (true, p)).1 = true) : wf (lnT n b p σ) := by
  obtain ⟨h1, h2, h3, ⟨h4, h5⟩, -⟩ := ln_t h
  refine sTell_wf zw h1 h2 h3 ?_ ⟨by rw [nI_toInt (by omega)]; omega, by rw [nI_toInt (by omega)]; omega⟩ ln_kd
  cases (lnG n b (sN σ) (true, p)).1
  · exact Or.inr rfl
  · exact Or.inl rfl
/-- a run over THE TAPE: whether it is a STREET, where it stops, what is told, how many LINES -/
def rnL (n : Nat) (b : Nat → Nat) (tl : Bool) : Nat → Nat → St → (Bool × Nat) × St × Nat
  | 0, p, σ => ((false, p), σ, 0)
  | f + 1, p, σ => cond ((lnE n b (sN σ) (true, p)).1 && decide ((lnE n b (sN σ) (true, p)).2 < n)) ((rnL n b tl f (lnE n b (sN σ) (true, p)).2 (cond tl (lnT n b p σ) σ)).1, (rnL n b tl f (lnE n b (sN σ) (true, p)).2 (cond tl (lnT n b p σ) σ)).2.1, (rnL n b tl f (lnE n b (sN σ) (true, p)).2 (cond tl (lnT n b p σ) σ)).2.2 + 1) (lnE n b (sN σ) (true, p), cond (tl && (lnE n b (sN σ) (true, p)).1) (lnT n b p σ) σ, 1)
theorem rnL_s {n : Nat} {b : Nat → Nat} {tl : Bool} (f p : Nat) (σ : St) : rnL n b tl (f + 1) p σ = cond ((lnE n b (sN σ) (true, p)).1 && decide ((lnE n b (sN σ) (true, p)).2 < n)) ((rnL n b tl f (lnE n b (sN σ) (true, p)).2 (cond tl (lnT n b p σ) σ)).1, (rnL n b tl f (lnE n b (sN σ) (true, p)).2 (cond tl (lnT n b p σ) σ)).2.1, (rnL n b tl f (lnE n b (sN σ) (true, p)).2 (cond tl (lnT n b p σ) σ)).2.2 + 1) (lnE n b (sN σ) (true, p), cond (tl && (lnE n b (sN σ) (true, p)).1) (lnT n b p σ) σ, 1) := rfl
theorem rnL_same {n : Nat} {b : Nat → Nat} : ∀ (f p : Nat) (σ σ' : St), sN σ' = sN σ → (rnL n b true f p σ').1 = (rnL n b false f p σ).1
  | 0, p, σ, σ', _ => rfl
  | f + 1, p, σ, σ', h => by
    rw [rnL, rnL, h]
    cases ((lnE n b (sN σ) (true, p)).1 && decide ((lnE n b (sN σ) (true, p)).2 < n)) with
    | false => rfl
    | true =>
      rw [cond_true, cond_true]
      exact rnL_same f _ _ _ (lnT_N.trans h)
theorem rnL_fs {n : Nat} {b : Nat → Nat} : ∀ (f p : Nat) (σ : St), (rnL n b false f p σ).2.1 = σ
  | 0, p, σ => rfl
  | f + 1, p, σ => by
    rw [rnL_s]
    cases ((lnE n b (sN σ) (true, p)).1 && decide ((lnE n b (sN σ) (true, p)).2 < n)) with
    | false => rfl
    | true => exact rnL_fs f _ σ
theorem rnL_le {n : Nat} {b : Nat → Nat} : ∀ (f p : Nat) (σ : St), (rnL n b true f p σ).2.2 ≤ f
  | 0, p, σ => Nat.le_refl _
  | f + 1, p, σ => by
    rw [rnL]
    cases ((lnE n b (sN σ) (true, p)).1 && decide ((lnE n b (sN σ) (true, p)).2 < n)) with
    | false => show 1 ≤ f + 1; omega
    | true =>
      have := rnL_le (n := n) (b := b) f (lnE n b (sN σ) (true, p)).2 (cond true (lnT n b p σ) σ)
      show _ + 1 ≤ f + 1
      omega
theorem rnL_wf {n : Nat} {b : Nat → Nat} : ∀ (f p : Nat) (σ : St), wf σ → wf (rnL n b true f p σ).2.1
  | 0, p, σ, h => h
  | f + 1, p, σ, h => by
    rw [rnL]
    cases hc : ((lnE n b (sN σ) (true, p)).1 && decide ((lnE n b (sN σ) (true, p)).2 < n)) with
    | false =>
      show wf (cond (true && (lnE n b (sN σ) (true, p)).1) (lnT n b p σ) σ)
      rw [Bool.true_and]
      cases h2 : (lnE n b (sN σ) (true, p)).1 with
      | false => exact h
      | true => exact lnT_wf h h2
    | true =>
      rw [Bool.and_eq_true] at hc
      exact rnL_wf f _ _ (lnT_wf h hc.1)
theorem CS_47 {I J : am_I} {σ : St} {js : List Nat} (h : am_fs 47 js [] I J) (zC : CS I σ) : CS J σ := CS_of (fun q hq => h.1 q List.not_mem_nil (by rintro rfl; exact absurd hq (by decide))) zC
theorem r_isStreet {E : am_E} (zi : am_inj E) {k : Nat} (hk : 4 ≤ k) {n : Nat} {b : Nat → Nat} (zt : wft n b) {σ : St} (zw : wf σ) {I : am_I} (zC : CS I σ) (zT : tC I n b) (w : Int64) :
    am_Ret E k Y_StreetReader_isStreet [.ref 47] I w (fun q I' w' => q = some (.int (bi (rnL n b false 161 0 σ).1.1)) ∧ w' = w ∧ am_fs 47 [3, 4, 5, 6, 7, 8] [] I I' ∧ I' 47 3 = nI (rnL n b false 161 0 σ).1.2) := by
  refine am_intro (pv_StreetReader_isStreet E k) (by decide) zi ?_ rfl rfl ?_
  · rintro _ _ _ ⟨rfl, -⟩; exact bi_nr _
  intro S hS
  have h16 := zt.1
  have h9 := zw.1
  have loop := down (P := fun t => ∀ J p, am_fs 47 [3, 4, 5, 6, 7, 8] [] I J → J 47 3 = nI p → p ≤ n → (t ≤ p ∧ (0 < t → p < n)) → (rnL n b false 161 0 σ).1 = (rnL n b false (161 - t) p σ).1 → S 7 [some (.ref 47), some (.int (nI t))] [] J w) 160 ?z ?s
  case z =>
    intro J p hJ j3 hp ht e
    exact absurd (ht.2 (by decide)) (by omega)
  case s =>
    intro t ht hn J p hJ j3 hp htp e
    have e161 : 161 - t = (161 - (t + 1)) + 1 := by omega
    rw [e161, rnL_s (161 - (t + 1)) p] at e
    refine am_at hS (fun t => Nat.beq t 7) 80 7 ?_
    refine ⟨fun _ => ?_, fun q => absurd (show nI t < nI 160 from nI_lt ht (by decide)) q⟩
    have hl := r_srLine zi (k := k - 1) (by omega) zt (tC_47 hJ zT) w hp j3 h9 (CS_47 hJ zC).1.1
    refine ⟨_, _, (by omega : k - 1 < k), hl, ?_⟩
    rintro _ J1 w1 ⟨rfl, rfl, f1, j13, -⟩
    have g1 := hJ.trans f1
    have c23 : J1 23 0 = nI n := by rw [g1.1 23 List.not_mem_nil (by decide)]; exact zT.1
    cases hc : (lnE n b (sN σ) (true, p)).1 with
    | false =>
      rw [hc, Bool.false_and, cond_false] at e
      refine ⟨fun _ => ?_, fun q => absurd rfl q⟩
      rw [e]
      exact ⟨by rw [hc]; rfl, rfl, g1, j13⟩
    | true =>
      obtain ⟨-, -, -, -, l5, l6⟩ := ln_t hc
      have l5' : p < (lnE n b (sN σ) (true, p)).2 := l5
      refine ⟨fun q => absurd (show (1 : Int32) = 0 from q) (by decide), fun _ => ?_⟩
      refine ⟨fun h34 => ?_, fun h34 => ?_⟩
      · rw [j13, c23, neq (by omega) (by omega)] at h34
        rw [hc, decide_eq_false (by omega), Bool.true_and, cond_false] at e
        rw [e]
        exact ⟨by rw [hc]; rfl, rfl, g1, j13⟩
      · rw [j13, c23, neq (by omega) (by omega)] at h34
        rw [hc, decide_eq_true (by omega), Bool.true_and, cond_true] at e
        have hgo := hn J1 _ g1 j13 l6 ⟨by omega, fun _ => by omega⟩ e
        rw [← nI_1] at hgo
        exact hgo
  refine am_at hS (fun t => Nat.beq t 7) 80 0 ?_
  exact loop 0 (Nat.zero_le _) _ 0 (am_fs.upo am_fs.refl (by decide)) (by rw [am_seq]; rfl) (Nat.zero_le _) ⟨Nat.le_refl _, fun q => absurd q (by decide)⟩ rfl
theorem CS_fr7 {I J : am_I} (h : am_fr [7, 8, 9, 10, 11, 12, 13] I J) {n : Nat} {b : Nat → Nat} (zT : tC I n b) : tC J n b := ⟨by rw [h 23 (by decide)]; exact zT.1, fun i hi => by rw [h 24 (by decide)]; exact zT.2 i hi⟩
def cStr : List Nat := [7, 8, 9, 10, 11, 12, 13, 47]
theorem r_tellAll {E : am_E} (zi : am_inj E) {k : Nat} (hk : 4 ≤ k) {n : Nat} {b : Nat → Nat} (zt : wft n b) {σ : St} (zw : wf σ) {I : am_I} (zC : CS I σ) (zT : tC I n b) (w : Int64) (hok : (rnL n b true 161 0 σ).1.1 = true) :
    am_Ret E k Y_StreetReader_tellAll [.ref 47] I w (fun q I' w' => q = some (.int (nI (rnL n b true 161 0 σ).2.2)) ∧ w' = w ∧ CS I' (rnL n b true 161 0 σ).2.1 ∧ am_fr cStr I I') := by
  refine am_intro (pv_StreetReader_tellAll E k) (by decide) zi ?_ rfl rfl ?_
  · rintro _ _ _ ⟨rfl, -⟩; rfl
  intro S hS
  have h16 := zt.1
  have kT : ∀ {J}, am_fr cStr I J → tC J n b := fun h => ⟨by rw [h 23 (by decide)]; exact zT.1, fun i hi => by rw [h 24 (by decide)]; exact zT.2 i hi⟩
  -- a LINE and what is behind it
  have step : ∀ t, t < 160 → ∀ J p σ', wf σ' → CS J σ' → am_fr cStr I J → J 47 3 = nI p → p < n → (lnE n b (sN σ') (true, p)).1 = true → (∀ J', CS J' (lnT n b p σ') → am_fr cStr I J' → J' 47 3 = nI (lnE n b (sN σ') (true, p)).2 → S 7 [some (.ref 47), some (.int (nI t + 1))] [] J' w) → S 7 [some (.ref 47), some (.int (nI t))] [] J w := by
    intro t ht J p σ' w' zJ hJ j3 hp hl hgo
    have h9 := w'.1
    obtain ⟨l1, l2, l3, l4, l5, l6⟩ := ln_t hl
    refine am_at hS (fun t => Nat.beq t 7) 120 7 ?_
    refine ⟨fun _ => ?_, fun q => absurd (show nI t < nI 160 from nI_lt ht (by decide)) q⟩
    refine ⟨fun _ => ?_, fun q => absurd (show J 47 3 < J 23 0 by rw [j3, (kT hJ).1]; exact nI_lt hp (by omega)) q⟩
    refine ⟨_, _, (by omega : k - 1 < k), r_srLine zi (by omega) zt (kT hJ) w (by omega) j3 h9 zJ.1.1, ?_⟩
    rintro _ J1 w1 ⟨rfl, rfl, f1, j13, jf⟩
    rw [hl]
    refine ⟨fun q => absurd (show (1 : Int32) = 0 from q) (by decide), fun _ => ?_⟩
    obtain ⟨j4, j5, j6, j7, j8⟩ := jf hl
    have hT := r_tell zi (k := k - 1) w' (CS_47 f1 zJ) w1 (by omega) l1 l2 l3 (cond (lnG n b (sN σ') (true, p)).1 1 (-1)) (nI (lnV n b (sN σ') (true, p)).1) (2 * (lnK n b (sN σ') (true, p)).1.toNat + (lnX n b (sN σ') (true, p)).1.toNat)
    refine ⟨_, _, (by omega : k - 1 < k), (by rw [j4, j5, j6, j7, j8]; exact hT), ?_⟩
    rintro _ J2 w2 ⟨rfl, rfl, z2, f2⟩
    refine hgo J2 z2 (fun q hq => ?_) (by rw [f2 47 (by decide)]; exact j13)
    rw [f2 q (fun z => hq ((by decide : ∀ q, q ∈ [7, 8, 9, 10, 11, 12, 13] → q ∈ cStr) q z)), f1.1 q List.not_mem_nil (by rintro rfl; exact hq (by decide))]
    exact hJ q hq
  have out : ∀ t J σ', CS J σ' → am_fr cStr I J → J 47 3 = nI n → nI t = nI (rnL n b true 161 0 σ).2.2 → σ' = (rnL n b true 161 0 σ).2.1 → S 7 [some (.ref 47), some (.int (nI t))] [] J w := by
    intro t J σ' zJ hJ j3 e1 e2
    refine am_at hS (fun t => Nat.beq t 7) 120 7 ?_
    rw [← e2, ← e1]
    refine ⟨fun _ => ?_, fun _ => ⟨rfl, rfl, zJ, hJ⟩⟩
    refine ⟨fun q => absurd q (by show ¬ J 47 3 < J 23 0; rw [j3, (kT hJ).1]; exact nI_nlt (Nat.le_refl _) (by omega)), fun _ => ⟨rfl, rfl, zJ, hJ⟩⟩
  have loop := down (P := fun t => ∀ J p σ', wf σ' → CS J σ' → am_fr cStr I J → J 47 3 = nI p → p < n → t ≤ p → (rnL n b true (161 - t) p σ').1.1 = true → (rnL n b true 161 0 σ).2.1 = (rnL n b true (161 - t) p σ').2.1 → (rnL n b true 161 0 σ).2.2 = (rnL n b true (161 - t) p σ').2.2 + t → S 7 [some (.ref 47), some (.int (nI t))] [] J w) 160 ?z ?s
  case z =>
    intro J p σ' _ _ _ _ h1 h2
    omega
  case s =>
    intro t ht hn J p σ' w' zJ hJ j3 hp htp e1 e2 e3
    have e161 : 161 - t = (161 - (t + 1)) + 1 := by omega
    rw [e161, rnL_s (161 - (t + 1)) p] at e1 e2 e3
    cases hl : (lnE n b (sN σ') (true, p)).1 with
    | false =>
      rw [hl, Bool.false_and, cond_false] at e1
      have e1' : (lnE n b (sN σ') (true, p)).1 = true := e1
      rw [hl] at e1'
      cases e1'
    | true =>
      obtain ⟨-, -, -, -, l5, l6⟩ := ln_t hl
      have l5' : p < (lnE n b (sN σ') (true, p)).2 := l5
      refine step t ht J p σ' w' zJ hJ j3 hp hl (fun J' zJ' hJ' j3' => ?_)
      by_cases hlt : (lnE n b (sN σ') (true, p)).2 < n
      · rw [hl, decide_eq_true hlt, Bool.true_and, cond_true] at e1 e2 e3
        have hgo := hn J' _ _ (lnT_wf w' hl) zJ' hJ' j3' hlt (by omega) e1 e2 (e3.trans (Nat.succ_add_eq_add_succ _ t))
        rw [← nI_1] at hgo
        exact hgo
      · rw [hl, decide_eq_false hlt, Bool.true_and, cond_false] at e1 e2 e3
        have hq := out (t + 1) J' _ zJ' hJ' (by rw [j3', show (lnE n b (sN σ') (true, p)).2 = n by omega]) (by rw [e3]; show nI (t + 1) = nI (1 + t); rw [Nat.add_comm]) (by rw [e2]; rfl)
        rw [← nI_1] at hq
        exact hq
  have hn0 : 0 < n := by
    apply Classical.byContradiction
    intro q
    have e0 : n = 0 := by omega
    have := hok
    rw [show (161 : Nat) = 160 + 1 from rfl, rnL] at this
    cases hl : (lnE n b (sN σ) (true, 0)).1 with
    | true => have := (ln_t hl).2.2.2.2; omega
    | false =>
      rw [hl, Bool.false_and, cond_false] at this
      have h2 : (lnE n b (sN σ) (true, 0)).1 = true := this
      rw [hl] at h2
      cases h2
  refine am_at hS (fun t => Nat.beq t 7) 80 0 ?_
  exact loop 0 (Nat.zero_le _) _ 0 σ zw (CS_of (fun q hq => am_up_ne (by rintro rfl; exact absurd hq (by decide))) zC) (am_fr.up am_fr.refl (by decide)) (by rw [am_seq]; rfl) hn0 (Nat.le_refl _) hok rfl rfl
def aStreet (n : Nat) (b : Nat → Nat) (σ : St) : Int32 × St := cond (rnL n b false 161 0 σ).1.1 (nI (rnL n b true 161 0 σ).2.2, (rnL n b true 161 0 σ).2.1) (-100 - nI (rnL n b false 161 0 σ).1.2, σ)
theorem aStreet_wf {n : Nat} {b : Nat → Nat} {σ : St} (zw : wf σ) : wf (aStreet n b σ).2 := by
  unfold aStreet
  cases (rnL n b false 161 0 σ).1.1 with
  | true => exact rnL_wf 161 0 σ zw
  | false => exact zw
theorem c_street {E : am_E} (zi : am_inj E) {k : Nat} (hk : 5 ≤ k) {n : Nat} {b : Nat → Nat} (zt : wft n b) {σ : St} (zw : wf σ) {I : am_I} (zC : CS I σ) (zT : tC I n b) (w : Int64) :
    am_Ret E k Y_TC_street [.ref 0] I w (fun q I' w' => q = some (.int (aStreet n b σ).1) ∧ w' = w ∧ CS I' (aStreet n b σ).2 ∧ tC I' 0 b ∧ am_fr (23 :: cStr) I I') := by
  refine am_intro (pv_TC_street E k) (by decide) zi ?_ rfl rfl ?_
  · rintro _ _ _ ⟨rfl, -⟩; rfl
  intro S hS
  unfold aStreet at hS
  refine am_at hS (fun _ => false) 80 0 ?_
  refine ⟨_, _, (by omega : k - 1 < k), r_isStreet zi (by omega) zt zw zC zT w, ?_⟩
  rintro _ J1 w1 ⟨rfl, rfl, f1, j13⟩
  have g1 : am_fr cStr I J1 := fun q hq => f1.1 q List.not_mem_nil (by rintro rfl; exact hq (by decide))
  have up : ∀ {J}, am_fr cStr I J → am_fr (23 :: cStr) I (am_up J 23 0 0) := fun h => am_fr.up (h.mono (fun q hq => List.mem_cons_of_mem _ hq)) (by decide)
  have t0 : ∀ J, tC (am_up J 23 0 0) 0 b := fun J => ⟨by rw [am_seq]; rfl, fun i hi => absurd hi (by omega)⟩
  have cu : ∀ {J σ}, CS J σ → CS (am_up J 23 0 0) σ := fun h => CS_of (fun q hq => am_up_ne (by rintro rfl; exact absurd hq (by decide))) h
  cases hc : (rnL n b false 161 0 σ).1.1 with
  | false =>
    refine ⟨fun _ => ?_, fun q => absurd rfl q⟩
    exact ⟨by rw [j13]; rfl, rfl, cu (CS_47 f1 zC), t0 _, up g1⟩
  | true =>
    refine ⟨fun q => absurd (show (1 : Int32) = 0 from q) (by decide), fun _ => ?_⟩
    refine ⟨_, _, (by omega : k - 1 < k), r_tellAll zi (by omega) zt zw (CS_47 f1 zC) (tC_47 f1 zT) w1 (by rw [rnL_same 161 0 σ σ rfl]; exact hc), ?_⟩
    rintro _ J2 w2 ⟨rfl, rfl, z2, f2⟩
    exact ⟨rfl, rfl, cu z2, t0 _, up (g1.trans f2)⟩

