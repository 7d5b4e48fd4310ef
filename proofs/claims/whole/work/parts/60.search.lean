/-! LEAST and ALL: the search of both -/
def bsN (v : Nat → Option Nat) : Nat → Option Nat × List Nat
  | 0 => (none, [])
  | t + 1 => match v t with
    | none => bsN v t
    | some x => match (bsN v t).1 with
      | none => (some x, [2 * t])
      | some y => if x < y then (some x, [2 * t]) else if x = y then (some y, (bsN v t).2 ++ [2 * t]) else bsN v t
def lsN (v : Nat → Option Nat) : Nat → Option Nat
  | 0 => none
  | t + 1 => match v t with
    | none => lsN v t
    | some x => match lsN v t with
      | none => some x
      | some y => if x < y then some x else some y
def alN (v : Nat → Option Nat) (x : Nat) : Nat → List Nat
  | 0 => []
  | t + 1 => cond (decide (v t = some x)) (alN v x t ++ [2 * t]) (alN v x t)
theorem alN_nil {v : Nat → Option Nat} {x : Nat} : ∀ t, (∀ u, u < t → ¬ v u = some x) → alN v x t = []
  | 0, _ => rfl
  | t + 1, h => by rw [alN, decide_eq_false (h t (by omega))]; exact alN_nil t (fun u hu => h u (by omega))
theorem bsN_spec {v : Nat → Option Nat} : ∀ t, (bsN v t).1 = lsN v t ∧ (∀ x, lsN v t = some x → (bsN v t).2 = alN v x t) ∧ (lsN v t = none → (bsN v t).2 = [] ∧ ∀ u, u < t → v u = none) ∧ ∀ x, lsN v t = some x → ∀ u, u < t → ∀ y, v u = some y → x ≤ y
  | 0 => ⟨rfl, fun x h => (by cases h), fun _ => ⟨rfl, fun u hu => absurd hu (by omega)⟩, fun x h => (by cases h)⟩
  | t + 1 => by
    obtain ⟨i1, i2, i3, i4⟩ := bsN_spec (v := v) t
    cases hv : v t with
    | none =>
      have e1 : bsN v (t + 1) = bsN v t := by rw [bsN, hv]
      have e2 : lsN v (t + 1) = lsN v t := by rw [lsN, hv]
      rw [e1, e2]
      refine ⟨i1, fun x hx => ?_, fun hx => ⟨(i3 hx).1, fun u hu => ?_⟩, fun x hx u hu y hy => ?_⟩
      · rw [alN, hv, decide_eq_false (fun q => by cases q)]
        exact i2 x hx
      · by_cases e : u = t
        · rw [e]; exact hv
        · exact (i3 hx).2 u (by omega)
      · by_cases e : u = t
        · rw [e, hv] at hy; cases hy
        · exact i4 x hx u (by omega) y hy
    | some x =>
      cases hl : lsN v t with
      | none =>
        have hb : (bsN v t).1 = none := i1.trans hl
        have e1 : bsN v (t + 1) = (some x, [2 * t]) := by rw [bsN, hv]; dsimp only; rw [hb]
        have e2 : lsN v (t + 1) = some x := by rw [lsN, hv]; dsimp only; rw [hl]
        rw [e1, e2]
        refine ⟨rfl, fun z hz => ?_, fun hz => (by cases hz), fun z hz u hu y hy => ?_⟩
        · cases hz
          rw [alN, hv, decide_eq_true rfl, cond_true, alN_nil t (fun u hu q => by rw [(i3 hl).2 u hu] at q; cases q)]
          rfl
        · cases hz
          by_cases e : u = t
          · rw [e, hv] at hy; cases hy; exact Nat.le_refl _
          · rw [(i3 hl).2 u (by omega)] at hy; cases hy
      | some m =>
        have hb : (bsN v t).1 = some m := i1.trans hl
        by_cases h1 : x < m
        · have e1 : bsN v (t + 1) = (some x, [2 * t]) := by rw [bsN, hv]; dsimp only; rw [hb]; dsimp only; rw [if_pos h1]
          have e2 : lsN v (t + 1) = some x := by rw [lsN, hv]; dsimp only; rw [hl]; dsimp only; rw [if_pos h1]
          rw [e1, e2]
          refine ⟨rfl, fun z hz => ?_, fun hz => (by cases hz), fun z hz u hu y hy => ?_⟩
          · cases hz
            rw [alN, hv, decide_eq_true rfl, cond_true, alN_nil t (fun u hu q => by have := i4 m hl u hu x q; omega)]
            rfl
          · cases hz
            by_cases e : u = t
            · rw [e, hv] at hy; cases hy; exact Nat.le_refl _
            · have := i4 m hl u (by omega) y hy; omega
        · have e2 : lsN v (t + 1) = some m := by rw [lsN, hv]; dsimp only; rw [hl]; dsimp only; rw [if_neg h1]
          have c4 : ∀ z, some m = some z → ∀ u, u < t + 1 → ∀ y, v u = some y → z ≤ y := fun z hz u hu y hy => by
            cases hz
            by_cases e : u = t
            · rw [e, hv] at hy; cases hy; omega
            · exact i4 m hl u (by omega) y hy
          by_cases h2 : x = m
          · have e1 : bsN v (t + 1) = (some m, (bsN v t).2 ++ [2 * t]) := by rw [bsN, hv]; dsimp only; rw [hb]; dsimp only; rw [if_neg h1, if_pos h2]
            rw [e1, e2]
            refine ⟨rfl, fun z hz => ?_, fun hz => (by cases hz), c4⟩
            cases hz
            rw [alN, hv, h2, decide_eq_true rfl, cond_true, i2 m hl]
          · have e1 : bsN v (t + 1) = bsN v t := by rw [bsN, hv]; dsimp only; rw [hb]; dsimp only; rw [if_neg h1, if_neg h2]
            rw [e1, e2]
            refine ⟨hb, fun z hz => ?_, fun hz => (by cases hz), c4⟩
            cases hz
            rw [alN, hv, decide_eq_false (fun q => h2 (by cases q; rfl)), cond_false, i2 m hl]
theorem cnt_app {Q : Nat → Bool} {l : List Nat} {x : Nat} : cnt (fun i => Q ((l ++ [x]).getD i 0)) (l ++ [x]).length = cnt (fun i => Q (l.getD i 0)) l.length + cond (Q x) 1 0 := by
  rw [List.length_append, List.length_singleton, cnt]
  rw [cnt_congr (R := fun i => Q (l.getD i 0)) l.length (fun i hi => by rw [List.getD_eq_getElem?_getD, List.getElem?_append_left hi, ← List.getD_eq_getElem?_getD])]
  rw [List.getD_eq_getElem?_getD, List.getElem?_append_right (Nat.le_refl _), Nat.sub_self]
  rfl
theorem cnt_al {v : Nat → Option Nat} {x : Nat} {Q : Nat → Bool} : ∀ t, cnt (fun i => Q ((alN v x t).getD i 0)) (alN v x t).length = cnt (fun u => decide (v u = some x) && Q (2 * u)) t
  | 0 => rfl
  | t + 1 => by
    rw [alN, cnt]
    cases hd : decide (v t = some x) with
    | true => rw [cond_true, cnt_app, cnt_al t, Bool.true_and]
    | false => rw [cond_false, cnt_al t, Bool.false_and]; rfl
theorem al_len {v : Nat → Option Nat} {x : Nat} : ∀ t, (alN v x t).length = cnt (fun u => decide (v u = some x)) t
  | 0 => rfl
  | t + 1 => by
    rw [alN, cnt]
    cases hd : decide (v t = some x) with
    | true => rw [cond_true, List.length_append, al_len t]; rfl
    | false => rw [cond_false, al_len t]; rfl
theorem al_mem {v : Nat → Option Nat} {x : Nat} : ∀ (t i : Nat), i < (alN v x t).length → ∃ u, u < t ∧ (alN v x t).getD i 0 = 2 * u ∧ v u = some x
  | 0, i, h => absurd h (by show ¬ i < 0; omega)
  | t + 1, i, h => by
    rw [alN] at h ⊢
    cases hd : decide (v t = some x) with
    | false =>
      rw [hd, cond_false] at h
      rw [cond_false]
      obtain ⟨u, h1, h2, h3⟩ := al_mem t i h
      exact ⟨u, by omega, h2, h3⟩
    | true =>
      rw [hd, cond_true, List.length_append, List.length_singleton] at h
      rw [cond_true]
      by_cases hi : i < (alN v x t).length
      · obtain ⟨u, h1, h2, h3⟩ := al_mem t i hi
        refine ⟨u, by omega, ?_, h3⟩
        rw [List.getD_eq_getElem?_getD, List.getElem?_append_left hi, ← List.getD_eq_getElem?_getD]
        exact h2
      · have e : i = (alN v x t).length := by omega
        refine ⟨t, by omega, ?_, of_decide_eq_true hd⟩
        rw [e, List.getD_eq_getElem?_getD, List.getElem?_append_right (Nat.le_refl _), Nat.sub_self]
        rfl
/-- the sum of a camping; how many campings: half of all, none with nobody there -/
def vv (V : Tx) (r : Nat) (σ : St) (t : Nat) : Option Nat := sOf (co V r σ) (mw V r σ) σ (2 * t) (sM σ)
def pcN (N : Nat) : Nat := if N = 0 then 0 else 2 ^ N
def hN (N : Nat) : Nat := if N = 0 then 0 else 2 ^ (N - 1)
theorem hN_2 {N : Nat} : 2 * hN N = pcN N := by
  unfold hN pcN
  by_cases h : N = 0
  · rw [if_pos h, if_pos h]
  · rw [if_neg h, if_neg h]
    obtain ⟨m, rfl⟩ : ∃ m, N = m + 1 := ⟨N - 1, by omega⟩
    rw [Nat.add_sub_cancel, Nat.pow_succ]
    omega
theorem p2_le {N : Nat} (h : N ≤ 9) : 2 ^ N ≤ 512 := Nat.pow_le_pow_right (by decide) h
theorem pcN_le {N : Nat} (h : N ≤ 9) : pcN N ≤ 512 := by
  unfold pcN
  have := p2_le h
  split <;> omega
theorem hN_le {N : Nat} (h : N ≤ 9) : hN N ≤ 256 := by
  have := pcN_le h
  have := hN_2 (N := N)
  omega
theorem vv_le {V : Tx} {r : Nat} {σ : St} (zw : wf σ) {t x : Nat} (h : vv V r σ t = some x) : x ≤ 359964 := by
  have := sOf_le (fun f => cst_le _) h
  have := sM_le zw
  omega
def mA (V : Tx) (r : Nat) (σ : St) : Option Nat := lsN (vv V r σ) (hN (sN σ))
def lA (V : Tx) (r : Nat) (σ : St) : List Nat := (bsN (vv V r σ) (hN (sN σ))).2
theorem ls_mem {v : Nat → Option Nat} {x : Nat} : ∀ {t : Nat}, lsN v t = some x → ∃ u, u < t ∧ v u = some x
  | 0, h => by cases h
  | t + 1, h => by
    rw [lsN] at h
    cases hv : v t with
    | none =>
      rw [hv] at h
      obtain ⟨u, h1, h2⟩ := ls_mem h
      exact ⟨u, by omega, h2⟩
    | some y =>
      rw [hv] at h
      dsimp only at h
      cases hl : lsN v t with
      | none => rw [hl] at h; cases h; exact ⟨t, by omega, hv⟩
      | some m =>
        rw [hl] at h
        dsimp only at h
        by_cases hc : y < m
        · rw [if_pos hc] at h; cases h; exact ⟨t, by omega, hv⟩
        · rw [if_neg hc] at h
          cases h
          obtain ⟨u, h1, h2⟩ := ls_mem hl
          exact ⟨u, by omega, h2⟩
theorem ls_le {V : Tx} {r : Nat} {σ : St} (zw : wf σ) {t x : Nat} (h : lsN (vv V r σ) t = some x) : x ≤ 359964 := by
  obtain ⟨u, -, h2⟩ := ls_mem h
  exact vv_le zw h2
theorem bs_len {v : Nat → Option Nat} : ∀ t, (bsN v t).2.length ≤ t := fun t => by
  obtain ⟨-, i2, i3, -⟩ := bsN_spec (v := v) t
  cases h : lsN v t with
  | none => rw [(i3 h).1]; exact Nat.zero_le _
  | some x => rw [i2 x h, al_len]; exact cnt_le _ _
def BS (I : am_I) (z : Option Nat × List Nat) : Prop := I 76 3 = enc z.1 ∧ I 76 4 = nI z.2.length ∧ ∀ j, j < z.2.length → I 77 j = nI (z.2.getD j 0)
theorem r_past {E : am_E} (zi : am_inj E) {k N : Nat} (hN9 : N ≤ 9) {I : am_I} (h1 : I 1 0 = nI N) (w : Int64) : am_Ret E k Y_Best_pastCampings [.ref 76] I w (am_eq (some (.int (nI (pcN N)))) I w) := by
  refine am_intro (pv_Best_pastCampings E k) (by decide) zi ?_ rfl rfl ?_
  · rintro _ _ _ ⟨rfl, -⟩; rfl
  intro S hS
  unfold pcN at hS
  refine am_at hS (fun _ => false) 60 0 ?_
  refine ⟨fun h => ?_, fun h => ?_⟩
  · have h2 : I 1 0 = nI 0 := h
    rw [h1, neq (by omega) (by decide)] at h2
    rw [if_pos h2]
    exact ⟨rfl, rfl, rfl⟩
  · have h2 : ¬ I 1 0 = nI 0 := h
    rw [h1, neq (by omega) (by decide)] at h2
    rw [if_neg h2]
    refine ⟨?_, rfl, rfl⟩
    rw [h1, nI_shl1 (by omega)]
def cBs : List Nat := [27, 28, 29, 76, 77]
theorem CS_bs {I J : am_I} {σ : St} {js : List Nat} (h : am_fs 25 js cBs I J) (zC : CS I σ) : CS J σ := CS_of (fun q hq => h.1 q (by rintro hz; unfold cBs at hz; simp only [List.mem_cons, List.not_mem_nil, or_false] at hz hq; omega) (by rintro rfl; exact absurd hq (by decide))) zC
theorem r_search {E : am_E} (zi : am_inj E) {k : Nat} (hk : 5 ≤ k) {σ : St} (zw : wf σ) {I : am_I} (zC : CS I σ) (w : Int64) {T r : Nat} {V : Tx} (zL : LC I T r V) :
    am_Ret E k Y_Best_search [.ref 76] I w (fun q I' w' => q = none ∧ w' = w ∧ WG I' V r σ (sM σ) ∧ BS I' (mA V r σ, lA V r σ) ∧ am_fs 25 [7] cBs I I') := by
  refine am_intro (pv_Best_search E k) (by decide) zi ?_ rfl rfl ?_
  · rintro _ _ _ ⟨rfl, -⟩; trivial
  intro S hS
  have h9 := zw.1
  have hH := hN_le h9
  have h2H := hN_2 (N := sN σ)
  have WGk : ∀ {J F : am_I}, WG J V r σ (sM σ) → (∀ q, q = 27 ∨ q = 28 → F q = J q) → WG F V r σ (sM σ) := fun hW h f hf => by rw [h 27 (Or.inl rfl), h 28 (Or.inr rfl)]; exact hW f hf
  have loop := down (P := fun t => ∀ J x2, am_fs 25 [7] cBs I J → WG J V r σ (sM σ) → BS J (bsN (vv V r σ) t) → S 19 [some (.ref 76), some (.int (nI (2 * t))), x2] [] J w) (hN (sN σ)) ?z ?s
  case z =>
    intro J x2 hJ hW hB
    have p1 : J 1 0 = nI (sN σ) := (CS_bs hJ zC).1.1
    refine am_at hS (fun t => Nat.beq t 19) 90 19 ?_
    refine ⟨_, _, (by omega : k - 1 < k), r_past zi h9 p1 w, am_elim ?_⟩
    rw [← h2H]
    refine ⟨fun q => absurd q (nI_nlt (Nat.le_refl _) (by omega)), fun _ => ?_⟩
    exact ⟨rfl, rfl, hW, by rw [show mA V r σ = (bsN (vv V r σ) (hN (sN σ))).1 from (bsN_spec _).1.symm]; exact hB, hJ⟩
  case s =>
    intro t ht hn J x2 hJ hW hB
    have zJ := CS_bs hJ zC
    have p1 : J 1 0 = nI (sN σ) := zJ.1.1
    obtain ⟨b1, b2, b3⟩ := hB
    have hlen := bs_len (v := vv V r σ) t
    have hls := (bsN_spec (v := vv V r σ) t).1
    refine am_at hS (fun t => Nat.beq t 19 || Nat.beq t 64) 90 19 ?_
    refine ⟨_, _, (by omega : k - 1 < k), r_past zi h9 p1 w, am_elim ?_⟩
    rw [← h2H]
    refine ⟨fun _ => ?_, fun q => absurd (nI_lt (by omega) (by omega)) q⟩
    refine ⟨_, _, (by omega : k - 1 < k), r_sumOf zi (by omega) zw zJ w (C := co V r σ) (L := mw V r σ) (fun f => cst_le _) hW (by omega), am_elim ?_⟩
    have ev : sOf (co V r σ) (mw V r σ) σ (2 * t) (sM σ) = vv V r σ t := rfl
    rw [ev]
    have keep : bsN (vv V r σ) (t + 1) = bsN (vv V r σ) t → ∀ x2, S 19 [some (.ref 76), some (.int (nI (2 * t) + 2)), x2] [] J w := fun e x2 => by
      have := hn J x2 hJ hW (by rw [e]; exact ⟨b1, b2, b3⟩)
      rw [show 2 * (t + 1) = 2 * t + 2 by omega, ← nI_add] at this
      exact this
    have a64 : ∀ F x (m : Nat) (l : List Nat), am_fs 25 [7] cBs I F → WG F V r σ (sM σ) → BS F (some m, l) → x ≤ 359964 → m ≤ 359964 → l.length ≤ t → bsN (vv V r σ) (t + 1) = (if x = m then (some m, l ++ [2 * t]) else (some m, l)) → S 64 [some (.ref 76), some (.int (nI (2 * t))), some (.int (nI x))] [] F w := by
      intro F x m l hF hWF hBF hx hm hl e
      obtain ⟨c1, c2, c3⟩ := hBF
      have c1' : F 76 3 = nI m := c1
      refine am_at hS (fun t => Nat.beq t 19) 90 64 ?_
      refine ⟨fun q => absurd q (nI_ne1 (by omega)), fun _ => ?_⟩
      refine ⟨fun h74 => ?_, fun h74 => ?_⟩
      · rw [c1', neq (by omega) (by omega)] at h74
        rw [if_pos h74] at e
        refine ⟨fun _ => ?_, fun q => absurd (show F 76 4 < nI 256 by rw [c2]; exact nI_lt (by show l.length < 256; omega) (by omega)) q⟩
        have c2' : F 76 4 = nI l.length := c2
        refine ⟨by rw [c2']; exact vp_in_nI (by omega) (by omega), ?_⟩
        rw [c2', nI_clamp (by omega)]
        have e1 : am_up F 77 l.length (nI (2 * t)) 76 4 + 1 = nI (l.length + 1) := by rw [am_up_ne (by decide), c2', nI_1]
        have hq := hn (am_up (am_up F 77 l.length (nI (2 * t))) 76 4 (nI (l.length + 1))) (some (.int (nI x))) (am_fs.up (am_fs.up hF (by decide) (by decide)) (by decide) (by decide)) (WGk hWF (fun q hq => by rw [am_up_ne (by omega), am_up_ne (by omega)])) (by
          rw [e]
          refine ⟨?_, ?_, fun j hj => ?_⟩
          · rw [am_sne (by decide), am_up_ne (by decide)]; exact c1
          · rw [am_seq, List.length_append]; rfl
          · rw [am_up_ne (by decide), am_up_fup]
            have hj2 : j < (l ++ [2 * t]).length := hj
            rw [List.length_append, List.length_singleton] at hj2
            by_cases ej : j = l.length
            · rw [ej, fup_self, List.getD_eq_getElem?_getD, List.getElem?_append_right (Nat.le_refl _), Nat.sub_self]
              rfl
            · rw [fup_ne ej, List.getD_eq_getElem?_getD, List.getElem?_append_left (by omega), ← List.getD_eq_getElem?_getD]
              exact c3 j (show j < l.length by omega))
        rw [show 2 * (t + 1) = 2 * t + 2 by omega, ← nI_add, ← e1] at hq
        exact hq
      · rw [c1', neq (by omega) (by omega)] at h74
        rw [if_neg h74] at e
        have hq := hn F (some (.int (nI x))) hF hWF (by rw [e]; exact ⟨c1, c2, c3⟩)
        rw [show 2 * (t + 1) = 2 * t + 2 by omega, ← nI_add] at hq
        exact hq
    cases hv : vv V r σ t with
    | none =>
      have e : bsN (vv V r σ) (t + 1) = bsN (vv V r σ) t := by rw [bsN, hv]
      refine ⟨fun _ => ?_, fun q => absurd rfl q⟩
      refine am_at hS (fun t => Nat.beq t 19) 90 64 ?_
      exact ⟨fun _ => keep e _, fun q => absurd rfl q⟩
    | some x =>
      have hx := vv_le zw hv
      have exx : enc (some x) = nI x := rfl
      rw [exx]
      have set_ : BS (am_up (am_up J 76 3 (nI x)) 76 4 0) (some x, []) := ⟨by rw [am_sne (by decide), am_seq]; rfl, am_seq, fun j hj => absurd hj (by show ¬ j < 0; omega)⟩
      have fset : am_fs 25 [7] cBs I (am_up (am_up J 76 3 (nI x)) 76 4 0) := am_fs.up (am_fs.up hJ (by decide) (by decide)) (by decide) (by decide)
      have wset : WG (am_up (am_up J 76 3 (nI x)) 76 4 0) V r σ (sM σ) := WGk hW (fun q hq => by rw [am_up_ne (by omega), am_up_ne (by omega)])
      refine ⟨fun q => absurd q (nI_ne1 (by omega)), fun _ => ?_⟩
      cases hl : (bsN (vv V r σ) t).1 with
      | none =>
        rw [hl] at b1
        have e : bsN (vv V r σ) (t + 1) = (some x, [2 * t]) := by rw [bsN, hv]; dsimp only; rw [hl]
        refine ⟨fun _ => ?_, fun q => absurd b1 q⟩
        exact a64 _ x x [] fset wset set_ hx hx (Nat.zero_le _) (by rw [e, if_pos rfl]; rfl)
      | some m =>
        rw [hl] at b1
        have hm : m ≤ 359964 := ls_le zw (hls.symm.trans hl)
        have b1' : J 76 3 = nI m := b1
        refine ⟨fun q => absurd (b1'.symm.trans q) (nI_ne1 (by omega)), fun _ => ?_⟩
        refine ⟨fun h51 => ?_, fun h51 => ?_⟩
        · rw [b1', nlt (by omega) (by omega)] at h51
          have e : bsN (vv V r σ) (t + 1) = (some x, [2 * t]) := by rw [bsN, hv]; dsimp only; rw [hl]; dsimp only; rw [if_pos h51]
          exact a64 _ x x [] fset wset set_ hx hx (Nat.zero_le _) (by rw [e, if_pos rfl]; rfl)
        · rw [b1', nlt (by omega) (by omega)] at h51
          have ep : bsN (vv V r σ) t = (some m, (bsN (vv V r σ) t).2) := Prod.ext hl rfl
          have e : bsN (vv V r σ) (t + 1) = (if x = m then (some m, (bsN (vv V r σ) t).2 ++ [2 * t]) else (some m, (bsN (vv V r σ) t).2)) := by
            rw [bsN, hv]
            dsimp only
            rw [hl]
            dsimp only
            rw [if_neg h51, ← ep]
          exact a64 J x m (bsN (vv V r σ) t).2 hJ hW ⟨b1, b2, b3⟩ hx hm hlen e
  refine am_at hS (fun t => Nat.beq t 19) 90 0 ?_
  refine ⟨_, _, (by omega : k - 1 < k), r_weigh zi (by omega) zw zC w zL, ?_⟩
  rintro _ J w1 ⟨rfl, rfl, hW, fJ⟩
  refine loop 0 (Nat.zero_le _) _ none (am_fs.up (am_fs.up (fJ.mono (fun _ h => h) (by decide)) (by decide) (by decide)) (by decide) (by decide)) (WGk hW (fun q hq => by rw [am_up_ne (by omega), am_up_ne (by omega)])) ?_
  exact ⟨by rw [am_sne (by decide), am_seq]; rfl, am_seq, fun j hj => absurd hj (by show ¬ j < 0; omega)⟩
def fAl : List Nat := [108, 109, 110]
theorem RS_al {I J : am_I} {σ : St} {js l : List Nat} (h : am_fs 88 js l I J) (hl : l = fAl ∨ l = [] ∨ l = [108, 109]) (h9 : 9 ∉ js) (h16 : 16 ∉ js) (zR : RS I σ) : RS J σ := RS_fs h (fun q h1 h2 hz => by rcases hl with rfl | rfl | rfl <;> (try unfold fAl at hz) <;> simp only [List.mem_cons, List.not_mem_nil, or_false] at hz <;> omega) h9 h16 zR
def AS (I : am_I) (V : Tx) (r : Nat) (σ : St) (t : Nat) : Prop := ∀ u, u < t → I 110 (2 * u) = enc (vv V r σ u)
theorem m_goesAll {E : am_E} (zi : am_inj E) {k : Nat} (hk : 45 ≤ k) {σ : St} (zw : wf σ) {I : am_I} (zR : RS I σ) (w : Int64) {T r : Nat} {V : Tx} (zL : RL I T r V) :
    am_Ret E k Y_MO_goesAll [.ref 88] I w (fun q I' w' => q = some (.int (enc (mA V r σ))) ∧ AS I' V r σ (hN (sN σ)) ∧ am_fs 88 rdFs fAl I I') := by
  refine am_intro (pv_MO_goesAll E k) (by decide) zi ?_ rfl rfl ?_
  · rintro _ _ _ ⟨rfl, -⟩; rfl
  intro S hS
  have h9 := zw.1
  have h2H := hN_2 (N := sN σ)
  have hp2 := p2_le h9
  obtain ⟨H, eH⟩ : ∃ H, H = (2 ^ sN σ + 1) / 2 := ⟨_, rfl⟩
  have hHN : ¬ sN σ = 0 → H = hN (sN σ) ∧ 2 * H = 2 ^ sN σ := fun h => by
    unfold pcN at h2H
    rw [if_neg h] at h2H
    omega
  have h0N : sN σ = 0 → hN (sN σ) = 0 := fun h => by unfold hN; rw [if_pos h]
  have hle : ∀ t, (2 * t < 2 ^ sN σ) = (t < H) := fun t => propext ⟨fun _ => by omega, fun _ => by omega⟩
  have WRk : ∀ {J F : am_I}, WR J V r σ (sM σ) → (∀ q, q = 108 ∨ q = 109 → F q = J q) → WR F V r σ (sM σ) := fun hW h f hf => by rw [h 108 (Or.inl rfl), h 109 (Or.inr rfl)]; exact hW f hf
  have loop := down (P := fun t => ∀ J u, am_fs 88 rdFs fAl I J → WR J V r σ (sM σ) → AS J V r σ t → S 8 [some (.ref 88), some (.int (enc (lsN (vv V r σ) t))), some (.int (nI (2 * t)))] [] J u) H ?z ?s
  case z =>
    intro J u hJ hW hA
    have p1 : J 88 9 = nI (sN σ) := (RS_al hJ (Or.inl rfl) (by decide) (by decide) zR).1.1
    refine am_at hS (fun t => Nat.beq t 8) 90 8 ?_
    refine ⟨fun q => absurd q (by rw [p1, nI_shl1 (by omega), nlt (by omega) (by omega), hle]; omega), fun _ => ?_⟩
    refine ⟨fun h71 => ?_, fun h71 => ?_⟩
    · have h2 : J 88 9 = nI 0 := h71
      rw [p1, neq (by omega) (by decide)] at h2
      refine ⟨?_, fun u hu => ?_, hJ⟩
      · unfold mA
        rw [h0N h2]
        rfl
      · rw [h0N h2] at hu
        omega
    · have h2 : ¬ J 88 9 = nI 0 := h71
      rw [p1, neq (by omega) (by decide)] at h2
      obtain ⟨q1, q2⟩ := hHN h2
      refine ⟨?_, fun u hu => hA u (by omega), hJ⟩
      unfold mA
      rw [← q1]
  case s =>
    intro t ht hn J u hJ hW hA
    have zJ := RS_al hJ (Or.inl rfl) (by decide) (by decide) zR
    have p1 : J 88 9 = nI (sN σ) := zJ.1.1
    have ht2 : 2 * t < 2 ^ sN σ := by rw [hle]; exact ht
    have bd : vp_in (nI (2 * t)) 512 := vp_in_nI (by omega) (by omega)
    have cl : (nI (2 * t)).toNatClampNeg = 2 * t := nI_clamp (by omega)
    refine am_at hS (fun t => Nat.beq t 8) 90 8 ?_
    refine ⟨fun _ => ?_, fun q => absurd (by rw [p1, nI_shl1 (by omega), nlt (by omega) (by omega)]; exact ht2) q⟩
    refine ⟨_, _, (by omega : k - 1 < k), r_sumOfM zi (by omega) zw zJ u (C := co V r σ) (L := mw V r σ) (fun f => cst_le _) hW (by omega), am_elim ?_⟩
    have ev : sOf (co V r σ) (mw V r σ) σ (2 * t) (sM σ) = vv V r σ t := rfl
    rw [ev]
    refine ⟨bd, ?_⟩
    rw [cl]
    have eF : am_up J 110 (2 * t) (enc (vv V r σ t)) 110 (2 * t) = enc (vv V r σ t) := am_seq
    have go : ∀ y, y = enc (lsN (vv V r σ) (t + 1)) → S 8 [some (.ref 88), some (.int y), some (.int (nI (2 * t) + 2))] [] (am_up J 110 (2 * t) (enc (vv V r σ t))) u := fun y hy => by
      have hq := hn (am_up J 110 (2 * t) (enc (vv V r σ t))) u (am_fs.up hJ (by decide) (by decide)) (WRk hW (fun q hq => am_up_ne (by omega))) (fun x hx => by
        by_cases e : x = t
        · rw [e]; exact eF
        · rw [am_sne (by omega)]; exact hA x (by omega))
      rw [show 2 * (t + 1) = 2 * t + 2 by omega, ← nI_add, ← hy] at hq
      exact hq
    refine ⟨bd, ?_⟩
    rw [cl, eF]
    cases hv : vv V r σ t with
    | none =>
      rw [hv] at go
      exact ⟨fun _ => go _ (by rw [lsN, hv]), fun q => absurd rfl q⟩
    | some x =>
      have hx := vv_le zw hv
      rw [hv] at go eF
      refine ⟨fun q => absurd q (nI_ne1 (by omega)), fun _ => ?_⟩
      cases hl : lsN (vv V r σ) t with
      | none =>
        refine ⟨fun _ => ?_, fun q => absurd rfl q⟩
        refine ⟨bd, ?_⟩
        rw [cl, eF]
        exact go _ (by rw [lsN, hv]; dsimp only; rw [hl])
      | some m =>
        have hm := ls_le zw hl
        refine ⟨fun q => absurd q (nI_ne1 (by omega)), fun _ => ?_⟩
        refine ⟨bd, ?_⟩
        rw [cl, eF]
        refine ⟨fun h51 => ?_, fun h51 => ?_⟩
        · have h5 : nI x < nI m := h51
          rw [nlt (by omega) (by omega)] at h5
          refine ⟨bd, ?_⟩
          rw [cl, eF]
          exact go _ (by rw [lsN, hv]; dsimp only; rw [hl]; dsimp only; rw [if_pos h5])
        · have h5 : ¬ nI x < nI m := h51
          rw [nlt (by omega) (by omega)] at h5
          exact go _ (by rw [lsN, hv]; dsimp only; rw [hl]; dsimp only; rw [if_neg h5])
  refine am_at hS (fun t => Nat.beq t 8) 90 0 ?_
  refine ⟨_, _, (by omega : k - 1 < k), m_weighs zi (by omega) zw zR w zL, ?_⟩
  rintro _ J w1 ⟨rfl, hW, fJ⟩
  exact loop 0 (Nat.zero_le _) J w1 (fJ.mono (fun _ h => h) (by decide)) hW (fun u hu => absurd hu (by omega))

