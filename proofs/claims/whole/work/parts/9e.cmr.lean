/-! CONSTRUCTORS: the run, and what stands behind it -/
def st0 : cm_S := [.inr (.inr (0, cm_df 0 16))]
def st1 : cm_S := (gf_TC_init [.ref 0] st0).getD []
def st1n : cm_S := st1 ++ [.inr (.inr (12, cm_df 12 53))]
def st2 : cm_S := (gf_MO_init [.ref 88] st1n).getD []
def exB : List Int32 := [99, 111, 115, 116, 32, 115, 116, 114, 101, 110, 103, 116, 104, 32, 59, 32, 108, 101, 116, 32, 110, 111, 116, 32, 102, 105, 120, 101, 100, 32, 59, 32]
/-- the ints behind the constructors -/
def ex : am_I := fun k j =>
  if k = 13 ∨ k = 21 then -1
  else if k = 80 ∨ k = 82 ∨ k = 84 ∨ k = 86 then (if j = 0 then -1 else 0)
  else if k = 25 then (if j = 2 then 1 else 0)
  else if k = 30 then (if j = 1 then 3 else if j = 2 then 1 else 0)
  else if k = 31 then ([-9, -12, -7] : List Int32).getD j 0
  else if k = 88 then (if j = 3 then 1 else 0)
  else if k = 89 then exB.getD j 0
  else if k = 90 then (if j = 0 then 32 else 0)
  else 0
def cm_mv (x : Int32) : Nat → Value → Bool
  | 0, .int y => decide (y = x)
  | 1, .long y => decide (y = 0)
  | q + 2, .ref p => Nat.beq q p && Nat.blt q 117
  | _, _ => false
def cm_mvs (f : Nat → Int32) : Nat → List Nat → List Value → Bool
  | _, [], [] => true
  | b, c :: r, v :: s => cm_mv (f b) c v && cm_mvs f (b + 1) r s
  | _, _, _ => false
def cm_el1 (r : List Nat) (j : Nat) : Option Nat → Bool
  | some q => Nat.beq q (r.getD j 0) && Nat.blt q 117
  | none => false
def cm_mt (k : Nat) : cm_C → am_sT → Bool
  | .inl (kd, n, f), (kd', n', _) => Nat.beq kd kd' && (Nat.beq n n' && (Nat.blt kd 2 && (List.range n).all (fun j => decide (f j = ex k j))))
  | .inr (.inl (kd, n, f)), (kd', n', r) => Nat.beq kd kd' && (Nat.beq n n' && ((Nat.ble 2 kd && Nat.ble kd 4) && (List.range n).all (fun j => cm_el1 r j (f j))))
  | .inr (.inr (ci, vs)), (kd', _, r) => Nat.beq kd' (ci + 5) && cm_mvs (ex k) 0 r vs
def cm_mts : Nat → cm_S → List am_sT → Bool
  | _, [], [] => true
  | k, c :: r, s :: t => cm_mt k c s && cm_mts (k + 1) r t
  | _, _, _ => false
theorem opt_is {α : Type} {o : Option α} {d : α} (h : o.isSome = true) : o = some (o.getD d) := by
  cases o with
  | none => cases h
  | some x => rfl
set_option maxRecDepth 100000 in
theorem st_chk : ((gf_TC_init [.ref 0] st0).isSome && ((gf_MO_init [.ref 88] st1n).isSome && (Nat.beq st1.length 88 && (Nat.beq st2.length 117 && cm_mts 0 st2 am_sh)))) = true := by decide +kernel
theorem st_key (a b : Nat) (p q r : Bool) (h : (p && (q && (Nat.beq a 88 && (Nat.beq b 117 && r)))) = true) : p = true ∧ q = true ∧ a = 88 ∧ b = 117 ∧ r = true := by
  rw [Bool.and_eq_true, Bool.and_eq_true, Bool.and_eq_true, Bool.and_eq_true] at h
  exact ⟨h.1, h.2.1, Nat.eq_of_beq_eq_true h.2.2.1, Nat.eq_of_beq_eq_true h.2.2.2.1, h.2.2.2.2⟩
theorem st_all : gf_TC_init [.ref 0] st0 = some st1 ∧ gf_MO_init [.ref 88] st1n = some st2 ∧ st1.length = 88 ∧ st2.length = 117 ∧ cm_mts 0 st2 am_sh = true := by
  obtain ⟨h1, h2, h3, h4, h5⟩ := st_key _ _ _ _ _ st_chk
  exact ⟨opt_is h1, opt_is h2, h3, h4, h5⟩
theorem cm_mts_at : ∀ (σ : cm_S) (sh : List am_sT) (b k : Nat) (s : am_sT), cm_mts b σ sh = true → sh[k]? = some s → ∃ c, σ[k]? = some c ∧ cm_mt (b + k) c s = true
  | [], [], _, k, s, _, h => by cases k <;> cases h
  | [], _ :: _, _, _, _, h, _ => by cases h
  | _ :: _, [], _, _, _, h, _ => by cases h
  | c :: r, s0 :: t, b, k, s, h, hs => by
    have h : (cm_mt b c s0 && cm_mts (b + 1) r t) = true := h
    rw [Bool.and_eq_true] at h
    cases k with
    | zero =>
      cases hs
      exact ⟨c, rfl, h.1⟩
    | succ k =>
      rw [List.getElem?_cons_succ] at hs
      obtain ⟨c', h1, h2⟩ := cm_mts_at r t (b + 1) k s h.2 hs
      exact ⟨c', by rw [List.getElem?_cons_succ]; exact h1, by rw [show b + (k + 1) = b + 1 + k by omega]; exact h2⟩
theorem arrV_cg {cI : ClassId} {n : Nat} {f g : Nat → Value} (h : ∀ j, j < n → f j = g j) : arrV cI n f = arrV cI n g := by
  have e : (fun j : Fin n => f j.val) = fun j : Fin n => g j.val := funext fun j => h j.val j.isLt
  unfold arrV
  rw [e]
theorem cm_mvs_ok {E : am_E} {ad : Nat → Nat} (had : ∀ k, k < 117 → E.2.1 k = ad k) {f : Nat → Int32} : ∀ (r : List Nat) (vs : List Value) (b : Nat), cm_mvs f b r vs = true → vs.map (am_rz ad) = am_fv E.2.1 f 0 b r
  | [], [], _, _ => rfl
  | [], _ :: _, _, h => by cases h
  | _ :: _, [], _, h => by cases h
  | c :: r, v :: s, b, h => by
    have h : (cm_mv (f b) c v && cm_mvs f (b + 1) r s) = true := h
    rw [Bool.and_eq_true] at h
    rw [List.map_cons, am_fv, cm_mvs_ok had r s (b + 1) h.2]
    have e : am_rz ad v = am_cv E.2.1 (f b) 0 c := by
      have h1 := h.1
      match c, v, h1 with
      | 0, .int y, h1 =>
        have e : y = f b := of_decide_eq_true h1
        rw [e]
        rfl
      | 1, .long y, h1 =>
        have e : y = 0 := of_decide_eq_true h1
        rw [e]
        rfl
      | q + 2, .ref p, h1 =>
        have h1 : (Nat.beq q p && Nat.blt q 117) = true := h1
        rw [Bool.and_eq_true] at h1
        have e : q = p := Nat.eq_of_beq_eq_true h1.1
        subst e
        show Value.ref (ad q) = Value.ref (E.2.1 q)
        rw [had q (Nat.blt_eq.mp h1.2)]
    rw [e]
theorem cm_to_am {E : am_E} {G : cm_G} (hD : E.2.2.1 = G.2.2.1) (hA : E.2.2.2 = G.2.2.2) (had : ∀ k, k < 117 → E.2.1 k = cm_ad G k) {σ : cm_S} (hm : cm_mts 0 σ am_sh = true) {H : Heap} (hP : va_P G.2.2.1 classes (cm_ws G 0 σ) H) : va_P E.2.2.1 classes (am_wd E ex 0) H := by
  intro k q hq
  unfold am_wd at hq
  rw [am_wdl_get] at hq
  cases hs : am_sh[k]? with
  | none => rw [hs] at hq; cases hq
  | some s =>
    rw [hs] at hq
    simp only [Option.map_some, Nat.zero_add, Option.some.injEq] at hq
    subst hq
    have hk : k < 117 := by
      have h1 := (List.getElem?_eq_some_iff.mp hs).1
      rw [am_shN] at h1
      exact h1
    obtain ⟨c, hc, hmt⟩ := cm_mts_at σ am_sh 0 k s hm hs
    rw [Nat.zero_add] at hmt
    have hv := hP k _ (cm_ws_at hc)
    rw [hD, had k hk]
    obtain ⟨kd', n', r⟩ := s
    rcases c with ⟨kd, n, f⟩ | ⟨kd, n, f⟩ | ⟨ci, vs⟩
    · have hmt : (Nat.beq kd kd' && (Nat.beq n n' && (Nat.blt kd 2 && (List.range n).all (fun j => decide (f j = ex k j))))) = true := hmt
      rw [Bool.and_eq_true, Bool.and_eq_true, Bool.and_eq_true] at hmt
      obtain ⟨h1, h2, h3, h4⟩ := hmt
      have h1 : kd = kd' := Nat.eq_of_beq_eq_true h1
      have h2 : n = n' := Nat.eq_of_beq_eq_true h2
      have h3 : kd < 2 := Nat.blt_eq.mp h3
      subst h1
      subst h2
      have hv : H[cm_ad G k]? = some (vp_cell (G.2.2.2 kd) (n, .inl f)) := hv
      have e : vp_cell (G.2.2.2 kd) (n, .inl f) = vp_cell (G.2.2.2 kd) (n, .inl (ex k)) := by
        rw [vp_cell_i, vp_cell_i]
        refine arrV_cg (fun j hj => ?_)
        have h5 := of_decide_eq_true (List.all_eq_true.mp h4 j (List.mem_range.mpr hj))
        show Value.int (f j) = Value.int (ex k j)
        rw [h5]
      rw [e, ← hA] at hv
      rcases (show kd = 0 ∨ kd = 1 by omega) with rfl | rfl
      · exact hv
      · exact hv
    · have hmt : (Nat.beq kd kd' && (Nat.beq n n' && ((Nat.ble 2 kd && Nat.ble kd 4) && (List.range n).all (fun j => cm_el1 r j (f j))))) = true := hmt
      rw [Bool.and_eq_true, Bool.and_eq_true, Bool.and_eq_true, Bool.and_eq_true] at hmt
      obtain ⟨h1, h2, ⟨h3, h3b⟩, h4⟩ := hmt
      have h1 : kd = kd' := Nat.eq_of_beq_eq_true h1
      have h2 : n = n' := Nat.eq_of_beq_eq_true h2
      have h3 : 2 ≤ kd := Nat.ble_eq.mp h3
      have h3b : kd ≤ 4 := Nat.ble_eq.mp h3b
      subst h1
      subst h2
      have hv : H[cm_ad G k]? = some (vp_cell (G.2.2.2 kd) (n, .inr (.inr (.inr (.inr (fun i => (f i).map (cm_ad G))))))) := hv
      have e : vp_cell (G.2.2.2 kd) (n, .inr (.inr (.inr (.inr (fun i => (f i).map (cm_ad G)))))) = vp_cell (G.2.2.2 kd) (n, .inr (.inr (.inr (.inr (fun i => some (E.2.1 (r.getD i 0))))))) := by
        rw [vp_cell_q, vp_cell_q]
        refine arrV_cg (fun j hj => ?_)
        have h5 := List.all_eq_true.mp h4 j (List.mem_range.mpr hj)
        show va_rf ((f j).map (cm_ad G)) = va_rf (some (E.2.1 (r.getD j 0)))
        cases hf : f j with
        | none => rw [hf] at h5; cases h5
        | some q =>
          rw [hf] at h5
          have h5 : (Nat.beq q (r.getD j 0) && Nat.blt q 117) = true := h5
          rw [Bool.and_eq_true] at h5
          have e : q = r.getD j 0 := Nat.eq_of_beq_eq_true h5.1
          rw [← e, had q (Nat.blt_eq.mp h5.2)]
          rfl
      rw [e, ← hA] at hv
      rcases (show kd = 2 ∨ kd = 3 ∨ kd = 4 by omega) with rfl | rfl | rfl
      · exact hv
      · exact hv
      · exact hv
    · have hmt : (Nat.beq kd' (ci + 5) && cm_mvs (ex k) 0 r vs) = true := hmt
      rw [Bool.and_eq_true] at hmt
      have h1 : kd' = ci + 5 := Nat.eq_of_beq_eq_true hmt.1
      subst h1
      have e := cm_mvs_ok (E := E) had r vs 0 hmt.2
      have hv : va_at G.2.2.1 classes (cm_ad G k, .inr (ci, vs.map (am_rz (cm_ad G)))) H := hv
      rw [e] at hv
      exact hv
