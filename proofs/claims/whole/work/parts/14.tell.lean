/-! telling a FEELING -/
def fup {α : Type} (f : Nat → α) (q : Nat) (v : α) : Nat → α := fun j => if j = q then v else f j
theorem fup_self {α : Type} {f : Nat → α} {q : Nat} {v : α} : fup f q v q = v := if_pos rfl
theorem fup_ne {α : Type} {f : Nat → α} {q j : Nat} {v : α} (h : j ≠ q) : fup f q v j = f j := if_neg h
def sUp (σ : St) (f : Nat) (s t : Int32) (kd : Nat) : St := ((sN σ, sM σ), (sL σ, sG σ), (fup (sS σ) f s, fup (sT σ) f t, fup (sK σ) f kd), (sP σ, sD σ))
def sNew (σ : St) (a b : Nat) (s t : Int32) (kd : Nat) : St := ((sN σ, sM σ + 1), (fup (sL σ) (sM σ) (min a b), fup (sG σ) (sM σ) (max a b)), (fup (sS σ) (sM σ) s, fup (sT σ) (sM σ) t, fup (sK σ) (sM σ) kd), (sP σ, sD σ))
def sTell (σ : St) (a b : Nat) (s t : Int32) (kd : Nat) : Nat × St := match sF σ a b with
  | some f => (f, sUp σ f s t kd)
  | none => (sM σ, sNew σ a b s t kd)
theorem sF_lt_M {σ : St} {a b f : Nat} (h : sF σ a b = some f) : f < sM σ := (fd_some h).1
theorem fd_congr {L G L' G' : Nat → Nat} {x y : Nat} : ∀ (m : Nat), (∀ f, f < m → L' f = L f ∧ G' f = G f) → fd L' G' x y m = fd L G x y m
  | 0, _ => rfl
  | m + 1, h => by
    rw [fd, fd, fd_congr m (fun f hf => h f (by omega)), (h m (by omega)).1, (h m (by omega)).2]
theorem mm_pair {a b x y : Nat} (hab : a ≠ b) : ((min a b = x ∧ max a b = y) ∨ (min a b = y ∧ max a b = x)) ↔ ((x = a ∧ y = b) ∨ (x = b ∧ y = a)) := by
  by_cases h : a < b
  · rw [Nat.min_eq_left (by omega), Nat.max_eq_right (by omega)]; omega
  · rw [Nat.min_eq_right (by omega), Nat.max_eq_left (by omega)]; omega
theorem sTell_wf {σ : St} (zw : wf σ) {a b : Nat} (ha : a < sN σ) (hb : b < sN σ) (hab : a ≠ b) {s t : Int32} (hs : s = 1 ∨ s = -1) (ht : 1 ≤ t.toInt ∧ t.toInt ≤ 99) {kd : Nat} (hkd : kd < 4) : wf (sTell σ a b s t kd).2 := by
  obtain ⟨w1, ⟨w2, w3, w4, w5⟩, w6⟩ := zw
  unfold sTell
  cases hq : sF σ a b with
  | some f =>
    refine ⟨w1, ⟨w2, fun g hg => ?_, fun g hg => ?_, w5⟩, w6⟩
    · show fup (sS σ) f s g = 1 ∨ fup (sS σ) f s g = -1
      by_cases e : g = f
      · rw [e, fup_self]; exact hs
      · rw [fup_ne e]; exact w3 g hg
    · show 1 ≤ (fup (sT σ) f t g).toInt ∧ (fup (sT σ) f t g).toInt ≤ 99 ∧ fup (sK σ) f kd g < 4
      by_cases e : g = f
      · rw [e, fup_self, fup_self]; exact ⟨ht.1, ht.2, hkd⟩
      · rw [fup_ne e, fup_ne e]; exact w4 g hg
  | none =>
    have hn := fd_none hq
    refine ⟨w1, ⟨fun g hg => ?_, fun g hg => ?_, fun g hg => ?_, fun g g' hg hg' => ?_⟩, w6⟩
    · show fup (sL σ) (sM σ) (min a b) g < fup (sG σ) (sM σ) (max a b) g ∧ fup (sG σ) (sM σ) (max a b) g < sN σ
      by_cases e : g = sM σ
      · rw [e, fup_self, fup_self]; omega
      · rw [fup_ne e, fup_ne e]; exact w2 g (by have : g < sM σ + 1 := hg; omega)
    · show fup (sS σ) (sM σ) s g = 1 ∨ fup (sS σ) (sM σ) s g = -1
      by_cases e : g = sM σ
      · rw [e, fup_self]; exact hs
      · rw [fup_ne e]; exact w3 g (by have : g < sM σ + 1 := hg; omega)
    · show 1 ≤ (fup (sT σ) (sM σ) t g).toInt ∧ (fup (sT σ) (sM σ) t g).toInt ≤ 99 ∧ fup (sK σ) (sM σ) kd g < 4
      by_cases e : g = sM σ
      · rw [e, fup_self, fup_self]; exact ⟨ht.1, ht.2, hkd⟩
      · rw [fup_ne e, fup_ne e]; exact w4 g (by have : g < sM σ + 1 := hg; omega)
    · show fup (sL σ) (sM σ) (min a b) g = fup (sL σ) (sM σ) (min a b) g' → fup (sG σ) (sM σ) (max a b) g = fup (sG σ) (sM σ) (max a b) g' → g = g'
      have hg1 : g < sM σ + 1 := hg
      have hg2 : g' < sM σ + 1 := hg'
      by_cases e : g = sM σ
      · by_cases e' : g' = sM σ
        · omega
        · rw [e, fup_self, fup_self, fup_ne e', fup_ne e']
          intro q1 q2
          exact absurd (by have := (mm_pair (x := sL σ g') (y := sG σ g') hab).mp (Or.inl ⟨q1, q2⟩); omega) (hn g' (by omega))
      · by_cases e' : g' = sM σ
        · rw [e', fup_self, fup_self, fup_ne e, fup_ne e]
          intro q1 q2
          exact absurd (by have := (mm_pair (x := sL σ g) (y := sG σ g) hab).mp (Or.inl ⟨q1.symm, q2.symm⟩); omega) (hn g (by omega))
        · rw [fup_ne e, fup_ne e, fup_ne e', fup_ne e']
          exact w5 g g' (by omega) (by omega)
theorem i9 {x y a b : Nat} (hy : y < 9) (hb : b < 9) : (9 * x + y = 9 * a + b) ↔ (x = a ∧ y = b) := by omega
/-- the reference's cells but for the street's are as before; likewise the class's -/
def am_fs (o : Nat) (js l : List Nat) (I I' : am_I) : Prop := (∀ q, q ∉ l → q ≠ o → I' q = I q) ∧ ∀ j, j ∉ js → I' o j = I o j
theorem am_fr.refl {l : List Nat} {I : am_I} : am_fr l I I := fun _ _ => rfl
theorem am_fr.trans {l : List Nat} {I J F : am_I} (h : am_fr l I J) (h2 : am_fr l J F) : am_fr l I F := fun q hq => (h2 q hq).trans (h q hq)
theorem am_fr.mono {l l' : List Nat} {I J : am_I} (h : am_fr l I J) (hl : ∀ q, q ∈ l → q ∈ l') : am_fr l' I J := fun q hq => h q (fun z => hq (hl q z))
theorem mn_min {a b : Nat} (ha : a < 9) (hb : b < 9) : (if nI b < nI a then nI b else nI a) = nI (min a b) := by
  by_cases h : b < a
  · rw [if_pos (nI_lt h (by omega)), Nat.min_eq_right (by omega)]
  · rw [if_neg (nI_nlt (by omega) (by omega)), Nat.min_eq_left (by omega)]
theorem mx_max {a b : Nat} (ha : a < 9) (hb : b < 9) : (if nI a < nI b then nI b else nI a) = nI (max a b) := by
  by_cases h : a < b
  · rw [if_pos (nI_lt h (by omega)), Nat.max_eq_right (by omega)]
  · rw [if_neg (nI_nlt (by omega) (by omega)), Nat.max_eq_left (by omega)]
theorem CS_up {I I' : am_I} {σ : St} (zC : CS I σ) {f : Nat} {s t : Int32} {kd : Nat} (h : am_fr [10, 11, 12] I I') (h10 : I' 10 = fup (I 10) f s) (h11 : I' 11 = fup (I 11) f t) (h12 : I' 12 = fup (I 12) f (nI kd)) : CS I' (sUp σ f s t kd) := by
  obtain ⟨⟨p1, p2⟩, c1, c2, c3⟩ := zC
  refine ⟨⟨by rw [h 1 (by decide)]; exact p1, fun p hp => by rw [h 2 (by decide), h 3 (by decide)]; exact p2 p hp⟩, by rw [h 7 (by decide)]; exact c1, fun g hg => ?_, fun x y hx hy => by rw [h 13 (by decide)]; exact c3 x y hx hy⟩
  obtain ⟨d1, d2, d3, d4, d5⟩ := c2 g hg
  rw [h 8 (by decide), h 9 (by decide), h10, h11, h12]
  show I 8 g = nI (sL σ g) ∧ I 9 g = nI (sG σ g) ∧ fup (I 10) f s g = fup (sS σ) f s g ∧ fup (I 11) f t g = fup (sT σ) f t g ∧ fup (I 12) f (nI kd) g = nI (fup (sK σ) f kd g)
  by_cases e : g = f
  · rw [e, fup_self, fup_self, fup_self, fup_self, fup_self, fup_self, ← e]; exact ⟨d1, d2, rfl, rfl, rfl⟩
  · rw [fup_ne e, fup_ne e, fup_ne e, fup_ne e, fup_ne e, fup_ne e]; exact ⟨d1, d2, d3, d4, d5⟩
theorem CS_new {I I' : am_I} {σ : St} (zC : CS I σ) {a b : Nat} (ha : a < 9) (hb : b < 9) (hab : a ≠ b) (hq : sF σ a b = none) {s t : Int32} {kd : Nat} (h : am_fr [7, 8, 9, 10, 11, 12, 13] I I') (h7 : I' 7 0 = nI (sM σ + 1)) (h8 : I' 8 = fup (I 8) (sM σ) (nI (min a b))) (h9 : I' 9 = fup (I 9) (sM σ) (nI (max a b)))
    (h10 : I' 10 = fup (I 10) (sM σ) s) (h11 : I' 11 = fup (I 11) (sM σ) t) (h12 : I' 12 = fup (I 12) (sM σ) (nI kd)) (h13 : I' 13 = fup (fup (I 13) (9 * a + b) (nI (sM σ))) (9 * b + a) (nI (sM σ))) : CS I' (sNew σ a b s t kd) := by
  obtain ⟨⟨p1, p2⟩, c1, c2, c3⟩ := zC
  refine ⟨⟨by rw [h 1 (by decide)]; exact p1, fun p hp => by rw [h 2 (by decide), h 3 (by decide)]; exact p2 p hp⟩, h7, fun g hg => ?_, fun x y hx hy => ?_⟩
  · have hg1 : g < sM σ + 1 := hg
    rw [h8, h9, h10, h11, h12]
    show fup (I 8) (sM σ) (nI (min a b)) g = nI (fup (sL σ) (sM σ) (min a b) g) ∧ fup (I 9) (sM σ) (nI (max a b)) g = nI (fup (sG σ) (sM σ) (max a b) g) ∧ fup (I 10) (sM σ) s g = fup (sS σ) (sM σ) s g ∧ fup (I 11) (sM σ) t g = fup (sT σ) (sM σ) t g ∧ fup (I 12) (sM σ) (nI kd) g = nI (fup (sK σ) (sM σ) kd g)
    by_cases e : g = sM σ
    · rw [e]; simp only [fup_self]; exact ⟨trivial, trivial, trivial, trivial, trivial⟩
    · simp only [fup_ne e]; exact c2 g (by omega)
  · rw [h13]
    show fup (fup (I 13) (9 * a + b) (nI (sM σ))) (9 * b + a) (nI (sM σ)) (9 * x + y) = enc (fd (fup (sL σ) (sM σ) (min a b)) (fup (sG σ) (sM σ) (max a b)) x y (sM σ + 1))
    rw [fd, fd_congr (L := sL σ) (G := sG σ) (sM σ) (fun g hg => ⟨fup_ne (by omega), fup_ne (by omega)⟩), fup_self, fup_self]
    have c := c3 x y hx hy
    by_cases e1 : x = b ∧ y = a
    · obtain ⟨rfl, rfl⟩ := e1
      rw [fup_self, show fd (sL σ) (sG σ) x y (sM σ) = none from by rw [fd_symm]; exact hq]
      dsimp only
      rw [if_pos ((mm_pair hab).mpr (Or.inr ⟨rfl, rfl⟩))]
      rfl
    · rw [fup_ne (fun q => e1 ((i9 hy ha).mp q))]
      by_cases e2 : x = a ∧ y = b
      · obtain ⟨rfl, rfl⟩ := e2
        rw [fup_self, show fd (sL σ) (sG σ) x y (sM σ) = none from hq]
        dsimp only
        rw [if_pos ((mm_pair hab).mpr (Or.inl ⟨rfl, rfl⟩))]
        rfl
      · rw [fup_ne (fun q => e2 ((i9 hy hb).mp q)), c]
        show enc (fd (sL σ) (sG σ) x y (sM σ)) = _
        cases hx2 : fd (sL σ) (sG σ) x y (sM σ) with
        | some g => rfl
        | none =>
          dsimp only
          rw [if_neg (fun q => ((mm_pair hab).mp q).elim e2 e1)]
theorem am_fr.up {l : List Nat} {I J : am_I} {q j : Nat} {v : Int32} (h : am_fr l I J) (hq : q ∈ l) : am_fr l I (am_up J q j v) := fun x hx => by
  rw [am_up_ne (fun e => hx (by rw [e]; exact hq))]
  exact h x hx
theorem am_up_fup {I : am_I} {q j : Nat} {v : Int32} : am_up I q j v q = fup (I q) j v := by
  funext i
  simp [am_up, fup]
theorem r_tell {E : am_E} (zi : am_inj E) {k : Nat} {σ : St} (zw : wf σ) {I : am_I} (zC : CS I σ) (w : Int64) (hk : 1 ≤ k) {a b : Nat} (ha : a < sN σ) (hb : b < sN σ) (hab : a ≠ b) (s t : Int32) (kd : Nat) :
    am_Ret E k Y_Feelings_tell [.ref 7, .int (nI a), .int (nI b), .int s, .int t, .int (nI kd)] I w (fun r I' w' => r = some (.int (nI (sTell σ a b s t kd).1)) ∧ w' = w ∧ CS I' (sTell σ a b s t kd).2 ∧ am_fr [7, 8, 9, 10, 11, 12, 13] I I') := by
  refine am_intro (pv_Feelings_tell E k) (by decide) zi ?_ rfl rfl ?_
  · rintro _ _ _ ⟨rfl, -⟩; rfl
  intro S hS
  have h9 := zw.1
  have h36 := sM_le zw
  have c1 := zC.2.1
  refine am_at hS (fun _ => false) 120 0 ?_
  refine ⟨_, _, (by omega : k - 1 < k), r_find zi zw zC w (by omega) (by omega), am_elim ?_⟩
  cases hq : sF σ a b with
  | some f =>
    have hf := sF_lt_M hq
    have eT : sTell σ a b s t kd = (f, sUp σ f s t kd) := by unfold sTell; rw [hq]
    rw [eT]
    have ef : (enc (some f)).toNatClampNeg = f := nI_clamp (by omega)
    refine ⟨fun q => absurd q (nI_ne1 (by omega)), fun _ => ?_⟩
    refine ⟨vp_in_nI (by omega) (by omega), ?_⟩
    refine ⟨vp_in_nI (by omega) (by omega), ?_⟩
    refine ⟨vp_in_nI (by omega) (by omega), ?_⟩
    rw [ef]
    refine ⟨rfl, rfl, CS_up zC ?_ ?_ ?_ ?_, ?_⟩
    · exact am_fr.up (am_fr.up (am_fr.up am_fr.refl (by decide)) (by decide)) (by decide)
    · rw [am_up_ne (by decide), am_up_ne (by decide), am_up_fup]
    · rw [am_up_ne (by decide), am_up_fup, am_up_ne (by decide)]
    · rw [am_up_fup, am_up_ne (by decide), am_up_ne (by decide)]
    · exact am_fr.up (am_fr.up (am_fr.up am_fr.refl (by decide)) (by decide)) (by decide)
  | none =>
    have hM : sM σ < 36 := by
      rcases Nat.lt_or_gt_of_ne hab with q | q
      · exact sM_lt zw q hb hq
      · exact sM_lt zw q ha (by rw [sF, fd_symm]; exact hq)
    have eT : sTell σ a b s t kd = (sM σ, sNew σ a b s t kd) := by unfold sTell; rw [hq]
    rw [eT]
    have ef : (nI (sM σ)).toNatClampNeg = sM σ := nI_clamp (by omega)
    refine ⟨fun _ => ?_, fun q => absurd rfl q⟩
    refine ⟨fun _ => ?_, fun q => absurd (show I 7 0 < 36 by rw [c1]; exact nI_lt hM (by decide)) q⟩
    have bd : vp_in (I 7 0) 36 := by rw [c1]; exact vp_in_nI (by omega) (by omega)
    refine ⟨by omega, ?_⟩
    refine ⟨bd, ?_⟩
    refine ⟨by omega, ?_⟩
    refine ⟨bd, ?_⟩
    refine ⟨by rw [ix81]; exact vp_in_nI (by omega) (by omega), ?_⟩
    refine ⟨by rw [ix81]; exact vp_in_nI (by omega) (by omega), ?_⟩
    refine ⟨bd, ?_⟩
    refine ⟨bd, ?_⟩
    refine ⟨bd, ?_⟩
    rw [c1, ef, ix81, ix81, nI_clamp (show 9 * a + b < 2 ^ 31 by omega), nI_clamp (show 9 * b + a < 2 ^ 31 by omega), mn_min (by omega) (by omega), mx_max (by omega) (by omega)]
    refine ⟨rfl, rfl, CS_new zC (by omega) (by omega) hab hq ?_ ?_ ?_ ?_ ?_ ?_ ?_ ?_, ?_⟩
    · exact am_fr.up (am_fr.up (am_fr.up (am_fr.up (am_fr.up (am_fr.up (am_fr.up (am_fr.up am_fr.refl (by decide)) (by decide)) (by decide)) (by decide)) (by decide)) (by decide)) (by decide)) (by decide)
    · rw [am_up_ne (by decide), am_up_ne (by decide), am_up_ne (by decide), am_up_ne (by decide), am_up_ne (by decide), am_up_ne (by decide), am_up_ne (by decide), am_up_fup, fup_self]
      exact nI_1 _
    · rw [am_up_ne (by decide), am_up_ne (by decide), am_up_ne (by decide), am_up_ne (by decide), am_up_ne (by decide), am_up_ne (by decide), am_up_fup, am_up_ne (by decide)]
    · rw [am_up_ne (by decide), am_up_ne (by decide), am_up_ne (by decide), am_up_ne (by decide), am_up_ne (by decide), am_up_fup, am_up_ne (by decide), am_up_ne (by decide)]
    · rw [am_up_ne (by decide), am_up_ne (by decide), am_up_fup, am_up_ne (by decide), am_up_ne (by decide), am_up_ne (by decide), am_up_ne (by decide), am_up_ne (by decide)]
    · rw [am_up_ne (by decide), am_up_fup, am_up_ne (by decide), am_up_ne (by decide), am_up_ne (by decide), am_up_ne (by decide), am_up_ne (by decide), am_up_ne (by decide)]
    · rw [am_up_fup, am_up_ne (by decide), am_up_ne (by decide), am_up_ne (by decide), am_up_ne (by decide), am_up_ne (by decide), am_up_ne (by decide), am_up_ne (by decide)]
    · rw [am_up_ne (by decide), am_up_ne (by decide), am_up_ne (by decide), am_up_fup, am_up_fup, am_up_ne (by decide), am_up_ne (by decide), am_up_ne (by decide)]
    · exact am_fr.up (am_fr.up (am_fr.up (am_fr.up (am_fr.up (am_fr.up (am_fr.up (am_fr.up am_fr.refl (by decide)) (by decide)) (by decide)) (by decide)) (by decide)) (by decide)) (by decide)) (by decide)

