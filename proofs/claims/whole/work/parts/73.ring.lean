/-! the RING: the search of both, place by place -/
abbrev Bf : Type := Nat × (Nat → Nat) × (Nat → Option Nat) × (Nat → Nat)
abbrev bfN (z : Bf) : Nat := z.1
abbrev bfQ (z : Bf) : Nat → Nat := z.2.1
abbrev bfB (z : Bf) : Nat → Option Nat := z.2.2.1
abbrev bfS (z : Bf) : Nat → Nat := z.2.2.2
def bArv (z : Bf) (pl fm s : Nat) : Bf := match bfB z pl with
  | some _ => z
  | none => (bfN z + 1, fup (bfQ z) (bfN z) pl, fup (bfB z) pl (some fm), fup (bfS z) pl s)
theorem bArv_so {z : Bf} {pl fm s y : Nat} (h : bfB z pl = some y) : bArv z pl fm s = z := by unfold bArv; rw [h]
theorem bArv_no {z : Bf} {pl fm s : Nat} (h : bfB z pl = none) : bArv z pl fm s = (bfN z + 1, fup (bfQ z) (bfN z) pl, fup (bfB z) pl (some fm), fup (bfS z) pl s) := by unfold bArv; rw [h]
def bIn (σ : St) (p : Nat) (z : Bf) : Prop := bfN z = cnt (fun x => (bfB z x).isSome) 18 ∧ (∀ i, i < bfN z → bfQ z i < 2 * sN σ ∧ (bfB z (bfQ z i)).isSome = true) ∧ (bfB z (2 * p) = some (2 * p) ∧ bfS z (2 * p) = 0) ∧ ∀ x y, bfB z x = some y → x < 2 * sN σ ∧ bfS z x < bfN z ∧ (x ≠ 2 * p → (bfB z y).isSome = true ∧ bfS z x = bfS z y + 1)
theorem isS {o : Option Nat} (h : o.isSome = true) : ∃ x, o = some x := by
  cases o with
  | none => cases h
  | some x => exact ⟨x, rfl⟩
theorem bIn_le {σ : St} {p : Nat} {z : Bf} (h : bIn σ p z) : bfN z ≤ 18 := by rw [h.1]; exact cnt_le _ _
theorem bIn_so {σ : St} {p : Nat} {z : Bf} (h : bIn σ p z) {x : Nat} (hx : (bfB z x).isSome = true) : x < 2 * sN σ ∧ bfS z x < bfN z := by
  obtain ⟨y, e⟩ := isS hx
  exact ⟨(h.2.2.2 x y e).1, (h.2.2.2 x y e).2.1⟩
theorem bIn_new {σ : St} {p : Nat} {z : Bf} (h : bIn σ p z) {x : Nat} (hx : x < 18) (hn : bfB z x = none) : bfN z < 18 := by
  rw [h.1]
  have := cnt_lt (Q := fun x => (bfB z x).isSome) (R := fun _ => true) (x := x) 18 (fun _ _ _ => rfl) hx rfl (by rw [hn]; rfl)
  have e : cnt (fun _ => true) 18 = 18 := by decide
  omega
theorem cnt_more {Q R : Nat → Bool} {x : Nat} : ∀ n, x < n → (∀ i, i ≠ x → R i = Q i) → Q x = false → R x = true → cnt R n = cnt Q n + 1
  | 0, h, _, _, _ => absurd h (Nat.not_lt_zero _)
  | n + 1, h, he, hq, hr => by
    rw [cnt, cnt]
    by_cases e : x = n
    · rw [cnt_congr (R := Q) n (fun i hi => he i (by omega)), ← e, hq, hr]
      rfl
    · rw [cnt_more n (by omega) he hq hr, he n (fun z => e z.symm)]
      omega
theorem bIn_arv {σ : St} (zw : wf σ) {p : Nat} {z : Bf} (h : bIn σ p z) {pl fm : Nat} (hpl : pl < 2 * sN σ) (hf : (bfB z fm).isSome = true) : bIn σ p (bArv z pl fm (bfS z fm + 1)) ∧ (∀ x, (bfB z x).isSome = true → (bfB (bArv z pl fm (bfS z fm + 1)) x).isSome = true ∧ bfS (bArv z pl fm (bfS z fm + 1)) x = bfS z x) := by
  have h9 := zw.1
  cases hb : bfB z pl with
  | some y => rw [bArv_so hb]; exact ⟨h, fun x hx => ⟨hx, rfl⟩⟩
  | none =>
    obtain ⟨h1, h2, h3, h4⟩ := h
    have hfp : ¬ fm = pl := fun e => by rw [e, hb] at hf; cases hf
    have hpp : ¬ 2 * p = pl := fun e => by rw [← e, h3.1] at hb; cases hb
    have ffm := (bIn_so ⟨h1, h2, h3, h4⟩ hf).2
    have keep : ∀ x, (bfB z x).isSome = true → (fup (bfB z) pl (some fm) x).isSome = true := fun x hx => by
      by_cases e : x = pl
      · rw [e, fup_self]; rfl
      · rw [fup_ne e]; exact hx
    have keep2 : ∀ x, (bfB z x).isSome = true → fup (bfS z) pl (bfS z fm + 1) x = bfS z x := fun x hx => fup_ne (fun e => by rw [e, hb] at hx; cases hx)
    rw [bArv_no hb]
    refine ⟨⟨?_, fun i hi => ?_, ⟨?_, ?_⟩, fun x y hx => ?_⟩, fun x hx => ⟨keep x hx, keep2 x hx⟩⟩
    · show bfN z + 1 = cnt (fun x => (fup (bfB z) pl (some fm) x).isSome) 18
      rw [cnt_more (Q := fun x => (bfB z x).isSome) (x := pl) 18 (by omega) (fun i hi => by rw [fup_ne hi]) (by rw [hb]; rfl) (by rw [fup_self]; rfl), ← h1]
    · have hi : i < bfN z + 1 := hi
      show fup (bfQ z) (bfN z) pl i < 2 * sN σ ∧ (fup (bfB z) pl (some fm) (fup (bfQ z) (bfN z) pl i)).isSome = true
      by_cases e : i = bfN z
      · rw [e, fup_self, fup_self]; exact ⟨hpl, rfl⟩
      · rw [fup_ne e]
        obtain ⟨g1, g2⟩ := h2 i (by omega)
        exact ⟨g1, keep _ g2⟩
    · show fup (bfB z) pl (some fm) (2 * p) = some (2 * p)
      rw [fup_ne hpp]; exact h3.1
    · show fup (bfS z) pl (bfS z fm + 1) (2 * p) = 0
      rw [fup_ne hpp]; exact h3.2
    · have hx : fup (bfB z) pl (some fm) x = some y := hx
      show x < 2 * sN σ ∧ fup (bfS z) pl (bfS z fm + 1) x < bfN z + 1 ∧ (x ≠ 2 * p → (fup (bfB z) pl (some fm) y).isSome = true ∧ fup (bfS z) pl (bfS z fm + 1) x = fup (bfS z) pl (bfS z fm + 1) y + 1)
      by_cases e : x = pl
      · rw [e, fup_self] at hx
        cases hx
        rw [e, fup_self, fup_ne hfp]
        exact ⟨hpl, by omega, fun _ => ⟨hf, (by rw [fup_ne hfp])⟩⟩
      · rw [fup_ne e] at hx
        obtain ⟨g1, g2, g3⟩ := h4 x y hx
        rw [fup_ne e]
        refine ⟨g1, by omega, fun hne => ?_⟩
        obtain ⟨k1, k2⟩ := g3 hne
        rw [keep2 y k1]
        exact ⟨keep y k1, k2⟩
def hxo (σ : St) (f pl : Nat) : Nat := if sS σ f < 0 then 1 - pl % 2 else pl % 2
theorem hxo_lt {σ : St} {f pl : Nat} : hxo σ f pl < 2 := by unfold hxo; split <;> omega
def lvs (σ : St) (pl : Nat) (z : Bf) : Nat → Bf
  | 0 => z
  | o + 1 => match sF σ (pl / 2) o with
    | none => lvs σ pl z o
    | some f => bArv (lvs σ pl z o) (2 * o + hxo σ f pl) pl (bfS (lvs σ pl z o) pl + 1)
theorem lvs_no {σ : St} {pl o : Nat} {z : Bf} (h : sF σ (pl / 2) o = none) : lvs σ pl z (o + 1) = lvs σ pl z o := by rw [lvs, h]
theorem lvs_so {σ : St} {pl o f : Nat} {z : Bf} (h : sF σ (pl / 2) o = some f) : lvs σ pl z (o + 1) = bArv (lvs σ pl z o) (2 * o + hxo σ f pl) pl (bfS (lvs σ pl z o) pl + 1) := by rw [lvs, h]
theorem bIn_lvs {σ : St} (zw : wf σ) {p pl : Nat} {z : Bf} (h : bIn σ p z) (hp : (bfB z pl).isSome = true) : ∀ o, o ≤ sN σ → bIn σ p (lvs σ pl z o) ∧ ∀ x, (bfB z x).isSome = true → (bfB (lvs σ pl z o) x).isSome = true
  | 0, _ => ⟨h, fun _ hx => hx⟩
  | o + 1, ho => by
    obtain ⟨i1, i2⟩ := bIn_lvs zw h hp o (by omega)
    cases hs : sF σ (pl / 2) o with
    | none => rw [lvs_no hs]; exact ⟨i1, i2⟩
    | some f =>
      rw [lvs_so hs]
      have hh := hxo_lt (σ := σ) (f := f) (pl := pl)
      obtain ⟨g1, g2⟩ := bIn_arv zw i1 (pl := 2 * o + hxo σ f pl) (fm := pl) (by omega) (i2 pl hp)
      exact ⟨g1, fun x hx => (g2 x (i2 x hx)).1⟩
def bf0 (p : Nat) : Bf := (1, fup (fun _ => 0) 0 (2 * p), fup (fun _ => none) (2 * p) (some (2 * p)), fup (fun _ => 0) (2 * p) 0)
def bfi (σ : St) (p : Nat) : Nat → Bf
  | 0 => bf0 p
  | i + 1 => cond (decide (i < bfN (bfi σ p i))) (lvs σ (bfQ (bfi σ p i) i) (bfi σ p i) (sN σ)) (bfi σ p i)
theorem bIn_0 {σ : St} (zw : wf σ) {p : Nat} (hp : p < sN σ) : bIn σ p (bf0 p) := by
  have h9 := zw.1
  refine ⟨?_, fun i hi => ?_, ⟨(fup_self : fup (fun _ => none) (2 * p) (some (2 * p)) (2 * p) = some (2 * p)), (fup_self : fup (fun _ => 0) (2 * p) 0 (2 * p) = 0)⟩, fun x y hx => ?_⟩
  · show 1 = cnt (fun x => (fup (fun _ => none) (2 * p) (some (2 * p)) x).isSome) 18
    rw [cnt_more (Q := fun _ => false) (x := 2 * p) 18 (by omega) (fun i hi => by rw [fup_ne hi]; rfl) rfl (by rw [fup_self]; rfl), cnt_0 18 (fun _ _ => rfl)]
  · have hi : i < 1 := hi
    show fup (fun _ => 0) 0 (2 * p) i < 2 * sN σ ∧ (fup (fun _ => none) (2 * p) (some (2 * p)) (fup (fun _ => 0) 0 (2 * p) i)).isSome = true
    rw [show i = 0 by omega, fup_self, fup_self]
    exact ⟨by omega, rfl⟩
  · have hx : fup (fun _ => none) (2 * p) (some (2 * p)) x = some y := hx
    by_cases e : x = 2 * p
    · refine ⟨by omega, ?_, fun hne => absurd e hne⟩
      show fup (fun _ => 0) (2 * p) 0 x < 1
      rw [e, fup_self]
      decide
    · rw [fup_ne e] at hx
      cases hx
theorem bIn_i {σ : St} (zw : wf σ) {p : Nat} (hp : p < sN σ) : ∀ i, bIn σ p (bfi σ p i)
  | 0 => bIn_0 zw hp
  | i + 1 => by
    have ih := bIn_i zw hp i
    rw [bfi]
    by_cases h : i < bfN (bfi σ p i)
    · rw [decide_eq_true h, cond_true]
      exact (bIn_lvs zw ih (ih.2.1 i h).2 (sN σ) (Nat.le_refl _)).1
    · rw [decide_eq_false h, cond_false]
      exact ih
theorem bfi_s {σ : St} {p i : Nat} (h : i < bfN (bfi σ p i)) : bfi σ p (i + 1) = lvs σ (bfQ (bfi σ p i) i) (bfi σ p i) (sN σ) := by rw [bfi, decide_eq_true h]; rfl
theorem bfi_stay {σ : St} {p i : Nat} (h : ¬ i < bfN (bfi σ p i)) : ∀ j, i ≤ j → bfi σ p j = bfi σ p i
  | 0, hj => by rw [show i = 0 by omega]
  | j + 1, hj => by
    by_cases e : i = j + 1
    · rw [e]
    · have hs := bfi_stay h j (by omega)
      rw [bfi, hs, decide_eq_false (by omega)]
      rfl
theorem bfi_end {σ : St} (zw : wf σ) {p i : Nat} (hp : p < sN σ) (h : ¬ i < bfN (bfi σ p i)) : bfi σ p i = bfi σ p 18 := by
  rcases Nat.le_total i 18 with q | q
  · exact (bfi_stay h 18 q).symm
  · have h18 := bIn_le (bIn_i zw hp 18)
    exact bfi_stay (by omega) i q
/-- the way back -/
def bch (z : Bf) (l : Nat) : Nat → Nat
  | 0 => l
  | j + 1 => (bfB z (bch z l j)).getD 0
theorem bch_ok {σ : St} {p : Nat} {z : Bf} (h : bIn σ p z) {l : Nat} (hl : (bfB z l).isSome = true) : ∀ j, j ≤ bfS z l → (bfB z (bch z l j)).isSome = true ∧ bfS z (bch z l j) + j = bfS z l
  | 0, _ => ⟨hl, rfl⟩
  | j + 1, hj => by
    obtain ⟨i1, i2⟩ := bch_ok h hl j (by omega)
    obtain ⟨y, e⟩ := isS i1
    have hne : bch z l j ≠ 2 * p := fun q => by
      have := h.2.2.1.2
      rw [← q] at this
      omega
    obtain ⟨g1, g2⟩ := (h.2.2.2 _ y e).2.2 hne
    rw [bch, e]
    exact ⟨g1, by show bfS z y + (j + 1) = _; omega⟩
def bfE (σ : St) (p : Nat) : Bf := bfi σ p 18
def rgG (P : Nat → Option Nat) (c : Nat → Nat) : Nat → Option (Nat × Nat)
  | 0 => none
  | p + 1 => match P p with
    | none => rgG P c p
    | some _ => match rgG P c p with
      | none => some (c p, p)
      | some (n, q) => if c p < n then some (c p, p) else some (n, q)
theorem rgG_no {P : Nat → Option Nat} {c : Nat → Nat} {p : Nat} (h : P p = none) : rgG P c (p + 1) = rgG P c p := by rw [rgG, h]
theorem rgG_0 {P : Nat → Option Nat} {c : Nat → Nat} {p y : Nat} (h : P p = some y) (h2 : rgG P c p = none) : rgG P c (p + 1) = some (c p, p) := by rw [rgG, h]; dsimp only; rw [h2]
theorem rgG_1 {P : Nat → Option Nat} {c : Nat → Nat} {p y n q : Nat} (h : P p = some y) (h2 : rgG P c p = some (n, q)) : rgG P c (p + 1) = if c p < n then some (c p, p) else some (n, q) := by rw [rgG, h]; dsimp only; rw [h2]
def rgN (σ : St) (p : Nat) : Option (Nat × Nat) := rgG (fun p => bfB (bfE σ p) (2 * p + 1)) (fun p => bfS (bfE σ p) (2 * p + 1)) p
theorem rg_z {σ : St} : rgN σ 0 = none := rfl
theorem rg_no {σ : St} {p : Nat} (h : bfB (bfE σ p) (2 * p + 1) = none) : rgN σ (p + 1) = rgN σ p := rgG_no (P := fun p => bfB (bfE σ p) (2 * p + 1)) h
theorem rg_0 {σ : St} {p y : Nat} (h : bfB (bfE σ p) (2 * p + 1) = some y) (h2 : rgN σ p = none) : rgN σ (p + 1) = some (bfS (bfE σ p) (2 * p + 1), p) := rgG_0 (P := fun p => bfB (bfE σ p) (2 * p + 1)) (c := fun p => bfS (bfE σ p) (2 * p + 1)) h h2
theorem rg_1 {σ : St} {p y n q : Nat} (h : bfB (bfE σ p) (2 * p + 1) = some y) (h2 : rgN σ p = some (n, q)) : rgN σ (p + 1) = if bfS (bfE σ p) (2 * p + 1) < n then some (bfS (bfE σ p) (2 * p + 1), p) else some (n, q) := rgG_1 (P := fun p => bfB (bfE σ p) (2 * p + 1)) (c := fun p => bfS (bfE σ p) (2 * p + 1)) h h2
theorem rgG_ok {P : Nat → Option Nat} {c : Nat → Nat} : ∀ {p n q : Nat}, rgG P c p = some (n, q) → q < p ∧ (P q).isSome = true ∧ n = c q
  | 0, n, q, h => by cases h
  | p + 1, n, q, h => by
    cases hb : P p with
    | none =>
      rw [rgG_no hb] at h
      obtain ⟨g1, g2⟩ := rgG_ok h
      exact ⟨by omega, g2⟩
    | some y =>
      cases hr : rgG P c p with
      | none =>
        rw [rgG_0 hb hr] at h
        cases h
        exact ⟨by omega, by rw [hb]; rfl, rfl⟩
      | some v =>
        obtain ⟨m, x⟩ := v
        rw [rgG_1 hb hr] at h
        by_cases hc : c p < m
        · rw [if_pos hc] at h
          cases h
          exact ⟨by omega, by rw [hb]; rfl, rfl⟩
        · rw [if_neg hc] at h
          cases h
          obtain ⟨g1, g2⟩ := rgG_ok hr
          exact ⟨by omega, g2⟩
theorem rg_ok {σ : St} (zw : wf σ) {p : Nat} (hp : p ≤ sN σ) {n q : Nat} (h : rgN σ p = some (n, q)) : q < p ∧ (bfB (bfE σ q) (2 * q + 1)).isSome = true ∧ n = bfS (bfE σ q) (2 * q + 1) ∧ 0 < n ∧ n < 18 := by
  unfold rgN at h
  obtain ⟨g1, g2, g3⟩ := rgG_ok h
  have hI : bIn σ q (bfE σ q) := bIn_i zw (by omega) 18
  obtain ⟨z, ez⟩ : ∃ z, z = bfE σ q := ⟨_, rfl⟩
  rw [← ez] at g2 g3 hI ⊢
  have hle := bIn_le hI
  obtain ⟨y, hb⟩ := isS g2
  obtain ⟨k1, k2, k3⟩ := hI.2.2.2 _ y hb
  have k4 := (k3 (by omega)).2
  exact ⟨g1, g2, g3, by omega, by omega⟩
def rrw (σ : St) (n q k : Nat) : Nat := bch (bfE σ q) (2 * q + 1) (n - k) / 2
def aRing (σ : St) (i : Int32) : Int32 := match rgN σ (sN σ) with
  | none => -1
  | some (n, q) => if i = -1 then nI n else cond (inb i n) (nI (rrw σ n q i.toNatClampNeg)) (-1)
theorem div2_ok : (List.range 18).all (fun x => decide (nI x / 2 = nI (x / 2)) && (decide ((nI x - nI x / 2 * 2) ^^^ 1 = nI (1 - x % 2)) && decide ((nI x - nI x / 2 * 2) ^^^ 0 = nI (x % 2)))) = true := by decide +kernel
theorem div2 {x : Nat} (h : x < 18) : nI x / 2 = nI (x / 2) ∧ (nI x - nI x / 2 * 2) ^^^ 1 = nI (1 - x % 2) ∧ (nI x - nI x / 2 * 2) ^^^ 0 = nI (x % 2) := by
  have h1 := List.all_eq_true.mp div2_ok x (List.mem_range.mpr h)
  rw [Bool.and_eq_true, Bool.and_eq_true, decide_eq_true_eq, decide_eq_true_eq, decide_eq_true_eq] at h1
  exact h1
theorem mul2 {x : Nat} : 2 * nI x = nI (2 * x) := by rw [show (2 : Int32) = nI 2 from rfl, pk_mul]
