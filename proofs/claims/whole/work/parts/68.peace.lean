/-! PEACE: each by the FEELING that reaches it first -/
def nwc (a x : Nat) : Nat := a &&& (511 ^^^ x)
theorem nwc_lt {a x : Nat} (h : a < 512) : nwc a x < 512 := Nat.lt_of_le_of_lt Nat.and_le_left h
theorem nwc_bit {a x q : Nat} (h : a < 512) : (nwc a x).testBit q = (a.testBit q && !x.testBit q) := by
  unfold nwc
  rw [Nat.testBit_and, Nat.testBit_xor, show (511 : Nat) = 2 ^ 9 - 1 from rfl, Nat.testBit_two_pow_sub_one]
  by_cases hq : q < 9
  · rw [decide_eq_true hq, Bool.true_xor]
  · rw [Nat.testBit_lt_two_pow (Nat.lt_of_lt_of_le h (Nat.pow_le_pow_right (n := 2) (by decide) (show 9 ≤ q by omega))), Bool.false_and, Bool.false_and]
theorem nwI {a x : Nat} (ha : a < 512) : nI a &&& (nI x ^^^ (-1)) = nI (nwc a x) := by
  rw [show (-1 : Int32) = nI 4294967295 by decide, nI_xor, nI_and]
  have e : a &&& (x ^^^ 4294967295) = nwc a x := by
    apply Nat.eq_of_testBit_eq
    intro q
    rw [nwc_bit ha, Nat.testBit_and, Nat.testBit_xor, show (4294967295 : Nat) = 2 ^ 32 - 1 from rfl, Nat.testBit_two_pow_sub_one]
    by_cases hq : q < 9
    · rw [decide_eq_true (show q < 32 by omega), Bool.xor_true]
    · rw [Nat.testBit_lt_two_pow (Nat.lt_of_lt_of_le ha (Nat.pow_le_pow_right (n := 2) (by decide) (show 9 ≤ q by omega))), Bool.false_and, Bool.false_and]
  rw [e]
theorem two_ok : (List.range 9).all (fun a => (List.range 9).all (fun b => decide (a = b) || [true, false].all (fun u => [true, false].all (fun v => decide (pcn (cond u 0 (2 ^ a) ||| cond v 0 (2 ^ b)) = cond u 0 1 + cond v 0 1))))) = true := by decide +kernel
theorem nwc_eb {σ : St} (zw : wf σ) {f x : Nat} (hf : f < sM σ) : nwc (eb σ f) x = cond (x.testBit (sL σ f)) 0 (2 ^ sL σ f) ||| cond (x.testBit (sG σ f)) 0 (2 ^ sG σ f) := by
  apply Nat.eq_of_testBit_eq
  intro q
  have key : ∀ (u : Bool) (a : Nat), (cond u 0 (2 ^ a)).testBit q = (!u && decide (a = q)) := fun u a => by
    cases u with
    | true => rw [cond_true, Nat.zero_testBit]; rfl
    | false => rw [cond_false, Nat.testBit_two_pow]; rfl
  rw [nwc_bit (eb_lt zw hf), Nat.testBit_or, key, key, Bool.eq_iff_iff]
  simp only [Bool.and_eq_true, Bool.or_eq_true, Bool.not_eq_true', decide_eq_true_eq, eb_bit]
  constructor
  · rintro ⟨rfl | rfl, h⟩
    · exact Or.inl ⟨h, rfl⟩
    · exact Or.inr ⟨h, rfl⟩
  · rintro (⟨h, rfl⟩ | ⟨h, rfl⟩)
    · exact ⟨Or.inl rfl, h⟩
    · exact ⟨Or.inr rfl, h⟩
theorem pcn_nwc {σ : St} (zw : wf σ) {f x : Nat} (hf : f < sM σ) : pcn (nwc (eb σ f) x) = cond (x.testBit (sL σ f)) 0 1 + cond (x.testBit (sG σ f)) 0 1 := by
  have h3 := zw.2.1.1 f hf
  have h9 := zw.1
  have h1 := List.all_eq_true.mp two_ok (sL σ f) (List.mem_range.mpr (by omega))
  have h2 := List.all_eq_true.mp h1 (sG σ f) (List.mem_range.mpr (by omega))
  rw [decide_eq_false (show ¬ sL σ f = sG σ f by omega), Bool.false_or] at h2
  have hb : ∀ b : Bool, b ∈ [true, false] := by decide
  have h4 := List.all_eq_true.mp (List.all_eq_true.mp h2 (x.testBit (sL σ f)) (hb _)) (x.testBit (sG σ f)) (hb _)
  rw [decide_eq_true_eq] at h4
  rw [nwc_eb zw hf]
  exact h4
/-- a camping forced along FEELINGS, those of R in camp 0 -/
def eOk (σ : St) (o m : Nat) : Prop := ∀ f, f < sM σ → eb σ f &&& o = 0 → wrm σ f m = false
def FF (σ : St) (o : Nat) (R : Nat → Prop) (x m : Nat) : Prop := m < 512 ∧ (∀ q, m.testBit q = true → x.testBit q = true ∧ ¬ R q) ∧ ∀ m', (∀ q, R q → m'.testBit q = false) → eOk σ o m' → ∀ q, x.testBit q = true → m.testBit q = m'.testBit q
theorem FF_key {σ : St} {m m2 m' : Nat} {a b : Nat} {g : Bool} (hy : m.testBit b = false) (hz : m.testBit a = m'.testBit a) (h2a : m2.testBit a = m.testBit a) (h2b : m2.testBit b = ((g != (m.testBit a == m.testBit b)))) (hm : (g != (m'.testBit a == m'.testBit b)) = false) : m2.testBit b = m'.testBit b := by
  rw [h2b, hy, hz]
  revert hm
  cases g <;> cases m'.testBit a <;> cases m'.testBit b <;> decide
theorem wrm_sw {σ : St} {f m a b : Nat} (h : (sL σ f = a ∧ sG σ f = b) ∨ (sL σ f = b ∧ sG σ f = a)) : wrm σ f m = (decide (0 < sS σ f) != (m.testBit a == m.testBit b)) := by
  unfold wrm wrt
  rcases h with ⟨rfl, rfl⟩ | ⟨rfl, rfl⟩
  · rfl
  · rw [Bool.beq_comm]
theorem FF_step {σ : St} (zw : wf σ) {o : Nat} {R : Nat → Prop} {x m f a b : Nat} (hF : FF σ o R x m) (hf : f < sM σ) (ho : eb σ f &&& o = 0) (h : (sL σ f = a ∧ sG σ f = b) ∨ (sL σ f = b ∧ sG σ f = a)) (ha : x.testBit a = true) (hb : x.testBit b = false) (hR : ¬ R b) :
    FF σ o R (x ||| eb σ f) (m ||| cond (wrm σ f m) (2 ^ b) 0) := by
  obtain ⟨f1, f2, f3⟩ := hF
  have h3 := zw.2.1.1 f hf
  have h9 := zw.1
  have hb9 : b < 9 := by rcases h with ⟨-, e⟩ | ⟨e, -⟩ <;> omega
  have hab : ¬ a = b := fun e => by rw [e, hb] at ha; cases ha
  have hy : m.testBit b = false := by
    cases q : m.testBit b with
    | false => rfl
    | true => rw [(f2 b q).1] at hb; cases hb
  have bits : ∀ q, (m ||| cond (wrm σ f m) (2 ^ b) 0).testBit q = (m.testBit q || (wrm σ f m && decide (b = q))) := fun q => by
    rw [Nat.testBit_or]
    cases wrm σ f m with
    | true => rw [cond_true, Nat.testBit_two_pow, Bool.true_and]
    | false => rw [cond_false, Nat.zero_testBit, Bool.false_and]
  have ebb : (eb σ f).testBit b = true := eb_bit.mpr (by rcases h with ⟨-, e⟩ | ⟨e, -⟩ <;> omega)
  refine ⟨?_, fun q hq => ?_, fun m' r1 r2 q hq => ?_⟩
  · refine Nat.or_lt_two_pow (n := 9) f1 ?_
    cases wrm σ f m with
    | true => exact Nat.pow_lt_pow_right (n := 9) (by decide) hb9
    | false => exact (by decide : 0 < 512)
  · rw [bits, Bool.or_eq_true, Bool.and_eq_true, decide_eq_true_eq] at hq
    rw [Nat.testBit_or]
    rcases hq with hq | ⟨-, rfl⟩
    · obtain ⟨g1, g2⟩ := f2 q hq
      exact ⟨by rw [g1]; rfl, g2⟩
    · exact ⟨by rw [ebb, Bool.or_true], hR⟩
  · have old : ∀ q, x.testBit q = true → (m ||| cond (wrm σ f m) (2 ^ b) 0).testBit q = m'.testBit q := fun q hq => by
      rw [bits, decide_eq_false (show ¬ b = q from fun e => by rw [← e, hb] at hq; cases hq), Bool.and_false, Bool.or_false]
      exact f3 m' r1 r2 q hq
    rw [Nat.testBit_or, Bool.or_eq_true, eb_bit] at hq
    by_cases hx : x.testBit q = true
    · exact old q hx
    · have e : q = b := by
        rcases hq with hq | hq | hq
        · exact absurd hq hx
        · rcases h with ⟨e1, e2⟩ | ⟨e1, e2⟩
          · exact absurd (by rw [hq, e1]; exact ha) hx
          · exact hq.trans e1
        · rcases h with ⟨e1, e2⟩ | ⟨e1, e2⟩
          · exact hq.trans e2
          · exact absurd (by rw [hq, e2]; exact ha) hx
      rw [e]
      have hw := r2 f hf ho
      rw [wrm_sw h] at hw
      refine FF_key hy (f3 m' r1 r2 a ha) ?_ ?_ hw (σ := σ)
      · rw [bits, decide_eq_false (show ¬ b = a from fun z => hab z.symm), Bool.and_false, Bool.or_false]
      · rw [bits, decide_eq_true rfl, Bool.and_true, hy, Bool.false_or, wrm_sw h, hy]
/-- PEACE as a set -/
def psP (σ : St) (o m : Nat) : Prop := (∀ q, m.testBit q = true → q < sN σ ∧ o.testBit q = false ∧ rep σ o q = false) ∧ eOk σ o m
def psF (σ : St) (o m : Nat) : Prop := m < 512 ∧ (∀ q, m.testBit q = true → q < sN σ ∧ o.testBit q = false ∧ rep σ o q = false) ∧ ∀ m', psP σ o m' → ∀ q, m'.testBit q = m.testBit q
def psb (σ : St) (o m : Nat) : Bool := (List.range 9).all (fun q => !m.testBit q || (decide (q < sN σ) && (!o.testBit q && !rep σ o q))) && (List.range (sM σ)).all (fun f => !decide (eb σ f &&& o = 0) || !wrm σ f m)
def pea (σ : St) (o : Nat) : Option Nat := (List.range 512).find? (psb σ o)
theorem pea_lt {σ : St} {o m : Nat} (h : pea σ o = some m) : m < 512 := by
  unfold pea at h
  have h2 : m ∈ List.range 512 := List.mem_of_find?_eq_some h
  rw [List.mem_range] at h2
  exact h2
theorem pea_ok {σ : St} {o m : Nat} (h : pea σ o = some m) : psb σ o m = true := by
  unfold pea at h
  exact List.find?_some h
theorem pea_none {σ : St} {o m : Nat} (h : pea σ o = none) (hm : m < 512) : ¬ psb σ o m = true := by
  unfold pea at h
  rw [List.find?_eq_none] at h
  exact h m (List.mem_range.mpr hm)
theorem psb_iff {σ : St} {o m : Nat} (hm : m < 512) : psb σ o m = true ↔ psP σ o m := by
  unfold psb psP eOk
  rw [Bool.and_eq_true, List.all_eq_true, List.all_eq_true]
  constructor
  · rintro ⟨h1, h2⟩
    refine ⟨fun q hq => ?_, fun f hf ho => ?_⟩
    · have hq9 : q < 9 := by
        apply Classical.byContradiction
        intro h
        rw [Nat.testBit_lt_two_pow (Nat.lt_of_lt_of_le hm (Nat.pow_le_pow_right (n := 2) (by decide) (show 9 ≤ q by omega)))] at hq
        cases hq
      have h3 := h1 q (List.mem_range.mpr hq9)
      rw [hq, Bool.not_true, Bool.false_or, Bool.and_eq_true, Bool.and_eq_true, decide_eq_true_eq, Bool.not_eq_true', Bool.not_eq_true'] at h3
      exact h3
    · have h3 := h2 f (List.mem_range.mpr hf)
      rw [decide_eq_true ho, Bool.not_true, Bool.false_or, Bool.not_eq_true'] at h3
      exact h3
  · rintro ⟨h1, h2⟩
    refine ⟨fun q _ => ?_, fun f hf => ?_⟩
    · cases hq : m.testBit q with
      | false => rfl
      | true =>
        obtain ⟨g1, g2, g3⟩ := h1 q hq
        rw [decide_eq_true g1, g2, g3]
        rfl
    · by_cases ho : eb σ f &&& o = 0
      · rw [h2 f (List.mem_range.mp hf) ho, Bool.not_false, Bool.or_true]
      · rw [decide_eq_false ho]
        rfl
theorem psF_no {σ : St} {o m : Nat} (h : psF σ o m) {f : Nat} (hf : f < sM σ) (ho : eb σ f &&& o = 0) (hw : wrm σ f m = true) : pea σ o = none := by
  cases hp : pea σ o with
  | none => rfl
  | some x =>
    have hx : x < 512 := pea_lt hp
    have hP := (psb_iff hx).mp (pea_ok hp)
    have e : x = m := Nat.eq_of_testBit_eq (h.2.2 x hP)
    have := hP.2 f hf ho
    rw [e, hw] at this
    cases this
theorem psF_yes {σ : St} {o m : Nat} (h : psF σ o m) (he : eOk σ o m) : pea σ o = some m := by
  have hb : psb σ o m = true := (psb_iff h.1).mpr ⟨h.2.1, he⟩
  cases hp : pea σ o with
  | none => exact absurd hb (pea_none hp h.1)
  | some x =>
    have hx : x < 512 := pea_lt hp
    have hP := (psb_iff hx).mp (pea_ok hp)
    have e : x = m := Nat.eq_of_testBit_eq (h.2.2 x hP)
    rw [e]
theorem clo_N {σ : St} (zw : wf σ) {o : Nat} : clo σ o (fun q => q < sN σ) := fun f hf _ _ => by
  have := zw.2.1.1 f hf
  exact ⟨show sL σ f < sN σ by omega, this.2⟩
theorem prt_N {σ : St} (zw : wf σ) {o p q : Nat} (hp : p < sN σ) (h : prt σ o p q) : q < sN σ := prt_min (D := fun q => q < sN σ) (clo_N zw) hp h
theorem rep_no {σ : St} (zw : wf σ) {o p q : Nat} (hp : p < 9) (h : prt σ o p q) (hpq : p < q) : rep σ o q = false := by
  unfold rep
  have hq := prt_lt zw hp h
  obtain ⟨-, -, l3⟩ := prt_lb zw (o := o) hq
  rw [decide_eq_false (fun e => l3 p (by omega) (prt_symm zw hp h)), Bool.and_false]
