/-! SHEETS: copy: mathematics; the class's cells -/
def hCpy (h : Hz) (s i o j n : Nat) : Hz := (h.1, fun x q => if x = o ∧ (j ≤ q ∧ q < j + n) then h.2 s (i + (q - j)) else h.2 x q)
def aCo2 (o1 o2 : Option (Nat × Nat)) (i j n : Int32) : Int32 := match o1, o2 with
  | some (t, a), some (u, b) => cond (decide (t = u)) (cond (hld a i n && hld b j n) n (-12)) (-13)
  | _, _ => -11
def aCpo (h : Hz) (x i y j n : Int32) : Int32 := cond (inb x 4 && inb y 4) (aCo2 (h.1 x.toNatClampNeg) (h.1 y.toNatClampNeg) i j n) (-2)
def sCpo (h : Hz) (x i y j n : Int32) : Hz := if aCpo h x i y j n < 0 then h else hCpy h x.toNatClampNeg i.toNatClampNeg y.toNatClampNeg j.toNatClampNeg n.toNatClampNeg
theorem wfh_cpo {h : Hz} (hw : wfh h) (x i y j n : Int32) : wfh (sCpo h x i y j n) := by
  unfold sCpo
  split
  · exact hw
  · exact hw
theorem hld_of {N : Nat} {i m : Int32} (hN : N ≤ 40) (h : hld N i m = true) : ∃ a b, i = nI a ∧ m = nI b ∧ a + b ≤ N := by
  unfold hld at h
  rw [Bool.and_eq_true, Bool.and_eq_true, Bool.and_eq_true, decide_eq_true_eq, decide_eq_true_eq, decide_eq_true_eq, decide_eq_true_eq] at h
  obtain ⟨⟨h1, h2⟩, h3, h4⟩ := h
  obtain ⟨a, ha⟩ : ∃ a : Nat, i.toInt = (a : Int) := ⟨i.toInt.toNat, by omega⟩
  obtain ⟨b, hb⟩ : ∃ b : Nat, m.toInt = (b : Int) := ⟨m.toInt.toNat, by omega⟩
  refine ⟨a, b, ?_, ?_, by omega⟩
  · apply Int32.toInt_inj.mp
    rw [nI_toInt (by omega), ha]
  · apply Int32.toInt_inj.mp
    rw [nI_toInt (by omega), hb]
theorem hC_cpy {I : am_I} {h : Hz} (hw : wfh h) (hI : hC I h) {s o i j n t a : Nat} (hs : s < 4) (ho : o < 4) (e : h.1 s = some (t, a)) (hn : i + n ≤ a) : hC (am_cpI I (81 + 2 * s) (81 + 2 * o) i j n) (hCpy h s i o j n) := by
  intro x hx
  rw [am_cpI_ne (show 80 + 2 * x ≠ 81 + 2 * o by omega)]
  refine ⟨(hI x hx).1, fun u b hab => ?_⟩
  obtain ⟨g1, g2, g3⟩ := (hI x hx).2 u b hab
  refine ⟨g1, g2, fun q hq => ?_⟩
  show _ = if x = o ∧ (j ≤ q ∧ q < j + n) then h.2 s (i + (q - j)) else h.2 x q
  by_cases c : x = o
  · subst c
    by_cases c2 : j ≤ q ∧ q < j + n
    · rw [if_pos ⟨rfl, c2⟩, am_cpI_self, pk_cpy_in c2.1 c2.2]
      exact ((hI s hs).2 t a e).2.2 _ (by omega)
    · rw [if_neg (fun z => c2 z.2), am_cpI_self, pk_cpy_out (by omega)]
      exact g3 q hq
  · rw [if_neg (fun z => c z.1), am_cpI_ne (show 81 + 2 * x ≠ 81 + 2 * o by omega)]
    exact g3 q hq
