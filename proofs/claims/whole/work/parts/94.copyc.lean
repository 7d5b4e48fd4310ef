/-! SHEETS: copy: the class's -/
theorem goC0 : ∀ {m : Option Nat} {A B : Prop} {C : Nat → Prop}, m = some 0 → A → (match m with | some 0 => A | some 1 => B | some (q + 2) => C q | none => False)
  | some 0, _, _, _, _, h => h
theorem goCq : ∀ {m : Option Nat} {A B : Prop} {C : Nat → Prop} {q : Nat}, m = some (q + 2) → C q → (match m with | some 0 => A | some 1 => B | some (q + 2) => C q | none => False)
  | some (_ + 2), _, _, _, _, e, h => by
    cases e
    exact h
theorem go3 : ∀ {m n : Option Nat} {b : Bool} {A : Nat → Nat → Prop} {x y : Nat}, m = some x → n = some y → b = true → A x y → (match m, n, b with | some x, some y, true => A x y | _, _, _ => False)
  | some _, some _, true, _, _, _, e1, e2, _, h => by
    cases e1
    cases e2
    exact h
theorem sh_f {s : Nat} (hs : s < 4) : am_isc 11 (80 + 2 * s) = true ∧ am_code 11 (80 + 2 * s) 0 = some 0 ∧ am_code 11 (80 + 2 * s) 1 = some 0 ∧ am_code 11 (80 + 2 * s) 2 = some (81 + 2 * s + 2) ∧ am_arr 0 (81 + 2 * s) = some 40 := by
  have hc : s = 0 ∨ s = 1 ∨ s = 2 ∨ s = 3 := by omega
  rcases hc with rfl | rfl | rfl | rfl <;> decide +kernel
