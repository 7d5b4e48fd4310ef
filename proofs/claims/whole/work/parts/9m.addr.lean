/-! THE START: kinds, addresses -/
set_option maxRecDepth 100000 in
theorem pm_6 : classes.all (fun q => decide (Cond.instantiable q.1 q.2.2 ∈ tables_1)) = true := by decide +kernel
theorem lw_kn {s : State} {args : Array Value} (ht : ∀ w ∈ tables_1, w.before args s = true) (hts : ∀ w ∈ am_T, w.before args s = true) : ∃ (D : va_G) (dA : Nat → ClassId), va_K D classes [(dA 0, .int), (dA 1, .boolean), (dA 2, .object "TwoCamps$Camping"), (dA 3, .object "TwoCamps$Text"), (dA 4, .object "TwoCamps$Sheet")] s := by
  have h0 : ∀ c : Nat, ∃ r : ClassId × (Nat → Nat), ∀ q : vw_C, classes[c]? = some q → u_Kn s q.1 q.2.1 q.2.2 r.1 r.2 := by
    intro c
    cases hc : classes[c]? with
    | none => exact ⟨(0, fun _ => 0), fun q h => by cases h⟩
    | some q0 =>
      have hi := of_decide_eq_true (List.all_eq_true.mp pm_6 q0 (List.mem_of_getElem? hc))
      obtain ⟨cC, iS, h⟩ := u_known hts (k_all hc).1 (ht _ hi)
      exact ⟨(cC, iS), fun q e => by cases e; exact h⟩
  obtain ⟨r, hr⟩ := Classical.axiomOfChoice h0
  obtain ⟨c0, k0, p0, f0, g0, j0⟩ := Cond.arrayClass_spec (hts (.arrayClass .int) (tb1 54 (by decide +kernel) rfl))
  obtain ⟨c1, k1, p1, f1, g1, j1⟩ := Cond.arrayClass_spec (hts (.arrayClass .boolean) (tb1 149 (by decide +kernel) rfl))
  have ov := lw_over ht
  obtain ⟨p2, c2, k2, f2, -, g2, j2, n2⟩ := Cond.arrayOver_spec (va_AO.use (A := args) (ov "TwoCamps$Camping" (by decide)))
  obtain ⟨p3, c3, k3, f3, -, g3, j3, n3⟩ := Cond.arrayOver_spec (va_AO.use (A := args) (ov "TwoCamps$Text" (by decide)))
  obtain ⟨p4, c4, k4, f4, -, g4, j4, n4⟩ := Cond.arrayOver_spec (va_AO.use (A := args) (ov "TwoCamps$Sheet" (by decide)))
  refine ⟨(fun c => (r c).1, fun c => (r c).2), fun i => ([c0, c1, c2, c3, c4] : List ClassId).getD i c0, fun c q hq => hr c q hq, fun k q hk => ?_⟩
  match k, hk with
  | 0, hk => cases hk; exact ⟨fun n z => ⟨fun k h => (by cases h), k0, g0, p0, j0⟩, f0⟩
  | 1, hk => cases hk; exact ⟨fun n z => ⟨fun k h => (by cases h), k1, g1, p1, j1⟩, f1⟩
  | 2, hk => cases hk; exact ⟨fun n z => ⟨fun k h => (by cases h), k2, g2, p2, j2⟩, k2, p2, g2, j2, f2, n2⟩
  | 3, hk => cases hk; exact ⟨fun n z => ⟨fun k h => (by cases h), k3, g3, p3, j3⟩, k3, p3, g3, j3, f3, n3⟩
  | 4, hk => cases hk; exact ⟨fun n z => ⟨fun k h => (by cases h), k4, g4, p4, j4⟩, k4, p4, g4, j4, f4, n4⟩
  | k + 5, hk => cases hk
def lw_ad (B b tU tR tF : Nat) (adK adV : Nat → Nat) (k : Nat) : Nat := if k < 117 then B + k else if k < 130 then (if k = 120 then tU else tR) else if k < 150 then adK (k - 130) else if k < 170 then adV (k - 150) else if k < 200 then tF else b
theorem lw_ad0 {B b tU tR tF : Nat} {adK adV : Nat → Nat} {k : Nat} (hk : k < 117) : lw_ad B b tU tR tF adK adV k = B + k := if_pos hk
theorem lw_adK {B b tU tR tF : Nat} {adK adV : Nat → Nat} {i : Nat} (hi : i < 11) : lw_ad B b tU tR tF adK adV (130 + i) = adK i := by
  unfold lw_ad
  rw [if_neg (by omega), if_neg (by omega), if_pos (by omega), show 130 + i - 130 = i by omega]
theorem lw_adV {B b tU tR tF : Nat} {adK adV : Nat → Nat} {i : Nat} (hi : i < 11) : lw_ad B b tU tR tF adK adV (150 + i) = adV i := by
  unfold lw_ad
  rw [if_neg (by omega), if_neg (by omega), if_neg (by omega), if_pos (by omega), show 150 + i - 150 = i by omega]
theorem lw_inj {E : am_E} {B b tU tR tF : Nat} {adK adV : Nat → Nat} (e : E.2.1 = lw_ad B b tU tR tF adK adV) : am_inj E := by
  intro i j hi hj h
  have hi : i < 117 := hi
  have hj : j < 117 := hj
  rw [e, lw_ad0 hi, lw_ad0 hj] at h
  omega
theorem lw_Ad {E : am_E} {B b tU tR tF : Nat} {adK adV : Nat → Nat} (e : E.2.1 = lw_ad B b tU tR tF adK adV) {q : Nat} (h : am_Ad E q) : B ≤ q := by
  obtain ⟨k, hk, rfl⟩ := h
  have hk : k < 117 := hk
  rw [e, lw_ad0 hk]
  omega
theorem lw_Fx {E : am_E} {B b tU tR tF : Nat} {adK adV : Nat → Nat} {s : State} (e : E.2.1 = lw_ad B b tU tR tF adK adV) (h : lw_S (fun q => B ≤ q) tU tR tF adK adV s) : am_Fx E s s.heap := by
  obtain ⟨⟨a1, a2⟩, ⟨b1, b2⟩, ⟨c1, c2⟩, d, f, g⟩ := h
  have hAB : ∀ q, am_Ad E q → B ≤ q := fun q => lw_Ad e
  have e1 : E.2.1 120 = tU := by rw [e]; rfl
  have e2 : E.2.1 121 = tR := by rw [e]; rfl
  have e3 : E.2.1 171 = tF := by rw [e]; rfl
  have eK : ∀ i, i < 11 → E.2.1 (130 + i) = adK i := fun i hi => by rw [e]; exact lw_adK hi
  have eV : ∀ i, i < 11 → E.2.1 (150 + i) = adV i := fun i hi => by rw [e]; exact lw_adV hi
  have d := d.narrow hAB
  refine ⟨⟨?_, ?_⟩, ⟨?_, ?_⟩, ⟨c1.narrow hAB, ?_⟩, ⟨fun i hi => ?_, fun i j hi hj h => ?_⟩, fun i hi => ?_, g⟩
  · rw [e1]; exact a1.narrow hAB
  · rw [e1]; exact a2.narrow hAB
  · rw [e2]; exact b1.narrow hAB
  · rw [e2]; exact b2.narrow hAB
  · rw [e3]; exact c2.imp (fun h => va_Z.narrow h hAB) (fun h => va_Z.narrow h hAB)
  · have q := d.1 i hi
    rw [← eK i hi, ← eV i hi] at q
    exact q
  · exact d.2 i j hi hj (by have h : E.2.1 (130 + i) = E.2.1 (130 + j) := h; rw [eK i hi, eK j hj] at h; exact h)
  · rw [eK i hi]; exact f i hi
