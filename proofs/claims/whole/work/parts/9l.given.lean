/-! THE START: what the statement gives -/
def pm_T : List Cond := flatC (Jvm.Cond.and given_1 narrow_1)
def tm_s (i : Nat) : Term := .string "TwoCamps$TextReader" (am_tx.getD i (0, "")).1
abbrev tm_U : Term := .static "TwoCamps" "UNDER" "[I"
abbrev tm_R : Term := .static "TwoCamps" "ROOM" "[I"
abbrev tm_v (i : Nat) : Term := .field (tm_s i) "java/lang/String" "value" "[B"
set_option maxRecDepth 100000 in
theorem pm_1 : ((List.range 6).all (fun j => decide (Cond.eq (.elem tm_U (.int (Int32.ofNat j))) (.int (am_under j)) ∈ pm_T) && decide (Cond.eq (.elem tm_R (.int (Int32.ofNat j))) (.int (am_room j)) ∈ pm_T)) && (decide (Cond.arrayOf tm_U .int ∈ pm_T) && (decide (Cond.arrayOf tm_R .int ∈ pm_T) && (decide (Cond.eq (.length tm_U) (.int 6) ∈ pm_T) && decide (Cond.eq (.length tm_R) (.int 6) ∈ pm_T))))) = true := by decide +kernel
def pm_b (i : Nat) : Bool := (List.range (am_tl.getD i 0)).all (fun j => decide (Cond.eq (.elem (tm_v i) (.int (Int32.ofNat j))) (.int ((am_tb.getD i []).getD j 0)) ∈ pm_T))
def pm_s (i : Nat) : Bool := decide (Cond.exactly (tm_s i) "java/lang/String" ∈ pm_T) && (decide (Cond.eq (.field (tm_s i) "java/lang/String" "coder" "B") (.int 0) ∈ pm_T) && (decide (Cond.arrayOf (tm_v i) .byte ∈ pm_T) && (decide (Cond.eq (.length (tm_v i)) (.int (Int32.ofNat (am_tl.getD i 0))) ∈ pm_T) && pm_b i)))
set_option maxRecDepth 100000 in
theorem pm_2 : (List.range 11).all pm_s = true := by decide +kernel
set_option maxRecDepth 100000 in
theorem pm_3 : ((List.range 11).all (fun i => (List.range 11).all (fun j => decide (i = j) || (decide (Cond.not (Cond.eq (tm_s i) (tm_s j)) ∈ pm_T) || decide (Cond.not (Cond.eq (tm_s j) (tm_s i)) ∈ pm_T))))) = true := by decide +kernel
set_option maxRecDepth 100000 in
theorem pm_4 : (decide (Cond.eq (.static "java/lang/String" "COMPACT_STRINGS" "Z") (.int 1) ∈ pm_T) && decide (Cond.isRef (.static "jdk/internal/util/Preconditions" "SIOOBE_FORMATTER" "Ljava/util/function/BiFunction;") ∈ pm_T)) = true := by decide +kernel
set_option maxRecDepth 100000 in
theorem pm_5 : ((List.range 11).all (fun i => decide (Cond.stringRef "TwoCamps$TextReader" (am_tx.getD i (0, "")).1 (am_tx.getD i (0, "")).2 ∈ tables_1)) && (am_nest.all (fun q => decide (Cond.methodLinkNest q.1 q.2.1 q.2.2.1 q.2.2.2 ∈ tables_1)) && (([("TwoCamps", "UNDER", "[I"), ("TwoCamps", "ROOM", "[I"), ("java/lang/String", "COMPACT_STRINGS", "Z"), ("jdk/internal/util/Preconditions", "SIOOBE_FORMATTER", "Ljava/util/function/BiFunction;")] : List (String × String × String)).all (fun q => decide (Cond.laysStatic q.1 q.2.1 q.2.2 ∈ tables_1) && decide (Cond.initialized q.1 ∈ tables_1)) && cm_el.all (fun C => decide (Cond.arrayOver (.object C) ∈ tables_1))))) = true := by decide +kernel
/-- the statics, at the start -/
def lw_S (A : Nat → Prop) (tU tR tF : Nat) (adK adV : Nat → Nat) (s : State) : Prop :=
  (va_Z "TwoCamps" "UNDER" "[I" (.ref tU) A s s.heap ∧ va_T .int tU 6 (fun j => .int (am_under j)) A s s.heap) ∧
  (va_Z "TwoCamps" "ROOM" "[I" (.ref tR) A s s.heap ∧ va_T .int tR 6 (fun j => .int (am_room j)) A s s.heap) ∧
  (va_Z "java/lang/String" "COMPACT_STRINGS" "Z" (.int 1) A s s.heap ∧ (va_Z "jdk/internal/util/Preconditions" "SIOOBE_FORMATTER" "Ljava/util/function/BiFunction;" .null A s s.heap ∨ va_Z "jdk/internal/util/Preconditions" "SIOOBE_FORMATTER" "Ljava/util/function/BiFunction;" (.ref tF) A s s.heap)) ∧
  vk_S 11 am_tl am_tb adK adV A s s.heap ∧
  (∀ i : Nat, i < 11 → vk_R "TwoCamps$TextReader" (am_tx.getD i (0, "")).1 (am_tx.getD i (0, "")).2 (adK i) s) ∧
  ∀ q ∈ am_nest, va_Nw (.methodLinkNest q.1 q.2.1 q.2.2.1 q.2.2.2) s
theorem lw_stat {s : State} {args : Array Value} (hg : ∀ w ∈ pm_T, w.before args s = true) (ht : ∀ w ∈ tables_1, w.before args s = true) {A : Nat → Prop} (hA : ∀ a : Nat, a < s.heap.size → ¬ A a) : ∃ (tU tR tF : Nat) (adK adV : Nat → Nat), lw_S A tU tR tF adK adV s := by
  have p1 := pm_1
  have p2 := pm_2
  have p3 := pm_3
  have p4 := pm_4
  have p5 := pm_5
  rw [Bool.and_eq_true, Bool.and_eq_true, Bool.and_eq_true, Bool.and_eq_true, decide_eq_true_eq, decide_eq_true_eq, decide_eq_true_eq, decide_eq_true_eq] at p1
  obtain ⟨q1, q2, q3, q4, q5⟩ := p1
  rw [Bool.and_eq_true, decide_eq_true_eq, decide_eq_true_eq] at p4
  rw [Bool.and_eq_true, Bool.and_eq_true, Bool.and_eq_true] at p5
  obtain ⟨r1, r2, r3, -⟩ := p5
  have lays : ∀ q, q ∈ ([("TwoCamps", "UNDER", "[I"), ("TwoCamps", "ROOM", "[I"), ("java/lang/String", "COMPACT_STRINGS", "Z"), ("jdk/internal/util/Preconditions", "SIOOBE_FORMATTER", "Ljava/util/function/BiFunction;")] : List (String × String × String)) → (Cond.laysStatic q.1 q.2.1 q.2.2).before args s = true ∧ (Cond.initialized q.1).before args s = true := fun q hq => by
    have h := List.all_eq_true.mp r3 q hq
    rw [Bool.and_eq_true, decide_eq_true_eq, decide_eq_true_eq] at h
    exact ⟨ht _ h.1, ht _ h.2⟩
  have el : ∀ j, j < 6 → (Cond.eq (.elem tm_U (.int (Int32.ofNat j))) (.int (am_under j))).before args s = true ∧ (Cond.eq (.elem tm_R (.int (Int32.ofNat j))) (.int (am_room j))).before args s = true := fun j hj => by
    have h := List.all_eq_true.mp q1 j (List.mem_range.mpr hj)
    rw [Bool.and_eq_true, decide_eq_true_eq, decide_eq_true_eq] at h
    exact ⟨hg _ h.1, hg _ h.2⟩
  obtain ⟨tU, hU, hU2⟩ := va_Tof (N := 6) (f := fun j => .int (am_under j)) (A := A) (by decide) (hg _ q2) (va_eqt (hg _ q4)) (fun j hj => va_eqt (el j hj).1) hA
  obtain ⟨tR, hR, hR2⟩ := va_Tof (N := 6) (f := fun j => .int (am_room j)) (A := A) (by decide) (hg _ q3) (va_eqt (hg _ q5)) (fun j hj => va_eqt (el j hj).2) hA
  have st : ∀ i, i < 11 → Cond.exactly (tm_s i) "java/lang/String" ∈ pm_T ∧ Cond.eq (.field (tm_s i) "java/lang/String" "coder" "B") (.int 0) ∈ pm_T ∧ Cond.arrayOf (tm_v i) .byte ∈ pm_T ∧ Cond.eq (.length (tm_v i)) (.int (Int32.ofNat (am_tl.getD i 0))) ∈ pm_T ∧ ∀ j, j < am_tl.getD i 0 → Cond.eq (.elem (tm_v i) (.int (Int32.ofNat j))) (.int ((am_tb.getD i []).getD j 0)) ∈ pm_T := fun i hi => by
    have h := List.all_eq_true.mp p2 i (List.mem_range.mpr hi)
    unfold pm_s pm_b at h
    rw [Bool.and_eq_true, Bool.and_eq_true, Bool.and_eq_true, Bool.and_eq_true, decide_eq_true_eq, decide_eq_true_eq, decide_eq_true_eq, decide_eq_true_eq] at h
    obtain ⟨h1, h2, h3, h4, h5⟩ := h
    exact ⟨h1, h2, h3, h4, fun j hj => of_decide_eq_true (List.all_eq_true.mp h5 j (List.mem_range.mpr hj))⟩
  have ne : ∀ i j : Nat, i < 11 → j < 11 → i ≠ j → (Cond.not (Cond.eq (tm_s i) (tm_s j))).before args s = true ∨ (Cond.not (Cond.eq (tm_s j) (tm_s i))).before args s = true := fun i j hi hj hij => by
    have h := List.all_eq_true.mp (List.all_eq_true.mp p3 i (List.mem_range.mpr hi)) j (List.mem_range.mpr hj)
    rw [Bool.or_eq_true, Bool.or_eq_true, decide_eq_true_eq, decide_eq_true_eq, decide_eq_true_eq] at h
    rcases h with h | h | h
    · exact absurd h hij
    · exact Or.inl (hg _ h)
    · exact Or.inr (hg _ h)
  obtain ⟨adK, adV, hS, hSe⟩ := vk_Sof (N := 11) (tm := tm_s) (len := am_tl) (byt := am_tb) (A := A) (by decide) (fun i hi => hg _ (st i hi).1) (fun i hi => hg _ (st i hi).2.1) (fun i hi => hg _ (st i hi).2.2.1) (fun i hi => hg _ (st i hi).2.2.2.1) (fun i hi j hj => hg _ ((st i hi).2.2.2.2 j hj)) ne hA
  have hF : ∃ tF : Nat, va_Z "jdk/internal/util/Preconditions" "SIOOBE_FORMATTER" "Ljava/util/function/BiFunction;" .null A s s.heap ∨ va_Z "jdk/internal/util/Preconditions" "SIOOBE_FORMATTER" "Ljava/util/function/BiFunction;" (.ref tF) A s s.heap := by
    have hl := lays ("jdk/internal/util/Preconditions", "SIOOBE_FORMATTER", "Ljava/util/function/BiFunction;") (by decide)
    rcases va_Zqof (A := A) hl.1 hl.2 (hg _ p4.2) hA with h | ⟨t, h⟩
    · exact ⟨0, Or.inl h⟩
    · exact ⟨t, Or.inr h⟩
  obtain ⟨tF, hF⟩ := hF
  have lU := lays ("TwoCamps", "UNDER", "[I") (by decide)
  have lR := lays ("TwoCamps", "ROOM", "[I") (by decide)
  have lC := lays ("java/lang/String", "COMPACT_STRINGS", "Z") (by decide)
  exact ⟨tU, tR, tF, adK, adV, ⟨va_Zof lU.1 lU.2 hU hA, hU2⟩, ⟨va_Zof lR.1 lR.2 hR hA, hR2⟩, ⟨va_Zof lC.1 lC.2 (va_eqi (hg _ p4.1)) hA, hF⟩, hS,
    fun i hi => vk_R.of (ht _ (of_decide_eq_true (List.all_eq_true.mp r1 i (List.mem_range.mpr hi)))) (hSe i hi),
    fun q hq => va_Nw.of rfl (ht _ (of_decide_eq_true (List.all_eq_true.mp r2 q hq)))⟩
theorem lw_over {s : State} {args : Array Value} (ht : ∀ w ∈ tables_1, w.before args s = true) : ∀ C ∈ cm_el, va_AO C s := fun C hC => by
  have p5 := pm_5
  rw [Bool.and_eq_true, Bool.and_eq_true, Bool.and_eq_true] at p5
  exact va_AO.of (ht _ (of_decide_eq_true (List.all_eq_true.mp p5.2.2.2 C hC)))
