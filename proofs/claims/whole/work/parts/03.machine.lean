/-! THE ABSTRACT MACHINE: cells by names, ints by (name, slot), the one long; instructions as acts -/
abbrev am_I : Type := Nat → Nat → Int32
abbrev am_L : Type := List (Option Value)
abbrev am_K : Type := am_L → List Value → am_I → Int64 → Prop
/-- next, jump, return -/
abbrev am_A : Type := am_K → (Nat → am_K) → am_K → am_K
/-- the launch, the addresses of names, the classes' numbers and slots, the array classes -/
abbrev am_E : Type := Launch × (Nat → Nat) × va_G × (Nat → ClassId)
abbrev am_Y : Type := MethodName × ByteArray × Nat × Option FieldType
abbrev am_sT : Type := Nat × Nat × List Nat
def am_nt {α : Type} : List α → Nat → Option α
  | [], _ => none
  | a :: _, 0 => some a
  | _ :: l, n + 1 => am_nt l n
theorem am_nt_eq {α : Type} : ∀ (l : List α) (n : Nat), am_nt l n = l[n]?
  | [], n => by simp [am_nt]
  | a :: l, 0 => by simp [am_nt]
  | a :: l, n + 1 => by simp [am_nt, am_nt_eq l n]
def am_sl : am_L → Nat → Option Value → am_L
  | [], _, _ => []
  | _ :: l, 0, v => v :: l
  | a :: l, n + 1, v => a :: am_sl l n v
theorem am_sl_len : ∀ (l : am_L) (i : Nat) (v : Option Value), (am_sl l i v).length = l.length
  | [], _, _ => rfl
  | _ :: l, 0, _ => rfl
  | _ :: l, n + 1, v => by simp [am_sl, am_sl_len l n v]
theorem am_sl_nt : ∀ (l : am_L) (i : Nat) (v : Option Value) (j : Nat), am_nt (am_sl l i v) j = if j = i ∧ i < l.length then some v else am_nt l j
  | [], i, v, j => by simp [am_sl, am_nt]
  | a :: l, 0, v, 0 => by simp [am_sl, am_nt]
  | a :: l, 0, v, j + 1 => by simp [am_sl, am_nt]
  | a :: l, n + 1, v, 0 => by simp [am_sl, am_nt]
  | a :: l, n + 1, v, j + 1 => by
    simp only [am_sl, am_nt, am_sl_nt l n v j, List.length_cons]
    by_cases h : j = n ∧ n < l.length
    · rw [if_pos h, if_pos ⟨by omega, by omega⟩]
    · rw [if_neg h, if_neg (fun q => h ⟨by omega, by omega⟩)]
/-- a long that lies just ahead of a slot that is written is gone -/
def am_kl (f : am_L) : Nat → am_L
  | 0 => f
  | j + 1 => match am_nt f j with
    | some (some u) => (match Nat.beq u.category 2 with
      | true => am_sl f j none
      | false => f)
    | _ => f
def am_st1 (f : am_L) (i : Nat) (v : Value) : am_L := am_sl (am_kl f i) i (some v)
def am_st2 (f : am_L) (i : Nat) (v : Value) : am_L := am_sl (am_sl (am_kl f i) i (some v)) (i + 1) none
theorem am_kl_len (f : am_L) (i : Nat) : (am_kl f i).length = f.length := by
  cases i with
  | zero => rfl
  | succ j =>
    simp only [am_kl]
    split
    · split
      · exact am_sl_len _ _ _
      · rfl
    · rfl
theorem am_kl_nt {f : am_L} {i j : Nat} {u : Value} (h : am_nt (am_kl f i) j = some (some u)) : am_nt f j = some (some u) ∧ ¬ (j + 1 = i ∧ u.category = 2) := by
  cases i with
  | zero => exact ⟨h, fun q => by omega⟩
  | succ k =>
    simp only [am_kl] at h
    split at h
    · next v hv =>
      split at h
      · next hc =>
        rw [am_sl_nt] at h
        by_cases hj : j = k ∧ k < f.length
        · rw [if_pos hj] at h; cases h
        · rw [if_neg hj] at h
          refine ⟨h, fun q => ?_⟩
          have e : j = k := by omega
          subst e
          rw [am_nt_eq] at h
          exact hj ⟨rfl, (List.getElem?_eq_some_iff.mp h).1⟩
      · next hc =>
        refine ⟨h, fun q => ?_⟩
        have e : j = k := by omega
        subst e
        rw [hv] at h
        cases h
        rw [q.2] at hc
        exact absurd hc (by decide)
    · next hn =>
      refine ⟨h, fun q => ?_⟩
      have e : j = k := by omega
      subst e
      exact hn u h
theorem am_st1_nt {f : am_L} {i j : Nat} {u v : Value} (h : am_nt (am_st1 f i v) j = some (some u)) : (j = i ∧ u = v) ∨ (j ≠ i ∧ am_nt f j = some (some u) ∧ ¬ (j + 1 = i ∧ u.category = 2)) := by
  unfold am_st1 at h
  rw [am_sl_nt] at h
  by_cases hj : j = i ∧ i < (am_kl f i).length
  · rw [if_pos hj] at h; cases h; exact Or.inl ⟨hj.1, rfl⟩
  · rw [if_neg hj] at h
    obtain ⟨h1, h2⟩ := am_kl_nt h
    refine Or.inr ⟨fun e => hj ⟨e, ?_⟩, h1, h2⟩
    subst e
    rw [am_nt_eq] at h
    exact (List.getElem?_eq_some_iff.mp h).1
theorem am_st2_nt {f : am_L} {i j : Nat} {u v : Value} (h : am_nt (am_st2 f i v) j = some (some u)) : (j = i ∧ u = v) ∨ (j ≠ i ∧ j ≠ i + 1 ∧ am_nt f j = some (some u) ∧ ¬ (j + 1 = i ∧ u.category = 2)) := by
  unfold am_st2 at h
  rw [am_sl_nt] at h
  by_cases hj : j = i + 1 ∧ i + 1 < (am_sl (am_kl f i) i (some v)).length
  · rw [if_pos hj] at h; cases h
  · rw [if_neg hj] at h
    have hne : j ≠ i + 1 := by
      intro e
      subst e
      rw [am_nt_eq] at h
      exact hj ⟨rfl, (List.getElem?_eq_some_iff.mp h).1⟩
    rcases am_st1_nt (f := f) (i := i) (v := v) h with h1 | ⟨h1, h2, h3⟩
    · exact Or.inl h1
    · exact Or.inr ⟨h1, hne, h2, h3⟩
def am_rz (ad : Nat → Nat) : Value → Value
  | .ref k => .ref (ad k)
  | v => v
theorem am_rz_cat (ad : Nat → Nat) (v : Value) : (am_rz ad v).category = v.category := by cases v <;> rfl
/-- the known locals as the kit lists them -/
def am_lv (ad : Nat → Nat) : Nat → am_L → List (Nat × Value)
  | _, [] => []
  | b, none :: r => am_lv ad (b + 1) r
  | b, some v :: r => (b, am_rz ad v) :: am_lv ad (b + 1) r
theorem am_lv_mem (ad : Nat → Nat) : ∀ (f : am_L) (b : Nat) (q : Nat × Value), q ∈ am_lv ad b f ↔ ∃ (i : Nat) (v : Value), am_nt f i = some (some v) ∧ q = (b + i, am_rz ad v)
  | [], b, q => by simp [am_lv, am_nt]
  | none :: r, b, q => by
    rw [am_lv, am_lv_mem ad r (b + 1) q]
    constructor
    · rintro ⟨i, v, h, e⟩
      exact ⟨i + 1, v, h, by rw [e]; congr 1; omega⟩
    · rintro ⟨i, v, h, e⟩
      cases i with
      | zero => simp [am_nt] at h
      | succ i => exact ⟨i, v, h, by rw [e]; congr 1; omega⟩
  | some u :: r, b, q => by
    rw [am_lv, List.mem_cons, am_lv_mem ad r (b + 1) q]
    constructor
    · rintro (e | ⟨i, v, h, e⟩)
      · exact ⟨0, u, rfl, by rw [e]; rfl⟩
      · exact ⟨i + 1, v, h, by rw [e]; congr 1; omega⟩
    · rintro ⟨i, v, h, e⟩
      cases i with
      | zero =>
        simp [am_nt] at h
        subst h
        exact Or.inl (by rw [e]; rfl)
      | succ i => exact Or.inr ⟨i, v, h, by rw [e]; congr 1; omega⟩
def am_ls (ad : Nat → Nat) (nL : Nat) (ls : Array Slot) (f : am_L) : Prop := f.length = nL ∧ lv_has ls nL (am_lv ad 0 f)
theorem am_ls.at {ad : Nat → Nat} {nL : Nat} {ls : Array Slot} {f : am_L} (h : am_ls ad nL ls f) {i : Nat} {v : Value} (hi : am_nt f i = some (some v)) : ls[i]? = some (.val (am_rz ad v)) :=
  h.2.2.2 (i, am_rz ad v) ((am_lv_mem ad f 0 _).mpr ⟨i, v, hi, by rw [Nat.zero_add]⟩)
theorem am_ls.lt {ad : Nat → Nat} {nL : Nat} {ls : Array Slot} {f : am_L} (h : am_ls ad nL ls f) {i : Nat} {z : Option Value} (hi : am_nt f i = some z) : i < nL := by
  rw [am_nt_eq] at hi
  have := (List.getElem?_eq_some_iff.mp hi).1
  have := h.1
  omega
theorem am_ls.st1 {ad : Nat → Nat} {nL : Nat} {ls ls' : Array Slot} {f : am_L} (h : am_ls ad nL ls f) {i : Nat} {v : Value}
    (h' : lv_has ls' nL ((i, am_rz ad v) :: (am_lv ad 0 f).filter (fun q => !(q.1 == i) && !(q.1 + 1 == i && q.2.category == 2)))) : am_ls ad nL ls' (am_st1 f i v) := by
  refine ⟨by unfold am_st1; rw [am_sl_len, am_kl_len]; exact h.1, h'.1, h'.2.1, fun q hq => h'.2.2 q ?_⟩
  obtain ⟨j, u, hj, e⟩ := (am_lv_mem ad _ 0 q).mp hq
  rw [Nat.zero_add] at e
  rw [e]
  rcases am_st1_nt hj with ⟨h1, h2⟩ | ⟨h1, h2, h3⟩
  · rw [h1, h2]; exact List.mem_cons_self
  · refine List.mem_cons_of_mem _ (List.mem_filter.mpr ⟨(am_lv_mem ad f 0 _).mpr ⟨j, u, h2, by rw [Nat.zero_add]⟩, ?_⟩)
    simp only [am_rz_cat]
    simp only [Bool.and_eq_true, Bool.not_eq_true', beq_eq_false_iff_ne, ne_eq, Bool.and_eq_false_iff]
    refine ⟨h1, ?_⟩
    by_cases hh : j + 1 = i
    · exact Or.inr (fun q => h3 ⟨hh, q⟩)
    · exact Or.inl hh
theorem am_ls.st2 {ad : Nat → Nat} {nL : Nat} {ls ls' : Array Slot} {f : am_L} (h : am_ls ad nL ls f) {i : Nat} {v : Value}
    (h' : lv_has ls' nL ((i, am_rz ad v) :: (am_lv ad 0 f).filter (fun q => !(q.1 == i) && (!(q.1 == i + 1) && !(q.1 + 1 == i && q.2.category == 2))))) : am_ls ad nL ls' (am_st2 f i v) := by
  refine ⟨by unfold am_st2; rw [am_sl_len, am_sl_len, am_kl_len]; exact h.1, h'.1, h'.2.1, fun q hq => h'.2.2 q ?_⟩
  obtain ⟨j, u, hj, e⟩ := (am_lv_mem ad _ 0 q).mp hq
  rw [Nat.zero_add] at e
  rw [e]
  rcases am_st2_nt hj with ⟨h1, h2⟩ | ⟨h1, h1b, h2, h3⟩
  · rw [h1, h2]; exact List.mem_cons_self
  · refine List.mem_cons_of_mem _ (List.mem_filter.mpr ⟨(am_lv_mem ad f 0 _).mpr ⟨j, u, h2, by rw [Nat.zero_add]⟩, ?_⟩)
    simp only [am_rz_cat]
    simp only [Bool.and_eq_true, Bool.not_eq_true', beq_eq_false_iff_ne, ne_eq, Bool.and_eq_false_iff]
    refine ⟨h1, h1b, ?_⟩
    by_cases hh : j + 1 = i
    · exact Or.inr (fun q => h3 ⟨hh, q⟩)
    · exact Or.inl hh
/-! the world of a state of ints -/
def am_cv (ad : Nat → Nat) (x : Int32) (w : Int64) : Nat → Value
  | 0 => .int x
  | 1 => .long w
  | q + 2 => .ref (ad q)
def am_fv (ad : Nat → Nat) (f : Nat → Int32) (w : Int64) : Nat → List Nat → List Value
  | _, [] => []
  | j, c :: r => am_cv ad (f j) w c :: am_fv ad f w (j + 1) r
theorem am_fv_get (ad : Nat → Nat) (f : Nat → Int32) (w : Int64) : ∀ (r : List Nat) (b j : Nat), (am_fv ad f w b r)[j]? = (r[j]?).map (am_cv ad (f (b + j)) w)
  | [], b, j => by simp [am_fv]
  | c :: r, b, 0 => by simp [am_fv]
  | c :: r, b, j + 1 => by
    rw [am_fv, List.getElem?_cons_succ, List.getElem?_cons_succ, am_fv_get ad f w r (b + 1) j]
    rw [show b + 1 + j = b + (j + 1) by omega]
theorem am_fv_len (ad : Nat → Nat) (f : Nat → Int32) (w : Int64) : ∀ (r : List Nat) (b : Nat), (am_fv ad f w b r).length = r.length
  | [], b => rfl
  | c :: r, b => by simp [am_fv, am_fv_len ad f w r (b + 1)]
def am_ce (E : am_E) (f : Nat → Int32) (w : Int64) : am_sT → va_E
  | (0, n, _) => .inl (E.2.2.2 0, n, .inl f)
  | (1, n, _) => .inl (E.2.2.2 1, n, .inl f)
  | (2, n, r) => .inl (E.2.2.2 2, n, .inr (.inr (.inr (.inr (fun i => some (E.2.1 (r.getD i 0)))))))
  | (3, n, r) => .inl (E.2.2.2 3, n, .inr (.inr (.inr (.inr (fun i => some (E.2.1 (r.getD i 0)))))))
  | (4, n, r) => .inl (E.2.2.2 4, n, .inr (.inr (.inr (.inr (fun i => some (E.2.1 (r.getD i 0)))))))
  | (q + 5, _, r) => .inr (q, am_fv E.2.1 f w 0 r)
def am_wdl (E : am_E) (I : am_I) (w : Int64) : Nat → List am_sT → va_W
  | _, [] => []
  | b, s :: r => (E.2.1 b, am_ce E (I b) w s) :: am_wdl E I w (b + 1) r
def am_wd (E : am_E) (I : am_I) (w : Int64) : va_W := am_wdl E I w 0 am_sh
theorem am_wdl_get (E : am_E) (I : am_I) (w : Int64) : ∀ (l : List am_sT) (b k : Nat), (am_wdl E I w b l)[k]? = (l[k]?).map (fun s => (E.2.1 (b + k), am_ce E (I (b + k)) w s))
  | [], b, k => by simp [am_wdl]
  | s :: r, b, 0 => by simp [am_wdl]
  | s :: r, b, k + 1 => by
    rw [am_wdl, List.getElem?_cons_succ, List.getElem?_cons_succ, am_wdl_get E I w r (b + 1) k]
    rw [show b + 1 + k = b + (k + 1) by omega]
theorem am_wd_get (E : am_E) (I : am_I) (w : Int64) {k : Nat} {s : am_sT} (h : am_sh[k]? = some s) : (am_wd E I w)[k]? = some (E.2.1 k, am_ce E (I k) w s) := by
  unfold am_wd
  rw [am_wdl_get, h, Nat.zero_add]
  rfl
theorem am_wd_set {E : am_E} {I I' : am_I} {w w' : Int64} {k : Nat} {s : am_sT} (h : am_sh[k]? = some s) (hI : ∀ (j : Nat) (s' : am_sT), j ≠ k → am_sh[j]? = some s' → am_ce E (I j) w s' = am_ce E (I' j) w' s') :
    (am_wd E I w).set k (E.2.1 k, am_ce E (I' k) w' s) = am_wd E I' w' := by
  apply List.ext_getElem?
  intro j
  by_cases hj : j = k
  · subst hj
    rw [am_wd_get E I' w' h, List.getElem?_set_self]
    have := am_wd_get E I w h
    exact (List.getElem?_eq_some_iff.mp this).1
  · rw [List.getElem?_set_ne (Ne.symm hj)]
    unfold am_wd
    rw [am_wdl_get, am_wdl_get]
    cases hs : am_sh[j]? with
    | none => rfl
    | some s' =>
      simp only [Option.map_some, Nat.zero_add]
      rw [hI j s' hj hs]
/-- the cells of the world -/
def am_Ad (E : am_E) : Nat → Prop := fun q => ∃ k, k < am_N ∧ q = E.2.1 k
def am_inj (E : am_E) : Prop := ∀ i j, i < am_N → j < am_N → E.2.1 i = E.2.1 j → i = j
theorem am_wd_at {E : am_E} {I : am_I} {w : Int64} {k : Nat} {p : Nat × va_E} (h : (am_wd E I w)[k]? = some p) : k < am_N ∧ p.1 = E.2.1 k := by
  unfold am_wd at h
  rw [am_wdl_get] at h
  cases hs : am_sh[k]? with
  | none => rw [hs] at h; cases h
  | some s =>
    rw [hs] at h
    simp only [Option.map_some, Nat.zero_add, Option.some.injEq] at h
    refine ⟨?_, by rw [← h]⟩
    rw [← am_shN]
    exact (List.getElem?_eq_some_iff.mp hs).1
theorem am_wd_D {E : am_E} (hi : am_inj E) (I : am_I) (w : Int64) : va_D (am_Ad E) (am_wd E I w) := by
  refine ⟨fun i j p q h1 h2 e => ?_, fun k q h => ?_⟩
  · obtain ⟨a1, a2⟩ := am_wd_at h1
    obtain ⟨b1, b2⟩ := am_wd_at h2
    exact hi i j a1 b1 (by rw [← a2, ← b2]; exact e)
  · obtain ⟨a1, a2⟩ := am_wd_at h
    exact ⟨k, a1, a2⟩
def am_up (I : am_I) (k j : Nat) (v : Int32) : am_I := fun a i => if a = k then (if i = j then v else I a i) else I a i
theorem am_up_ne {I : am_I} {k j : Nat} {v : Int32} {a : Nat} (h : a ≠ k) : am_up I k j v a = I a := by
  funext i
  simp [am_up, h]
theorem am_up_self {I : am_I} {k j : Nat} {v : Int32} : am_up I k j v k = upd (I k) j v := by
  funext i
  simp [am_up, upd]
/-! what the statement's own tables give, in every state of the run -/
def am_tys (E : am_E) : List (ClassId × FieldType) := [(E.2.2.2 0, .int), (E.2.2.2 1, .boolean), (E.2.2.2 2, .object "TwoCamps$Camping"), (E.2.2.2 3, .object "TwoCamps$Text"), (E.2.2.2 4, .object "TwoCamps$Sheet")]
def am_under (j : Nat) : Int32 := ([-1, 0, 0, 2, 1, 1] : List Int32).getD j 0
def am_room (j : Nat) : Int32 := ([4, 2, 4, 3, 2, 2] : List Int32).getD j 0
/-- the String constants: their entries in TextReader, texts, lengths and bytes -/
def am_tx : List (Nat × String) := [(79, "cost"), (85, "let"), (87, "or"), (89, "and"), (91, "not"), (93, "strength"), (95, "hate"), (97, "kin"), (99, "fixed"), (101, "least"), (103, "most")]
def am_tl : List Nat := [4, 3, 2, 3, 3, 8, 4, 3, 5, 5, 4]
def am_tb : List (List Int32) := [[99, 111, 115, 116], [108, 101, 116], [111, 114], [97, 110, 100], [110, 111, 116], [115, 116, 114, 101, 110, 103, 116, 104], [104, 97, 116, 101], [107, 105, 110], [102, 105, 120, 101, 100], [108, 101, 97, 115, 116], [109, 111, 115, 116]]
/-- links to private members of a nest mate -/
def am_nest : List (String × Nat × MethodName × String) := [("TwoCamps", 9, ⟨"TwoCamps$People", "<init>", "()V"⟩, "TwoCamps"), ("TwoCamps", 31, ⟨"TwoCamps$Tape", "<init>", "()V"⟩, "TwoCamps"), ("TwoCamps$Law", 36, ⟨"TwoCamps$Text", "<init>", "()V"⟩, "TwoCamps"), ("TwoCamps$TextReader", 20, ⟨"TwoCamps$Text", "<init>", "()V"⟩, "TwoCamps"), ("TwoCamps", 98, ⟨"TwoCamps$Sheet", "<init>", "()V"⟩, "TwoCamps"), ("TwoCamps$Camping", 77, ⟨"TwoCamps", "isUnder", "(II)Z"⟩, "TwoCamps"), ("TwoCamps$Feelings", 55, ⟨"TwoCamps", "isTogether", "(III)Z"⟩, "TwoCamps"), ("TwoCamps$Best", 67, ⟨"TwoCamps", "isTogether", "(III)Z"⟩, "TwoCamps")]
/-- static things, unchanged -/
def am_Fx (E : am_E) (U : State) (H : Heap) : Prop :=
  (va_Z "TwoCamps" "UNDER" "[I" (.ref (E.2.1 120)) (am_Ad E) U H ∧ va_T .int (E.2.1 120) 6 (fun j => .int (am_under j)) (am_Ad E) U H) ∧
  (va_Z "TwoCamps" "ROOM" "[I" (.ref (E.2.1 121)) (am_Ad E) U H ∧ va_T .int (E.2.1 121) 6 (fun j => .int (am_room j)) (am_Ad E) U H) ∧
  (va_Z "java/lang/String" "COMPACT_STRINGS" "Z" (.int 1) (am_Ad E) U H ∧ (va_Z "jdk/internal/util/Preconditions" "SIOOBE_FORMATTER" "Ljava/util/function/BiFunction;" .null (am_Ad E) U H ∨ va_Z "jdk/internal/util/Preconditions" "SIOOBE_FORMATTER" "Ljava/util/function/BiFunction;" (.ref (E.2.1 171)) (am_Ad E) U H)) ∧
  (vk_S 11 am_tl am_tb (fun i => E.2.1 (130 + i)) (fun i => E.2.1 (150 + i)) (am_Ad E) U H) ∧
  (∀ i : Nat, i < 11 → vk_R "TwoCamps$TextReader" (am_tx.getD i (0, "")).1 (am_tx.getD i (0, "")).2 (E.2.1 (130 + i)) U) ∧
  ∀ q ∈ am_nest, va_Nw (.methodLinkNest q.1 q.2.1 q.2.2.1 q.2.2.2) U
theorem am_Fx.warm {E : am_E} {u U : State} {H : Heap} (hW : u.WarmedH U.vm) (h : am_Fx E u H) : am_Fx E U H := by
  obtain ⟨⟨a1, a2⟩, ⟨b1, b2⟩, ⟨c1, c2⟩, d, f, g⟩ := h
  have hv := hW.alike
  exact ⟨⟨a1.moved hv, a2.moved hv⟩, ⟨b1.moved hv, b2.moved hv⟩, ⟨c1.moved hv, c2.imp (va_Z.moved hv) (va_Z.moved hv)⟩, d.moved hv, fun i hi => (f i hi).warm hW, fun q hq => va_Nw.warmM hW (g q hq)⟩
theorem am_Fx.same {E : am_E} {u U : State} {H : Heap} (hv : U.vm = u.vm) (h : am_Fx E u H) : am_Fx E U H := by
  obtain ⟨⟨a1, a2⟩, ⟨b1, b2⟩, ⟨c1, c2⟩, d, f, g⟩ := h
  have hv' : u.vm.Alike U.vm := by rw [hv]; exact Vm.Alike.refl _
  exact ⟨⟨a1.moved hv', a2.moved hv'⟩, ⟨b1.moved hv', b2.moved hv'⟩, ⟨c1.moved hv', c2.imp (va_Z.moved hv') (va_Z.moved hv')⟩, d.moved hv', fun i hi => (f i hi).same hv, fun q hq => va_Nw.same rfl hv.symm (g q hq)⟩
theorem am_Fx.kept {E : am_E} {U : State} {H H1 : Heap} (h : am_Fx E U H) (hq : ∀ a : Nat, a < H.size → ¬ am_Ad E a → H1[a]? = H[a]?) : am_Fx E U H1 := by
  obtain ⟨⟨a1, a2⟩, ⟨b1, b2⟩, ⟨c1, c2⟩, d, f, g⟩ := h
  exact ⟨⟨a1.kept hq, a2.kept hq⟩, ⟨b1.kept hq, b2.kept hq⟩, ⟨c1.kept hq, c2.imp (fun h => va_Z.kept h hq) (fun h => va_Z.kept h hq)⟩, d.kept hq, f, g⟩
/-! contracts -/
/-- the room of a call of level k -/
def am_rm (k : Nat) : Room := { frames := k, cells := 0, slots := 0, locals := 100 * k + 100 }
def am_Pc (E : am_E) (av : List Value) (I : am_I) (w : Int64) : Array Value → State → Prop := fun v U =>
  v = (av.map (am_rz E.2.1)).toArray ∧ va_K E.2.2.1 classes (am_tys E) U ∧ va_P E.2.2.1 classes (am_wd E I w) U.heap ∧ am_Fx E U U.heap
abbrev am_Q : Type := Option Value → am_I → Int64 → Prop
def am_Qc (E : am_E) (Po : am_Q) : Array Value → State → Outcome → State → Prop := fun _ st o t =>
  ∃ (r : Option Value) (I : am_I) (w : Int64), o = .returned (r.map (am_rz E.2.1)) ∧ Po r I w ∧ va_P E.2.2.1 classes (am_wd E I w) t.heap ∧ va_F (am_Ad E) st t
/-- the call of Y with the arguments av in the state (I, w) comes back, with an answer and in a state of which Po holds -/
def am_Ret (E : am_E) (k : Nat) (Y : am_Y) (av : List Value) (I : am_I) (w : Int64) (Po : am_Q) : Prop :=
  Met E.1 Y.1 (Cond.code Y.1 Y.2.1 Y.2.2.1 Y.2.2.2 :: am_T) (am_rm k) (am_Pc E av I w) (am_Qc E Po) 0 0 (am_Ad E)
/-- an answer, and nothing changed -/
def am_eq (r : Option Value) (I : am_I) (w : Int64) : am_Q := fun r' I' w' => r' = r ∧ I' = I ∧ w' = w
theorem am_Ret.imp {E : am_E} {k : Nat} {Y : am_Y} {av : List Value} {I : am_I} {w : Int64} {Po Po' : am_Q} (h : am_Ret E k Y av I w Po) (hi : ∀ r I' w', Po r I' w' → Po' r I' w') : am_Ret E k Y av I w Po' := by
  intro p e ha hc hk s m args below hf happ hp hK
  obtain ⟨n, o, h1, h2, h3, ⟨⟨r, I', w', q1, q2, q3, q4⟩, h5⟩⟩ := h p e ha hc hk s m args below hf happ hp hK
  exact ⟨n, o, h1, h2, h3, ⟨r, I', w', q1, hi _ _ _ q2, q3, q4⟩, h5⟩
theorem am_Pc_blind (E : am_E) (av : List Value) (I : am_I) (w : Int64) : FrameBlind (am_Pc E av I w) := by
  intro a U g mk h
  obtain ⟨h1, h2, h3, h4⟩ := h
  exact ⟨h1, va_K.moved (u := U) (U := U.calling g mk a) (Vm.Alike.refl U.vm) h2, h3, am_Fx.same (u := U) (U := U.calling g mk a) rfl h4⟩
/-! a method's activation -/
section AM
variable {E : am_E} {p : Program} {l : Launch} {e : Env} {R : Room} {s : State} {m : MethodId} {args : Array Value} {below : List Frame} {meth : Method} {c : Code} {Q : State → Prop} {nc ns : Nat} {cc : ByteArray} {nL : Nat} {own : String} {post : am_K} {k : Nat}
def am_Sem (E : am_E) (p : Program) (l : Launch) (e : Env) (R : Room) (s : State) (m : MethodId) (args : Array Value) (below : List Frame) (meth : Method) (c : Code) (nL : Nat) (Q : State → Prop) (nc ns : Nat) (pc : Nat) : am_K := fun f st I w =>
  ∀ (H : Heap) (locs : List Loc) (ls : Array Slot), va_P E.2.2.1 classes (am_wd E I w) H → va_S (am_Ad E) s.heap H locs → am_ls E.2.1 nL ls f → W p l e R s m args below meth c H locs nc ns Q (F0 m pc ls (st.map (am_rz E.2.1)))
/-- an instruction that ends the method, with what is on the stack -/
def am_isr (i : Instr) (st : List Value) : Prop := (i = .ireturn ∧ ∃ v, st = [.int v]) ∨ (i = .lreturn ∧ ∃ v, st = [.long v]) ∨ (i = .return_ ∧ st = [])
def am_Ctx (E : am_E) (k : Nat) (p : Program) (l : Launch) (e : Env) (R : Room) (s : State) (m : MethodId) (args : Array Value) (below : List Frame) (meth : Method) (c : Code) (Q : State → Prop) (nc ns : Nat) (cc : ByteArray) (nL : Nat) (own : String) (post : am_K) : Prop :=
  (p.tables.exec = Jvm.exec ∧ c.code = cc ∧ c.maxLocals = nL ∧ s.vm.findClass own = some m.cls ∧ (∀ w ∈ am_T, w.before args s = true)) ∧
  (va_K E.2.2.1 classes (am_tys E) s ∧ am_Fx E s s.heap ∧ am_inj E ∧ E.1 = l) ∧
  (k ≤ R.frames ∧ 100 * k + 100 ≤ R.locals ∧ nc ≤ R.cells ∧ ns ≤ R.slots) ∧
  ∀ (i : Instr) (f : am_L) (st : List Value) (I : am_I) (w : Int64) (pc : Nat) (H : Heap) (locs : List Loc) (ls : Array Slot), post f st I w → am_isr i st → decode cc pc = .ok (i, 1) → va_P E.2.2.1 classes (am_wd E I w) H → va_S (am_Ad E) s.heap H locs →
    W p l e R s m args below meth c H locs nc ns Q (F0 m pc ls (st.map (am_rz E.2.1)))
end AM
/-- one act is right -/
def am_G (S : Nat → am_K) (post : am_K) (pc len : Nat) (a : am_A) : Prop := ∀ (K : am_K) (J : Nat → am_K) (f : am_L) (st : List Value) (I : am_I) (w : Int64), a K J post f st I w →
  (∀ f st I w, K f st I w → S (pc + len) f st I w) → (∀ t f st I w, J t f st I w → S t f st I w) → S pc f st I w
/-- .. in every activation of the method -/
def am_V (E : am_E) (k : Nat) (cc : ByteArray) (nL : Nat) (own : String) (pc len : Nat) (a : am_A) : Prop :=
  ∀ (p : Program) (l : Launch) (e : Env) (R : Room) (s : State) (m : MethodId) (args : Array Value) (below : List Frame) (meth : Method) (c : Code) (Q : State → Prop) (nc ns : Nat) (post : am_K), am_Ctx E k p l e R s m args below meth c Q nc ns cc nL own post →
    am_G (am_Sem E p l e R s m args below meth c nL Q nc ns) post pc len a
abbrev am_P : Type := List (Nat × am_A)
def am_hd (q : Nat) : am_P → Prop
  | [] => True
  | (pc, _) :: _ => q = pc
def am_ok (S : Nat → am_K) (post : am_K) : am_P → Prop
  | [] => True
  | (pc, a) :: r => (∃ len, am_G S post pc len a ∧ am_hd (pc + len) r) ∧ am_ok S post r
def am_pv (E : am_E) (k : Nat) (cc : ByteArray) (nL : Nat) (own : String) : am_P → Prop
  | [] => True
  | (pc, a) :: r => (∃ len, am_V E k cc nL own pc len a ∧ am_hd (pc + len) r) ∧ am_pv E k cc nL own r
theorem am_pv_ok {E : am_E} {k : Nat} {cc : ByteArray} {nL : Nat} {own : String} {p : Program} {l : Launch} {e : Env} {R : Room} {s : State} {m : MethodId} {args : Array Value} {below : List Frame} {meth : Method} {c : Code} {Q : State → Prop} {nc ns : Nat} {post : am_K}
    (C : am_Ctx E k p l e R s m args below meth c Q nc ns cc nL own post) : ∀ (P : am_P), am_pv E k cc nL own P → am_ok (am_Sem E p l e R s m args below meth c nL Q nc ns) post P
  | [], _ => trivial
  | (pc, a) :: r, h => by
    obtain ⟨⟨len, h1, h2⟩, h3⟩ := h
    exact ⟨⟨len, h1 p l e R s m args below meth c Q nc ns post C, h2⟩, am_pv_ok C r h3⟩
def am_seek (t : Nat) : am_P → am_P
  | [] => []
  | (pc, a) :: r => match Nat.beq t pc with
    | true => (pc, a) :: r
    | false => am_seek t r
def am_nx (stop : Nat → Bool) (S : Nat → am_K) (g : am_K) : am_P → am_K
  | [], _, _, _, _ => False
  | (pc, _) :: _, f, st, I, w => match stop pc with
    | true => S pc f st I w
    | false => g f st I w
def am_go (P : am_P) (stop : Nat → Bool) (S : Nat → am_K) (post : am_K) : Nat → am_P → am_K
  | 0, _, _, _, _, _ => False
  | _ + 1, [], _, _, _, _ => False
  | n + 1, (_, a) :: r, f, st, I, w => a (fun f st I w => am_nx stop S (am_go P stop S post n r) r f st I w)
      (fun t f st I w => match stop t with
        | true => S t f st I w
        | false => am_go P stop S post n (am_seek t P) f st I w) post f st I w
theorem am_seek_ok {S : Nat → am_K} {post : am_K} (t : Nat) : ∀ (P : am_P), am_ok S post P → am_seek t P = [] ∨ ∃ a r, am_seek t P = (t, a) :: r ∧ am_ok S post ((t, a) :: r)
  | [], _ => Or.inl rfl
  | (pc, a) :: r, h => by
    unfold am_seek
    cases hb : Nat.beq t pc with
    | true =>
      have e : t = pc := Nat.eq_of_beq_eq_true hb
      subst e
      exact Or.inr ⟨a, r, rfl, h⟩
    | false => exact am_seek_ok t r h.2
theorem am_run {P : am_P} {stop : Nat → Bool} {S : Nat → am_K} {post : am_K} (hP : am_ok S post P) : ∀ (n : Nat) (r : am_P) (pc : Nat) (a : am_A) (f : am_L) (st : List Value) (I : am_I) (w : Int64), am_ok S post ((pc, a) :: r) → am_go P stop S post n ((pc, a) :: r) f st I w → S pc f st I w := by
  intro n
  induction n with
  | zero => intro r pc a f st I w _ h; exact h.elim
  | succ n ih =>
    intro r pc a f st I w hr h
    obtain ⟨⟨len, hG, hh⟩, hr2⟩ := hr
    refine hG _ _ f st I w h (fun f st I w hk => ?_) (fun t f st I w hj => ?_)
    · cases r with
      | nil => exact hk.elim
      | cons q r =>
        obtain ⟨pc', a'⟩ := q
        have e : pc + len = pc' := hh
        rw [e]
        dsimp only [am_nx] at hk
        cases hs : stop pc' with
        | true => rw [hs] at hk; exact hk
        | false => rw [hs] at hk; exact ih r pc' a' f st I w hr2 hk
    · cases hs : stop t with
      | true => rw [hs] at hj; exact hj
      | false =>
        rw [hs] at hj
        rcases am_seek_ok t P hP with h0 | ⟨a', r', h0, h1⟩
        · rw [h0] at hj
          cases n <;> exact hj.elim
        · rw [h0] at hj
          exact ih r' t a' f st I w h1 hj
/-- a stretch of a method's walk, from pc to the next stops -/
theorem am_at {P : am_P} {S : Nat → am_K} {post : am_K} (hP : am_ok S post P) (stop : Nat → Bool) (n pc : Nat) {f : am_L} {st : List Value} {I : am_I} {w : Int64} (h : am_go P stop S post n (am_seek pc P) f st I w) : S pc f st I w := by
  rcases am_seek_ok pc P hP with h0 | ⟨a, r, h0, h1⟩
  · rw [h0] at h
    cases n <;> exact h.elim
  · rw [h0] at h
    exact am_run hP n r pc a f st I w h1 h
def am_mem (t : Nat) : List Nat → Bool
  | [] => false
  | a :: l => match Nat.beq t a with
    | true => true
    | false => am_mem t l
/-- the locals with which a method begins -/
def am_f0 : List Value → am_L
  | [] => []
  | .long v :: r => some (.long v) :: none :: am_f0 r
  | v :: r => some v :: am_f0 r
def am_pad (n : Nat) (f : am_L) : am_L := f ++ List.replicate (n - f.length) none
def am_po (Po : am_Q) : am_K := fun _ st I w => match st with
  | [] => Po none I w
  | [v] => Po (some v) I w
  | _ => False
/-- what a method of a type may answer -/
def am_nr : Option FieldType → Option Value → Prop
  | none, none => True
  | some .long, some (.long _) => True
  | some ty, some (.int v) => narrow ty (.int v) = .int v
  | _, _ => False
theorem am_f0_lv (ad : Nat → Nat) : ∀ (av : List Value) (b : Nat), (∀ v ∈ av, ∀ x, v ≠ .double x) → am_lv ad b (am_f0 av) = lv_args b (av.map (am_rz ad))
  | [], b, _ => rfl
  | v :: r, b, h => by
    have ih := fun b => am_f0_lv ad r b (fun u hu => h u (List.mem_cons_of_mem _ hu))
    cases v with
    | double x => exact absurd rfl (h _ List.mem_cons_self x)
    | _ => simp [am_f0, am_lv, lv_args, am_rz, Value.category, ih]
theorem am_lv_pad (ad : Nat → Nat) : ∀ (f : am_L) (b n : Nat), am_lv ad b (f ++ List.replicate n none) = am_lv ad b f
  | [], b, n => by
    induction n generalizing b with
    | zero => rfl
    | succ n ih =>
      rw [List.nil_append] at ih ⊢
      rw [List.replicate_succ, am_lv]
      exact ih (b + 1)
  | none :: r, b, n => by rw [List.cons_append, am_lv, am_lv, am_lv_pad ad r (b + 1) n]
  | some v :: r, b, n => by rw [List.cons_append, am_lv, am_lv, am_lv_pad ad r (b + 1) n]
theorem am_f0_len (ad : Nat → Nat) : ∀ (av : List Value), (∀ v ∈ av, ∀ x, v ≠ .double x) → (am_f0 av).length = (lg_sl (av.map (am_rz ad))).length
  | [], _ => rfl
  | v :: r, h => by
    have ih := am_f0_len ad r (fun u hu => h u (List.mem_cons_of_mem _ hu))
    have e : lg_sl ((v :: r).map (am_rz ad)) = (if (am_rz ad v).category = 2 then [Slot.val (am_rz ad v), .second] else [.val (am_rz ad v)]) ++ lg_sl (r.map (am_rz ad)) := by
      simp [lg_sl]
    rw [e, List.length_append, ← ih]
    cases v with
    | double x => exact absurd rfl (h _ List.mem_cons_self x)
    | _ => simp [am_f0, am_rz, Value.category] <;> omega
def am_nod : List Value → Bool
  | [] => true
  | .double _ :: _ => false
  | _ :: r => am_nod r
theorem am_nod_of : ∀ (av : List Value), am_nod av = true → ∀ v ∈ av, ∀ x, v ≠ .double x
  | [], _, v, hv, _ => by cases hv
  | u :: r, h, v, hv, x => by
    rcases List.mem_cons.mp hv with e | e
    · subst e
      intro q
      subst q
      simp [am_nod] at h
    · refine am_nod_of r ?_ v e x
      cases u <;> simp_all [am_nod]
/-- A CONTRACT FROM A WALK -/
theorem am_intro {E : am_E} {k : Nat} {Y : am_Y} {av : List Value} {I : am_I} {w : Int64} {Po : am_Q} {P : am_P} (hv : am_pv E k Y.2.1 Y.2.2.1 Y.1.cls P) (hy : plainName Y.1.cls = true) (hi : am_inj E) (hnr : ∀ r I' w', Po r I' w' → am_nr Y.2.2.2 r) (hav : am_nod av = true) (hn : Nat.ble (am_f0 av).length Y.2.2.1 = true)
    (h : ∀ (S : Nat → am_K), am_ok S (am_po Po) P → S 0 (am_pad Y.2.2.1 (am_f0 av)) [] I w) : am_Ret E k Y av I w Po := by
  refine Met.ofW (cc := Y.2.1) (maxL := Y.2.2.1) (ret := Y.2.2.2) hy rfl ?_
  intro p e s m args below meth c s₁ B hml hP
  obtain ⟨rfl, hK, hW, hF⟩ := hP
  have hts := atoms_spec (ws := Cond.code Y.1 Y.2.1 Y.2.2.1 Y.2.2.2 :: am_T) B.pre
  have C : am_Ctx E k p E.1 e (am_rm k) s m (av.map (am_rz E.2.1)).toArray below meth c (MQ below (am_Qc E Po) (av.map (am_rz E.2.1)).toArray s 0 0 (am_Ad E)) 0 0 Y.2.1 Y.2.2.1 Y.1.cls (am_po Po) := by
    refine ⟨⟨B.exec, B.bytes, hml, findClass_of_methodNamed B.named, fun w hw => hts w (List.mem_cons_of_mem _ hw)⟩, ⟨hK, hF, hi, rfl⟩, ⟨Nat.le_refl _, Nat.le_refl _, Nat.le_refl _, Nat.le_refl _⟩, ?_⟩
    intro i f st J v pc H locs ls hpost hisr hd hP hS
    have hq : ∀ (z : Option Value) (t : State), t.heap = H → Po z J v → am_Qc E Po (av.map (am_rz E.2.1)).toArray s (.returned (z.map (am_rz E.2.1))) t := fun z t ht hz => ⟨z, J, v, rfl, hz, by rw [ht]; exact hP, hS.F ht⟩
    rcases hisr with ⟨rfl, x, rfl⟩ | ⟨rfl, x, rfl⟩ | ⟨rfl, rfl⟩
    · have hp : Po (some (.int x)) J v := hpost
      have hr := hnr _ _ _ hp
      cases hret : Y.2.2.2 with
      | none => rw [hret] at hr; exact hr.elim
      | some ty =>
        rw [hret] at hr
        have hn' : narrow ty (.int x) = .int x := by cases ty <;> first | exact hr | exact hr.elim
        exact W.zret B.exec B.bytes (ty := ty) (by rw [B.returns, hret]) hn' (fun t ht _ => hq _ t ht hp) hS.2.2 hd B.notSynchronized
    · have hp : Po (some (.long x)) J v := hpost
      have hr := hnr _ _ _ hp
      have hret : Y.2.2.2 = some .long := by
        revert hr
        cases Y.2.2.2 with
        | none => exact fun h => h.elim
        | some ty => cases ty <;> first | exact fun _ => rfl | exact fun h => h.elim
      exact W.lret B.exec B.bytes (by rw [B.returns, hret]) (fun t ht _ => hq _ t ht hp) hS.2.2 hd B.notSynchronized
    · have hp : Po none J v := hpost
      have hr := hnr _ _ _ hp
      have hret : Y.2.2.2 = none := by
        revert hr
        cases Y.2.2.2 with
        | none => exact fun _ => rfl
        | some ty => cases ty <;> exact fun h => h.elim
      exact W.vret B.exec B.bytes (by rw [B.returns, hret]) (fun t ht _ => hq _ t ht hp) hS.2.2 hd B.notSynchronized
  have h0 := h _ (am_pv_ok C P hv)
  have hd := am_nod_of av hav
  have hlen := am_f0_len E.2.1 av hd
  have hn2 := Nat.ble_eq.mp hn
  have hl := lv_entry (av.map (am_rz E.2.1)) (n := Y.2.2.1) (by rw [← hlen]; exact hn2)
  rw [lg_entry_eq]
  refine h0 s.heap [] _ hW va_S.rf ⟨?_, ?_⟩
  · unfold am_pad
    rw [List.length_append, List.length_replicate]
    omega
  · unfold am_pad
    rw [am_lv_pad, am_f0_lv E.2.1 av 0 hd]
    exact hl
