/-! the grammar of a TEXT: whether it fits, where it stops, what the class lays out, what it is worth -/
abbrev PR : Type := Bool × Nat × List Int32 × ((Nat → Int32) → Int32)
abbrev pOk (r : PR) : Bool := r.1
abbrev pAt (r : PR) : Nat := r.2.1
abbrev pCo (r : PR) : List Int32 := r.2.2.1
abbrev pVa (r : PR) : (Nat → Int32) → Int32 := r.2.2.2
/-- joined by a TOKEN -/
def pJ (t : Int32) (r q : PR) : PR := (pOk q, pAt q, pCo r ++ pCo q ++ [t], fun e => joi t (pVa r e) (pVa q e))
def lop (T : Nat → Int32) (op : Int32 → Bool) (g : Nat → PR) : Nat → PR → PR
  | 0, r => r
  | m + 1, r => cond (pOk r && op (T (pAt r))) (lop T op g m (pJ (T (pAt r)) r (g (pAt r + 1)))) r
def isTi (c : Int32) : Bool := c == -42
def isSu (c : Int32) : Bool := c == -43 || c == -45
def isCo (c : Int32) : Bool := c == -60 || c == -61
def isAn (c : Int32) : Bool := c == -6
def isOr (c : Int32) : Bool := c == -5
def pT (T : Nat → Int32) (one : Nat → PR) (i : Nat) : PR := lop T isTi one 160 (one i)
def pS (T : Nat → Int32) (one : Nat → PR) (i : Nat) : PR := lop T isSu (pT T one) 160 (pT T one i)
def pC (T : Nat → Int32) (one : Nat → PR) (i : Nat) : PR := lop T isCo (pS T one) 1 (pS T one i)
def pA (T : Nat → Int32) (nt : Nat → PR) (i : Nat) : PR := lop T isAn nt 160 (nt i)
def pO (T : Nat → Int32) (nt : Nat → PR) (i : Nat) : PR := lop T isOr (pA T nt) 160 (pA T nt i)
def pF (i : Nat) : PR := (false, i, [], fun _ => 0)
/-- behind ( and an E -/
def pB (T : Nat → Int32) (q : PR) : PR := cond (pOk q && T (pAt q) == -41) (true, pAt q + 1, pCo q, pVa q) (pF (pAt q))
def pM (q : PR) : PR := (pOk q, pAt q, pCo q ++ [-8], fun e => -(pVa q e))
def pQ (q : PR) : PR := (pOk q, pAt q, pCo q ++ [-7], fun e => bi (decide (pVa q e = 0)))
def p1 (T : Nat → Int32) (dn : Option ((Nat → PR) × (Nat → PR))) (i : Nat) : PR :=
  if ¬ T i < 0 then (true, i + 1, [T i], fun _ => T i)
  else if isn (T i) = true then (true, i + 1, [T i], fun e => nam e (T i))
  else match dn with
    | none => pF i
    | some u => if T i = -40 then pB T (pO T u.2 (i + 1)) else if T i = -45 then pM (u.1 (i + 1)) else pF i
def pN (T : Nat → Int32) (dn : Option ((Nat → PR) × (Nat → PR))) (cm : Nat → PR) (i : Nat) : PR :=
  if T i = -7 then match dn with
    | none => pF i
    | some u => pQ (u.2 (i + 1))
  else cm i
def lev (T : Nat → Int32) : Nat → (Nat → PR) × (Nat → PR)
  | 0 => (p1 T none, pN T none (pC T (p1 T none)))
  | d + 1 => (p1 T (some (lev T d)), pN T (some (lev T d)) (pC T (p1 T (some (lev T d)))))
/-- what is below so many open ones -/
def dwn (T : Nat → Int32) : Nat → Option ((Nat → PR) × (Nat → PR))
  | 0 => none
  | d + 1 => some (lev T d)
theorem lev_eq (T : Nat → Int32) (d : Nat) : lev T d = (p1 T (dwn T d), pN T (dwn T d) (pC T (p1 T (dwn T d)))) := by cases d <;> rfl
def runL (e : Nat → Int32) : List Int32 → List Int32 → List Int32
  | [], s => s
  | t :: c, s => runL e c (run1 e t s)
theorem runL_app (e : Nat → Int32) : ∀ (c c' s : List Int32), runL e (c ++ c') s = runL e c' (runL e c s)
  | [], _, _ => rfl
  | t :: c, c', s => by rw [List.cons_append, runL, runL, runL_app e c c']
/-- a result that is right, begun at i; L: the TOKEN that stops -/
def GR (L i : Nat) (r : PR) : Prop := i ≤ pAt r ∧ pAt r ≤ L ∧ (pOk r = true → i < pAt r ∧ (pCo r).length ≤ pAt r - i ∧ ∀ e s, runL e (pCo r) s = pVa r e :: s)
def GP (L : Nat) (g : Nat → PR) : Prop := ∀ i, i ≤ L → GR L i (g i)
def opk (c : Int32) : Bool := decide (c < 0) && (!isn c && (!(c == -8) && (!(c == -7) && (!(c == -1) && !(c == -2)))))
theorem opk_run {c : Int32} (h : opk c = true) (e : Nat → Int32) (x y : Int32) (s : List Int32) : run1 e c (y :: x :: s) = joi c x y :: s := by
  unfold opk at h
  simp only [Bool.and_eq_true, Bool.not_eq_true', beq_eq_false_iff_ne, decide_eq_true_eq] at h
  unfold run1
  rw [if_pos h.1, if_neg (by rw [h.2.1]; exact Bool.false_ne_true), if_neg h.2.2.1, if_neg h.2.2.2.1]
  rfl
theorem opk_st {c : Int32} (h : opk c = true) : ¬ stp c := by
  unfold opk at h
  simp only [Bool.and_eq_true, Bool.not_eq_true', beq_eq_false_iff_ne, decide_eq_true_eq] at h
  exact fun q => q.elim h.2.2.2.2.1 h.2.2.2.2.2
theorem isTi_ok {c : Int32} (h : isTi c = true) : opk c = true := by
  rw [show c = -42 from beq_iff_eq.mp h]; decide
theorem isSu_ok {c : Int32} (h : isSu c = true) : opk c = true := by
  rcases Bool.or_eq_true_iff.mp h with h | h
  · rw [show c = -43 from beq_iff_eq.mp h]; decide
  · rw [show c = -45 from beq_iff_eq.mp h]; decide
theorem isCo_ok {c : Int32} (h : isCo c = true) : opk c = true := by
  rcases Bool.or_eq_true_iff.mp h with h | h
  · rw [show c = -60 from beq_iff_eq.mp h]; decide
  · rw [show c = -61 from beq_iff_eq.mp h]; decide
theorem isAn_ok {c : Int32} (h : isAn c = true) : opk c = true := by
  rw [show c = -6 from beq_iff_eq.mp h]; decide
theorem isOr_ok {c : Int32} (h : isOr c = true) : opk c = true := by
  rw [show c = -5 from beq_iff_eq.mp h]; decide
theorem st_lt {T : Nat → Int32} {L i : Nat} (hL : stp (T L)) (hi : i ≤ L) (h : ¬ stp (T i)) : i < L := by
  apply Classical.byContradiction
  intro q
  have e : i = L := by omega
  rw [e] at h
  exact h hL
theorem GR_J {T : Nat → Int32} {L : Nat} (hL : stp (T L)) {op : Int32 → Bool} (hop : ∀ c, op c = true → opk c = true) {g : Nat → PR} (hg : GP L g) {i : Nat} {r : PR} (hr : GR L i r) (h1 : pOk r = true) (h2 : op (T (pAt r)) = true) : GR L i (pJ (T (pAt r)) r (g (pAt r + 1))) := by
  have hs := opk_st (hop _ h2)
  have hlt := st_lt hL hr.2.1 hs
  obtain ⟨a1, a2, a3⟩ := hg (pAt r + 1) (by omega)
  obtain ⟨b1, b2, b3⟩ := hr.2.2 h1
  refine ⟨by show i ≤ pAt (g (pAt r + 1)); omega, a2, fun h => ?_⟩
  obtain ⟨c1, c2, c3⟩ := a3 h
  refine ⟨by show i < pAt (g (pAt r + 1)); omega, ?_, fun e s => ?_⟩
  · show (pCo r ++ pCo (g (pAt r + 1)) ++ [T (pAt r)]).length ≤ pAt (g (pAt r + 1)) - i
    rw [List.length_append, List.length_append, List.length_singleton]
    omega
  · show runL e (pCo r ++ pCo (g (pAt r + 1)) ++ [T (pAt r)]) s = _
    rw [runL_app, runL_app, b3, c3, runL, opk_run (hop _ h2)]
    rfl
theorem GR_lop {T : Nat → Int32} {L : Nat} (hL : stp (T L)) {op : Int32 → Bool} (hop : ∀ c, op c = true → opk c = true) {g : Nat → PR} (hg : GP L g) {i : Nat} : ∀ (m : Nat) (r : PR), GR L i r → GR L i (lop T op g m r)
  | 0, r, hr => hr
  | m + 1, r, hr => by
    rw [lop]
    cases hc : pOk r && op (T (pAt r)) with
    | false => exact hr
    | true =>
      rw [Bool.and_eq_true] at hc
      exact GR_lop hL hop hg m _ (GR_J hL hop hg hr hc.1 hc.2)
theorem GP_T {T : Nat → Int32} {L : Nat} (hL : stp (T L)) {g : Nat → PR} (hg : GP L g) : GP L (pT T g) := fun i hi => GR_lop hL (fun _ => isTi_ok) hg _ _ (hg i hi)
theorem GP_S {T : Nat → Int32} {L : Nat} (hL : stp (T L)) {g : Nat → PR} (hg : GP L g) : GP L (pS T g) := fun i hi => GR_lop hL (fun _ => isSu_ok) (GP_T hL hg) _ _ (GP_T hL hg i hi)
theorem GP_C {T : Nat → Int32} {L : Nat} (hL : stp (T L)) {g : Nat → PR} (hg : GP L g) : GP L (pC T g) := fun i hi => GR_lop hL (fun _ => isCo_ok) (GP_S hL hg) _ _ (GP_S hL hg i hi)
theorem GP_A {T : Nat → Int32} {L : Nat} (hL : stp (T L)) {g : Nat → PR} (hg : GP L g) : GP L (pA T g) := fun i hi => GR_lop hL (fun _ => isAn_ok) hg _ _ (hg i hi)
theorem GP_O {T : Nat → Int32} {L : Nat} (hL : stp (T L)) {g : Nat → PR} (hg : GP L g) : GP L (pO T g) := fun i hi => GR_lop hL (fun _ => isOr_ok) (GP_A hL hg) _ _ (GP_A hL hg i hi)
theorem GR_F {L i j : Nat} (h1 : i ≤ j) (h2 : j ≤ L) : GR L i (pF j) := ⟨h1, h2, fun h => by cases h⟩
theorem GP_1 {T : Nat → Int32} {L : Nat} (hL : stp (T L)) {dn : Option ((Nat → PR) × (Nat → PR))} (hd : ∀ u, dn = some u → GP L u.1 ∧ GP L u.2) : GP L (p1 T dn) := by
  intro i hi
  unfold p1
  split
  · next h =>
    have hlt := st_lt hL hi (fun q => h (by rcases q with q | q <;> rw [q] <;> decide))
    refine ⟨Nat.le_succ _, hlt, fun _ => ⟨Nat.lt_succ_self _, by show 1 ≤ i + 1 - i; omega, fun e s => ?_⟩⟩
    show run1 e (T i) s = _
    unfold run1
    rw [if_neg h]
  · next h =>
    rw [Classical.not_not] at h
    split
    · next h2 =>
      have hlt := st_lt hL hi (fun q => absurd h2 (by rcases q with q | q <;> rw [q] <;> decide))
      refine ⟨Nat.le_succ _, hlt, fun _ => ⟨Nat.lt_succ_self _, by show 1 ≤ i + 1 - i; omega, fun e s => ?_⟩⟩
      show run1 e (T i) s = _
      unfold run1
      rw [if_pos h, if_pos h2]
    · split
      · exact GR_F (Nat.le_refl _) hi
      · next u =>
        obtain ⟨g1, g2⟩ := hd u rfl
        split
        · next h3 =>
          have hlt := st_lt hL hi (by rw [h3]; exact fun q => absurd q (by rintro (q | q) <;> exact absurd q (by decide)))
          obtain ⟨a1, a2, a3⟩ := GP_O hL g2 (i + 1) hlt
          unfold pB
          cases hc : (pOk (pO T u.2 (i + 1)) && T (pAt (pO T u.2 (i + 1))) == -41) with
          | false => exact GR_F (by omega) a2
          | true =>
            rw [Bool.and_eq_true, beq_iff_eq] at hc
            have hlt2 := st_lt hL a2 (by rw [hc.2]; exact fun q => absurd q (by rintro (q | q) <;> exact absurd q (by decide)))
            obtain ⟨b1, b2, b3⟩ := a3 hc.1
            exact ⟨by show i ≤ pAt (pO T u.2 (i + 1)) + 1; omega, hlt2, fun _ => ⟨by show i < pAt (pO T u.2 (i + 1)) + 1; omega, by show (pCo (pO T u.2 (i + 1))).length ≤ pAt (pO T u.2 (i + 1)) + 1 - i; omega, b3⟩⟩
        · split
          · next h3 =>
            have hlt := st_lt hL hi (by rw [h3]; exact fun q => absurd q (by rintro (q | q) <;> exact absurd q (by decide)))
            obtain ⟨a1, a2, a3⟩ := g1 (i + 1) hlt
            refine ⟨by show i ≤ pAt (u.1 (i + 1)); omega, a2, fun hk => ?_⟩
            obtain ⟨b1, b2, b3⟩ := a3 hk
            refine ⟨by show i < pAt (u.1 (i + 1)); omega, ?_, fun e s => ?_⟩
            · show (pCo (u.1 (i + 1)) ++ [-8]).length ≤ pAt (u.1 (i + 1)) - i
              rw [List.length_append, List.length_singleton]
              omega
            · show runL e (pCo (u.1 (i + 1)) ++ [-8]) s = -(pVa (u.1 (i + 1)) e) :: s
              rw [runL_app, b3]
              rfl
          · exact GR_F (Nat.le_refl _) hi
theorem GP_N {T : Nat → Int32} {L : Nat} (hL : stp (T L)) {dn : Option ((Nat → PR) × (Nat → PR))} (hd : ∀ u, dn = some u → GP L u.1 ∧ GP L u.2) {cm : Nat → PR} (hc : GP L cm) : GP L (pN T dn cm) := by
  intro i hi
  unfold pN
  split
  · next h3 =>
    have hlt := st_lt hL hi (by rw [h3]; exact fun q => absurd q (by rintro (q | q) <;> exact absurd q (by decide)))
    split
    · exact GR_F (Nat.le_refl _) hi
    · next u =>
      obtain ⟨a1, a2, a3⟩ := (hd u rfl).2 (i + 1) hlt
      refine ⟨by show i ≤ pAt (u.2 (i + 1)); omega, a2, fun hk => ?_⟩
      obtain ⟨b1, b2, b3⟩ := a3 hk
      refine ⟨by show i < pAt (u.2 (i + 1)); omega, ?_, fun e s => ?_⟩
      · show (pCo (u.2 (i + 1)) ++ [-7]).length ≤ pAt (u.2 (i + 1)) - i
        rw [List.length_append, List.length_singleton]
        omega
      · show runL e (pCo (u.2 (i + 1)) ++ [-7]) s = bi (decide (pVa (u.2 (i + 1)) e = 0)) :: s
        rw [runL_app, b3]
        rfl
  · exact hc i hi
theorem GP_lev {T : Nat → Int32} {L : Nat} (hL : stp (T L)) : ∀ d, GP L (lev T d).1 ∧ GP L (lev T d).2
  | 0 => ⟨GP_1 hL (fun u h => by cases h), GP_N hL (fun u h => by cases h) (GP_C hL (GP_1 hL (fun u h => by cases h)))⟩
  | d + 1 => by
    have ih := GP_lev hL d
    have hd : ∀ u, some (lev T d) = some u → GP L u.1 ∧ GP L u.2 := fun u h => by cases h; exact ih
    exact ⟨GP_1 hL hd, GP_N hL hd (GP_C hL (GP_1 hL hd))⟩
theorem GP_dwn {T : Nat → Int32} {L : Nat} (hL : stp (T L)) (d : Nat) : ∀ u, dwn T d = some u → GP L u.1 ∧ GP L u.2 := by
  cases d with
  | zero => intro u h; cases h
  | succ d => intro u h; cases h; exact GP_lev hL d
