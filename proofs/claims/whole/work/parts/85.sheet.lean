/-! SHEETS: sheet: both -/
abbrev Hz : Type := (Nat → Option (Nat × Nat)) × (Nat → Nat → Int32)
def wfh (h : Hz) : Prop := ∀ s, s < 4 → ∀ t n, h.1 s = some (t, n) → t < 3 ∧ n ≤ 40
def hC (I : am_I) (h : Hz) : Prop := ∀ s, s < 4 → (h.1 s = none → I (80 + 2 * s) 0 = -1) ∧ ∀ t n, h.1 s = some (t, n) → I (80 + 2 * s) 0 = nI t ∧ I (80 + 2 * s) 1 = nI n ∧ ∀ i, i < n → I (81 + 2 * s) i = h.2 s i
def hR (I : am_I) (h : Hz) : Prop := ∀ s, s < 4 → (h.1 s = none → I 113 s = 0) ∧ ∀ t n, h.1 s = some (t, n) → I 113 s = 1 ∧ I 114 s = nI t ∧ I 115 s = nI n ∧ ∀ i, i < n → I 116 (40 * s + i) = h.2 s i
def hSet (h : Hz) (s : Nat) (o : Option (Nat × Nat)) : Hz := (fup h.1 s o, fun x i => if x = s then 0 else h.2 x i)
def ish (t : Int32) : Bool := decide (-1 ≤ t.toInt) && decide (t.toInt ≤ 2)
/-- what sheet answers; how the sheet is then, where it answers 1 -/
def aShe (x t n : Int32) : Int32 := cond (inb x 4 && ish t) (if t = -1 then 1 else if 40 < n then -2 else if n < 0 then -14 else 1) (-2)
def sShe (h : Hz) (x t n : Int32) : Hz := if aShe x t n = 1 then hSet h x.toNatClampNeg (if t = -1 then none else some (t.toNatClampNeg, n.toNatClampNeg)) else h
def fSh : List Nat := [80, 81, 82, 83, 84, 85, 86, 87]
theorem r_shBecome {E : am_E} (zi : am_inj E) {k : Nat} (hk : 1 ≤ k) (I : am_I) (w : Int64) {s : Nat} (hs : s < 4) (t n : Int32) : am_Ret E k Y_Sheet_become [.ref (80 + 2 * s), .int t, .int n] I w (am_eq none (am_fill (am_up (am_up I (80 + 2 * s) 0 t) (80 + 2 * s) 1 n) (81 + 2 * s) 40 0) w) := by
  refine am_intro (pv_Sheet_become E k) (by decide) zi ?_ rfl rfl ?_
  · rintro _ _ _ ⟨rfl, -⟩; trivial
  intro S hS
  have hc : s = 0 ∨ s = 1 ∨ s = 2 ∨ s = 3 := by omega
  rcases hc with rfl | rfl | rfl | rfl
  all_goals
    refine am_at hS (fun _ => false) 60 0 ?_
    refine ⟨_, _, (by omega : k - 1 < k), r_fill zi (n := 40) rfl (by decide) _ w 0, am_elim ?_⟩
    exact ⟨rfl, rfl, rfl⟩
theorem fill_self {I : am_I} {a n : Nat} {v : Int32} {j : Nat} (h : j < n) : am_fill I a n v a j = v := if_pos ⟨rfl, h⟩
theorem fill_ne {I : am_I} {a n q : Nat} {v : Int32} (h : q ≠ a) : am_fill I a n v q = I q := by
  funext j
  exact if_neg (fun e => h e.1)
theorem hC_set {I : am_I} {h : Hz} (hI : hC I h) {s : Nat} {t n : Int32} {o : Option (Nat × Nat)} (ho : (o = none → t = -1) ∧ ∀ a b, o = some (a, b) → t = nI a ∧ n = nI b ∧ b ≤ 40) : hC (am_fill (am_up (am_up I (80 + 2 * s) 0 t) (80 + 2 * s) 1 n) (81 + 2 * s) 40 0) (hSet h s o) := by
  intro x hx
  by_cases e : x = s
  · subst e
    have e1 : (hSet h x o).1 x = o := fup_self
    rw [e1, fill_ne (show 80 + 2 * x ≠ 81 + 2 * x by omega), am_sne (by decide), am_seq, am_seq]
    refine ⟨ho.1, fun a b hab => ?_⟩
    obtain ⟨g1, g2, g3⟩ := ho.2 a b hab
    refine ⟨g1, g2, fun i hi => ?_⟩
    rw [fill_self (by omega)]
    exact (if_pos rfl).symm
  · have e1 : (hSet h s o).1 x = h.1 x := fup_ne e
    rw [e1, fill_ne (show 80 + 2 * x ≠ 81 + 2 * s by omega), fill_ne (show 81 + 2 * x ≠ 81 + 2 * s by omega), am_up_ne (show 80 + 2 * x ≠ 80 + 2 * s by omega), am_up_ne (show 80 + 2 * x ≠ 80 + 2 * s by omega), am_up_ne (show 81 + 2 * x ≠ 80 + 2 * s by omega), am_up_ne (show 81 + 2 * x ≠ 80 + 2 * s by omega)]
    refine ⟨(hI x hx).1, fun a b hab => ?_⟩
    obtain ⟨g1, g2, g3⟩ := (hI x hx).2 a b hab
    exact ⟨g1, g2, fun i hi => (g3 i hi).trans (if_neg e).symm⟩
theorem fr_set {I : am_I} {s : Nat} (hs : s < 4) {t n : Int32} : am_fr fSh I (am_fill (am_up (am_up I (80 + 2 * s) 0 t) (80 + 2 * s) 1 n) (81 + 2 * s) 40 0) := fun q hq => by
  have h : q ≠ 80 + 2 * s ∧ q ≠ 81 + 2 * s := by
    unfold fSh at hq
    simp only [List.mem_cons, List.not_mem_nil, or_false, not_or] at hq
    omega
  rw [fill_ne h.2, am_up_ne h.1, am_up_ne h.1]
theorem wfh_set {h : Hz} (hw : wfh h) {s : Nat} {o : Option (Nat × Nat)} (ho : ∀ a b, o = some (a, b) → a < 3 ∧ b ≤ 40) : wfh (hSet h s o) := by
  intro x hx a b hab
  by_cases e : x = s
  · subst e
    exact ho a b ((fup_self : fup h.1 x o x = o).symm.trans hab)
  · exact hw x hx a b ((fup_ne e : fup h.1 s o x = h.1 x).symm.trans hab)
theorem ish_of {t : Int32} (h : ish t = true) (hne : ¬ t = -1) : ∃ a, a < 3 ∧ t = nI a ∧ t.toNatClampNeg = a := by
  unfold ish at h
  rw [Bool.and_eq_true, decide_eq_true_eq, decide_eq_true_eq] at h
  have h1 : ¬ t.toInt = -1 := fun e => hne (Int32.toInt_inj.mp e)
  obtain ⟨a, ha⟩ : ∃ a : Nat, t.toInt = (a : Int) := ⟨t.toInt.toNat, by omega⟩
  have e : t = nI a := by
    apply Int32.toInt_inj.mp
    rw [nI_toInt (by omega), ha]
  exact ⟨a, by omega, e, by rw [e]; exact nI_clamp (by omega)⟩
theorem n40_of {n : Int32} (h1 : ¬ 40 < n) (h2 : ¬ n < 0) : ∃ b, b ≤ 40 ∧ n = nI b ∧ n.toNatClampNeg = b := by
  rw [i_lt, show (40 : Int32).toInt = 40 from rfl] at h1
  rw [i_lt, show (0 : Int32).toInt = 0 from rfl] at h2
  obtain ⟨a, ha⟩ : ∃ a : Nat, n.toInt = (a : Int) := ⟨n.toInt.toNat, by omega⟩
  have e : n = nI a := by
    apply Int32.toInt_inj.mp
    rw [nI_toInt (by omega), ha]
  exact ⟨a, by omega, e, by rw [e]; exact nI_clamp (by omega)⟩
theorem wfh_she {h : Hz} (hw : wfh h) (x t n : Int32) : wfh (sShe h x t n) := by
  unfold sShe
  by_cases hr : aShe x t n = 1
  · rw [if_pos hr]
    refine wfh_set hw (fun a b hab => ?_)
    by_cases ht : t = -1
    · rw [if_pos ht] at hab; cases hab
    · rw [if_neg ht] at hab
      cases hab
      unfold aShe at hr
      cases hc : (inb x 4 && ish t) with
      | false => rw [hc] at hr; exact absurd (show (-2 : Int32) = 1 from hr) (by decide)
      | true =>
        rw [hc, cond_true, if_neg ht] at hr
        by_cases h1 : 40 < n
        · rw [if_pos h1] at hr; exact absurd hr (by decide)
        rw [if_neg h1] at hr
        by_cases h2 : n < 0
        · rw [if_pos h2] at hr; exact absurd hr (by decide)
        obtain ⟨b, hb, -, eb⟩ := n40_of h1 h2
        rw [Bool.and_eq_true] at hc
        obtain ⟨a, ha, -, ea⟩ := ish_of hc.2 ht
        rw [ea, eb]
        exact ⟨ha, hb⟩
  · rw [if_neg hr]; exact hw
theorem c_sheet {E : am_E} (zi : am_inj E) {k : Nat} (hk : 2 ≤ k) {I : am_I} (w : Int64) {h : Hz} (hI : hC I h) (x t n : Int32) :
    am_Ret E k Y_TC_sheet [.ref 0, .int x, .int t, .int n] I w (fun q I' w' => q = some (.int (aShe x t n)) ∧ w' = w ∧ hC I' (sShe h x t n) ∧ am_fr fSh I I') := by
  refine am_intro (pv_TC_sheet E k) (by decide) zi ?_ rfl rfl ?_
  · rintro _ _ _ ⟨rfl, -⟩; rfl
  intro S hS
  have em1 : (-1 : Int32).toInt = -1 := rfl
  have e2 : (2 : Int32).toInt = 2 := rfl
  have bad : aShe x t n = -2 → am_po (fun q I' w' => q = some (.int (aShe x t n)) ∧ w' = w ∧ hC I' (sShe h x t n) ∧ am_fr fSh I I') [] [.int (-2)] I w := fun e => by
    have e3 : sShe h x t n = h := if_neg (by rw [e]; decide)
    exact ⟨congrArg (fun y => some (Value.int y)) e.symm, rfl, by rw [e3]; exact hI, am_fr.refl⟩
  refine am_at hS (fun _ => false) 60 0 ?_
  refine ⟨_, _, (by omega : k - 1 < k), r_isSheet zi x I w, am_elim ?_⟩
  refine ⟨fun g => ?_, fun g => ?_⟩
  · rw [bi_eq0] at g
    exact bad (by unfold aShe; rw [g]; rfl)
  rw [bi_eq0, Bool.not_eq_false] at g
  refine ⟨fun t1 => ?_, fun t1 => ?_⟩
  · rw [i_lt, em1] at t1
    exact bad (by unfold aShe ish; rw [decide_eq_false (show ¬ -1 ≤ t.toInt by omega), Bool.false_and, Bool.and_false]; rfl)
  rw [i_lt, em1] at t1
  refine ⟨fun t2 => ?_, fun t2 => ?_⟩
  · rw [i_lt, e2] at t2
    exact bad (by unfold aShe ish; rw [decide_eq_false (show ¬ t.toInt ≤ 2 by omega), Bool.and_false, Bool.and_false]; rfl)
  rw [i_lt, e2] at t2
  have hi : ish t = true := by unfold ish; rw [decide_eq_true (show -1 ≤ t.toInt by omega), decide_eq_true (show t.toInt ≤ 2 by omega)]; rfl
  obtain ⟨s, hs, rfl⟩ := inb_of g (by decide)
  have ea : aShe (nI s) t n = if t = -1 then 1 else if 40 < n then -2 else if n < 0 then -14 else 1 := by unfold aShe; rw [g, hi]; rfl
  have cs : (nI s).toNatClampNeg = s := nI_clamp (by omega)
  have bds : vp_in (nI s) 4 := vp_in_nI (by omega) (by omega)
  have hc : s = 0 ∨ s = 1 ∨ s = 2 ∨ s = 3 := by omega
  refine ⟨fun t3 => ?_, fun t3 => ?_⟩
  · have t3 : t = -1 := t3
    rw [if_pos t3] at ea
    have es : sShe h (nI s) t n = hSet h s none := by unfold sShe; rw [if_pos ea, if_pos t3, cs]
    have hb := r_shBecome zi (k := k - 1) (by omega) I w hs t 0
    have hn := hC_set hI (s := s) (t := t) (n := 0) (o := none) ⟨fun _ => t3, fun a b e => by cases e⟩
    have hf := fr_set (I := I) hs (t := t) (n := 0)
    refine ⟨bds, ?_⟩
    rw [cs]
    clear bds cs g ea
    rcases hc with rfl | rfl | rfl | rfl
    all_goals
      refine ⟨_, _, (by omega : k - 1 < k), hb, am_elim ?_⟩
      exact ⟨congrArg (fun y => some (Value.int y)) (by unfold aShe; rw [hi, if_pos t3]; rfl), rfl, by rw [es]; exact hn, hf⟩
  have t3 : ¬ t = -1 := t3
  rw [if_neg t3] at ea
  refine ⟨fun n1 => ?_, fun n1 => ?_⟩
  · exact bad (by rw [ea]; exact if_pos n1)
  have n1 : ¬ 40 < n := n1
  rw [if_neg n1] at ea
  refine ⟨fun n2 => ?_, fun n2 => ?_⟩
  · have n2 : n < 0 := n2
    rw [if_pos n2] at ea
    have e3 : sShe h (nI s) t n = h := if_neg (by rw [ea]; decide)
    exact ⟨congrArg (fun y => some (Value.int y)) ea.symm, rfl, by rw [e3]; exact hI, am_fr.refl⟩
  have n2 : ¬ n < 0 := n2
  rw [if_neg n2] at ea
  obtain ⟨a, ha, ta, ta2⟩ := ish_of hi t3
  obtain ⟨b, hb40, nb, nb2⟩ := n40_of n1 n2
  have es : sShe h (nI s) t n = hSet h s (some (a, b)) := by unfold sShe; rw [if_pos ea, if_neg t3, cs, ta2, nb2]
  have hb := r_shBecome zi (k := k - 1) (by omega) I w hs t n
  have hn := hC_set hI (s := s) (t := t) (n := n) (o := some (a, b)) ⟨fun e => (by cases e), fun a' b' e => (by cases e; exact ⟨ta, nb, hb40⟩)⟩
  have hf := fr_set (I := I) hs (t := t) (n := n)
  refine ⟨bds, ?_⟩
  rw [cs]
  clear bds cs g
  rcases hc with rfl | rfl | rfl | rfl
  all_goals
    refine ⟨_, _, (by omega : k - 1 < k), hb, am_elim ?_⟩
    exact ⟨congrArg (fun y => some (Value.int y)) ea.symm, rfl, by rw [es]; exact hn, hf⟩
