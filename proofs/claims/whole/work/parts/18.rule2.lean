/-! THE RULE as the class runs it: whole texts -/
def run1 (e : Nat → Int32) (t : Int32) (s : List Int32) : List Int32 :=
  if t < 0 then (if isn t = true then nam e t :: s else if t = -8 then (-(hd0 s)) :: s.tail else if t = -7 then bi (decide (hd0 s = 0)) :: s.tail else joi t (hd0 s.tail) (hd0 s) :: s.tail.tail) else t :: s
theorem run1_len (e : Nat → Int32) (t : Int32) (s : List Int32) : (run1 e t s).length ≤ s.length + 1 := by
  unfold run1
  split
  · split
    · exact Nat.le_refl _
    · split
      · rw [List.length_cons, List.length_tail]; omega
      · split
        · rw [List.length_cons, List.length_tail]; omega
        · rw [List.length_cons, List.length_tail, List.length_tail]; omega
  · exact Nat.le_refl _
theorem r_runOne {E : am_E} (zi : am_inj E) {k : Nat} (hk : 1 ≤ k) {σ : St} (zw : wf σ) {I : am_I} (zC : CS I σ) {s : List Int32} (hs : s.length < 160) (zs : skI s I) (w : Int64) (t : Int32) {f : Nat} (hf : f < sM σ) :
    am_Ret E k Y_Law_runOne [.ref 25, .int t, .int (nI f)] I w (fun r I' w' => r = none ∧ w' = w ∧ skI (run1 (env σ f) t s) I' ∧ am_fs 25 [7] [29] I I') := by
  refine am_intro (pv_Law_runOne E k) (by decide) zi ?_ rfl rfl ?_
  · rintro _ _ _ ⟨rfl, -⟩; trivial
  intro S hS
  unfold run1 at hS
  refine am_at hS (fun _ => false) 160 0 ?_
  refine ⟨fun h1 => ?_, fun h1 => ?_⟩
  · rw [if_pos h1]
    refine ⟨_, _, (by omega : k - 1 < k), r_isName zi t I w, am_elim ?_⟩
    refine ⟨fun h16 => ?_, fun h16 => ?_⟩
    · rw [bi_eq0] at h16
      rw [if_neg (by rw [h16]; exact Bool.false_ne_true)]
      refine ⟨fun h35 => ?_, fun h35 => ?_⟩
      · rw [if_pos h35]
        refine ⟨_, _, (by omega : k - 1 < k), r_pop zi (Nat.le_of_lt hs) zs w, ?_⟩
        rintro _ I1 w1 ⟨rfl, rfl, z1, f1⟩
        refine ⟨_, _, (by omega : k - 1 < k), r_push zi (by rw [List.length_tail]; omega) z1 w1 _, ?_⟩
        rintro _ I2 w2 ⟨rfl, rfl, z2, f2⟩
        exact ⟨rfl, rfl, z2, f1.trans f2⟩
      · rw [if_neg h35]
        refine ⟨fun h53 => ?_, fun h53 => ?_⟩
        · rw [if_pos h53]
          refine ⟨_, _, (by omega : k - 1 < k), r_pop zi (Nat.le_of_lt hs) zs w, ?_⟩
          rintro _ I1 w1 ⟨rfl, rfl, z1, f1⟩
          refine ⟨fun h61 => ?_, fun h61 => ?_⟩
          · refine ⟨_, _, (by omega : k - 1 < k), r_push zi (by rw [List.length_tail]; omega) z1 w1 _, ?_⟩
            rintro _ I2 w2 ⟨rfl, rfl, z2, f2⟩
            exact ⟨rfl, rfl, by rw [decide_eq_true h61]; exact z2, f1.trans f2⟩
          · refine ⟨_, _, (by omega : k - 1 < k), r_push zi (by rw [List.length_tail]; omega) z1 w1 _, ?_⟩
            rintro _ I2 w2 ⟨rfl, rfl, z2, f2⟩
            exact ⟨rfl, rfl, by rw [decide_eq_false h61]; exact z2, f1.trans f2⟩
        · rw [if_neg h53]
          refine ⟨_, _, (by omega : k - 1 < k), r_pop zi (Nat.le_of_lt hs) zs w, ?_⟩
          rintro _ I1 w1 ⟨rfl, rfl, z1, f1⟩
          refine ⟨_, _, (by omega : k - 1 < k), r_pop zi (by rw [List.length_tail]; omega) z1 w1, ?_⟩
          rintro _ I2 w2 ⟨rfl, rfl, z2, f2⟩
          refine ⟨_, _, (by omega : k - 1 < k), r_joined zi t _ _ I2 w2, am_elim ?_⟩
          refine ⟨_, _, (by omega : k - 1 < k), r_push zi (by rw [List.length_tail, List.length_tail]; omega) z2 w2 _, ?_⟩
          rintro _ I3 w3 ⟨rfl, rfl, z3, f3⟩
          exact ⟨rfl, rfl, z3, (f1.trans f2).trans f3⟩
    · rw [bi_eq0, Bool.not_eq_false] at h16
      rw [if_pos h16]
      refine ⟨_, _, (by omega : k - 1 < k), r_named zi zw zC w hf t, am_elim ?_⟩
      refine ⟨_, _, (by omega : k - 1 < k), r_push zi hs zs w _, ?_⟩
      rintro _ I2 w2 ⟨rfl, rfl, z2, f2⟩
      exact ⟨rfl, rfl, z2, f2⟩
  · rw [if_neg h1]
    refine ⟨_, _, (by omega : k - 1 < k), r_push zi hs zs w _, ?_⟩
    rintro _ I2 w2 ⟨rfl, rfl, z2, f2⟩
    exact ⟨rfl, rfl, z2, f2⟩
def runF (e c : Nat → Int32) (a : Nat) : Nat → List Int32
  | 0 => []
  | n + 1 => run1 e (c (a + n)) (runF e c a n)
theorem runF_len (e c : Nat → Int32) (a : Nat) : ∀ n, (runF e c a n).length ≤ n
  | 0 => Nat.le_refl _
  | n + 1 => by
    have h1 := run1_len e (c (a + n)) (runF e c a n)
    have h2 := runF_len e c a n
    rw [runF]
    omega
theorem runF_congr {e c d : Nat → Int32} {a : Nat} : ∀ (n : Nat), (∀ i, i < n → c (a + i) = d (a + i)) → runF e c a n = runF e d a n
  | 0, _ => rfl
  | n + 1, h => by rw [runF, runF, runF_congr n (fun i hi => h i (by omega)), h n (by omega)]
theorem r_run {E : am_E} (zi : am_inj E) {k : Nat} (hk : 2 ≤ k) {σ : St} (zw : wf σ) {I : am_I} (zC : CS I σ) (w : Int64) {o a b : Nat} (ho : am_arr 0 o = some 160) (ho1 : ¬ o = 25) (ho2 : ¬ o = 29) (hab : a ≤ b) (hb : b ≤ 160) {f : Nat} (hf : f < sM σ) :
    am_Ret E k Y_Law_run [.ref 25, .ref o, .int (nI a), .int (nI b), .int (nI f)] I w (fun r I' w' => r = some (.int (hd0 (runF (env σ f) (I o) a (b - a)))) ∧ w' = w ∧ am_fs 25 [7] [29] I I') := by
  refine am_intro (pv_Law_run E k) (by decide) zi ?_ rfl rfl ?_
  · rintro _ _ _ ⟨rfl, -⟩; rfl
  intro S hS
  have loop := down (P := fun i => ∀ J, am_fs 25 [7] [29] I J → skI (runF (env σ f) (I o) a i) J → S 8 [some (.ref 25), some (.ref o), some (.int (nI a)), some (.int (nI b)), some (.int (nI f)), some (.int (nI (a + i)))] [] J w) (b - a) ?z ?s
  case z =>
    intro J hJ zs
    refine am_at hS (fun t => Nat.beq t 8) 80 8 ?_
    refine ⟨fun q => absurd q (nI_nlt (by omega) (by omega)), fun _ => ?_⟩
    refine ⟨_, _, (by omega : k - 1 < k), r_pop zi (Nat.le_trans (runF_len _ _ _ _) (by omega)) zs w, ?_⟩
    rintro _ I1 w1 ⟨rfl, rfl, z1, f1⟩
    exact ⟨rfl, rfl, hJ.trans f1⟩
  case s =>
    intro i hi hn J hJ zs
    refine am_at hS (fun t => Nat.beq t 8) 80 8 ?_
    refine ⟨fun _ => ?_, fun q => absurd (nI_lt (by omega) (by omega)) q⟩
    show (match am_arr 0 o with
      | some n => _
      | none => False)
    rw [ho]
    refine ⟨vp_in_nI (by omega) (by omega), ?_⟩
    rw [nI_clamp (by omega), hJ.1 o (by simpa using ho2) ho1]
    refine ⟨_, _, (by omega : k - 1 < k), r_runOne zi (by omega) zw (CS_fs hJ zC) (Nat.lt_of_le_of_lt (runF_len _ _ _ _) (by omega)) zs w _ hf, ?_⟩
    rintro _ I1 w1 ⟨rfl, rfl, z1, f1⟩
    have hgo := hn I1 (hJ.trans f1) z1
    rw [show nI (a + (i + 1)) = nI (a + i) + 1 from (nI_1 _).symm] at hgo
    exact hgo
  refine am_at hS (fun t => Nat.beq t 8) 80 0 ?_
  refine loop 0 (Nat.zero_le _) _ (am_fs.upo am_fs.refl (by decide)) ⟨?_, trivial⟩
  rw [am_up_fup, fup_self]
  rfl
/-- a COST is within 0 .. 9999 -/
def cst (v : Int32) : Nat := (min 9999 (max 0 v.toInt)).toNat
theorem cst_le (v : Int32) : cst v ≤ 9999 := by unfold cst; omega
theorem cst_eq (v : Int32) : (if 0 < (if v < 9999 then v else 9999) then (if v < 9999 then v else 9999) else 0) = nI (cst v) := by
  apply Int32.toInt_inj.mp
  have e9 : (9999 : Int32).toInt = 9999 := rfl
  have e0 : (0 : Int32).toInt = 0 := rfl
  rw [nI_toInt (by have := cst_le v; omega)]
  unfold cst
  by_cases h : v < 9999
  · rw [if_pos h]
    rw [i_lt, e9] at h
    by_cases h2 : 0 < v
    · rw [if_pos h2]
      rw [i_lt, e0] at h2
      omega
    · rw [if_neg h2]
      rw [i_lt, e0] at h2
      omega
  · rw [if_neg h, if_pos (by decide)]
    rw [i_lt, e9] at h
    omega
/-- of each TEXT its two values -/
abbrev Tx : Type := Nat → ((Nat → Int32) → Int32) × ((Nat → Int32) → Int32)
def LC (I : am_I) (T r : Nat) (V : Tx) : Prop := I 25 2 = nI T ∧ I 25 3 = nI r ∧ T ≤ 6 ∧ r < T ∧ ∀ x, x < T → ∃ n h, I (30 + 2 * x) 1 = nI n ∧ I (30 + 2 * x) 2 = nI h ∧ h ≤ n ∧ n ≤ 160 ∧ ∀ e, hd0 (runF e (I (31 + 2 * x)) 0 h) = (V x).1 e ∧ hd0 (runF e (I (31 + 2 * x)) h (n - h)) = (V x).2 e
theorem r_costOf {E : am_E} (zi : am_inj E) {k : Nat} (hk : 3 ≤ k) {σ : St} (zw : wf σ) {I : am_I} (zC : CS I σ) (w : Int64) {T r : Nat} {V : Tx} (zL : LC I T r V) {f : Nat} (hf : f < sM σ) :
    am_Ret E k Y_Law_costOf [.ref 25, .int (nI f)] I w (fun q I' w' => q = some (.int (nI (cst ((V r).1 (env σ f))))) ∧ w' = w ∧ am_fs 25 [7] [29] I I') := by
  refine am_intro (pv_Law_costOf E k) (by decide) zi ?_ rfl rfl ?_
  · rintro _ _ _ ⟨rfl, -⟩; rfl
  intro S hS
  obtain ⟨l1, l2, l3, l4, l5⟩ := zL
  obtain ⟨n, h, t1, t2, t3, t4, t5⟩ := l5 r l4
  have hv := (t5 (env σ f)).1
  rw [← hv] at hS
  refine am_at hS (fun _ => false) 160 0 ?_
  have hr : r = 0 ∨ r = 1 ∨ r = 2 ∨ r = 3 ∨ r = 4 ∨ r = 5 := by omega
  refine ⟨by rw [l2]; exact vp_in_nI (by omega) (by omega), ?_⟩
  rw [l2, nI_clamp (by omega)]
  have t6 : I (am_el 3 r) 2 = nI h := t2
  rcases hr with rfl | rfl | rfl | rfl | rfl | rfl
  all_goals
    refine ⟨_, _, (by omega : k - 1 < k), (by rw [t6]; exact r_run zi (by omega) zw zC w (a := 0) rfl (by decide) (by decide) (by omega) (by omega) hf), ?_⟩
    rintro _ I1 w1 ⟨rfl, rfl, f1⟩
    refine ⟨by omega, ?_⟩
    refine ⟨by omega, ?_⟩
    refine ⟨?_, rfl, f1⟩
    rw [cst_eq]
    rfl

