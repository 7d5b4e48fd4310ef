/-! least, all, together of both -/
theorem lA_of {V : Tx} {r : Nat} {σ : St} {x : Nat} (h : mA V r σ = some x) : lA V r σ = alN (vv V r σ) x (hN (sN σ)) := (bsN_spec _).2.1 x h
theorem lA_no {V : Tx} {r : Nat} {σ : St} (h : mA V r σ = none) : lA V r σ = [] := ((bsN_spec _).2.2.1 h).1
theorem mA_N {V : Tx} {r : Nat} {σ : St} {x : Nat} (h : mA V r σ = some x) : ¬ sN σ = 0 := fun e => by
  unfold mA hN at h
  rw [if_pos e] at h
  cases h
theorem lA_pos {V : Tx} {r : Nat} {σ : St} {x : Nat} (h : mA V r σ = some x) : 0 < (lA V r σ).length := by
  obtain ⟨u, h1, h2⟩ := ls_mem h
  rw [lA_of h, al_len]
  have key : ∀ n, u < n → 0 < cnt (fun u => decide (vv V r σ u = some x)) n := by
    intro n
    induction n with
    | zero => intro hu; omega
    | succ n ih =>
      intro hu
      rw [cnt]
      by_cases e : u = n
      · rw [← e, decide_eq_true h2]
        show 0 < _ + 1
        omega
      · have := ih (by omega)
        omega
  exact key _ h1
theorem lA_lt {V : Tx} {r : Nat} {σ : St} (zw : wf σ) {i : Nat} (hi : i < (lA V r σ).length) : (lA V r σ).getD i 0 < 512 := by
  cases h : mA V r σ with
  | none => rw [lA_no h] at hi; exact absurd hi (by show ¬ i < 0; omega)
  | some x =>
    rw [lA_of h] at hi ⊢
    obtain ⟨u, h1, h2, -⟩ := al_mem _ i hi
    have := hN_le zw.1
    omega
theorem lA_len {V : Tx} {r : Nat} {σ : St} (zw : wf σ) : (lA V r σ).length ≤ 256 := Nat.le_trans (bs_len _) (hN_le zw.1)
theorem mA_le {V : Tx} {r : Nat} {σ : St} (zw : wf σ) {x : Nat} (h : mA V r σ = some x) : x ≤ 359964 := ls_le zw h
theorem al_get {v : Nat → Option Nat} {x t : Nat} (ht : v t = some x) : ∀ H, t < H → (alN v x H).getD (alN v x t).length 0 = 2 * t
  | 0, h => absurd h (by omega)
  | H + 1, h => by
    rw [alN]
    by_cases e : t = H
    · subst e
      rw [decide_eq_true ht, cond_true, List.getD_eq_getElem?_getD, List.getElem?_append_right (Nat.le_refl _), Nat.sub_self]
      rfl
    · have ih := al_get ht H (by omega)
      have hl : (alN v x t).length < (alN v x H).length := by
        have key : ∀ n, t < n → (alN v x t).length < (alN v x n).length := by
          intro n
          induction n with
          | zero => intro q; omega
          | succ n ih =>
            intro q
            by_cases en : t = n
            · subst en
              rw [alN, decide_eq_true ht, cond_true, List.length_append]
              exact Nat.lt_succ_self _
            · have := ih (by omega)
              rw [alN]
              cases decide (v n = some x) with
              | true => rw [cond_true, List.length_append]; exact Nat.lt_of_lt_of_le this (Nat.le_add_right _ _)
              | false => exact this
        exact key H (by omega)
      cases decide (v H = some x) with
      | false => exact ih
      | true =>
        rw [cond_true, List.getD_eq_getElem?_getD, List.getElem?_append_left hl, ← List.getD_eq_getElem?_getD]
        exact ih
def aLeast (V : Tx) (r : Nat) (σ : St) : Int32 := if sN σ = 0 then -5 else enc (mA V r σ)
theorem c_least {E : am_E} (zi : am_inj E) {k : Nat} (hk : 6 ≤ k) {σ : St} (zw : wf σ) {I : am_I} (zC : CS I σ) (w : Int64) {T r : Nat} {V : Tx} (zL : LC I T r V) :
    am_Ret E k Y_TC_least [.ref 0] I w (fun q I' w' => q = some (.int (aLeast V r σ)) ∧ w' = w ∧ am_fs 25 [7] cBs I I') := by
  refine am_intro (pv_TC_least E k) (by decide) zi ?_ rfl rfl ?_
  · rintro _ _ _ ⟨rfl, -⟩; rfl
  intro S hS
  have h9 := zw.1
  unfold aLeast at hS
  refine am_at hS (fun _ => false) 60 0 ?_
  refine ⟨fun h => ?_, fun h => ?_⟩
  · have h2 : I 1 0 = nI 0 := h
    rw [zC.1.1, neq (by omega) (by decide)] at h2
    rw [if_pos h2]
    exact ⟨rfl, rfl, am_fs.refl⟩
  · have h2 : ¬ I 1 0 = nI 0 := h
    rw [zC.1.1, neq (by omega) (by decide)] at h2
    rw [if_neg h2]
    refine ⟨_, _, (by omega : k - 1 < k), r_search zi (by omega) zw zC w zL, ?_⟩
    rintro _ J w1 ⟨rfl, rfl, hW, hB, fJ⟩
    exact ⟨congrArg (fun z => some (Value.int z)) hB.1, rfl, fJ⟩
theorem m_least {E : am_E} (zi : am_inj E) {k : Nat} (hk : 46 ≤ k) {σ : St} (zw : wf σ) {I : am_I} (zR : RS I σ) (w : Int64) {T r : Nat} {V : Tx} (zL : RL I T r V) :
    am_Ret E k Y_MO_least [.ref 88] I w (fun q I' w' => q = some (.int (aLeast V r σ)) ∧ am_fs 88 rdFs fAl I I') := by
  refine am_intro (pv_MO_least E k) (by decide) zi ?_ rfl rfl ?_
  · rintro _ _ _ ⟨rfl, -⟩; rfl
  intro S hS
  have h9 := zw.1
  unfold aLeast at hS
  refine am_at hS (fun _ => false) 60 0 ?_
  refine ⟨fun h => ?_, fun h => ?_⟩
  · have h2 : I 88 9 = nI 0 := h
    rw [zR.1.1, neq (by omega) (by decide)] at h2
    rw [if_pos h2]
    exact ⟨rfl, am_fs.refl⟩
  · have h2 : ¬ I 88 9 = nI 0 := h
    rw [zR.1.1, neq (by omega) (by decide)] at h2
    rw [if_neg h2]
    refine ⟨_, _, (by omega : k - 1 < k), m_goesAll zi (by omega) zw zR w zL, ?_⟩
    rintro _ J w1 ⟨rfl, hA, fJ⟩
    exact ⟨rfl, fJ⟩
def aAll (V : Tx) (r : Nat) (σ : St) (i : Int32) : Int32 := if i = -1 then nI (lA V r σ).length else cond (inb i (lA V r σ).length) (nI ((lA V r σ).getD i.toNatClampNeg 0)) (-1)
theorem c_all {E : am_E} (zi : am_inj E) {k : Nat} (hk : 6 ≤ k) {σ : St} (zw : wf σ) {I : am_I} (zC : CS I σ) (w : Int64) {T r : Nat} {V : Tx} (zL : LC I T r V) (i : Int32) :
    am_Ret E k Y_TC_all [.ref 0, .int i] I w (fun q I' w' => q = some (.int (aAll V r σ i)) ∧ w' = w ∧ am_fs 25 [7] cBs I I') := by
  refine am_intro (pv_TC_all E k) (by decide) zi ?_ rfl rfl ?_
  · rintro _ _ _ ⟨rfl, -⟩; rfl
  intro S hS
  have h9 := zw.1
  have hl := lA_len (V := V) (r := r) zw
  unfold aAll at hS
  refine am_at hS (fun _ => false) 60 0 ?_
  refine ⟨_, _, (by omega : k - 1 < k), r_search zi (by omega) zw zC w zL, ?_⟩
  rintro _ J w1 ⟨rfl, rfl, hW, ⟨b1, b2, b3⟩, fJ⟩
  have b2' : J 76 4 = nI (lA V r σ).length := b2
  refine ⟨fun h => ?_, fun h => ?_⟩
  · rw [if_pos h]
    exact ⟨congrArg (fun z => some (Value.int z)) b2, rfl, fJ⟩
  rw [if_neg h]
  refine ⟨fun h21 => ?_, fun h21 => ?_⟩
  · rw [inb_ff1 h21]
    exact ⟨rfl, rfl, fJ⟩
  refine ⟨fun h32 => ?_, fun h32 => ?_⟩
  · rw [b2'] at h32
    have hin := inb_tt h21 h32 (by omega)
    obtain ⟨j, hj, rfl⟩ := inb_of hin (by omega)
    rw [hin]
    refine ⟨vp_in_nI (by omega) (by omega), ?_⟩
    rw [nI_clamp (by omega), b3 j hj]
    exact ⟨rfl, rfl, fJ⟩
  · rw [b2'] at h32
    rw [inb_ff2 h32 (by omega)]
    exact ⟨rfl, rfl, fJ⟩
theorem en_eq {V : Tx} {r : Nat} {σ : St} (zw : wf σ) {u x : Nat} (hx : x ≤ 359964) : (enc (vv V r σ u) = nI x) = (vv V r σ u = some x) := by
  apply propext
  cases h : vv V r σ u with
  | none => exact ⟨fun q => absurd q.symm (nI_ne1 (by omega)), fun q => by cases q⟩
  | some y =>
    have hy := vv_le zw h
    show nI y = nI x ↔ _
    rw [neq (by omega) (by omega)]
    exact ⟨fun q => by rw [q], fun q => by cases q; rfl⟩
theorem m_all {E : am_E} (zi : am_inj E) {k : Nat} (hk : 46 ≤ k) {σ : St} (zw : wf σ) {I : am_I} (zR : RS I σ) (w : Int64) {T r : Nat} {V : Tx} (zL : RL I T r V) (i : Int32) :
    am_Ret E k Y_MO_all [.ref 88, .int i] I w (fun q I' w' => q = some (.int (aAll V r σ i)) ∧ am_fs 88 rdFs fAl I I') := by
  refine am_intro (pv_MO_all E k) (by decide) zi ?_ rfl rfl ?_
  · rintro _ _ _ ⟨rfl, -⟩; rfl
  intro S hS
  have h9 := zw.1
  have hp2 := p2_le h9
  have h2H := hN_2 (N := sN σ)
  have hH := hN_le h9
  unfold aAll at hS
  refine am_at hS (fun t => Nat.beq t 10) 60 0 ?_
  refine ⟨_, _, (by omega : k - 1 < k), m_goesAll zi (by omega) zw zR w zL, ?_⟩
  rintro _ J w1 ⟨rfl, hA, fJ⟩
  have p1 : J 88 9 = nI (sN σ) := (RS_al fJ (Or.inl rfl) (by decide) (by decide) zR).1.1
  cases hm : mA V r σ with
  | none =>
    have el := lA_no hm
    refine am_at hS (fun t => Nat.beq t 57) 60 10 ?_
    have out : ∀ X4, S 57 [some (.ref 88), some (.int i), some (.int (-1)), some (.int 0), X4] [] J w1 := fun X4 => by
      refine am_at hS (fun t => false) 60 57 ?_
      rw [el]
      refine ⟨fun h => ?_, fun h => ?_⟩
      · rw [if_pos h]
        exact ⟨rfl, fJ⟩
      · rw [if_neg h]
        refine ⟨?_, fJ⟩
        cases hi : inb i 0 with
        | false => rfl
        | true => obtain ⟨j, hj, -⟩ := inb_of hi (by decide); omega
    exact ⟨fun _ => ⟨fun _ => out _, fun q => absurd rfl q⟩, fun _ => out _⟩
  | some x =>
    have el := lA_of hm
    have hx := mA_le zw hm
    have hN0 := mA_N hm
    have eH : 2 * hN (sN σ) = 2 ^ sN σ := by unfold pcN at h2H; rw [if_neg hN0] at h2H; exact h2H
    have loop := down (P := fun t => (∀ j, j < (alN (vv V r σ) x t).length → ¬ i = nI j) → S 10 [some (.ref 88), some (.int i), some (.int (nI x)), some (.int (nI (alN (vv V r σ) x t).length)), some (.int (nI (2 * t)))] [] J w1) (hN (sN σ)) ?z ?s
    case z =>
      intro hno
      have hl : (alN (vv V r σ) x (hN (sN σ))).length ≤ 256 := by rw [al_len]; exact Nat.le_trans (cnt_le _ _) hH
      refine am_at hS (fun t => Nat.beq t 10) 90 10 ?_
      refine ⟨fun q => absurd q (by rw [p1, nI_shl1 (by omega), nlt (by omega) (by omega)]; omega), fun _ => ?_⟩
      rw [el]
      refine ⟨fun h => ?_, fun h => ?_⟩
      · rw [if_pos h]
        exact ⟨rfl, fJ⟩
      · rw [if_neg h]
        refine ⟨?_, fJ⟩
        cases hi : inb i (alN (vv V r σ) x (hN (sN σ))).length with
        | false => rfl
        | true =>
          obtain ⟨j, hj, ej⟩ := inb_of hi (by omega)
          exact absurd ej (hno j hj)
    case s =>
      intro t ht hn hno
      have hl : (alN (vv V r σ) x t).length ≤ t := by rw [al_len]; exact cnt_le _ _
      refine am_at hS (fun t => Nat.beq t 10) 90 10 ?_
      refine ⟨fun _ => ?_, fun q => absurd (by rw [p1, nI_shl1 (by omega), nlt (by omega) (by omega)]; omega) q⟩
      refine ⟨fun q => absurd q (nI_ne1 (by omega)), fun _ => ?_⟩
      refine ⟨vp_in_nI (by omega) (by omega), ?_⟩
      rw [nI_clamp (by omega), hA t ht]
      refine ⟨fun h => ?_, fun h => ?_⟩
      · rw [en_eq zw hx] at h
        refine ⟨fun h42 => ?_, fun h42 => ?_⟩
        · have hi : inb i (lA V r σ).length = true := by
            rw [← h42, inb_nI (by omega), el, decide_eq_true_eq]
            have := al_get h (hN (sN σ)) ht
            have key : ∀ n, t < n → (alN (vv V r σ) x t).length < (alN (vv V r σ) x n).length := by
              intro n
              induction n with
              | zero => intro q; omega
              | succ n ih =>
                intro q
                by_cases en : t = n
                · subst en
                  rw [alN, decide_eq_true h, cond_true, List.length_append]
                  exact Nat.lt_succ_self _
                · have := ih (by omega)
                  rw [alN]
                  cases decide (vv V r σ n = some x) with
                  | true => rw [cond_true, List.length_append]; exact Nat.lt_of_lt_of_le this (Nat.le_add_right _ _)
                  | false => exact this
            exact key _ ht
          refine ⟨?_, fJ⟩
          rw [if_neg (fun z => nI_ne1 (a := (alN (vv V r σ) x t).length) (by omega) (h42.trans z)), hi, cond_true, ← h42, nI_clamp (by omega), el, al_get h _ ht]
        · have e1 : (alN (vv V r σ) x (t + 1)).length = (alN (vv V r σ) x t).length + 1 := by rw [alN, decide_eq_true h, cond_true, List.length_append]; rfl
          have hq := hn (fun j hj q => by
            by_cases ej : j = (alN (vv V r σ) x t).length
            · rw [ej] at q; exact h42 q.symm
            · exact hno j (by omega) q)
          rw [e1, show 2 * (t + 1) = 2 * t + 2 by omega, ← nI_add (2 * t), ← nI_1] at hq
          exact hq
      · rw [en_eq zw hx] at h
        have e1 : (alN (vv V r σ) x (t + 1)).length = (alN (vv V r σ) x t).length := by rw [alN, decide_eq_false h]; rfl
        have hq := hn (fun j hj => hno j (by omega))
        rw [e1, show 2 * (t + 1) = 2 * t + 2 by omega, ← nI_add] at hq
        exact hq
    exact loop 0 (Nat.zero_le _) (fun j hj => absurd hj (by show ¬ j < 0; omega))
def tg (m a b : Nat) : Bool := m.testBit a == m.testBit b
def tgN (V : Tx) (r : Nat) (σ : St) (a b : Nat) : Nat := cnt (fun i => tg ((lA V r σ).getD i 0) a b) (lA V r σ).length
theorem r_times {E : am_E} (zi : am_inj E) {k : Nat} (hk : 1 ≤ k) {m : Option Nat} {l : List Nat} (hl : l.length ≤ 256) (hb : ∀ i, i < l.length → l.getD i 0 < 512) {I : am_I} (hB : BS I (m, l)) (w : Int64) {a b : Nat} (ha : a < 9) (hb9 : b < 9) :
    am_Ret E k Y_Best_timesTogether [.ref 76, .int (nI a), .int (nI b)] I w (am_eq (some (.int (nI (cnt (fun i => tg (l.getD i 0) a b) l.length)))) I w) := by
  refine am_intro (pv_Best_timesTogether E k) (by decide) zi ?_ rfl rfl ?_
  · rintro _ _ _ ⟨rfl, -⟩; rfl
  intro S hS
  obtain ⟨b1, b2, b3⟩ := hB
  have b2' : I 76 4 = nI l.length := b2
  have loop := down (P := fun t => S 5 [some (.ref 76), some (.int (nI a)), some (.int (nI b)), some (.int (nI (cnt (fun i => tg (l.getD i 0) a b) t))), some (.int (nI t))] [] I w) l.length ?z ?s
  case z =>
    refine am_at hS (fun t => Nat.beq t 5) 60 5 ?_
    exact ⟨fun q => absurd q (by rw [b2']; exact nI_nlt (Nat.le_refl _) (by omega)), fun _ => ⟨rfl, rfl, rfl⟩⟩
  case s =>
    intro t ht hn
    refine am_at hS (fun t => Nat.beq t 5) 60 5 ?_
    refine ⟨fun _ => ?_, fun q => absurd (by rw [b2']; exact nI_lt ht (by omega)) q⟩
    refine ⟨vp_in_nI (by omega) (by omega), ?_⟩
    rw [nI_clamp (by omega), b3 t ht]
    refine ⟨_, _, (by omega : k - 1 < k), r_isTogether zi (hb t ht) ha hb9 I w, am_elim ?_⟩
    refine ⟨fun h => ?_, fun h => ?_⟩
    · rw [bi_eq0] at h
      rw [← cnt_f (Q := fun i => tg (l.getD i 0) a b) h, ← nI_1] at hn
      exact hn
    · rw [bi_eq0, Bool.not_eq_false] at h
      rw [← cnt_t (Q := fun i => tg (l.getD i 0) a b) h, ← nI_1] at hn
      exact hn
  exact am_at hS (fun t => Nat.beq t 5) 60 0 (loop 0 (Nat.zero_le _))
def aTog (V : Tx) (r : Nat) (σ : St) (a b : Int32) : Int32 := cond (two a b (sN σ)) (if mA V r σ = none then -3 else if tgN V r σ a.toNatClampNeg b.toNatClampNeg = (lA V r σ).length then 2 else if 0 < tgN V r σ a.toNatClampNeg b.toNatClampNeg then 1 else 0) (-2)
theorem size_0 {V : Tx} {r : Nat} {σ : St} (zw : wf σ) : (nI (lA V r σ).length = 0) = (mA V r σ = none) := by
  have hl := lA_len (V := V) (r := r) zw
  apply propext
  constructor
  · intro h
    have h2 : nI (lA V r σ).length = nI 0 := h
    rw [neq (by omega) (by decide)] at h2
    cases hm : mA V r σ with
    | none => rfl
    | some x => have := lA_pos hm; omega
  · intro h
    rw [lA_no h]
    rfl
theorem c_together {E : am_E} (zi : am_inj E) {k : Nat} (hk : 6 ≤ k) {σ : St} (zw : wf σ) {I : am_I} (zC : CS I σ) (w : Int64) {T r : Nat} {V : Tx} (zL : LC I T r V) (a b : Int32) :
    am_Ret E k Y_TC_together [.ref 0, .int a, .int b] I w (fun q I' w' => q = some (.int (aTog V r σ a b)) ∧ w' = w ∧ am_fs 25 [7] cBs I I') := by
  refine am_intro (pv_TC_together E k) (by decide) zi ?_ rfl rfl ?_
  · rintro _ _ _ ⟨rfl, -⟩; rfl
  intro S hS
  have h9 := zw.1
  have hl := lA_len (V := V) (r := r) zw
  unfold aTog at hS
  refine am_at hS (fun _ => false) 60 0 ?_
  refine ⟨_, _, (by omega : k - 1 < k), r_hasTwo zi (by omega) (by omega) a b I w zC.1.1, am_elim ?_⟩
  refine ⟨fun h => ?_, fun h => ?_⟩
  · rw [bi_eq0] at h
    rw [h]
    exact ⟨rfl, rfl, am_fs.refl⟩
  rw [bi_eq0, Bool.not_eq_false] at h
  obtain ⟨x, y, hx, hy, hxy, rfl, rfl⟩ := two_of h (by omega)
  rw [h, cond_true, nI_clamp (by omega), nI_clamp (by omega)]
  refine ⟨_, _, (by omega : k - 1 < k), r_search zi (by omega) zw zC w zL, ?_⟩
  rintro _ J w1 ⟨rfl, rfl, hW, hB, fJ⟩
  have b2' : J 76 4 = nI (lA V r σ).length := hB.2.1
  have htn : tgN V r σ x y ≤ (lA V r σ).length := cnt_le _ _
  refine ⟨fun h2 => ?_, fun h2 => ?_⟩
  · rw [b2', size_0 zw] at h2
    rw [if_pos h2]
    exact ⟨rfl, rfl, fJ⟩
  rw [b2', size_0 zw] at h2
  rw [if_neg h2]
  refine ⟨_, _, (by omega : k - 1 < k), r_times zi (by omega) hl (fun i hi => lA_lt zw hi) hB w1 (a := x) (b := y) (by omega) (by omega), am_elim ?_⟩
  show _ ∧ _
  refine ⟨fun h3 => ?_, fun h3 => ?_⟩
  · have h4 : nI (tgN V r σ x y) = J 76 4 := h3
    rw [b2', neq (by omega) (by omega)] at h4
    rw [if_pos h4]
    exact ⟨rfl, rfl, fJ⟩
  have h4 : ¬ nI (tgN V r σ x y) = J 76 4 := h3
  rw [b2', neq (by omega) (by omega)] at h4
  rw [if_neg h4]
  refine ⟨fun h5 => ?_, fun h5 => ?_⟩
  · have h6 : nI 0 < nI (tgN V r σ x y) := h5
    rw [nlt (by omega) (by omega)] at h6
    rw [if_pos h6]
    exact ⟨rfl, rfl, fJ⟩
  · have h6 : ¬ nI 0 < nI (tgN V r σ x y) := h5
    rw [nlt (by omega) (by omega)] at h6
    rw [if_neg h6]
    exact ⟨rfl, rfl, fJ⟩
theorem m_togethers {E : am_E} (zi : am_inj E) {k : Nat} {σ : St} (zw : wf σ) {I : am_I} (zR : RS I σ) (w : Int64) {r : Nat} {V : Tx} (hA : AS I V r σ (hN (sN σ))) {x : Nat} (hm : mA V r σ = some x) {a b : Nat} (ha : a < 9) (hb : b < 9) :
    am_Ret E k Y_MO_togethers [.ref 88, .int (nI x), .int (nI a), .int (nI b)] I w (am_eq (some (.int (nI (tgN V r σ a b)))) I w) := by
  refine am_intro (pv_MO_togethers E k) (by decide) zi ?_ rfl rfl ?_
  · rintro _ _ _ ⟨rfl, -⟩; rfl
  intro S hS
  have h9 := zw.1
  have hp2 := p2_le h9
  have h2H := hN_2 (N := sN σ)
  have hH := hN_le h9
  have hx := mA_le zw hm
  have hN0 := mA_N hm
  have eH : 2 * hN (sN σ) = 2 ^ sN σ := by unfold pcN at h2H; rw [if_neg hN0] at h2H; exact h2H
  have e0 : tgN V r σ a b = cnt (fun u => decide (vv V r σ u = some x) && tg (2 * u) a b) (hN (sN σ)) := by
    unfold tgN
    rw [lA_of hm]
    exact cnt_al (Q := fun m => tg m a b) _
  rw [e0] at hS
  have p1 : I 88 9 = nI (sN σ) := zR.1.1
  have loop := down (P := fun t => S 6 [some (.ref 88), some (.int (nI x)), some (.int (nI a)), some (.int (nI b)), some (.int (nI (cnt (fun u => decide (vv V r σ u = some x) && tg (2 * u) a b) t))), some (.int (nI (2 * t)))] [] I w) (hN (sN σ)) ?z ?s
  case z =>
    refine am_at hS (fun t => Nat.beq t 6) 90 6 ?_
    exact ⟨fun q => absurd q (by rw [p1, nI_shl1 (by omega), nlt (by omega) (by omega)]; omega), fun _ => ⟨rfl, rfl, rfl⟩⟩
  case s =>
    intro t ht hn
    rw [show 2 * (t + 1) = 2 * t + 2 by omega, ← nI_add (2 * t)] at hn
    refine am_at hS (fun t => Nat.beq t 6) 90 6 ?_
    refine ⟨fun _ => ?_, fun q => absurd (by rw [p1, nI_shl1 (by omega), nlt (by omega) (by omega)]; omega) q⟩
    refine ⟨vp_in_nI (by omega) (by omega), ?_⟩
    rw [nI_clamp (by omega), hA t ht]
    refine ⟨fun h => ?_, fun h => ?_⟩
    · rw [en_eq zw hx] at h
      have b1 : (nI (2 * t) >>> (nI a &&& 31)) &&& 1 = bi ((2 * t).testBit a) := nI_bit (by omega) (by omega)
      have b2 : (nI (2 * t) >>> (nI b &&& 31)) &&& 1 = bi ((2 * t).testBit b) := nI_bit (by omega) (by omega)
      refine ⟨fun h2 => ?_, fun h2 => ?_⟩
      · have ht : tg (2 * t) a b = true := by
          unfold tg
          rw [b1, b2] at h2
          revert h2
          cases (2 * t).testBit a <;> cases (2 * t).testBit b <;> simp [bi]
        rw [← cnt_t (Q := fun u => decide (vv V r σ u = some x) && tg (2 * u) a b) (by rw [decide_eq_true h]; exact ht)] at hn
        exact hn
      · have ht : tg (2 * t) a b = false := by
          unfold tg
          rw [b1, b2] at h2
          revert h2
          cases (2 * t).testBit a <;> cases (2 * t).testBit b <;> simp [bi]
        rw [← cnt_f (Q := fun u => decide (vv V r σ u = some x) && tg (2 * u) a b) (by rw [ht, Bool.and_false])] at hn
        rw [← Int32.add_zero (nI (cnt _ t))] at hn
        exact hn
    · rw [en_eq zw hx] at h
      rw [← cnt_f (Q := fun u => decide (vv V r σ u = some x) && tg (2 * u) a b) (by rw [decide_eq_false h]; rfl)] at hn
      rw [← Int32.add_zero (nI (cnt _ t))] at hn
      exact hn
  exact am_at hS (fun t => Nat.beq t 6) 90 0 (loop 0 (Nat.zero_le _))
theorem m_alls {E : am_E} (zi : am_inj E) {k : Nat} {σ : St} (zw : wf σ) {I : am_I} (zR : RS I σ) (w : Int64) {r : Nat} {V : Tx} (hA : AS I V r σ (hN (sN σ))) {x : Nat} (hm : mA V r σ = some x) :
    am_Ret E k Y_MO_alls [.ref 88, .int (nI x)] I w (am_eq (some (.int (nI (lA V r σ).length))) I w) := by
  refine am_intro (pv_MO_alls E k) (by decide) zi ?_ rfl rfl ?_
  · rintro _ _ _ ⟨rfl, -⟩; rfl
  intro S hS
  have h9 := zw.1
  have hp2 := p2_le h9
  have h2H := hN_2 (N := sN σ)
  have hH := hN_le h9
  have hx := mA_le zw hm
  have hN0 := mA_N hm
  have eH : 2 * hN (sN σ) = 2 ^ sN σ := by unfold pcN at h2H; rw [if_neg hN0] at h2H; exact h2H
  rw [lA_of hm, al_len] at hS
  have p1 : I 88 9 = nI (sN σ) := zR.1.1
  have loop := down (P := fun t => S 4 [some (.ref 88), some (.int (nI x)), some (.int (nI (cnt (fun u => decide (vv V r σ u = some x)) t))), some (.int (nI (2 * t)))] [] I w) (hN (sN σ)) ?z ?s
  case z =>
    refine am_at hS (fun t => Nat.beq t 4) 90 4 ?_
    exact ⟨fun q => absurd q (by rw [p1, nI_shl1 (by omega), nlt (by omega) (by omega)]; omega), fun _ => ⟨rfl, rfl, rfl⟩⟩
  case s =>
    intro t ht hn
    rw [show 2 * (t + 1) = 2 * t + 2 by omega, ← nI_add (2 * t)] at hn
    refine am_at hS (fun t => Nat.beq t 4) 90 4 ?_
    refine ⟨fun _ => ?_, fun q => absurd (by rw [p1, nI_shl1 (by omega), nlt (by omega) (by omega)]; omega) q⟩
    refine ⟨vp_in_nI (by omega) (by omega), ?_⟩
    rw [nI_clamp (by omega), hA t ht]
    refine ⟨fun h => ?_, fun h => ?_⟩
    · rw [en_eq zw hx] at h
      rw [← cnt_t (Q := fun u => decide (vv V r σ u = some x)) (decide_eq_true h)] at hn
      exact hn
    · rw [en_eq zw hx] at h
      rw [← cnt_f (Q := fun u => decide (vv V r σ u = some x)) (decide_eq_false h)] at hn
      rw [← Int32.add_zero (nI (cnt _ t))] at hn
      exact hn
  exact am_at hS (fun t => Nat.beq t 4) 90 0 (loop 0 (Nat.zero_le _))
theorem m_together {E : am_E} (zi : am_inj E) {k : Nat} (hk : 46 ≤ k) {σ : St} (zw : wf σ) {I : am_I} (zR : RS I σ) (w : Int64) {T r : Nat} {V : Tx} (zL : RL I T r V) (a b : Int32) :
    am_Ret E k Y_MO_together [.ref 88, .int a, .int b] I w (fun q I' w' => q = some (.int (aTog V r σ a b)) ∧ am_fs 88 rdFs fAl I I') := by
  refine am_intro (pv_MO_together E k) (by decide) zi ?_ rfl rfl ?_
  · rintro _ _ _ ⟨rfl, -⟩; rfl
  intro S hS
  have h9 := zw.1
  have c1 := zR.1.1
  unfold aTog at hS
  refine am_at hS (fun _ => false) 90 0 ?_
  refine ⟨_, _, (by omega : k - 1 < k), r_isPerson zi I w (by omega) (by omega) c1 a, am_elim ?_⟩
  refine ⟨fun h5 => ?_, fun h5 => ?_⟩
  · rw [bi_eq0] at h5
    rw [show two a b (sN σ) = false by unfold two; rw [h5]; rfl]
    exact ⟨rfl, am_fs.refl⟩
  rw [bi_eq0, Bool.not_eq_false] at h5
  refine ⟨_, _, (by omega : k - 1 < k), r_isPerson zi I w (by omega) (by omega) c1 b, am_elim ?_⟩
  refine ⟨fun h13 => ?_, fun h13 => ?_⟩
  · rw [bi_eq0] at h13
    rw [show two a b (sN σ) = false by unfold two; rw [h13, Bool.false_and, Bool.and_false]]
    exact ⟨rfl, am_fs.refl⟩
  rw [bi_eq0, Bool.not_eq_false] at h13
  refine ⟨fun h18 => ?_, fun h18 => ?_⟩
  · rw [show two a b (sN σ) = false by unfold two; rw [h18, show (b == b) = true from beq_self_eq_true b, Bool.not_true, Bool.and_false, Bool.and_false]]
    exact ⟨rfl, am_fs.refl⟩
  have h : two a b (sN σ) = true := by unfold two; rw [h5, h13, beq_eq_false_iff_ne.mpr h18]; rfl
  obtain ⟨x, y, hx, hy, hxy, rfl, rfl⟩ := two_of h (by omega)
  rw [h, cond_true, nI_clamp (by omega), nI_clamp (by omega)]
  refine ⟨_, _, (by omega : k - 1 < k), m_goesAll zi (by omega) zw zR w zL, ?_⟩
  rintro _ J w1 ⟨rfl, hA, fJ⟩
  have zJ := RS_al fJ (Or.inl rfl) (by decide) (by decide) zR
  have hl := lA_len (V := V) (r := r) zw
  have htn : tgN V r σ x y ≤ (lA V r σ).length := cnt_le _ _
  cases hm : mA V r σ with
  | none =>
    rw [if_pos rfl]
    exact ⟨fun _ => ⟨rfl, fJ⟩, fun q => absurd rfl q⟩
  | some v =>
    have hv := mA_le zw hm
    have hpos := lA_pos hm
    rw [if_neg (fun q => by cases q)]
    refine ⟨fun q => absurd q (nI_ne1 (by omega)), fun _ => ?_⟩
    refine ⟨_, _, (by omega : k - 1 < k), m_togethers zi zw zJ w1 hA hm (by omega) (by omega), am_elim ?_⟩
    refine ⟨fun h4 => ?_, fun h4 => ?_⟩
    · have h6 : nI (tgN V r σ x y) = nI 0 := h4
      rw [neq (by omega) (by decide)] at h6
      rw [if_neg (by omega), if_neg (by omega)]
      exact ⟨rfl, fJ⟩
    have h6 : ¬ nI (tgN V r σ x y) = nI 0 := h4
    rw [neq (by omega) (by decide)] at h6
    refine ⟨_, _, (by omega : k - 1 < k), m_alls zi zw zJ w1 hA hm, am_elim ?_⟩
    refine ⟨fun h7 => ?_, fun h7 => ?_⟩
    · rw [neq (by omega) (by omega)] at h7
      rw [if_pos h7]
      exact ⟨rfl, fJ⟩
    · rw [neq (by omega) (by omega)] at h7
      rw [if_neg h7, if_pos (by omega)]
      exact ⟨rfl, fJ⟩

