/-! BEHIND THE CONSTRUCTORS BOTH HOLD THE SAME -/
def splC (b : Nat → Nat) (f e i : Nat) : Bool := decide (e - f = am_tl.getD i 0) && (List.range (am_tl.getD i 0)).all (fun j => decide (b (f + j) = wl i j))
theorem splC_eq {b : Nat → Nat} {f e i : Nat} : splB b f e i = splC b f e i := by
  cases h : splC b f e i with
  | true =>
    unfold splC at h
    rw [Bool.and_eq_true, decide_eq_true_eq] at h
    exact splB_t ⟨h.1, fun j hj => of_decide_eq_true (List.all_eq_true.mp h.2 j (List.mem_range.mpr hj))⟩
  | false =>
    refine splB_f (fun q => ?_)
    have : splC b f e i = true := by
      unfold splC
      rw [Bool.and_eq_true, decide_eq_true_eq]
      exact ⟨q.1, List.all_eq_true.mpr fun j hj => decide_eq_true (q.2 j (List.mem_range.mp hj))⟩
    rw [this] at h
    cases h
def wcC (b : Nat → Nat) (f e : Nat) : Nat → Int32
  | 0 => -2
  | d + 1 => cond (splC b f e (10 - d)) (wcd (10 - d)) (wcC b f e d)
theorem wcC_eq {b : Nat → Nat} {f e : Nat} : ∀ d, wco b f e d = wcC b f e d
  | 0 => rfl
  | d + 1 => by rw [wco, wcC, splC_eq, wcC_eq d]
def tcC (n : Nat) (b : Nat → Nat) (f e : Nat) : Int32 := if n ≤ f then -1 else cond (isL n b f) (wcC b f e 11) (cond (isD n b f) (nco b f e) (sgc (b f)))
theorem tcC_eq {n : Nat} {b : Nat → Nat} {i : Nat} : tkc n b i = tcC n b (tpl n b i) (tps n b (i + 1)) := by
  unfold tkc tco tcC
  rw [wcC_eq]
def bz (i : Nat) : Nat := ([99, 111, 115, 116, 32, 115, 116, 114, 101, 110, 103, 116, 104, 32, 59, 32, 108, 101, 116, 32, 110, 111, 116, 32, 102, 105, 120, 101, 100, 32, 59, 32] : List Nat).getD i 0
set_option maxRecDepth 100000 in
theorem bz_tk : tcC 32 bz (tpl 32 bz 0) (tps 32 bz 1) = -3 ∧ tcC 32 bz (tpl 32 bz 1) (tps 32 bz 2) = -9 ∧ tcC 32 bz (tpl 32 bz 2) (tps 32 bz 3) = -59 ∧ tcC 32 bz (tpl 32 bz 3) (tps 32 bz 4) = -4 ∧ tcC 32 bz (tpl 32 bz 4) (tps 32 bz 5) = -7 ∧ tcC 32 bz (tpl 32 bz 5) (tps 32 bz 6) = -12 ∧ tcC 32 bz (tpl 32 bz 6) (tps 32 bz 7) = -59 ∧ tcC 32 bz (tpl 32 bz 7) (tps 32 bz 8) = -1 := by decide +kernel
theorem lop_no {T : Nat → Int32} {op : Int32 → Bool} {g : Nat → PR} {r : PR} (h : op (T (pAt r)) = false) : ∀ m, lop T op g m r = r
  | 0 => rfl
  | m + 1 => by
    show cond (pOk r && op (T (pAt r))) _ r = r
    rw [h, Bool.and_false]
    rfl
theorem pC_no {T : Nat → Int32} {one : Nat → PR} {i : Nat} {r : PR} (h : one i = r) (h2 : T (pAt r) = -59) : pC T one i = r := by
  have e1 : pT T one i = r := by
    unfold pT
    rw [h]
    exact lop_no (by rw [h2]; rfl) _
  have e2 : pS T one i = r := by
    unfold pS
    rw [e1]
    exact lop_no (by rw [h2]; rfl) _
  unfold pC
  rw [e2]
  exact lop_no (by rw [h2]; rfl) _
theorem pO_no {T : Nat → Int32} {nt : Nat → PR} {i : Nat} {r : PR} (h : nt i = r) (h2 : T (pAt r) = -59) : pO T nt i = r := by
  have e1 : pA T nt i = r := by
    unfold pA
    rw [h]
    exact lop_no (by rw [h2]; rfl) _
  unfold pO
  rw [e1]
  exact lop_no (by rw [h2]; rfl) _
theorem p1_nm {T : Nat → Int32} {dn : Option ((Nat → PR) × (Nat → PR))} {i : Nat} {c : Int32} (h : T i = c) (h1 : c < 0) (h2 : isn c = true) : p1 T dn i = (true, i + 1, [c], fun e => nam e c) := by
  unfold p1
  rw [h, if_neg (fun q => q h1), if_pos h2]
theorem ptx_0 {T : Nat → Int32} (t0 : T 0 = -3) (t1 : T 1 = -9) (t2 : T 2 = -59) (t3 : T 3 = -4) (t4 : T 4 = -7) (t5 : T 5 = -12) (t6 : T 6 = -59) (t7 : T 7 = -1) : (ptx T).1.1 = true ∧ (ptx T).2.1 = ([-9], [-12, -7]) := by
  have r1 : pO T (lev T 5).2 1 = (true, 2, [-9], fun e => nam e (-9)) := by
    refine pO_no ?_ t2
    show pN T (some (lev T 4)) (pC T (p1 T (some (lev T 4)))) 1 = _
    unfold pN
    rw [t1, if_neg (by decide)]
    exact pC_no (p1_nm t1 (by decide) (by decide)) t2
  have r2 : pO T (lev T 5).2 4 = (true, 6, [-12, -7], fun e => bi (decide (nam e (-12) = 0))) := by
    refine pO_no ?_ t6
    show pN T (some (lev T 4)) (pC T (p1 T (some (lev T 4)))) 4 = _
    unfold pN
    rw [t4, if_pos rfl]
    show pQ (pN T (some (lev T 3)) (pC T (p1 T (some (lev T 3)))) 5) = _
    unfold pN
    rw [t5, if_neg (by decide), pC_no (p1_nm t5 (by decide) (by decide)) t6]
    rfl
  have e : ptx T = ((true, 7), ([-9], [-12, -7]), (fun e => nam e (-9), fun e => bi (decide (nam e (-12) = 0)))) := by
    show cond (T 0 == -3) (ptx1 T (pO T (lev T 5).2 1)) (tF 0) = _
    rw [r1, show (T 0 == -3) = true by rw [t0]; rfl, cond_true]
    show cond (true && T 2 == -59) (cond (T 3 == -4) (ptx2 T _ (pO T (lev T 5).2 4)) (tF 3)) (tF 2) = _
    rw [r2, t2, t3]
    show cond (true && T 6 == -59) ((T 7 == -1, 7), _) (tF 6) = _
    rw [t6, t7]
    rfl
  rw [e]
  exact ⟨rfl, rfl⟩
theorem bz_x : (ptx (tkc 32 bz)).1.1 = true ∧ (ptx (tkc 32 bz)).2.1 = ([-9], [-12, -7]) ∧ stp (tkc 32 bz 7) := by
  obtain ⟨t0, t1, t2, t3, t4, t5, t6, t7⟩ := bz_tk
  obtain ⟨h1, h2⟩ := ptx_0 (T := tkc 32 bz) (by rw [tcC_eq]; exact t0) (by rw [tcC_eq]; exact t1) (by rw [tcC_eq]; exact t2) (by rw [tcC_eq]; exact t3) (by rw [tcC_eq]; exact t4) (by rw [tcC_eq]; exact t5) (by rw [tcC_eq]; exact t6) (by rw [tcC_eq]; exact t7)
  exact ⟨h1, h2, Or.inl (by rw [tcC_eq]; exact t7)⟩
theorem bz_t : wft 32 bz := ⟨by decide, by decide +kernel⟩
noncomputable def V0 : Tx := fun _ => (ptx (tkc 32 bz)).2.2
def s0 : St := ((0, 0), (fun _ => 0, fun _ => 0), (fun _ => 0, fun _ => 0, fun _ => 0), (fun _ => 0, fun _ => 0))
noncomputable def A0 : ab := (s0, (1, 0, V0), none, (0, fun _ => 0), (0, fun _ => 0, fun _ => 0, fun _ _ => 0), (fun _ => none, fun _ _ => 0))
theorem z0_W : iW A0 := by
  refine ⟨⟨Nat.zero_le _, ⟨fun f hf => absurd hf (Nat.not_lt_zero _), fun f hf => absurd hf (Nat.not_lt_zero _), fun f hf => absurd hf (Nat.not_lt_zero _), fun f _ hf => absurd hf (Nat.not_lt_zero _)⟩, fun p hp => absurd hp (Nat.not_lt_zero _)⟩, trivial, wft_0, ⟨Nat.zero_le _, fun c hc => absurd hc (Nat.not_lt_zero _)⟩, fun s _ t n e => (by cases e), ⟨by decide, by decide⟩⟩
theorem z0_L : LC ex 1 0 V0 := by
  refine ⟨by decide, by decide, by decide, by decide, fun x hx => ?_⟩
  have e : x = 0 := by omega
  subst e
  refine ⟨3, 1, by decide, by decide, by decide, by decide, fun e => ?_⟩
  obtain ⟨h1, h2, h3⟩ := bz_x
  obtain ⟨-, p2⟩ := (ptx_G (T := tkc 32 bz) h3).2 h1
  have hl : lay (ex 31) ([-9] ++ [-12, -7]) := by
    intro j v hj
    have hj3 : j = 0 ∨ j = 1 ∨ j = 2 := by
      have h4 := (List.getElem?_eq_some_iff.mp hj).1
      simp only [List.length_append, List.length_cons, List.length_nil] at h4
      omega
    rcases hj3 with rfl | rfl | rfl
    · cases hj; rfl
    · cases hj; rfl
    · cases hj; rfl
  have q1 := runF_1 (e := e) hl
  have q2 := runF_2 (e := e) hl
  have g1 := (p2 e []).1
  have g2 := (p2 e []).2
  rw [h2] at g1 g2
  have g1 : runL e [-9] [] = [(ptx (tkc 32 bz)).2.2.1 e] := g1
  have g2 : runL e [-12, -7] [] = [(ptx (tkc 32 bz)).2.2.2 e] := g2
  rw [g1] at q1
  rw [g2] at q2
  refine ⟨?_, ?_⟩
  · show hd0 (runF e (ex 31) 0 1) = _
    rw [show runF e (ex 31) 0 1 = _ from q1]
    rfl
  · show hd0 (runF e (ex 31) 1 2) = _
    rw [show runF e (ex 31) 1 2 = _ from q2]
    rfl
theorem z0_C : iC A0 ex := by
  refine ⟨⟨⟨by decide, fun p hp => absurd hp (Nat.not_lt_zero _)⟩, by decide, fun f hf => absurd hf (Nat.not_lt_zero _), fun a b _ _ => rfl⟩, z0_L, (by decide : ex 0 4 = 0), ⟨by decide, fun i hi => absurd hi (Nat.not_lt_zero _)⟩, ⟨by decide, fun c hc => absurd hc (Nat.not_lt_zero _)⟩, fun s hs => ⟨fun _ => ?_, fun t n e => (by cases e)⟩⟩
  rcases (show s = 0 ∨ s = 1 ∨ s = 2 ∨ s = 3 by omega) with rfl | rfl | rfl | rfl <;> decide
theorem z0_RL : RL ex 1 0 V0 := by
  refine ⟨by decide, by decide, by decide, by decide, fun x hx => ?_⟩
  have e : x = 0 := by omega
  subst e
  exact ⟨32, bz, bz_t, by decide, by decide +kernel, bz_x.1, rfl⟩
theorem z0_R : iR A0 ex := by
  refine ⟨⟨⟨by decide, fun p hp => absurd hp (Nat.not_lt_zero _)⟩, by decide, fun f hf => absurd hf (Nat.not_lt_zero _)⟩, z0_RL, (by decide : ex 88 45 = 0), ⟨by decide, fun i hi => absurd hi (Nat.not_lt_zero _)⟩, ⟨by decide, fun c hc => absurd hc (Nat.not_lt_zero _)⟩, fun s hs => ⟨fun _ => ?_, fun t n e => (by cases e)⟩⟩
  rcases (show s = 0 ∨ s = 1 ∨ s = 2 ∨ s = 3 by omega) with rfl | rfl | rfl | rfl <;> decide
