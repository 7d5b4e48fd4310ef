/-! CAMPINGS: cost, move, camped: the class's -/
def cZ (I : am_I) (z : Cz) : Prop := I 0 11 = nI (zN z) ∧ ∀ c, c < zN z → cpO I (49 + 2 * c) (zK z c) (zA z c) ∧ I (49 + 2 * c) 4 = nI (zS z c)
theorem oB_c {c : Nat} (h : c < 10) : oB (49 + 2 * c) := by unfold oB; omega
def noC : Int64 := -4611686018427387904
def aCst (V : Tx) (r : Nat) (σ : St) (z : Cz) (x : Int32) : Int64 := cond (inb x (zN z)) (lN (jdg V r σ (zK z x.toNatClampNeg) (zA z x.toNatClampNeg))) noC
theorem c_cost {E : am_E} (zi : am_inj E) {k : Nat} (hk : 6 ≤ k) {σ : St} (zw : wf σ) {I : am_I} (zC : CS I σ) (w : Int64) {T r : Nat} {V : Tx} (zL : LC I T r V) {z : Cz} (hz : wfz z) (hZ : cZ I z) (x : Int32) :
    am_Ret E k Y_TC_cost [.ref 0, .int x] I w (fun q I' w' => q = some (.long (aCst V r σ z x)) ∧ w' = w ∧ am_fs 25 [7] [27, 28, 29] I I') := by
  refine am_intro (pv_TC_cost E k) (by decide) zi ?_ rfl rfl ?_
  · rintro _ _ _ ⟨rfl, -⟩; trivial
  intro S hS
  obtain ⟨hz1, -⟩ := hz
  unfold aCst at hS
  refine am_at hS (fun _ => false) 60 0 ?_
  refine ⟨_, _, (by omega : k - 1 < k), r_isCamping zi (by omega) x I w hZ.1, am_elim ?_⟩
  refine ⟨fun h => ?_, fun h => ?_⟩
  · rw [bi_eq0] at h
    rw [h]
    exact ⟨rfl, rfl, am_fs.refl⟩
  · rw [bi_eq0, Bool.not_eq_false] at h
    obtain ⟨c, hc, rfl⟩ := inb_of h (by omega)
    rw [h, cond_true, nI_clamp (by omega)]
    have hj := r_judged zi (k := k - 1) (by omega) zw zC w zL (oB_c (by omega)) (hZ.2 c hc).1
    refine ⟨vp_in_nI (by omega) (by omega), ?_⟩
    rw [nI_clamp (by omega)]
    have hc10 : c = 0 ∨ c = 1 ∨ c = 2 ∨ c = 3 ∨ c = 4 ∨ c = 5 ∨ c = 6 ∨ c = 7 ∨ c = 8 ∨ c = 9 := by omega
    rcases hc10 with rfl | rfl | rfl | rfl | rfl | rfl | rfl | rfl | rfl | rfl
    all_goals
      refine ⟨_, _, (by omega : k - 1 < k), hj, ?_⟩
      rintro _ F w1 ⟨rfl, rfl, fF⟩
      exact ⟨rfl, rfl, fF⟩
def zM (N : Nat) (a : Nat → Nat) (p v : Nat) (q : Nat) : Nat := if q < N then fup a p v q else 0
theorem zM_isc {N : Nat} {a : Nat → Nat} {p v : Nat} (h : ∀ q, isc (a q)) (hv : isc v) (q : Nat) : isc (zM N a p v q) := by
  unfold zM
  split
  · by_cases e : q = p
    · rw [e, fup_self]; exact hv
    · rw [fup_ne e]; exact h q
  · exact Or.inl (by decide)
theorem r_becomeMoved {E : am_E} (zi : am_inj E) {k : Nat} (hk : 1 ≤ k) {σ : St} (zw : wf σ) {I : am_I} (zC : CS I σ) (w : Int64) {o kd : Nat} {a : Nat → Nat} (ho : o = 49 ∨ o = 51 ∨ o = 53 ∨ o = 55 ∨ o = 57 ∨ o = 59 ∨ o = 61 ∨ o = 63 ∨ o = 65 ∨ o = 67) (hO : cpO I o kd a) {p v : Nat} (hp : p < sN σ) (hv : isc v) :
    am_Ret E k Y_Camping_becomeMoved [.ref 69, .ref o, .int (nI p), .int (nI v)] I w (fun q I' w' => q = none ∧ w' = w ∧ cpO I' 69 kd (zM (sN σ) a p v) ∧ am_fs 69 [3, 4] [70] I I') := by
  refine am_intro (pv_Camping_becomeMoved E k) (by decide) zi ?_ rfl rfl ?_
  · rintro _ _ _ ⟨rfl, -⟩; trivial
  intro S hS
  have h9 := zw.1
  have n69 : o ≠ 69 ∧ o ≠ 70 ∧ o + 1 ≠ 69 ∧ o + 1 ≠ 70 := by omega
  have oo : oB o := by unfold oB; omega
  have keep : ∀ J, am_fs 69 [3, 4] [70] I J → cpO J o kd a ∧ CS J σ := fun J fJ => by
    have e1 : J o = I o := fJ.1 o (by intro q; simp only [List.mem_cons, List.not_mem_nil, or_false] at q; omega) (by omega)
    have e2 : J (o + 1) = I (o + 1) := fJ.1 (o + 1) (by intro q; simp only [List.mem_cons, List.not_mem_nil, or_false] at q; omega) (by omega)
    exact ⟨cpO_of hO (by rw [e1]) (by rw [e1]) (fun p _ => by rw [e2]), CS_of (fun q hq => fJ.1 q (by rintro hz; simp only [List.mem_cons, List.not_mem_nil, or_false] at hz hq; omega) (by rintro rfl; exact absurd hq (by decide))) zC⟩
  have hcall := fun J (fJ : am_fs 69 [3, 4] [70] I J) q (hq : q < 9) => r_campOf zi (k := k - 1) w oo (keep J fJ).1 hq
  have hp1 := zC.1.1
  obtain ⟨g1, g2, g3, -⟩ := id hO
  rcases ho with rfl | rfl | rfl | rfl | rfl | rfl | rfl | rfl | rfl | rfl
  all_goals
    refine am_at hS (fun t => Nat.beq t 22) 60 0 ?_
    have fin : am_fs 69 [3, 4] [70] I (am_up (am_up I 69 3 (nI kd)) 69 4 (nI (sN σ))) := am_fs.upo (am_fs.upo am_fs.refl (by decide)) (by decide)
    have e10 : am_up I 69 3 (nI kd) 1 0 = nI (sN σ) := by rw [am_up_ne (by decide)]; exact hp1
    refine (fun hd => (by rw [← e10, ← g3] at hd; exact hd)) (down (P := fun q => ∀ J, am_fs 69 [3, 4] [70] I J → J 69 3 = nI kd → J 69 4 = nI (sN σ) → (∀ x, x < q → J 70 x = nI (a x)) → S 22 [some (.ref 69), some (.ref _), some (.int (nI p)), some (.int (nI v)), some (.int (nI q))] [] J w) (sN σ) ?_ ?_ 0 (Nat.zero_le _) (am_up (am_up I 69 3 (nI kd)) 69 4 (nI (sN σ))) fin (by rw [am_sne (by decide), am_seq]) am_seq (fun x hx => absurd hx (Nat.not_lt_zero _)))
    · intro J fJ j3 j4 jx
      refine am_at hS (fun t => Nat.beq t 22) 60 22 ?_
      refine ⟨fun q => absurd q (by rw [j4]; exact nI_nlt (Nat.le_refl _) (by omega)), fun _ => ?_⟩
      refine ⟨vp_in_nI (by omega) (by omega), ?_⟩
      rw [nI_clamp (by omega)]
      refine ⟨rfl, rfl, ⟨g1, zM_isc g2 hv, (by rw [am_up_ne (by decide)]; exact j3), sN σ, h9, (by rw [am_up_ne (by decide)]; exact j4), fun x hx => ⟨fun hlt => ?_, fun hge => ?_⟩⟩, am_fs.up fJ (by decide) (by decide)⟩
      · unfold zM
        rw [if_pos hlt]
        by_cases e : x = p
        · rw [e, fup_self]; exact am_seq
        · rw [fup_ne e]
          exact (am_sne e).trans (jx x hlt)
      · unfold zM
        rw [if_neg (by omega)]
    · intro q hq hn J fJ j3 j4 jx
      refine am_at hS (fun t => Nat.beq t 22) 60 22 ?_
      refine ⟨fun _ => ?_, fun h => absurd (show nI q < J 69 4 by rw [j4]; exact nI_lt hq (by omega)) h⟩
      refine ⟨_, _, (by omega : k - 1 < k), hcall J fJ q (by omega), am_elim ?_⟩
      refine ⟨vp_in_nI (by omega) (by omega), ?_⟩
      rw [nI_clamp (by omega)]
      have h2 := hn (am_up J 70 q (nI (a q))) (am_fs.up fJ (by decide) (by decide)) (by rw [am_up_ne (by decide)]; exact j3) (by rw [am_up_ne (by decide)]; exact j4) (fun x hx => by
        by_cases e : x = q
        · rw [e, am_seq]
        · rw [am_sne e]; exact jx x (by omega))
      rw [← nI_1] at h2
      exact h2
def aMov (V : Tx) (r : Nat) (σ : St) (z : Cz) (x y v : Int32) : Int64 := cond (inb x (zN z) && (inb y (sN σ) && icp v)) (lN (jdg V r σ (zK z x.toNatClampNeg) (zM (sN σ) (zA z x.toNatClampNeg) y.toNatClampNeg v.toNatClampNeg)) - lN (jdg V r σ (zK z x.toNatClampNeg) (zA z x.toNatClampNeg))) noC
theorem icp_of {v : Int32} (h : icp v = true) : ∃ x, isc x ∧ v = nI x := by
  unfold icp at h
  rw [Bool.or_eq_true] at h
  rcases h with h | h
  · obtain ⟨x, hx, e⟩ := inb_of h (by decide)
    exact ⟨x, Or.inl hx, e⟩
  · exact ⟨9, Or.inr rfl, eq_of_beq h⟩
def fMv : List Nat := [27, 28, 29, 69, 70]
theorem c_move {E : am_E} (zi : am_inj E) {k : Nat} (hk : 6 ≤ k) {σ : St} (zw : wf σ) {I : am_I} (zC : CS I σ) (w : Int64) {T r : Nat} {V : Tx} (zL : LC I T r V) {z : Cz} (hz : wfz z) (hZ : cZ I z) (x y v : Int32) :
    am_Ret E k Y_TC_move [.ref 0, .int x, .int y, .int v] I w (fun q I' w' => q = some (.long (aMov V r σ z x y v)) ∧ w' = w ∧ am_fs 25 [7] fMv I I') := by
  refine am_intro (pv_TC_move E k) (by decide) zi ?_ rfl rfl ?_
  · rintro _ _ _ ⟨rfl, -⟩; trivial
  intro S hS
  have h9 := zw.1
  obtain ⟨hz1, hz2⟩ := hz
  unfold aMov at hS
  refine am_at hS (fun _ => false) 60 0 ?_
  refine ⟨_, _, (by omega : k - 1 < k), r_isCamping zi (by omega) x I w hZ.1, am_elim ?_⟩
  refine ⟨fun h => ?_, fun h => ?_⟩
  · rw [bi_eq0] at h
    rw [h]
    exact ⟨rfl, rfl, am_fs.refl⟩
  rw [bi_eq0, Bool.not_eq_false] at h
  rw [h, Bool.true_and] at hS ⊢
  refine ⟨_, _, (by omega : k - 1 < k), r_hasP zi (by omega) y I w zC.1.1, am_elim ?_⟩
  refine ⟨fun g => ?_, fun g => ?_⟩
  · rw [bi_eq0] at g
    rw [g]
    exact ⟨rfl, rfl, am_fs.refl⟩
  rw [bi_eq0, Bool.not_eq_false] at g
  rw [g, Bool.true_and] at hS ⊢
  refine ⟨_, _, (by omega : k - 1 < k), r_isCamp zi v I w, am_elim ?_⟩
  refine ⟨fun j => ?_, fun j => ?_⟩
  · rw [bi_eq0] at j
    rw [j]
    exact ⟨rfl, rfl, am_fs.refl⟩
  rw [bi_eq0, Bool.not_eq_false] at j
  rw [j, cond_true] at hS ⊢
  obtain ⟨c, hc, rfl⟩ := inb_of h (by omega)
  obtain ⟨p, hp, rfl⟩ := inb_of g (by omega)
  obtain ⟨u, hu, rfl⟩ := icp_of j
  have hu10 := isc_lt hu
  rw [nI_clamp (show c < 2 ^ 31 by omega), nI_clamp (show p < 2 ^ 31 by omega), nI_clamp (show u < 2 ^ 31 by omega)] at hS ⊢
  have hb := r_becomeMoved zi (k := k - 1) (by omega) zw zC w (o := 49 + 2 * c) (by omega) (hZ.2 c hc).1 hp hu
  have rest : ∀ J, cpO J 69 (zK z c) (zM (sN σ) (zA z c) p u) → am_fs 69 [3, 4] [70] I J → am_fs 25 [7] fMv I J ∧ CS J σ ∧ LC J T r V ∧ cpO J (49 + 2 * c) (zK z c) (zA z c) := fun J hJ fJ => by
    have f2 : am_fs 25 [7] fMv I J := ⟨fun q h1 h2 => fJ.1 q (fun q2 => h1 (by simp only [List.mem_cons, List.not_mem_nil, or_false] at q2; rw [q2]; decide)) (fun q2 => h1 (by rw [q2]; decide)), fun j _ => by rw [fJ.1 25 (by decide) (by decide)]⟩
    refine ⟨f2, CS_of (fun q hq => fJ.1 q (by rintro hz; simp only [List.mem_cons, List.not_mem_nil, or_false] at hz hq; omega) (by rintro rfl; exact absurd hq (by decide))) zC, ?_, ?_⟩
    · obtain ⟨l1, l2, l3, l4, l5⟩ := zL
      refine ⟨by rw [fJ.1 25 (by decide) (by decide)]; exact l1, by rw [fJ.1 25 (by decide) (by decide)]; exact l2, l3, l4, fun x hx => ?_⟩
      obtain ⟨n, h, t⟩ := l5 x hx
      refine ⟨n, h, ?_⟩
      rw [fJ.1 (30 + 2 * x) (by intro q; simp only [List.mem_cons, List.not_mem_nil, or_false] at q; omega) (by omega), fJ.1 (31 + 2 * x) (by intro q; simp only [List.mem_cons, List.not_mem_nil, or_false] at q; omega) (by omega)]
      exact t
    · have e1 : J (49 + 2 * c) = I (49 + 2 * c) := fJ.1 _ (by intro q; simp only [List.mem_cons, List.not_mem_nil, or_false] at q; omega) (by omega)
      have e2 : J (49 + 2 * c + 1) = I (49 + 2 * c + 1) := fJ.1 _ (by intro q; simp only [List.mem_cons, List.not_mem_nil, or_false] at q; omega) (by omega)
      exact cpO_of (hZ.2 c hc).1 (by rw [e1]) (by rw [e1]) (fun p _ => by rw [e2])
  have rest2 : ∀ J F, cpO J (49 + 2 * c) (zK z c) (zA z c) → CS J σ → LC J T r V → am_fs 25 [7] [27, 28, 29] J F → CS F σ ∧ LC F T r V ∧ cpO F (49 + 2 * c) (zK z c) (zA z c) := fun J F hJ zJ lJ fF => by
    refine ⟨CS_bs (fF.mono (fun _ h => h) (by decide)) zJ, ?_, ?_⟩
    · obtain ⟨l1, l2, l3, l4, l5⟩ := lJ
      refine ⟨by rw [fF.2 2 (by decide)]; exact l1, by rw [fF.2 3 (by decide)]; exact l2, l3, l4, fun x hx => ?_⟩
      obtain ⟨n, h, t⟩ := l5 x hx
      refine ⟨n, h, ?_⟩
      rw [fF.1 (30 + 2 * x) (by intro q; simp only [List.mem_cons, List.not_mem_nil, or_false] at q; omega) (by omega), fF.1 (31 + 2 * x) (by intro q; simp only [List.mem_cons, List.not_mem_nil, or_false] at q; omega) (by omega)]
      exact t
    · have e1 : F (49 + 2 * c) = J (49 + 2 * c) := fF.1 _ (by intro q; simp only [List.mem_cons, List.not_mem_nil, or_false] at q; omega) (by omega)
      have e2 : F (49 + 2 * c + 1) = J (49 + 2 * c + 1) := fF.1 _ (by intro q; simp only [List.mem_cons, List.not_mem_nil, or_false] at q; omega) (by omega)
      exact cpO_of hJ (by rw [e1]) (by rw [e1]) (fun p _ => by rw [e2])
  have hj69 := fun J (zJ : CS J σ) (lJ : LC J T r V) (hJ : cpO J 69 (zK z c) (zM (sN σ) (zA z c) p u)) => r_judged zi (k := k - 1) (by omega) zw zJ w lJ (by unfold oB; omega) hJ
  have hjc := fun J (zJ : CS J σ) (lJ : LC J T r V) (hJ : cpO J (49 + 2 * c) (zK z c) (zA z c)) => r_judged zi (k := k - 1) (by omega) zw zJ w lJ (oB_c (by omega)) hJ
  refine ⟨vp_in_nI (by omega) (by omega), ?_⟩
  rw [nI_clamp (by omega)]
  have bdc : vp_in (nI c) 10 := vp_in_nI (by omega) (by omega)
  have clc : (nI c).toNatClampNeg = c := nI_clamp (by omega)
  have hc10 : c = 0 ∨ c = 1 ∨ c = 2 ∨ c = 3 ∨ c = 4 ∨ c = 5 ∨ c = 6 ∨ c = 7 ∨ c = 8 ∨ c = 9 := by omega
  rcases hc10 with rfl | rfl | rfl | rfl | rfl | rfl | rfl | rfl | rfl | rfl
  all_goals
    refine ⟨_, _, (by omega : k - 1 < k), hb, ?_⟩
    rintro _ J w1 ⟨rfl, rfl, hJ, fJ⟩
    obtain ⟨r1, r2, r3, r4⟩ := rest J hJ fJ
    refine ⟨_, _, (by omega : k - 1 < k), hj69 J r2 r3 hJ, ?_⟩
    rintro _ F w2 ⟨rfl, rfl, fF⟩
    obtain ⟨s1, s2, s3⟩ := rest2 J F r4 r2 r3 fF
    refine ⟨bdc, ?_⟩
    rw [clc]
    refine ⟨_, _, (by omega : k - 1 < k), hjc F s1 s2 s3, ?_⟩
    rintro _ F2 w3 ⟨rfl, rfl, fF2⟩
    exact ⟨rfl, rfl, r1.trans ((fF.trans fF2).mono (fun _ h => h) (by decide))⟩
def aCmd (σ : St) (z : Cz) (x y : Int32) : Int32 := cond (inb x (zN z)) (if y = 0 then nI (zK z x.toNatClampNeg) else if y = 1 then am_room (zK z x.toNatClampNeg) else if y = 2 then nI (usd σ (zA z x.toNatClampNeg)) else if y = 3 then nI (wrc σ (zA z x.toNatClampNeg)) else if y = 4 then nI (cin σ (zA z x.toNatClampNeg) 9) else -2) (-2)
theorem c_camped {E : am_E} (zi : am_inj E) {k : Nat} (hk : 3 ≤ k) {σ : St} (zw : wf σ) {I : am_I} (zC : CS I σ) (w : Int64) {z : Cz} (hz : wfz z) (hZ : cZ I z) (x y : Int32) :
    am_Ret E k Y_TC_camped [.ref 0, .int x, .int y] I w (am_eq (some (.int (aCmd σ z x y))) I w) := by
  refine am_intro (pv_TC_camped E k) (by decide) zi ?_ rfl rfl ?_
  · rintro _ _ _ ⟨rfl, -⟩; rfl
  intro S hS
  obtain ⟨hz1, hz2⟩ := hz
  unfold aCmd at hS
  refine am_at hS (fun _ => false) 60 0 ?_
  refine ⟨_, _, (by omega : k - 1 < k), r_isCamping zi (by omega) x I w hZ.1, am_elim ?_⟩
  refine ⟨fun h => ?_, fun h => ?_⟩
  · rw [bi_eq0] at h
    rw [h]
    exact ⟨rfl, rfl, rfl⟩
  rw [bi_eq0, Bool.not_eq_false] at h
  obtain ⟨c, hc, rfl⟩ := inb_of h (by omega)
  rw [h, cond_true, nI_clamp (by omega)]
  have hO := (hZ.2 c hc).1
  have oo := oB_c (show c < 10 by omega)
  have h2_ := r_usedCamps zi (k := k - 1) (by omega) zw zC w oo hO
  have h3_ := r_wrongCount zi (k := k - 1) (by omega) zw zC w oo hO
  have h4_ := r_countIn zi (k := k - 1) (by omega) zw zC w oo hO (v := 9) (by decide)
  obtain ⟨g1, -, g3, -⟩ := hO
  refine ⟨vp_in_nI (by omega) (by omega), ?_⟩
  rw [nI_clamp (by omega)]
  obtain ⟨K, eK⟩ : ∃ K, K = zK z c := ⟨_, rfl⟩
  rw [← eK] at g1 g3 ⊢
  obtain ⟨a, ea⟩ : ∃ a, a = zA z c := ⟨_, rfl⟩
  rw [← ea] at h2_ h3_ h4_ ⊢
  have hc10 : c = 0 ∨ c = 1 ∨ c = 2 ∨ c = 3 ∨ c = 4 ∨ c = 5 ∨ c = 6 ∨ c = 7 ∨ c = 8 ∨ c = 9 := by omega
  clear eK ea
  have hb_ : vp_in (I (49 + 2 * c) 3) 6 := by rw [g3]; exact vp_in_nI g1 (by omega)
  have hr_ : am_room (I (49 + 2 * c) 3).toNatClampNeg = am_room K := by rw [g3, nI_clamp (by omega)]
  rcases hc10 with rfl | rfl | rfl | rfl | rfl | rfl | rfl | rfl | rfl | rfl
  all_goals
    refine ⟨fun q => ?_, fun q => ?_⟩
    · exact ⟨congrArg (fun y => some (Value.int y)) (g3.trans (if_pos q).symm), rfl, rfl⟩
    refine ⟨fun q1 => ?_, fun q1 => ?_⟩
    · refine ⟨hb_, ?_⟩
      exact ⟨congrArg (fun y => some (Value.int y)) (hr_.trans ((if_neg q).trans (if_pos q1)).symm), rfl, rfl⟩
    refine ⟨fun q2 => ?_, fun q2 => ?_⟩
    · refine ⟨_, _, (by omega : k - 1 < k), h2_, am_elim ?_⟩
      exact ⟨congrArg (fun y => some (Value.int y)) (((if_neg q).trans ((if_neg q1).trans (if_pos q2))).symm), rfl, rfl⟩
    refine ⟨fun q3 => ?_, fun q3 => ?_⟩
    · refine ⟨_, _, (by omega : k - 1 < k), h3_, am_elim ?_⟩
      exact ⟨congrArg (fun y => some (Value.int y)) (((if_neg q).trans ((if_neg q1).trans ((if_neg q2).trans (if_pos q3)))).symm), rfl, rfl⟩
    refine ⟨fun q4 => ?_, fun q4 => ?_⟩
    · refine ⟨_, _, (by omega : k - 1 < k), h4_, am_elim ?_⟩
      exact ⟨congrArg (fun y => some (Value.int y)) (((if_neg q).trans ((if_neg q1).trans ((if_neg q2).trans ((if_neg q3).trans (if_pos q4))))).symm), rfl, rfl⟩
    exact ⟨congrArg (fun y => some (Value.int y)) (((if_neg q).trans ((if_neg q1).trans ((if_neg q2).trans ((if_neg q3).trans (if_neg q4))))).symm), rfl, rfl⟩
