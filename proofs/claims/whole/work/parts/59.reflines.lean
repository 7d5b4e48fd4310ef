/-! the reference reads and tells a STREET -/
/-- place and wrong -/
def stI (s : Bool × Nat) (I : am_I) : am_I := am_up (am_up I 88 27 (nI s.2)) 88 28 (bi (!s.1))
theorem stI_27 {s : Bool × Nat} {I : am_I} : stI s I 88 27 = nI s.2 := by unfold stI; rw [am_sne (by decide), am_seq]
theorem stI_28 {s : Bool × Nat} {I : am_I} : stI s I 88 28 = bi (!s.1) := am_seq
theorem stI_ne {s : Bool × Nat} {I : am_I} {q : Nat} (h : q ≠ 88) : stI s I q = I q := by unfold stI; rw [am_up_ne h, am_up_ne h]
theorem stI_j {s : Bool × Nat} {I : am_I} {j : Nat} (h1 : j ≠ 27) (h2 : j ≠ 28) : stI s I 88 j = I 88 j := by unfold stI; rw [am_sne h2, am_sne h1]
theorem am_ext {I J : am_I} (h1 : ∀ q, q ≠ 88 → I q = J q) (h2 : ∀ j, I 88 j = J 88 j) : I = J := by
  funext q
  by_cases e : q = 88
  · rw [e]; funext j; exact h2 j
  · exact h1 q e
theorem stI_self {s : Bool × Nat} {I : am_I} (h1 : I 88 27 = nI s.2) (h2 : I 88 28 = bi (!s.1)) : stI s I = I := by
  unfold stI
  rw [am_up_id h1, am_up_id h2]
theorem stI_27u {s : Bool × Nat} {I : am_I} {v : Nat} : am_up (stI s I) 88 27 (nI v) = stI (s.1, v) I := am_ext (fun q hq => by rw [am_up_ne hq, stI_ne hq, stI_ne hq]) (fun j => by
  by_cases e : j = 27
  · rw [e, am_seq, stI_27]
  · rw [am_sne e]
    by_cases e2 : j = 28
    · rw [e2, stI_28, stI_28]
    · rw [stI_j e e2, stI_j e e2])
theorem stI_28u {s : Bool × Nat} {I : am_I} : am_up (stI s I) 88 28 1 = stI (false, s.2) I := am_ext (fun q hq => by rw [am_up_ne hq, stI_ne hq, stI_ne hq]) (fun j => by
  by_cases e : j = 28
  · rw [e, am_seq, stI_28]; rfl
  · rw [am_sne e]
    by_cases e2 : j = 27
    · rw [e2, stI_27, stI_27]
    · rw [stI_j e2 e, stI_j e2 e])
theorem stI_fs {s : Bool × Nat} {I : am_I} : am_fs 88 [27, 28] [] I (stI s I) := am_fs.upo (am_fs.upo am_fs.refl (by decide)) (by decide)
section RLN
variable {n : Nat} {b : Nat → Nat} {N : Nat} {I : am_I} {w : Int64} {s : Bool × Nat}
theorem tR_st (zT : tR I n b) : tR (stI s I) n b := ⟨by rw [stI_j (by decide) (by decide)]; exact zT.1, fun i hi => by rw [stI_ne (by decide)]; exact zT.2 i hi⟩
theorem r_byteHere {E : am_E} (zi : am_inj E) {k : Nat} (zt : wft n b) (zT : tR I n b) (hs : s.2 < 1000) : am_Ret E k Y_MO_byteHere [.ref 88] (stI s I) w (am_eq (some (.int (tat n b s.2))) (stI s I) w) := by
  refine am_intro (pv_MO_byteHere E k) (by decide) zi ?_ rfl rfl ?_
  · rintro _ _ _ ⟨rfl, -⟩; rfl
  intro S hS
  have h16 := zt.1
  obtain ⟨t1, t2⟩ := tR_st (s := s) zT
  refine am_at hS (fun _ => false) 60 0 ?_
  refine ⟨fun h8 => ?_, fun h8 => ?_⟩
  · rw [stI_27, t1, nlt (by omega) (by omega)] at h8
    refine ⟨by rw [stI_27]; exact vp_in_nI (by omega) (by omega), ?_⟩
    rw [stI_27, nI_clamp (by omega), t2 _ h8, tat_in h8]
    exact ⟨rfl, rfl, rfl⟩
  · rw [stI_27, t1, nlt (by omega) (by omega)] at h8
    rw [tat_out (by omega)]
    exact ⟨rfl, rfl, rfl⟩
theorem r_may {E : am_E} (zi : am_inj E) {k : Nat} (hk : 1 ≤ k) (zt : wft n b) (zT : tR I n b) (hs : s.2 < 1000) {c : Nat} (hc : c < 1000) : am_Ret E k Y_MO_may [.ref 88, .int (nI c)] (stI s I) w (am_eq (some (.int (bi (lsM n b c s).1))) (stI (lsM n b c s).2 I) w) := by
  refine am_intro (pv_MO_may E k) (by decide) zi ?_ rfl rfl ?_
  · rintro _ _ _ ⟨rfl, -⟩; exact bi_nr _
  intro S hS
  refine am_at hS (fun _ => false) 60 0 ?_
  have no : (s.1 && decide (s.2 < n ∧ b s.2 = c)) = false → some (Value.int 0) = some (.int (bi (lsM n b c s).1)) ∧ stI s I = stI (lsM n b c s).2 I ∧ w = w := fun h => by
    have e : lsM n b c s = (false, s) := by unfold lsM; rw [h]; rfl
    rw [e]
    exact ⟨rfl, rfl, rfl⟩
  refine ⟨fun h4 => ?_, fun h4 => ?_⟩
  · rw [stI_28, bi_eq0, Bool.not_eq_false'] at h4
    refine ⟨_, _, (by omega : k - 1 < k), r_byteHere zi zt zT hs, am_elim ?_⟩
    refine ⟨fun h => ?_, fun h => ?_⟩
    · rw [tat_eq zt (by omega)] at h
      have e : lsM n b c s = (true, true, s.2 + 1) := by unfold lsM; rw [h4, decide_eq_true h]; rfl
      rw [e]
      refine ⟨rfl, ?_, rfl⟩
      rw [stI_27, nI_1, stI_27u, h4]
    · rw [tat_eq zt (by omega)] at h
      exact no (by rw [decide_eq_false h, Bool.and_false])
  · rw [stI_28, bi_eq0, Bool.not_eq_false'] at h4
    exact no (by rw [Bool.eq_false_iff.mpr h4]; rfl)
theorem r_personHere {E : am_E} (zi : am_inj E) {k : Nat} (hk : 1 ≤ k) (zt : wft n b) (zT : tR I n b) (hs : s.2 < 1000) (hN : N ≤ 9) (h1 : I 88 9 = nI N) (but : Option Nat) (hbut : ∀ a, but = some a → a < 9) : am_Ret E k Y_MO_personHere [.ref 88, .int (enc but)] (stI s I) w (am_eq (some (.int (nI (lsP n b N but s).1))) (stI (lsP n b N but s).2 I) w) := by
  refine am_intro (pv_MO_personHere E k) (by decide) zi ?_ rfl rfl ?_
  · rintro _ _ _ ⟨rfl, -⟩; rfl
  intro S hS
  have h16 := zt.1
  have no : ∀ (X2 : Int32), (s.1 && (lsI n b N s.2 && !decide (but = some (b s.2 - 97)))) = false → S 44 [some (.ref 88), some (.int (enc but)), some (.int X2)] [] (stI s I) w := fun X2 h => by
    have e : lsP n b N but s = (0, false, s.2) := by unfold lsP; rw [h]; rfl
    refine am_at hS (fun _ => false) 60 44 ?_
    refine ⟨Or.inr rfl, ?_⟩
    rw [e]
    exact ⟨rfl, stI_28u, rfl⟩
  refine am_at hS (fun t => Nat.beq t 44) 90 0 ?_
  refine ⟨_, _, (by omega : k - 1 < k), r_byteHere zi zt zT hs, am_elim ?_⟩
  refine ⟨fun h => ?_, fun h => ?_⟩
  · rw [stI_28, bi_eq0, Bool.not_eq_false'] at h
    refine ⟨_, _, (by omega : k - 1 < k), r_byteHere zi zt zT hs, am_elim ?_⟩
    refine ⟨fun h20 => ?_, fun h20 => ?_⟩
    · rw [tat_m1 zt] at h20
      exact no _ (by rw [show lsI n b N s.2 = false from decide_eq_false (fun q => by omega), Bool.false_and, Bool.and_false])
    refine ⟨_, _, (by omega : k - 1 < k), (by rw [stI_j (by decide) (by decide), h1]; exact r_in zi _ w _ _ _), am_elim ?_⟩
    rw [inl_inb _ (by omega), inb_p zt hN]
    refine ⟨fun h36 => ?_, fun h36 => ?_⟩
    · rw [bi_eq0] at h36
      exact no _ (by rw [h36, Bool.false_and, Bool.and_false])
    rw [bi_eq0, Bool.not_eq_false] at h36
    have hP := of_decide_eq_true h36
    have en : (tat n b s.2 - 97 = enc but) = (but = some (b s.2 - 97)) := by
      rw [tat_P h36]
      apply propext
      cases but with
      | none => exact ⟨fun q => absurd q (nI_ne1 (by omega)), fun q => by cases q⟩
      | some a =>
        have ha := hbut a rfl
        show (nI (b s.2 - 97) = nI a) ↔ _
        rw [neq (by omega) (by omega)]
        exact ⟨fun q => by rw [q], fun q => by cases q; rfl⟩
    refine ⟨fun h41 => ?_, fun h41 => ?_⟩
    · rw [en] at h41
      exact no _ (by rw [decide_eq_true h41, Bool.not_true, Bool.and_false, Bool.and_false])
    · rw [en] at h41
      have e : lsP n b N but s = (b s.2 - 97, true, s.2 + 1) := by unfold lsP; rw [h, h36, decide_eq_false h41]; rfl
      rw [e]
      refine ⟨by rw [tat_P h36], ?_, rfl⟩
      rw [stI_27, nI_1, stI_27u, h]
  · rw [stI_28, bi_eq0, Bool.not_eq_false'] at h
    exact no _ (by rw [Bool.eq_false_iff.mpr h]; rfl)
theorem r_strengthHere {E : am_E} (zi : am_inj E) {k : Nat} (hk : 1 ≤ k) (zt : wft n b) (zT : tR I n b) (hs : s.2 < 990) : am_Ret E k Y_MO_strengthHere [.ref 88] (stI s I) w (am_eq (some (.int (nI (lsS n b s).1))) (stI (lsS n b s).2 I) w) := by
  refine am_intro (pv_MO_strengthHere E k) (by decide) zi ?_ rfl rfl ?_
  · rintro _ _ _ ⟨rfl, -⟩; rfl
  intro S hS
  have h16 := zt.1
  have no : (s.1 && isD n b s.2) = false → S 24 [some (.ref 88), none] [] (stI s I) w := fun h => by
    have e : lsS n b s = (0, false, s.2) := by unfold lsS; rw [h]; rfl
    refine am_at hS (fun _ => false) 60 24 ?_
    refine ⟨Or.inr rfl, ?_⟩
    rw [e]
    exact ⟨rfl, stI_28u, rfl⟩
  refine am_at hS (fun t => Nat.beq t 24 || Nat.beq t 79 || Nat.beq t 102) 90 0 ?_
  refine ⟨fun h => ?_, fun h => ?_⟩
  · rw [stI_28, bi_eq0, Bool.not_eq_false'] at h
    refine ⟨_, _, (by omega : k - 1 < k), r_byteHere zi zt zT (by omega), am_elim ?_⟩
    refine ⟨_, _, (by omega : k - 1 < k), r_in zi _ w _ _ _, am_elim ?_⟩
    rw [inl_D zt]
    refine ⟨fun h21 => ?_, fun h21 => ?_⟩
    · rw [bi_eq0] at h21
      exact no (by rw [h21, Bool.and_false])
    rw [bi_eq0, Bool.not_eq_false] at h21
    have d1 := of_decide_eq_true h21
    have ev : tat n b s.2 - 48 = nI (b s.2 - 48) := by rw [tat_in d1.1, show (48 : Int32) = nI 48 from rfl, pk_sub d1.2.1]
    have es1 : am_up (stI s I) 88 27 (stI s I 88 27 + 1) = stI (true, s.2 + 1) I := by rw [stI_27, nI_1, stI_27u, h]
    -- the end
    have last : ∀ v p, v < 2 ^ 31 → lsS n b s = (v, decide (0 < v), p) → S 102 [some (.ref 88), some (.int (nI v))] [] (stI (true, p) I) w := fun v p hv e => by
      refine am_at hS (fun _ => false) 60 102 ?_
      rw [e]
      refine ⟨fun q => ?_, fun q => ?_⟩
      · have q2 : nI v = nI 0 := q
        rw [neq (by omega) (by decide)] at q2
        refine ⟨Or.inr rfl, ?_⟩
        refine ⟨rfl, ?_, rfl⟩
        rw [stI_28u, decide_eq_false (by omega)]
      · have q2 : ¬ nI v = nI 0 := q
        rw [neq (by omega) (by decide)] at q2
        refine ⟨rfl, ?_, rfl⟩
        rw [decide_eq_true (by omega)]
    have two : isD n b (s.2 + 1) = true → (decide (48 < b s.2) || decide (48 < b (s.2 + 1))) = true → S 79 [some (.ref 88), some (.int (nI (b s.2 - 48)))] [] (stI (true, s.2 + 1) I) w := fun h1 h2 => by
      have d2 := of_decide_eq_true h1
      have e : lsS n b s = ((b s.2 - 48) * 10 + (b (s.2 + 1) - 48), true, s.2 + 2) := by unfold lsS; rw [h, h21, h1, h2]; rfl
      rw [Bool.or_eq_true, decide_eq_true_eq, decide_eq_true_eq] at h2
      refine am_at hS (fun t => Nat.beq t 102) 60 79 ?_
      refine ⟨_, _, (by omega : k - 1 < k), r_byteHere zi zt zT (s := (true, s.2 + 1)) (show s.2 + 1 < 1000 by omega), am_elim ?_⟩
      have ea : 10 * nI (b s.2 - 48) + tat n b (s.2 + 1) - 48 = nI ((b s.2 - 48) * 10 + (b (s.2 + 1) - 48)) := by
        rw [tat_in d2.1, show (48 : Int32) = nI 48 from rfl, show (10 : Int32) = nI 10 from rfl, pk_mul, nI_add, pk_sub (by omega)]
        congr 1
        omega
      have es2 : am_up (stI (true, s.2 + 1) I) 88 27 (stI (true, s.2 + 1) I 88 27 + 1) = stI (true, s.2 + 2) I := by rw [stI_27, nI_1, stI_27u]
      have hq := last ((b s.2 - 48) * 10 + (b (s.2 + 1) - 48)) (s.2 + 2) (by omega) (by rw [e, decide_eq_true (by omega)])
      rw [← ea, ← es2] at hq
      exact hq
    refine ⟨_, _, (by omega : k - 1 < k), r_byteHere zi zt zT (by omega), am_elim ?_⟩
    refine ⟨_, _, (by omega : k - 1 < k), (by rw [es1]; exact r_byteHere zi zt zT (s := (true, s.2 + 1)) (show s.2 + 1 < 1000 by omega)), am_elim ?_⟩
    refine ⟨_, _, (by omega : k - 1 < k), r_in zi _ w _ _ _, am_elim ?_⟩
    rw [inl_D zt, ev]
    have one : (isD n b (s.2 + 1) && (decide (48 < b s.2) || decide (48 < b (s.2 + 1)))) = false → S 102 [some (.ref 88), some (.int (nI (b s.2 - 48)))] [] (stI (true, s.2 + 1) I) w := fun h1 => by
      have e : lsS n b s = (b s.2 - 48, decide (48 < b s.2), s.2 + 1) := by unfold lsS; rw [h, h21, h1]; rfl
      refine last _ _ (by omega) ?_
      rw [e]
      congr 2
      apply decide_eq_decide.mpr
      omega
    refine ⟨fun h63 => ?_, fun h63 => ?_⟩
    · rw [bi_eq0] at h63
      exact one (by rw [show isD n b (s.2 + 1) = false from h63]; rfl)
    rw [bi_eq0, Bool.not_eq_false] at h63
    have h63' : isD n b (s.2 + 1) = true := h63
    have d2 := of_decide_eq_true h63'
    refine ⟨fun h67 => ?_, fun h67 => ?_⟩
    · have q : nI 0 < nI (b s.2 - 48) := h67
      rw [nlt (by omega) (by omega)] at q
      exact two h63' (by rw [decide_eq_true (by omega)]; rfl)
    have q : ¬ nI 0 < nI (b s.2 - 48) := h67
    rw [nlt (by omega) (by omega)] at q
    refine ⟨_, _, (by omega : k - 1 < k), r_byteHere zi zt zT (s := (true, s.2 + 1)) (show s.2 + 1 < 1000 by omega), am_elim ?_⟩
    refine ⟨fun h76 => ?_, fun h76 => ?_⟩
    · have q2 : nI 48 < tat n b (s.2 + 1) := h76
      rw [tat_gt zt (by decide)] at q2
      exact two h63' (by rw [decide_eq_true q2.2, Bool.or_true])
    · have q2 : ¬ nI 48 < tat n b (s.2 + 1) := h76
      rw [tat_gt zt (by decide)] at q2
      exact one (by rw [decide_eq_false (show ¬ 48 < b s.2 by omega), decide_eq_false (show ¬ 48 < b (s.2 + 1) by omega), Bool.or_false, Bool.and_false])
  · rw [stI_28, bi_eq0, Bool.not_eq_false'] at h
    exact no (by rw [Bool.eq_false_iff.mpr h]; rfl)
theorem lsP_pl {but : Option Nat} (hN : N ≤ 9) : (lsP n b N but s).2.2 ≤ s.2 + 1 ∧ (lsP n b N but s).1 < 9 := by
  unfold lsP
  cases hc : (s.1 && (lsI n b N s.2 && !decide (but = some (b s.2 - 97)))) with
  | false => exact ⟨Nat.le_succ _, by show (0 : Nat) < 9; decide⟩
  | true =>
    simp only [Bool.and_eq_true] at hc
    have := of_decide_eq_true hc.2.1
    exact ⟨Nat.le_refl _, by show b s.2 - 97 < 9; omega⟩
theorem lsM_pl {c : Nat} : (lsM n b c s).2.2 ≤ s.2 + 1 := by
  unfold lsM
  cases (s.1 && decide (s.2 < n ∧ b s.2 = c)) with
  | false => exact Nat.le_succ _
  | true => exact Nat.le_refl _
theorem lsS_pl : (lsS n b s).2.2 ≤ s.2 + 2 := by
  unfold lsS
  cases (s.1 && isD n b s.2) with
  | false => exact Nat.le_add_right _ _
  | true =>
    rw [cond_true]
    cases (isD n b (s.2 + 1) && (decide (48 < b s.2) || decide (48 < b (s.2 + 1)))) with
    | false => exact Nat.le_succ _
    | true => exact Nat.le_refl _
theorem lsG_pl : (lsG n b s).2.2 ≤ s.2 + 1 := by
  unfold lsG
  have h1 := lsM_pl (n := n) (b := b) (s := s) (c := 43)
  have h2 := lsM_pl (n := n) (b := b) (s := s) (c := 45)
  cases (lsM n b 43 s).1 with
  | true => exact h1
  | false =>
    rw [cond_false]
    cases (lsM n b 45 s).1 with
    | true => exact h2
    | false => exact Nat.le_succ _
end RLN
theorem RS_st {s : Bool × Nat} {I : am_I} {σ : St} (zR : RS I σ) : RS (stI s I) σ := RS_fs stI_fs (fun _ _ _ => List.not_mem_nil) (by decide) (by decide) zR
def fLn : List Nat := [94, 95, 96, 97, 98, 99]
theorem r_goesThrough {E : am_E} (zi : am_inj E) {k : Nat} (hk : 3 ≤ k) {n : Nat} {b : Nat → Nat} (zt : wft n b) {σ : St} (zw : wf σ) {I : am_I} (zR : RS I σ) (zT : tR I n b) (w : Int64) (tl : Bool) :
    am_Ret E k Y_MO_goesThrough [.ref 88, .int (bi tl)] I w (fun q I' w' => q = some (.int (nI (rnL n b tl 161 0 σ).2.2)) ∧ w' = w ∧ RS I' (rnL n b tl 161 0 σ).2.1 ∧ am_fs 88 [16, 27, 28] fLn I I' ∧ I' 88 27 = nI (rnL n b tl 161 0 σ).1.2 ∧ I' 88 28 = bi (!(rnL n b tl 161 0 σ).1.1)) := by
  refine am_intro (pv_MO_goesThrough E k) (by decide) zi ?_ rfl rfl ?_
  · rintro _ _ _ ⟨rfl, -⟩; rfl
  intro S hS
  have h16 := zt.1
  obtain ⟨F, eF⟩ : ∃ F, F = rnL n b tl 161 0 σ := ⟨_, rfl⟩
  rw [← eF] at hS
  have out : ∀ cnt X4 X5 X6 X7 X8 X9 X10 J s, RS J F.2.1 → am_fs 88 [16, 27, 28] fLn I J → s = F.1 → cnt = F.2.2 → S 14 [some (.ref 88), some (.int (bi tl)), some (.int (nI cnt)), some (.int 0), X4, X5, X6, X7, X8, X9, X10] [] (stI s J) w := by
    intro cnt X4 X5 X6 X7 X8 X9 X10 J s zJ hJ e1 e2
    refine am_at hS (fun t => Nat.beq t 14) 60 14 ?_
    refine ⟨fun _ => ?_, fun q => absurd rfl q⟩
    rw [← e2, ← e1]
    exact ⟨rfl, rfl, RS_st zJ, hJ.trans (stI_fs.mono (by decide) (by decide)), stI_27, stI_28⟩
  have loop : ∀ f p σ' cnt X4 X5 X6 X7 X8 X9 X10 J, p ≤ n → n < p + f → wf σ' → RS J σ' → am_fs 88 [16, 27, 28] fLn I J → F.1 = (rnL n b tl f p σ').1 → F.2.1 = (rnL n b tl f p σ').2.1 → F.2.2 = (rnL n b tl f p σ').2.2 + cnt → S 14 [some (.ref 88), some (.int (bi tl)), some (.int (nI cnt)), some (.int 1), X4, X5, X6, X7, X8, X9, X10] [] (stI (true, p) J) w := by
    intro f
    induction f with
    | zero => intro p σ' cnt X4 X5 X6 X7 X8 X9 X10 J h1 h2; omega
    | succ f ih =>
      intro p σ' cnt X4 X5 X6 X7 X8 X9 X10 J hp hpf w' zJ hJ e1 e2 e3
      have h9 := w'.1
      rw [rnL_s f p] at e1 e2 e3
      have kT : tR J n b := ⟨by rw [hJ.2 6 (by decide)]; exact zT.1, fun i hi => by rw [hJ.1 91 (by decide) (by decide)]; exact zT.2 i hi⟩
      have c9 : J 88 9 = nI (sN σ') := zJ.1.1
      obtain ⟨N, eN⟩ : ∃ N, N = sN σ' := ⟨_, rfl⟩
      rw [← eN] at h9 c9 e1 e2 e3
      have pA := lsP_pl (n := n) (b := b) (s := (true, p)) (but := none) h9
      have pG := lsG_pl (n := n) (b := b) (s := (lnA n b N (true, p)).2)
      have pB := lsP_pl (n := n) (b := b) (s := (lnG n b N (true, p)).2) (but := some (lnA n b N (true, p)).1) h9
      have pV := lsS_pl (n := n) (b := b) (s := (lnB n b N (true, p)).2)
      have pK := lsM_pl (n := n) (b := b) (s := (lnV n b N (true, p)).2) (c := 107)
      have pX := lsM_pl (n := n) (b := b) (s := (lnK n b N (true, p)).2) (c := 33)
      have qA : (lnA n b N (true, p)).2.2 ≤ p + 1 := pA.1
      have qA1 : (lnA n b N (true, p)).1 < 9 := pA.2
      have qG : (lnG n b N (true, p)).2.2 ≤ (lnA n b N (true, p)).2.2 + 1 := pG
      have qB : (lnB n b N (true, p)).2.2 ≤ (lnG n b N (true, p)).2.2 + 1 := pB.1
      have qV : (lnV n b N (true, p)).2.2 ≤ (lnB n b N (true, p)).2.2 + 2 := pV
      have qK : (lnK n b N (true, p)).2.2 ≤ (lnV n b N (true, p)).2.2 + 1 := pK
      have qX : (lnX n b N (true, p)).2.2 ≤ (lnK n b N (true, p)).2.2 + 1 := pX
      -- behind the telling
      have a149 : ∀ X4 X5 X6 X7 X8 X9 X10 J' σ'', wf σ'' → RS J' σ'' → am_fs 88 [16, 27, 28] fLn I J' → σ'' = cond (tl && (lnE n b N (true, p)).1) (lnT n b p σ') σ' → S 149 [some (.ref 88), some (.int (bi tl)), some (.int (nI cnt)), some (.int 1), X4, X5, X6, X7, X8, X9, X10] [] (stI (lnE n b N (true, p)) J') w := by
        intro X4 X5 X6 X7 X8 X9 X10 J' σ'' w'' zJ' hJ' es
        have c6 : stI (lnE n b N (true, p)) J' 88 6 = nI n := by rw [stI_j (by decide) (by decide), hJ'.2 6 (by decide)]; exact zT.1
        refine am_at hS (fun t => Nat.beq t 14) 90 149 ?_
        cases hc : (lnE n b N (true, p)).1 with
        | false =>
          rw [hc, Bool.false_and, cond_false] at e1 e2 e3
          rw [hc, Bool.and_false] at es
          refine ⟨fun q => absurd (stI_28.symm.trans q) (by rw [hc]; decide), fun _ => ?_⟩
          have hq := out (cnt + 1) X4 X5 X6 X7 X8 X9 X10 J' (lnE n b N (true, p)) (by rw [e2]; show RS J' (cond (tl && false) (lnT n b p σ') σ'); rw [Bool.and_false, ← es]; exact zJ') hJ' e1.symm (by rw [e3]; show cnt + 1 = 1 + cnt; omega)
          rw [← nI_1] at hq
          exact hq
        | true =>
          obtain ⟨-, -, -, -, l5, l6⟩ := ln_t hc
          have l5' : p < (lnE n b N (true, p)).2 := l5
          refine ⟨fun _ => ?_, fun q => absurd (stI_28.trans (by rw [hc]; rfl)) q⟩
          rw [hc, Bool.true_and] at e1 e2 e3
          rw [hc, Bool.and_true] at es
          refine ⟨fun h167 => ?_, fun h167 => ?_⟩
          · rw [stI_27, c6, nlt (by omega) (by omega)] at h167
            rw [decide_eq_true h167, cond_true] at e1 e2 e3
            rw [← es] at e1 e2 e3
            have hq := ih (lnE n b N (true, p)).2 σ'' (cnt + 1) X4 X5 X6 X7 X8 X9 X10 J' l6 (by omega) w'' zJ' hJ' e1 e2 (e3.trans (Nat.succ_add_eq_add_succ _ cnt))
            rw [show ((true, (lnE n b N (true, p)).2) : Bool × Nat) = lnE n b N (true, p) from Prod.ext hc.symm rfl, ← nI_1] at hq
            exact hq
          · rw [stI_27, c6, nlt (by omega) (by omega)] at h167
            rw [decide_eq_false h167, cond_false] at e1 e2 e3
            have e2' : F.2.1 = cond (tl && true) (lnT n b p σ') σ' := e2
            rw [Bool.and_true, ← es] at e2'
            have hq := out (cnt + 1) X4 X5 X6 X7 X8 X9 X10 J' (lnE n b N (true, p)) (by rw [e2']; exact zJ') hJ' e1.symm (by rw [e3]; show cnt + 1 = 1 + cnt; omega)
            rw [← nI_1] at hq
            exact hq
      have a112 : ∀ X10, S 112 [some (.ref 88), some (.int (bi tl)), some (.int (nI cnt)), some (.int 1), some (.int (nI (lnA n b N (true, p)).1)), some (.int (bi (lnG n b N (true, p)).1)), some (.int (nI (lnB n b N (true, p)).1)), some (.int (nI (lnV n b N (true, p)).1)), some (.int (bi (lnK n b N (true, p)).1)), some (.int (bi (lnX n b N (true, p)).1)), X10] [] (stI (lnE n b N (true, p)) J) w := by
        intro X10
        refine am_at hS (fun t => Nat.beq t 149) 90 112 ?_
        cases hc : (lnE n b N (true, p)).1 with
        | false =>
          refine ⟨fun q => absurd (stI_28.symm.trans q) (by rw [hc]; decide), fun _ => ?_⟩
          exact a149 _ _ _ _ _ _ _ J σ' w' zJ hJ (by rw [hc, Bool.and_false]; rfl)
        | true =>
          refine ⟨fun _ => ?_, fun q => absurd (stI_28.trans (by rw [hc]; rfl)) q⟩
          cases tl with
          | false =>
            refine ⟨fun _ => ?_, fun q => absurd rfl q⟩
            exact a149 _ _ _ _ _ _ _ J σ' w' zJ hJ (by rw [hc]; rfl)
          | true =>
            refine ⟨fun q => absurd (show (1 : Int32) = 0 from q) (by decide), fun _ => ?_⟩
            obtain ⟨l1, l2, l3, -, -, -⟩ := ln_t hc
            rw [eN] at l1 l2 l3 hc
            have wT := lnT_wf w' hc
            have hT := fun s (hs : s = cond (lnG n b (sN σ') (true, p)).1 1 (-1)) => r_tells zi (k := k - 1) w' (RS_st (s := lnE n b N (true, p)) zJ) w (by omega) l1 l2 l3 s (nI (lnV n b (sN σ') (true, p)).1) (2 * (lnK n b (sN σ') (true, p)).1.toNat + (lnX n b (sN σ') (true, p)).1.toNat)
            have ek : (2 * (lnK n b (sN σ') (true, p)).1.toNat + (lnX n b (sN σ') (true, p)).1.toNat) / 2 = (lnK n b (sN σ') (true, p)).1.toNat ∧ (2 * (lnK n b (sN σ') (true, p)).1.toNat + (lnX n b (sN σ') (true, p)).1.toNat) % 2 = (lnX n b (sN σ') (true, p)).1.toNat := by
              cases (lnK n b (sN σ') (true, p)).1 <;> cases (lnX n b (sN σ') (true, p)).1 <;> exact ⟨rfl, rfl⟩
            have eb : ∀ y : Bool, nI y.toNat = bi y := fun y => by cases y <;> rfl
            rw [ek.1, ek.2, eb, eb] at hT
            rw [← eN] at hT
            have fin : ∀ q I' w2, (q = some (Value.int (nI (sTell σ' (lnA n b N (true, p)).1 (lnB n b N (true, p)).1 (cond (lnG n b N (true, p)).1 1 (-1)) (nI (lnV n b N (true, p)).1) (2 * (lnK n b N (true, p)).1.toNat + (lnX n b N (true, p)).1.toNat)).1)) ∧ w2 = w ∧ RS I' (sTell σ' (lnA n b N (true, p)).1 (lnB n b N (true, p)).1 (cond (lnG n b N (true, p)).1 1 (-1)) (nI (lnV n b N (true, p)).1) (2 * (lnK n b N (true, p)).1.toNat + (lnX n b N (true, p)).1.toNat)).2 ∧ am_fs 88 [16] [94, 95, 96, 97, 98, 99] (stI (lnE n b N (true, p)) J) I') → ∀ X4 X5 X6 X7 X8 X9 X10, S 149 [some (.ref 88), some (.int (bi true)), some (.int (nI cnt)), some (.int 1), X4, X5, X6, X7, X8, X9, X10] [] I' w2 := by
              rintro q I' w2 ⟨-, rfl, z2, f2⟩ X4 X5 X6 X7 X8 X9 X10
              have es : stI (lnE n b N (true, p)) I' = I' := stI_self (by rw [f2.2 27 (by decide)]; exact stI_27) (by rw [f2.2 28 (by decide)]; exact stI_28)
              have hq := a149 X4 X5 X6 X7 X8 X9 X10 I' (lnT n b p σ') wT (by unfold lnT; rw [← eN]; exact z2) ((hJ.trans (stI_fs.mono (by decide) (by decide))).trans (f2.mono (by decide) (by decide))) (by rw [eN, hc]; rfl)
              rw [es] at hq
              exact hq
            cases hg : (lnG n b N (true, p)).1 with
            | true =>
              refine ⟨fun q => absurd (show (1 : Int32) = 0 from q) (by decide), fun _ => ?_⟩
              refine ⟨_, _, (by omega : k - 1 < k), hT 1 (by rw [hg]; rfl), ?_⟩
              rintro _ I' w2 ⟨rfl, rfl, z2, f2⟩
              exact fin _ I' _ (by rw [hg]; exact ⟨rfl, rfl, z2, f2⟩) _ _ _ _ _ _ _
            | false =>
              refine ⟨fun _ => ?_, fun q => absurd rfl q⟩
              refine ⟨_, _, (by omega : k - 1 < k), hT (-1) (by rw [hg]; rfl), ?_⟩
              rintro _ I' w2 ⟨rfl, rfl, z2, f2⟩
              exact fin _ I' _ (by rw [hg]; exact ⟨rfl, rfl, z2, f2⟩) _ _ _ _ _ _ _
      have a52 : ∀ X6 X7 X8 X9 X10, S 52 [some (.ref 88), some (.int (bi tl)), some (.int (nI cnt)), some (.int 1), some (.int (nI (lnA n b N (true, p)).1)), some (.int (bi (lnG n b N (true, p)).1)), X6, X7, X8, X9, X10] [] (stI (lnG n b N (true, p)).2 J) w := by
        intro X6 X7 X8 X9 X10
        refine am_at hS (fun t => Nat.beq t 82) 90 52 ?_
        refine ⟨_, _, (by omega : k - 1 < k), r_personHere zi (by omega) zt kT (by omega) h9 c9 (some (lnA n b N (true, p)).1) (fun a q => by cases q; exact qA1), am_elim ?_⟩
        refine ⟨_, _, (by omega : k - 1 < k), r_strengthHere zi (by omega) zt kT (s := (lnB n b N (true, p)).2) (by omega), am_elim ?_⟩
        refine ⟨_, _, (by omega : k - 1 < k), r_may zi (by omega) zt kT (s := (lnV n b N (true, p)).2) (by omega) (c := 107) (by decide), am_elim ?_⟩
        have x33 : ∀ X9 X10, ∀ v8, v8 = bi (lnK n b N (true, p)).1 → S 82 [some (.ref 88), some (.int (bi tl)), some (.int (nI cnt)), some (.int 1), some (.int (nI (lnA n b N (true, p)).1)), some (.int (bi (lnG n b N (true, p)).1)), some (.int (nI (lnB n b N (true, p)).1)), some (.int (nI (lnV n b N (true, p)).1)), some (.int v8), X9, X10] [] (stI (lnK n b N (true, p)).2 J) w := by
          intro X9 X10 v8 h8
          subst h8
          refine am_at hS (fun t => Nat.beq t 98) 90 82 ?_
          refine ⟨_, _, (by omega : k - 1 < k), r_may zi (by omega) zt kT (s := (lnK n b N (true, p)).2) (by omega) (c := 33) (by decide), am_elim ?_⟩
          have x59 : ∀ X10, ∀ v9, v9 = bi (lnX n b N (true, p)).1 → S 98 [some (.ref 88), some (.int (bi tl)), some (.int (nI cnt)), some (.int 1), some (.int (nI (lnA n b N (true, p)).1)), some (.int (bi (lnG n b N (true, p)).1)), some (.int (nI (lnB n b N (true, p)).1)), some (.int (nI (lnV n b N (true, p)).1)), some (.int (bi (lnK n b N (true, p)).1)), some (.int v9), X10] [] (stI (lnX n b N (true, p)).2 J) w := by
            intro X10 v9 h9'
            subst h9'
            refine am_at hS (fun t => Nat.beq t 112) 90 98 ?_
            refine ⟨_, _, (by omega : k - 1 < k), r_may zi (by omega) zt kT (s := (lnX n b N (true, p)).2) (by omega) (c := 59) (by decide), am_elim ?_⟩
            have hq := a112 X10
            have eE : lnE n b N (true, p) = cond (lsM n b 59 (lnX n b N (true, p)).2).1 (lsM n b 59 (lnX n b N (true, p)).2).2 (false, (lnX n b N (true, p)).2.2) := rfl
            cases hm : (lsM n b 59 (lnX n b N (true, p)).2).1 with
            | true =>
              rw [hm, cond_true] at eE
              rw [eE] at hq
              exact ⟨fun q => absurd (show (1 : Int32) = 0 from q) (by decide), fun _ => hq⟩
            | false =>
              rw [hm, cond_false] at eE
              rw [eE] at hq
              refine ⟨fun _ => ?_, fun q => absurd rfl q⟩
              refine ⟨Or.inr rfl, ?_⟩
              rw [lsM_n hm, stI_28u]
              exact hq
          cases hm : (lsM n b 33 (lnK n b N (true, p)).2).1 with
          | true =>
            refine ⟨fun q => absurd (show (1 : Int32) = 0 from q) (by decide), fun _ => ?_⟩
            exact x59 X10 1 (by rw [show (lnX n b N (true, p)).1 = true from hm]; rfl)
          | false =>
            refine ⟨fun _ => ?_, fun q => absurd rfl q⟩
            exact x59 X10 0 (by rw [show (lnX n b N (true, p)).1 = false from hm]; rfl)
        cases hm : (lsM n b 107 (lnV n b N (true, p)).2).1 with
        | true =>
          refine ⟨fun q => absurd (show (1 : Int32) = 0 from q) (by decide), fun _ => ?_⟩
          exact x33 X9 X10 1 (by rw [show (lnK n b N (true, p)).1 = true from hm]; rfl)
        | false =>
          refine ⟨fun _ => ?_, fun q => absurd rfl q⟩
          exact x33 X9 X10 0 (by rw [show (lnK n b N (true, p)).1 = false from hm]; rfl)
      refine am_at hS (fun t => Nat.beq t 52) 90 14 ?_
      refine ⟨fun q => absurd q (by decide), fun _ => ?_⟩
      refine ⟨_, _, (by omega : k - 1 < k), r_personHere zi (by omega) zt kT (s := (true, p)) (show p < 1000 by omega) h9 c9 none (fun a q => by cases q), am_elim ?_⟩
      have hk2 := r_may zi (k := k - 1) (by omega) zt kT (w := w) (s := (lnA n b N (true, p)).2) (by omega) (c := 43) (by decide)
      refine ⟨_, _, (by omega : k - 1 < k), hk2, am_elim ?_⟩
      have eG : (lnG n b N (true, p)).2 = cond (lsM n b 43 (lnA n b N (true, p)).2).1 (lsM n b 43 (lnA n b N (true, p)).2).2 (cond (lsM n b 45 (lnA n b N (true, p)).2).1 (lsM n b 45 (lnA n b N (true, p)).2).2 (false, (lnA n b N (true, p)).2.2)) := rfl
      have eG1 : (lnG n b N (true, p)).1 = (lsM n b 43 (lnA n b N (true, p)).2).1 := rfl
      have hq := a52 X6 X7 X8 X9 X10
      cases hm : (lsM n b 43 (lnA n b N (true, p)).2).1 with
      | true =>
        rw [hm, cond_true] at eG
        rw [hm] at eG1
        rw [eG, eG1] at hq
        exact ⟨fun q => absurd (show (1 : Int32) = 0 from q) (by decide), fun _ => hq⟩
      | false =>
        rw [hm, cond_false] at eG
        rw [hm] at eG1
        rw [eG1] at hq
        refine ⟨fun _ => ?_, fun q => absurd rfl q⟩
        rw [lsM_n hm]
        refine ⟨_, _, (by omega : k - 1 < k), r_may zi (by omega) zt kT (s := (lnA n b N (true, p)).2) (by omega) (c := 45) (by decide), am_elim ?_⟩
        cases hm2 : (lsM n b 45 (lnA n b N (true, p)).2).1 with
        | true =>
          rw [hm2, cond_true] at eG
          rw [eG] at hq
          exact ⟨fun q => absurd (show (1 : Int32) = 0 from q) (by decide), fun _ => hq⟩
        | false =>
          rw [hm2, cond_false] at eG
          rw [eG] at hq
          refine ⟨fun _ => ?_, fun q => absurd rfl q⟩
          refine ⟨Or.inr rfl, ?_⟩
          rw [lsM_n hm2, stI_28u]
          exact hq
  refine am_at hS (fun t => Nat.beq t 14) 90 0 ?_
  refine ⟨Or.inl rfl, ?_⟩
  exact loop 161 0 σ 0 none none none none none none none I (Nat.zero_le _) (by omega) zw zR am_fs.refl (by rw [eF]) (by rw [eF]) (by rw [eF]; rfl)
theorem m_street {E : am_E} (zi : am_inj E) {k : Nat} (hk : 4 ≤ k) {n : Nat} {b : Nat → Nat} (zt : wft n b) {σ : St} (zw : wf σ) {I : am_I} (zR : RS I σ) (zT : tR I n b) (w : Int64) :
    am_Ret E k Y_MO_street [.ref 88] I w (fun q I' w' => q = some (.int (aStreet n b σ).1) ∧ w' = w ∧ RS I' (aStreet n b σ).2 ∧ tR I' 0 b ∧ am_fs 88 [6, 16, 27, 28] fLn I I') := by
  refine am_intro (pv_MO_street E k) (by decide) zi ?_ rfl rfl ?_
  · rintro _ _ _ ⟨rfl, -⟩; rfl
  intro S hS
  unfold aStreet at hS
  have up6 : ∀ {J σ'}, RS J σ' → RS (am_up J 88 6 0) σ' := fun z => RS_fs (am_fs.upo (js := [6]) (l := []) am_fs.refl (by decide)) (fun _ _ _ => List.not_mem_nil) (by decide) (by decide) z
  have t0 : ∀ J, tR (am_up J 88 6 0) 0 b := fun J => ⟨by rw [am_seq]; rfl, fun i hi => absurd hi (by omega)⟩
  refine am_at hS (fun t => Nat.beq t 19) 60 0 ?_
  refine ⟨_, _, (by omega : k - 1 < k), r_goesThrough zi (by omega) zt zw zR zT w false, ?_⟩
  rintro _ J1 w1 ⟨rfl, rfl, z1, f1, j27, j28⟩
  have e1 : (rnL n b false 161 0 σ).2.1 = σ := rnL_fs 161 0 σ
  rw [e1] at z1
  cases hc : (rnL n b false 161 0 σ).1.1 with
  | true =>
    rw [hc] at j28 hS
    refine ⟨fun _ => ?_, fun q => absurd j28 q⟩
    have kT : tR J1 n b := ⟨by rw [f1.2 6 (by decide)]; exact zT.1, fun i hi => by rw [f1.1 91 (by decide) (by decide)]; exact zT.2 i hi⟩
    refine ⟨_, _, (by omega : k - 1 < k), r_goesThrough zi (by omega) zt zw z1 kT w1 true, ?_⟩
    rintro _ J2 w2 ⟨rfl, rfl, z2, f2, k27, k28⟩
    rw [rnL_same 161 0 σ σ rfl, hc] at k28
    refine am_at hS (fun _ => false) 60 19 ?_
    refine ⟨fun _ => ?_, fun q => absurd (show am_up J2 88 6 0 88 28 = 0 by rw [am_sne (by decide)]; exact k28) q⟩
    exact ⟨rfl, rfl, up6 z2, t0 _, am_fs.upo ((f1.trans f2).mono (by decide) (by decide)) (by decide)⟩
  | false =>
    rw [hc] at j28 hS
    refine ⟨fun q => absurd (j28.symm.trans q) (by decide), fun _ => ?_⟩
    refine am_at hS (fun _ => false) 60 19 ?_
    refine ⟨fun q => absurd (show (1 : Int32) = 0 from (show am_up J1 88 6 0 88 28 = 1 by rw [am_sne (by decide)]; exact j28).symm.trans q) (by decide), fun _ => ?_⟩
    refine ⟨?_, rfl, up6 z1, t0 _, am_fs.upo (f1.mono (by decide) (by decide)) (by decide)⟩
    rw [am_sne (by decide), j27]
    rfl

