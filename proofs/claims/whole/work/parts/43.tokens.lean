/-! TOKENS: numbers, signs; the row of TOKENS -/
def nmv (b : Nat → Nat) (f : Nat) : Nat → Nat
  | 0 => 0
  | t + 1 => nmv b f t * 10 + (b (f + t) - 48)
def nco (b : Nat → Nat) (f e : Nat) : Int32 := if 4 < e - f then -2 else nI (nmv b f (e - f))
def sgB (x : Nat) : Bool := x == 40 || x == 41 || x == 42 || x == 43 || x == 45 || x == 59 || x == 60 || x == 61
def sgc (x : Nat) : Int32 := cond (sgB x) (-(nI x)) (-2)
noncomputable def tco (n : Nat) (b : Nat → Nat) (f e : Nat) : Int32 := if n ≤ f then -1 else cond (isL n b f) (wco b f e 11) (cond (isD n b f) (nco b f e) (sgc (b f)))
theorem nmv_lt {n : Nat} {b : Nat → Nat} {f : Nat} : ∀ t, (∀ j, j < t → isD n b (f + j) = true) → nmv b f t < 10 ^ t
  | 0, _ => by show 0 < 1; decide
  | t + 1, h => by
    have h1 := nmv_lt t (fun j hj => h j (by omega))
    have h2 := of_decide_eq_true (h t (by omega))
    rw [nmv, Nat.pow_succ]
    omega
theorem r_numberOf {E : am_E} (zi : am_inj E) {k n : Nat} (hk : 1 ≤ k) {b : Nat → Nat} (zt : wft n b) {I : am_I} (zT : tC I n b) (w : Int64) {f e : Nat} (hfe : f ≤ e) (he : e ≤ n) (hd : ∀ j, f ≤ j → j < e → isD n b j = true) : am_Ret E k Y_TextReader_numberOf [.ref 42, .int (nI f), .int (nI e)] I w (am_eq (some (.int (nco b f e))) I w) := by
  refine am_intro (pv_TextReader_numberOf E k) (by decide) zi ?_ rfl rfl ?_
  · rintro _ _ _ ⟨rfl, -⟩; rfl
  intro S hS
  have h16 := zt.1
  unfold nco at hS
  refine am_at hS (fun t => Nat.beq t 15) 60 0 ?_
  refine ⟨fun h4 => ?_, fun h4 => ?_⟩
  · rw [pk_sub hfe, show (4 : Int32) = nI 4 from rfl, nlt (by decide) (by omega)] at h4
    rw [if_pos h4]
    exact ⟨rfl, rfl, rfl⟩
  rw [pk_sub hfe, show (4 : Int32) = nI 4 from rfl, nlt (by decide) (by omega)] at h4
  rw [if_neg h4] at hS
  have loop := down (P := fun t => S 15 [some (.ref 42), some (.int (nI f)), some (.int (nI e)), some (.int (nI (nmv b f t))), some (.int (nI (f + t)))] [] I w) (e - f) ?z ?s
  case z =>
    refine am_at hS (fun t => Nat.beq t 15) 60 15 ?_
    refine ⟨fun q => absurd q (nI_nlt (by omega) (by omega)), fun _ => ⟨rfl, rfl, rfl⟩⟩
  case s =>
    intro t ht hn
    refine am_at hS (fun t => Nat.beq t 15) 60 15 ?_
    refine ⟨fun _ => ?_, fun q => absurd (nI_lt (by omega) (by omega)) q⟩
    have hdt := of_decide_eq_true (hd (f + t) (by omega) (by omega))
    have hv : nmv b f t < 10 ^ t := nmv_lt t (fun j hj => hd (f + j) (by omega) (by omega))
    refine ⟨_, _, (by omega : k - 1 < k), r_at zi zt zT w (by omega), am_elim ?_⟩
    have ea : nI (nmv b f t) * 10 + tat n b (f + t) - 48 = nI (nmv b f (t + 1)) := by
      rw [tat_in hdt.1, show (10 : Int32) = nI 10 from rfl, show (48 : Int32) = nI 48 from rfl, pk_mul, nI_add, pk_sub (by omega), nmv]
      congr 1
      omega
    rw [← ea, ← Nat.add_assoc, ← nI_1] at hn
    exact hn
  exact loop 0 (Nat.zero_le _)
theorem r_tokenOf {E : am_E} (zi : am_inj E) {k n : Nat} (hk : 7 ≤ k) {b : Nat → Nat} (zt : wft n b) {I : am_I} (zT : tC I n b) (w : Int64) {f : Nat} (hf : f < 400) : am_Ret E k Y_TextReader_tokenOf [.ref 42, .int (nI f), .int (nI (eot n b f))] I w (am_eq (some (.int (tco n b f (eot n b f)))) I w) := by
  refine am_intro (pv_TextReader_tokenOf E k) (by decide) zi ?_ rfl rfl ?_
  · rintro _ _ _ ⟨rfl, -⟩; rfl
  intro S hS
  have h16 := zt.1
  obtain ⟨s1, s2, s3, s4⟩ := eot_spec zt f
  unfold tco at hS
  refine am_at hS (fun _ => false) 160 0 ?_
  refine ⟨_, _, (by omega : k - 1 < k), r_at zi zt zT w (by omega), am_elim ?_⟩
  refine ⟨fun h11 => ?_, fun h11 => ?_⟩
  · rw [tat_m1 zt] at h11
    rw [if_pos h11]
    exact ⟨rfl, rfl, rfl⟩
  rw [tat_m1 zt] at h11
  rw [if_neg h11]
  refine ⟨_, _, (by omega : k - 1 < k), r_isLetter zi (by omega) zt zT w (by omega), am_elim ?_⟩
  refine ⟨fun h24 => ?_, fun h24 => ?_⟩
  · rw [bi_eq0] at h24
    rw [h24, cond_false]
    refine ⟨_, _, (by omega : k - 1 < k), r_isDigit zi (by omega) zt zT w (by omega), am_elim ?_⟩
    refine ⟨fun h42 => ?_, fun h42 => ?_⟩
    · rw [bi_eq0] at h42
      rw [h42, cond_false]
      have hn : f < n := by omega
      refine ⟨fun h => ?_, fun n40 => ?_⟩
      · have h2 : tat n b f = nI 40 := h
        have e : b f = 40 := ((tat_eq zt (by decide)).mp h2).2
        refine ⟨?_, rfl, rfl⟩
        rw [h2, e]
        rfl
      refine ⟨fun h => ?_, fun n41 => ?_⟩
      · have h2 : tat n b f = nI 41 := h
        have e : b f = 41 := ((tat_eq zt (by decide)).mp h2).2
        refine ⟨?_, rfl, rfl⟩
        rw [h2, e]
        rfl
      refine ⟨fun h => ?_, fun n42 => ?_⟩
      · have h2 : tat n b f = nI 42 := h
        have e : b f = 42 := ((tat_eq zt (by decide)).mp h2).2
        refine ⟨?_, rfl, rfl⟩
        rw [h2, e]
        rfl
      refine ⟨fun h => ?_, fun n43 => ?_⟩
      · have h2 : tat n b f = nI 43 := h
        have e : b f = 43 := ((tat_eq zt (by decide)).mp h2).2
        refine ⟨?_, rfl, rfl⟩
        rw [h2, e]
        rfl
      refine ⟨fun h => ?_, fun n44 => ?_⟩
      · have h2 : tat n b f = nI 44 := h
        have e : b f = 44 := ((tat_eq zt (by decide)).mp h2).2
        refine ⟨?_, rfl, rfl⟩
        rw [e]
        rfl
      refine ⟨fun h => ?_, fun n45 => ?_⟩
      · have h2 : tat n b f = nI 45 := h
        have e : b f = 45 := ((tat_eq zt (by decide)).mp h2).2
        refine ⟨?_, rfl, rfl⟩
        rw [h2, e]
        rfl
      refine ⟨fun h => ?_, fun n46 => ?_⟩
      · have h2 : tat n b f = nI 46 := h
        have e : b f = 46 := ((tat_eq zt (by decide)).mp h2).2
        refine ⟨?_, rfl, rfl⟩
        rw [e]
        rfl
      refine ⟨fun h => ?_, fun n47 => ?_⟩
      · have h2 : tat n b f = nI 47 := h
        have e : b f = 47 := ((tat_eq zt (by decide)).mp h2).2
        refine ⟨?_, rfl, rfl⟩
        rw [e]
        rfl
      refine ⟨fun h => ?_, fun n48 => ?_⟩
      · have h2 : tat n b f = nI 48 := h
        have e : b f = 48 := ((tat_eq zt (by decide)).mp h2).2
        refine ⟨?_, rfl, rfl⟩
        rw [e]
        rfl
      refine ⟨fun h => ?_, fun n49 => ?_⟩
      · have h2 : tat n b f = nI 49 := h
        have e : b f = 49 := ((tat_eq zt (by decide)).mp h2).2
        refine ⟨?_, rfl, rfl⟩
        rw [e]
        rfl
      refine ⟨fun h => ?_, fun n50 => ?_⟩
      · have h2 : tat n b f = nI 50 := h
        have e : b f = 50 := ((tat_eq zt (by decide)).mp h2).2
        refine ⟨?_, rfl, rfl⟩
        rw [e]
        rfl
      refine ⟨fun h => ?_, fun n51 => ?_⟩
      · have h2 : tat n b f = nI 51 := h
        have e : b f = 51 := ((tat_eq zt (by decide)).mp h2).2
        refine ⟨?_, rfl, rfl⟩
        rw [e]
        rfl
      refine ⟨fun h => ?_, fun n52 => ?_⟩
      · have h2 : tat n b f = nI 52 := h
        have e : b f = 52 := ((tat_eq zt (by decide)).mp h2).2
        refine ⟨?_, rfl, rfl⟩
        rw [e]
        rfl
      refine ⟨fun h => ?_, fun n53 => ?_⟩
      · have h2 : tat n b f = nI 53 := h
        have e : b f = 53 := ((tat_eq zt (by decide)).mp h2).2
        refine ⟨?_, rfl, rfl⟩
        rw [e]
        rfl
      refine ⟨fun h => ?_, fun n54 => ?_⟩
      · have h2 : tat n b f = nI 54 := h
        have e : b f = 54 := ((tat_eq zt (by decide)).mp h2).2
        refine ⟨?_, rfl, rfl⟩
        rw [e]
        rfl
      refine ⟨fun h => ?_, fun n55 => ?_⟩
      · have h2 : tat n b f = nI 55 := h
        have e : b f = 55 := ((tat_eq zt (by decide)).mp h2).2
        refine ⟨?_, rfl, rfl⟩
        rw [e]
        rfl
      refine ⟨fun h => ?_, fun n56 => ?_⟩
      · have h2 : tat n b f = nI 56 := h
        have e : b f = 56 := ((tat_eq zt (by decide)).mp h2).2
        refine ⟨?_, rfl, rfl⟩
        rw [e]
        rfl
      refine ⟨fun h => ?_, fun n57 => ?_⟩
      · have h2 : tat n b f = nI 57 := h
        have e : b f = 57 := ((tat_eq zt (by decide)).mp h2).2
        refine ⟨?_, rfl, rfl⟩
        rw [e]
        rfl
      refine ⟨fun h => ?_, fun n58 => ?_⟩
      · have h2 : tat n b f = nI 58 := h
        have e : b f = 58 := ((tat_eq zt (by decide)).mp h2).2
        refine ⟨?_, rfl, rfl⟩
        rw [e]
        rfl
      refine ⟨fun h => ?_, fun n59 => ?_⟩
      · have h2 : tat n b f = nI 59 := h
        have e : b f = 59 := ((tat_eq zt (by decide)).mp h2).2
        refine ⟨?_, rfl, rfl⟩
        rw [h2, e]
        rfl
      refine ⟨fun h => ?_, fun n60 => ?_⟩
      · have h2 : tat n b f = nI 60 := h
        have e : b f = 60 := ((tat_eq zt (by decide)).mp h2).2
        refine ⟨?_, rfl, rfl⟩
        rw [h2, e]
        rfl
      refine ⟨fun h => ?_, fun n61 => ?_⟩
      · have h2 : tat n b f = nI 61 := h
        have e : b f = 61 := ((tat_eq zt (by decide)).mp h2).2
        refine ⟨?_, rfl, rfl⟩
        rw [h2, e]
        rfl
      have hz : sgB (b f) = false := by
        have z : ∀ c : Nat, c < 2 ^ 31 → ¬ tat n b f = nI c → ¬ b f = c := fun c hc q e => q ((tat_eq zt hc).mpr ⟨hn, e⟩)
        unfold sgB
        rw [beq_eq_false_iff_ne.mpr (z 40 (by decide) n40), beq_eq_false_iff_ne.mpr (z 41 (by decide) n41), beq_eq_false_iff_ne.mpr (z 42 (by decide) n42), beq_eq_false_iff_ne.mpr (z 43 (by decide) n43), beq_eq_false_iff_ne.mpr (z 45 (by decide) n45), beq_eq_false_iff_ne.mpr (z 59 (by decide) n59), beq_eq_false_iff_ne.mpr (z 60 (by decide) n60), beq_eq_false_iff_ne.mpr (z 61 (by decide) n61)]
        rfl
      unfold sgc
      rw [hz]
      exact ⟨rfl, rfl, rfl⟩
    · rw [bi_eq0, Bool.not_eq_false] at h42
      rw [h42, cond_true]
      refine ⟨_, _, (by omega : k - 1 < k), r_numberOf zi (by omega) zt zT w (by omega) (by omega) (fun j h1 h2 => ?_), am_elim ?_⟩
      · by_cases ej : j = f
        · rw [ej]; exact h42
        · have := s2 j (by omega) h2
          unfold inT at this
          rw [h24, h42, Bool.false_and, Bool.true_and, Bool.false_or] at this
          exact this
      exact ⟨rfl, rfl, rfl⟩
  · rw [bi_eq0, Bool.not_eq_false] at h24
    rw [h24, cond_true]
    refine ⟨_, _, (by omega : k - 1 < k), r_wordOf zi (by omega) zt zT w (by omega) (by omega), am_elim ?_⟩
    exact ⟨rfl, rfl, rfl⟩
/-- where the TOKENS begin to be looked for, stand; what they are -/
def tps (n : Nat) (b : Nat → Nat) : Nat → Nat
  | 0 => 0
  | i + 1 => eot n b (skb n b (tps n b i))
def tpl (n : Nat) (b : Nat → Nat) (i : Nat) : Nat := skb n b (tps n b i)
noncomputable def tkc (n : Nat) (b : Nat → Nat) (i : Nat) : Int32 := tco n b (tpl n b i) (tps n b (i + 1))
def stp (c : Int32) : Prop := c = -1 ∨ c = -2
theorem tkc_in {n : Nat} {b : Nat → Nat} {i : Nat} (h : ¬ stp (tkc n b i)) : tpl n b i < n := by
  apply Classical.byContradiction
  intro q
  refine h (Or.inl ?_)
  unfold tkc tco
  exact if_pos (by omega)
theorem tps_le {n : Nat} {b : Nat → Nat} (zt : wft n b) : ∀ i, (∀ j, j < i → ¬ stp (tkc n b j)) → i ≤ tps n b i ∧ tps n b i ≤ n ∧ tpl n b i ≤ n
  | 0, _ => by
    have := skb_spec zt 0
    refine ⟨Nat.le_refl _, Nat.zero_le _, ?_⟩
    show skb n b 0 ≤ n
    omega
  | i + 1, h => by
    obtain ⟨h1, h2, h3⟩ := tps_le zt i (fun j hj => h j (by omega))
    have h4 := tkc_in (h i (by omega))
    have h5 : tps n b i ≤ tpl n b i := (skb_spec zt (tps n b i)).1
    obtain ⟨s1, s2, s3, s4⟩ := eot_spec zt (tpl n b i)
    have e : tps n b (i + 1) = eot n b (tpl n b i) := rfl
    have h6 := skb_spec zt (tps n b (i + 1))
    have e2 : tpl n b (i + 1) = skb n b (tps n b (i + 1)) := rfl
    refine ⟨by omega, by omega, by omega⟩
/-- the first TOKEN that stops -/
def fsL (n : Nat) (b : Nat → Nat) (L : Nat) : Prop := stp (tkc n b L) ∧ ∀ j, j < L → ¬ stp (tkc n b j)
theorem fsL_ex {n : Nat} {b : Nat → Nat} (zt : wft n b) : ∃ L, fsL n b L := by
  refine pk_least (fun i => stp (tkc n b i)) (Classical.byContradiction fun h => ?_)
  have := tps_le zt 161 (fun j _ q => h ⟨j, q⟩)
  have := zt.1
  omega
theorem fsL_le {n : Nat} {b : Nat → Nat} (zt : wft n b) {L : Nat} (h : fsL n b L) : L ≤ n := by
  have := tps_le zt L h.2
  omega
theorem r_layTokens {E : am_E} (zi : am_inj E) {k n : Nat} (hk : 8 ≤ k) {b : Nat → Nat} (zt : wft n b) {I : am_I} (zT : tC I n b) (w : Int64) {L : Nat} (hL : fsL n b L) :
    am_Ret E k Y_TextReader_layTokens [.ref 42] I w (fun r I' w' => r = none ∧ w' = w ∧ am_fr [43, 44] I I' ∧ ∀ j, j ≤ L → I' 43 j = tkc n b j ∧ I' 44 j = nI (tpl n b j)) := by
  refine am_intro (pv_TextReader_layTokens E k) (by decide) zi ?_ rfl rfl ?_
  · rintro _ _ _ ⟨rfl, -⟩; trivial
  intro S hS
  have h16 := zt.1
  have hLn := fsL_le zt hL
  have fin : ∀ x1 x3 x4 J, am_fr [43, 44] I J → (∀ j, j ≤ L → J 43 j = tkc n b j ∧ J 44 j = nI (tpl n b j)) → S 6 [some (.ref 42), x1, some (.int 0), some (.int x3), x4] [] J w := by
    intro x1 x3 x4 J h1 h2
    refine am_at hS (fun t => Nat.beq t 6) 80 6 ?_
    refine ⟨fun _ => ?_, fun _ => ⟨rfl, rfl, h1, h2⟩⟩
    exact ⟨fun _ => ⟨rfl, rfl, h1, h2⟩, fun q => absurd rfl q⟩
  have body : ∀ i, i ≤ L → (¬ stp (tkc n b i) → ∀ x4 J, am_fr [43, 44] I J → (∀ j, j < i + 1 → J 43 j = tkc n b j ∧ J 44 j = nI (tpl n b j)) → S 6 [some (.ref 42), some (.int (nI (tps n b (i + 1)))), some (.int 1), some (.int (nI (i + 1))), x4] [] J w) → ∀ x4 J, am_fr [43, 44] I J → (∀ j, j < i → J 43 j = tkc n b j ∧ J 44 j = nI (tpl n b j)) → S 6 [some (.ref 42), some (.int (nI (tps n b i))), some (.int 1), some (.int (nI i)), x4] [] J w := by
    intro i hi hn x4 J hJ hz
    obtain ⟨t1, t2, t3⟩ := tps_le zt i (fun j hj => hL.2 j (by omega))
    have zT2 : ∀ J', am_fr [43, 44] I J' → tC J' n b := fun J' h => ⟨by rw [h 23 (by decide)]; exact zT.1, fun j hj => by rw [h 24 (by decide)]; exact zT.2 j hj⟩
    have hJ2 : am_fr [43, 44] I (am_up J 44 i (nI (tpl n b i))) := am_fr.up hJ (by decide)
    have hJ3 : am_fr [43, 44] I (am_up (am_up J 44 i (nI (tpl n b i))) 43 i (tkc n b i)) := am_fr.up hJ2 (by decide)
    have ec : am_up (am_up J 44 i (nI (tpl n b i))) 43 i (tkc n b i) 43 i = tkc n b i := by rw [am_up_fup, fup_self]
    have hz3 : ∀ j, j < i + 1 → am_up (am_up J 44 i (nI (tpl n b i))) 43 i (tkc n b i) 43 j = tkc n b j ∧ am_up (am_up J 44 i (nI (tpl n b i))) 43 i (tkc n b i) 44 j = nI (tpl n b j) := by
      intro j hj
      have q1 : am_up (am_up J 44 i (nI (tpl n b i))) 43 i (tkc n b i) 43 j = fup (J 43) i (tkc n b i) j := by rw [am_up_fup, am_up_ne (show (43 : Nat) ≠ 44 by decide)]
      have q2 : am_up (am_up J 44 i (nI (tpl n b i))) 43 i (tkc n b i) 44 j = fup (J 44) i (nI (tpl n b i)) j := by rw [am_up_ne (show (44 : Nat) ≠ 43 by decide), am_up_fup]
      rw [q1, q2]
      by_cases e : j = i
      · rw [e, fup_self, fup_self]; exact ⟨rfl, rfl⟩
      · rw [fup_ne e, fup_ne e]; exact hz j (by omega)
    have last : stp (tkc n b i) → ∀ x1 x4, S 6 [some (.ref 42), x1, some (.int 0), some (.int (nI i + 1)), x4] [] (am_up (am_up J 44 i (nI (tpl n b i))) 43 i (tkc n b i)) w := fun hs x1 x4 => by
      have e : i = L := by
        apply Classical.byContradiction
        intro q
        exact hL.2 i (by omega) hs
      exact fin _ _ _ _ hJ3 (fun j hj => hz3 j (by omega))
    refine am_at hS (fun t => Nat.beq t 6) 120 6 ?_
    refine ⟨fun _ => ?_, fun q => absurd (show nI i < nI 161 from nI_lt (by omega) (by decide)) q⟩
    refine ⟨fun q => absurd q (by decide), fun _ => ?_⟩
    refine ⟨_, _, (by omega : k - 1 < k), r_skipBlanks zi (by omega) zt (zT2 J hJ) w (by omega), am_elim ?_⟩
    refine ⟨_, _, (by omega : k - 1 < k), r_endOfToken zi (by omega) zt (zT2 J hJ) w (show tpl n b i < 400 by omega), am_elim ?_⟩
    refine ⟨vp_in_nI (by omega) (by omega), ?_⟩
    rw [nI_clamp (by omega)]
    refine ⟨_, _, (by omega : k - 1 < k), r_tokenOf zi (by omega) zt (zT2 _ hJ2) w (show tpl n b i < 400 by omega), am_elim ?_⟩
    refine ⟨vp_in_nI (by omega) (by omega), ?_⟩
    rw [nI_clamp (by omega)]
    refine ⟨vp_in_nI (by omega) (by omega), ?_⟩
    rw [nI_clamp (by omega)]
    refine ⟨fun h59 => ?_, fun h59 => ?_⟩
    · exact last (Or.inl (ec.symm.trans h59)) _ _
    refine ⟨vp_in_nI (by omega) (by omega), ?_⟩
    rw [nI_clamp (by omega)]
    refine ⟨fun h70 => ?_, fun h70 => ?_⟩
    · exact last (Or.inr (ec.symm.trans h70)) _ _
    have hgo := hn (fun q => q.elim (fun z => h59 (ec.trans z)) (fun z => h70 (ec.trans z))) (some (.int (nI (tpl n b i)))) _ hJ3 hz3
    rw [← nI_1] at hgo
    exact hgo
  have loop := down (P := fun i => ∀ x4 J, am_fr [43, 44] I J → (∀ j, j < i → J 43 j = tkc n b j ∧ J 44 j = nI (tpl n b j)) → S 6 [some (.ref 42), some (.int (nI (tps n b i))), some (.int 1), some (.int (nI i)), x4] [] J w) L (body L (Nat.le_refl _) (fun q => absurd hL.1 q)) (fun i hi hn => body i (by omega) (fun _ => hn))
  refine am_at hS (fun t => Nat.beq t 6) 80 0 ?_
  exact loop 0 (Nat.zero_le _) none I am_fr.refl (fun j hj => absurd hj (by omega))

