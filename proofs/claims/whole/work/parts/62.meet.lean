/-! meet of both -/
def euc : Nat → Nat → Nat → Nat
  | 0, b, _ => b
  | f + 1, b, s => if s = 0 then b else euc f s (b % s)
theorem euc_gcd : ∀ (m f b s : Nat), 2 * m + 1 ≤ f → s < 2 ^ m → euc f b s = Nat.gcd s b
  | 0, f, b, s, hf, hs => by
    have e : s = 0 := by
      have : s < 1 := hs
      omega
    subst e
    obtain ⟨g, rfl⟩ : ∃ g, f = g + 1 := ⟨f - 1, by omega⟩
    rw [euc, if_pos rfl, Nat.gcd_zero_left]
  | m + 1, f, b, s, hf, hs => by
    obtain ⟨g, rfl⟩ : ∃ g, f = g + 1 + 1 := ⟨f - 2, by omega⟩
    rw [euc]
    by_cases h0 : s = 0
    · rw [if_pos h0, h0, Nat.gcd_zero_left]
    · rw [if_neg h0, euc]
      by_cases h1 : b % s = 0
      · rw [if_pos h1]
        exact (Nat.gcd_eq_left (Nat.dvd_of_mod_eq_zero h1)).symm
      · have hr : b % s < s := Nat.mod_lt _ (by omega)
        have hq : s % (b % s) < 2 ^ m := by
          rw [Nat.pow_succ] at hs
          by_cases hc : b % s ≤ s / 2
          · have := Nat.mod_lt s (show 0 < b % s by omega)
            omega
          · rw [Nat.mod_eq_sub_mod (by omega), Nat.mod_eq_of_lt (by omega)]
            omega
        rw [if_neg h1, euc_gcd m g _ _ (by omega) hq, ← Nat.gcd_rec, ← Nat.gcd_rec]
theorem r_commonDivisor {E : am_E} (zi : am_inj E) {k a b : Nat} (ha : a ≤ 512) (hb : b ≤ 512) (I : am_I) (w : Int64) : am_Ret E k Y_TC_commonDivisor [.int (nI a), .int (nI b)] I w (am_eq (some (.int (nI (Nat.gcd a b)))) I w) := by
  refine am_intro (pv_TC_commonDivisor E k) (by decide) zi ?_ rfl rfl ?_
  · rintro _ _ _ ⟨rfl, -⟩; rfl
  intro S hS
  rw [← euc_gcd 10 36 b a (by decide) (Nat.lt_of_le_of_lt ha (by decide))] at hS
  have loop := down (P := fun t => ∀ g s x5, g ≤ 512 → s ≤ 512 → euc (36 - t) g s = euc 36 b a → S 7 [some (.int (nI a)), some (.int (nI b)), some (.int (nI g)), some (.int (nI s)), some (.int (nI t)), x5] [] I w) 36 ?z ?s
  case z =>
    intro g s x5 hg hs e
    have e2 : g = euc 36 b a := e
    refine am_at hS (fun t => Nat.beq t 7) 60 7 ?_
    refine ⟨fun q => absurd q (by decide), fun _ => ?_⟩
    rw [← e2]
    exact ⟨rfl, rfl, rfl⟩
  case s =>
    intro t ht hn g s x5 hg hs e
    rw [show 36 - t = (36 - (t + 1)) + 1 by omega, show euc ((36 - (t + 1)) + 1) g s = if s = 0 then g else euc (36 - (t + 1)) s (g % s) from rfl] at e
    refine am_at hS (fun t => Nat.beq t 7) 60 7 ?_
    refine ⟨fun _ => ?_, fun q => absurd (show nI t < nI 36 from nI_lt ht (by decide)) q⟩
    refine ⟨fun h => ?_, fun h => ?_⟩
    · have h2 : nI s = nI 0 := h
      rw [neq (by omega) (by decide)] at h2
      rw [if_pos h2] at e
      rw [← e]
      exact ⟨rfl, rfl, rfl⟩
    · have h2 : ¬ nI s = nI 0 := h
      rw [neq (by omega) (by decide)] at h2
      rw [if_neg h2] at e
      refine ⟨h, ?_⟩
      have hm : g % s < s := Nat.mod_lt _ (by omega)
      have hq := hn s (g % s) (some (.int (nI (g % s)))) hs (by omega) e
      rw [← nI_1, ← pk_rem (a := g) (d := s) (by omega) (by omega) (by omega)] at hq
      exact hq
  exact am_at hS (fun t => Nat.beq t 7) 60 0 (loop 0 (Nat.zero_le _) b a none hb ha rfl)
theorem r_common {E : am_E} (zi : am_inj E) {k a b : Nat} (ha : a ≤ 512) (hb : b ≤ 512) (I : am_I) (w : Int64) : am_Ret E k Y_MO_common [.int (nI a), .int (nI b)] I w (am_eq (some (.int (nI (Nat.gcd a b)))) I w) := by
  refine am_intro (pv_MO_common E k) (by decide) zi ?_ rfl rfl ?_
  · rintro _ _ _ ⟨rfl, -⟩; rfl
  intro S hS
  have loop : ∀ f y x x4, y < f → x ≤ 512 → y ≤ 512 → Nat.gcd y x = Nat.gcd a b → S 4 [some (.int (nI a)), some (.int (nI b)), some (.int (nI x)), some (.int (nI y)), x4] [] I w := by
    intro f
    induction f with
    | zero => intro y x x4 h; exact absurd h (Nat.not_lt_zero _)
    | succ f ih =>
      intro y x x4 hf hx hy e
      refine am_at hS (fun t => Nat.beq t 4) 60 4 ?_
      refine ⟨fun h => ?_, fun h => ?_⟩
      · have h2 : nI y = nI 0 := h
        rw [neq (by omega) (by decide)] at h2
        rw [h2, Nat.gcd_zero_left] at e
        rw [e]
        exact ⟨rfl, rfl, rfl⟩
      · have h2 : ¬ nI y = nI 0 := h
        rw [neq (by omega) (by decide)] at h2
        refine ⟨h, ?_⟩
        have hm : x % y < y := Nat.mod_lt _ (by omega)
        have hq := ih (x % y) y (some (.int (nI (x % y)))) (by omega) hy (by omega) (by rw [← Nat.gcd_rec]; exact e)
        rw [← pk_rem (a := x) (d := y) (by omega) (by omega) (by omega)] at hq
        exact hq
  exact am_at hS (fun t => Nat.beq t 4) 60 0 (loop (b + 1) b a none (by omega) ha hb (Nat.gcd_comm _ _))
def NO_ : Int64 := -4611686018427387904
def aMeet (V : Tx) (r : Nat) (σ : St) (a b p : Int32) : Int64 := cond (two a b (sN σ) && (inb p 2 && (sF σ a.toNatClampNeg b.toNatClampNeg).isNone)) (if mA V r σ = none then NO_ else lN ((if p = 0 then tgN V r σ a.toNatClampNeg b.toNatClampNeg else (lA V r σ).length) / Nat.gcd (tgN V r σ a.toNatClampNeg b.toNatClampNeg) (lA V r σ).length)) NO_
theorem enc_m1 {σ : St} (zw : wf σ) {a b : Nat} : (enc (sF σ a b) = -1) = ((sF σ a b).isNone = true) := by
  apply propext
  cases h : sF σ a b with
  | none => exact ⟨fun _ => rfl, fun _ => rfl⟩
  | some f =>
    have := (fd_some h).1
    have := sM_le zw
    exact ⟨fun q => absurd q (nI_ne1 (by omega)), fun q => by cases q⟩
theorem c_meet {E : am_E} (zi : am_inj E) {k : Nat} (hk : 6 ≤ k) {σ : St} (zw : wf σ) {I : am_I} (zC : CS I σ) (w : Int64) {T r : Nat} {V : Tx} (zL : LC I T r V) (a b p : Int32) :
    am_Ret E k Y_TC_meet [.ref 0, .int a, .int b, .int p] I w (fun q I' w' => q = some (.long (aMeet V r σ a b p)) ∧ w' = w ∧ am_fs 25 [7] cBs I I') := by
  refine am_intro (pv_TC_meet E k) (by decide) zi ?_ rfl rfl ?_
  · rintro _ _ _ ⟨rfl, -⟩; trivial
  intro S hS
  have h9 := zw.1
  have hl := lA_len (V := V) (r := r) zw
  unfold aMeet at hS
  refine am_at hS (fun _ => false) 90 0 ?_
  refine ⟨_, _, (by omega : k - 1 < k), r_hasTwo zi (by omega) (by omega) a b I w zC.1.1, am_elim ?_⟩
  refine ⟨fun h => ?_, fun h => ?_⟩
  · rw [bi_eq0] at h
    rw [h]
    exact ⟨rfl, rfl, am_fs.refl⟩
  rw [bi_eq0, Bool.not_eq_false] at h
  obtain ⟨x, y, hx, hy, hxy, rfl, rfl⟩ := two_of h (by omega)
  rw [h, Bool.true_and, nI_clamp (by omega), nI_clamp (by omega)]
  refine ⟨fun h13 => ?_, fun h13 => ?_⟩
  · rw [inb_ff1 h13]
    exact ⟨rfl, rfl, am_fs.refl⟩
  refine ⟨fun h18 => ?_, fun h18 => ?_⟩
  · rw [inb_ff2 (x := p) (N := 2) (fun q => by
      have h2 : (1 : Int32) < p := h18
      rw [i_lt] at q h2
      rw [nI_toInt (by decide)] at q
      have e1 : (1 : Int32).toInt = 1 := rfl
      omega) (by decide)]
    exact ⟨rfl, rfl, am_fs.refl⟩
  have hp : inb p 2 = true := inb_tt h13 (by
    have h2 : ¬ (1 : Int32) < p := h18
    rw [i_lt] at h2 ⊢
    rw [nI_toInt (by decide)]
    have e1 : (1 : Int32).toInt = 1 := rfl
    omega) (by decide)
  rw [hp, Bool.true_and]
  refine ⟨_, _, (by omega : k - 1 < k), r_find zi zw zC w (a := x) (b := y) (by omega) (by omega), am_elim ?_⟩
  refine ⟨fun h31 => ?_, fun h31 => ?_⟩
  · rw [enc_m1 zw] at h31
    rw [h31, cond_true]
    refine ⟨_, _, (by omega : k - 1 < k), r_search zi (by omega) zw zC w zL, ?_⟩
    rintro _ J w1 ⟨rfl, rfl, hW, hB, fJ⟩
    have b2' : J 76 4 = nI (lA V r σ).length := hB.2.1
    have htn : tgN V r σ x y ≤ (lA V r σ).length := cnt_le _ _
    refine ⟨fun h2 => ?_, fun h2 => ?_⟩
    · rw [b2', size_0 zw] at h2
      rw [if_pos h2]
      exact ⟨rfl, rfl, fJ⟩
    rw [b2', size_0 zw] at h2
    rw [if_neg h2]
    have hpos : 0 < (lA V r σ).length := by
      cases hm : mA V r σ with
      | none => exact absurd hm h2
      | some v => exact lA_pos hm
    refine ⟨_, _, (by omega : k - 1 < k), r_times zi (by omega) hl (fun i hi => lA_lt zw hi) hB w1 (a := x) (b := y) (by omega) (by omega), am_elim ?_⟩
    have hg := Nat.gcd_pos_of_pos_right (tgN V r σ x y) hpos
    have hgl : Nat.gcd (tgN V r σ x y) (lA V r σ).length ≤ (lA V r σ).length := Nat.gcd_le_right _ hpos
    refine ⟨_, _, (by omega : k - 1 < k), (by rw [b2']; exact r_commonDivisor zi (a := tgN V r σ x y) (by omega) (by omega) J w1), am_elim ?_⟩
    refine ⟨fun h3 => ?_, fun h3 => ?_⟩
    · have h4 : nI (Nat.gcd (tgN V r σ x y) (lA V r σ).length) = nI 0 := h3
      rw [neq (by omega) (by decide)] at h4
      omega
    refine ⟨fun h5 => ?_, fun h5 => ?_⟩
    · refine ⟨h3, ?_⟩
      rw [if_pos h5]
      refine ⟨?_, rfl, fJ⟩
      show some (Value.long (nI (tgN V r σ x y) / nI (Nat.gcd (tgN V r σ x y) (lA V r σ).length)).toInt64) = _
      rw [pk_div (by omega) hg (by omega), nI_l (Nat.lt_of_le_of_lt (Nat.div_le_self _ _) (by omega))]
    · refine ⟨h3, ?_⟩
      rw [if_neg h5]
      refine ⟨?_, rfl, fJ⟩
      rw [b2', pk_div (by omega) hg (by omega), nI_l (Nat.lt_of_le_of_lt (Nat.div_le_self _ _) (by omega))]
  · rw [enc_m1 zw] at h31
    rw [Bool.eq_false_iff.mpr h31]
    exact ⟨rfl, rfl, am_fs.refl⟩
theorem inl_02 (u : Int32) : inl u.toInt64 0 1 = inb u 2 := by
  rw [inl_r]
  unfold inb
  rw [show (0 : Int64).toInt = 0 from rfl, show (1 : Int64).toInt = 1 from rfl]
  congr 1
  apply decide_eq_decide.mpr
  omega
theorem m_meet {E : am_E} (zi : am_inj E) {k : Nat} (hk : 46 ≤ k) {σ : St} (zw : wf σ) {I : am_I} (zR : RS I σ) (w : Int64) {T r : Nat} {V : Tx} (zL : RL I T r V) (a b p : Int32) :
    am_Ret E k Y_MO_meet [.ref 88, .int a, .int b, .int p] I w (fun q I' w' => q = some (.long (aMeet V r σ a b p)) ∧ am_fs 88 rdFs fAl I I') := by
  refine am_intro (pv_MO_meet E k) (by decide) zi ?_ rfl rfl ?_
  · rintro _ _ _ ⟨rfl, -⟩; trivial
  intro S hS
  have h9 := zw.1
  have c1 := zR.1.1
  unfold aMeet at hS
  refine am_at hS (fun _ => false) 90 0 ?_
  refine ⟨_, _, (by omega : k - 1 < k), r_isPerson zi I w (by omega) (by omega) c1 a, am_elim ?_⟩
  refine ⟨fun h5 => ?_, fun h5 => ?_⟩
  · rw [bi_eq0] at h5
    rw [show two a b (sN σ) = false by unfold two; rw [h5]; rfl]
    exact ⟨rfl, am_fs.refl⟩
  rw [bi_eq0, Bool.not_eq_false] at h5
  refine ⟨_, _, (by omega : k - 1 < k), r_isPerson zi I w (by omega) (by omega) c1 b, am_elim ?_⟩
  refine ⟨fun h13 => ?_, fun h13 => ?_⟩
  · rw [bi_eq0] at h13
    rw [show two a b (sN σ) = false by unfold two; rw [h13, Bool.false_and, Bool.and_false]]
    exact ⟨rfl, am_fs.refl⟩
  rw [bi_eq0, Bool.not_eq_false] at h13
  refine ⟨fun h18 => ?_, fun h18 => ?_⟩
  · rw [show two a b (sN σ) = false by unfold two; rw [h18, show (b == b) = true from beq_self_eq_true b, Bool.not_true, Bool.and_false, Bool.and_false]]
    exact ⟨rfl, am_fs.refl⟩
  have h : two a b (sN σ) = true := by unfold two; rw [h5, h13, beq_eq_false_iff_ne.mpr h18]; rfl
  obtain ⟨x, y, hx, hy, hxy, rfl, rfl⟩ := two_of h (by omega)
  rw [h, Bool.true_and, nI_clamp (by omega), nI_clamp (by omega)]
  refine ⟨_, _, (by omega : k - 1 < k), r_in zi I w _ _ _, am_elim ?_⟩
  rw [inl_02]
  refine ⟨fun h28 => ?_, fun h28 => ?_⟩
  · rw [bi_eq0] at h28
    rw [h28]
    exact ⟨rfl, am_fs.refl⟩
  rw [bi_eq0, Bool.not_eq_false] at h28
  rw [h28, Bool.true_and]
  refine ⟨_, _, (by omega : k - 1 < k), r_of zi zw zR w (a := x) (b := y) (by omega) (by omega), am_elim ?_⟩
  refine ⟨fun h31 => ?_, fun h31 => ?_⟩
  · rw [enc_m1 zw] at h31
    rw [h31, cond_true]
    refine ⟨_, _, (by omega : k - 1 < k), m_goesAll zi (by omega) zw zR w zL, ?_⟩
    rintro _ J w1 ⟨rfl, hA, fJ⟩
    have zJ := RS_al fJ (Or.inl rfl) (by decide) (by decide) zR
    have hl := lA_len (V := V) (r := r) zw
    have htn : tgN V r σ x y ≤ (lA V r σ).length := cnt_le _ _
    cases hm : mA V r σ with
    | none =>
      rw [if_pos rfl]
      exact ⟨fun _ => ⟨rfl, fJ⟩, fun q => absurd rfl q⟩
    | some v =>
      have hv := mA_le zw hm
      have hpos := lA_pos hm
      have hg := Nat.gcd_pos_of_pos_right (tgN V r σ x y) hpos
      have hgl : Nat.gcd (tgN V r σ x y) (lA V r σ).length ≤ (lA V r σ).length := Nat.gcd_le_right _ hpos
      rw [if_neg (fun q => by cases q)]
      refine ⟨fun q => absurd q (nI_ne1 (by omega)), fun _ => ?_⟩
      refine ⟨_, _, (by omega : k - 1 < k), m_togethers zi zw zJ w1 hA hm (by omega) (by omega), am_elim ?_⟩
      refine ⟨_, _, (by omega : k - 1 < k), m_alls zi zw zJ w1 hA hm, am_elim ?_⟩
      have hne : ¬ nI (Nat.gcd (tgN V r σ x y) (lA V r σ).length) = 0 := nI_ne0 hg (by omega)
      refine ⟨fun h5 => ?_, fun h5 => ?_⟩
      · rw [if_pos h5]
        refine ⟨_, _, (by omega : k - 1 < k), r_common zi (a := tgN V r σ x y) (by omega) (by omega) J w1, am_elim ?_⟩
        refine ⟨hne, ?_⟩
        refine ⟨?_, fJ⟩
        show some (Value.long (nI (tgN V r σ x y) / nI (Nat.gcd (tgN V r σ x y) (lA V r σ).length)).toInt64) = _
        rw [pk_div (by omega) hg (by omega), nI_l (Nat.lt_of_le_of_lt (Nat.div_le_self _ _) (by omega))]
      · rw [if_neg h5]
        refine ⟨_, _, (by omega : k - 1 < k), r_common zi (a := tgN V r σ x y) (by omega) (by omega) J w1, am_elim ?_⟩
        refine ⟨hne, ?_⟩
        refine ⟨?_, fJ⟩
        show some (Value.long (nI (lA V r σ).length / nI (Nat.gcd (tgN V r σ x y) (lA V r σ).length)).toInt64) = _
        rw [pk_div (by omega) hg (by omega), nI_l (Nat.lt_of_le_of_lt (Nat.div_le_self _ _) (by omega))]
  · rw [enc_m1 zw] at h31
    rw [Bool.eq_false_iff.mpr h31]
    exact ⟨rfl, am_fs.refl⟩
