/-! the RING: the class's -/
def bCC (I : am_I) (z : Bf) : Prop := I 71 5 = nI (bfN z) ∧ (∀ i, i < bfN z → I 73 i = nI (bfQ z i)) ∧ ∀ x, x < 18 → I 74 x = enc (bfB z x) ∧ ((bfB z x).isSome = true → I 75 x = nI (bfS z x))
theorem bIn_y {σ : St} (zw : wf σ) {p : Nat} {z : Bf} (h : bIn σ p z) {x y : Nat} (hx : bfB z x = some y) : y < 18 := by
  have h9 := zw.1
  by_cases e : x = 2 * p
  · rw [e, h.2.2.1.1] at hx
    cases hx
    have := (bIn_so h (x := 2 * p) (by rw [h.2.2.1.1]; rfl)).1
    omega
  · have := (bIn_so h ((h.2.2.2 x y hx).2.2 e).1).1
    omega
theorem r_arrive {E : am_E} (zi : am_inj E) {k : Nat} {I : am_I} (w : Int64) {z : Bf} (hC : bCC I z) (hy : ∀ x y, bfB z x = some y → y < 18) (hn : bfN z ≤ 18) {pl fm s : Nat} (hpl : pl < 18) (hl : bfB z pl = none → bfN z < 18) :
    am_Ret E k Y_Net_arrive [.ref 71, .int (nI pl), .int (nI fm), .int (nI s)] I w (fun q I' w' => q = none ∧ w' = w ∧ bCC I' (bArv z pl fm s) ∧ am_fs 71 [5] [73, 74, 75] I I') := by
  refine am_intro (pv_Net_arrive E k) (by decide) zi ?_ rfl rfl ?_
  · rintro _ _ _ ⟨rfl, -⟩; trivial
  intro S hS
  have bd : vp_in (nI pl) 18 := vp_in_nI (by omega) (by omega)
  have cl : (nI pl).toNatClampNeg = pl := nI_clamp (by omega)
  obtain ⟨c1, c2, c3⟩ := hC
  refine am_at hS (fun _ => false) 90 0 ?_
  refine ⟨bd, ?_⟩
  rw [cl, (c3 pl hpl).1]
  cases hb : bfB z pl with
  | some y =>
    have := hy pl y hb
    refine ⟨fun q => absurd q (nI_ne1 (by omega)), fun _ => ?_⟩
    rw [bArv_so hb]
    exact ⟨rfl, rfl, ⟨c1, c2, c3⟩, am_fs.refl⟩
  | none =>
    have hlt := hl hb
    refine ⟨fun _ => ?_, fun q => absurd rfl q⟩
    refine ⟨fun _ => ?_, fun q => absurd (show I 71 5 < 18 by rw [c1]; exact nI_lt hlt (by decide)) q⟩
    refine ⟨bd, ?_⟩
    refine ⟨bd, ?_⟩
    refine ⟨show vp_in (I 71 5) 18 by rw [c1]; exact vp_in_nI hlt (by omega), ?_⟩
    have e5 : am_up (am_up I 74 pl (nI fm)) 75 pl (nI s) 71 5 = nI (bfN z) := by rw [am_up_ne (by decide), am_up_ne (by decide), c1]
    rw [cl, e5, nI_clamp (show bfN z < 2 ^ 31 by omega)]
    rw [bArv_no hb]
    refine ⟨rfl, rfl, ⟨?_, fun i hi => ?_, fun x hx => ⟨?_, fun hs => ?_⟩⟩, ?_⟩
    · rw [am_seq, am_up_ne (by decide), am_up_ne (by decide), am_up_ne (by decide), c1, nI_1]
    · have hi : i < bfN z + 1 := hi
      show _ = nI (fup (bfQ z) (bfN z) pl i)
      rw [am_up_ne (by decide)]
      by_cases e : i = bfN z
      · rw [e, am_seq, fup_self]
      · rw [am_sne e, fup_ne e, am_up_ne (by decide), am_up_ne (by decide)]
        exact c2 i (by omega)
    · show _ = enc (fup (bfB z) pl (some fm) x)
      rw [am_up_ne (by decide), am_up_ne (by decide), am_up_ne (by decide)]
      by_cases e : x = pl
      · rw [e, am_seq, fup_self]; rfl
      · rw [am_sne e, fup_ne e]
        exact (c3 x hx).1
    · have hs : (fup (bfB z) pl (some fm) x).isSome = true := hs
      show _ = nI (fup (bfS z) pl s x)
      rw [am_up_ne (by decide), am_up_ne (by decide)]
      by_cases e : x = pl
      · rw [e, am_seq, fup_self]
      · rw [fup_ne e] at hs
        rw [am_sne e, fup_ne e, am_up_ne (by decide)]
        exact (c3 x hx).2 hs
    · exact am_fs.upo (am_fs.up (am_fs.up (am_fs.up am_fs.refl (by decide) (by decide)) (by decide) (by decide)) (by decide) (by decide)) (by decide)
theorem CS_net {I J : am_I} {σ : St} {js l : List Nat} (h : am_fs 71 js l I J) (hl : l = [73, 74, 75] ∨ l = [72, 73, 74, 75] ∨ l = [72]) (zC : CS I σ) : CS J σ := CS_of (fun q hq => h.1 q (by rintro hz; rcases hl with rfl | rfl | rfl <;> simp only [List.mem_cons, List.not_mem_nil, or_false] at hz hq <;> omega) (by rintro rfl; exact absurd hq (by decide))) zC
theorem r_leave {E : am_E} (zi : am_inj E) {k : Nat} (hk : 2 ≤ k) {σ : St} (zw : wf σ) {I : am_I} (zC : CS I σ) (w : Int64) {p : Nat} {z : Bf} (hI : bIn σ p z) (hC : bCC I z) {pl : Nat} (hpl : pl < 2 * sN σ) (hs : (bfB z pl).isSome = true) :
    am_Ret E k Y_Net_leave [.ref 71, .int (nI pl)] I w (fun q I' w' => q = none ∧ w' = w ∧ bCC I' (lvs σ pl z (sN σ)) ∧ am_fs 71 [5] [73, 74, 75] I I') := by
  refine am_intro (pv_Net_leave E k) (by decide) zi ?_ rfl rfl ?_
  · rintro _ _ _ ⟨rfl, -⟩; trivial
  intro S hS
  have h9 := zw.1
  have h36 := sM_le zw
  obtain ⟨d1, d2, d3⟩ := div2 (show pl < 18 by omega)
  have loop := down (P := fun o => ∀ J X4 X5, bCC J (lvs σ pl z o) → am_fs 71 [5] [73, 74, 75] I J → S 6 [some (.ref 71), some (.int (nI pl)), some (.int (nI (pl / 2))), some (.int (nI o)), X4, X5] [] J w) (sN σ) ?z ?s
  case z =>
    intro J X4 X5 hJ fJ
    have zJ := CS_net fJ (Or.inl rfl) zC
    refine am_at hS (fun t => Nat.beq t 6) 90 6 ?_
    exact ⟨fun q => absurd q (by show ¬ nI (sN σ) < J 1 0; rw [zJ.1.1]; exact nI_nlt (Nat.le_refl _) (by omega)), fun _ => ⟨rfl, rfl, hJ, fJ⟩⟩
  case s =>
    intro o ho hn J X4 X5 hJ fJ
    have zJ := CS_net fJ (Or.inl rfl) zC
    obtain ⟨b1, b2⟩ := bIn_lvs zw hI hs o (by omega)
    refine am_at hS (fun t => Nat.beq t 6) 90 6 ?_
    refine ⟨fun _ => ?_, fun q => absurd (show nI o < J 1 0 by rw [zJ.1.1]; exact nI_lt ho (by omega)) q⟩
    refine ⟨_, _, (by omega : k - 1 < k), r_find zi zw zJ w (a := pl / 2) (b := o) (by omega) (by omega), am_elim ?_⟩
    cases hf : sF σ (pl / 2) o with
    | none =>
      refine ⟨fun _ => ?_, fun q => absurd rfl q⟩
      have h2 := hn J (some (.int (-1))) X5 (by rw [lvs_no hf]; exact hJ) fJ
      rw [← nI_1] at h2
      exact h2
    | some f =>
      obtain ⟨hfM, -⟩ := fd_some hf
      have hh := hxo_lt (σ := σ) (f := f) (pl := pl)
      obtain ⟨e1, e2, e3, -⟩ := zJ.2.2.1 f hfM
      have e75 := (hJ.2.2 pl (by omega)).2 (b2 pl hs)
      have hlv := lvs_so (z := z) hf
      have hcall := r_arrive zi (k := k - 1) w hJ (fun x y h => bIn_y zw b1 h) (bIn_le b1) (pl := 2 * o + hxo σ f pl) (fm := pl) (s := bfS (lvs σ pl z o) pl + 1) (by omega) (fun h => bIn_new b1 (by omega) h)
      rw [← hlv] at hcall
      have aft : ∀ J2 X5, bCC J2 (lvs σ pl z (o + 1)) → am_fs 71 [5] [73, 74, 75] J J2 → S 6 [some (.ref 71), some (.int (nI pl)), some (.int (nI (pl / 2))), some (.int (nI o + 1)), some (.int (nI f)), X5] [] J2 w := fun J2 X5 hJ2 fJ2 => by
        have h2 := hn J2 (some (.int (nI f))) X5 hJ2 (fJ.trans fJ2)
        rw [← nI_1] at h2
        exact h2
      rw [show enc (some f) = nI f from rfl]
      refine ⟨fun q => absurd q (nI_ne1 (by omega)), fun _ => ?_⟩
      refine ⟨vp_in_nI (by omega) (by omega), ?_⟩
      rw [nI_clamp (by omega), e3]
      refine ⟨fun h => ?_, fun h => ?_⟩
      · refine ⟨by decide, ?_⟩
        refine ⟨vp_in_nI (by omega) (by omega), ?_⟩
        rw [nI_clamp (by omega)]
        have hx : hxo σ f pl = 1 - pl % 2 := if_pos h
        rw [hx] at hcall
        refine ⟨_, _, (by omega : k - 1 < k), (by rw [mul2, d2, nI_add, e75, nI_1]; exact hcall), ?_⟩
        rintro _ J2 w1 ⟨rfl, rfl, hJ2, fJ2⟩
        exact aft J2 _ hJ2 fJ2
      · refine ⟨by decide, ?_⟩
        refine ⟨vp_in_nI (by omega) (by omega), ?_⟩
        rw [nI_clamp (by omega)]
        have hx : hxo σ f pl = pl % 2 := if_neg h
        rw [hx] at hcall
        refine ⟨_, _, (by omega : k - 1 < k), (by rw [mul2, d3, nI_add, e75, nI_1]; exact hcall), ?_⟩
        rintro _ J2 w1 ⟨rfl, rfl, hJ2, fJ2⟩
        exact aft J2 _ hJ2 fJ2
  refine am_at hS (fun t => Nat.beq t 6) 90 0 ?_
  refine ⟨by decide, ?_⟩
  rw [d1]
  exact loop 0 (Nat.zero_le _) I none none hC am_fs.refl
theorem r_walkC {E : am_E} (zi : am_inj E) {k : Nat} (hk : 3 ≤ k) {σ : St} (zw : wf σ) {I : am_I} (zC : CS I σ) (w : Int64) {p : Nat} (hp : p < sN σ) :
    am_Ret E k Y_Net_walk [.ref 71, .int (nI p)] I w (fun q I' w' => q = none ∧ w' = w ∧ bCC I' (bfE σ p) ∧ am_fs 71 [5] [73, 74, 75] I I') := by
  refine am_intro (pv_Net_walk E k) (by decide) zi ?_ rfl rfl ?_
  · rintro _ _ _ ⟨rfl, -⟩; trivial
  intro S hS
  have h9 := zw.1
  have loop := down (P := fun i => ∀ J, bCC J (bfi σ p i) → am_fs 71 [5] [73, 74, 75] I J → S 26 [some (.ref 71), some (.int (nI p)), some (.int (nI i))] [] J w) 18 ?z ?s
  case z =>
    intro J hJ fJ
    refine am_at hS (fun t => Nat.beq t 26) 90 26 ?_
    exact ⟨fun q => absurd q (nI_nlt (Nat.le_refl 18) (by decide)), fun _ => ⟨rfl, rfl, hJ, fJ⟩⟩
  case s =>
    intro i hi hn J hJ fJ
    have zJ := CS_net fJ (Or.inl rfl) zC
    have hI := bIn_i zw hp i
    have hle := bIn_le hI
    obtain ⟨c1, c2, c3⟩ := hJ
    refine am_at hS (fun t => Nat.beq t 26) 90 26 ?_
    refine ⟨fun _ => ?_, fun q => absurd (show nI i < nI 18 from nI_lt hi (by decide)) q⟩
    refine ⟨fun h => ?_, fun h => ?_⟩
    · rw [c1, nlt (by omega) (by omega)] at h
      obtain ⟨q1, q2⟩ := hI.2.1 i h
      refine ⟨vp_in_nI (by omega) (by omega), ?_⟩
      rw [nI_clamp (by omega), c2 i h]
      refine ⟨_, _, (by omega : k - 1 < k), r_leave zi (by omega) zw zJ w hI ⟨c1, c2, c3⟩ q1 q2, ?_⟩
      rintro _ J2 w1 ⟨rfl, rfl, hJ2, fJ2⟩
      have h2 := hn J2 (by rw [bfi_s h]; exact hJ2) (fJ.trans fJ2)
      rw [← nI_1] at h2
      exact h2
    · rw [c1, nlt (by omega) (by omega)] at h
      rw [show bfE σ p = bfi σ p i from (bfi_end zw hp h).symm]
      exact ⟨rfl, rfl, ⟨c1, c2, c3⟩, fJ⟩
  refine am_at hS (fun t => Nat.beq t 26) 90 0 ?_
  refine ⟨_, _, (by omega : k - 1 < k), r_fill zi (a := 74) (n := 18) rfl (by decide) I w (-1), am_elim ?_⟩
  have z0 : bCC (am_up (am_fill I 74 18 (-1)) 71 5 0) (0, fun _ => 0, fun _ => none, fun _ => 0) := by
    refine ⟨am_seq, fun i hi => absurd hi (Nat.not_lt_zero _), fun x hx => ⟨?_, fun hs => (by cases hs)⟩⟩
    rw [am_up_ne (by decide)]
    exact if_pos ⟨rfl, hx⟩
  have hcall := r_arrive zi (k := k - 1) w z0 (fun x y h => by cases h) (by decide) (pl := 2 * p) (fm := 2 * p) (s := 0) (by omega) (fun _ => by decide)
  refine ⟨_, _, (by omega : k - 1 < k), (by rw [mul2]; exact hcall), ?_⟩
  rintro _ J w1 ⟨rfl, rfl, hJ, fJ⟩
  have f0 : am_fs 71 [5] [73, 74, 75] I (am_fill I 74 18 (-1)) := ⟨fun q h1 h2 => by
    funext j
    exact if_neg (fun e => h1 (by rw [e.1]; decide)), fun j _ => if_neg (fun e => absurd e.1 (by decide))⟩
  exact loop 0 (Nat.zero_le _) J hJ ((am_fs.upo f0 (by decide)).trans fJ)
def bRG (I : am_I) (σ : St) (o : Option (Nat × Nat)) : Prop := (o = none → I 71 2 = 0) ∧ ∀ n q, o = some (n, q) → I 71 2 = nI n ∧ ∀ k, k < n → I 72 k = nI (rrw σ n q k)
theorem bRG_fs {I J : am_I} {σ : St} {o : Option (Nat × Nat)} (h : am_fs 71 [5] [73, 74, 75] I J) (hR : bRG I σ o) : bRG J σ o := by
  refine ⟨fun e => ?_, fun n q e => ?_⟩
  · rw [h.2 2 (by decide)]; exact hR.1 e
  · rw [h.2 2 (by decide), h.1 72 (by decide) (by decide)]; exact hR.2 n q e
theorem m1 {x : Int32} : x + (-1) = x - 1 := by rw [Int32.sub_eq_add_neg]
theorem r_keep {E : am_E} (zi : am_inj E) {k : Nat} {σ : St} (zw : wf σ) {I : am_I} (w : Int64) {p : Nat} (hp : p < sN σ) (hC : bCC I (bfE σ p)) (hR : bRG I σ (rgN σ p)) :
    am_Ret E k Y_Net_keepIfShorter [.ref 71, .int (nI p)] I w (fun q I' w' => q = none ∧ w' = w ∧ bRG I' σ (rgN σ (p + 1)) ∧ am_fs 71 [2] [72] I I') := by
  refine am_intro (pv_Net_keepIfShorter E k) (by decide) zi ?_ rfl rfl ?_
  · rintro _ _ _ ⟨rfl, -⟩; trivial
  intro S hS
  have h9 := zw.1
  have hI : bIn σ p (bfE σ p) := bIn_i zw hp 18
  have hno := rg_no (σ := σ) (p := p)
  have erw : ∀ n k, rrw σ n p k = bch (bfE σ p) (2 * p + 1) (n - k) / 2 := fun _ _ => rfl
  obtain ⟨z, ez⟩ : ∃ z, z = bfE σ p := ⟨_, rfl⟩
  rw [← ez] at hI hC hno
  have hle := bIn_le hI
  have e2p : 2 * nI p + 1 = nI (2 * p + 1) := by rw [mul2, nI_1]
  have bd : vp_in (nI (2 * p + 1)) 18 := vp_in_nI (by omega) (by omega)
  have cl : (nI (2 * p + 1)).toNatClampNeg = 2 * p + 1 := nI_clamp (by omega)
  obtain ⟨c1, c2, c3⟩ := hC
  refine am_at hS (fun t => Nat.beq t 37) 90 0 ?_
  refine ⟨by rw [e2p]; exact bd, ?_⟩
  rw [e2p, cl, (c3 _ (by omega)).1]
  cases hb : bfB z (2 * p + 1) with
  | none =>
    refine ⟨fun _ => ?_, fun q => absurd rfl q⟩
    rw [hno hb]
    exact ⟨rfl, rfl, hR, am_fs.refl⟩
  | some y =>
    have hy := bIn_y zw hI hb
    have hs : (bfB z (2 * p + 1)).isSome = true := by rw [hb]; rfl
    have s1 := (bIn_so hI hs).2
    have e75 := (c3 (2 * p + 1) (by omega)).2 hs
    obtain ⟨n, en⟩ : ∃ n, n = bfS z (2 * p + 1) := ⟨_, rfl⟩
    rw [← en] at e75 s1
    have a37 : rgN σ (p + 1) = some (n, p) → S 37 [some (.ref 71), some (.int (nI p)), some (.int (nI (2 * p + 1))), none, none] [] I w := by
      intro hrg
      rw [hrg] at hS
      have loop := down (P := fun j => ∀ J, am_fs 71 [2] [72] I J → J 71 2 = nI n → (∀ k, n - j ≤ k → k < n → J 72 k = nI (rrw σ n p k)) → S 57 [some (.ref 71), some (.int (nI p)), some (.int (nI (2 * p + 1))), some (.int (nI (bch z (2 * p + 1) j))), some (.int (nI (n - j) - 1))] [] J w) n ?z ?s
      case z =>
        intro J fJ h2 hk
        refine am_at hS (fun t => Nat.beq t 57) 90 57 ?_
        rw [Nat.sub_self]
        refine ⟨fun _ => ?_, fun q => absurd (show nI 0 - 1 < 0 by decide) q⟩
        exact ⟨rfl, rfl, ⟨fun e => (by cases e), fun n' q' e => (by cases e; exact ⟨h2, fun k hkn => hk k (by omega) hkn⟩)⟩, fJ⟩
      case s =>
        intro j hj hn J fJ h2 hk
        obtain ⟨g1, g2⟩ := bch_ok hI hs j (by omega)
        obtain ⟨x, ex⟩ := isS g1
        have hx := bIn_y zw hI ex
        have hc18 := (bIn_so hI g1).1
        have e74 : J 74 (bch z (2 * p + 1) j) = nI x := by
          rw [fJ.1 74 (by decide) (by decide), (c3 _ (by omega)).1, ex]
          rfl
        have ech : bch z (2 * p + 1) (j + 1) = x := by rw [bch, ex]; rfl
        refine am_at hS (fun t => Nat.beq t 57) 90 57 ?_
        rw [sub_one (show 0 < n - j by omega) (by omega)]
        refine ⟨fun q => absurd (show nI (n - j - 1) < nI 0 from q) (nI_nlt (Nat.zero_le _) (by omega)), fun _ => ?_⟩
        refine ⟨vp_in_nI (by omega) (by omega), ?_⟩
        rw [nI_clamp (by omega), e74]
        refine ⟨by decide, ?_⟩
        refine ⟨vp_in_nI (by omega) (by omega), ?_⟩
        rw [nI_clamp (by omega), (div2 hx).1]
        have hq := hn (am_up J 72 (n - j - 1) (nI (x / 2))) (am_fs.up fJ (by decide) (by decide)) (by rw [am_up_ne (by decide)]; exact h2) (fun k hk1 hk2 => by
          by_cases e : k = n - j - 1
          · rw [e, am_seq, erw, ← ez, show n - (n - j - 1) = j + 1 by omega, ech]
          · rw [am_sne e]
            exact hk k (by omega) hk2)
        rw [ech, show n - (j + 1) = n - j - 1 by omega, ← m1] at hq
        exact hq
      refine am_at hS (fun t => Nat.beq t 57) 90 37 ?_
      refine ⟨bd, ?_⟩
      rw [cl, e75]
      have hq := loop 0 (Nat.zero_le _) (am_up I 71 2 (nI n)) (am_fs.upo am_fs.refl (by decide)) am_seq (fun k h1 h2 => absurd h1 (by omega))
      have e0 : am_up I 71 2 (nI n) 71 2 = nI n := am_seq
      rw [Nat.sub_zero, ← e0] at hq
      exact hq
    refine ⟨fun q => absurd q (nI_ne1 (by omega)), fun _ => ?_⟩
    rw [ez] at hb
    cases hr : rgN σ p with
    | none =>
      have e0 : I 71 2 = 0 := hR.1 hr
      refine ⟨fun q => absurd (show (0 : Int32) < I 71 2 from q) (by rw [e0]; decide), fun _ => ?_⟩
      exact a37 (by rw [rg_0 hb hr, ← ez, en])
    | some v =>
      obtain ⟨m, x⟩ := v
      obtain ⟨-, -, -, m0, m18⟩ := rg_ok zw (by omega) hr
      have hrg := rg_1 hb hr
      rw [← ez, ← en] at hrg
      have e0 : I 71 2 = nI m := (hR.2 m x hr).1
      refine ⟨fun _ => ?_, fun q => absurd (show (0 : Int32) < I 71 2 by rw [e0]; exact nI_lt m0 (by omega)) q⟩
      refine ⟨bd, ?_⟩
      rw [cl, e75]
      refine ⟨fun h => ?_, fun h => ?_⟩
      · rw [e0, nlt (by omega) (by omega)] at h
        exact a37 (by rw [hrg, if_pos h])
      · rw [e0, nlt (by omega) (by omega)] at h
        rw [hrg, if_neg h]
        exact ⟨rfl, rfl, by rw [← hr]; exact hR, am_fs.refl⟩
theorem r_searchRing {E : am_E} (zi : am_inj E) {k : Nat} (hk : 4 ≤ k) {σ : St} (zw : wf σ) {I : am_I} (zC : CS I σ) (w : Int64) :
    am_Ret E k Y_Net_searchRing [.ref 71] I w (fun q I' w' => q = none ∧ w' = w ∧ bRG I' σ (rgN σ (sN σ)) ∧ am_fs 71 [2, 5] [72, 73, 74, 75] I I') := by
  refine am_intro (pv_Net_searchRing E k) (by decide) zi ?_ rfl rfl ?_
  · rintro _ _ _ ⟨rfl, -⟩; trivial
  intro S hS
  have h9 := zw.1
  have loop := down (P := fun p => ∀ J, bRG J σ (rgN σ p) → am_fs 71 [2, 5] [72, 73, 74, 75] I J → S 7 [some (.ref 71), some (.int (nI p))] [] J w) (sN σ) ?z ?s
  case z =>
    intro J hJ fJ
    have zJ := CS_net fJ (Or.inr (Or.inl rfl)) zC
    refine am_at hS (fun t => Nat.beq t 7) 90 7 ?_
    exact ⟨fun q => absurd q (by show ¬ nI (sN σ) < J 1 0; rw [zJ.1.1]; exact nI_nlt (Nat.le_refl _) (by omega)), fun _ => ⟨rfl, rfl, hJ, fJ⟩⟩
  case s =>
    intro p hp hn J hJ fJ
    have zJ := CS_net fJ (Or.inr (Or.inl rfl)) zC
    refine am_at hS (fun t => Nat.beq t 7) 90 7 ?_
    refine ⟨fun _ => ?_, fun q => absurd (show nI p < J 1 0 by rw [zJ.1.1]; exact nI_lt hp (by omega)) q⟩
    refine ⟨_, _, (by omega : k - 1 < k), r_walkC zi (by omega) zw zJ w hp, ?_⟩
    rintro _ J2 w1 ⟨rfl, rfl, hJ2, fJ2⟩
    refine ⟨_, _, (by omega : k - 1 < k), r_keep zi zw w1 hp hJ2 (bRG_fs fJ2 hJ), ?_⟩
    rintro _ J3 w2 ⟨rfl, rfl, hJ3, fJ3⟩
    have h2 := hn J3 hJ3 ((fJ.trans (fJ2.mono (by decide) (by decide))).trans (fJ3.mono (by decide) (by decide)))
    rw [← nI_1] at h2
    exact h2
  refine am_at hS (fun t => Nat.beq t 7) 90 0 ?_
  exact loop 0 (Nat.zero_le _) (am_up I 71 2 0) ⟨fun _ => am_seq, fun n q e => (by rw [rg_z] at e; cases e)⟩ (am_fs.upo am_fs.refl (by decide))
theorem c_ring {E : am_E} (zi : am_inj E) {k : Nat} (hk : 5 ≤ k) {σ : St} (zw : wf σ) {I : am_I} (zC : CS I σ) (w : Int64) (i : Int32) :
    am_Ret E k Y_TC_ring [.ref 0, .int i] I w (fun q I' w' => q = some (.int (aRing σ i)) ∧ w' = w ∧ am_fs 71 [2, 5] [72, 73, 74, 75] I I') := by
  refine am_intro (pv_TC_ring E k) (by decide) zi ?_ rfl rfl ?_
  · rintro _ _ _ ⟨rfl, -⟩; rfl
  intro S hS
  unfold aRing at hS
  refine am_at hS (fun t => Nat.beq t 30) 90 0 ?_
  refine ⟨_, _, (by omega : k - 1 < k), r_searchRing zi (by omega) zw zC w, ?_⟩
  rintro _ J w1 ⟨rfl, rfl, hR, fJ⟩
  cases hr : rgN σ (sN σ) with
  | none =>
    rw [hr] at hS
    have e0 : J 71 2 = 0 := hR.1 hr
    have a30 : S 30 [some (.ref 0), some (.int i)] [] J w1 := by
      refine am_at hS (fun _ => false) 90 30 ?_
      refine ⟨fun _ => ⟨rfl, rfl, fJ⟩, fun h1 => ?_⟩
      exact ⟨fun h2 => absurd (show i < 0 by rw [← e0]; exact h2) h1, fun _ => ⟨rfl, rfl, fJ⟩⟩
    refine ⟨fun _ => ?_, fun _ => a30⟩
    exact ⟨fun q => absurd (show (0 : Int32) < J 71 2 from q) (by rw [e0]; decide), fun _ => a30⟩
  | some v =>
    obtain ⟨n, x⟩ := v
    obtain ⟨-, -, -, n0, n18⟩ := rg_ok zw (Nat.le_refl _) hr
    rw [hr] at hS
    dsimp only at hS
    obtain ⟨e0, e72⟩ := hR.2 n x hr
    refine ⟨fun h => ?_, fun h => ?_⟩
    · refine ⟨fun _ => ?_, fun q => absurd (show (0 : Int32) < J 71 2 by rw [e0]; exact nI_lt n0 (by omega)) q⟩
      exact ⟨congrArg (fun y => some (Value.int y)) (e0.trans (if_pos (show i = -1 from h)).symm), rfl, fJ⟩
    · have h : ¬ i = -1 := h
      rw [if_neg h] at hS
      refine am_at hS (fun _ => false) 90 30 ?_
      have e00 : (0 : Int32).toInt = 0 := rfl
      refine ⟨fun h1 => ?_, fun h1 => ?_⟩
      · rw [i_lt, e00] at h1
        rw [show inb i n = false by unfold inb; rw [decide_eq_false (by omega)]; rfl]
        exact ⟨rfl, rfl, fJ⟩
      · rw [i_lt, e00] at h1
        refine ⟨fun h2 => ?_, fun h2 => ?_⟩
        · rw [e0, i_lt, nI_toInt (by omega)] at h2
          have hin : inb i n = true := by unfold inb; rw [decide_eq_true (by omega), decide_eq_true (by omega)]; rfl
          rw [hin, cond_true]
          obtain ⟨y, hy, rfl⟩ := inb_of hin (by omega)
          refine ⟨vp_in_nI (by omega) (by omega), ?_⟩
          rw [nI_clamp (by omega)]
          exact ⟨congrArg (fun y => some (Value.int y)) (e72 y hy), rfl, fJ⟩
        · rw [e0, i_lt, nI_toInt (by omega)] at h2
          rw [show inb i n = false by unfold inb; rw [decide_eq_false (show ¬ i.toInt < n by omega), Bool.and_false]]
          exact ⟨rfl, rfl, fJ⟩
