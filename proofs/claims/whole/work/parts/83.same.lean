/-! CAMPINGS: same: both -/
theorem go2 : ∀ {b c : Bool} {P : Prop}, b = true → c = true → P → (match b, c with | true, true => P | _, _ => False)
  | true, true, _, _, _, h => h
def alq (a b : Nat → Nat) (p : Nat) : Nat → Bool
  | 0 => true
  | q + 1 => alq a b p q && (decide (a q = a p) == decide (b q = b p))
def alk (a b : Nat → Nat) (p : Nat) : Bool := (decide (a p = 9) == decide (b p = 9)) && alq a b p p
theorem alq_no {a b : Nat → Nat} {p q : Nat} (h : alq a b p q = false) : ∀ x, q ≤ x → alq a b p x = false
  | 0, hx => by rw [show q = 0 by omega] at h; exact h
  | x + 1, hx => by
    by_cases e : q = x + 1
    · rw [← e]; exact h
    · rw [alq, alq_no h x (by omega)]; rfl
theorem oB_isc {o : Nat} (h : oB o) : am_isc 8 o = true := by
  unfold oB at h
  rcases h with rfl | rfl | rfl | rfl | rfl | rfl | rfl | rfl | rfl | rfl | rfl <;> decide +kernel
theorem r_isAlike {E : am_E} (zi : am_inj E) {k : Nat} (hk : 1 ≤ k) {I : am_I} (w : Int64) {o1 o2 k1 k2 : Nat} {a b : Nat → Nat} (ho1 : oB o1) (ho2 : oB o2) (hO1 : cpO I o1 k1 a) (hO2 : cpO I o2 k2 b) {p : Nat} (hp : p < 9) :
    am_Ret E k Y_TC_isAlikeFor [.ref 0, .int (nI p), .ref o1, .ref o2] I w (am_eq (some (.int (bi (alk a b p)))) I w) := by
  refine am_intro (pv_TC_isAlikeFor E k) (by decide) zi ?_ rfl rfl ?_
  · rintro _ _ _ ⟨rfl, -⟩; exact bi_nr _
  intro S hS
  have i1 := oB_isc ho1
  have i2 := oB_isc ho2
  have ap := isc_lt (hO1.2.1 p)
  have bp := isc_lt (hO2.2.1 p)
  unfold alk at hS
  have l46 := down (P := fun q => alq a b p q = true → (decide (a p = 9) == decide (b p = 9)) = true → S 46 [some (.ref 0), some (.int (nI p)), some (.ref o1), some (.ref o2), some (.int (nI (a p))), some (.int (nI (b p))), some (.int (nI q))] [] I w) p ?z ?s
  case z =>
    intro hq h9
    rw [hq, h9] at hS
    refine am_at hS (fun t => Nat.beq t 46) 60 46 ?_
    exact ⟨fun q => absurd q (nI_nlt (Nat.le_refl _) (by omega)), fun _ => ⟨rfl, rfl, rfl⟩⟩
  case s =>
    intro q hq hn ha h9
    have aq := isc_lt (hO1.2.1 q)
    have bq := isc_lt (hO2.2.1 q)
    have a84 : ∀ u v, u = decide (a q = a p) → v = decide (b q = b p) → S 84 [some (.ref 0), some (.int (nI p)), some (.ref o1), some (.ref o2), some (.int (nI (a p))), some (.int (nI (b p))), some (.int (nI q))] [.int (bi v), .int (bi u)] I w := by
      intro u v hu hv
      refine am_at hS (fun t => Nat.beq t 46) 60 84 ?_
      refine ⟨fun h => ?_, fun h => ?_⟩
      · rw [bi_inj] at h
        have hq2 := hn (by rw [alq, ha, ← hu, ← hv, h]; cases v <;> rfl) h9
        rw [← nI_1] at hq2
        exact hq2
      · rw [bi_inj] at h
        have e : alq a b p (q + 1) = false := by rw [alq, ha, ← hu, ← hv]; cases u <;> cases v <;> first | rfl | exact absurd rfl h
        rw [h9, alq_no e p (by omega)]
        exact ⟨rfl, rfl, rfl⟩
    have a68 : ∀ u, u = decide (a q = a p) → S 68 [some (.ref 0), some (.int (nI p)), some (.ref o1), some (.ref o2), some (.int (nI (a p))), some (.int (nI (b p))), some (.int (nI q))] [.int (bi u)] I w := by
      intro u hu
      refine am_at hS (fun t => Nat.beq t 84) 60 68 ?_
      refine go2 i2 rfl ?_
      refine ⟨_, _, (by omega : k - 1 < k), r_campOf zi w ho2 hO2 (p := q) (by omega), am_elim ?_⟩
      refine ⟨fun h => ?_, fun h => ?_⟩
      · rw [neq (by omega) (by omega)] at h
        exact a84 u true hu (decide_eq_true h).symm
      · rw [neq (by omega) (by omega)] at h
        exact a84 u false hu (decide_eq_false h).symm
    refine am_at hS (fun t => Nat.beq t 46 || Nat.beq t 68) 60 46 ?_
    refine ⟨fun _ => ?_, fun h => absurd (nI_lt hq (by omega)) h⟩
    refine go2 i1 rfl ?_
    refine ⟨_, _, (by omega : k - 1 < k), r_campOf zi w ho1 hO1 (p := q) (by omega), am_elim ?_⟩
    refine ⟨fun h => ?_, fun h => ?_⟩
    · rw [neq (by omega) (by omega)] at h
      exact a68 true (decide_eq_true h).symm
    · rw [neq (by omega) (by omega)] at h
      exact a68 false (decide_eq_false h).symm
  have a38 : ∀ u v, u = decide (a p = 9) → v = decide (b p = 9) → S 38 [some (.ref 0), some (.int (nI p)), some (.ref o1), some (.ref o2), some (.int (nI (a p))), some (.int (nI (b p))), none] [.int (bi v), .int (bi u)] I w := by
    intro u v hu hv
    refine am_at hS (fun t => Nat.beq t 46) 60 38 ?_
    refine ⟨fun h => ?_, fun h => ?_⟩
    · rw [bi_inj] at h
      exact l46 0 (Nat.zero_le _) rfl (by rw [← hu, ← hv, h]; cases v <;> rfl)
    · rw [bi_inj] at h
      rw [← hu, ← hv, show (u == v) = false by cases u <;> cases v <;> first | rfl | exact absurd rfl h]
      exact ⟨rfl, rfl, rfl⟩
  have a26 : ∀ u, u = decide (a p = 9) → S 26 [some (.ref 0), some (.int (nI p)), some (.ref o1), some (.ref o2), some (.int (nI (a p))), some (.int (nI (b p))), none] [.int (bi u)] I w := by
    intro u hu
    refine am_at hS (fun t => Nat.beq t 38) 60 26 ?_
    refine ⟨fun h => ?_, fun h => ?_⟩
    · have h : b p = 9 := (neq (b := 9) (by omega) (by omega)).mp h
      exact a38 u true hu (decide_eq_true h).symm
    · have h : ¬ b p = 9 := fun q => h ((neq (b := 9) (by omega) (by omega)).mpr q)
      exact a38 u false hu (decide_eq_false h).symm
  refine am_at hS (fun t => Nat.beq t 26) 60 0 ?_
  refine go2 i1 rfl ?_
  refine ⟨_, _, (by omega : k - 1 < k), r_campOf zi w ho1 hO1 hp, am_elim ?_⟩
  refine go2 i2 rfl ?_
  refine ⟨_, _, (by omega : k - 1 < k), r_campOf zi w ho2 hO2 hp, am_elim ?_⟩
  refine ⟨fun h => ?_, fun h => ?_⟩
  · have h : a p = 9 := (neq (b := 9) (by omega) (by omega)).mp h
    exact a26 true (decide_eq_true h).symm
  · have h : ¬ a p = 9 := fun q => h ((neq (b := 9) (by omega) (by omega)).mpr q)
    exact a26 false (decide_eq_false h).symm
def alN_ (a b : Nat → Nat) : Nat → Bool
  | 0 => true
  | p + 1 => alN_ a b p && alk a b p
theorem alN_no {a b : Nat → Nat} {p : Nat} (h : alN_ a b p = false) : ∀ x, p ≤ x → alN_ a b x = false
  | 0, hx => by rw [show p = 0 by omega] at h; exact h
  | x + 1, hx => by
    by_cases e : p = x + 1
    · rw [← e]; exact h
    · rw [alN_, alN_no h x (by omega)]; rfl
def aSam (σ : St) (z : Cz) (x y : Int32) : Int32 := cond (inb x (zN z) && inb y (zN z)) (bi (alN_ (zA z x.toNatClampNeg) (zA z y.toNatClampNeg) (sN σ))) (-2)
theorem c_same {E : am_E} (zi : am_inj E) {k : Nat} (hk : 2 ≤ k) {σ : St} (zw : wf σ) {I : am_I} (zC : CS I σ) (w : Int64) {z : Cz} (hz : wfz z) (hZ : cZ I z) (x y : Int32) :
    am_Ret E k Y_TC_same [.ref 0, .int x, .int y] I w (am_eq (some (.int (aSam σ z x y))) I w) := by
  refine am_intro (pv_TC_same E k) (by decide) zi ?_ rfl rfl ?_
  · rintro _ _ _ ⟨rfl, -⟩; rfl
  intro S hS
  have h9 := zw.1
  have hz1 := hz.1
  unfold aSam at hS
  refine am_at hS (fun t => Nat.beq t 21) 60 0 ?_
  refine ⟨_, _, (by omega : k - 1 < k), r_isCamping zi (by omega) x I w hZ.1, am_elim ?_⟩
  refine ⟨fun h => ?_, fun h => ?_⟩
  · rw [bi_eq0] at h
    rw [h]
    exact ⟨rfl, rfl, rfl⟩
  rw [bi_eq0, Bool.not_eq_false] at h
  refine ⟨_, _, (by omega : k - 1 < k), r_isCamping zi (by omega) y I w hZ.1, am_elim ?_⟩
  refine ⟨fun g => ?_, fun g => ?_⟩
  · rw [bi_eq0] at g
    rw [h, g]
    exact ⟨rfl, rfl, rfl⟩
  rw [bi_eq0, Bool.not_eq_false] at g
  rw [h, g] at hS
  obtain ⟨c, hc, rfl⟩ := inb_of h (by omega)
  obtain ⟨d, hd, rfl⟩ := inb_of g (by omega)
  have hS2 : am_ok S (am_po (am_eq (some (.int (bi (alN_ (zA z c) (zA z d) (sN σ))))) I w)) (P_TC_same E k) := by
    have := hS
    rw [nI_clamp (show c < 2 ^ 31 by omega), nI_clamp (show d < 2 ^ 31 by omega)] at this
    exact this
  have hOc := (hZ.2 c hc).1
  have hOd := (hZ.2 d hd).1
  have loop := down (P := fun p => alN_ (zA z c) (zA z d) p = true → S 21 [some (.ref 0), some (.int (nI c)), some (.int (nI d)), some (.int (nI p))] [] I w) (sN σ) ?z ?s
  case z =>
    intro ha
    rw [ha] at hS2
    refine am_at hS2 (fun t => Nat.beq t 21) 60 21 ?_
    exact ⟨fun q => absurd q (by show ¬ nI (sN σ) < I 1 0; rw [zC.1.1]; exact nI_nlt (Nat.le_refl _) (by omega)), fun _ => ⟨rfl, rfl, rfl⟩⟩
  case s =>
    intro p hp hn ha
    have hal := r_isAlike zi (k := k - 1) (by omega) w (oB_c (show c < 10 by omega)) (oB_c (show d < 10 by omega)) hOc hOd (p := p) (by omega)
    refine am_at hS2 (fun t => Nat.beq t 21) 60 21 ?_
    refine ⟨fun _ => ?_, fun q => absurd (show nI p < I 1 0 by rw [zC.1.1]; exact nI_lt hp (by omega)) q⟩
    refine ⟨vp_in_nI (by omega) (by omega), ?_⟩
    refine ⟨vp_in_nI (by omega) (by omega), ?_⟩
    rw [nI_clamp (show c < 2 ^ 31 by omega), nI_clamp (show d < 2 ^ 31 by omega)]
    refine ⟨_, _, (by omega : k - 1 < k), hal, am_elim ?_⟩
    refine ⟨fun q => ?_, fun q => ?_⟩
    · rw [bi_eq0] at q
      rw [alN_no (p := p + 1) (by rw [alN_, q, Bool.and_false]) (sN σ) (by omega)]
      exact ⟨rfl, rfl, rfl⟩
    · rw [bi_eq0, Bool.not_eq_false] at q
      have h2 := hn (by rw [alN_, ha, q]; rfl)
      rw [← nI_1] at h2
      exact h2
  exact loop 0 (Nat.zero_le _) rfl
