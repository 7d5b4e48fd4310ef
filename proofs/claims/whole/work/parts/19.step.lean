/-! THE RULE of a FEELING; weighing; STEPS of the class -/
theorem CS_fw {I J : am_I} {σ : St} (h : am_fs 25 [7] [27, 28, 29] I J) (zC : CS I σ) : CS J σ := CS_of (fun q hq => h.1 q (by rintro hz; simp only [List.mem_cons, List.not_mem_nil, or_false] at hz hq; omega) (by rintro rfl; exact absurd hq (by decide))) zC
theorem LC_of {I J : am_I} {T r : Nat} {V : Tx} (h : ∀ q, 30 ≤ q → q < 42 → J q = I q) (h2 : J 25 2 = I 25 2) (h3 : J 25 3 = I 25 3) (zL : LC I T r V) : LC J T r V := by
  obtain ⟨l1, l2, l3, l4, l5⟩ := zL
  refine ⟨h2.trans l1, h3.trans l2, l3, l4, fun x hx => ?_⟩
  obtain ⟨n, m, t⟩ := l5 x hx
  refine ⟨n, m, ?_⟩
  rw [h (30 + 2 * x) (by omega) (by omega), h (31 + 2 * x) (by omega) (by omega)]
  exact t
theorem LC_fs {I J : am_I} {T r : Nat} {V : Tx} {l : List Nat} (hl : ∀ q, 30 ≤ q → q < 42 → q ∉ l) (h : am_fs 25 [7] l I J) (zL : LC I T r V) : LC J T r V := LC_of (fun q h1 h2 => h.1 q (hl q h1 h2) (by omega)) (h.2 2 (by decide)) (h.2 3 (by decide)) zL
theorem l29 : ∀ q, 30 ≤ q → q < 42 → q ∉ [29] := fun q h1 h2 hz => by simp only [List.mem_cons, List.not_mem_nil, or_false] at hz; omega
theorem l289 : ∀ q, 30 ≤ q → q < 42 → q ∉ [27, 28, 29] := fun q h1 h2 hz => by simp only [List.mem_cons, List.not_mem_nil, or_false] at hz; omega
def mw (V : Tx) (r : Nat) (σ : St) (f : Nat) : Bool := !decide ((V r).2 (env σ f) = 0)
def co (V : Tx) (r : Nat) (σ : St) (f : Nat) : Nat := cst ((V r).1 (env σ f))
theorem r_canBeWrong {E : am_E} (zi : am_inj E) {k : Nat} (hk : 3 ≤ k) {σ : St} (zw : wf σ) {I : am_I} (zC : CS I σ) (w : Int64) {T r : Nat} {V : Tx} (zL : LC I T r V) {f : Nat} (hf : f < sM σ) :
    am_Ret E k Y_Law_canBeWrong [.ref 25, .int (nI f)] I w (fun q I' w' => q = some (.int (bi (mw V r σ f))) ∧ w' = w ∧ am_fs 25 [7] [29] I I') := by
  refine am_intro (pv_Law_canBeWrong E k) (by decide) zi ?_ rfl rfl ?_
  · rintro _ _ _ ⟨rfl, -⟩; exact bi_nr _
  intro S hS
  obtain ⟨l1, l2, l3, l4, l5⟩ := zL
  obtain ⟨n, h, t1, t2, t3, t4, t5⟩ := l5 r l4
  have hv := (t5 (env σ f)).2
  unfold mw at hS
  rw [← hv] at hS
  refine am_at hS (fun _ => false) 160 0 ?_
  have hr : r = 0 ∨ r = 1 ∨ r = 2 ∨ r = 3 ∨ r = 4 ∨ r = 5 := by omega
  refine ⟨by rw [l2]; exact vp_in_nI (by omega) (by omega), ?_⟩
  rw [l2, nI_clamp (by omega)]
  have t6 : I (am_el 3 r) 2 = nI h := t2
  have t7 : I (am_el 3 r) 1 = nI n := t1
  rcases hr with rfl | rfl | rfl | rfl | rfl | rfl
  all_goals
    refine ⟨_, _, (by omega : k - 1 < k), (by rw [t6, t7]; exact r_run zi (by omega) zw zC w rfl (by decide) (by decide) t3 t4 hf), ?_⟩
    rintro _ I1 w1 ⟨rfl, rfl, f1⟩
    refine ⟨fun h27 => ⟨?_, rfl, f1⟩, fun h27 => ⟨?_, rfl, f1⟩⟩
    · show _ = some (Value.int (bi (!decide _)))
      rw [decide_eq_true (by exact h27)]; rfl
    · show _ = some (Value.int (bi (!decide _)))
      rw [decide_eq_false (by exact h27)]; rfl
/-- weighed -/
def WG (I : am_I) (V : Tx) (r : Nat) (σ : St) (n : Nat) : Prop := ∀ f, f < n → I 27 f = nI (co V r σ f) ∧ I 28 f = bi (mw V r σ f)
theorem r_weigh {E : am_E} (zi : am_inj E) {k : Nat} (hk : 4 ≤ k) {σ : St} (zw : wf σ) {I : am_I} (zC : CS I σ) (w : Int64) {T r : Nat} {V : Tx} (zL : LC I T r V) :
    am_Ret E k Y_Law_weigh [.ref 25] I w (fun q I' w' => q = none ∧ w' = w ∧ WG I' V r σ (sM σ) ∧ am_fs 25 [7] [27, 28, 29] I I') := by
  refine am_intro (pv_Law_weigh E k) (by decide) zi ?_ rfl rfl ?_
  · rintro _ _ _ ⟨rfl, -⟩; trivial
  intro S hS
  have h36 := sM_le zw
  have loop := down (P := fun i => ∀ J, am_fs 25 [7] [27, 28, 29] I J → WG J V r σ i → S 2 [some (.ref 25), some (.int (nI i))] [] J w) (sM σ) ?z ?s
  case z =>
    intro J hJ hW
    have c1 := (CS_fw hJ zC).2.1
    refine am_at hS (fun t => Nat.beq t 2) 80 2 ?_
    exact ⟨fun q => absurd q (by show ¬ nI (sM σ) < J 7 0; rw [c1]; exact nI_nlt (Nat.le_refl _) (by omega)), fun _ => ⟨rfl, rfl, hW, hJ⟩⟩
  case s =>
    intro i hi hn J hJ hW
    have c1 := (CS_fw hJ zC).2.1
    refine am_at hS (fun t => Nat.beq t 2) 80 2 ?_
    refine ⟨fun _ => ?_, fun q => absurd (show nI i < J 7 0 by rw [c1]; exact nI_lt hi (by omega)) q⟩
    refine ⟨_, _, (by omega : k - 1 < k), r_costOf zi (by omega) zw (CS_fw hJ zC) w (LC_fs l289 hJ zL) hi, ?_⟩
    rintro _ I1 w1 ⟨rfl, rfl, f1⟩
    refine ⟨vp_in_nI (by omega) (by omega), ?_⟩
    rw [nI_clamp (by omega)]
    have f2 : am_fs 25 [7] [27, 28, 29] I (am_up I1 27 i (nI (cst ((V r).1 (env σ i))))) := am_fs.up (hJ.trans (f1.mono (fun _ h => h) (by decide))) (by decide) (by decide)
    refine ⟨_, _, (by omega : k - 1 < k), r_canBeWrong zi (by omega) zw (CS_fw f2 zC) w1 (LC_fs l289 f2 zL) hi, ?_⟩
    rintro _ I2 w2 ⟨rfl, rfl, f3⟩
    refine ⟨vp_in_nI (by omega) (by omega), bi_01 _, ?_⟩
    rw [nI_clamp (by omega)]
    have hgo := hn (am_up I2 28 i (bi (mw V r σ i))) (am_fs.up (f2.trans (f3.mono (fun _ h => h) (by decide))) (by decide) (by decide)) ?_
    · rw [← nI_1] at hgo
      exact hgo
    · intro g hg
      rw [am_up_ne (by decide), am_up_fup, f3.1 27 (by decide) (by decide), am_up_fup, f3.1 28 (by decide) (by decide), am_up_ne (by decide), f1.1 27 (by decide) (by decide), f1.1 28 (by decide) (by decide)]
      by_cases e : g = i
      · rw [e, fup_self, fup_self]; exact ⟨rfl, rfl⟩
      · rw [fup_ne e, fup_ne e]; exact hW g (by omega)
  exact am_at hS (fun t => Nat.beq t 2) 80 0 (loop 0 (Nat.zero_le _) _ am_fs.refl (fun f hf => absurd hf (by omega)))
/-- other signs -/
def sSg (σ : St) (s : Nat → Int32) : St := ((sN σ, sM σ), (sL σ, sG σ), (s, sT σ, sK σ), (sP σ, sD σ))
theorem wf_sg {σ : St} {s : Nat → Int32} (zw : wf σ) (hs : ∀ f, f < sM σ → s f = 1 ∨ s f = -1) : wf (sSg σ s) := ⟨zw.1, ⟨zw.2.1.1, hs, zw.2.1.2.2.1, zw.2.1.2.2.2⟩, zw.2.2⟩
theorem CS_sg {I J : am_I} {σ : St} {s : Nat → Int32} (h : ∀ q, q ∈ [1, 2, 3, 7, 8, 9, 11, 12, 13] → J q = I q) (hs : ∀ f, f < sM σ → J 10 f = s f) (zC : CS I σ) : CS J (sSg σ s) := by
  obtain ⟨p, c1, c2, c3⟩ := zC
  refine ⟨?_, ?_, fun f hf => ?_, fun a b ha hb => ?_⟩
  · rw [h 1 (by decide), h 2 (by decide), h 3 (by decide)]; exact p
  · rw [h 7 (by decide)]; exact c1
  · rw [h 8 (by decide), h 9 (by decide), h 11 (by decide), h 12 (by decide)]
    obtain ⟨d1, d2, -, d4, d5⟩ := c2 f hf
    exact ⟨d1, d2, hs f hf, d4, d5⟩
  · rw [h 13 (by decide)]; exact c3 a b ha hb
/-- the first with the most -/
def wst (Q : Nat → Bool) (B : Nat → Nat) : Nat → Option Nat × Nat
  | 0 => (none, 0)
  | f + 1 => cond (Q f && decide ((wst Q B f).2 < B f)) (some f, B f) (wst Q B f)
theorem wst_no {Q : Nat → Bool} {B : Nat → Nat} {f : Nat} (h : (Q f && decide ((wst Q B f).2 < B f)) = false) : wst Q B (f + 1) = wst Q B f := by rw [wst, h]; rfl
theorem wst_yes {Q : Nat → Bool} {B : Nat → Nat} {f : Nat} (h : (Q f && decide ((wst Q B f).2 < B f)) = true) : wst Q B (f + 1) = (some f, B f) := by rw [wst, h]; rfl
theorem wst_lt {Q : Nat → Bool} {B : Nat → Nat} {g : Nat} : ∀ {n : Nat}, (wst Q B n).1 = some g → g < n
  | 0, h => by cases h
  | n + 1, h => by
    cases hq : (Q n && decide ((wst Q B n).2 < B n)) with
    | true => rw [wst_yes hq] at h; cases h; omega
    | false => rw [wst_no hq] at h; have := wst_lt h; omega
theorem wst_le {Q : Nat → Bool} {B : Nat → Nat} {c : Nat} (hB : ∀ f, B f ≤ c) : ∀ (n : Nat), (wst Q B n).2 ≤ c
  | 0 => Nat.zero_le _
  | n + 1 => by
    cases hq : (Q n && decide ((wst Q B n).2 < B n)) with
    | true => rw [wst_yes hq]; exact hB n
    | false => rw [wst_no hq]; exact wst_le hB n
def wq (V : Tx) (r : Nat) (σ : St) (p f : Nat) : Bool := (decide (sL σ f = p) || decide (sG σ f = p)) && mw V r σ f
def wsF (V : Tx) (r : Nat) (σ : St) (p : Nat) : Option Nat × Nat := wst (wq V r σ p) (bth σ) (sM σ)
def tW (V : Tx) (r : Nat) (σ : St) (p : Nat) : Option Nat × (Nat → Int32) := match (wsF V r σ p).1 with
  | none => (none, sS σ)
  | some g => (some g, fup (sS σ) g (-(sS σ g)))
theorem r_turnWorst {E : am_E} (zi : am_inj E) {k : Nat} (hk : 4 ≤ k) {σ : St} (zw : wf σ) {I : am_I} (zC : CS I σ) (w : Int64) {T r : Nat} {V : Tx} (zL : LC I T r V) {p : Nat} (hp : p < 9) :
    am_Ret E k Y_TC_turnWorst [.ref 0, .int (nI p)] I w (fun q I' w' => q = some (.int (enc (tW V r σ p).1)) ∧ w' = w ∧ CS I' (sSg σ (tW V r σ p).2) ∧ am_fs 25 [7] [10, 29] I I') := by
  refine am_intro (pv_TC_turnWorst E k) (by decide) zi ?_ rfl rfl ?_
  · rintro _ _ _ ⟨rfl, -⟩; rfl
  intro S hS
  have h36 := sM_le zw
  have loop := down (P := fun f => ∀ J x5, am_fs 25 [7] [29] I J → S 7 [some (.ref 0), some (.int (nI p)), some (.int (enc (wst (wq V r σ p) (bth σ) f).1)), some (.int (nI (wst (wq V r σ p) (bth σ) f).2)), some (.int (nI f)), x5] [] J w) (sM σ) ?z ?s
  case z =>
    intro J x5 hJ
    have zJ := CS_fs hJ zC
    have c1 := zJ.2.1
    refine am_at hS (fun t => Nat.beq t 7) 80 7 ?_
    refine ⟨fun q => absurd q (by show ¬ nI (sM σ) < J 7 0; rw [c1]; exact nI_nlt (Nat.le_refl _) (by omega)), fun _ => ?_⟩
    cases hq : (wsF V r σ p).1 with
    | none =>
      have eW : tW V r σ p = (none, sS σ) := by unfold tW; rw [hq]
      have eZ : (wst (wq V r σ p) (bth σ) (sM σ)).1 = none := hq
      rw [eW, eZ]
      exact ⟨fun _ => ⟨rfl, rfl, zJ, hJ.mono (fun _ h => h) (by decide)⟩, fun q => absurd rfl q⟩
    | some g =>
      have eW : tW V r σ p = (some g, fup (sS σ) g (-(sS σ g))) := by unfold tW; rw [hq]
      have eZ : (wst (wq V r σ p) (bth σ) (sM σ)).1 = some g := hq
      have hg := wst_lt eZ
      rw [eW, eZ]
      refine ⟨fun q => absurd q (nI_ne1 (by omega)), fun _ => ?_⟩
      have eg : (enc (some g)).toNatClampNeg = g := nI_clamp (by omega)
      refine ⟨vp_in_nI (by omega) (by omega), ?_⟩
      refine ⟨vp_in_nI (by omega) (by omega), ?_⟩
      rw [eg]
      refine ⟨rfl, rfl, CS_sg (fun q hz => am_up_ne (by rintro rfl; exact absurd hz (by decide))) (fun f hf => ?_) zJ, ?_⟩
      · rw [am_up_fup]
        by_cases e : f = g
        · rw [e, fup_self, (zJ.2.2.1 g hg).2.2.1]
          show _ = fup (sS σ) g (-(sS σ g)) g
          rw [fup_self]
        · rw [fup_ne e, (zJ.2.2.1 f hf).2.2.1]
          show _ = fup (sS σ) g (-(sS σ g)) f
          rw [fup_ne e]
      · exact am_fs.up (hJ.mono (fun _ h => h) (by decide)) (by decide) (by decide)
  case s =>
    intro f hf hn J x5 hJ
    have zJ := CS_fs hJ zC
    have c1 := zJ.2.1
    have hle := wst_le (Q := wq V r σ p) (B := bth σ) (c := 9) (fun _ => bth_le) f
    have no : (wq V r σ p f && decide ((wst (wq V r σ p) (bth σ) f).2 < bth σ f)) = false → ∀ F x5, am_fs 25 [7] [29] I F → S 7 [some (.ref 0), some (.int (nI p)), some (.int (enc (wst (wq V r σ p) (bth σ) f).1)), some (.int (nI (wst (wq V r σ p) (bth σ) f).2)), some (.int (nI f + 1)), x5] [] F w := fun h F x5 hF => by
      have := hn F x5 hF
      rw [wst_no h, ← nI_1] at this
      exact this
    refine am_at hS (fun t => Nat.beq t 7) 80 7 ?_
    refine ⟨fun _ => ?_, fun q => absurd (show nI f < J 7 0 by rw [c1]; exact nI_lt hf (by omega)) q⟩
    refine ⟨_, _, (by omega : k - 1 < k), r_isOf zi zw zJ w hf hp, am_elim ?_⟩
    refine ⟨fun h29 => ?_, fun h29 => ?_⟩
    · rw [bi_eq0] at h29
      exact no (by unfold wq; rw [h29]; rfl) _ _ hJ
    · rw [bi_eq0, Bool.not_eq_false] at h29
      refine ⟨_, _, (by omega : k - 1 < k), r_canBeWrong zi (by omega) zw zJ w (LC_fs l29 hJ zL) hf, ?_⟩
      rintro _ I1 w1 ⟨rfl, rfl, f1⟩
      have hJ1 := hJ.trans f1
      refine ⟨fun h41 => ?_, fun h41 => ?_⟩
      · rw [bi_eq0] at h41
        exact no (by unfold wq; rw [h29, h41]; rfl) _ _ hJ1
      · rw [bi_eq0, Bool.not_eq_false] at h41
        refine ⟨_, _, (by omega : k - 1 < k), r_badThreesWith zi zw (CS_fs hJ1 zC) w1 (by omega) hf, am_elim ?_⟩
        have hb := bth_le (σ := σ) (f := f)
        refine ⟨fun h58 => ?_, fun h58 => ?_⟩
        · rw [nlt (by omega) (by omega)] at h58
          have := hn I1 (some (.int (nI (bth σ f)))) hJ1
          rw [wst_yes (by rw [decide_eq_true h58]; unfold wq; rw [h29, h41]; rfl), ← nI_1] at this
          exact this
        · rw [nlt (by omega) (by omega)] at h58
          exact no (by rw [decide_eq_false h58, Bool.and_false]) _ _ hJ1
  exact am_at hS (fun t => Nat.beq t 7) 80 0 (loop 0 (Nat.zero_le _) _ _ am_fs.refl)

