/-! the reference's THE RULE, felt, steps, weighing -/
def RL (I : am_I) (T r : Nat) (V : Tx) : Prop := I 88 3 = nI T ∧ I 88 4 = nI r ∧ T ≤ 6 ∧ r < T ∧ ∀ x, x < T → ∃ (n : Nat) (b : Nat → Nat), wft n b ∧ I 90 x = nI n ∧ (∀ j, j < n → I 89 (160 * x + j) = nI (b j)) ∧ (ptx (tkc n b)).1.1 = true ∧ (ptx (tkc n b)).2.2 = V x
theorem RL_of {I J : am_I} {T r : Nat} {V : Tx} (h89 : J 89 = I 89) (h90 : J 90 = I 90) (h3 : J 88 3 = I 88 3) (h4 : J 88 4 = I 88 4) (zL : RL I T r V) : RL J T r V := by
  unfold RL
  rw [h89, h90, h3, h4]
  exact zL
theorem RL_fs {I J : am_I} {T r : Nat} {V : Tx} {js l : List Nat} (h : am_fs 88 js l I J) (h1 : 89 ∉ l) (h2 : 90 ∉ l) (h3 : 3 ∉ js) (h4 : 4 ∉ js) (zL : RL I T r V) : RL J T r V := RL_of (h.1 89 h1 (by decide)) (h.1 90 h2 (by decide)) (h.2 3 h3) (h.2 4 h4) zL
theorem RS_of2 {I J : am_I} {σ : St} (h : ∀ q, 92 ≤ q → q ≤ 99 → J q = I q) (h9 : J 88 9 = I 88 9) (h16 : J 88 16 = I 88 16) (zR : RS I σ) : RS J σ := by
  unfold RS
  rw [h 92 (by decide) (by decide), h 93 (by decide) (by decide), h 94 (by decide) (by decide), h 95 (by decide) (by decide), h 96 (by decide) (by decide), h 97 (by decide) (by decide), h 98 (by decide) (by decide), h 99 (by decide) (by decide), h9, h16]
  exact zR
theorem RS_fs {I J : am_I} {σ : St} {js l : List Nat} (h : am_fs 88 js l I J) (hl : ∀ q, 92 ≤ q → q ≤ 99 → q ∉ l) (h9 : 9 ∉ js) (h16 : 16 ∉ js) (zR : RS I σ) : RS J σ := RS_of2 (fun q h1 h2 => h.1 q (hl q h1 h2) (by omega)) (h.2 9 h9) (h.2 16 h16) zR
theorem RS_rd {I J : am_I} {σ : St} (h : am_fs 88 rdFs [] I J) (zR : RS I σ) : RS J σ := RS_fs h (fun _ _ _ => List.not_mem_nil) (by decide) (by decide) zR
theorem RL_rd {I J : am_I} {T r : Nat} {V : Tx} (h : am_fs 88 rdFs [] I J) (zL : RL I T r V) : RL J T r V := RL_fs h (by decide) (by decide) (by decide) (by decide) zL
theorem eM_env {I : am_I} {σ : St} (zR : RS I σ) {f : Nat} (hf : f < sM σ) : eM I f = env σ f := by
  obtain ⟨e1, e2, e3, e4, e5, e6⟩ := zR.2.2 f hf
  funext z
  match z with
  | 0 => exact e4
  | 1 => show bi (decide (I 96 f < 0)) = bi (decide (sS σ f < 0)); rw [e3]
  | 2 => exact e5
  | 3 => exact e6
  | 4 => exact e1
  | z + 5 => exact e2
theorem r_rd {E : am_E} (zi : am_inj E) {k : Nat} (hk : 42 ≤ k) {σ : St} (zw : wf σ) {I : am_I} (zR : RS I σ) (w : Int64) {T r : Nat} {V : Tx} (zL : RL I T r V) {f : Nat} (hf : f < sM σ) (q : Int32) :
    am_Ret E k Y_MO_read [.ref 88, .int (I 88 4), .int (nI f), .int q] I w (fun z I' w' => z = some (.int (if q = 0 then (V r).1 (env σ f) else (V r).2 (env σ f))) ∧ am_fs 88 rdFs [] I I') := by
  obtain ⟨l1, l2, l3, l4, l5⟩ := zL
  obtain ⟨n, b, t1, t2, t3, t4, t5⟩ := l5 r l4
  have h36 := sM_le zw
  have h := r_read zi hk t1 w (by omega : r < 6) (by omega : f < 36) t2 t3 q
  rw [l2]
  refine am_Ret.imp h ?_
  rintro z I' w' ⟨f1, v, rfl, p1, -⟩
  refine ⟨?_, f1⟩
  rw [(p1 t4).1, t5, eM_env zR hf]
theorem m_costOf {E : am_E} (zi : am_inj E) {k : Nat} (hk : 43 ≤ k) {σ : St} (zw : wf σ) {I : am_I} (zR : RS I σ) (w : Int64) {T r : Nat} {V : Tx} (zL : RL I T r V) {f : Nat} (hf : f < sM σ) :
    am_Ret E k Y_MO_costOf [.ref 88, .int (nI f)] I w (fun z I' w' => z = some (.int (nI (co V r σ f))) ∧ am_fs 88 rdFs [] I I') := by
  refine am_intro (pv_MO_costOf E k) (by decide) zi ?_ rfl rfl ?_
  · rintro _ _ _ ⟨rfl, -⟩; rfl
  intro S hS
  have e9 : (9999 : Int32).toInt = 9999 := rfl
  have e0 : (0 : Int32).toInt = 0 := rfl
  have cl := cst_le ((V r).1 (env σ f))
  refine am_at hS (fun _ => false) 80 0 ?_
  refine ⟨_, _, (by omega : k - 1 < k), r_rd zi (by omega) zw zR w zL hf 0, ?_⟩
  rintro _ I1 w1 ⟨rfl, f1⟩
  rw [if_pos rfl]
  refine ⟨fun h => ?_, fun h => ?_⟩
  · refine ⟨?_, f1⟩
    have ev : nI (co V r σ f) = 0 := by
      apply Int32.toInt_inj.mp
      rw [nI_toInt (by unfold co; omega)]
      unfold co cst
      rw [i_lt, e0] at h
      omega
    rw [ev]
  refine ⟨fun h2 => ?_, fun h2 => ?_⟩
  · refine ⟨?_, f1⟩
    have ev : nI (co V r σ f) = 9999 := by
      apply Int32.toInt_inj.mp
      rw [nI_toInt (by unfold co; omega)]
      unfold co cst
      rw [i_lt, e9] at h2
      omega
    rw [ev]
  · refine ⟨?_, f1⟩
    have ev : nI (co V r σ f) = (V r).1 (env σ f) := by
      apply Int32.toInt_inj.mp
      rw [nI_toInt (by unfold co; omega)]
      unfold co cst
      rw [i_lt, e9] at h2
      rw [i_lt, e0] at h
      omega
    rw [ev]
theorem mw_t {V : Tx} {r : Nat} {σ : St} {f : Nat} (h : ¬ (if (1 : Int32) = 0 then (V r).1 (env σ f) else (V r).2 (env σ f)) = 0) : mw V r σ f = true := by
  rw [if_neg (by decide)] at h
  unfold mw
  rw [decide_eq_false h]
  rfl
theorem mw_f {V : Tx} {r : Nat} {σ : St} {f : Nat} (h : (if (1 : Int32) = 0 then (V r).1 (env σ f) else (V r).2 (env σ f)) = 0) : mw V r σ f = false := by
  rw [if_neg (by decide)] at h
  unfold mw
  rw [decide_eq_true h]
  rfl
theorem m_felt {E : am_E} (zi : am_inj E) {k : Nat} (hk : 44 ≤ k) {σ : St} (zw : wf σ) {I : am_I} (zR : RS I σ) (w : Int64) {T r : Nat} {V : Tx} (zL : RL I T r V) (x u : Int32) :
    am_Ret E k Y_MO_felt [.ref 88, .int x, .int u] I w (fun q I' w' => q = some (.int (aFelt V r σ x u)) ∧ am_fs 88 rdFs [] I I') := by
  refine am_intro (pv_MO_felt E k) (by decide) zi ?_ rfl rfl ?_
  · rintro _ _ _ ⟨rfl, -⟩; rfl
  intro S hS
  have h9 := zw.1
  have h36 := sM_le zw
  unfold aFelt at hS
  refine am_at hS (fun _ => false) 120 0 ?_
  refine ⟨_, _, (by omega : k - 1 < k), r_isFeeling zi I w (by omega) (by omega) zR.2.1 x, am_elim ?_⟩
  refine ⟨fun h9 => ?_, fun h9 => ?_⟩
  · rw [bi_eq0] at h9
    rw [h9]
    exact ⟨rfl, am_fs.refl⟩
  · rw [bi_eq0, Bool.not_eq_false] at h9
    rw [h9]
    obtain ⟨f, hf, rfl⟩ := inb_of h9 (by omega)
    obtain ⟨e1, e2, e3, e4, e5, e6⟩ := zR.2.2 f hf
    have ef : (nI f).toNatClampNeg = f := nI_clamp (by omega)
    have bd : vp_in (nI f) 36 := vp_in_nI (by omega) (by omega)
    rw [ef]
    refine ⟨fun e => ?_, fun e => ?_⟩
    · refine ⟨bd, ?_⟩
      rw [ef, e1]
      exact ⟨by rw [e]; rfl, am_fs.refl⟩
    refine ⟨fun q => ?_, fun q => ?_⟩
    · refine ⟨bd, ?_⟩
      rw [ef, e2]
      exact ⟨by rw [q]; rfl, am_fs.refl⟩
    refine ⟨fun q2 => ?_, fun q2 => ?_⟩
    · refine ⟨bd, ?_⟩
      rw [ef, e3]
      exact ⟨by rw [q2]; rfl, am_fs.refl⟩
    refine ⟨fun q3 => ?_, fun q3 => ?_⟩
    · refine ⟨bd, ?_⟩
      rw [ef, e4]
      exact ⟨by rw [q3]; rfl, am_fs.refl⟩
    refine ⟨fun q4 => ?_, fun q4 => ?_⟩
    · refine ⟨bd, ?_⟩
      rw [ef, e5]
      exact ⟨by rw [q4]; rfl, am_fs.refl⟩
    refine ⟨fun q5 => ?_, fun q5 => ?_⟩
    · refine ⟨bd, ?_⟩
      rw [ef, e6]
      exact ⟨by rw [q5]; rfl, am_fs.refl⟩
    refine ⟨fun q6 => ?_, fun q6 => ?_⟩
    · refine ⟨_, _, (by omega : k - 1 < k), m_costOf zi (by omega) zw zR w zL hf, ?_⟩
      rintro _ I1 w1 ⟨rfl, f1⟩
      exact ⟨by rw [q6]; rfl, f1⟩
    refine ⟨fun q7 => ?_, fun q7 => ?_⟩
    · refine ⟨_, _, (by omega : k - 1 < k), r_rd zi (by omega) zw zR w zL hf 1, ?_⟩
      rintro _ I1 w1 ⟨rfl, f1⟩
      refine ⟨fun h => ?_, fun h => ?_⟩
      · have hm := mw_f h
        exact ⟨by rw [q7, hm]; rfl, f1⟩
      · have hm := mw_t h
        exact ⟨by rw [q7, hm]; rfl, f1⟩
    refine ⟨fun q8 => ?_, fun q8 => ?_⟩
    · refine ⟨_, _, (by omega : k - 1 < k), r_badThrees zi zw zR w (by omega) hf, am_elim ?_⟩
      exact ⟨by rw [q8]; rfl, am_fs.refl⟩
    exact ⟨by rw [if_neg e, if_neg q, if_neg q2, if_neg q3, if_neg q4, if_neg q5, if_neg q6, if_neg q7, if_neg q8]; rfl, am_fs.refl⟩
theorem RS_sg {I J : am_I} {σ : St} {s : Nat → Int32} (h : ∀ q, 92 ≤ q → q ≤ 99 → q ≠ 96 → J q = I q) (h9 : J 88 9 = I 88 9) (h16 : J 88 16 = I 88 16) (hs : ∀ f, f < sM σ → J 96 f = s f) (zR : RS I σ) : RS J (sSg σ s) := by
  obtain ⟨⟨p1, p2⟩, c1, c2⟩ := zR
  refine ⟨⟨h9.trans p1, fun p hp => ?_⟩, h16.trans c1, fun f hf => ?_⟩
  · rw [h 92 (by decide) (by decide) (by decide), h 93 (by decide) (by decide) (by decide)]
    exact p2 p hp
  · rw [h 94 (by decide) (by decide) (by decide), h 95 (by decide) (by decide) (by decide), h 97 (by decide) (by decide) (by decide), h 98 (by decide) (by decide) (by decide), h 99 (by decide) (by decide) (by decide)]
    obtain ⟨d1, d2, -, d4, d5, d6⟩ := c2 f hf
    exact ⟨d1, d2, hs f hf, d4, d5, d6⟩
theorem m_steps {E : am_E} (zi : am_inj E) {k : Nat} (hk : 43 ≤ k) {σ : St} (zw : wf σ) {I : am_I} (zR : RS I σ) (w : Int64) {T r : Nat} {V : Tx} (zL : RL I T r V) {p : Nat} (hp : p < 9) :
    am_Ret E k Y_MO_steps [.ref 88, .int (nI p)] I w (fun q I' w' => q = some (.int (enc (tW V r σ p).1)) ∧ RS I' (sSg σ (tW V r σ p).2) ∧ am_fs 88 rdFs [96] I I') := by
  refine am_intro (pv_MO_steps E k) (by decide) zi ?_ rfl rfl ?_
  · rintro _ _ _ ⟨rfl, -⟩; rfl
  intro S hS
  have h36 := sM_le zw
  have h9 := zw.1
  have loop := down (P := fun f => ∀ J u x5, am_fs 88 rdFs [] I J → S 7 [some (.ref 88), some (.int (nI p)), some (.int (enc (wst (wq V r σ p) (bth σ) f).1)), some (.int (nI (wst (wq V r σ p) (bth σ) f).2)), some (.int (nI f)), x5] [] J u) (sM σ) ?z ?s
  case z =>
    intro J u x5 hJ
    have zJ := RS_rd hJ zR
    have c1 := zJ.2.1
    refine am_at hS (fun t => Nat.beq t 7) 80 7 ?_
    refine ⟨fun q => absurd q (by show ¬ nI (sM σ) < J 88 16; rw [c1]; exact nI_nlt (Nat.le_refl _) (by omega)), fun _ => ?_⟩
    cases hq : (wsF V r σ p).1 with
    | none =>
      have eW : tW V r σ p = (none, sS σ) := by unfold tW; rw [hq]
      have eZ : (wst (wq V r σ p) (bth σ) (sM σ)).1 = none := hq
      rw [eW, eZ]
      exact ⟨fun _ => ⟨rfl, zJ, hJ.mono (fun _ h => h) (by decide)⟩, fun q => absurd rfl q⟩
    | some g =>
      have eW : tW V r σ p = (some g, fup (sS σ) g (-(sS σ g))) := by unfold tW; rw [hq]
      have eZ : (wst (wq V r σ p) (bth σ) (sM σ)).1 = some g := hq
      have hg := wst_lt eZ
      rw [eW, eZ]
      refine ⟨fun q => absurd q (nI_ne1 (by omega)), fun _ => ?_⟩
      have eg : (enc (some g)).toNatClampNeg = g := nI_clamp (by omega)
      refine ⟨vp_in_nI (by omega) (by omega), ?_⟩
      refine ⟨vp_in_nI (by omega) (by omega), ?_⟩
      rw [eg]
      refine ⟨rfl, RS_sg (fun q h1 h2 h3 => am_up_ne h3) (am_up_ne (show (88 : Nat) ≠ 96 by decide) ▸ rfl) (am_up_ne (show (88 : Nat) ≠ 96 by decide) ▸ rfl) (fun f hf => ?_) zJ, ?_⟩
      · rw [am_up_fup]
        by_cases e : f = g
        · rw [e, fup_self, (zJ.2.2 g hg).2.2.1]
          show _ = fup (sS σ) g (-(sS σ g)) g
          rw [fup_self]
        · rw [fup_ne e, (zJ.2.2 f hf).2.2.1]
          show _ = fup (sS σ) g (-(sS σ g)) f
          rw [fup_ne e]
      · exact am_fs.up (hJ.mono (fun _ h => h) (by decide)) (by decide) (by decide)
  case s =>
    intro f hf hn J u x5 hJ
    have zJ := RS_rd hJ zR
    have c1 := zJ.2.1
    have h3 := zw.2.1.1 f hf
    obtain ⟨e1, e2, -⟩ := zJ.2.2 f hf
    have ef : (nI f).toNatClampNeg = f := nI_clamp (by omega)
    have bd : vp_in (nI f) 36 := vp_in_nI (by omega) (by omega)
    have hle := wst_le (Q := wq V r σ p) (B := bth σ) (c := 9) (fun _ => bth_le) f
    have no : (wq V r σ p f && decide ((wst (wq V r σ p) (bth σ) f).2 < bth σ f)) = false → ∀ F u x5, am_fs 88 rdFs [] I F → S 7 [some (.ref 88), some (.int (nI p)), some (.int (enc (wst (wq V r σ p) (bth σ) f).1)), some (.int (nI (wst (wq V r σ p) (bth σ) f).2)), some (.int (nI f + 1)), x5] [] F u := fun h F u x5 hF => by
      have := hn F u x5 hF
      rw [wst_no h, ← nI_1] at this
      exact this
    have yes : (decide (sL σ f = p) || decide (sG σ f = p)) = true → S 38 [some (.ref 88), some (.int (nI p)), some (.int (enc (wst (wq V r σ p) (bth σ) f).1)), some (.int (nI (wst (wq V r σ p) (bth σ) f).2)), some (.int (nI f)), x5] [] J u := fun hof => by
      refine am_at hS (fun t => Nat.beq t 7) 80 38 ?_
      refine ⟨_, _, (by omega : k - 1 < k), r_rd zi (by omega) zw zJ u (RL_rd hJ zL) hf 1, ?_⟩
      rintro _ I1 w1 ⟨rfl, f1⟩
      have hJ1 := hJ.trans f1
      refine ⟨fun h => ?_, fun h => ?_⟩
      · exact no (by unfold wq; rw [hof, mw_f h]; rfl) _ _ _ hJ1
      · have hm := mw_t h
        refine ⟨_, _, (by omega : k - 1 < k), r_badThrees zi zw (RS_rd hJ1 zR) w1 (by omega) hf, am_elim ?_⟩
        have hb := bth_le (σ := σ) (f := f)
        refine ⟨fun h58 => ?_, fun h58 => ?_⟩
        · rw [nlt (by omega) (by omega)] at h58
          have := hn I1 w1 (some (.int (nI (bth σ f)))) hJ1
          rw [wst_yes (by rw [decide_eq_true h58]; unfold wq; rw [hof, hm]; rfl), ← nI_1] at this
          exact this
        · rw [nlt (by omega) (by omega)] at h58
          exact no (by rw [decide_eq_false h58, Bool.and_false]) _ _ _ hJ1
    refine am_at hS (fun t => Nat.beq t 7 || Nat.beq t 38) 80 7 ?_
    refine ⟨fun _ => ?_, fun q => absurd (show nI f < J 88 16 by rw [c1]; exact nI_lt hf (by omega)) q⟩
    refine ⟨bd, ?_⟩
    rw [ef, e1]
    refine ⟨fun h24 => ?_, fun h24 => ?_⟩
    · rw [neq (by omega) (by omega)] at h24
      exact yes (by rw [decide_eq_true h24]; rfl)
    rw [neq (by omega) (by omega)] at h24
    refine ⟨bd, ?_⟩
    rw [ef, e2]
    refine ⟨fun h35 => ?_, fun h35 => ?_⟩
    · rw [neq (by omega) (by omega)] at h35
      exact yes (by rw [decide_eq_true h35, Bool.or_true])
    · rw [neq (by omega) (by omega)] at h35
      exact no (by unfold wq; rw [decide_eq_false h24, decide_eq_false h35]; rfl) _ _ _ hJ
  exact am_at hS (fun t => Nat.beq t 7) 80 0 (loop 0 (Nat.zero_le _) _ _ _ am_fs.refl)
theorem m_step {E : am_E} (zi : am_inj E) {k : Nat} (hk : 44 ≤ k) {σ : St} (zw : wf σ) {I : am_I} (zR : RS I σ) (w : Int64) {T r : Nat} {V : Tx} (zL : RL I T r V) (p : Int32) :
    am_Ret E k Y_MO_step [.ref 88, .int p] I w (fun q I' w' => q = some (.int (aStep V r σ p).1) ∧ RS I' (sSg σ (aStep V r σ p).2) ∧ am_fs 88 rdFs [96] I I') := by
  refine am_intro (pv_MO_step E k) (by decide) zi ?_ rfl rfl ?_
  · rintro _ _ _ ⟨rfl, -⟩; rfl
  intro S hS
  have h9 := zw.1
  unfold aStep at hS
  refine am_at hS (fun _ => false) 60 0 ?_
  refine ⟨_, _, (by omega : k - 1 < k), r_isPerson zi I w (by omega) (by omega) zR.1.1 p, am_elim ?_⟩
  refine ⟨fun h => ?_, fun h => ?_⟩
  · rw [bi_eq0] at h
    rw [h]
    exact ⟨rfl, zR, am_fs.refl⟩
  · rw [bi_eq0, Bool.not_eq_false] at h
    rw [h]
    obtain ⟨j, hj, rfl⟩ := inb_of h (by omega)
    refine ⟨_, _, (by omega : k - 1 < k), m_steps zi (by omega) zw zR w zL (by omega), ?_⟩
    rintro _ I1 w1 ⟨rfl, z1, f1⟩
    rw [nI_clamp (by omega)]
    exact ⟨rfl, z1, f1⟩
/-- weighed, in the reference -/
def WR (I : am_I) (V : Tx) (r : Nat) (σ : St) (n : Nat) : Prop := ∀ f, f < n → I 108 f = nI (co V r σ f) ∧ I 109 f = bi (mw V r σ f)
theorem m_weighs {E : am_E} (zi : am_inj E) {k : Nat} (hk : 44 ≤ k) {σ : St} (zw : wf σ) {I : am_I} (zR : RS I σ) (w : Int64) {T r : Nat} {V : Tx} (zL : RL I T r V) :
    am_Ret E k Y_MO_weighs [.ref 88] I w (fun q I' w' => q = none ∧ WR I' V r σ (sM σ) ∧ am_fs 88 rdFs [108, 109] I I') := by
  refine am_intro (pv_MO_weighs E k) (by decide) zi ?_ rfl rfl ?_
  · rintro _ _ _ ⟨rfl, -⟩; trivial
  intro S hS
  have h36 := sM_le zw
  have kR : ∀ {J}, am_fs 88 rdFs [108, 109] I J → RS J σ := fun h => RS_fs h (fun q h1 h2 hz => by simp only [List.mem_cons, List.not_mem_nil, or_false] at hz; omega) (by decide) (by decide) zR
  have kL : ∀ {J}, am_fs 88 rdFs [108, 109] I J → RL J T r V := fun h => RL_fs h (by decide) (by decide) (by decide) (by decide) zL
  have loop := down (P := fun i => ∀ J u, am_fs 88 rdFs [108, 109] I J → WR J V r σ i → S 2 [some (.ref 88), some (.int (nI i))] [] J u) (sM σ) ?z ?s
  case z =>
    intro J u hJ hW
    have c1 := (kR hJ).2.1
    refine am_at hS (fun t => Nat.beq t 2) 80 2 ?_
    exact ⟨fun q => absurd q (by show ¬ nI (sM σ) < J 88 16; rw [c1]; exact nI_nlt (Nat.le_refl _) (by omega)), fun _ => ⟨rfl, hW, hJ⟩⟩
  case s =>
    intro i hi hn J u hJ hW
    have c1 := (kR hJ).2.1
    refine am_at hS (fun t => Nat.beq t 2) 80 2 ?_
    refine ⟨fun _ => ?_, fun q => absurd (show nI i < J 88 16 by rw [c1]; exact nI_lt hi (by omega)) q⟩
    refine ⟨_, _, (by omega : k - 1 < k), m_costOf zi (by omega) zw (kR hJ) u (kL hJ) hi, ?_⟩
    rintro _ I1 w1 ⟨rfl, f1⟩
    refine ⟨vp_in_nI (by omega) (by omega), ?_⟩
    rw [nI_clamp (by omega)]
    have f2 : am_fs 88 rdFs [108, 109] I (am_up I1 108 i (nI (co V r σ i))) := am_fs.up (hJ.trans (f1.mono (fun _ h => h) (by decide))) (by decide) (by decide)
    refine ⟨_, _, (by omega : k - 1 < k), r_rd zi (by omega) zw (kR f2) w1 (kL f2) hi 1, ?_⟩
    rintro _ I2 w2 ⟨rfl, f3⟩
    have go : ∀ v, v = bi (mw V r σ i) → S 2 [some (.ref 88), some (.int (nI i + 1))] [] (am_up I2 109 i v) w2 := fun v hv => by
      have hgo := hn (am_up I2 109 i v) w2 (am_fs.up (f2.trans (f3.mono (fun _ h => h) (by decide))) (by decide) (by decide)) ?_
      · rw [← nI_1] at hgo
        exact hgo
      · intro g hg
        rw [am_up_ne (show (108 : Nat) ≠ 109 by decide), am_up_fup, f3.1 108 (by decide) (by decide), am_up_fup, f3.1 109 (by decide) (by decide), am_up_ne (show (109 : Nat) ≠ 108 by decide), f1.1 108 (by decide) (by decide), f1.1 109 (by decide) (by decide)]
        by_cases e : g = i
        · rw [e, fup_self, fup_self]; exact ⟨rfl, hv⟩
        · rw [fup_ne e, fup_ne e]; exact hW g (by omega)
    refine ⟨fun h => ?_, fun h => ?_⟩
    · have hm := mw_f h
      refine ⟨vp_in_nI (by omega) (by omega), Or.inl rfl, ?_⟩
      rw [nI_clamp (by omega)]
      exact go 0 (by rw [hm]; rfl)
    · have hm := mw_t h
      refine ⟨vp_in_nI (by omega) (by omega), Or.inr rfl, ?_⟩
      rw [nI_clamp (by omega)]
      exact go 1 (by rw [hm]; rfl)
  exact am_at hS (fun t => Nat.beq t 2) 80 0 (loop 0 (Nat.zero_le _) _ _ am_fs.refl (fun f hf => absurd hf (by omega)))

