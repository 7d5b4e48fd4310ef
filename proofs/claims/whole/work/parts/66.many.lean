/-! MANY: one PERSON behind the other into camps -/
def mnF (W : Nat → Nat) (σ : St) (cam : Nat → Nat) (p f : Nat) : Nat := cond (decide (sG σ f = p) && wrt σ f (decide (cam (sL σ f) = cam p))) (W f) 0
def mnA (W : Nat → Nat) (σ : St) (cam : Nat → Nat) (p a : Nat) : Nat := match sF σ a p with
  | none => 0
  | some f => cond (wrt σ f (decide (cam a = cam p))) (W f) 0
theorem sm_single {g : Nat → Nat} : ∀ (n i : Nat), i < n → (∀ j, j < n → j ≠ i → g j = 0) → sm g n = g i
  | 0, i, h, _ => absurd h (Nat.not_lt_zero _)
  | n + 1, i, h, hz => by
    by_cases e : i = n
    · rw [sm, sm_tail (n := 0) n (Nat.zero_le _) (fun j _ hj => hz j (by omega) (by omega)), e]
      exact Nat.zero_add _
    · rw [sm, sm_single n i (by omega) (fun j hj hne => hz j (by omega) hne), hz n (by omega) (fun q => e q.symm)]
      rfl
theorem sm_ge {g : Nat → Nat} : ∀ (n i : Nat), i < n → g i ≤ sm g n
  | 0, i, h => absurd h (Nat.not_lt_zero _)
  | n + 1, i, h => by
    rw [sm]
    by_cases e : i = n
    · rw [e]; omega
    · have := sm_ge (g := g) n i (by omega)
      omega
theorem mnF_ne {W : Nat → Nat} {σ : St} {cam : Nat → Nat} {p f : Nat} (h : ¬ sG σ f = p) : mnF W σ cam p f = 0 := by
  unfold mnF
  rw [decide_eq_false h, Bool.false_and]
  rfl
theorem mn_eq {W : Nat → Nat} {σ : St} (zw : wf σ) {cam : Nat → Nat} {p : Nat} : sm (mnA W σ cam p) p = sm (mnF W σ cam p) (sM σ) := by
  have e : ∀ a, a < p → mnA W σ cam p a = sm (fun f => cond (decide (sL σ f = a)) (mnF W σ cam p f) 0) (sM σ) := by
    intro a ha
    unfold mnA
    cases hq : sF σ a p with
    | none =>
      refine ((sm_congr (sM σ) (fun f hf => ?_)).trans (sm_0 _)).symm
      by_cases e1 : sL σ f = a
      · rw [decide_eq_true e1, cond_true]
        exact mnF_ne (fun e2 => fd_none hq f hf (Or.inl ⟨e1, e2⟩))
      · rw [decide_eq_false e1, cond_false]
    | some g =>
      obtain ⟨hg, h2⟩ := fd_some hq
      have h3 := zw.2.1.1 g hg
      have h4 : sL σ g = a ∧ sG σ g = p := by
        rcases h2 with h2 | ⟨q1, q2⟩
        · exact h2
        · omega
      rw [sm_single (sM σ) g hg (fun f hf hne => ?_)]
      · rw [decide_eq_true h4.1, cond_true]
        unfold mnF
        rw [decide_eq_true h4.2, Bool.true_and, h4.1]
      · by_cases e1 : sL σ f = a
        · rw [decide_eq_true e1, cond_true]
          exact mnF_ne (fun e2 => hne (zw.2.1.2.2.2 f g hf hg (e1.trans h4.1.symm) (e2.trans h4.2.symm)))
        · rw [decide_eq_false e1, cond_false]
  rw [sm_congr p e, sm_swap]
  refine sm_congr (sM σ) (fun f hf => ?_)
  by_cases e2 : sG σ f = p
  · have h3 := zw.2.1.1 f hf
    rw [sm_single p (sL σ f) (by omega) (fun j _ hne => by rw [decide_eq_false (fun q => hne q.symm), cond_false]), decide_eq_true rfl, cond_true]
  · rw [mnF_ne e2]
    refine (sm_congr p (fun j _ => ?_)).trans (sm_0 p)
    cases decide (sL σ f = j) <;> rfl
def mnB (L : Nat → Bool) (f : Nat) : Nat := cond (L f) 0 1
def mnO (C : Nat → Nat) (L : Nat → Bool) (σ : St) (cam : Nat → Nat) (p : Nat) : Option Nat := if sm (mnF (mnB L) σ cam p) (sM σ) = 0 then some (sm (mnF C σ cam p) (sM σ)) else none
theorem mnF_le {W : Nat → Nat} {σ : St} {cam : Nat → Nat} {p c : Nat} (hC : ∀ f, W f ≤ c) {n : Nat} : sm (mnF W σ cam p) n ≤ n * c := by
  refine sm_le n (fun f _ => ?_)
  unfold mnF
  have := hC f
  cases (decide (sG σ f = p) && wrt σ f (decide (cam (sL σ f) = cam p))) with
  | true => exact this
  | false => exact Nat.zero_le _
theorem mnF_le36 {C : Nat → Nat} {σ : St} (zw : wf σ) (hC : ∀ f, C f ≤ 9999) {cam : Nat → Nat} {p n : Nat} (hn : n ≤ sM σ) : sm (mnF C σ cam p) n ≤ 359964 := by
  have h36 := sM_le zw
  have := mnF_le (σ := σ) (cam := cam) (p := p) hC (n := n)
  have : n * 9999 ≤ 36 * 9999 := Nat.mul_le_mul_right _ (by omega)
  omega
theorem mnO_le {C : Nat → Nat} {L : Nat → Bool} {σ : St} (zw : wf σ) (hC : ∀ f, C f ≤ 9999) {cam : Nat → Nat} {p x : Nat} (h : mnO C L σ cam p = some x) : x ≤ 359964 := by
  unfold mnO at h
  split at h
  · cases h; exact mnF_le36 zw hC (Nat.le_refl _)
  · cases h
def mnI (g : Nat → Option Nat → Option Nat) : Nat → Option Nat → Option Nat
  | 0, l => l
  | n + 1, l => g n (mnI g n l)
def mnG (l : Option Nat) (s : Nat) : Bool := match l with
  | none => false
  | some y => decide (y ≤ s)
def mnS (mo : (Nat → Nat) → Nat → Option Nat) (K : Nat) : Nat → Nat → Nat → Nat → (Nat → Nat) → Option Nat → Option Nat
  | 0, _, _, s, _, l => cond (mnG l s) l (some s)
  | d + 1, p, u, s, cam, l => cond (mnG l s) l (mnI (fun c l => match mo (fup cam p c) p with
    | none => l
    | some x => mnS mo K d (p + 1) (max u (c + 1)) (s + x) (fup cam p c) l) (min K (u + 1)) l)
def mnL (mo : (Nat → Nat) → Nat → Option Nat) (K d p u s : Nat) (cam : Nat → Nat) (c : Nat) (l : Option Nat) : Option Nat := match mo (fup cam p c) p with
  | none => l
  | some x => mnS mo K d (p + 1) (max u (c + 1)) (s + x) (fup cam p c) l
theorem mnS_s {mo : (Nat → Nat) → Nat → Option Nat} {K d p u s : Nat} {cam : Nat → Nat} {l : Option Nat} : mnS mo K (d + 1) p u s cam l = cond (mnG l s) l (mnI (mnL mo K d p u s cam) (min K (u + 1)) l) := rfl
theorem mnL_no {mo : (Nat → Nat) → Nat → Option Nat} {K d p u s c : Nat} {cam : Nat → Nat} {l : Option Nat} (h : mo (fup cam p c) p = none) : mnL mo K d p u s cam c l = l := by unfold mnL; rw [h]
theorem mnL_so {mo : (Nat → Nat) → Nat → Option Nat} {K d p u s c x : Nat} {cam : Nat → Nat} {l : Option Nat} (h : mo (fup cam p c) p = some x) : mnL mo K d p u s cam c l = mnS mo K d (p + 1) (max u (c + 1)) (s + x) (fup cam p c) l := by unfold mnL; rw [h]
def WX (a b : Nat) (I : am_I) (C : Nat → Nat) (L : Nat → Bool) (n : Nat) : Prop := ∀ f, f < n → I a f = nI (C f) ∧ I b f = bi (L f)
theorem r_costOfLast {E : am_E} (zi : am_inj E) {k : Nat} (hk : 1 ≤ k) {σ : St} (zw : wf σ) {I : am_I} (zC : CS I σ) (w : Int64) {C : Nat → Nat} {L : Nat → Bool} (hC : ∀ f, C f ≤ 9999) (hW : WX 27 28 I C L (sM σ)) {cam : Nat → Nat} {p : Nat} (hp : p < 9) (hc : ∀ j, j < p + 1 → I 78 j = nI (cam j) ∧ cam j < 4) :
    am_Ret E k Y_Best_costOfLast [.ref 76, .int (nI p)] I w (am_eq (some (.int (enc (mnO C L σ cam p)))) I w) := by
  refine am_intro (pv_Best_costOfLast E k) (by decide) zi ?_ rfl rfl ?_
  · rintro _ _ _ ⟨rfl, -⟩; rfl
  intro S hS
  have h36 := sM_le zw
  unfold mnO at hS
  rw [← mn_eq zw, ← mn_eq zw] at hS
  have loop := down (P := fun a => sm (mnA (mnB L) σ cam p) a = 0 → ∀ x4, S 4 [some (.ref 76), some (.int (nI p)), some (.int (nI (sm (mnA C σ cam p) a))), some (.int (nI a)), x4] [] I w) p ?z ?s
  case z =>
    intro h0 x4
    refine am_at hS (fun t => Nat.beq t 4) 90 4 ?_
    refine ⟨fun q => absurd q (nI_nlt (Nat.le_refl _) (by omega)), fun _ => ?_⟩
    rw [if_pos h0]
    exact ⟨rfl, rfl, rfl⟩
  case s =>
    intro a ha hn h0 x4
    have h1 : mnA (mnB L) σ cam p a = 0 → mnA C σ cam p a = 0 → ∀ x4, S 4 [some (.ref 76), some (.int (nI p)), some (.int (nI (sm (mnA C σ cam p) a))), some (.int (nI a + 1)), x4] [] I w := fun e1 e2 x4 => by
      have hq := hn (by rw [sm, h0, e1]) x4
      rw [sm, e2, Nat.add_zero, ← nI_1] at hq
      exact hq
    refine am_at hS (fun t => Nat.beq t 4 || Nat.beq t 52) 90 4 ?_
    refine ⟨fun _ => ?_, fun q => absurd (nI_lt (by omega) (by omega)) q⟩
    refine ⟨_, _, (by omega : k - 1 < k), r_find zi zw zC w (by omega) hp, am_elim ?_⟩
    cases hq : sF σ a p with
    | none =>
      refine ⟨fun _ => ?_, fun q => absurd rfl q⟩
      exact h1 (by unfold mnA; rw [hq]) (by unfold mnA; rw [hq]) _
    | some f =>
      obtain ⟨hf, -⟩ := fd_some hq
      have e52 : ∀ W, mnA W σ cam p a = cond (wrt σ f (decide (cam a = cam p))) (W f) 0 := fun W => by unfold mnA; rw [hq]
      have eC := e52 C
      have eB := e52 (mnB L)
      have a52 : ∀ t, t = decide (cam a = cam p) → S 52 [some (.ref 76), some (.int (nI p)), some (.int (nI (sm (mnA C σ cam p) a))), some (.int (nI a)), some (.int (nI f))] [.int (bi t), .int (nI f), .ref 7] I w := by
        rintro t ht
        rw [← ht] at eC eB
        refine am_at hS (fun t => Nat.beq t 4) 90 52 ?_
        refine ⟨_, _, (by omega : k - 1 < k), r_isWrong zi zw zC w hf t, am_elim ?_⟩
        refine ⟨fun h => ?_, fun h => ?_⟩
        · rw [bi_eq0] at h
          rw [h, cond_false] at eC eB
          exact h1 eB eC _
        · rw [bi_eq0, Bool.not_eq_false] at h
          rw [h, cond_true] at eC eB
          refine ⟨vp_in_nI (by omega) (by omega), ?_⟩
          rw [nI_clamp (by omega), (hW f hf).2]
          cases hL : L f with
          | false =>
            refine ⟨fun _ => ?_, fun q => absurd rfl q⟩
            have := sm_ge (g := mnA (mnB L) σ cam p) p a ha
            rw [eB] at this
            unfold mnB at this
            rw [hL, cond_false] at this
            rw [if_neg (fun q => by unfold mnB at q; omega)]
            exact ⟨rfl, rfl, rfl⟩
          | true =>
            refine ⟨fun q => absurd (show (1 : Int32) = 0 from q) (by decide), fun _ => ?_⟩
            refine ⟨vp_in_nI (by omega) (by omega), ?_⟩
            rw [nI_clamp (by omega), (hW f hf).1]
            have hq2 := hn (by rw [sm, h0, eB]; unfold mnB; rw [hL]; rfl) (some (.int (nI f)))
            rw [sm, eC, ← nI_add, ← nI_1] at hq2
            exact hq2
      refine ⟨fun q => absurd q (nI_ne1 (by omega)), fun _ => ?_⟩
      refine ⟨vp_in_nI (by omega) (by omega), ?_⟩
      refine ⟨vp_in_nI (by omega) (by omega), ?_⟩
      rw [nI_clamp (by omega), nI_clamp (by omega), (hc a (by omega)).1, (hc p (by omega)).1]
      have c1 := (hc a (by omega)).2
      have c2 := (hc p (by omega)).2
      refine ⟨fun h => ?_, fun h => ?_⟩
      · rw [neq (by omega) (by omega)] at h
        exact a52 true (decide_eq_true h).symm
      · rw [neq (by omega) (by omega)] at h
        exact a52 false (decide_eq_false h).symm
  refine am_at hS (fun t => Nat.beq t 4) 90 0 ?_
  exact loop 0 (Nat.zero_le _) rfl none
theorem r_putInto {E : am_E} (zi : am_inj E) {σ : St} (zw : wf σ) {C : Nat → Nat} {L : Nat → Bool} (hC : ∀ f, C f ≤ 9999) {K : Nat} (w : Int64) {d k p u s c : Nat} {cam : Nat → Nat} {l : Option Nat} {J : am_I} (hk : 2 ≤ k) (hp : p < 9) (hu : u ≤ 4) (hc4 : c < 4) (hs : s ≤ 359964 * p) (hb : ∀ y, l = some y → y ≤ 3239676) (zJ : CS J σ) (hWJ : WX 27 28 J C L (sM σ)) (e7 : J 76 7 = nI K) (h8J : J 76 8 = enc l) (hcJ : ∀ j, j < p → J 78 j = nI (cam j) ∧ cam j < 4)
    (ih : ∀ (x : Nat) (I : am_I), x ≤ 359964 → CS I σ → WX 27 28 I C L (sM σ) → I 76 7 = nI K → I 76 8 = enc l → (∀ j, j < p + 1 → I 78 j = nI (fup cam p c j) ∧ fup cam p c j < 4) →
      am_Ret E (k - 1) Y_Best_spread [.ref 76, .int (nI (p + 1)), .int (nI (max u (c + 1))), .int (nI (s + x))] I w (fun q I' w' => q = none ∧ w' = w ∧ I' 76 8 = enc (mnS (mnO C L σ) K d (p + 1) (max u (c + 1)) (s + x) (fup cam p c) l) ∧ (∀ y, mnS (mnO C L σ) K d (p + 1) (max u (c + 1)) (s + x) (fup cam p c) l = some y → y ≤ 3239676) ∧ (∀ j, j < p + 1 → I' 78 j = I 78 j) ∧ am_fs 76 [8] [78] I I')) :
    am_Ret E k Y_Best_putInto [.ref 76, .int (nI c), .int (nI p), .int (nI u), .int (nI s)] J w (fun q I' w' => q = none ∧ w' = w ∧ I' 76 8 = enc (mnL (mnO C L σ) K d p u s cam c l) ∧ (∀ y, mnL (mnO C L σ) K d p u s cam c l = some y → y ≤ 3239676) ∧ (∀ j, j < p → I' 78 j = J 78 j) ∧ am_fs 76 [8] [78] J I') := by
  refine am_intro (pv_Best_putInto E k) (by decide) zi ?_ rfl rfl ?_
  · rintro _ _ _ ⟨rfl, -⟩; trivial
  intro S hS
  have up1 : ∀ j, j < p + 1 → am_up J 78 p (nI c) 78 j = nI (fup cam p c j) ∧ fup cam p c j < 4 := fun j hj => by
    by_cases e : j = p
    · rw [e, am_seq, fup_self]; exact ⟨rfl, by omega⟩
    · rw [am_sne e, fup_ne e]; exact hcJ j (by omega)
  have zF : CS (am_up J 78 p (nI c)) σ := CS_of (fun q hq => am_up_ne (by rintro rfl; exact absurd hq (by decide))) zJ
  have hWF : WX 27 28 (am_up J 78 p (nI c)) C L (sM σ) := fun f hf => by rw [am_up_ne (by decide), am_up_ne (by decide)]; exact hWJ f hf
  have fF : am_fs 76 [8] [78] J (am_up J 78 p (nI c)) := am_fs.up am_fs.refl (by decide) (by decide)
  refine am_at hS (fun _ => false) 90 0 ?_
  refine ⟨vp_in_nI (by omega) (by omega), ?_⟩
  rw [nI_clamp (by omega)]
  refine ⟨_, _, (by omega : k - 1 < k), r_costOfLast zi (by omega) zw zF w hC hWF (by omega) up1, am_elim ?_⟩
  cases hm : mnO C L σ (fup cam p c) p with
  | none =>
    refine ⟨fun _ => ?_, fun q => absurd rfl q⟩
    have e := mnL_no (K := K) (d := d) (u := u) (s := s) (l := l) hm
    exact ⟨rfl, rfl, by rw [e, am_up_ne (by decide)]; exact h8J, by rw [e]; exact hb, fun j hj => am_sne (by omega), fF⟩
  | some x =>
    have hx := mnO_le zw hC hm
    have e := mnL_so (K := K) (d := d) (u := u) (s := s) (l := l) hm
    refine ⟨fun q => absurd q (nI_ne1 (by omega)), fun _ => ?_⟩
    refine ⟨by omega, ?_⟩
    have hr := ih x (am_up J 78 p (nI c)) hx zF hWF (by rw [am_up_ne (by decide)]; exact e7) (by rw [am_up_ne (by decide)]; exact h8J) up1
    rw [← e] at hr
    refine ⟨_, _, (by omega : k - 1 < k), (by rw [nI_1, nI_1, mx_max (by omega) (by omega), show enc (some x) = nI x from rfl, nI_add]; exact hr), ?_⟩
    rintro _ F w1 ⟨rfl, rfl, h8F, hbF, hcF, fF2⟩
    exact ⟨rfl, rfl, h8F, hbF, fun j hj => by rw [hcF j (by omega), am_sne (by omega)], fF.trans fF2⟩
theorem r_spread {E : am_E} (zi : am_inj E) {σ : St} (zw : wf σ) {C : Nat → Nat} {L : Nat → Bool} (hC : ∀ f, C f ≤ 9999) {K : Nat} (hK : K ≤ 4) (w : Int64) : ∀ (d k p u s : Nat) (cam : Nat → Nat) (l : Option Nat) (I : am_I), 2 * d + 2 ≤ k → p + d = sN σ → u ≤ 4 → s ≤ 359964 * p → (∀ y, l = some y → y ≤ 3239676) → CS I σ → WX 27 28 I C L (sM σ) → I 76 7 = nI K → I 76 8 = enc l → (∀ j, j < p → I 78 j = nI (cam j) ∧ cam j < 4) →
    am_Ret E k Y_Best_spread [.ref 76, .int (nI p), .int (nI u), .int (nI s)] I w (fun q I' w' => q = none ∧ w' = w ∧ I' 76 8 = enc (mnS (mnO C L σ) K d p u s cam l) ∧ (∀ y, mnS (mnO C L σ) K d p u s cam l = some y → y ≤ 3239676) ∧ (∀ j, j < p → I' 78 j = I 78 j) ∧ am_fs 76 [8] [78] I I') := by
  intro d
  induction d with
  | zero =>
    intro k p u s cam l I hk hp hu hs hl zC hW h7 h8 hc
    have h9 := zw.1
    have p1 : I 1 0 = nI (sN σ) := zC.1.1
    refine am_intro (pv_Best_spread E k) (by decide) zi ?_ rfl rfl ?_
    · rintro _ _ _ ⟨rfl, -⟩; trivial
    intro S hS
    unfold mnS at hS
    have a17 : mnG l s = false → S 17 [some (.ref 76), some (.int (nI p)), some (.int (nI u)), some (.int (nI s)), none] [] I w := by
      intro hg
      rw [hg, cond_false] at hS
      refine am_at hS (fun _ => false) 90 17 ?_
      refine ⟨fun q => absurd q (by rw [p1]; exact nI_nlt (by omega) (by omega)), fun _ => ?_⟩
      exact ⟨rfl, rfl, am_seq, fun y hy => (by cases hy; omega), fun j hj => (by rw [am_up_ne (by decide)]), am_fs.upo am_fs.refl (by decide)⟩
    refine am_at hS (fun t => Nat.beq t 17) 90 0 ?_
    cases l with
    | none => exact ⟨fun _ => a17 rfl, fun q => absurd h8 q⟩
    | some y =>
      have hy := hl y rfl
      have h8' : I 76 8 = nI y := h8
      refine ⟨fun q => absurd (h8'.symm.trans q) (nI_ne1 (by omega)), fun _ => ?_⟩
      refine ⟨fun h => ?_, fun h => ?_⟩
      · rw [h8', nlt (by omega) (by omega)] at h
        exact a17 (decide_eq_false (by omega))
      · rw [h8', nlt (by omega) (by omega)] at h
        rw [show mnG (some y) s = true from decide_eq_true (by omega), cond_true]
        exact ⟨rfl, rfl, h8, hl, fun _ _ => rfl, am_fs.refl⟩
  | succ d ih =>
    intro k p u s cam l I hk hp hu hs hl zC hW h7 h8 hc
    have h9 := zw.1
    have p1 : I 1 0 = nI (sN σ) := zC.1.1
    refine am_intro (pv_Best_spread E k) (by decide) zi ?_ rfl rfl ?_
    · rintro _ _ _ ⟨rfl, -⟩; trivial
    intro S hS
    rw [mnS_s] at hS
    have a17 : mnG l s = false → S 17 [some (.ref 76), some (.int (nI p)), some (.int (nI u)), some (.int (nI s)), none] [] I w := by
      intro hg
      rw [hg, cond_false] at hS
      have loop := down (P := fun c => ∀ J, am_fs 76 [8] [78] I J → J 76 8 = enc (mnI (mnL (mnO C L σ) K d p u s cam) c l) → (∀ y, mnI (mnL (mnO C L σ) K d p u s cam) c l = some y → y ≤ 3239676) → (∀ j, j < p → J 78 j = I 78 j) → S 37 [some (.ref 76), some (.int (nI p)), some (.int (nI u)), some (.int (nI s)), some (.int (nI c))] [] J w) (min K (u + 1)) ?z ?s
      case z =>
        intro J fJ h8J hb hcJ
        have e7 : J 76 7 = nI K := (fJ.2 7 (by decide)).trans h7
        refine am_at hS (fun t => Nat.beq t 37) 90 37 ?_
        have ret : am_po (fun q I' w' => q = none ∧ w' = w ∧ I' 76 8 = enc (mnI (mnL (mnO C L σ) K d p u s cam) (min K (u + 1)) l) ∧ (∀ y, mnI (mnL (mnO C L σ) K d p u s cam) (min K (u + 1)) l = some y → y ≤ 3239676) ∧ (∀ j, j < p → I' 78 j = I 78 j) ∧ am_fs 76 [8] [78] I I') [] [] J w := ⟨rfl, rfl, h8J, hb, hcJ, fJ⟩
        refine ⟨fun h => ?_, fun _ => ret⟩
        rw [e7, nlt (by omega) (by omega)] at h
        refine ⟨fun _ => ret, fun q => absurd (nI_lt (by omega) (by omega)) q⟩
      case s =>
        intro c hc4 hn J fJ h8J hb hcJ
        have e7 : J 76 7 = nI K := (fJ.2 7 (by decide)).trans h7
        have zJ : CS J σ := CS_of (fun q hq => fJ.1 q (by rintro hz; simp only [List.mem_cons, List.not_mem_nil, or_false] at hz hq; omega) (by rintro rfl; exact absurd hq (by decide))) zC
        have hWJ : WX 27 28 J C L (sM σ) := fun f hf => by rw [fJ.1 27 (by decide) (by decide), fJ.1 28 (by decide) (by decide)]; exact hW f hf
        refine am_at hS (fun t => Nat.beq t 37) 90 37 ?_
        refine ⟨fun _ => ?_, fun q => absurd (show nI c < J 76 7 by rw [e7]; exact nI_lt (by omega) (by omega)) q⟩
        refine ⟨fun q => absurd q (nI_nlt (by omega) (by omega)), fun _ => ?_⟩
        have hcJ2 : ∀ j, j < p → J 78 j = nI (cam j) ∧ cam j < 4 := fun j hj => by rw [hcJ j hj]; exact hc j hj
        have hr := r_putInto zi zw hC (K := K) w (d := d) (k := k - 1) (p := p) (u := u) (s := s) (c := c) (cam := cam) (l := mnI (mnL (mnO C L σ) K d p u s cam) c l) (J := J) (by omega) (by omega) hu (by omega) hs hb zJ hWJ e7 h8J hcJ2
          (fun x F hx zF hWF e7F h8F hcF => ih (k - 1 - 1) (p + 1) (max u (c + 1)) (s + x) (fup cam p c) (mnI (mnL (mnO C L σ) K d p u s cam) c l) F (by omega) (by omega) (by omega) (by omega) hb zF hWF e7F h8F hcF)
        refine ⟨_, _, (by omega : k - 1 < k), hr, ?_⟩
        rintro _ F w1 ⟨rfl, rfl, h8F, hbF, hcF, fF2⟩
        have hq := hn F (fJ.trans fF2) h8F hbF (fun j hj => by rw [hcF j hj]; exact hcJ j hj)
        rw [← nI_1] at hq
        exact hq
      refine am_at hS (fun t => Nat.beq t 37) 90 17 ?_
      refine ⟨fun _ => ?_, fun q => absurd (show nI p < I 1 0 by rw [p1]; exact nI_lt (by omega) (by omega)) q⟩
      exact loop 0 (Nat.zero_le _) I am_fs.refl h8 hl (fun _ _ => rfl)
    refine am_at hS (fun t => Nat.beq t 17) 90 0 ?_
    cases l with
    | none => exact ⟨fun _ => a17 rfl, fun q => absurd h8 q⟩
    | some y =>
      have hy := hl y rfl
      have h8' : I 76 8 = nI y := h8
      refine ⟨fun q => absurd (h8'.symm.trans q) (nI_ne1 (by omega)), fun _ => ?_⟩
      refine ⟨fun h => ?_, fun h => ?_⟩
      · rw [h8', nlt (by omega) (by omega)] at h
        exact a17 (decide_eq_false (by omega))
      · rw [h8', nlt (by omega) (by omega)] at h
        rw [show mnG (some y) s = true from decide_eq_true (by omega), cond_true]
        exact ⟨rfl, rfl, h8, hl, fun _ _ => rfl, am_fs.refl⟩
def iMn (k : Int32) : Bool := decide (1 ≤ k.toInt) && decide (k.toInt ≤ 4)
def aMny (V : Tx) (r : Nat) (σ : St) (k : Int32) : Int32 := cond (iMn k) (enc (mnS (mnO (co V r σ) (mw V r σ) σ) k.toNatClampNeg (sN σ) 0 0 0 (fun _ => 0) none)) (-2)
def cMn : List Nat := [27, 28, 29, 76, 78]
theorem iMn_of {k : Int32} (h : iMn k = true) : ∃ K, K ≤ 4 ∧ k = nI K ∧ k.toNatClampNeg = K := by
  unfold iMn at h
  rw [Bool.and_eq_true, decide_eq_true_eq, decide_eq_true_eq] at h
  obtain ⟨K, hK⟩ : ∃ K : Nat, k.toInt = (K : Int) := ⟨k.toInt.toNat, by omega⟩
  have e : k = nI K := by
    apply Int32.toInt_inj.mp
    rw [nI_toInt (by omega), hK]
  exact ⟨K, by omega, e, by rw [e]; exact nI_clamp (by omega)⟩
theorem c_many {E : am_E} (zi : am_inj E) {k : Nat} (hk : 22 ≤ k) {σ : St} (zw : wf σ) {I : am_I} (zC : CS I σ) (w : Int64) {T r : Nat} {V : Tx} (zL : LC I T r V) (x : Int32) :
    am_Ret E k Y_TC_many [.ref 0, .int x] I w (fun q I' w' => q = some (.int (aMny V r σ x)) ∧ w' = w ∧ am_fs 25 [7] cMn I I') := by
  have h9 := zw.1
  have inn : ∀ k, 21 ≤ k → iMn x = true → am_Ret E k Y_Best_leastSumIn [.ref 76, .int x] I w (fun q I' w' => q = some (.int (aMny V r σ x)) ∧ w' = w ∧ am_fs 25 [7] cMn I I') := by
    intro k hk hx
    refine am_intro (pv_Best_leastSumIn E k) (by decide) zi ?_ rfl rfl ?_
    · rintro _ _ _ ⟨rfl, -⟩; rfl
    intro S hS
    obtain ⟨K, hK, e1, e2⟩ := iMn_of hx
    unfold aMny at hS
    rw [hx, cond_true, e2] at hS
    refine am_at hS (fun _ => false) 90 0 ?_
    refine ⟨_, _, (by omega : k - 1 < k), r_weigh zi (by omega) zw zC w zL, ?_⟩
    rintro _ J w1 ⟨rfl, rfl, hW, fJ⟩
    have zJ : CS J σ := CS_bs (fJ.mono (fun _ h => h) (by decide)) zC
    have zF : CS (am_up (am_up J 76 7 x) 76 8 (-1)) σ := CS_of (fun q hq => by rw [am_up_ne (show q ≠ 76 by rintro rfl; exact absurd hq (by decide)), am_up_ne (show q ≠ 76 by rintro rfl; exact absurd hq (by decide))]) zJ
    have hr := r_spread zi zw (C := co V r σ) (L := mw V r σ) (fun f => cst_le _) hK w1 (sN σ) (k - 1) 0 0 0 (fun _ => 0) none (am_up (am_up J 76 7 x) 76 8 (-1)) (by omega) (by omega) (by omega) (by omega) (fun y hy => by cases hy) zF (fun f hf => by rw [am_up_ne (by decide), am_up_ne (by decide), am_up_ne (by decide), am_up_ne (by decide)]; exact hW f hf) (by rw [am_sne (by decide), am_seq]; exact e1) am_seq (fun j hj => absurd hj (by omega))
    refine ⟨_, _, (by omega : k - 1 < k), hr, ?_⟩
    rintro _ F w2 ⟨rfl, rfl, h8F, -, -, fF⟩
    refine ⟨by rw [h8F], rfl, ?_⟩
    have f1 : am_fs 25 [7] cMn I J := fJ.mono (fun _ h => h) (by decide)
    have f2 : am_fs 25 [7] cMn I (am_up (am_up J 76 7 x) 76 8 (-1)) := am_fs.up (am_fs.up f1 (by decide) (by decide)) (by decide) (by decide)
    refine f2.trans ⟨fun q h1 h2 => fF.1 q (fun hz => h1 (by simp only [List.mem_cons, List.not_mem_nil, or_false] at hz; rw [hz]; decide)) (fun hz => h1 (by rw [hz]; decide)), fun j _ => by rw [fF.1 25 (by decide) (by decide)]⟩
  refine am_intro (pv_TC_many E k) (by decide) zi ?_ rfl rfl ?_
  · rintro _ _ _ ⟨rfl, -⟩; rfl
  intro S hS
  have bad : iMn x = false → aMny V r σ x = -2 := fun h => by unfold aMny; rw [h]; rfl
  refine am_at hS (fun _ => false) 90 0 ?_
  refine ⟨fun h => ?_, fun h => ?_⟩
  · rw [i_lt, show (1 : Int32).toInt = 1 from rfl] at h
    rw [bad (by unfold iMn; rw [decide_eq_false (by omega)]; rfl)]
    exact ⟨rfl, rfl, am_fs.refl⟩
  rw [i_lt, show (1 : Int32).toInt = 1 from rfl] at h
  refine ⟨fun h4 => ?_, fun h4 => ?_⟩
  · rw [i_lt, show (4 : Int32).toInt = 4 from rfl] at h4
    rw [bad (by unfold iMn; rw [decide_eq_false (show ¬ x.toInt ≤ 4 by omega), Bool.and_false])]
    exact ⟨rfl, rfl, am_fs.refl⟩
  rw [i_lt, show (4 : Int32).toInt = 4 from rfl] at h4
  refine ⟨_, _, (by omega : k - 1 < k), inn (k - 1) (by omega) (by unfold iMn; rw [decide_eq_true (by omega), decide_eq_true (by omega)]; rfl), ?_⟩
  rintro _ F w2 ⟨rfl, rfl, fF⟩
  exact ⟨rfl, rfl, fF⟩
