/-! the reference: PEOPLE, FEELINGS -/
theorem cmp_lt {x y : Int64} : (lg_cmp x y < 0) = (x < y) := by
  unfold lg_cmp
  apply propext
  constructor
  · intro h
    split at h
    · exact absurd h (by decide)
    · next h1 =>
      split at h
      · exact absurd h (by decide)
      · next h2 =>
        rw [gt_iff_lt, Int64.lt_iff_toInt_lt] at h1
        rw [Int64.lt_iff_toInt_lt]
        have : ¬ x.toInt = y.toInt := fun q => h2 (Int64.toInt_inj.mp q)
        omega
  · intro h
    rw [Int64.lt_iff_toInt_lt] at h
    rw [if_neg (by rw [gt_iff_lt, Int64.lt_iff_toInt_lt]; omega), if_neg (fun q => by rw [q] at h; omega)]
    decide
theorem cmp_gt {x y : Int64} : (0 < lg_cmp x y) = (y < x) := by
  unfold lg_cmp
  apply propext
  constructor
  · intro h
    split at h
    · assumption
    · split at h <;> exact absurd h (by decide)
  · intro h
    rw [if_pos h]
    decide
/-- a number within -/
def inl (a b c : Int64) : Bool := decide (b.toInt ≤ a.toInt) && decide (a.toInt ≤ c.toInt)
theorem i2l_toInt (x : Int32) : x.toInt64.toInt = x.toInt := Int32.toInt_toInt64 x
theorem r_in {E : am_E} (zi : am_inj E) {k : Nat} (I : am_I) (w : Int64) (a b c : Int64) : am_Ret E k Y_MO_in [.long a, .long b, .long c] I w (am_eq (some (.int (bi (inl a b c)))) I w) := by
  refine am_intro (pv_MO_in E k) (by decide) zi ?_ rfl rfl ?_
  · rintro _ _ _ ⟨rfl, rfl, rfl⟩; exact bi_nr _
  intro S hS
  refine am_at hS (fun _ => false) 40 0 ?_
  refine ⟨fun h3 => ?_, fun h3 => ?_⟩
  · skip
    refine ⟨?_, rfl, rfl⟩
    rw [cmp_lt, Int64.lt_iff_toInt_lt] at h3
    rw [show inl a b c = false by simp [inl]; omega]; rfl
  · skip
    refine ⟨fun h10 => ?_, fun h10 => ?_⟩
    · skip
      refine ⟨?_, rfl, rfl⟩
      rw [cmp_gt, Int64.lt_iff_toInt_lt] at h10
      rw [show inl a b c = false by simp [inl]; omega]; rfl
    · skip
      refine ⟨?_, rfl, rfl⟩
      rw [cmp_lt, Int64.lt_iff_toInt_lt] at h3
      rw [cmp_gt, Int64.lt_iff_toInt_lt] at h10
      rw [show inl a b c = true by simp [inl]; omega]; rfl
theorem inl_inb (x : Int32) {N : Nat} (hN : N < 2 ^ 30) : inl x.toInt64 0 (nI N - 1).toInt64 = inb x N := by
  have e : (nI N - 1).toInt = (N : Int) - 1 := pk_sub_toInt (a := N) (b := 1) hN (by decide)
  unfold inl inb
  rw [i2l_toInt, i2l_toInt, e, show (0 : Int64).toInt = 0 from rfl]
  congr 1
  apply decide_eq_decide.mpr
  omega
theorem r_isPerson {E : am_E} (zi : am_inj E) {k : Nat} (I : am_I) (w : Int64) (hk : 1 ≤ k) {C : Nat} (hC : C < 2 ^ 30) (h0 : I 88 9 = nI C) (x : Int32) : am_Ret E k Y_MO_isPerson [.ref 88, .int x] I w (am_eq (some (.int (bi (inb x C)))) I w) := by
  refine am_intro (pv_MO_isPerson E k) (by decide) zi ?_ rfl rfl ?_
  · rintro _ _ _ ⟨rfl, rfl, rfl⟩; exact bi_nr _
  intro S hS
  refine am_at hS (fun _ => false) 40 0 ?_
  refine ⟨_, _, (by omega : k - 1 < k), r_in zi I w _ _ _, am_elim ?_⟩
  refine ⟨?_, rfl, rfl⟩
  rw [h0, inl_inb x hC]
theorem r_isFeeling {E : am_E} (zi : am_inj E) {k : Nat} (I : am_I) (w : Int64) (hk : 1 ≤ k) {C : Nat} (hC : C < 2 ^ 30) (h0 : I 88 16 = nI C) (x : Int32) : am_Ret E k Y_MO_isFeeling [.ref 88, .int x] I w (am_eq (some (.int (bi (inb x C)))) I w) := by
  refine am_intro (pv_MO_isFeeling E k) (by decide) zi ?_ rfl rfl ?_
  · rintro _ _ _ ⟨rfl, rfl, rfl⟩; exact bi_nr _
  intro S hS
  refine am_at hS (fun _ => false) 40 0 ?_
  refine ⟨_, _, (by omega : k - 1 < k), r_in zi I w _ _ _, am_elim ?_⟩
  refine ⟨?_, rfl, rfl⟩
  rw [h0, inl_inb x hC]
theorem fd_mono {L G : Nat → Nat} {a b f : Nat} : ∀ {m n : Nat}, fd L G a b m = some f → m ≤ n → fd L G a b n = some f := by
  intro m n h hmn
  induction n with
  | zero =>
    have e : m = 0 := by omega
    subst e
    exact h
  | succ n ih =>
    by_cases e : m = n + 1
    · subst e; exact h
    · rw [fd, ih (by omega)]
theorem fd_hit {L G : Nat → Nat} {a b f M : Nat} (h : fd L G a b f = none) (hm : (L f = a ∧ G f = b) ∨ (L f = b ∧ G f = a)) (hM : f < M) : fd L G a b M = some f := by
  refine fd_mono (m := f + 1) ?_ hM
  rw [fd, h]
  exact if_pos hm
theorem fd_miss {L G : Nat → Nat} {a b f : Nat} (h : fd L G a b f = none) (hm : ¬ ((L f = a ∧ G f = b) ∨ (L f = b ∧ G f = a))) : fd L G a b (f + 1) = none := by
  rw [fd, h]
  exact if_neg hm
theorem r_of {E : am_E} (zi : am_inj E) {k : Nat} {σ : St} (zw : wf σ) {I : am_I} (zR : RS I σ) (w : Int64) {a b : Nat} (ha : a < 9) (hb : b < 9) : am_Ret E k Y_MO_of [.ref 88, .int (nI a), .int (nI b)] I w (am_eq (some (.int (enc (sF σ a b)))) I w) := by
  refine am_intro (pv_MO_of E k) (by decide) zi ?_ rfl rfl ?_
  · rintro _ _ _ ⟨rfl, rfl, rfl⟩; rfl
  intro S hS
  have h36 := sM_le zw
  have h9 := zw.1
  have loop : ∀ d f, f + d = sM σ → fd (sL σ) (sG σ) a b f = none → S 2 [some (.ref 88), some (.int (nI a)), some (.int (nI b)), some (.int (nI f))] [] I w := by
    intro d
    induction d with
    | zero =>
      intro f h hn
      have e : f = sM σ := by omega
      subst e
      refine am_at hS (fun t => Nat.beq t 2) 60 2 ?_
      refine ⟨fun q => absurd q (by show ¬ nI (sM σ) < I 88 16; rw [zR.2.1]; exact nI_nlt (Nat.le_refl _) (by omega)), fun _ => ⟨?_, rfl, rfl⟩⟩
      show _ = some (Value.int (enc (fd (sL σ) (sG σ) a b (sM σ))))
      rw [hn]
      rfl
    | succ d ih =>
      intro f h hn
      obtain ⟨e1, e2, -⟩ := zR.2.2 f (by omega)
      have h3 := zw.2.1.1 f (by omega)
      have go := fun hm => ih (f + 1) (by omega) (fd_miss hn hm)
      rw [← nI_1] at go
      have ret : ((sL σ f = a ∧ sG σ f = b) ∨ (sL σ f = b ∧ sG σ f = a)) → some (Value.int (nI f)) = some (Value.int (enc (sF σ a b))) := fun hm => by
        show _ = some (Value.int (enc (fd (sL σ) (sG σ) a b (sM σ))))
        rw [fd_hit hn hm (by omega)]
        rfl
      refine am_at hS (fun t => Nat.beq t 2) 60 2 ?_
      refine ⟨fun h7 => ?_, fun h7 => absurd (show nI f < I 88 16 by rw [zR.2.1]; exact nI_lt (by omega) (by omega)) h7⟩
      refine ⟨vp_in_nI (by omega) (by omega), ?_⟩
      rw [nI_clamp (by omega), e1]
      refine ⟨fun h17 => ?_, fun h17 => ?_⟩
      · skip
        refine ⟨vp_in_nI (by omega) (by omega), ?_⟩
        rw [nI_clamp (by omega), e2]
        refine ⟨fun h27 => ?_, fun h27 => ?_⟩
        · skip
          rw [neq (by omega) (by omega)] at h17 h27
          exact ⟨ret (Or.inl ⟨h17, h27⟩), rfl, rfl⟩
        · skip
          refine ⟨vp_in_nI (by omega) (by omega), ?_⟩
          rw [nI_clamp (by omega), e1]
          refine ⟨fun h37 => ?_, fun h37 => ?_⟩
          · skip
            refine ⟨vp_in_nI (by omega) (by omega), ?_⟩
            rw [nI_clamp (by omega), e2]
            refine ⟨fun h47 => ?_, fun h47 => ?_⟩
            · skip
              rw [neq (by omega) (by omega)] at h17 h27 h37 h47
              exact ⟨ret (Or.inr ⟨h37, h47⟩), rfl, rfl⟩
            · skip
              rw [neq (by omega) (by omega)] at h17 h27 h37 h47
              exact go (by omega)
          · skip
            rw [neq (by omega) (by omega)] at h17 h27 h37
            exact go (by omega)
      · skip
        refine ⟨vp_in_nI (by omega) (by omega), ?_⟩
        rw [nI_clamp (by omega), e1]
        refine ⟨fun h37 => ?_, fun h37 => ?_⟩
        · skip
          refine ⟨vp_in_nI (by omega) (by omega), ?_⟩
          rw [nI_clamp (by omega), e2]
          refine ⟨fun h47 => ?_, fun h47 => ?_⟩
          · skip
            rw [neq (by omega) (by omega)] at h17 h37 h47
            exact ⟨ret (Or.inr ⟨h37, h47⟩), rfl, rfl⟩
          · skip
            rw [neq (by omega) (by omega)] at h17 h37 h47
            exact go (by omega)
        · skip
          rw [neq (by omega) (by omega)] at h17 h37
          exact go (by omega)
  exact am_at hS (fun t => Nat.beq t 2) 60 0 (loop (sM σ) 0 (by omega) rfl)
/-- three PEOPLE, a FEELING between each two, an odd number of hatreds -/
def itri (σ : St) (a b c : Nat) : Bool := match sF σ a b, sF σ b c, sF σ a c with
  | some f, some g, some h => decide (sS σ f * sS σ g * sS σ h < 0)
  | _, _, _ => false
theorem enc_some {o : Option Nat} {M : Nat} (h : ¬ enc o = -1) : ∃ f, o = some f := by
  cases o with
  | none => exact absurd rfl h
  | some f => exact ⟨f, rfl⟩
theorem enc_none {o : Option Nat} (h : enc o = -1) (hb : ∀ f, o = some f → f < 2 ^ 31) : o = none := by
  cases o with
  | none => rfl
  | some f => exact absurd h (nI_ne1 (hb f rfl))
theorem sF_lt {σ : St} (zw : wf σ) {a b : Nat} : ∀ f, sF σ a b = some f → f < 2 ^ 31 := fun f h => by
  have := (fd_some h).1
  have := sM_le zw
  omega
theorem r_isBadThree {E : am_E} (zi : am_inj E) {k : Nat} {σ : St} (zw : wf σ) {I : am_I} (zR : RS I σ) (w : Int64) (hk : 1 ≤ k) {a b c : Nat} (ha : a < 9) (hb : b < 9) (hc : c < 9) : am_Ret E k Y_MO_isBadThree [.ref 88, .int (nI a), .int (nI b), .int (nI c)] I w (am_eq (some (.int (bi (itri σ a b c)))) I w) := by
  refine am_intro (pv_MO_isBadThree E k) (by decide) zi ?_ rfl rfl ?_
  · rintro _ _ _ ⟨rfl, rfl, rfl⟩; exact bi_nr _
  intro S hS
  have h36 := sM_le zw
  refine am_at hS (fun _ => false) 90 0 ?_
  refine ⟨_, _, (by omega : k - 1 < k), r_of zi zw zR w ha hb, am_elim ?_⟩
  refine ⟨_, _, (by omega : k - 1 < k), r_of zi zw zR w hb hc, am_elim ?_⟩
  refine ⟨_, _, (by omega : k - 1 < k), r_of zi zw zR w ha hc, am_elim ?_⟩
  refine ⟨fun h27 => ?_, fun h27 => ?_⟩
  · skip
    refine ⟨?_, rfl, rfl⟩
    rw [show itri σ a b c = false by unfold itri; rw [enc_none h27 (sF_lt zw)]]; rfl
  · skip
    refine ⟨fun h33 => ?_, fun h33 => ?_⟩
    · skip
      refine ⟨?_, rfl, rfl⟩
      rw [show itri σ a b c = false by unfold itri; rw [enc_none h33 (sF_lt zw)]; split <;> simp_all]; rfl
    · skip
      refine ⟨fun h39 => ?_, fun h39 => ?_⟩
      · skip
        refine ⟨?_, rfl, rfl⟩
        rw [show itri σ a b c = false by unfold itri; rw [enc_none h39 (sF_lt zw)]; split <;> simp_all]; rfl
      · skip
        obtain ⟨f, hf⟩ := enc_some (M := 0) h27
        obtain ⟨g, hg⟩ := enc_some (M := 0) h33
        obtain ⟨h, hh⟩ := enc_some (M := 0) h39
        have f1 := (fd_some hf).1
        have g1 := (fd_some hg).1
        have h1 := (fd_some hh).1
        refine ⟨by rw [hf]; exact vp_in_nI (by omega) (by omega), ?_⟩
        rw [hf, show (enc (some f)).toNatClampNeg = f from nI_clamp (by omega), (zR.2.2 f (by omega)).2.2.1]
        refine ⟨by rw [hg]; exact vp_in_nI (by omega) (by omega), ?_⟩
        rw [hg, show (enc (some g)).toNatClampNeg = g from nI_clamp (by omega), (zR.2.2 g (by omega)).2.2.1]
        refine ⟨by rw [hh]; exact vp_in_nI (by omega) (by omega), ?_⟩
        rw [hh, show (enc (some h)).toNatClampNeg = h from nI_clamp (by omega), (zR.2.2 h (by omega)).2.2.1]
        refine ⟨fun h65 => ?_, fun h65 => ?_⟩
        · skip
          refine ⟨?_, rfl, rfl⟩
          rw [show itri σ a b c = true by unfold itri; rw [hf, hg, hh]; exact decide_eq_true h65]; rfl
        · skip
          refine ⟨?_, rfl, rfl⟩
          rw [show itri σ a b c = false by unfold itri; rw [hf, hg, hh]; exact decide_eq_false h65]; rfl
