/-! what is WRONG in two camps costs so much: both -/
def sOf (C : Nat → Nat) (L : Nat → Bool) (σ : St) (m : Nat) : Nat → Option Nat
  | 0 => some 0
  | f + 1 => match sOf C L σ m f with
    | none => none
    | some n => cond (wrm σ f m) (cond (L f) (some (n + C f)) none) (some n)
theorem sOf_none {C : Nat → Nat} {L : Nat → Bool} {σ : St} {m f : Nat} (h : sOf C L σ m f = none) : ∀ g, f ≤ g → sOf C L σ m g = none
  | 0, hg => by have e : f = 0 := by omega
                subst e; exact h
  | g + 1, hg => by
    by_cases e : f = g + 1
    · subst e; exact h
    · rw [sOf, sOf_none h g (by omega)]
theorem sOf_le {C : Nat → Nat} {L : Nat → Bool} {σ : St} {m : Nat} (hC : ∀ f, C f ≤ 9999) : ∀ {f n : Nat}, sOf C L σ m f = some n → n ≤ 9999 * f
  | 0, n, h => by cases h; exact Nat.le_refl _
  | f + 1, n, h => by
    rw [sOf] at h
    cases hq : sOf C L σ m f with
    | none => rw [hq] at h; cases h
    | some x =>
      rw [hq] at h
      have := sOf_le hC hq
      have := hC f
      cases hw : wrm σ f m with
      | false => rw [hw] at h; cases h; omega
      | true =>
        cases hl : L f with
        | false => rw [hw, hl] at h; cases h
        | true => rw [hw, hl] at h; cases h; omega
theorem r_sumOf {E : am_E} (zi : am_inj E) {k : Nat} (hk : 3 ≤ k) {σ : St} (zw : wf σ) {I : am_I} (zC : CS I σ) (w : Int64) {C : Nat → Nat} {L : Nat → Bool} (hC : ∀ f, C f ≤ 9999) (hW : ∀ f, f < sM σ → I 27 f = nI (C f) ∧ I 28 f = bi (L f)) {m : Nat} (hm : m < 512) :
    am_Ret E k Y_Best_sumOf [.ref 76, .int (nI m)] I w (am_eq (some (.int (enc (sOf C L σ m (sM σ))))) I w) := by
  refine am_intro (pv_Best_sumOf E k) (by decide) zi ?_ rfl rfl ?_
  · rintro _ _ _ ⟨rfl, -⟩; rfl
  intro S hS
  have h36 := sM_le zw
  have loop := down (P := fun f => ∀ n, sOf C L σ m f = some n → S 4 [some (.ref 76), some (.int (nI m)), some (.int (nI n)), some (.int (nI f))] [] I w) (sM σ) ?z ?s
  case z =>
    intro n hn
    refine am_at hS (fun t => Nat.beq t 4) 80 4 ?_
    refine ⟨fun q => absurd q (by show ¬ nI (sM σ) < I 7 0; rw [zC.2.1]; exact nI_nlt (Nat.le_refl _) (by omega)), fun _ => ⟨?_, rfl, rfl⟩⟩
    rw [hn]
    rfl
  case s =>
    intro f hf hgo n hn
    refine am_at hS (fun t => Nat.beq t 4) 80 4 ?_
    refine ⟨fun _ => ?_, fun q => absurd (show nI f < I 7 0 by rw [zC.2.1]; exact nI_lt hf (by omega)) q⟩
    refine ⟨_, _, (by omega : k - 1 < k), r_isWrongIn zi zw zC w (by omega) hf hm, am_elim ?_⟩
    have bd : vp_in (nI f) 36 := vp_in_nI (by omega) (by omega)
    refine ⟨fun h => ?_, fun h => ?_⟩
    · rw [bi_eq0] at h
      have := hgo n (by rw [sOf, hn, h]; rfl)
      rw [← nI_1] at this
      exact this
    rw [bi_eq0, Bool.not_eq_false] at h
    refine ⟨bd, ?_⟩
    rw [nI_clamp (by omega), (hW f hf).2]
    refine ⟨fun h2 => ?_, fun h2 => ?_⟩
    · rw [bi_eq0] at h2
      refine ⟨?_, rfl, rfl⟩
      rw [sOf_none (f := f + 1) (by rw [sOf, hn, h, h2]; rfl) (sM σ) (by omega)]
      rfl
    rw [bi_eq0, Bool.not_eq_false] at h2
    refine ⟨bd, ?_⟩
    rw [nI_clamp (by omega), (hW f hf).1]
    have := hgo (n + C f) (by rw [sOf, hn, h, h2]; rfl)
    rw [← nI_1, ← nI_add] at this
    exact this
  exact am_at hS (fun t => Nat.beq t 4) 80 0 (loop 0 (Nat.zero_le _) 0 rfl)
theorem r_sumOfM {E : am_E} (zi : am_inj E) {k : Nat} (hk : 3 ≤ k) {σ : St} (zw : wf σ) {I : am_I} (zR : RS I σ) (w : Int64) {C : Nat → Nat} {L : Nat → Bool} (hC : ∀ f, C f ≤ 9999) (hW : ∀ f, f < sM σ → I 108 f = nI (C f) ∧ I 109 f = bi (L f)) {m : Nat} (hm : m < 512) :
    am_Ret E k Y_MO_sumOf [.ref 88, .int (nI m)] I w (am_eq (some (.int (enc (sOf C L σ m (sM σ))))) I w) := by
  refine am_intro (pv_MO_sumOf E k) (by decide) zi ?_ rfl rfl ?_
  · rintro _ _ _ ⟨rfl, -⟩; rfl
  intro S hS
  have h36 := sM_le zw
  have loop := down (P := fun f => ∀ n, sOf C L σ m f = some n → S 4 [some (.ref 88), some (.int (nI m)), some (.int (nI n)), some (.int (nI f))] [] I w) (sM σ) ?z ?s
  case z =>
    intro n hn
    refine am_at hS (fun t => Nat.beq t 4) 80 4 ?_
    refine ⟨fun q => absurd q (by show ¬ nI (sM σ) < I 88 16; rw [zR.2.1]; exact nI_nlt (Nat.le_refl _) (by omega)), fun _ => ⟨?_, rfl, rfl⟩⟩
    rw [hn]
    rfl
  case s =>
    intro f hf hgo n hn
    refine am_at hS (fun t => Nat.beq t 4) 80 4 ?_
    refine ⟨fun _ => ?_, fun q => absurd (show nI f < I 88 16 by rw [zR.2.1]; exact nI_lt hf (by omega)) q⟩
    refine ⟨_, _, (by omega : k - 1 < k), r_isWrongInM zi zw zR w hf hm, am_elim ?_⟩
    have bd : vp_in (nI f) 36 := vp_in_nI (by omega) (by omega)
    refine ⟨fun h => ?_, fun h => ?_⟩
    · rw [bi_eq0] at h
      have := hgo n (by rw [sOf, hn, h]; rfl)
      rw [← nI_1] at this
      exact this
    rw [bi_eq0, Bool.not_eq_false] at h
    refine ⟨bd, ?_⟩
    rw [nI_clamp (by omega), (hW f hf).2]
    refine ⟨fun h2 => ?_, fun h2 => ?_⟩
    · rw [bi_eq0] at h2
      refine ⟨?_, rfl, rfl⟩
      rw [sOf_none (f := f + 1) (by rw [sOf, hn, h, h2]; rfl) (sM σ) (by omega)]
      rfl
    rw [bi_eq0, Bool.not_eq_false] at h2
    refine ⟨bd, ?_⟩
    rw [nI_clamp (by omega), (hW f hf).1]
    have := hgo (n + C f) (by rw [sOf, hn, h, h2]; rfl)
    rw [← nI_1, ← nI_add] at this
    exact this
  exact am_at hS (fun t => Nat.beq t 4) 80 0 (loop 0 (Nat.zero_le _) 0 rfl)
