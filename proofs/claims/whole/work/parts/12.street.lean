/-! THE STREET: how many PEOPLE, FEELINGS; of a FEELING the lesser, the greater PERSON, sign, strength, kinds; of PEOPLE price, LED -/
abbrev St : Type := (Nat × Nat) × ((Nat → Nat) × (Nat → Nat)) × ((Nat → Int32) × (Nat → Int32) × (Nat → Nat)) × ((Nat → Int32) × (Nat → Int32))
abbrev sN (σ : St) : Nat := σ.1.1
abbrev sM (σ : St) : Nat := σ.1.2
abbrev sL (σ : St) : Nat → Nat := σ.2.1.1
abbrev sG (σ : St) : Nat → Nat := σ.2.1.2
abbrev sS (σ : St) : Nat → Int32 := σ.2.2.1.1
abbrev sT (σ : St) : Nat → Int32 := σ.2.2.1.2.1
abbrev sK (σ : St) : Nat → Nat := σ.2.2.1.2.2
abbrev sP (σ : St) : Nat → Int32 := σ.2.2.2.1
abbrev sD (σ : St) : Nat → Int32 := σ.2.2.2.2
def wfF (σ : St) : Prop := (∀ f, f < sM σ → sL σ f < sG σ f ∧ sG σ f < sN σ) ∧ (∀ f, f < sM σ → sS σ f = 1 ∨ sS σ f = -1) ∧ (∀ f, f < sM σ → 1 ≤ (sT σ f).toInt ∧ (sT σ f).toInt ≤ 99 ∧ sK σ f < 4) ∧ ∀ f g, f < sM σ → g < sM σ → sL σ f = sL σ g → sG σ f = sG σ g → f = g
def wf (σ : St) : Prop := sN σ ≤ 9 ∧ wfF σ ∧ ∀ p, p < sN σ → inb (sP σ p) 100 = true ∧ (sD σ p = -1 ∨ sD σ p = 0 ∨ sD σ p = 1)
/-- the FEELING of two PEOPLE among the first m -/
def fd (L G : Nat → Nat) (a b : Nat) : Nat → Option Nat
  | 0 => none
  | m + 1 => match fd L G a b m with
    | some f => some f
    | none => if (L m = a ∧ G m = b) ∨ (L m = b ∧ G m = a) then some m else none
abbrev sF (σ : St) (a b : Nat) : Option Nat := fd (sL σ) (sG σ) a b (sM σ)
def enc : Option Nat → Int32
  | none => -1
  | some f => nI f
theorem fd_some {L G : Nat → Nat} {a b : Nat} : ∀ {m f : Nat}, fd L G a b m = some f → f < m ∧ ((L f = a ∧ G f = b) ∨ (L f = b ∧ G f = a))
  | 0, f, h => by cases h
  | m + 1, f, h => by
    rw [fd] at h
    cases hq : fd L G a b m with
    | some g =>
      rw [hq] at h
      cases h
      obtain ⟨h1, h2⟩ := fd_some hq
      exact ⟨by omega, h2⟩
    | none =>
      rw [hq] at h
      dsimp only at h
      split at h
      · next hc => cases h; exact ⟨by omega, hc⟩
      · cases h
theorem fd_none {L G : Nat → Nat} {a b : Nat} : ∀ {m : Nat}, fd L G a b m = none → ∀ f, f < m → ¬ ((L f = a ∧ G f = b) ∨ (L f = b ∧ G f = a))
  | 0, h, f, hf => by omega
  | m + 1, h, f, hf => by
    rw [fd] at h
    cases hq : fd L G a b m with
    | some g => rw [hq] at h; cases h
    | none =>
      rw [hq] at h
      dsimp only at h
      split at h
      · cases h
      · next hc =>
        by_cases e : f = m
        · subst e; exact hc
        · exact fd_none hq f (by omega)
theorem fd_symm {L G : Nat → Nat} {a b : Nat} : ∀ (m : Nat), fd L G a b m = fd L G b a m
  | 0 => rfl
  | m + 1 => by
    rw [fd, fd, fd_symm m]
    have e : ((L m = a ∧ G m = b) ∨ (L m = b ∧ G m = a)) ↔ ((L m = b ∧ G m = a) ∨ (L m = a ∧ G m = b)) := Or.comm
    simp only [e]
theorem sF_of {σ : St} (h : wfF σ) {f : Nat} (hf : f < sM σ) : sF σ (sL σ f) (sG σ f) = some f := by
  cases hq : sF σ (sL σ f) (sG σ f) with
  | none => exact absurd (Or.inl ⟨rfl, rfl⟩) (fd_none hq f hf)
  | some g =>
    obtain ⟨h1, h2⟩ := fd_some hq
    rcases h2 with ⟨a, b⟩ | ⟨a, b⟩
    · rw [h.2.2.2 g f h1 hf a b]
    · have h3 := h.1 g h1
      have h4 := h.1 f hf
      omega
/-- the class's cells hold the street -/
def cP (n : Int32) (pr ld : Nat → Int32) (σ : St) : Prop := n = nI (sN σ) ∧ ∀ p, p < sN σ → pr p = sP σ p ∧ ld p = sD σ p
def cF (n : Int32) (lo gr si st ki nu : Nat → Int32) (σ : St) : Prop := n = nI (sM σ) ∧ (∀ f, f < sM σ → lo f = nI (sL σ f) ∧ gr f = nI (sG σ f) ∧ si f = sS σ f ∧ st f = sT σ f ∧ ki f = nI (sK σ f)) ∧ ∀ a b, a < 9 → b < 9 → nu (9 * a + b) = enc (sF σ a b)
def CS (I : am_I) (σ : St) : Prop := cP (I 1 0) (I 2) (I 3) σ ∧ cF (I 7 0) (I 8) (I 9) (I 10) (I 11) (I 12) (I 13) σ
/-- .. the reference's -/
def RS (I : am_I) (σ : St) : Prop := (I 88 9 = nI (sN σ) ∧ ∀ p, p < sN σ → I 92 p = sP σ p ∧ I 93 p = sD σ p) ∧ I 88 16 = nI (sM σ) ∧ ∀ f, f < sM σ → I 94 f = nI (sL σ f) ∧ I 95 f = nI (sG σ f) ∧ I 96 f = sS σ f ∧ I 97 f = sT σ f ∧ I 98 f = nI (sK σ f / 2) ∧ I 99 f = nI (sK σ f % 2)
/-- at most 36 FEELINGS -/
def pix (a b : Nat) : Nat := b * (b - 1) / 2 + a
theorem pix_ok : (List.range 9).all (fun b => (List.range b).all (fun a => decide (pix a b < 36) && (List.range 9).all (fun d => (List.range d).all (fun c => !decide (pix a b = pix c d) || (decide (a = c) && decide (b = d)))))) = true := by decide +kernel
theorem pix_lt {a b : Nat} (h : a < b) (hb : b < 9) : pix a b < 36 := by
  have h1 := List.all_eq_true.mp (List.all_eq_true.mp pix_ok b (List.mem_range.mpr hb)) a (List.mem_range.mpr h)
  rw [Bool.and_eq_true, decide_eq_true_eq] at h1
  exact h1.1
theorem pix_inj {a b c d : Nat} (h : a < b) (hb : b < 9) (h2 : c < d) (hd : d < 9) (e : pix a b = pix c d) : a = c ∧ b = d := by
  have h1 := List.all_eq_true.mp (List.all_eq_true.mp pix_ok b (List.mem_range.mpr hb)) a (List.mem_range.mpr h)
  rw [Bool.and_eq_true] at h1
  have h3 := List.all_eq_true.mp (List.all_eq_true.mp h1.2 d (List.mem_range.mpr hd)) c (List.mem_range.mpr h2)
  simp only [e, decide_true, Bool.not_true, Bool.false_or, Bool.and_eq_true, decide_eq_true_eq] at h3
  exact h3
/-- pigeons: an injection of the numbers below m into those below n -/
theorem pig : ∀ (n m : Nat) (g : Nat → Nat), (∀ i, i < m → g i < n) → (∀ i j, i < m → j < m → g i = g j → i = j) → m ≤ n
  | 0, m, g, h1, _ => by
    cases m with
    | zero => exact Nat.le_refl _
    | succ m => exact absurd (h1 0 (by omega)) (by omega)
  | n + 1, m, g, h1, h2 => by
    cases m with
    | zero => omega
    | succ m =>
      have key : m ≤ n := by
        refine pig n m (fun i => if g i = n then g m else g i) (fun i hi => ?_) (fun i j hi hj e => ?_)
        · show (if g i = n then g m else g i) < n
          have a := h1 i (by omega)
          have b := h1 m (by omega)
          split
          · next q =>
            have : g m ≠ n := fun q2 => absurd (h2 i m (by omega) (by omega) (by rw [q, q2])) (by omega)
            omega
          · omega
        · have hne : ∀ x, x < m → g x ≠ g m := fun x hx q => absurd (h2 x m (by omega) (by omega) q) (by omega)
          split at e <;> split at e
          · next q1 q2 => exact h2 i j (by omega) (by omega) (by rw [q1, q2])
          · exact absurd e.symm (hne j hj)
          · exact absurd e (hne i hi)
          · exact h2 i j (by omega) (by omega) e
      omega
theorem sM_le {σ : St} (h : wf σ) : sM σ ≤ 36 := by
  refine pig 36 (sM σ) (fun f => pix (sL σ f) (sG σ f)) (fun i hi => ?_) (fun i j hi hj e => ?_)
  · have := h.2.1.1 i hi
    exact pix_lt this.1 (Nat.lt_of_lt_of_le this.2 h.1)
  · have a := h.2.1.1 i hi
    have b := h.2.1.1 j hj
    obtain ⟨q1, q2⟩ := pix_inj a.1 (Nat.lt_of_lt_of_le a.2 h.1) b.1 (Nat.lt_of_lt_of_le b.2 h.1) e
    exact h.2.1.2.2.2 i j hi hj q1 q2
/-- two PEOPLE without a FEELING: there is room for one -/
theorem sM_lt {σ : St} (h : wf σ) {a b : Nat} (hab : a < b) (hb : b < sN σ) (hn : sF σ a b = none) : sM σ < 36 := by
  have h9 := h.1
  have : sM σ + 1 ≤ 36 := by
    refine pig 36 (sM σ + 1) (fun f => if f < sM σ then pix (sL σ f) (sG σ f) else pix a b) (fun i hi => ?_) (fun i j hi hj e => ?_)
    · split
      · next q => have := h.2.1.1 i q; exact pix_lt this.1 (by omega)
      · exact pix_lt hab (by omega)
    · split at e <;> split at e
      · next q1 q2 =>
        have x := h.2.1.1 i q1
        have y := h.2.1.1 j q2
        obtain ⟨z1, z2⟩ := pix_inj x.1 (by omega) y.1 (by omega) e
        exact h.2.1.2.2.2 i j q1 q2 z1 z2
      · next q1 q2 =>
        have x := h.2.1.1 i q1
        obtain ⟨z1, z2⟩ := pix_inj x.1 (by omega) hab (by omega) e
        exact absurd (Or.inl ⟨z1, z2⟩) (fd_none hn i q1)
      · next q1 q2 =>
        have x := h.2.1.1 j q2
        obtain ⟨z1, z2⟩ := pix_inj x.1 (by omega) hab (by omega) e.symm
        exact absurd (Or.inl ⟨z1, z2⟩) (fd_none hn j q2)
      · omega
  omega
/-- counting -/
def cnt (Q : Nat → Bool) : Nat → Nat
  | 0 => 0
  | n + 1 => cnt Q n + cond (Q n) 1 0
theorem cnt_le (Q : Nat → Bool) : ∀ n, cnt Q n ≤ n
  | 0 => Nat.le_refl _
  | n + 1 => by
    have := cnt_le Q n
    rw [cnt]
    cases Q n <;> simp <;> omega
/-- the bits of a FEELING's two PEOPLE; WRONG in two camps; BAD with a third -/
def eb (σ : St) (f : Nat) : Nat := 2 ^ sL σ f ||| 2 ^ sG σ f
def wrt (σ : St) (f : Nat) (t : Bool) : Bool := decide (0 < sS σ f) != t
def wrm (σ : St) (f m : Nat) : Bool := wrt σ f (m.testBit (sL σ f) == m.testBit (sG σ f))
def tri (σ : St) (f p : Nat) : Bool := match sF σ (sL σ f) p, sF σ (sG σ f) p with
  | some g, some h => decide (sS σ f * sS σ g * sS σ h < 0)
  | _, _ => false
def bth (σ : St) (f : Nat) : Nat := cnt (tri σ f) 9

theorem ix81 {a b : Nat} : nI a * 9 + nI b = nI (9 * a + b) := by
  rw [show (9 : Int32) = nI 9 from rfl, pk_mul, nI_add, Nat.mul_comm]
theorem r_find {E : am_E} (zi : am_inj E) {k : Nat} {σ : St} (zw : wf σ) {I : am_I} (zC : CS I σ) (w : Int64) {a b : Nat} (ha : a < 9) (hb : b < 9) : am_Ret E k Y_Feelings_find [.ref 7, .int (nI a), .int (nI b)] I w (am_eq (some (.int (enc (sF σ a b)))) I w) := by
  refine am_intro (pv_Feelings_find E k) (by decide) zi ?_ rfl rfl ?_
  · rintro _ _ _ ⟨rfl, rfl, rfl⟩; rfl
  intro S hS
  refine am_at hS (fun _ => false) 40 0 ?_
  refine ⟨by rw [ix81]; exact vp_in_nI (by omega) (by omega), ?_⟩
  rw [ix81, nI_clamp (by omega), zC.2.2.2 a b ha hb]
  exact ⟨rfl, rfl, rfl⟩
theorem r_isOf {E : am_E} (zi : am_inj E) {k : Nat} {σ : St} (zw : wf σ) {I : am_I} (zC : CS I σ) (w : Int64) {f p : Nat} (hf : f < sM σ) (hp : p < 9) : am_Ret E k Y_Feelings_isOf [.ref 7, .int (nI f), .int (nI p)] I w (am_eq (some (.int (bi (decide (sL σ f = p) || decide (sG σ f = p))))) I w) := by
  refine am_intro (pv_Feelings_isOf E k) (by decide) zi ?_ rfl rfl ?_
  · rintro _ _ _ ⟨rfl, rfl, rfl⟩; exact bi_nr _
  intro S hS
  have h36 := sM_le zw
  have h9 := zw.1
  obtain ⟨e1, e2, -⟩ := zC.2.2.1 f hf
  have h3 := zw.2.1.1 f hf
  refine am_at hS (fun _ => false) 40 0 ?_
  refine ⟨vp_in_nI (by omega) (by omega), ?_⟩
  rw [nI_clamp (by omega), e1]
  refine ⟨fun h7 => ?_, fun h7 => ?_⟩
  · skip
    refine ⟨?_, rfl, rfl⟩
    rw [neq (by omega) (by omega)] at h7
    simp [h7]; rfl
  · skip
    refine ⟨vp_in_nI (by omega) (by omega), ?_⟩
    rw [nI_clamp (by omega), e2]
    refine ⟨fun h17 => ?_, fun h17 => ?_⟩
    · skip
      refine ⟨?_, rfl, rfl⟩
      rw [neq (by omega) (by omega)] at h7 h17
      simp [h17]; rfl
    · skip
      refine ⟨?_, rfl, rfl⟩
      rw [neq (by omega) (by omega)] at h7 h17
      simp [h7, h17]; rfl
theorem r_bitsOf {E : am_E} (zi : am_inj E) {k : Nat} {σ : St} (zw : wf σ) {I : am_I} (zC : CS I σ) (w : Int64) {f : Nat} (hf : f < sM σ) : am_Ret E k Y_Feelings_bitsOf [.ref 7, .int (nI f)] I w (am_eq (some (.int (nI (eb σ f)))) I w) := by
  refine am_intro (pv_Feelings_bitsOf E k) (by decide) zi ?_ rfl rfl ?_
  · rintro _ _ _ ⟨rfl, rfl, rfl⟩; rfl
  intro S hS
  have h36 := sM_le zw
  have h9 := zw.1
  obtain ⟨e1, e2, -⟩ := zC.2.2.1 f hf
  have h3 := zw.2.1.1 f hf
  refine am_at hS (fun _ => false) 40 0 ?_
  refine ⟨vp_in_nI (by omega) (by omega), ?_⟩
  rw [nI_clamp (by omega), e1]
  refine ⟨vp_in_nI (by omega) (by omega), ?_⟩
  rw [nI_clamp (by omega), e2]
  refine ⟨?_, rfl, rfl⟩
  rw [nI_shl1 (by omega), nI_shl1 (by omega), nI_or]
  rfl
theorem r_isWrong {E : am_E} (zi : am_inj E) {k : Nat} {σ : St} (zw : wf σ) {I : am_I} (zC : CS I σ) (w : Int64) {f : Nat} (hf : f < sM σ) (t : Bool) : am_Ret E k Y_Feelings_isWrong [.ref 7, .int (nI f), .int (bi t)] I w (am_eq (some (.int (bi (wrt σ f t)))) I w) := by
  refine am_intro (pv_Feelings_isWrong E k) (by decide) zi ?_ rfl rfl ?_
  · rintro _ _ _ ⟨rfl, rfl, rfl⟩; exact bi_nr _
  intro S hS
  have h36 := sM_le zw
  obtain ⟨e1, e2, e3, -⟩ := zC.2.2.1 f hf
  refine am_at hS (fun _ => false) 40 0 ?_
  refine ⟨vp_in_nI (by omega) (by omega), ?_⟩
  rw [nI_clamp (by omega), e3]
  unfold wrt
  refine ⟨fun h => ?_, fun h => ?_⟩
  · rw [decide_eq_true h]
    cases t
    · exact ⟨fun q => absurd q (by decide), fun _ => ⟨rfl, rfl, rfl⟩⟩
    · exact ⟨fun _ => ⟨rfl, rfl, rfl⟩, fun q => absurd rfl q⟩
  · rw [decide_eq_false h]
    cases t
    · exact ⟨fun _ => ⟨rfl, rfl, rfl⟩, fun q => absurd rfl q⟩
    · exact ⟨fun q => absurd q (by decide), fun _ => ⟨rfl, rfl, rfl⟩⟩
theorem r_isWrongIn {E : am_E} (zi : am_inj E) {k : Nat} {σ : St} (zw : wf σ) {I : am_I} (zC : CS I σ) (w : Int64) (hk : 1 ≤ k) {f m : Nat} (hf : f < sM σ) (hm : m < 512) : am_Ret E k Y_Feelings_isWrongIn [.ref 7, .int (nI f), .int (nI m)] I w (am_eq (some (.int (bi (wrm σ f m)))) I w) := by
  refine am_intro (pv_Feelings_isWrongIn E k) (by decide) zi ?_ rfl rfl ?_
  · rintro _ _ _ ⟨rfl, rfl, rfl⟩; exact bi_nr _
  intro S hS
  have h36 := sM_le zw
  have h9 := zw.1
  obtain ⟨e1, e2, -⟩ := zC.2.2.1 f hf
  have h3 := zw.2.1.1 f hf
  refine am_at hS (fun _ => false) 40 0 ?_
  refine ⟨vp_in_nI (by omega) (by omega), ?_⟩
  rw [nI_clamp (by omega), e1]
  refine ⟨vp_in_nI (by omega) (by omega), ?_⟩
  rw [nI_clamp (by omega), e2]
  refine ⟨_, _, (by omega : k - 1 < k), r_isTogether zi hm (by omega) (by omega) I w, am_elim ?_⟩
  refine ⟨_, _, (by omega : k - 1 < k), r_isWrong zi zw zC w hf _, am_elim ?_⟩
  exact ⟨rfl, rfl, rfl⟩
theorem cnt_bi {Q : Nat → Bool} {n : Nat} : cnt Q (n + 1) = cnt Q n + cond (Q n) 1 0 := rfl
theorem cnt_t {Q : Nat → Bool} {n : Nat} (h : Q n = true) : nI (cnt Q n) + 1 = nI (cnt Q (n + 1)) := by rw [cnt, h, nI_1]; rfl
theorem cnt_f {Q : Nat → Bool} {n : Nat} (h : Q n = false) : nI (cnt Q n) = nI (cnt Q (n + 1)) := by rw [cnt, h]; rfl
theorem s_01 {σ : St} (h : wf σ) {f : Nat} (hf : f < sM σ) : ∀ g, f = g → sS σ g = 1 ∨ sS σ g = -1 := fun g e => e ▸ h.2.1.2.1 f hf
theorem r_hatreds {E : am_E} (zi : am_inj E) {k : Nat} {σ : St} (zw : wf σ) {I : am_I} (zC : CS I σ) (w : Int64)  : am_Ret E k Y_Feelings_hatreds [.ref 7] I w (am_eq (some (.int (nI (cnt (fun f => decide (sS σ f < 0)) (sM σ))))) I w) := by
  refine am_intro (pv_Feelings_hatreds E k) (by decide) zi ?_ rfl rfl ?_
  · rintro _ _ _ ⟨rfl, rfl, rfl⟩; rfl
  intro S hS
  have h36 := sM_le zw
  have loop : ∀ d f, f + d = sM σ → S 4 [some (.ref 7), some (.int (nI (cnt (fun f => decide (sS σ f < 0)) f))), some (.int (nI f))] [] I w := by
    intro d
    induction d with
    | zero =>
      intro f h
      have e : f = sM σ := by omega
      subst e
      refine am_at hS (fun t => Nat.beq t 4) 40 4 ?_
      exact ⟨fun q => absurd q (by show ¬ nI (sM σ) < I 7 0; rw [zC.2.1]; exact nI_nlt (Nat.le_refl _) (by omega)), fun _ => ⟨rfl, rfl, rfl⟩⟩
    | succ d ih =>
      intro f h
      obtain ⟨e1, e2, e3, -⟩ := zC.2.2.1 f (by omega)
      refine am_at hS (fun t => Nat.beq t 4) 40 4 ?_
      have hlt : nI f < I 7 0 := by rw [zC.2.1]; exact nI_lt (by omega) (by omega)
      refine ⟨fun _ => ?_, fun q => absurd hlt q⟩
      refine ⟨vp_in_nI (by omega) (by omega), ?_⟩
      rw [nI_clamp (by omega), e3]
      have hn := ih (f + 1) (by omega)
      refine ⟨fun q => ?_, fun q => ?_⟩
      · rw [← cnt_t (decide_eq_true q), ← nI_1] at hn
        exact hn
      · rw [← cnt_f (decide_eq_false q), ← nI_1] at hn
        exact hn
  exact am_at hS (fun t => Nat.beq t 4) 40 0 (loop (sM σ) 0 (by omega))
