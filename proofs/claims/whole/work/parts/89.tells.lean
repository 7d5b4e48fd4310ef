/-! CAMPINGS: camping: the class's pieces -/
def tlc (h : Hz) (s : Nat) : Nat → Bool
  | 0 => true
  | i + 1 => tlc h s i && icp (h.2 s i)
theorem tlc_no {h : Hz} {s i : Nat} (e : tlc h s i = false) : ∀ x, i ≤ x → tlc h s x = false
  | 0, hx => by rw [show i = 0 by omega] at e; exact e
  | x + 1, hx => by
    by_cases q : i = x + 1
    · rw [← q]; exact e
    · rw [tlc, tlc_no e x (by omega)]; rfl
theorem tlc_all {h : Hz} {s : Nat} : ∀ {n : Nat}, tlc h s n = true → ∀ i, i < n → icp (h.2 s i) = true
  | 0, _, i, hi => absurd hi (Nat.not_lt_zero _)
  | n + 1, e, i, hi => by
    rw [tlc, Bool.and_eq_true] at e
    by_cases q : i = n
    · rw [q]; exact e.2
    · exact tlc_all e.1 i (by omega)
theorem r_tellsCamps {E : am_E} (zi : am_inj E) {k : Nat} (hk : 1 ≤ k) {I : am_I} (w : Int64) {h : Hz} {s n : Nat} (hs : s < 4) (hn : n ≤ 40) (e1 : I (80 + 2 * s) 1 = nI n) (e2 : ∀ i, i < n → I (81 + 2 * s) i = h.2 s i) : am_Ret E k Y_TC_tellsCamps [.ref (80 + 2 * s)] I w (am_eq (some (.int (bi (tlc h s n)))) I w) := by
  refine am_intro (pv_TC_tellsCamps E k) (by decide) zi ?_ rfl rfl ?_
  · rintro _ _ _ ⟨rfl, -⟩; exact bi_nr _
  intro S hS
  have e3 : ∀ i, i < n → (I (81 + 2 * s) (nI i).toNatClampNeg) = h.2 s i := fun i hi => by rw [nI_clamp (by omega)]; exact e2 i hi
  have hcall : ∀ i, i < n → am_Ret E (k - 1) Y_TC_isCamp [.int (I (81 + 2 * s) (nI i).toNatClampNeg)] I w (am_eq (some (.int (bi (icp (h.2 s i))))) I w) := fun i hi => by rw [e3 i hi]; exact r_isCamp zi (h.2 s i) I w
  have hc : s = 0 ∨ s = 1 ∨ s = 2 ∨ s = 3 := by omega
  obtain ⟨B, eB⟩ : ∃ B : Nat → Bool, B = tlc h s := ⟨_, rfl⟩
  obtain ⟨Q, eQ⟩ : ∃ Q : Nat → Bool, Q = fun i => icp (h.2 s i) := ⟨_, rfl⟩
  have hstep : ∀ i, B (i + 1) = (B i && Q i) := fun i => by rw [eB, eQ]; rfl
  have hno : ∀ i, B i = false → ∀ x, i ≤ x → B x = false := fun i e => by rw [eB] at e ⊢; exact tlc_no e
  have hB0 : B 0 = true := by rw [eB]; rfl
  have hcall : ∀ i, i < n → am_Ret E (k - 1) Y_TC_isCamp [.int (I (81 + 2 * s) (nI i).toNatClampNeg)] I w (am_eq (some (.int (bi (Q i)))) I w) := fun i hi => by rw [eQ]; exact hcall i hi
  rw [← eB] at hS
  clear eB eQ e2 e3
  obtain ⟨u, hu⟩ : ∃ u, u = 80 + 2 * s := ⟨_, rfl⟩
  rcases hc with rfl | rfl | rfl | rfl
  all_goals
    refine am_at hS (fun t => Nat.beq t 2) 60 0 ?_
    refine (fun hd => (by rw [hu] at hd; exact hd)) (down (P := fun i => B i = true → S 2 [some (.ref u), some (.int (nI i))] [] I w) n ?_ ?_ 0 (Nat.zero_le _) hB0)
    · intro hb
      rw [hb] at hS
      rw [hu]
      refine am_at hS (fun t => Nat.beq t 2) 60 2 ?_
      exact ⟨fun q => absurd q (by rw [e1]; exact nI_nlt (Nat.le_refl _) (by omega)), fun _ => ⟨rfl, rfl, rfl⟩⟩
    · intro i hi hgo hb
      rw [hu] at hgo ⊢
      refine am_at hS (fun t => Nat.beq t 2) 60 2 ?_
      refine ⟨fun _ => ?_, fun q => absurd (by rw [e1]; exact nI_lt hi (by omega)) q⟩
      refine ⟨vp_in_nI (by omega) (by omega), ?_⟩
      refine ⟨_, _, (by omega : k - 1 < k), hcall i hi, am_elim ?_⟩
      refine ⟨fun q => ?_, fun q => ?_⟩
      · rw [bi_eq0] at q
        rw [hno (i + 1) (by rw [hstep, q, Bool.and_false]) n (by omega)]
        exact ⟨rfl, rfl, rfl⟩
      · rw [bi_eq0, Bool.not_eq_false] at q
        have h2 := hgo (by rw [hstep, hb, q]; rfl)
        rw [← nI_1] at h2
        exact h2
