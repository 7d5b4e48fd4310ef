/-! who hangs together: the reference -/
theorem itn_10 {σ : St} (zw : wf σ) {out p : Nat} (hp : p < 9) : itn σ out p 10 = itn σ out p 9 := by
  obtain ⟨j, hj, e⟩ := itn_9 zw (out := out) hp
  rw [itn_stay e 10 (by omega), itn_stay e 9 hj]
theorem r_hangs {E : am_E} (zi : am_inj E) {k : Nat} {σ : St} (zw : wf σ) {I : am_I} (zR : RS I σ) (w : Int64) {p o : Nat} (hp : p < 9) (ho : o < 512) :
    am_Ret E k Y_MO_hangs [.ref 88, .int (nI p), .int (nI o)] I w (am_eq (some (.int (nI (itn σ o p 9)))) I w) := by
  refine am_intro (pv_MO_hangs E k) (by decide) zi ?_ rfl rfl ?_
  · rintro _ _ _ ⟨rfl, -⟩; rfl
  intro S hS
  have h36 := sM_le zw
  have h9 := zw.1
  have outer := down (P := fun i => ∀ la x5 x6, ((i = 0 ∧ la = 0) ∨ ∃ j, i = j + 1 ∧ la = itn σ o p j) → S 7 [some (.ref 88), some (.int (nI p)), some (.int (nI o)), some (.int (nI (itn σ o p i))), some (.int (nI la)), x5, x6] [] I w) 10 ?z ?s
  case z =>
    intro la x5 x6 hla
    have e : la = itn σ o p 10 := by
      rcases hla with ⟨e1, _⟩ | ⟨j, e1, e2⟩
      · omega
      · have e3 : j = 9 := by omega
        rw [e2, e3, itn_10 zw hp]
    refine am_at hS (fun t => Nat.beq t 7) 80 7 ?_
    rw [e]
    exact ⟨fun _ => ⟨by rw [itn_10 zw hp], rfl, rfl⟩, fun q => absurd rfl q⟩
  case s =>
    intro i hi hn la x5 x6 hla
    have hx := itn_lt zw (out := o) hp i
    have hlt : la < 512 := by
      rcases hla with ⟨_, e⟩ | ⟨j, _, e⟩
      · omega
      · rw [e]; exact itn_lt zw hp j
    refine am_at hS (fun t => Nat.beq t 7 || Nat.beq t 19) 80 7 ?_
    refine ⟨fun h => ?_, fun h => ?_⟩
    · rw [neq (by omega) (by omega)] at h
      refine ⟨?_, rfl, rfl⟩
      rcases hla with ⟨_, e⟩ | ⟨j, e1, e2⟩
      · exact absurd (h.symm.trans e) (itn_pos i)
      · subst e1
        have e3 : itn σ o p (j + 1) = itn σ o p j := h.symm.trans e2
        rw [e3, itn_at zw hp e3]
    · have inner := down (P := fun f => ∀ x6, S 19 [some (.ref 88), some (.int (nI p)), some (.int (nI o)), some (.int (nI (rd1 σ o (itn σ o p i) f))), some (.int (nI (itn σ o p i))), some (.int (nI f)), x6] [] I w) (sM σ) ?z2 ?s2
      case z2 =>
        intro x6
        refine am_at hS (fun t => Nat.beq t 7 || Nat.beq t 19) 80 19 ?_
        refine ⟨fun q => absurd q (by show ¬ nI (sM σ) < I 88 16; rw [zR.2.1]; exact nI_nlt (Nat.le_refl _) (by omega)), fun _ => ?_⟩
        exact hn (itn σ o p i) (some (.int (nI (sM σ)))) x6 (Or.inr ⟨i, rfl, rfl⟩)
      case s2 =>
        intro f hf hgo x6
        have hr := rd1_lt zw (out := o) hx f (by omega)
        have he := eb_lt zw hf
        obtain ⟨e1, e2, -⟩ := zR.2.2 f hf
        have h3 := zw.2.1.1 f hf
        refine am_at hS (fun t => Nat.beq t 19) 80 19 ?_
        refine ⟨fun _ => ?_, fun q => absurd (show nI f < I 88 16 by rw [zR.2.1]; exact nI_lt hf (by omega)) q⟩
        refine ⟨vp_in_nI (by omega) (by omega), ?_⟩
        rw [nI_clamp (by omega), e1]
        refine ⟨vp_in_nI (by omega) (by omega), ?_⟩
        rw [nI_clamp (by omega), e2]
        have ee : ((1 : Int32) <<< (nI (sL σ f) &&& 31)) ||| ((1 : Int32) <<< (nI (sG σ f) &&& 31)) = nI (eb σ f) := by
          rw [nI_shl1 (by omega), nI_shl1 (by omega), nI_or]
          rfl
        have b1 : eb σ f &&& o < 512 := Nat.and_lt_two_pow (n := 9) _ ho
        have b2 : eb σ f &&& rd1 σ o (itn σ o p i) f < 512 := Nat.and_lt_two_pow (n := 9) _ hr
        rw [rd1, ← nI_1] at hgo
        refine ⟨fun h53 => ?_, fun h53 => ?_⟩
        · have h53 : eb σ f &&& rd1 σ o (itn σ o p i) f = 0 := by
            have q : (((1 : Int32) <<< (nI (sL σ f) &&& 31)) ||| ((1 : Int32) <<< (nI (sG σ f) &&& 31))) &&& nI (rd1 σ o (itn σ o p i) f) = nI 0 := h53
            rw [ee, nI_and, neq (by omega) (by decide)] at q
            exact q
          have h2 := hgo (some (.int (((1 : Int32) <<< (nI (sL σ f) &&& 31)) ||| ((1 : Int32) <<< (nI (sG σ f) &&& 31)))))
          rw [decide_eq_true h53, Bool.not_true, Bool.and_false] at h2
          exact h2
        · have h53 : ¬ eb σ f &&& rd1 σ o (itn σ o p i) f = 0 := by
            have q : ¬ (((1 : Int32) <<< (nI (sL σ f) &&& 31)) ||| ((1 : Int32) <<< (nI (sG σ f) &&& 31))) &&& nI (rd1 σ o (itn σ o p i) f) = nI 0 := h53
            rw [ee, nI_and, neq (by omega) (by decide)] at q
            exact q
          have h2 := hgo (some (.int (((1 : Int32) <<< (nI (sL σ f) &&& 31)) ||| ((1 : Int32) <<< (nI (sG σ f) &&& 31)))))
          refine ⟨fun h60 => ?_, fun h60 => ?_⟩
          · have h60 : eb σ f &&& o = 0 := by
              have q : (((1 : Int32) <<< (nI (sL σ f) &&& 31)) ||| ((1 : Int32) <<< (nI (sG σ f) &&& 31))) &&& nI o = nI 0 := h60
              rw [ee, nI_and, neq (by omega) (by decide)] at q
              exact q
            rw [decide_eq_false h53, decide_eq_true h60, Bool.not_false, Bool.and_true, cond_true, ← nI_or, ← ee] at h2
            exact h2
          · have h60 : ¬ eb σ f &&& o = 0 := by
              have q : ¬ (((1 : Int32) <<< (nI (sL σ f) &&& 31)) ||| ((1 : Int32) <<< (nI (sG σ f) &&& 31))) &&& nI o = nI 0 := h60
              rw [ee, nI_and, neq (by omega) (by decide)] at q
              exact q
            rw [decide_eq_false h60, Bool.false_and] at h2
            exact h2
      exact inner 0 (Nat.zero_le _) x6
  have hgo := outer 0 (Nat.zero_le _) 0 none none (Or.inl ⟨rfl, rfl⟩)
  rw [show nI (itn σ o p 0) = (1 : Int32) <<< (nI p &&& 31) from (nI_shl1 (by omega)).symm] at hgo
  exact am_at hS (fun t => Nat.beq t 7) 80 0 hgo

