/-! SHEETS: sheet: the reference's -/
theorem m_isSheet {E : am_E} (zi : am_inj E) {k : Nat} (hk : 1 ≤ k) (I : am_I) (w : Int64) (x : Int32) : am_Ret E k Y_MO_isSheet [.int x] I w (am_eq (some (.int (bi (inb x 4)))) I w) := by
  refine am_intro (pv_MO_isSheet E k) (by decide) zi ?_ rfl rfl ?_
  · rintro _ _ _ ⟨rfl, -⟩; exact bi_nr _
  intro S hS
  refine am_at hS (fun _ => false) 60 0 ?_
  refine ⟨_, _, (by omega : k - 1 < k), r_in zi I w _ _ _, am_elim ?_⟩
  refine ⟨?_, rfl, rfl⟩
  rw [inl_3]
theorem inl_ish (t : Int32) : inl t.toInt64 (-1) 2 = ish t := by
  rw [inl_r]
  rfl
def mSh : List Nat := [113, 114, 115, 116]
theorem hR_set {J I : am_I} {h : Hz} (hI : hR I h) {s : Nat} {o : Option (Nat × Nat)} (hs : (o = none → J 113 s = 0) ∧ ∀ a b, o = some (a, b) → J 113 s = 1 ∧ J 114 s = nI a ∧ J 115 s = nI b ∧ ∀ i, i < b → J 116 (40 * s + i) = 0) (hw : wfh h) (hx : ∀ x, x < 4 → x ≠ s → J 113 x = I 113 x ∧ J 114 x = I 114 x ∧ J 115 x = I 115 x ∧ ∀ i, i < 40 → J 116 (40 * x + i) = I 116 (40 * x + i)) : hR J (hSet h s o) := by
  intro x hx4
  by_cases e : x = s
  · subst e
    have e1 : (hSet h x o).1 x = o := fup_self
    rw [e1]
    refine ⟨hs.1, fun a b hab => ?_⟩
    obtain ⟨g1, g2, g3, g4⟩ := hs.2 a b hab
    exact ⟨g1, g2, g3, fun i hi => (g4 i hi).trans (if_pos rfl).symm⟩
  · have e1 : (hSet h s o).1 x = h.1 x := fup_ne e
    rw [e1]
    obtain ⟨j1, j2, j3, j4⟩ := hx x hx4 e
    refine ⟨fun q => j1.trans ((hI x hx4).1 q), fun a b hab => ?_⟩
    obtain ⟨g1, g2, g3, g4⟩ := (hI x hx4).2 a b hab
    have hb := (hw x hx4 a b hab).2
    exact ⟨j1.trans g1, j2.trans g2, j3.trans g3, fun i hi => ((j4 i (by omega)).trans (g4 i hi)).trans (if_neg e).symm⟩
theorem i40 {s i : Nat} : 40 * nI s + nI i = nI (40 * s + i) := by rw [show (40 : Int32) = nI 40 from rfl, pk_mul, nI_add]
theorem m_sheet {E : am_E} (zi : am_inj E) {k : Nat} (hk : 2 ≤ k) {I : am_I} (w : Int64) {h : Hz} (hw : wfh h) (hI : hR I h) (x t n : Int32) :
    am_Ret E k Y_MO_sheet [.ref 88, .int x, .int t, .int n] I w (fun q I' w' => q = some (.int (aShe x t n)) ∧ w' = w ∧ hR I' (sShe h x t n) ∧ am_fr mSh I I') := by
  refine am_intro (pv_MO_sheet E k) (by decide) zi ?_ rfl rfl ?_
  · rintro _ _ _ ⟨rfl, -⟩; rfl
  intro S hS
  have bad : aShe x t n = -2 → am_po (fun q I' w' => q = some (.int (aShe x t n)) ∧ w' = w ∧ hR I' (sShe h x t n) ∧ am_fr mSh I I') [] [.int (-2)] I w := fun e => by
    have e3 : sShe h x t n = h := if_neg (by rw [e]; decide)
    exact ⟨congrArg (fun y => some (Value.int y)) e.symm, rfl, by rw [e3]; exact hI, am_fr.refl⟩
  refine am_at hS (fun t => Nat.beq t 34) 60 0 ?_
  refine ⟨_, _, (by omega : k - 1 < k), m_isSheet zi (by omega) I w x, am_elim ?_⟩
  refine ⟨fun g => ?_, fun g => ?_⟩
  · rw [bi_eq0] at g
    exact bad (by unfold aShe; rw [g]; rfl)
  rw [bi_eq0, Bool.not_eq_false] at g
  refine ⟨_, _, (by omega : k - 1 < k), r_in zi I w _ _ _, am_elim ?_⟩
  rw [inl_ish]
  refine ⟨fun hi => ?_, fun hi => ?_⟩
  · rw [bi_eq0] at hi
    exact bad (by unfold aShe; rw [hi, Bool.and_false]; rfl)
  rw [bi_eq0, Bool.not_eq_false] at hi
  obtain ⟨s, hs, rfl⟩ := inb_of g (by decide)
  have ea : aShe (nI s) t n = if t = -1 then 1 else if 40 < n then -2 else if n < 0 then -14 else 1 := by unfold aShe; rw [g, hi]; rfl
  have cs : (nI s).toNatClampNeg = s := nI_clamp (by omega)
  have bds : vp_in (nI s) 4 := vp_in_nI (by omega) (by omega)
  have tm : (t < 0) = (t = -1) := by
    unfold ish at hi
    rw [Bool.and_eq_true, decide_eq_true_eq, decide_eq_true_eq] at hi
    refine propext ⟨fun q => ?_, fun q => by rw [q]; decide⟩
    rw [i_lt, show (0 : Int32).toInt = 0 from rfl] at q
    apply Int32.toInt_inj.mp
    show t.toInt = -1
    omega
  by_cases t3 : t = -1
  · rw [if_pos t3] at ea
    have es : sShe h (nI s) t n = hSet h s none := by unfold sShe; rw [if_pos ea, if_pos t3, cs]
    have neg : t < 0 := by rw [tm]; exact t3
    have a34 : S 34 [some (.ref 88), some (.int (nI s)), some (.int t), some (.int n), none] [] I w := by
      have res : am_po (fun q I' w' => q = some (.int (aShe (nI s) t n)) ∧ w' = w ∧ hR I' (sShe h (nI s) t n) ∧ am_fr mSh I I') [] [.int 1] (am_up (am_up (am_up I 113 s 0) 114 s t) 115 s n) w := by
        refine ⟨congrArg (fun y => some (Value.int y)) ea.symm, rfl, ?_, am_fr.up (am_fr.up (am_fr.up am_fr.refl (by decide)) (by decide)) (by decide)⟩
        rw [es]
        refine hR_set hI ⟨fun _ => ?_, fun a b e => (by cases e)⟩ hw (fun x hx hne => ⟨?_, ?_, ?_, fun i hi => ?_⟩)
        · rw [am_up_ne (by decide), am_up_ne (by decide), am_seq]
        · rw [am_up_ne (by decide), am_up_ne (by decide), am_sne hne]
        · rw [am_up_ne (by decide), am_sne hne, am_up_ne (by decide)]
        · rw [am_sne hne, am_up_ne (by decide), am_up_ne (by decide)]
        · rw [am_up_ne (by decide), am_up_ne (by decide), am_up_ne (by decide)]
      refine am_at hS (fun _ => false) 60 34 ?_
      refine ⟨fun _ => ?_, fun q => absurd neg q⟩
      refine ⟨fun _ => ?_, fun q => absurd neg q⟩
      refine ⟨bds, Or.inl rfl, ?_⟩
      refine ⟨bds, ?_⟩
      refine ⟨bds, ?_⟩
      rw [cs]
      refine ⟨fun _ => ?_, fun _ => res⟩
      exact ⟨fun _ => res, fun q => absurd neg q⟩
    refine ⟨fun _ => a34, fun q => absurd neg q⟩
  rw [if_neg t3] at ea
  have pos : ¬ t < 0 := by rw [tm]; exact t3
  refine ⟨fun q => absurd q pos, fun _ => ?_⟩
  refine ⟨fun n1 => ?_, fun n1 => ?_⟩
  · exact bad (by rw [ea]; exact if_pos n1)
  have n1 : ¬ 40 < n := n1
  rw [if_neg n1] at ea
  refine am_at hS (fun t => Nat.beq t 77) 60 34 ?_
  refine ⟨fun q => absurd q pos, fun _ => ?_⟩
  refine ⟨fun n2 => ?_, fun n2 => ?_⟩
  · have n2 : n < 0 := n2
    rw [if_pos n2] at ea
    have e3 : sShe h (nI s) t n = h := if_neg (by rw [ea]; decide)
    exact ⟨congrArg (fun y => some (Value.int y)) ea.symm, rfl, by rw [e3]; exact hI, am_fr.refl⟩
  have n2 : ¬ n < 0 := n2
  rw [if_neg n2] at ea
  obtain ⟨a, ha, ta, ta2⟩ := ish_of hi t3
  obtain ⟨b, hb40, nb, nb2⟩ := n40_of n1 n2
  have es : sShe h (nI s) t n = hSet h s (some (a, b)) := by unfold sShe; rw [if_pos ea, if_neg t3, cs, ta2, nb2]
  refine ⟨fun q => absurd q pos, fun _ => ?_⟩
  refine ⟨bds, Or.inr rfl, ?_⟩
  refine ⟨bds, ?_⟩
  refine ⟨bds, ?_⟩
  rw [cs]
  obtain ⟨F, eF⟩ : ∃ F, F = am_up (am_up (am_up I 113 s 1) 114 s t) 115 s n := ⟨_, rfl⟩
  have loop := down (P := fun i => ∀ J, am_fr [116] F J → (∀ j, j < i → J 116 (40 * s + j) = 0) → (∀ q, (q < 40 * s ∨ 40 * s + 40 ≤ q) → J 116 q = F 116 q) → S 77 [some (.ref 88), some (.int (nI s)), some (.int t), some (.int n), some (.int (nI i))] [] J w) b ?z ?s
  case z =>
    intro J fJ hj hq
    have j3 := fJ 113 (by decide)
    have j4 := fJ 114 (by decide)
    have j5 := fJ 115 (by decide)
    refine am_at hS (fun t => Nat.beq t 77) 60 77 ?_
    refine ⟨fun q => absurd q (by rw [nb]; exact nI_nlt (Nat.le_refl _) (by omega)), fun _ => ?_⟩
    refine ⟨congrArg (fun y => some (Value.int y)) ea.symm, rfl, ?_, ?_⟩
    · rw [es]
      refine hR_set hI ⟨fun e => (by cases e), fun a' b' e => ?_⟩ hw (fun x hx hne => ⟨?_, ?_, ?_, fun i hi => ?_⟩)
      · cases e
        refine ⟨?_, ?_, ?_, hj⟩
        · rw [j3, eF, am_up_ne (by decide), am_up_ne (by decide), am_seq]
        · rw [j4, eF, am_up_ne (by decide), am_seq]; exact ta
        · rw [j5, eF, am_seq]; exact nb
      · rw [j3, eF, am_up_ne (by decide), am_up_ne (by decide), am_sne hne]
      · rw [j4, eF, am_up_ne (by decide), am_sne hne, am_up_ne (by decide)]
      · rw [j5, eF, am_sne hne, am_up_ne (by decide), am_up_ne (by decide)]
      · rw [hq _ (by omega), eF, am_up_ne (by decide), am_up_ne (by decide), am_up_ne (by decide)]
    · have f0 : am_fr mSh I F := by rw [eF]; exact am_fr.up (am_fr.up (am_fr.up am_fr.refl (by decide)) (by decide)) (by decide)
      exact f0.trans (fJ.mono (by decide))
  case s =>
    intro i hi hn J fJ hj hq
    refine am_at hS (fun t => Nat.beq t 77) 60 77 ?_
    refine ⟨fun _ => ?_, fun q => absurd (show nI i < n by rw [nb]; exact nI_lt hi (by omega)) q⟩
    refine ⟨fun q => absurd q pos, fun _ => ?_⟩
    refine ⟨by rw [i40]; exact vp_in_nI (by omega) (by omega), ?_⟩
    rw [i40, nI_clamp (by omega)]
    have h2 := hn (am_up J 116 (40 * s + i) 0) (am_fr.up fJ (by decide)) (fun j hj2 => by
      by_cases e : j = i
      · rw [e, am_seq]
      · rw [am_sne (by omega)]; exact hj j (by omega)) (fun q hq2 => by rw [am_sne (by omega)]; exact hq q hq2)
    rw [← nI_1] at h2
    exact h2
  have hq := loop 0 (Nat.zero_le _) F am_fr.refl (fun j hj => absurd hj (Nat.not_lt_zero _)) (fun _ _ => rfl)
  rw [eF] at hq
  exact hq
