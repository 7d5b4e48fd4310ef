/-! SHEETS: cell: the reference's -/
theorem m_cell {E : am_E} (zi : am_inj E) {k : Nat} (hk : 2 ≤ k) {I : am_I} (w : Int64) {h : Hz} (hw : wfh h) (hI : hR I h) (x i v : Int32) :
    am_Ret E k Y_MO_cell [.ref 88, .int x, .int i, .int v] I w (fun q I' w' => q = some (.int (aCel h x i)) ∧ w' = w ∧ hR I' (sCel h x i v) ∧ am_fr mSh I I') := by
  refine am_intro (pv_MO_cell E k) (by decide) zi ?_ rfl rfl ?_
  · rintro _ _ _ ⟨rfl, -⟩; rfl
  intro S hS
  have bad : ∀ y, ¬ y = 1 → aCel h x i = y → am_po (fun q I' w' => q = some (.int (aCel h x i)) ∧ w' = w ∧ hR I' (sCel h x i v) ∧ am_fr mSh I I') [] [.int y] I w := fun y hy e => by
    have e3 : sCel h x i v = h := if_neg (by rw [e]; exact hy)
    exact ⟨congrArg (fun y => some (Value.int y)) e.symm, rfl, by rw [e3]; exact hI, am_fr.refl⟩
  refine am_at hS (fun _ => false) 60 0 ?_
  refine ⟨_, _, (by omega : k - 1 < k), m_isSheet zi (by omega) I w x, am_elim ?_⟩
  refine ⟨fun g => ?_, fun g => ?_⟩
  · rw [bi_eq0] at g
    exact bad (-2) (by decide) (by unfold aCel; rw [g]; rfl)
  rw [bi_eq0, Bool.not_eq_false] at g
  obtain ⟨s, hs, rfl⟩ := inb_of g (by decide)
  have cs : (nI s).toNatClampNeg = s := nI_clamp (by omega)
  have bds : vp_in (nI s) 4 := vp_in_nI (by omega) (by omega)
  have ea : aCel h (nI s) i = aCe1 (h.1 s) i := by unfold aCel; rw [g, cs]; rfl
  refine ⟨bds, ?_⟩
  rw [cs]
  cases ho : h.1 s with
  | none =>
    have e := (hI s hs).1 ho
    rw [ho] at ea
    refine ⟨fun _ => bad (-11) (by decide) ea, fun q => absurd e q⟩
  | some o =>
    obtain ⟨t, n⟩ := o
    obtain ⟨e0, e1, e2, e3⟩ := (hI s hs).2 t n ho
    obtain ⟨ht, hn⟩ := hw s hs t n ho
    rw [ho] at ea
    have ea : aCel h (nI s) i = cond (inb i n) 1 (-12) := ea
    refine ⟨fun q => absurd (e0.symm.trans q) (by decide), fun _ => ?_⟩
    refine ⟨bds, ?_⟩
    rw [cs, e2]
    refine ⟨_, _, (by omega : k - 1 < k), r_in zi I w _ _ _, am_elim ?_⟩
    have ein : inl i.toInt64 0 (nI n - 1).toInt64 = inb i n := inl_inb i (by omega)
    refine ⟨fun q => ?_, fun q => ?_⟩
    · rw [ein, bi_eq0] at q
      rw [q] at ea
      exact bad (-12) (by decide) ea
    rw [ein, bi_eq0, Bool.not_eq_false] at q
    rw [q, cond_true] at ea
    obtain ⟨j, hj, rfl⟩ := inb_of q (by omega)
    have es : sCel h (nI s) (nI j) v = hPut h s j (pcv t v) := by
      unfold sCel
      rw [if_pos ea, cs, nI_clamp (by omega), ho]
      rfl
    have res : am_po (fun q I' w' => q = some (.int (aCel h (nI s) (nI j))) ∧ w' = w ∧ hR I' (sCel h (nI s) (nI j) v) ∧ am_fr mSh I I') [] [.int 1] (am_up I 116 (40 * s + j) (pcv t v)) w := ⟨congrArg (fun y => some (Value.int y)) ea.symm, rfl, by rw [es]; exact hR_put hw hI (by omega), am_fr.up am_fr.refl (by decide)⟩
    have bdj : vp_in (40 * nI s + nI j) 160 := by rw [i40]; exact vp_in_nI (by omega) (by omega)
    have clj : (40 * nI s + nI j).toNatClampNeg = 40 * s + j := by rw [i40]; exact nI_clamp (by omega)
    refine ⟨bds, ?_⟩
    rw [cs, e1]
    refine ⟨fun h0 => ?_, fun h0 => ?_⟩
    · have h0 : t = 0 := (neq (b := 0) (by omega) (by omega)).mp h0
      refine ⟨bdj, ?_⟩
      rw [clj]
      unfold pcv at res
      rw [if_pos h0] at res
      exact res
    have h0 : ¬ t = 0 := fun q => h0 ((neq (b := 0) (by omega) (by omega)).mpr q)
    refine ⟨bds, ?_⟩
    rw [cs, e1]
    refine ⟨fun h1 => ?_, fun h1 => ?_⟩
    · have h1 : t = 1 := (neq (b := 1) (by omega) (by omega)).mp h1
      refine ⟨bdj, ?_⟩
      rw [clj]
      unfold pcv at res
      rw [if_neg h0, if_pos h1] at res
      exact res
    · have h1 : ¬ t = 1 := fun q => h1 ((neq (b := 1) (by omega) (by omega)).mpr q)
      refine ⟨bdj, ?_⟩
      rw [clj]
      unfold pcv at res
      rw [if_neg h0, if_neg h1] at res
      exact res
