/-! force of both -/
def aForce (T r : Nat) (v : Int32) : Int32 × Nat := cond (inb v T) (nI r, v.toNatClampNeg) (-2, r)
theorem aForce_lt {T r : Nat} (hr : r < T) (hT : T ≤ 6) (v : Int32) : (aForce T r v).2 < T := by
  unfold aForce
  cases h : inb v T with
  | false => exact hr
  | true =>
    obtain ⟨x, hx, rfl⟩ := inb_of h (by omega)
    show (nI x).toNatClampNeg < T
    rw [nI_clamp (by omega)]
    exact hx
theorem c_force {E : am_E} (zi : am_inj E) {k : Nat} {I : am_I} (w : Int64) {T r : Nat} {V : Tx} (zL : LC I T r V) (v : Int32) :
    am_Ret E k Y_TC_force [.ref 0, .int v] I w (fun q I' w' => q = some (.int (aForce T r v).1) ∧ w' = w ∧ LC I' T (aForce T r v).2 V ∧ am_fs 25 [3] [] I I') := by
  refine am_intro (pv_TC_force E k) (by decide) zi ?_ rfl rfl ?_
  · rintro _ _ _ ⟨rfl, -⟩; rfl
  intro S hS
  have hlt := aForce_lt zL.2.2.2.1 zL.2.2.1 v
  obtain ⟨l1, l2, l3, l4, l5⟩ := zL
  have zL : LC I T r V := ⟨l1, l2, l3, l4, l5⟩
  refine am_at hS (fun _ => false) 60 0 ?_
  unfold aForce
  refine ⟨fun h1 => ?_, fun h1 => ?_⟩
  · rw [inb_ff1 h1]
    exact ⟨rfl, rfl, zL, am_fs.refl⟩
  refine ⟨fun h12 => ?_, fun h12 => ?_⟩
  · have hv : inb v T = true := inb_tt h1 (by rw [← l1]; exact h12) (by omega)
    unfold aForce at hlt
    rw [hv] at hlt ⊢
    obtain ⟨x, hx, rfl⟩ := inb_of hv (by omega)
    refine ⟨congrArg (fun z => some (Value.int z)) l2, rfl, LC_set (fun q h1 h2 => am_up_ne (show q ≠ 25 by omega)) (by rw [am_up_fup, fup_ne (by decide)]) ?_ hlt zL, am_fs.upo am_fs.refl (by decide)⟩
    rw [am_up_fup, fup_self]
    show nI x = nI (nI x).toNatClampNeg
    rw [nI_clamp (by omega)]
  · have hv : inb v T = false := inb_ff2 (by rw [← l1]; exact h12) (by omega)
    rw [hv]
    exact ⟨rfl, rfl, zL, am_fs.refl⟩
theorem m_force {E : am_E} (zi : am_inj E) {k : Nat} (hk : 1 ≤ k) {I : am_I} (w : Int64) {T r : Nat} (hT : T ≤ 6) (h3 : I 88 3 = nI T) (h4 : I 88 4 = nI r) (v : Int32) :
    am_Ret E k Y_MO_force [.ref 88, .int v] I w (fun q I' w' => q = some (.int (aForce T r v).1) ∧ w' = w ∧ I' 88 4 = nI (aForce T r v).2 ∧ am_fs 88 [4] [] I I') := by
  refine am_intro (pv_MO_force E k) (by decide) zi ?_ rfl rfl ?_
  · rintro _ _ _ ⟨rfl, -⟩; rfl
  intro S hS
  refine am_at hS (fun _ => false) 60 0 ?_
  refine ⟨_, _, (by omega : k - 1 < k), r_in zi I w _ _ _, am_elim ?_⟩
  rw [h3, inl_inb v (by omega)]
  unfold aForce
  refine ⟨fun h13 => ?_, fun h13 => ?_⟩
  · rw [bi_eq0] at h13
    rw [h13]
    exact ⟨rfl, rfl, h4, am_fs.refl⟩
  · rw [bi_eq0, Bool.not_eq_false] at h13
    rw [h13]
    obtain ⟨x, hx, rfl⟩ := inb_of h13 (by omega)
    refine ⟨congrArg (fun z => some (Value.int z)) h4, rfl, ?_, am_fs.upo am_fs.refl (by decide)⟩
    rw [am_up_fup, fup_self]
    show nI x = nI (nI x).toNatClampNeg
    rw [nI_clamp (by omega)]

