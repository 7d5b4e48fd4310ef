/-! SHEETS: copy: the class's, all -/
theorem c_copy {E : am_E} (zi : am_inj E) {k : Nat} (hk : 1 ≤ k) {I : am_I} (w : Int64) {h : Hz} (hw : wfh h) (hI : hC I h) (x i y j n : Int32) :
    am_Ret E k Y_TC_copy [.ref 0, .int x, .int i, .int y, .int j, .int n] I w (fun q I' w' => q = some (.int (aCpo h x i y j n)) ∧ w' = w ∧ hC I' (sCpo h x i y j n) ∧ am_fr fSh I I') := by
  refine am_intro (pv_TC_copy E k) (by decide) zi ?_ rfl rfl ?_
  · rintro _ _ _ ⟨rfl, -⟩; rfl
  intro S hS
  have bad : ∀ v, v < 0 → aCpo h x i y j n = v → am_po (fun q I' w' => q = some (.int (aCpo h x i y j n)) ∧ w' = w ∧ hC I' (sCpo h x i y j n) ∧ am_fr fSh I I') [] [.int v] I w := fun v hv e => by
    have e3 : sCpo h x i y j n = h := if_pos (by rw [e]; exact hv)
    exact ⟨congrArg (fun y => some (Value.int y)) e.symm, rfl, by rw [e3]; exact hI, am_fr.refl⟩
  refine am_at hS (fun _ => false) 60 0 ?_
  refine ⟨_, _, (by omega : k - 1 < k), r_isSheet zi x I w, am_elim ?_⟩
  refine ⟨fun g => ?_, fun g => ?_⟩
  · rw [bi_eq0] at g
    exact bad (-2) (by decide) (by unfold aCpo; rw [g]; rfl)
  rw [bi_eq0, Bool.not_eq_false] at g
  refine ⟨_, _, (by omega : k - 1 < k), r_isSheet zi y I w, am_elim ?_⟩
  refine ⟨fun g2 => ?_, fun g2 => ?_⟩
  · rw [bi_eq0] at g2
    exact bad (-2) (by decide) (by unfold aCpo; rw [g2, Bool.and_false]; rfl)
  rw [bi_eq0, Bool.not_eq_false] at g2
  obtain ⟨s, hs, rfl⟩ := inb_of g (by decide)
  obtain ⟨o, ho, rfl⟩ := inb_of g2 (by decide)
  have cs : (nI s).toNatClampNeg = s := nI_clamp (by omega)
  have co_ : (nI o).toNatClampNeg = o := nI_clamp (by omega)
  have bds : vp_in (nI s) 4 := vp_in_nI (by omega) (by omega)
  have bdo : vp_in (nI o) 4 := vp_in_nI (by omega) (by omega)
  have ea : aCpo h (nI s) i (nI o) j n = aCo2 (h.1 s) (h.1 o) i j n := by unfold aCpo; rw [g, g2, cs, co_]; rfl
  have c1 := r_isThere zi (k := k - 1) w hw hI hs
  have c2 := r_isThere zi (k := k - 1) w hw hI ho
  have hcs : s = 0 ∨ s = 1 ∨ s = 2 ∨ s = 3 := by omega
  have hco : o = 0 ∨ o = 1 ∨ o = 2 ∨ o = 3 := by omega
  refine ⟨bds, ?_⟩
  rw [cs]
  refine ⟨bdo, ?_⟩
  rw [co_]
  cases hos : h.1 s with
  | none =>
    rw [hos] at c1 ea
    have b0 := bad (-11) (by decide) ea
    refine go2 (sh_f hs).1 rfl ?_
    refine ⟨_, _, (by omega : k - 1 < k), c1, am_elim ?_⟩
    exact ⟨fun _ => b0, fun q => absurd rfl q⟩
  | some v1 =>
    obtain ⟨t, a⟩ := v1
    cases hoo : h.1 o with
    | none =>
      rw [hos] at c1 ea
      rw [hoo] at c2 ea
      have b0 := bad (-11) (by decide) ea
      refine go2 (sh_f hs).1 rfl ?_
      refine ⟨_, _, (by omega : k - 1 < k), c1, am_elim ?_⟩
      refine ⟨fun q => absurd (show (1 : Int32) = 0 from q) (by decide), fun _ => ?_⟩
      refine go2 (sh_f ho).1 rfl ?_
      refine ⟨_, _, (by omega : k - 1 < k), c2, am_elim ?_⟩
      exact ⟨fun _ => b0, fun q => absurd rfl q⟩
    | some v2 =>
      obtain ⟨u, b⟩ := v2
      obtain ⟨e0, e1, -⟩ := (hI s hs).2 t a hos
      obtain ⟨f0, f1, -⟩ := (hI o ho).2 u b hoo
      obtain ⟨ht, ha⟩ := hw s hs t a hos
      obtain ⟨hu, hb⟩ := hw o ho u b hoo
      have h1 := r_holds zi (k := k - 1) w hs ha e1 i n
      have h2 := r_holds zi (k := k - 1) w ho hb f1 j n
      rw [hos] at c1 ea
      rw [hoo] at c2 ea
      have ea : aCpo h (nI s) i (nI o) j n = cond (decide (t = u)) (cond (hld a i n && hld b j n) n (-12)) (-13) := ea
      have hN : (I (80 + 2 * s) 0 = I (80 + 2 * o) 0) = (t = u) := by rw [e0, f0, neq (by omega) (by omega)]
      have b13 : ¬ t = u → _ := fun q => bad (-13) (by decide) (by rw [ea, decide_eq_false q]; rfl)
      have b12 : t = u → (hld a i n && hld b j n) = false → _ := fun q q2 => bad (-12) (by decide) (by rw [ea, decide_eq_true q, q2]; rfl)
      have res : t = u → hld a i n = true → hld b j n = true → (¬ i < 0 ∧ ¬ j < 0 ∧ ¬ n < 0 ∧ i.toNatClampNeg + n.toNatClampNeg ≤ 40 ∧ j.toNatClampNeg + n.toNatClampNeg ≤ 40) ∧ am_po (fun q I' w' => q = some (.int (aCpo h (nI s) i (nI o) j n)) ∧ w' = w ∧ hC I' (sCpo h (nI s) i (nI o) j n) ∧ am_fr fSh I I') [] [.int n] (am_cpI I (81 + 2 * s) (81 + 2 * o) i.toNatClampNeg j.toNatClampNeg n.toNatClampNeg) w := by
        intro q q1 q2
        obtain ⟨i', n', ei, en, hin⟩ := hld_of ha q1
        obtain ⟨j', n2, ej, en2, hjn⟩ := hld_of hb q2
        have enn : n2 = n' := by
          rw [en, neq (by omega) (by omega)] at en2
          exact en2.symm
        have ev : aCpo h (nI s) i (nI o) j n = n := by rw [ea, decide_eq_true q, q1, q2]; rfl
        have es : sCpo h (nI s) i (nI o) j n = hCpy h s i' o j' n' := by
          unfold sCpo
          rw [ev, en, if_neg (show ¬ nI n' < (0 : Int32) from nI_nlt (Nat.zero_le _) (by omega)), cs, co_, ei, ej, nI_clamp (by omega), nI_clamp (by omega), nI_clamp (by omega)]
        have hcp := hC_cpy hw hI (j := j') hs ho hos hin
        refine ⟨⟨?_, ?_, ?_, ?_, ?_⟩, congrArg (fun y => some (Value.int y)) ev.symm, rfl, ?_, fun q hq => am_cpI_ne (fun e => hq (by rw [e]; unfold fSh; simp only [List.mem_cons, List.not_mem_nil, or_false]; omega))⟩
        · rw [ei]; exact nI_nlt (Nat.zero_le _) (by omega)
        · rw [ej]; exact nI_nlt (Nat.zero_le _) (by omega)
        · rw [en]; exact nI_nlt (Nat.zero_le _) (by omega)
        · rw [ei, en, nI_clamp (by omega), nI_clamp (by omega)]; omega
        · rw [ej, en, nI_clamp (by omega), nI_clamp (by omega)]; omega
        · rw [es, ei, ej, en, nI_clamp (by omega), nI_clamp (by omega), nI_clamp (by omega)]
          exact hcp
      refine go2 (sh_f hs).1 rfl ?_
      refine ⟨_, _, (by omega : k - 1 < k), c1, am_elim ?_⟩
      refine ⟨fun q => absurd (show (1 : Int32) = 0 from q) (by decide), fun _ => ?_⟩
      refine go2 (sh_f ho).1 rfl ?_
      refine ⟨_, _, (by omega : k - 1 < k), c2, am_elim ?_⟩
      refine ⟨fun q => absurd (show (1 : Int32) = 0 from q) (by decide), fun _ => ?_⟩
      refine goC0 (sh_f hs).2.1 ?_
      refine goC0 (sh_f ho).2.1 ?_
      refine ⟨fun q => ?_, fun q => ?_⟩
      · have q := hN.mp q
        refine go2 (sh_f hs).1 rfl ?_
        refine ⟨_, _, (by omega : k - 1 < k), h1, am_elim ?_⟩
        refine ⟨fun q1 => ?_, fun q1 => ?_⟩
        · rw [bi_eq0] at q1
          exact b12 q (by rw [q1]; rfl)
        rw [bi_eq0, Bool.not_eq_false] at q1
        refine go2 (sh_f ho).1 rfl ?_
        refine ⟨_, _, (by omega : k - 1 < k), h2, am_elim ?_⟩
        refine ⟨fun q2 => ?_, fun q2 => ?_⟩
        · rw [bi_eq0] at q2
          exact b12 q (by rw [q2, Bool.and_false])
        rw [bi_eq0, Bool.not_eq_false] at q2
        obtain ⟨⟨r1, r2, r3, r4, r5⟩, r6⟩ := res q q1 q2
        refine goCq (sh_f hs).2.2.2.1 ?_
        refine goCq (sh_f ho).2.2.2.1 ?_
        refine go3 (sh_f hs).2.2.2.2 (sh_f ho).2.2.2.2 rfl ?_
        exact ⟨by omega, r1, r2, r3, r4, r5, r6⟩
      · exact b13 (fun z1 => q (hN.mpr z1))
