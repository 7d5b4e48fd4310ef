/-! the reference: telling; BAD THREES of both -/
theorem am_fs.refl {o : Nat} {js l : List Nat} {I : am_I} : am_fs o js l I I := ⟨fun _ _ _ => rfl, fun _ _ => rfl⟩
theorem am_fs.up {o : Nat} {js l : List Nat} {I J : am_I} {q j : Nat} {v : Int32} (h : am_fs o js l I J) (hq : q ∈ l) (ho : ¬ q = o) : am_fs o js l I (am_up J q j v) := by
  refine ⟨fun x hx hxo => ?_, fun i hi => ?_⟩
  · rw [am_up_ne (fun e => hx (by rw [e]; exact hq))]; exact h.1 x hx hxo
  · rw [am_up_ne (fun e => ho e.symm)]; exact h.2 i hi
theorem am_fs.upo {o : Nat} {js l : List Nat} {I J : am_I} {j : Nat} {v : Int32} (h : am_fs o js l I J) (hj : j ∈ js) : am_fs o js l I (am_up J o j v) := by
  refine ⟨fun x hx hxo => ?_, fun i hi => ?_⟩
  · rw [am_up_ne hxo]; exact h.1 x hx hxo
  · rw [am_up_fup, fup_ne (fun e => hi (by rw [e]; exact hj))]; exact h.2 i hi
theorem am_fs.trans {o : Nat} {js l : List Nat} {I J F : am_I} (h : am_fs o js l I J) (h2 : am_fs o js l J F) : am_fs o js l I F := ⟨fun q h3 h4 => (h2.1 q h3 h4).trans (h.1 q h3 h4), fun j hj => (h2.2 j hj).trans (h.2 j hj)⟩
theorem am_fs.mono {o : Nat} {js js' l l' : List Nat} {I J : am_I} (h : am_fs o js l I J) (hj : ∀ q, q ∈ js → q ∈ js') (hl : ∀ q, q ∈ l → q ∈ l') : am_fs o js' l' I J := ⟨fun q h3 h4 => h.1 q (fun z => h3 (hl q z)) h4, fun j h3 => h.2 j (fun z => h3 (hj j z))⟩
theorem RS_up {I I' : am_I} {σ : St} (zR : RS I σ) {f : Nat} {s t : Int32} {kd : Nat} (h : am_fs 88 [16] [94, 95, 96, 97, 98, 99] I I') (h16 : I' 88 16 = I 88 16) (h94 : I' 94 = fup (I 94) f (nI (sL σ f))) (h95 : I' 95 = fup (I 95) f (nI (sG σ f)))
    (h96 : I' 96 = fup (I 96) f s) (h97 : I' 97 = fup (I 97) f t) (h98 : I' 98 = fup (I 98) f (nI (kd / 2))) (h99 : I' 99 = fup (I 99) f (nI (kd % 2))) : RS I' (sUp σ f s t kd) := by
  obtain ⟨⟨p1, p2⟩, c1, c2⟩ := zR
  refine ⟨⟨by rw [h.2 9 (by decide)]; exact p1, fun p hp => by rw [h.1 92 (by decide) (by decide), h.1 93 (by decide) (by decide)]; exact p2 p hp⟩, by rw [h16]; exact c1, fun g hg => ?_⟩
  rw [h94, h95, h96, h97, h98, h99]
  show fup (I 94) f (nI (sL σ f)) g = nI (sL σ g) ∧ fup (I 95) f (nI (sG σ f)) g = nI (sG σ g) ∧ fup (I 96) f s g = fup (sS σ) f s g ∧ fup (I 97) f t g = fup (sT σ) f t g ∧ fup (I 98) f (nI (kd / 2)) g = nI (fup (sK σ) f kd g / 2) ∧ fup (I 99) f (nI (kd % 2)) g = nI (fup (sK σ) f kd g % 2)
  by_cases e : g = f
  · rw [e]; simp only [fup_self]; exact ⟨trivial, trivial, trivial, trivial, trivial, trivial⟩
  · simp only [fup_ne e]; exact c2 g hg
theorem RS_new {I I' : am_I} {σ : St} (zR : RS I σ) {a b : Nat} {s t : Int32} {kd : Nat} (h : am_fs 88 [16] [94, 95, 96, 97, 98, 99] I I') (h16 : I' 88 16 = nI (sM σ + 1)) (h94 : I' 94 = fup (I 94) (sM σ) (nI (min a b))) (h95 : I' 95 = fup (I 95) (sM σ) (nI (max a b)))
    (h96 : I' 96 = fup (I 96) (sM σ) s) (h97 : I' 97 = fup (I 97) (sM σ) t) (h98 : I' 98 = fup (I 98) (sM σ) (nI (kd / 2))) (h99 : I' 99 = fup (I 99) (sM σ) (nI (kd % 2))) : RS I' (sNew σ a b s t kd) := by
  obtain ⟨⟨p1, p2⟩, c1, c2⟩ := zR
  refine ⟨⟨by rw [h.2 9 (by decide)]; exact p1, fun p hp => by rw [h.1 92 (by decide) (by decide), h.1 93 (by decide) (by decide)]; exact p2 p hp⟩, h16, fun g hg => ?_⟩
  have hg1 : g < sM σ + 1 := hg
  rw [h94, h95, h96, h97, h98, h99]
  show fup (I 94) (sM σ) (nI (min a b)) g = nI (fup (sL σ) (sM σ) (min a b) g) ∧ fup (I 95) (sM σ) (nI (max a b)) g = nI (fup (sG σ) (sM σ) (max a b) g) ∧ fup (I 96) (sM σ) s g = fup (sS σ) (sM σ) s g ∧ fup (I 97) (sM σ) t g = fup (sT σ) (sM σ) t g ∧ fup (I 98) (sM σ) (nI (kd / 2)) g = nI (fup (sK σ) (sM σ) kd g / 2) ∧ fup (I 99) (sM σ) (nI (kd % 2)) g = nI (fup (sK σ) (sM σ) kd g % 2)
  by_cases e : g = sM σ
  · rw [e]; simp only [fup_self]; exact ⟨trivial, trivial, trivial, trivial, trivial, trivial⟩
  · simp only [fup_ne e]; exact c2 g (by omega)
theorem r_tells {E : am_E} (zi : am_inj E) {k : Nat} {σ : St} (zw : wf σ) {I : am_I} (zR : RS I σ) (w : Int64) (hk : 1 ≤ k) {a b : Nat} (ha : a < sN σ) (hb : b < sN σ) (hab : a ≠ b) (s t : Int32) (kd : Nat) :
    am_Ret E k Y_MO_tells [.ref 88, .int (nI a), .int (nI b), .int s, .int t, .int (nI (kd / 2)), .int (nI (kd % 2))] I w (fun r I' w' => r = some (.int (nI (sTell σ a b s t kd).1)) ∧ w' = w ∧ RS I' (sTell σ a b s t kd).2 ∧ am_fs 88 [16] [94, 95, 96, 97, 98, 99] I I') := by
  refine am_intro (pv_MO_tells E k) (by decide) zi ?_ rfl rfl ?_
  · rintro _ _ _ ⟨rfl, -⟩; rfl
  intro S hS
  have h9 := zw.1
  have h36 := sM_le zw
  have c1 := zR.2.1
  have tail : ∀ (f : Nat) (J : am_I), f < 36 → am_po (fun r I' w' => r = some (.int (nI (sTell σ a b s t kd).1)) ∧ w' = w ∧ RS I' (sTell σ a b s t kd).2 ∧ am_fs 88 [16] [94, 95, 96, 97, 98, 99] I I') [] [.int (nI f)] (am_up (am_up (am_up (am_up (am_up (am_up J 94 f (nI (min a b))) 95 f (nI (max a b))) 96 f s) 97 f t) 98 f (nI (kd / 2))) 99 f (nI (kd % 2))) w →
      S 30 [some (.ref 88), some (.int (nI a)), some (.int (nI b)), some (.int s), some (.int t), some (.int (nI (kd / 2))), some (.int (nI (kd % 2))), some (.int (nI f))] [] J w := by
    intro f J hf hp
    have ef : (nI f).toNatClampNeg = f := nI_clamp (by omega)
    have bd : vp_in (nI f) 36 := vp_in_nI hf (by decide)
    refine am_at hS (fun t => Nat.beq t 30) 120 30 ?_
    rcases Nat.lt_or_gt_of_ne hab with q | q
    · refine ⟨fun _ => ?_, fun z => absurd (nI_lt q (by omega)) z⟩
      refine ⟨bd, ?_⟩
      refine ⟨fun _ => ?_, fun z => absurd (nI_lt q (by omega)) z⟩
      refine ⟨bd, ?_⟩
      refine ⟨bd, ?_⟩
      refine ⟨bd, ?_⟩
      refine ⟨bd, ?_⟩
      refine ⟨bd, ?_⟩
      rw [ef]
      rw [Nat.min_eq_left (by omega), Nat.max_eq_right (by omega)] at hp
      exact hp
    · refine ⟨fun z => absurd z (nI_nlt (by omega) (by omega)), fun _ => ?_⟩
      refine ⟨bd, ?_⟩
      refine ⟨fun z => absurd z (nI_nlt (by omega) (by omega)), fun _ => ?_⟩
      refine ⟨bd, ?_⟩
      refine ⟨bd, ?_⟩
      refine ⟨bd, ?_⟩
      refine ⟨bd, ?_⟩
      refine ⟨bd, ?_⟩
      rw [ef]
      rw [Nat.min_eq_right (by omega), Nat.max_eq_left (by omega)] at hp
      exact hp
  refine am_at hS (fun t => Nat.beq t 30) 120 0 ?_
  refine ⟨_, _, (by omega : k - 1 < k), r_of zi zw zR w (by omega) (by omega), am_elim ?_⟩
  cases hq : sF σ a b with
  | some f =>
    have hf := sF_lt_M hq
    have eT : sTell σ a b s t kd = (f, sUp σ f s t kd) := by unfold sTell; rw [hq]
    refine ⟨fun q => absurd q (nI_ne1 (by omega)), fun _ => ?_⟩
    refine tail f I (by omega) ?_
    rw [eT]
    have hL := zw.2.1.1 f hf
    have hp := (fd_some hq).2
    have e1 : min a b = sL σ f := by rcases hp with ⟨x, y⟩ | ⟨x, y⟩ <;> omega
    have e2 : max a b = sG σ f := by rcases hp with ⟨x, y⟩ | ⟨x, y⟩ <;> omega
    rw [e1, e2]
    refine ⟨rfl, rfl, RS_up zR ?_ ?_ ?_ ?_ ?_ ?_ ?_ ?_, ?_⟩
    · exact am_fs.up (am_fs.up (am_fs.up (am_fs.up (am_fs.up (am_fs.up am_fs.refl (by decide) (by decide)) (by decide) (by decide)) (by decide) (by decide)) (by decide) (by decide)) (by decide) (by decide)) (by decide) (by decide)
    · rw [am_up_ne (by decide), am_up_ne (by decide), am_up_ne (by decide), am_up_ne (by decide), am_up_ne (by decide), am_up_ne (by decide)]
    · rw [am_up_ne (by decide), am_up_ne (by decide), am_up_ne (by decide), am_up_ne (by decide), am_up_ne (by decide), am_up_fup]
    · rw [am_up_ne (by decide), am_up_ne (by decide), am_up_ne (by decide), am_up_ne (by decide), am_up_fup, am_up_ne (by decide)]
    · rw [am_up_ne (by decide), am_up_ne (by decide), am_up_ne (by decide), am_up_fup, am_up_ne (by decide), am_up_ne (by decide)]
    · rw [am_up_ne (by decide), am_up_ne (by decide), am_up_fup, am_up_ne (by decide), am_up_ne (by decide), am_up_ne (by decide)]
    · rw [am_up_ne (by decide), am_up_fup, am_up_ne (by decide), am_up_ne (by decide), am_up_ne (by decide), am_up_ne (by decide)]
    · rw [am_up_fup, am_up_ne (by decide), am_up_ne (by decide), am_up_ne (by decide), am_up_ne (by decide), am_up_ne (by decide)]
    · exact am_fs.up (am_fs.up (am_fs.up (am_fs.up (am_fs.up (am_fs.up am_fs.refl (by decide) (by decide)) (by decide) (by decide)) (by decide) (by decide)) (by decide) (by decide)) (by decide) (by decide)) (by decide) (by decide)
  | none =>
    have hM : sM σ < 36 := by
      rcases Nat.lt_or_gt_of_ne hab with q | q
      · exact sM_lt zw q hb hq
      · exact sM_lt zw q ha (by rw [sF, fd_symm]; exact hq)
    have eT : sTell σ a b s t kd = (sM σ, sNew σ a b s t kd) := by unfold sTell; rw [hq]
    refine ⟨fun _ => ?_, fun q => absurd rfl q⟩
    have hgo := tail (sM σ) (am_up I 88 16 (nI (sM σ) + 1)) hM ?_
    · rw [← c1] at hgo
      exact hgo
    rw [eT]
    refine ⟨rfl, rfl, RS_new zR ?_ ?_ ?_ ?_ ?_ ?_ ?_ ?_, ?_⟩
    · exact am_fs.up (am_fs.up (am_fs.up (am_fs.up (am_fs.up (am_fs.up (am_fs.upo am_fs.refl (by decide)) (by decide) (by decide)) (by decide) (by decide)) (by decide) (by decide)) (by decide) (by decide)) (by decide) (by decide)) (by decide) (by decide)
    · rw [am_up_ne (by decide), am_up_ne (by decide), am_up_ne (by decide), am_up_ne (by decide), am_up_ne (by decide), am_up_ne (by decide), am_up_fup, fup_self]
      exact nI_1 _
    · rw [am_up_ne (by decide), am_up_ne (by decide), am_up_ne (by decide), am_up_ne (by decide), am_up_ne (by decide), am_up_fup, am_up_ne (by decide)]
    · rw [am_up_ne (by decide), am_up_ne (by decide), am_up_ne (by decide), am_up_ne (by decide), am_up_fup, am_up_ne (by decide), am_up_ne (by decide)]
    · rw [am_up_ne (by decide), am_up_ne (by decide), am_up_ne (by decide), am_up_fup, am_up_ne (by decide), am_up_ne (by decide), am_up_ne (by decide)]
    · rw [am_up_ne (by decide), am_up_ne (by decide), am_up_fup, am_up_ne (by decide), am_up_ne (by decide), am_up_ne (by decide), am_up_ne (by decide)]
    · rw [am_up_ne (by decide), am_up_fup, am_up_ne (by decide), am_up_ne (by decide), am_up_ne (by decide), am_up_ne (by decide), am_up_ne (by decide)]
    · rw [am_up_fup, am_up_ne (by decide), am_up_ne (by decide), am_up_ne (by decide), am_up_ne (by decide), am_up_ne (by decide), am_up_ne (by decide)]
    · exact am_fs.up (am_fs.up (am_fs.up (am_fs.up (am_fs.up (am_fs.up (am_fs.upo am_fs.refl (by decide)) (by decide) (by decide)) (by decide) (by decide)) (by decide) (by decide)) (by decide) (by decide)) (by decide) (by decide)) (by decide) (by decide)

