/-! SHEETS: cell: both -/
def hT (o : Option (Nat × Nat)) : Nat := match o with
  | some (t, _) => t
  | none => 0
def aCe1 (o : Option (Nat × Nat)) (i : Int32) : Int32 := match o with
  | none => -11
  | some (_, n) => cond (inb i n) 1 (-12)
def aCel (h : Hz) (x i : Int32) : Int32 := cond (inb x 4) (aCe1 (h.1 x.toNatClampNeg) i) (-2)
def pcv (t : Nat) (v : Int32) : Int32 := if t = 0 then ((v.toInt8.toInt32)) else if t = 1 then ((v.toInt16.toInt32)) else v
def hPut (h : Hz) (s j : Nat) (v : Int32) : Hz := (h.1, fun x i => if x = s ∧ i = j then v else h.2 x i)
def sCel (h : Hz) (x i v : Int32) : Hz := if aCel h x i = 1 then hPut h x.toNatClampNeg i.toNatClampNeg (pcv (hT (h.1 x.toNatClampNeg)) v) else h
theorem wfh_put {h : Hz} (hw : wfh h) {s j : Nat} {v : Int32} : wfh (hPut h s j v) := hw
theorem wfh_cel {h : Hz} (hw : wfh h) (x i v : Int32) : wfh (sCel h x i v) := by
  unfold sCel
  split
  · exact hw
  · exact hw
theorem hC_put {I : am_I} {h : Hz} (hI : hC I h) {s j : Nat} {v : Int32} : hC (am_up I (81 + 2 * s) j v) (hPut h s j v) := by
  intro x hx
  rw [am_up_ne (show 80 + 2 * x ≠ 81 + 2 * s by omega)]
  refine ⟨(hI x hx).1, fun a b hab => ?_⟩
  obtain ⟨g1, g2, g3⟩ := (hI x hx).2 a b hab
  refine ⟨g1, g2, fun i hi => ?_⟩
  show _ = if x = s ∧ i = j then v else h.2 x i
  by_cases e : x = s
  · subst e
    by_cases e2 : i = j
    · rw [if_pos ⟨rfl, e2⟩, e2, am_seq]
    · rw [if_neg (fun q => e2 q.2), am_sne e2]
      exact g3 i hi
  · rw [if_neg (fun q => e q.1), am_up_ne (show 81 + 2 * x ≠ 81 + 2 * s by omega)]
    exact g3 i hi
theorem hR_put {I : am_I} {h : Hz} (hw : wfh h) (hI : hR I h) {s j : Nat} {v : Int32} (hj : j < 40) : hR (am_up I 116 (40 * s + j) v) (hPut h s j v) := by
  intro x hx
  rw [am_up_ne (by decide), am_up_ne (by decide), am_up_ne (by decide)]
  refine ⟨(hI x hx).1, fun a b hab => ?_⟩
  obtain ⟨g1, g2, g3, g4⟩ := (hI x hx).2 a b hab
  have hb := (hw x hx a b hab).2
  refine ⟨g1, g2, g3, fun i hi => ?_⟩
  show _ = if x = s ∧ i = j then v else h.2 x i
  by_cases e : x = s ∧ i = j
  · rw [if_pos e, e.1, e.2, am_seq]
  · rw [if_neg e, am_sne (by omega)]
    exact g4 i hi
theorem r_isThere {E : am_E} (zi : am_inj E) {k : Nat} {I : am_I} (w : Int64) {h : Hz} (hw : wfh h) (hI : hC I h) {s : Nat} (hs : s < 4) : am_Ret E k Y_Sheet_isThere [.ref (80 + 2 * s)] I w (am_eq (some (.int (bi (h.1 s).isSome))) I w) := by
  refine am_intro (pv_Sheet_isThere E k) (by decide) zi ?_ rfl rfl ?_
  · rintro _ _ _ ⟨rfl, -⟩; exact bi_nr _
  intro S hS
  obtain ⟨h0, h1⟩ := hI s hs
  have hc : s = 0 ∨ s = 1 ∨ s = 2 ∨ s = 3 := by omega
  cases ho : h.1 s with
  | none =>
    have e := h0 ho
    rw [ho] at hS
    clear h0 h1 ho
    rcases hc with rfl | rfl | rfl | rfl
    all_goals
      refine am_at hS (fun _ => false) 60 0 ?_
      exact ⟨fun _ => ⟨rfl, rfl, rfl⟩, fun q => absurd e q⟩
  | some v =>
    obtain ⟨a, b⟩ := v
    have e := (h1 a b ho).1
    have ha := (hw s hs a b ho).1
    rw [ho] at hS
    clear h0 h1 ho
    rcases hc with rfl | rfl | rfl | rfl
    all_goals
      refine am_at hS (fun _ => false) 60 0 ?_
      exact ⟨fun q => absurd (e.symm.trans q) (nI_ne1 (by omega)), fun _ => ⟨rfl, rfl, rfl⟩⟩
def hld (n : Nat) (i m : Int32) : Bool := (decide (0 ≤ i.toInt) && decide (0 ≤ m.toInt)) && (decide (i.toInt ≤ n) && decide (m.toInt ≤ n - i.toInt))
theorem r_holds {E : am_E} (zi : am_inj E) {k : Nat} {I : am_I} (w : Int64) {s n : Nat} (hs : s < 4) (hn : n ≤ 40) (e : I (80 + 2 * s) 1 = nI n) (i m : Int32) : am_Ret E k Y_Sheet_holds [.ref (80 + 2 * s), .int i, .int m] I w (am_eq (some (.int (bi (hld n i m)))) I w) := by
  refine am_intro (pv_Sheet_holds E k) (by decide) zi ?_ rfl rfl ?_
  · rintro _ _ _ ⟨rfl, -⟩; exact bi_nr _
  intro S hS
  have e0 : (0 : Int32).toInt = 0 := rfl
  have hc : s = 0 ∨ s = 1 ∨ s = 2 ∨ s = 3 := by omega
  unfold hld at hS
  have es_ : ∀ j : Nat, j ≤ 40 → i = nI j → (I (80 + 2 * s) 1 - i).toInt = (n : Int) - j := fun j hj ei => by rw [e, ei]; exact pk_sub_toInt (by omega) (by omega)
  rcases hc with rfl | rfl | rfl | rfl
  all_goals
    refine am_at hS (fun _ => false) 60 0 ?_
    refine ⟨fun h => ?_, fun h => ?_⟩
    · rw [i_lt, e0] at h
      rw [decide_eq_false (show ¬ 0 ≤ i.toInt by omega)]
      exact ⟨rfl, rfl, rfl⟩
    rw [i_lt, e0] at h
    refine ⟨fun g => ?_, fun g => ?_⟩
    · rw [i_lt, e0] at g
      rw [decide_eq_false (show ¬ 0 ≤ m.toInt by omega), Bool.and_false]
      exact ⟨rfl, rfl, rfl⟩
    rw [i_lt, e0] at g
    refine ⟨fun q => ?_, fun q => ?_⟩
    · rw [e, i_lt, nI_toInt (by omega)] at q
      rw [decide_eq_false (show ¬ i.toInt ≤ n by omega), Bool.false_and, Bool.and_false]
      exact ⟨rfl, rfl, rfl⟩
    rw [e, i_lt, nI_toInt (by omega)] at q
    obtain ⟨j, hj⟩ : ∃ j : Nat, i.toInt = (j : Int) := ⟨i.toInt.toNat, by omega⟩
    have ei : i = nI j := by
      apply Int32.toInt_inj.mp
      rw [nI_toInt (by omega), hj]
    have es := es_ j (by omega) ei
    refine ⟨fun r => ?_, fun r => ?_⟩
    · rw [i_lt, es] at r
      rw [decide_eq_false (show ¬ m.toInt ≤ n - i.toInt by omega), Bool.and_false, Bool.and_false]
      exact ⟨rfl, rfl, rfl⟩
    · rw [i_lt, es] at r
      rw [decide_eq_true (show m.toInt ≤ n - i.toInt by omega), decide_eq_true (show i.toInt ≤ n by omega), decide_eq_true (show 0 ≤ m.toInt by omega), decide_eq_true (show 0 ≤ i.toInt by omega)]
      exact ⟨rfl, rfl, rfl⟩
theorem hld_1 {n : Nat} {i : Int32} : hld n i 1 = inb i n := by
  unfold hld inb
  rw [show (1 : Int32).toInt = 1 from rfl, Bool.eq_iff_iff]
  simp only [Bool.and_eq_true, decide_eq_true_eq]
  omega
theorem r_put {E : am_E} (zi : am_inj E) {k : Nat} {I : am_I} (w : Int64) {s t j : Nat} (hs : s < 4) (ht : t < 3) (hj : j < 40) (e : I (80 + 2 * s) 0 = nI t) (v : Int32) : am_Ret E k Y_Sheet_put [.ref (80 + 2 * s), .int (nI j), .int v] I w (am_eq none (am_up I (81 + 2 * s) j (pcv t v)) w) := by
  refine am_intro (pv_Sheet_put E k) (by decide) zi ?_ rfl rfl ?_
  · rintro _ _ _ ⟨rfl, -⟩; trivial
  intro S hS
  have hc : s = 0 ∨ s = 1 ∨ s = 2 ∨ s = 3 := by omega
  have bd : vp_in (nI j) 40 := vp_in_nI (by omega) (by omega)
  have cl : (nI j).toNatClampNeg = j := nI_clamp (by omega)
  unfold pcv at hS
  rcases hc with rfl | rfl | rfl | rfl
  all_goals
    refine am_at hS (fun _ => false) 60 0 ?_
    refine ⟨fun h => ?_, fun h => ?_⟩
    · have h : t = 0 := by
        have q : I _ 0 = nI 0 := h
        rw [e, neq (by omega) (by decide)] at q
        exact q
      refine ⟨bd, ?_⟩
      rw [cl, if_pos h]
      exact ⟨rfl, rfl, rfl⟩
    have h : ¬ t = 0 := fun q => h (by rw [e, q]; rfl)
    refine ⟨fun g => ?_, fun g => ?_⟩
    · have g : t = 1 := by
        have q : I _ 0 = nI 1 := g
        rw [e, neq (by omega) (by decide)] at q
        exact q
      refine ⟨bd, ?_⟩
      rw [cl, if_neg h, if_pos g]
      exact ⟨rfl, rfl, rfl⟩
    · have g : ¬ t = 1 := fun q => g (by rw [e, q]; rfl)
      refine ⟨bd, ?_⟩
      rw [cl, if_neg h, if_neg g]
      exact ⟨rfl, rfl, rfl⟩
theorem c_cell {E : am_E} (zi : am_inj E) {k : Nat} (hk : 1 ≤ k) {I : am_I} (w : Int64) {h : Hz} (hw : wfh h) (hI : hC I h) (x i v : Int32) :
    am_Ret E k Y_TC_cell [.ref 0, .int x, .int i, .int v] I w (fun q I' w' => q = some (.int (aCel h x i)) ∧ w' = w ∧ hC I' (sCel h x i v) ∧ am_fr fSh I I') := by
  refine am_intro (pv_TC_cell E k) (by decide) zi ?_ rfl rfl ?_
  · rintro _ _ _ ⟨rfl, -⟩; rfl
  intro S hS
  have bad : ∀ y, ¬ y = 1 → aCel h x i = y → am_po (fun q I' w' => q = some (.int (aCel h x i)) ∧ w' = w ∧ hC I' (sCel h x i v) ∧ am_fr fSh I I') [] [.int y] I w := fun y hy e => by
    have e3 : sCel h x i v = h := if_neg (by rw [e]; exact hy)
    exact ⟨congrArg (fun y => some (Value.int y)) e.symm, rfl, by rw [e3]; exact hI, am_fr.refl⟩
  refine am_at hS (fun _ => false) 60 0 ?_
  refine ⟨_, _, (by omega : k - 1 < k), r_isSheet zi x I w, am_elim ?_⟩
  refine ⟨fun g => ?_, fun g => ?_⟩
  · rw [bi_eq0] at g
    exact bad (-2) (by decide) (by unfold aCel; rw [g]; rfl)
  rw [bi_eq0, Bool.not_eq_false] at g
  obtain ⟨s, hs, rfl⟩ := inb_of g (by decide)
  have cs : (nI s).toNatClampNeg = s := nI_clamp (by omega)
  have bds : vp_in (nI s) 4 := vp_in_nI (by omega) (by omega)
  have ea : aCel h (nI s) i = aCe1 (h.1 s) i := by unfold aCel; rw [g, cs]; rfl
  have ct := r_isThere zi (k := k - 1) w hw hI hs
  have hc : s = 0 ∨ s = 1 ∨ s = 2 ∨ s = 3 := by omega
  cases ho : h.1 s with
  | none =>
    rw [ho] at ct ea
    have b0 := bad (-11) (by decide) ea
    refine ⟨bds, ?_⟩
    rw [cs]
    clear bad bds cs ea g ho
    rcases hc with rfl | rfl | rfl | rfl
    all_goals
      refine ⟨_, _, (by omega : k - 1 < k), ct, am_elim ?_⟩
      exact ⟨fun _ => b0, fun q => absurd rfl q⟩
  | some o =>
    obtain ⟨t, n⟩ := o
    obtain ⟨e0, e1, e2⟩ := (hI s hs).2 t n ho
    obtain ⟨ht, hn⟩ := hw s hs t n ho
    have ch := r_holds zi (k := k - 1) w hs hn e1 i 1
    rw [hld_1] at ch
    rw [ho] at ct ea
    have ea : aCel h (nI s) i = cond (inb i n) 1 (-12) := ea
    cases hin : inb i n with
    | false =>
      rw [hin] at ch ea
      have b0 := bad (-12) (by decide) ea
      refine ⟨bds, ?_⟩
      rw [cs]
      clear bad cs ea g ho e0 e1 e2
      rcases hc with rfl | rfl | rfl | rfl
      all_goals
        refine ⟨_, _, (by omega : k - 1 < k), ct, am_elim ?_⟩
        refine ⟨fun q => absurd (show (1 : Int32) = 0 from q) (by decide), fun _ => ?_⟩
        refine ⟨bds, ?_⟩
        refine ⟨_, _, (by omega : k - 1 < k), ch, am_elim ?_⟩
        exact ⟨fun _ => b0, fun q => absurd rfl q⟩
    | true =>
      rw [hin] at ch
      rw [hin, cond_true] at ea
      obtain ⟨j, hj, rfl⟩ := inb_of hin (by omega)
      have cp := r_put zi (k := k - 1) w hs ht (show j < 40 by omega) e0 v
      have es : sCel h (nI s) (nI j) v = hPut h s j (pcv t v) := by
        unfold sCel
        rw [if_pos ea, cs, nI_clamp (by omega), ho]
        rfl
      have hp := hC_put hI (s := s) (j := j) (v := pcv t v)
      have hf : am_fr fSh I (am_up I (81 + 2 * s) j (pcv t v)) := am_fr.up am_fr.refl (by unfold fSh; simp only [List.mem_cons, List.not_mem_nil, or_false]; omega)
      have res : am_po (fun q I' w' => q = some (.int (aCel h (nI s) (nI j))) ∧ w' = w ∧ hC I' (sCel h (nI s) (nI j) v) ∧ am_fr fSh I I') [] [.int 1] (am_up I (81 + 2 * s) j (pcv t v)) w := ⟨congrArg (fun y => some (Value.int y)) ea.symm, rfl, by rw [es]; exact hp, hf⟩
      refine ⟨bds, ?_⟩
      rw [cs]
      clear bad ea g ho e0 e1 e2 hin es hp hf cs
      rcases hc with rfl | rfl | rfl | rfl
      all_goals
        refine ⟨_, _, (by omega : k - 1 < k), ct, am_elim ?_⟩
        refine ⟨fun q => absurd (show (1 : Int32) = 0 from q) (by decide), fun _ => ?_⟩
        refine ⟨bds, ?_⟩
        refine ⟨_, _, (by omega : k - 1 < k), ch, am_elim ?_⟩
        refine ⟨fun q => absurd (show (1 : Int32) = 0 from q) (by decide), fun _ => ?_⟩
        refine ⟨bds, ?_⟩
        refine ⟨_, _, (by omega : k - 1 < k), cp, am_elim ?_⟩
        exact res
