/-! acts on the cells -/
def am_code (ci o j : Nat) : Option Nat := match am_nt am_sh o with
  | some (kd, _, r) => (match Nat.beq kd (ci + 5) with
    | true => am_nt r j
    | false => none)
  | none => none
theorem am_code_spec {ci o j x : Nat} (h : am_code ci o j = some x) : ∃ (n : Nat) (r : List Nat), am_sh[o]? = some (ci + 5, n, r) ∧ r[j]? = some x := by
  unfold am_code at h
  split at h
  · rename_i kd n r hs
    split at h
    · rename_i hb
      have e : kd = ci + 5 := Nat.eq_of_beq_eq_true hb
      subst e
      exact ⟨n, r, by rw [← am_nt_eq]; exact hs, by rw [← am_nt_eq]; exact h⟩
    · cases h
  · cases h
def am_arr (kd o : Nat) : Option Nat := match am_nt am_sh o with
  | some (kd', n, _) => (match Nat.beq kd kd' with
    | true => some n
    | false => none)
  | none => none
theorem am_arr_spec {kd o n : Nat} (h : am_arr kd o = some n) : ∃ (r : List Nat), am_sh[o]? = some (kd, n, r) := by
  unfold am_arr at h
  split at h
  · rename_i kd' n' r hs
    split at h
    · rename_i hb
      have e : kd = kd' := Nat.eq_of_beq_eq_true hb
      subst e
      cases h
      exact ⟨r, by rw [← am_nt_eq]; exact hs⟩
    · cases h
  · cases h
/-- the elements of the rows of objects -/
def am_el (kd i : Nat) : Nat := match kd with
  | 2 => 49 + 2 * i
  | 3 => 30 + 2 * i
  | _ => 80 + 2 * i
theorem am_el_ok : am_sh.all (fun s => !(Nat.ble 2 s.1 && Nat.ble s.1 4) || (List.range s.2.1).all (fun i => decide (s.2.2.getD i 0 = am_el s.1 i))) = true := by decide +kernel
theorem am_el_of {o kd n i : Nat} {r : List Nat} (h : am_sh[o]? = some (kd, n, r)) (h2 : 2 ≤ kd) (h4 : kd ≤ 4) (hi : i < n) : r.getD i 0 = am_el kd i := by
  have h1 := List.all_eq_true.mp am_el_ok _ (List.mem_of_getElem? h)
  rw [show Nat.ble 2 kd = true from Nat.ble_eq.mpr h2, show Nat.ble kd 4 = true from Nat.ble_eq.mpr h4] at h1
  simp only [Bool.and_self, Bool.not_true, Bool.false_or] at h1
  exact of_decide_eq_true (List.all_eq_true.mp h1 i (List.mem_range.mpr hi))
/-- the one long lies in the reference -/
theorem am_one : (List.range am_N).all (fun k => k == 88 || !((am_sh.getD k (0, 0, [])).2.2.contains 1)) = true ∧ (List.range 60).all (fun j => j == 21 || !decide (((am_sh.getD 88 (0, 0, [])).2.2)[j]? = some 1)) = true ∧ ((am_sh.getD 88 (0, 0, [])).2.2).length ≤ 60 := by decide +kernel
theorem am_fv_w {ad : Nat → Nat} {f : Nat → Int32} {w w' : Int64} : ∀ (r : List Nat) (b : Nat), ¬ 1 ∈ r → am_fv ad f w b r = am_fv ad f w' b r
  | [], b, _ => rfl
  | c :: r, b, h => by
    rw [am_fv, am_fv, am_fv_w r (b + 1) (fun q => h (List.mem_cons_of_mem _ q))]
    have e : am_cv ad (f b) w c = am_cv ad (f b) w' c := by
      match c, h with
      | 0, _ => rfl
      | 1, h => exact absurd List.mem_cons_self h
      | q + 2, _ => rfl
    rw [e]
theorem am_ce_w {E : am_E} {f : Nat → Int32} {w w' : Int64} {j : Nat} {s : am_sT} (hj : j ≠ 88) (hs : am_sh[j]? = some s) : am_ce E f w s = am_ce E f w' s := by
  have hlt : j < am_N := by rw [← am_shN]; exact (List.getElem?_eq_some_iff.mp hs).1
  have h1 := List.all_eq_true.mp am_one.1 j (List.mem_range.mpr hlt)
  have e : am_sh.getD j (0, 0, []) = s := by rw [List.getD_eq_getElem?_getD, hs]; rfl
  rw [e] at h1
  have h2 : ¬ 1 ∈ s.2.2 := by
    intro q
    rw [List.contains_iff_mem.mpr q] at h1
    simp at h1
    exact hj h1
  obtain ⟨kd, n, r⟩ := s
  match kd, h2 with
  | 0, _ => rfl
  | 1, _ => rfl
  | 2, _ => rfl
  | 3, _ => rfl
  | 4, _ => rfl
  | q + 5, h2 => exact congrArg (fun z => (Sum.inr (q, z) : va_E)) (am_fv_w r 0 h2)
theorem am_fv_set {ad : Nat → Nat} {f f' : Nat → Int32} {w : Int64} {r : List Nat} {j : Nat} {v : Int32} (hj : r[j]? = some 0) (h1 : f' j = v) (h2 : ∀ i, i ≠ j → f' i = f i) : (am_fv ad f w 0 r).set j (.int v) = am_fv ad f' w 0 r := by
  have hlt := (List.getElem?_eq_some_iff.mp hj).1
  apply List.ext_getElem?
  intro i
  by_cases hi : i = j
  · subst hi
    rw [List.getElem?_set_self (by rw [am_fv_len]; exact hlt), am_fv_get, hj, Nat.zero_add]
    simp [am_cv, h1]
  · rw [List.getElem?_set_ne (Ne.symm hi), am_fv_get, am_fv_get, Nat.zero_add, h2 i hi]
theorem am_fv_setl {ad : Nat → Nat} {f : Nat → Int32} {w w' : Int64} {r : List Nat} {j : Nat} (hj : r[j]? = some 1) (h1 : ∀ i, i ≠ j → r[i]? ≠ some 1) : (am_fv ad f w 0 r).set j (.long w') = am_fv ad f w' 0 r := by
  have hlt := (List.getElem?_eq_some_iff.mp hj).1
  apply List.ext_getElem?
  intro i
  by_cases hi : i = j
  · subst hi
    rw [List.getElem?_set_self (by rw [am_fv_len]; exact hlt), am_fv_get, hj]
    simp [am_cv]
  · rw [List.getElem?_set_ne (Ne.symm hi), am_fv_get, am_fv_get]
    cases hr : r[i]? with
    | none => rfl
    | some c =>
      match c, hr with
      | 0, _ => rfl
      | 1, hr => exact absurd hr (h1 i hi)
      | q + 2, _ => rfl
/-- a field's link: read; written -/
def am_fl (own : String) (idx ci j : Nat) : Prop := ∃ q, classes[ci]? = some q ∧ j < q.2.2 ∧ (q.2.1 j).1 = q.1 ∧ Cond.fieldLink own idx q.1 (q.2.1 j).2.1 (q.2.1 j).2.2.1 ∈ am_T
def am_fw (own : String) (idx ci j : Nat) (ty : FieldType) : Prop := ∃ q, classes[ci]? = some q ∧ j < q.2.2 ∧ (q.2.1 j).1 = q.1 ∧ Cond.fieldLink own idx q.1 (q.2.1 j).2.1 (q.2.1 j).2.2.1 ∈ am_T ∧ (q.2.1 j).2.2.2 = false ∧ parseFieldDescriptor (q.2.1 j).2.2.1 = some ty
section ACTS2
variable {E : am_E} {k : Nat} {cc : ByteArray} {nL : Nat} {own : String} {pc : Nat}
def aGet (ci j : Nat) : am_A := fun K _ _ f st I w => match st with
  | .ref o :: r => (match am_code ci o j with
    | some 0 => K f (.int (I o j) :: r) I w
    | some 1 => K f (.long w :: r) I w
    | some (q + 2) => K f (.ref q :: r) I w
    | none => False)
  | _ => False
theorem v_get {idx ci j : Nat} (hf : am_fl own idx ci j) (hd : decode cc pc = .ok (.getfield idx, 3)) : am_V E k cc nL own pc 3 (aGet ci j) := by
  intro p l e R s m args below meth c Q nc ns post C K J f st I w ha hK hJ
  obtain ⟨⟨hx, hb, hml, hown, hts⟩, ⟨hKn, hFx, hinj, hl⟩, ⟨hR1, hR2, hR3, hR4⟩, hpost⟩ := C
  obtain ⟨⟨C0, T0, N0⟩, h1, h2, h3, h4⟩ := hf
  simp only [aGet] at ha
  split at ha
  · rename_i o r
    have key : ∀ (x : Nat) (v : Value), am_code ci o j = some x → am_rz E.2.1 v = am_cv E.2.1 (I o j) w x → K f (v :: r) I w → am_Sem E p l e R s m args below meth c nL Q nc ns pc f (.ref o :: r) I w := by
      intro x v hx' hv hk H locs ls hP hS hls
      obtain ⟨n, rr, hs, hj⟩ := am_code_spec hx'
      have he := am_wd_get E I w hs
      refine va_get (fs := am_fv E.2.1 (I o) w 0 rr) hx hb hts (k_all h1).1 hown hKn hP o he h1 j h2 (hts _ h4) (fun _ h => by rw [h3] at h; exact h) (v := am_rz E.2.1 v) ?_ hd (hK _ _ _ _ hk H locs ls hP hS hls)
      rw [am_fv_get, hj, Nat.zero_add, hv]
      rfl
    split at ha
    · rename_i hc; exact key 0 _ hc rfl ha
    · rename_i hc; exact key 1 _ hc rfl ha
    · rename_i q hc; exact key (q + 2) _ hc rfl ha
    · exact ha.elim
  · exact ha.elim
def aPut (ci j : Nat) : am_A := fun K _ _ f st I w => match st with
  | .int v :: .ref o :: r => (match am_code ci o j with
    | some 0 => K f r (am_up I o j v) w
    | _ => False)
  | _ => False
def aPutz (ci j : Nat) : am_A := fun K _ _ f st I w => match st with
  | .int v :: .ref o :: r => (match am_code ci o j with
    | some 0 => (v = 0 ∨ v = 1) ∧ K f r (am_up I o j v) w
    | _ => False)
  | _ => False
def aPutj : am_A := fun K _ _ f st I _ => match st with
  | .long v :: .ref o :: r => (match Nat.beq o 88 with
    | true => K f r I v
    | false => False)
  | _ => False
theorem v_put0 {idx ci j : Nat} {ty : FieldType} (hf : am_fw own idx ci j ty) (hd : decode cc pc = .ok (.putfield idx, 3)) {p : Program} {l : Launch} {e : Env} {R : Room} {s : State} {m : MethodId} {args : Array Value} {below : List Frame} {meth : Method} {c : Code} {Q : State → Prop} {nc ns : Nat} {post : am_K}
    (C : am_Ctx E k p l e R s m args below meth c Q nc ns cc nL own post) {f : am_L} {v : Int32} {o : Nat} {r : List Value} {I : am_I} {w : Int64} (hn : narrow ty (.int v) = .int v) (hfit : fits ty (.int v) = true) (hc : am_code ci o j = some 0)
    (hK : am_Sem E p l e R s m args below meth c nL Q nc ns (pc + 3) f r (am_up I o j v) w) : am_Sem E p l e R s m args below meth c nL Q nc ns pc f (.int v :: .ref o :: r) I w := by
  obtain ⟨⟨hx, hb, hml, hown, hts⟩, ⟨hKn, hFx, hinj, hl⟩, ⟨hR1, hR2, hR3, hR4⟩, hpost⟩ := C
  obtain ⟨⟨C0, T0, N0⟩, h1, h2, h3, h4, h5, h6⟩ := hf
  intro H locs ls hP hS hls
  obtain ⟨n, rr, hs, hj⟩ := am_code_spec hc
  have he := am_wd_get E I w hs
  have hl0 : j < (am_fv E.2.1 (I o) w 0 rr).length := by rw [am_fv_len]; exact (List.getElem?_eq_some_iff.mp hj).1
  refine va_put (fs := am_fv E.2.1 (I o) w 0 rr) (v := .int v) hx hb hts (k_all h1).1 (kT ci) (k_all h1).2.2 (k_all h1).2.1 hown hKn hP (am_wd_D hinj I w) hS o he h1 j h2 (hts _ h4) (fun _ h => by rw [h3] at h; exact h) h5 h6 hn hfit hl0 hd (fun H1 locs1 hP1 _ hS1 => ?_)
  have e1 : (Sum.inr (ci, (am_fv E.2.1 (I o) w 0 rr).set j (.int v)) : va_E) = am_ce E (am_up I o j v o) w (ci + 5, n, rr) :=
    congrArg (fun z => (Sum.inr (ci, z) : va_E)) (am_fv_set hj (by simp [am_up]) (fun i hi => by simp [am_up, hi]))
  have e2 := am_wd_set (E := E) (I := I) (I' := am_up I o j v) (w := w) (w' := w) hs (fun i s' hi _ => by rw [am_up_ne hi])
  rw [e1, e2] at hP1
  exact hK H1 locs1 ls hP1 hS1 hls
theorem v_put {idx ci j : Nat} (hf : am_fw own idx ci j .int) (hd : decode cc pc = .ok (.putfield idx, 3)) : am_V E k cc nL own pc 3 (aPut ci j) := by
  intro p l e R s m args below meth c Q nc ns post C K J f st I w ha hK hJ
  simp only [aPut] at ha
  split at ha
  · rename_i v o r
    split at ha
    · rename_i hc
      exact v_put0 hf hd C rfl rfl hc (hK _ _ _ _ ha)
    · exact ha.elim
  · exact ha.elim
theorem v_putz {idx ci j : Nat} (hf : am_fw own idx ci j .boolean) (hd : decode cc pc = .ok (.putfield idx, 3)) : am_V E k cc nL own pc 3 (aPutz ci j) := by
  intro p l e R s m args below meth c Q nc ns post C K J f st I w ha hK hJ
  simp only [aPutz] at ha
  split at ha
  · rename_i v o r
    split at ha
    · rename_i hc
      have hz : narrow .boolean (.int v) = .int v ∧ fits .boolean (.int v) = true := by
        rcases ha.1 with e | e <;> subst e <;> exact ⟨by decide, by decide⟩
      exact v_put0 hf hd C hz.1 hz.2 hc (hK _ _ _ _ ha.2)
    · exact ha.elim
  · exact ha.elim
theorem v_putj {idx : Nat} (hf : am_fw own idx 12 21 .long) (hd : decode cc pc = .ok (.putfield idx, 3)) : am_V E k cc nL own pc 3 aPutj := by
  intro p l e R s m args below meth c Q nc ns post C K J f st I w ha hK hJ
  simp only [aPutj] at ha
  split at ha
  · rename_i v o r
    split at ha
    · rename_i hb88
      have e88 : o = 88 := Nat.eq_of_beq_eq_true hb88
      subst e88
      obtain ⟨⟨hx, hb, hml, hown, hts⟩, ⟨hKn, hFx, hinj, hl⟩, ⟨hR1, hR2, hR3, hR4⟩, hpost⟩ := C
      obtain ⟨⟨C0, T0, N0⟩, h1, h2, h3, h4, h5, h6⟩ := hf
      intro H locs ls hP hS hls
      have hc : am_code 12 88 21 = some 1 := by decide +kernel
      obtain ⟨n, rr, hs, hj⟩ := am_code_spec hc
      have he := am_wd_get E I w hs
      have hl0 : 21 < (am_fv E.2.1 (I 88) w 0 rr).length := by rw [am_fv_len]; exact (List.getElem?_eq_some_iff.mp hj).1
      have hu : ∀ i, i ≠ 21 → rr[i]? ≠ some 1 := by
        intro i hi q
        have er : (am_sh.getD 88 (0, 0, [])).2.2 = rr := by rw [List.getD_eq_getElem?_getD, hs]; rfl
        obtain ⟨-, u1, u2⟩ := am_one
        rw [er] at u1 u2
        have hlt : i < 60 := Nat.lt_of_lt_of_le (List.getElem?_eq_some_iff.mp q).1 u2
        have := List.all_eq_true.mp u1 i (List.mem_range.mpr hlt)
        rw [q] at this
        simp at this
        exact hi this
      refine va_put (fs := am_fv E.2.1 (I 88) w 0 rr) (v := .long v) hx hb hts (k_all h1).1 (kT 12) (k_all h1).2.2 (k_all h1).2.1 hown hKn hP (am_wd_D hinj I w) hS 88 he h1 21 h2 (hts _ h4) (fun _ h => by rw [h3] at h; exact h) h5 h6 rfl rfl hl0 hd (fun H1 locs1 hP1 _ hS1 => ?_)
      have e1 : (Sum.inr (12, (am_fv E.2.1 (I 88) w 0 rr).set 21 (.long v)) : va_E) = am_ce E (I 88) v (12 + 5, n, rr) :=
        congrArg (fun z => (Sum.inr (12, z) : va_E)) (am_fv_setl hj hu)
      have e2 := am_wd_set (E := E) (I := I) (I' := I) (w := w) (w' := v) hs (fun i s' hi hs' => am_ce_w hi hs')
      rw [e1, e2] at hP1
      exact hK _ _ _ _ ha H1 locs1 ls hP1 hS1 hls
    · exact ha.elim
  · exact ha.elim
/-! arrays -/
def aAld (kd : Nat) : am_A := fun K _ _ f st I w => match st with
  | .int i :: .ref o :: r => (match am_arr kd o with
    | some n => vp_in i n ∧ K f (.int (I o i.toNatClampNeg) :: r) I w
    | none => False)
  | _ => False
theorem v_iald (hd : decode cc pc = .ok (.iaload, 1)) : am_V E k cc nL own pc 1 (aAld 0) := by
  intro p l e R s m args below meth c Q nc ns post C K J f st I w ha hK hJ
  obtain ⟨⟨hx, hb, hml, hown, hts⟩, ⟨hKn, hFx, hinj, hl⟩, ⟨hR1, hR2, hR3, hR4⟩, hpost⟩ := C
  simp only [aAld] at ha
  split at ha
  · rename_i i o r
    split at ha
    · rename_i n hc
      obtain ⟨rr, hs⟩ := am_arr_spec hc
      intro H locs ls hP hS hls
      exact va_iald hx hb hKn hP o 0 (am_wd_get E I w hs) rfl ha.1 hd (hK _ _ _ _ ha.2 H locs ls hP hS hls)
    · exact ha.elim
  · exact ha.elim
theorem v_zald (hd : decode cc pc = .ok (.baload, 1)) : am_V E k cc nL own pc 1 (aAld 1) := by
  intro p l e R s m args below meth c Q nc ns post C K J f st I w ha hK hJ
  obtain ⟨⟨hx, hb, hml, hown, hts⟩, ⟨hKn, hFx, hinj, hl⟩, ⟨hR1, hR2, hR3, hR4⟩, hpost⟩ := C
  simp only [aAld] at ha
  split at ha
  · rename_i i o r
    split at ha
    · rename_i n hc
      obtain ⟨rr, hs⟩ := am_arr_spec hc
      intro H locs ls hP hS hls
      exact va_zald hx hb hKn hP o 1 (am_wd_get E I w hs) rfl ha.1 hd (hK _ _ _ _ ha.2 H locs ls hP hS hls)
    · exact ha.elim
  · exact ha.elim
def aAst : am_A := fun K _ _ f st I w => match st with
  | .int v :: .int i :: .ref o :: r => (match am_arr 0 o with
    | some n => vp_in i n ∧ K f r (am_up I o i.toNatClampNeg v) w
    | none => False)
  | _ => False
theorem v_iast (hd : decode cc pc = .ok (.iastore, 1)) : am_V E k cc nL own pc 1 aAst := by
  intro p l e R s m args below meth c Q nc ns post C K J f st I w ha hK hJ
  obtain ⟨⟨hx, hb, hml, hown, hts⟩, ⟨hKn, hFx, hinj, hl⟩, ⟨hR1, hR2, hR3, hR4⟩, hpost⟩ := C
  simp only [aAst] at ha
  split at ha
  · rename_i v i o r
    split at ha
    · rename_i n hc
      obtain ⟨rr, hs⟩ := am_arr_spec hc
      intro H locs ls hP hS hls
      refine va_iast hx hb hKn hP (am_wd_D hinj I w) hS o 0 (am_wd_get E I w hs) rfl ha.1 hd (fun H1 locs1 hP1 _ hS1 => ?_)
      have e1 : (Sum.inl (E.2.2.2 0, n, .inl (upd (I o) i.toNatClampNeg v)) : va_E) = am_ce E (am_up I o i.toNatClampNeg v o) w (0, n, rr) := by rw [am_up_self]; rfl
      have e2 := am_wd_set (E := E) (I := I) (I' := am_up I o i.toNatClampNeg v) (w := w) (w' := w) hs (fun i s' hi _ => by rw [am_up_ne hi])
      rw [e1, e2] at hP1
      exact hK _ _ _ _ ha.2 H1 locs1 ls hP1 hS1 hls
    · exact ha.elim
  · exact ha.elim
def aAstz : am_A := fun K _ _ f st I w => match st with
  | .int v :: .int i :: .ref o :: r => (match am_arr 1 o with
    | some n => vp_in i n ∧ (v = 0 ∨ v = 1) ∧ K f r (am_up I o i.toNatClampNeg v) w
    | none => False)
  | _ => False
theorem v_zast (hd : decode cc pc = .ok (.bastore, 1)) : am_V E k cc nL own pc 1 aAstz := by
  intro p l e R s m args below meth c Q nc ns post C K J f st I w ha hK hJ
  obtain ⟨⟨hx, hb, hml, hown, hts⟩, ⟨hKn, hFx, hinj, hl⟩, ⟨hR1, hR2, hR3, hR4⟩, hpost⟩ := C
  simp only [aAstz] at ha
  split at ha
  · rename_i v i o r
    split at ha
    · rename_i n hc
      obtain ⟨rr, hs⟩ := am_arr_spec hc
      obtain ⟨ha1, hz, ha2⟩ := ha
      have hz' : vp_nar .boolean v = v := by rcases hz with e | e <;> subst e <;> decide
      intro H locs ls hP hS hls
      refine va_zast hx hb hKn hP (am_wd_D hinj I w) hS o 1 (am_wd_get E I w hs) rfl ha1 hd (fun H1 locs1 hP1 _ hS1 => ?_)
      rw [hz'] at hP1
      have e1 : (Sum.inl (E.2.2.2 1, n, .inl (upd (I o) i.toNatClampNeg v)) : va_E) = am_ce E (am_up I o i.toNatClampNeg v o) w (1, n, rr) := by rw [am_up_self]; rfl
      have e2 := am_wd_set (E := E) (I := I) (I' := am_up I o i.toNatClampNeg v) (w := w) (w' := w) hs (fun i s' hi _ => by rw [am_up_ne hi])
      rw [e1, e2] at hP1
      exact hK _ _ _ _ ha2 H1 locs1 ls hP1 hS1 hls
    · exact ha.elim
  · exact ha.elim
def aAa (kd : Nat) : am_A := fun K _ _ f st I w => match st with
  | .int i :: .ref o :: r => (match am_arr kd o with
    | some n => vp_in i n ∧ K f (.ref (am_el kd i.toNatClampNeg) :: r) I w
    | none => False)
  | _ => False
theorem v_aa {kd : Nat} (h2 : 2 ≤ kd) (h4 : kd ≤ 4) (hd : decode cc pc = .ok (.aaload, 1)) : am_V E k cc nL own pc 1 (aAa kd) := by
  intro p l e R s m args below meth c Q nc ns post C K J f st I w ha hK hJ
  obtain ⟨⟨hx, hb, hml, hown, hts⟩, ⟨hKn, hFx, hinj, hl⟩, ⟨hR1, hR2, hR3, hR4⟩, hpost⟩ := C
  simp only [aAa] at ha
  split at ha
  · rename_i i o r
    split at ha
    · rename_i n hc
      obtain ⟨rr, hs⟩ := am_arr_spec hc
      have hlt : i.toNatClampNeg < n := Nat.not_le.mp fun q => ha.1 (Or.inr q)
      have hel := am_el_of hs h2 h4 hlt
      intro H locs ls hP hS hls
      have hk := hK _ _ _ _ ha.2 H locs ls hP hS hls
      have he := am_wd_get E I w hs
      have hv : am_rz E.2.1 (.ref (am_el kd i.toNatClampNeg)) = va_rf (some (E.2.1 (rr.getD i.toNatClampNeg 0))) := by rw [hel]; rfl
      rcases (show kd = 2 ∨ kd = 3 ∨ kd = 4 by omega) with e | e | e <;> subst e
      · exact va_aldq hx hb hKn hP o 2 (f := fun i => some (E.2.1 (rr.getD i 0))) he rfl ha.1 hd (by rw [← hv]; exact hk)
      · exact va_aldq hx hb hKn hP o 3 (f := fun i => some (E.2.1 (rr.getD i 0))) he rfl ha.1 hd (by rw [← hv]; exact hk)
      · exact va_aldq hx hb hKn hP o 4 (f := fun i => some (E.2.1 (rr.getD i 0))) he rfl ha.1 hd (by rw [← hv]; exact hk)
    · exact ha.elim
  · exact ha.elim
def aLen : am_A := fun K _ _ f st I w => match st with
  | .ref o :: r => (match am_arr 0 o with
    | some n => K f (.int (nI n) :: r) I w
    | none => False)
  | _ => False
theorem v_alen (hd : decode cc pc = .ok (.arraylength, 1)) : am_V E k cc nL own pc 1 aLen := by
  intro p l e R s m args below meth c Q nc ns post C K J f st I w ha hK hJ
  obtain ⟨⟨hx, hb, hml, hown, hts⟩, ⟨hKn, hFx, hinj, hl⟩, ⟨hR1, hR2, hR3, hR4⟩, hpost⟩ := C
  simp only [aLen] at ha
  split at ha
  · rename_i o r
    split at ha
    · rename_i n hc
      obtain ⟨rr, hs⟩ := am_arr_spec hc
      intro H locs ls hP hS hls
      exact va_alen hx hb hKn hP o 0 (am_wd_get E I w hs) (ty := .int) rfl (v := nI n) rfl hd (hK _ _ _ _ ha H locs ls hP hS hls)
    · exact ha.elim
  · exact ha.elim
/-! the static rows -/
def aGs (q : Nat) : am_A := fun K _ _ f st I w => K f (.ref q :: st) I w
theorem v_under {idx : Nat} (hw : Cond.fieldLink own idx "TwoCamps" "UNDER" "[I" ∈ am_T) (hd : decode cc pc = .ok (.getstatic idx, 3)) : am_V E k cc nL own pc 3 (aGs 120) := by
  intro p l e R s m args below meth c Q nc ns post C K J f st I w ha hK hJ
  obtain ⟨⟨hx, hb, hml, hown, hts⟩, ⟨hKn, hFx, hinj, hl⟩, ⟨hR1, hR2, hR3, hR4⟩, hpost⟩ := C
  exact fun H locs ls hP hS hls => va_gets hx hb hFx.1.1 hS hown (hts _ hw) (fun _ h => h) hd (hK _ _ _ _ ha H locs ls hP hS hls)
theorem v_room {idx : Nat} (hw : Cond.fieldLink own idx "TwoCamps" "ROOM" "[I" ∈ am_T) (hd : decode cc pc = .ok (.getstatic idx, 3)) : am_V E k cc nL own pc 3 (aGs 121) := by
  intro p l e R s m args below meth c Q nc ns post C K J f st I w ha hK hJ
  obtain ⟨⟨hx, hb, hml, hown, hts⟩, ⟨hKn, hFx, hinj, hl⟩, ⟨hR1, hR2, hR3, hR4⟩, hpost⟩ := C
  exact fun H locs ls hP hS hls => va_gets hx hb hFx.2.1.1 hS hown (hts _ hw) (fun _ h => h) hd (hK _ _ _ _ ha H locs ls hP hS hls)
def aTld (q : Nat) (t : Nat → Int32) : am_A := fun K _ _ f st I w => match st with
  | .int i :: .ref o :: r => (match Nat.beq o q with
    | true => vp_in i 6 ∧ K f (.int (t i.toNatClampNeg) :: r) I w
    | false => False)
  | _ => False
theorem v_tund (hd : decode cc pc = .ok (.iaload, 1)) : am_V E k cc nL own pc 1 (aTld 120 am_under) := by
  intro p l e R s m args below meth c Q nc ns post C K J f st I w ha hK hJ
  obtain ⟨⟨hx, hb, hml, hown, hts⟩, ⟨hKn, hFx, hinj, hl⟩, ⟨hR1, hR2, hR3, hR4⟩, hpost⟩ := C
  simp only [aTld] at ha
  split at ha
  · rename_i i o r
    split at ha
    · rename_i hbq
      have e120 : o = 120 := Nat.eq_of_beq_eq_true hbq
      subst e120
      exact fun H locs ls hP hS hls => va_ti hx hb hFx.1.2 hS ha.1 rfl hd (hK _ _ _ _ ha.2 H locs ls hP hS hls)
    · exact ha.elim
  · exact ha.elim
theorem v_troom (hd : decode cc pc = .ok (.iaload, 1)) : am_V E k cc nL own pc 1 (aTld 121 am_room) := by
  intro p l e R s m args below meth c Q nc ns post C K J f st I w ha hK hJ
  obtain ⟨⟨hx, hb, hml, hown, hts⟩, ⟨hKn, hFx, hinj, hl⟩, ⟨hR1, hR2, hR3, hR4⟩, hpost⟩ := C
  simp only [aTld] at ha
  split at ha
  · rename_i i o r
    split at ha
    · rename_i hbq
      have e120 : o = 121 := Nat.eq_of_beq_eq_true hbq
      subst e120
      exact fun H locs ls hP hS hls => va_ti hx hb hFx.2.1.2 hS ha.1 rfl hd (hK _ _ _ _ ha.2 H locs ls hP hS hls)
    · exact ha.elim
  · exact ha.elim
end ACTS2
