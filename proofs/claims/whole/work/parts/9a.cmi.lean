/-! CONSTRUCTORS: the instructions -/
section CMI
variable {G : cm_G} {k mc ms : Nat} {cc : ByteArray} {nL : Nat} {own : String} {ii : Bool} {pc : Nat}
def xI (v : Int32) : cm_A := fun F => some (none, F.1, .int v :: F.2.1, F.2.2)
def xJ (v : Int64) : cm_A := fun F => some (none, F.1, .long v :: F.2.1, F.2.2)
theorem x_iconst {n : Int} {v : Int32} (hd : decode cc pc = .ok (.iconst n, 1)) (hv : Int32.ofInt n = v) : cm_V G k mc ms cc nL own ii pc 1 (xI v) := by
  intro p l e R s m args below meth c Q C F j F' ha hk
  obtain ⟨⟨hx, hb, hml, hown, hts⟩, -⟩ := C
  cases ha
  exact fun H locs ls hP hS hls => lv_iconst hx hb hd hv (hk H locs ls hP hS hls)
theorem x_bipush {n : Int} {v : Int32} (hd : decode cc pc = .ok (.bipush n, 2)) (hv : (Int8.ofInt n).toInt32 = v) : cm_V G k mc ms cc nL own ii pc 2 (xI v) := by
  intro p l e R s m args below meth c Q C F j F' ha hk
  obtain ⟨⟨hx, hb, hml, hown, hts⟩, -⟩ := C
  cases ha
  exact fun H locs ls hP hS hls => lv_bipush hx hb hd hv (hk H locs ls hP hS hls)
theorem x_sipush {n : Int} {v : Int32} (hd : decode cc pc = .ok (.sipush n, 3)) (hv : (Int16.ofInt n).toInt32 = v) : cm_V G k mc ms cc nL own ii pc 3 (xI v) := by
  intro p l e R s m args below meth c Q C F j F' ha hk
  obtain ⟨⟨hx, hb, hml, hown, hts⟩, -⟩ := C
  cases ha
  exact fun H locs ls hP hS hls => lv_sipush hx hb hd hv (hk H locs ls hP hS hls)
theorem x_ldc2 {i : Nat} {v : Int64} (hw : Cond.constantLong own i v ∈ am_T) (hd : decode cc pc = .ok (.ldc2_w i, 3)) : cm_V G k mc ms cc nL own ii pc 3 (xJ v) := by
  intro p l e R s m args below meth c Q C F j F' ha hk
  obtain ⟨⟨hx, hb, hml, hown, hts⟩, -⟩ := C
  cases ha
  exact fun H locs ls hP hS hls => lv_ldc2 hx hb hown (hts _ hw) hd (hk H locs ls hP hS hls)
def xLi (i : Nat) : cm_A := fun F => match am_nt F.1 i with
  | some (some (.int x)) => some (none, F.1, .int x :: F.2.1, F.2.2)
  | _ => none
def xLj (i : Nat) : cm_A := fun F => match am_nt F.1 i with
  | some (some (.long x)) => some (none, F.1, .long x :: F.2.1, F.2.2)
  | _ => none
def xLa (i : Nat) : cm_A := fun F => match am_nt F.1 i with
  | some (some (.ref x)) => some (none, F.1, .ref x :: F.2.1, F.2.2)
  | _ => none
theorem x_iload {i : Nat} (hd : decode cc pc = .ok (.iload i, 2)) : cm_V G k mc ms cc nL own ii pc 2 (xLi i) := by
  intro p l e R s m args below meth c Q C F j F' ha hk
  obtain ⟨⟨hx, hb, hml, hown, hts⟩, -⟩ := C
  unfold xLi at ha
  split at ha
  · rename_i x hv
    cases ha
    exact fun H locs ls hP hS hls => lv_iload hx hb hd (hls.at hv) (hk H locs ls hP hS hls)
  · cases ha
theorem x_iload_n {i : Nat} {q : Fin 4} (hd : decode cc pc = .ok (.iload_n q, 1)) (hi : (q : Nat) = i) : cm_V G k mc ms cc nL own ii pc 1 (xLi i) := by
  intro p l e R s m args below meth c Q C F j F' ha hk
  obtain ⟨⟨hx, hb, hml, hown, hts⟩, -⟩ := C
  unfold xLi at ha
  split at ha
  · rename_i x hv
    cases ha
    exact fun H locs ls hP hS hls => lv_iload_n hx hb hd hi (hls.at hv) (hk H locs ls hP hS hls)
  · cases ha
theorem x_lload_n {i : Nat} {q : Fin 4} (hd : decode cc pc = .ok (.lload_n q, 1)) (hi : (q : Nat) = i) : cm_V G k mc ms cc nL own ii pc 1 (xLj i) := by
  intro p l e R s m args below meth c Q C F j F' ha hk
  obtain ⟨⟨hx, hb, hml, hown, hts⟩, -⟩ := C
  unfold xLj at ha
  split at ha
  · rename_i x hv
    cases ha
    exact fun H locs ls hP hS hls => lv_lload_n hx hb hd hi (hls.at hv) (hk H locs ls hP hS hls)
  · cases ha
theorem x_aload_n {i : Nat} {q : Fin 4} (hd : decode cc pc = .ok (.aload_n q, 1)) (hi : (q : Nat) = i) : cm_V G k mc ms cc nL own ii pc 1 (xLa i) := by
  intro p l e R s m args below meth c Q C F j F' ha hk
  obtain ⟨⟨hx, hb, hml, hown, hts⟩, -⟩ := C
  unfold xLa at ha
  split at ha
  · rename_i x hv
    cases ha
    exact fun H locs ls hP hS hls => lv_aload_n hx hb hd hi (hls.at hv) (hk H locs ls hP hS hls)
  · cases ha
def xSi (i : Nat) : cm_A := fun F => match F.2.1, am_nt F.1 i with
  | .int x :: r, some _ => some (none, am_st1 F.1 i (.int x), r, F.2.2)
  | _, _ => none
theorem x_istore {i : Nat} (hd : decode cc pc = .ok (.istore i, 2)) : cm_V G k mc ms cc nL own ii pc 2 (xSi i) := by
  intro p l e R s m args below meth c Q C F j F' ha hk
  obtain ⟨⟨hx, hb, hml, hown, hts⟩, -⟩ := C
  obtain ⟨f, st, σ, nc, ns⟩ := F
  unfold xSi at ha
  split at ha
  · rename_i x r z hst hz
    cases ha
    have hst : st = .int x :: r := hst
    rw [hst]
    exact fun H locs ls hP hS hls => lv_istore hx hb hd hls.2 (hls.lt hz) rfl (fun ls' h' => hk H locs ls' hP hS (hls.st1 (v := .int x) h'))
  · cases ha
theorem x_istore_n {i : Nat} {q : Fin 4} (hd : decode cc pc = .ok (.istore_n q, 1)) (hi : (q : Nat) = i) : cm_V G k mc ms cc nL own ii pc 1 (xSi i) := by
  intro p l e R s m args below meth c Q C F j F' ha hk
  obtain ⟨⟨hx, hb, hml, hown, hts⟩, -⟩ := C
  obtain ⟨f, st, σ, nc, ns⟩ := F
  unfold xSi at ha
  split at ha
  · rename_i x r z hst hz
    cases ha
    have hst : st = .int x :: r := hst
    rw [hst]
    exact fun H locs ls hP hS hls => lv_istore_n hx hb hd hi hls.2 (hls.lt hz) rfl (fun ls' h' => hk H locs ls' hP hS (hls.st1 (v := .int x) h'))
  · cases ha
def xInc (i : Nat) (d : Int32) : cm_A := fun F => match am_nt F.1 i with
  | some (some (.int x)) => some (none, am_st1 F.1 i (.int (x + d)), F.2)
  | _ => none
theorem x_iinc {i : Nat} {n : Int} {d : Int32} (hd : decode cc pc = .ok (.iinc i n, 3)) (hn : Int32.ofInt n = d) : cm_V G k mc ms cc nL own ii pc 3 (xInc i d) := by
  intro p l e R s m args below meth c Q C F j F' ha hk
  obtain ⟨⟨hx, hb, hml, hown, hts⟩, -⟩ := C
  unfold xInc at ha
  split at ha
  · rename_i x hv
    cases ha
    subst hn
    intro H locs ls hP hS hls
    have hm := (am_lv_mem (cm_ad G) F.1 0 (i, am_rz (cm_ad G) (.int x))).mpr ⟨i, .int x, hv, by rw [Nat.zero_add]⟩
    obtain ⟨q, hq⟩ := List.getElem?_of_mem hm
    exact lv_iinc hx hb (k := q) (x := x) hd hls.2 hq rfl (hls.lt hv) rfl (fun ls' h' => hk H locs ls' hP hS (hls.st1 (v := .int (x + Int32.ofInt n)) h'))
  · cases ha
def xGo (t : Nat) : cm_A := fun F => some (some t, F)
theorem x_goto {off : Int} {t : Nat} (hd : decode cc pc = .ok (.goto off, 3)) (ht : (pc : Int) + off = (t : Int)) : cm_V G k mc ms cc nL own ii pc 3 (xGo t) := by
  intro p l e R s m args below meth c Q C F j F' ha hk
  obtain ⟨⟨hx, hb, hml, hown, hts⟩, -⟩ := C
  cases ha
  exact fun H locs ls hP hS hls => lv_goto hx hb hd ht (hk H locs ls hP hS hls)
def xCge (t : Nat) : cm_A := fun F => match F.2.1 with
  | .int y :: .int x :: r => (match decide (x < y) with
    | true => some (none, F.1, r, F.2.2)
    | false => some (some t, F.1, r, F.2.2))
  | _ => none
theorem x_ic_ge {off : Int} {t : Nat} (hd : decode cc pc = .ok (.if_icmp .ge off, 3)) (ht : (pc : Int) + off = (t : Int)) : cm_V G k mc ms cc nL own ii pc 3 (xCge t) := by
  intro p l e R s m args below meth c Q C F j F' ha hk
  obtain ⟨⟨hx, hb, hml, hown, hts⟩, -⟩ := C
  obtain ⟨f, st, σ, nc, ns⟩ := F
  unfold xCge at ha
  split at ha
  · rename_i y x r hst
    have hst : st = .int y :: .int x :: r := hst
    rw [hst]
    split at ha
    · rename_i hxy
      have hxy := of_decide_eq_true hxy
      cases ha
      exact fun H locs ls hP hS hls => lv_icmp_ge hx hb hd ht (fun h => absurd hxy (Int32.not_lt.mpr h)) (fun h => hk H locs ls hP hS hls)
    · rename_i hxy
      have hxy := of_decide_eq_false hxy
      cases ha
      exact fun H locs ls hP hS hls => lv_icmp_ge hx hb hd ht (fun h => hk H locs ls hP hS hls) (fun h => absurd (Int32.not_le.mp h) hxy)
  · cases ha
def xBi (g : Int32 → Int32 → Int32) : cm_A := fun F => match F.2.1 with
  | .int y :: .int x :: r => some (none, F.1, .int (g x y) :: r, F.2.2)
  | _ => none
theorem x_iadd (hd : decode cc pc = .ok (.iadd, 1)) : cm_V G k mc ms cc nL own ii pc 1 (xBi (fun x y => x + y)) := by
  intro p l e R s m args below meth c Q C F j F' ha hk
  obtain ⟨⟨hx, hb, hml, hown, hts⟩, -⟩ := C
  obtain ⟨f, st, σ, nc, ns⟩ := F
  unfold xBi at ha
  split at ha
  · rename_i y x r hst
    have hst : st = .int y :: .int x :: r := hst
    rw [hst]
    cases ha
    exact fun H locs ls hP hS hls => lv_iadd hx hb hd (hk H locs ls hP hS hls)
  · cases ha
theorem x_isub (hd : decode cc pc = .ok (.isub, 1)) : cm_V G k mc ms cc nL own ii pc 1 (xBi (fun x y => x - y)) := by
  intro p l e R s m args below meth c Q C F j F' ha hk
  obtain ⟨⟨hx, hb, hml, hown, hts⟩, -⟩ := C
  obtain ⟨f, st, σ, nc, ns⟩ := F
  unfold xBi at ha
  split at ha
  · rename_i y x r hst
    have hst : st = .int y :: .int x :: r := hst
    rw [hst]
    cases ha
    exact fun H locs ls hP hS hls => lv_isub hx hb hd (hk H locs ls hP hS hls)
  · cases ha
theorem x_imul (hd : decode cc pc = .ok (.imul, 1)) : cm_V G k mc ms cc nL own ii pc 1 (xBi (fun x y => x * y)) := by
  intro p l e R s m args below meth c Q C F j F' ha hk
  obtain ⟨⟨hx, hb, hml, hown, hts⟩, -⟩ := C
  obtain ⟨f, st, σ, nc, ns⟩ := F
  unfold xBi at ha
  split at ha
  · rename_i y x r hst
    have hst : st = .int y :: .int x :: r := hst
    rw [hst]
    cases ha
    exact fun H locs ls hP hS hls => lv_imul hx hb hd (hk H locs ls hP hS hls)
  · cases ha
def xShr : cm_A := fun F => match F.2.1 with
  | .int y :: .long x :: r => some (none, F.1, .long (x >>> (y.toInt64 &&& 63)) :: r, F.2.2)
  | _ => none
theorem x_lshr (hd : decode cc pc = .ok (.lshr, 1)) : cm_V G k mc ms cc nL own ii pc 1 xShr := by
  intro p l e R s m args below meth c Q C F j F' ha hk
  obtain ⟨⟨hx, hb, hml, hown, hts⟩, -⟩ := C
  obtain ⟨f, st, σ, nc, ns⟩ := F
  unfold xShr at ha
  split at ha
  · rename_i y x r hst
    have hst : st = .int y :: .long x :: r := hst
    rw [hst]
    cases ha
    exact fun H locs ls hP hS hls => lv_lshr hx hb hd rfl (hk H locs ls hP hS hls)
  · cases ha
def xLand : cm_A := fun F => match F.2.1 with
  | .long y :: .long x :: r => some (none, F.1, .long (x &&& y) :: r, F.2.2)
  | _ => none
theorem x_land (hd : decode cc pc = .ok (.land, 1)) : cm_V G k mc ms cc nL own ii pc 1 xLand := by
  intro p l e R s m args below meth c Q C F j F' ha hk
  obtain ⟨⟨hx, hb, hml, hown, hts⟩, -⟩ := C
  obtain ⟨f, st, σ, nc, ns⟩ := F
  unfold xLand at ha
  split at ha
  · rename_i y x r hst
    have hst : st = .long y :: .long x :: r := hst
    rw [hst]
    cases ha
    exact fun H locs ls hP hS hls => lv_land hx hb hd (hk H locs ls hP hS hls)
  · cases ha
def xL2I : cm_A := fun F => match F.2.1 with
  | .long x :: r => some (none, F.1, .int x.toInt32 :: r, F.2.2)
  | _ => none
theorem x_l2i (hd : decode cc pc = .ok (.l2i, 1)) : cm_V G k mc ms cc nL own ii pc 1 xL2I := by
  intro p l e R s m args below meth c Q C F j F' ha hk
  obtain ⟨⟨hx, hb, hml, hown, hts⟩, -⟩ := C
  obtain ⟨f, st, σ, nc, ns⟩ := F
  unfold xL2I at ha
  split at ha
  · rename_i x r hst
    have hst : st = .long x :: r := hst
    rw [hst]
    cases ha
    exact fun H locs ls hP hS hls => lv_l2i hx hb hd rfl (hk H locs ls hP hS hls)
  · cases ha
def xDup : cm_A := fun F => match F.2.1 with
  | .ref x :: r => some (none, F.1, .ref x :: .ref x :: r, F.2.2)
  | _ => none
theorem x_dup (hd : decode cc pc = .ok (.dup, 1)) : cm_V G k mc ms cc nL own ii pc 1 xDup := by
  intro p l e R s m args below meth c Q C F j F' ha hk
  obtain ⟨⟨hx, hb, hml, hown, hts⟩, -⟩ := C
  obtain ⟨f, st, σ, nc, ns⟩ := F
  unfold xDup at ha
  split at ha
  · rename_i x r hst
    have hst : st = .ref x :: r := hst
    rw [hst]
    cases ha
    exact fun H locs ls hP hS hls => lv_dup hx hb hd rfl (hk H locs ls hP hS hls)
  · cases ha
/-! the cells -/
def cm_ob (σ : cm_S) (ci o : Nat) : Option (List Value) := match am_nt σ o with
  | some (.inr (.inr (cj, vs))) => (match Nat.beq ci cj with
    | true => some vs
    | false => none)
  | _ => none
theorem cm_ob_spec {σ : cm_S} {ci o : Nat} {vs : List Value} (h : cm_ob σ ci o = some vs) : σ[o]? = some (.inr (.inr (ci, vs))) := by
  unfold cm_ob at h
  split at h
  · rename_i cj vs' hs
    split at h
    · rename_i hb
      have e : ci = cj := Nat.eq_of_beq_eq_true hb
      subst e
      cases h
      rw [← am_nt_eq]; exact hs
    · cases h
  · cases h
def cm_ia (σ : cm_S) (kd o : Nat) : Option (Nat × (Nat → Int32)) := match am_nt σ o with
  | some (.inl (kj, n, f)) => (match Nat.beq kd kj with
    | true => some (n, f)
    | false => none)
  | _ => none
theorem cm_ia_spec {σ : cm_S} {kd o n : Nat} {f : Nat → Int32} (h : cm_ia σ kd o = some (n, f)) : σ[o]? = some (.inl (kd, n, f)) := by
  unfold cm_ia at h
  split at h
  · rename_i kj n' f' hs
    split at h
    · rename_i hb
      have e : kd = kj := Nat.eq_of_beq_eq_true hb
      subst e
      cases h
      rw [← am_nt_eq]; exact hs
    · cases h
  · cases h
def cm_ra (σ : cm_S) (kd o : Nat) : Option (Nat × (Nat → Option Nat)) := match am_nt σ o with
  | some (.inr (.inl (kj, n, f))) => (match Nat.beq kd kj with
    | true => some (n, f)
    | false => none)
  | _ => none
theorem cm_ra_spec {σ : cm_S} {kd o n : Nat} {f : Nat → Option Nat} (h : cm_ra σ kd o = some (n, f)) : σ[o]? = some (.inr (.inl (kd, n, f))) := by
  unfold cm_ra at h
  split at h
  · rename_i kj n' f' hs
    split at h
    · rename_i hb
      have e : kd = kj := Nat.eq_of_beq_eq_true hb
      subst e
      cases h
      rw [← am_nt_eq]; exact hs
    · cases h
  · cases h
def xGet (ci j : Nat) : cm_A := fun F => match F.2.1 with
  | .ref o :: r => (match cm_ob F.2.2.1 ci o with
    | some vs => (match am_nt vs j with
      | some v => some (none, F.1, v :: r, F.2.2)
      | none => none)
    | none => none)
  | _ => none
theorem x_get {idx ci j : Nat} (hf : am_fl own idx ci j) (hd : decode cc pc = .ok (.getfield idx, 3)) : cm_V G k mc ms cc nL own ii pc 3 (xGet ci j) := by
  intro p l e R s m args below meth c Q C F j0 F' ha hk
  obtain ⟨⟨hx, hb, hml, hown, hts⟩, ⟨hKn, hFx, hl, hB⟩, -⟩ := C
  obtain ⟨f, st, σ, nc, ns⟩ := F
  obtain ⟨⟨C0, T0, N0⟩, h1, h2, h3, h4⟩ := hf
  unfold xGet at ha
  split at ha
  · rename_i o r hst
    have hst : st = .ref o :: r := hst
    rw [hst]
    split at ha
    · rename_i vs hvs
      split at ha
      · rename_i v hv
        cases ha
        intro H locs ls hP hS hls
        have he := cm_ws_at (G := G) (cm_ob_spec hvs)
        rw [am_nt_eq] at hv
        refine va_get (fs := vs.map (am_rz (cm_ad G))) hx hb hts (k_all h1).1 hown hKn hP.2 o he h1 j h2 (hts _ h4) (fun _ h => by rw [h3] at h; exact h) (v := am_rz (cm_ad G) v) ?_ hd (hk H locs ls hP hS hls)
        rw [List.getElem?_map, hv]
        rfl
      · cases ha
    · cases ha
  · cases ha
/-- what a field takes -/
def cm_tk (ty : FieldType) : Value → Bool
  | .int _ => decide (ty = .int)
  | .ref _ => (match ty with
    | .object _ => true
    | .array _ => true
    | _ => false)
  | _ => false
theorem cm_tk_ok {ty : FieldType} {v : Value} (ad : Nat → Nat) (h : cm_tk ty v = true) : narrow ty (am_rz ad v) = am_rz ad v ∧ fits ty (am_rz ad v) = true := by
  cases v with
  | int x =>
    have e : ty = .int := of_decide_eq_true h
    subst e
    exact ⟨rfl, rfl⟩
  | ref x => cases ty <;> first | exact ⟨rfl, rfl⟩ | cases h
  | _ => cases h
def xPut (ci j : Nat) (ty : FieldType) : cm_A := fun F => match F.2.1 with
  | v :: .ref o :: r => (match cm_ob F.2.2.1 ci o with
    | some vs => (match cm_tk ty v, Nat.blt j vs.length with
      | true, true => some (none, F.1, r, F.2.2.1.set o (.inr (.inr (ci, vs.set j v))), F.2.2.2)
      | _, _ => none)
    | none => none)
  | _ => none
/-- a field's link, written in the constructor -/
def cm_fw (own : String) (idx ci j : Nat) (ty : FieldType) (ii : Bool) : Prop := ∃ q, classes[ci]? = some q ∧ j < q.2.2 ∧ (q.2.1 j).1 = q.1 ∧ Cond.fieldLink own idx q.1 (q.2.1 j).2.1 (q.2.1 j).2.2.1 ∈ am_T ∧ parseFieldDescriptor (q.2.1 j).2.2.1 = some ty ∧ ((q.2.1 j).2.2.2 = false ∨ ((q.2.1 j).2.2.2 = true ∧ (q.2.1 j).1 = own ∧ ii = true))
theorem x_put {idx ci j : Nat} {ty : FieldType} (hf : cm_fw own idx ci j ty ii) (hd : decode cc pc = .ok (.putfield idx, 3)) : cm_V G k mc ms cc nL own ii pc 3 (xPut ci j ty) := by
  intro p l e R s m args below meth c Q C F j0 F' ha hk
  obtain ⟨⟨hx, hb, hml, hown, hts⟩, ⟨hKn, hFx, hl, hB⟩, -, hin⟩ := C
  obtain ⟨f, st, σ, nc, ns⟩ := F
  obtain ⟨⟨C0, T0, N0⟩, h1, h2, h3, h4, h5, h6⟩ := hf
  unfold xPut at ha
  split at ha
  · rename_i v o r hst
    have hst : st = v :: .ref o :: r := hst
    rw [hst]
    split at ha
    · rename_i vs hvs
      split at ha
      · rename_i ht hj
        cases ha
        have ht := cm_tk_ok (cm_ad G) ht
        have hj : j < vs.length := Nat.blt_eq.mp hj
        have hs := cm_ob_spec hvs
        intro H locs ls hP hS hls
        have he := cm_ws_at (G := G) hs
        have e1 : (Sum.inr (ci, (vs.map (am_rz (cm_ad G))).set j (am_rz (cm_ad G) v)) : va_E) = cm_ce G (.inr (.inr (ci, vs.set j v))) := by
          show _ = (Sum.inr (ci, (vs.set j v).map (am_rz (cm_ad G))) : va_E)
          rw [List.map_set]
        have kk : ∀ (H1 : Heap) (locs1 : List Loc), va_P G.2.2.1 classes ((cm_ws G 0 σ).set o (cm_ad G o, .inr (ci, (vs.map (am_rz (cm_ad G))).set j (am_rz (cm_ad G) v)))) H1 → va_D (cm_A0 G) ((cm_ws G 0 σ).set o (cm_ad G o, .inr (ci, (vs.map (am_rz (cm_ad G))).set j (am_rz (cm_ad G) v)))) → va_S (cm_A0 G) s.heap H1 locs1 → W p l e R s m args below meth c H1 locs1 nc ns Q (F0 m (pc + 3) ls (r.map (am_rz (cm_ad G)))) := fun H1 locs1 hP1 _ hS1 => by
          rw [e1, cm_ws_set hs] at hP1
          exact hk H1 locs1 ls ⟨by rw [List.length_set]; exact hP.1, hP1⟩ hS1 hls
        have hl0 : j < (vs.map (am_rz (cm_ad G))).length := by rw [List.length_map]; exact hj
        rcases h6 with h6 | ⟨h6, h7, h8⟩
        · exact va_put (fs := vs.map (am_rz (cm_ad G))) (v := am_rz (cm_ad G) v) hx hb hts (k_all h1).1 (kT ci) (k_all h1).2.2 (k_all h1).2.1 hown hKn hP.2 (cm_D G σ) hS o he h1 j h2 (hts _ h4) (fun _ h => by rw [h3] at h; exact h) h6 h5 ht.1 ht.2 hl0 hd kk
        · exact va_putF (fs := vs.map (am_rz (cm_ad G))) (v := am_rz (cm_ad G) v) hx hb hts (k_all h1).1 (kT ci) (k_all h1).2.2 (k_all h1).2.1 hown hKn hP.2 (cm_D G σ) hS o he h1 j h2 (hts _ h4) (fun _ h => by rw [h3] at h; exact h) h6 (hin h8) h7 h5 ht.1 ht.2 hl0 hd kk
      · cases ha
    · cases ha
  · cases ha
end CMI
