/-! THE ACTS, and that they are right -/
section ACTS
variable {E : am_E} {k : Nat} {cc : ByteArray} {nL : Nat} {own : String} {pc : Nat}
def aI (v : Int32) : am_A := fun K _ _ f st I w => K f (.int v :: st) I w
def aJ (v : Int64) : am_A := fun K _ _ f st I w => K f (.long v :: st) I w
theorem v_iconst {n : Int} {v : Int32} (hd : decode cc pc = .ok (.iconst n, 1)) (hv : Int32.ofInt n = v) : am_V E k cc nL own pc 1 (aI v) := by
  intro p l e R s m args below meth c Q nc ns post C K J f st I w ha hK hJ
  obtain ⟨⟨hx, hb, hml, hown, hts⟩, ⟨hKn, hFx, hinj, hl⟩, ⟨hR1, hR2, hR3, hR4⟩, hpost⟩ := C
  exact fun H locs ls hP hS hls => lv_iconst hx hb hd hv (hK _ _ _ _ ha H locs ls hP hS hls)
theorem v_bipush {n : Int} {v : Int32} (hd : decode cc pc = .ok (.bipush n, 2)) (hv : (Int8.ofInt n).toInt32 = v) : am_V E k cc nL own pc 2 (aI v) := by
  intro p l e R s m args below meth c Q nc ns post C K J f st I w ha hK hJ
  obtain ⟨⟨hx, hb, hml, hown, hts⟩, ⟨hKn, hFx, hinj, hl⟩, ⟨hR1, hR2, hR3, hR4⟩, hpost⟩ := C
  exact fun H locs ls hP hS hls => lv_bipush hx hb hd hv (hK _ _ _ _ ha H locs ls hP hS hls)
theorem v_sipush {n : Int} {v : Int32} (hd : decode cc pc = .ok (.sipush n, 3)) (hv : (Int16.ofInt n).toInt32 = v) : am_V E k cc nL own pc 3 (aI v) := by
  intro p l e R s m args below meth c Q nc ns post C K J f st I w ha hK hJ
  obtain ⟨⟨hx, hb, hml, hown, hts⟩, ⟨hKn, hFx, hinj, hl⟩, ⟨hR1, hR2, hR3, hR4⟩, hpost⟩ := C
  exact fun H locs ls hP hS hls => lv_sipush hx hb hd hv (hK _ _ _ _ ha H locs ls hP hS hls)
theorem v_lconst {n : Fin 2} {v : Int64} (hd : decode cc pc = .ok (.lconst n, 1)) (hv : Int64.ofNat (n : Nat) = v) : am_V E k cc nL own pc 1 (aJ v) := by
  intro p l e R s m args below meth c Q nc ns post C K J f st I w ha hK hJ
  obtain ⟨⟨hx, hb, hml, hown, hts⟩, ⟨hKn, hFx, hinj, hl⟩, ⟨hR1, hR2, hR3, hR4⟩, hpost⟩ := C
  exact fun H locs ls hP hS hls => lv_lconst hx hb hd hv (hK _ _ _ _ ha H locs ls hP hS hls)
theorem v_ldc {i : Nat} {v : Int32} (hw : Cond.constant own i v ∈ am_T) (hd : decode cc pc = .ok (.ldc i, 2)) : am_V E k cc nL own pc 2 (aI v) := by
  intro p l e R s m args below meth c Q nc ns post C K J f st I w ha hK hJ
  obtain ⟨⟨hx, hb, hml, hown, hts⟩, ⟨hKn, hFx, hinj, hl⟩, ⟨hR1, hR2, hR3, hR4⟩, hpost⟩ := C
  exact fun H locs ls hP hS hls => lv_ldc hx hb hown (hts _ hw) hd (hK _ _ _ _ ha H locs ls hP hS hls)
theorem v_ldcw {i : Nat} {v : Int32} (hw : Cond.constant own i v ∈ am_T) (hd : decode cc pc = .ok (.ldc_w i, 3)) : am_V E k cc nL own pc 3 (aI v) := by
  intro p l e R s m args below meth c Q nc ns post C K J f st I w ha hK hJ
  obtain ⟨⟨hx, hb, hml, hown, hts⟩, ⟨hKn, hFx, hinj, hl⟩, ⟨hR1, hR2, hR3, hR4⟩, hpost⟩ := C
  exact fun H locs ls hP hS hls => lv_ldcw hx hb hown (hts _ hw) hd (hK _ _ _ _ ha H locs ls hP hS hls)
theorem v_ldc2 {i : Nat} {v : Int64} (hw : Cond.constantLong own i v ∈ am_T) (hd : decode cc pc = .ok (.ldc2_w i, 3)) : am_V E k cc nL own pc 3 (aJ v) := by
  intro p l e R s m args below meth c Q nc ns post C K J f st I w ha hK hJ
  obtain ⟨⟨hx, hb, hml, hown, hts⟩, ⟨hKn, hFx, hinj, hl⟩, ⟨hR1, hR2, hR3, hR4⟩, hpost⟩ := C
  exact fun H locs ls hP hS hls => lv_ldc2 hx hb hown (hts _ hw) hd (hK _ _ _ _ ha H locs ls hP hS hls)
def aLi (i : Nat) : am_A := fun K _ _ f st I w => match am_nt f i with
  | some (some (.int x)) => K f (.int x :: st) I w
  | _ => False
theorem v_iload {i : Nat} (hd : decode cc pc = .ok (.iload i, 2)) : am_V E k cc nL own pc 2 (aLi i) := by
  intro p l e R s m args below meth c Q nc ns post C K J f st I w ha hK hJ
  obtain ⟨⟨hx, hb, hml, hown, hts⟩, ⟨hKn, hFx, hinj, hl⟩, ⟨hR1, hR2, hR3, hR4⟩, hpost⟩ := C
  simp only [aLi] at ha
  split at ha
  · rename_i x hv
    exact fun H locs ls hP hS hls => lv_iload hx hb hd (hls.at hv) (hK _ _ _ _ ha H locs ls hP hS hls)
  · exact ha.elim
theorem v_iload_n {i : Nat} {q : Fin 4} (hd : decode cc pc = .ok (.iload_n q, 1)) (hi : (q : Nat) = i) : am_V E k cc nL own pc 1 (aLi i) := by
  intro p l e R s m args below meth c Q nc ns post C K J f st I w ha hK hJ
  obtain ⟨⟨hx, hb, hml, hown, hts⟩, ⟨hKn, hFx, hinj, hl⟩, ⟨hR1, hR2, hR3, hR4⟩, hpost⟩ := C
  simp only [aLi] at ha
  split at ha
  · rename_i x hv
    exact fun H locs ls hP hS hls => lv_iload_n hx hb hd hi (hls.at hv) (hK _ _ _ _ ha H locs ls hP hS hls)
  · exact ha.elim
def aLj (i : Nat) : am_A := fun K _ _ f st I w => match am_nt f i with
  | some (some (.long x)) => K f (.long x :: st) I w
  | _ => False
theorem v_lload {i : Nat} (hd : decode cc pc = .ok (.lload i, 2)) : am_V E k cc nL own pc 2 (aLj i) := by
  intro p l e R s m args below meth c Q nc ns post C K J f st I w ha hK hJ
  obtain ⟨⟨hx, hb, hml, hown, hts⟩, ⟨hKn, hFx, hinj, hl⟩, ⟨hR1, hR2, hR3, hR4⟩, hpost⟩ := C
  simp only [aLj] at ha
  split at ha
  · rename_i x hv
    exact fun H locs ls hP hS hls => lv_lload hx hb hd (hls.at hv) (hK _ _ _ _ ha H locs ls hP hS hls)
  · exact ha.elim
theorem v_lload_n {i : Nat} {q : Fin 4} (hd : decode cc pc = .ok (.lload_n q, 1)) (hi : (q : Nat) = i) : am_V E k cc nL own pc 1 (aLj i) := by
  intro p l e R s m args below meth c Q nc ns post C K J f st I w ha hK hJ
  obtain ⟨⟨hx, hb, hml, hown, hts⟩, ⟨hKn, hFx, hinj, hl⟩, ⟨hR1, hR2, hR3, hR4⟩, hpost⟩ := C
  simp only [aLj] at ha
  split at ha
  · rename_i x hv
    exact fun H locs ls hP hS hls => lv_lload_n hx hb hd hi (hls.at hv) (hK _ _ _ _ ha H locs ls hP hS hls)
  · exact ha.elim
def aLa (i : Nat) : am_A := fun K _ _ f st I w => match am_nt f i with
  | some (some (.ref x)) => K f (.ref x :: st) I w
  | _ => False
theorem v_aload {i : Nat} (hd : decode cc pc = .ok (.aload i, 2)) : am_V E k cc nL own pc 2 (aLa i) := by
  intro p l e R s m args below meth c Q nc ns post C K J f st I w ha hK hJ
  obtain ⟨⟨hx, hb, hml, hown, hts⟩, ⟨hKn, hFx, hinj, hl⟩, ⟨hR1, hR2, hR3, hR4⟩, hpost⟩ := C
  simp only [aLa] at ha
  split at ha
  · rename_i x hv
    exact fun H locs ls hP hS hls => lv_aload hx hb hd (hls.at hv) (hK _ _ _ _ ha H locs ls hP hS hls)
  · exact ha.elim
theorem v_aload_n {i : Nat} {q : Fin 4} (hd : decode cc pc = .ok (.aload_n q, 1)) (hi : (q : Nat) = i) : am_V E k cc nL own pc 1 (aLa i) := by
  intro p l e R s m args below meth c Q nc ns post C K J f st I w ha hK hJ
  obtain ⟨⟨hx, hb, hml, hown, hts⟩, ⟨hKn, hFx, hinj, hl⟩, ⟨hR1, hR2, hR3, hR4⟩, hpost⟩ := C
  simp only [aLa] at ha
  split at ha
  · rename_i x hv
    exact fun H locs ls hP hS hls => lv_aload_n hx hb hd hi (hls.at hv) (hK _ _ _ _ ha H locs ls hP hS hls)
  · exact ha.elim
def aSi (i : Nat) : am_A := fun K _ _ f st I w => match st with
  | .int x :: r => (match am_nt f i with
    | some _ => K (am_st1 f i (.int x)) r I w
    | none => False)
  | _ => False
theorem v_istore {i : Nat} (hd : decode cc pc = .ok (.istore i, 2)) : am_V E k cc nL own pc 2 (aSi i) := by
  intro p l e R s m args below meth c Q nc ns post C K J f st I w ha hK hJ
  obtain ⟨⟨hx, hb, hml, hown, hts⟩, ⟨hKn, hFx, hinj, hl⟩, ⟨hR1, hR2, hR3, hR4⟩, hpost⟩ := C
  simp only [aSi] at ha
  split at ha
  · rename_i x r
    split at ha
    · rename_i z hz
      exact fun H locs ls hP hS hls => lv_istore hx hb hd hls.2 (hls.lt hz) rfl (fun ls' h' => hK _ _ _ _ ha H locs ls' hP hS (hls.st1 (v := .int x) h'))
    · exact ha.elim
  · exact ha.elim
theorem v_istore_n {i : Nat} {q : Fin 4} (hd : decode cc pc = .ok (.istore_n q, 1)) (hi : (q : Nat) = i) : am_V E k cc nL own pc 1 (aSi i) := by
  intro p l e R s m args below meth c Q nc ns post C K J f st I w ha hK hJ
  obtain ⟨⟨hx, hb, hml, hown, hts⟩, ⟨hKn, hFx, hinj, hl⟩, ⟨hR1, hR2, hR3, hR4⟩, hpost⟩ := C
  simp only [aSi] at ha
  split at ha
  · rename_i x r
    split at ha
    · rename_i z hz
      exact fun H locs ls hP hS hls => lv_istore_n hx hb hd hi hls.2 (hls.lt hz) rfl (fun ls' h' => hK _ _ _ _ ha H locs ls' hP hS (hls.st1 (v := .int x) h'))
    · exact ha.elim
  · exact ha.elim
def aSj (i : Nat) : am_A := fun K _ _ f st I w => match st with
  | .long x :: r => (match am_nt f (i + 1) with
    | some _ => K (am_st2 f i (.long x)) r I w
    | none => False)
  | _ => False
theorem v_lstore {i : Nat} (hd : decode cc pc = .ok (.lstore i, 2)) : am_V E k cc nL own pc 2 (aSj i) := by
  intro p l e R s m args below meth c Q nc ns post C K J f st I w ha hK hJ
  obtain ⟨⟨hx, hb, hml, hown, hts⟩, ⟨hKn, hFx, hinj, hl⟩, ⟨hR1, hR2, hR3, hR4⟩, hpost⟩ := C
  simp only [aSj] at ha
  split at ha
  · rename_i x r
    split at ha
    · rename_i z hz
      exact fun H locs ls hP hS hls => lv_lstore hx hb hd hls.2 (hls.lt hz) rfl (fun ls' h' => hK _ _ _ _ ha H locs ls' hP hS (hls.st2 (v := .long x) h'))
    · exact ha.elim
  · exact ha.elim
theorem v_lstore_n {i : Nat} {q : Fin 4} (hd : decode cc pc = .ok (.lstore_n q, 1)) (hi : (q : Nat) = i) : am_V E k cc nL own pc 1 (aSj i) := by
  intro p l e R s m args below meth c Q nc ns post C K J f st I w ha hK hJ
  obtain ⟨⟨hx, hb, hml, hown, hts⟩, ⟨hKn, hFx, hinj, hl⟩, ⟨hR1, hR2, hR3, hR4⟩, hpost⟩ := C
  simp only [aSj] at ha
  split at ha
  · rename_i x r
    split at ha
    · rename_i z hz
      exact fun H locs ls hP hS hls => lv_lstore_n hx hb hd hi hls.2 (hls.lt hz) rfl (fun ls' h' => hK _ _ _ _ ha H locs ls' hP hS (hls.st2 (v := .long x) h'))
    · exact ha.elim
  · exact ha.elim
def aSa (i : Nat) : am_A := fun K _ _ f st I w => match st with
  | .ref x :: r => (match am_nt f i with
    | some _ => K (am_st1 f i (.ref x)) r I w
    | none => False)
  | _ => False
theorem v_astore {i : Nat} (hd : decode cc pc = .ok (.astore i, 2)) : am_V E k cc nL own pc 2 (aSa i) := by
  intro p l e R s m args below meth c Q nc ns post C K J f st I w ha hK hJ
  obtain ⟨⟨hx, hb, hml, hown, hts⟩, ⟨hKn, hFx, hinj, hl⟩, ⟨hR1, hR2, hR3, hR4⟩, hpost⟩ := C
  simp only [aSa] at ha
  split at ha
  · rename_i x r
    split at ha
    · rename_i z hz
      exact fun H locs ls hP hS hls => lv_astore hx hb hd hls.2 (hls.lt hz) rfl (fun ls' h' => hK _ _ _ _ ha H locs ls' hP hS (hls.st1 (v := .ref x) h'))
    · exact ha.elim
  · exact ha.elim
theorem v_astore_n {i : Nat} {q : Fin 4} (hd : decode cc pc = .ok (.astore_n q, 1)) (hi : (q : Nat) = i) : am_V E k cc nL own pc 1 (aSa i) := by
  intro p l e R s m args below meth c Q nc ns post C K J f st I w ha hK hJ
  obtain ⟨⟨hx, hb, hml, hown, hts⟩, ⟨hKn, hFx, hinj, hl⟩, ⟨hR1, hR2, hR3, hR4⟩, hpost⟩ := C
  simp only [aSa] at ha
  split at ha
  · rename_i x r
    split at ha
    · rename_i z hz
      exact fun H locs ls hP hS hls => lv_astore_n hx hb hd hi hls.2 (hls.lt hz) rfl (fun ls' h' => hK _ _ _ _ ha H locs ls' hP hS (hls.st1 (v := .ref x) h'))
    · exact ha.elim
  · exact ha.elim
def aInc (i : Nat) (d : Int32) : am_A := fun K _ _ f st I w => match am_nt f i with
  | some (some (.int x)) => K (am_st1 f i (.int (x + d))) st I w
  | _ => False
theorem v_iinc {i : Nat} {n : Int} {d : Int32} (hd : decode cc pc = .ok (.iinc i n, 3)) (hn : Int32.ofInt n = d) : am_V E k cc nL own pc 3 (aInc i d) := by
  intro p l e R s m args below meth c Q nc ns post C K J f st I w ha hK hJ
  obtain ⟨⟨hx, hb, hml, hown, hts⟩, ⟨hKn, hFx, hinj, hl⟩, ⟨hR1, hR2, hR3, hR4⟩, hpost⟩ := C
  simp only [aInc] at ha
  split at ha
  · rename_i x hv
    subst hn
    intro H locs ls hP hS hls
    have hm := (am_lv_mem E.2.1 f 0 (i, am_rz E.2.1 (.int x))).mpr ⟨i, .int x, hv, by rw [Nat.zero_add]⟩
    obtain ⟨q, hq⟩ := List.getElem?_of_mem hm
    exact lv_iinc hx hb (k := q) (x := x) hd hls.2 hq rfl (hls.lt hv) rfl (fun ls' h' => hK _ _ _ _ ha H locs ls' hP hS (hls.st1 (v := .int (x + Int32.ofInt n)) h'))
  · exact ha.elim
theorem v_iincW {i : Nat} {n : Int} {d : Int32} (hd : decode cc pc = .ok (.iinc i n, 6)) (hn : Int32.ofInt n = d) : am_V E k cc nL own pc 6 (aInc i d) := by
  intro p l e R s m args below meth c Q nc ns post C K J f st I w ha hK hJ
  obtain ⟨⟨hx, hb, hml, hown, hts⟩, ⟨hKn, hFx, hinj, hl⟩, ⟨hR1, hR2, hR3, hR4⟩, hpost⟩ := C
  simp only [aInc] at ha
  split at ha
  · rename_i x hv
    subst hn
    intro H locs ls hP hS hls
    have hm := (am_lv_mem E.2.1 f 0 (i, am_rz E.2.1 (.int x))).mpr ⟨i, .int x, hv, by rw [Nat.zero_add]⟩
    obtain ⟨q, hq⟩ := List.getElem?_of_mem hm
    exact lv_iincW hx hb (k := q) (x := x) hd hls.2 hq rfl (hls.lt hv) rfl (fun ls' h' => hK _ _ _ _ ha H locs ls' hP hS (hls.st1 (v := .int (x + Int32.ofInt n)) h'))
  · exact ha.elim
def a_iadd : am_A := fun K _ _ f st I w => match st with
  | .int y :: .int x :: r => K f (.int (x + y) :: r) I w
  | _ => False
theorem v_iadd (hd : decode cc pc = .ok (.iadd, 1)) : am_V E k cc nL own pc 1 (a_iadd) := by
  intro p l e R s m args below meth c Q nc ns post C K J f st I w ha hK hJ
  obtain ⟨⟨hx, hb, hml, hown, hts⟩, ⟨hKn, hFx, hinj, hl⟩, ⟨hR1, hR2, hR3, hR4⟩, hpost⟩ := C
  simp only [a_iadd] at ha
  split at ha
  · rename_i y x r
    exact fun H locs ls hP hS hls => lv_iadd hx hb hd (hK _ _ _ _ ha H locs ls hP hS hls)
  · exact ha.elim
def a_isub : am_A := fun K _ _ f st I w => match st with
  | .int y :: .int x :: r => K f (.int (x - y) :: r) I w
  | _ => False
theorem v_isub (hd : decode cc pc = .ok (.isub, 1)) : am_V E k cc nL own pc 1 (a_isub) := by
  intro p l e R s m args below meth c Q nc ns post C K J f st I w ha hK hJ
  obtain ⟨⟨hx, hb, hml, hown, hts⟩, ⟨hKn, hFx, hinj, hl⟩, ⟨hR1, hR2, hR3, hR4⟩, hpost⟩ := C
  simp only [a_isub] at ha
  split at ha
  · rename_i y x r
    exact fun H locs ls hP hS hls => lv_isub hx hb hd (hK _ _ _ _ ha H locs ls hP hS hls)
  · exact ha.elim
def a_imul : am_A := fun K _ _ f st I w => match st with
  | .int y :: .int x :: r => K f (.int (x * y) :: r) I w
  | _ => False
theorem v_imul (hd : decode cc pc = .ok (.imul, 1)) : am_V E k cc nL own pc 1 (a_imul) := by
  intro p l e R s m args below meth c Q nc ns post C K J f st I w ha hK hJ
  obtain ⟨⟨hx, hb, hml, hown, hts⟩, ⟨hKn, hFx, hinj, hl⟩, ⟨hR1, hR2, hR3, hR4⟩, hpost⟩ := C
  simp only [a_imul] at ha
  split at ha
  · rename_i y x r
    exact fun H locs ls hP hS hls => lv_imul hx hb hd (hK _ _ _ _ ha H locs ls hP hS hls)
  · exact ha.elim
def a_iand : am_A := fun K _ _ f st I w => match st with
  | .int y :: .int x :: r => K f (.int (x &&& y) :: r) I w
  | _ => False
theorem v_iand (hd : decode cc pc = .ok (.iand, 1)) : am_V E k cc nL own pc 1 (a_iand) := by
  intro p l e R s m args below meth c Q nc ns post C K J f st I w ha hK hJ
  obtain ⟨⟨hx, hb, hml, hown, hts⟩, ⟨hKn, hFx, hinj, hl⟩, ⟨hR1, hR2, hR3, hR4⟩, hpost⟩ := C
  simp only [a_iand] at ha
  split at ha
  · rename_i y x r
    exact fun H locs ls hP hS hls => lv_iand hx hb hd (hK _ _ _ _ ha H locs ls hP hS hls)
  · exact ha.elim
def a_ior : am_A := fun K _ _ f st I w => match st with
  | .int y :: .int x :: r => K f (.int (x ||| y) :: r) I w
  | _ => False
theorem v_ior (hd : decode cc pc = .ok (.ior, 1)) : am_V E k cc nL own pc 1 (a_ior) := by
  intro p l e R s m args below meth c Q nc ns post C K J f st I w ha hK hJ
  obtain ⟨⟨hx, hb, hml, hown, hts⟩, ⟨hKn, hFx, hinj, hl⟩, ⟨hR1, hR2, hR3, hR4⟩, hpost⟩ := C
  simp only [a_ior] at ha
  split at ha
  · rename_i y x r
    exact fun H locs ls hP hS hls => lv_ior hx hb hd (hK _ _ _ _ ha H locs ls hP hS hls)
  · exact ha.elim
def a_ixor : am_A := fun K _ _ f st I w => match st with
  | .int y :: .int x :: r => K f (.int (x ^^^ y) :: r) I w
  | _ => False
theorem v_ixor (hd : decode cc pc = .ok (.ixor, 1)) : am_V E k cc nL own pc 1 (a_ixor) := by
  intro p l e R s m args below meth c Q nc ns post C K J f st I w ha hK hJ
  obtain ⟨⟨hx, hb, hml, hown, hts⟩, ⟨hKn, hFx, hinj, hl⟩, ⟨hR1, hR2, hR3, hR4⟩, hpost⟩ := C
  simp only [a_ixor] at ha
  split at ha
  · rename_i y x r
    exact fun H locs ls hP hS hls => lv_ixor hx hb hd (hK _ _ _ _ ha H locs ls hP hS hls)
  · exact ha.elim
def a_ishl : am_A := fun K _ _ f st I w => match st with
  | .int y :: .int x :: r => K f (.int (x <<< (y &&& 31)) :: r) I w
  | _ => False
theorem v_ishl (hd : decode cc pc = .ok (.ishl, 1)) : am_V E k cc nL own pc 1 (a_ishl) := by
  intro p l e R s m args below meth c Q nc ns post C K J f st I w ha hK hJ
  obtain ⟨⟨hx, hb, hml, hown, hts⟩, ⟨hKn, hFx, hinj, hl⟩, ⟨hR1, hR2, hR3, hR4⟩, hpost⟩ := C
  simp only [a_ishl] at ha
  split at ha
  · rename_i y x r
    exact fun H locs ls hP hS hls => lv_ishl hx hb hd (hK _ _ _ _ ha H locs ls hP hS hls)
  · exact ha.elim
def a_ishr : am_A := fun K _ _ f st I w => match st with
  | .int y :: .int x :: r => K f (.int (x >>> (y &&& 31)) :: r) I w
  | _ => False
theorem v_ishr (hd : decode cc pc = .ok (.ishr, 1)) : am_V E k cc nL own pc 1 (a_ishr) := by
  intro p l e R s m args below meth c Q nc ns post C K J f st I w ha hK hJ
  obtain ⟨⟨hx, hb, hml, hown, hts⟩, ⟨hKn, hFx, hinj, hl⟩, ⟨hR1, hR2, hR3, hR4⟩, hpost⟩ := C
  simp only [a_ishr] at ha
  split at ha
  · rename_i y x r
    exact fun H locs ls hP hS hls => lv_ishr hx hb hd (hK _ _ _ _ ha H locs ls hP hS hls)
  · exact ha.elim
def a_iushr : am_A := fun K _ _ f st I w => match st with
  | .int y :: .int x :: r => K f (.int ((x.toUInt32 >>> (y.toUInt32 &&& Int32.toUInt32 31)).toInt32) :: r) I w
  | _ => False
theorem v_iushr (hd : decode cc pc = .ok (.iushr, 1)) : am_V E k cc nL own pc 1 (a_iushr) := by
  intro p l e R s m args below meth c Q nc ns post C K J f st I w ha hK hJ
  obtain ⟨⟨hx, hb, hml, hown, hts⟩, ⟨hKn, hFx, hinj, hl⟩, ⟨hR1, hR2, hR3, hR4⟩, hpost⟩ := C
  simp only [a_iushr] at ha
  split at ha
  · rename_i y x r
    exact fun H locs ls hP hS hls => lv_iushr hx hb hd rfl (hK _ _ _ _ ha H locs ls hP hS hls)
  · exact ha.elim
def a_idiv : am_A := fun K _ _ f st I w => match st with
  | .int y :: .int x :: r => ¬ y = 0 ∧ K f (.int (x / y) :: r) I w
  | _ => False
theorem v_idiv (hd : decode cc pc = .ok (.idiv, 1)) : am_V E k cc nL own pc 1 (a_idiv) := by
  intro p l e R s m args below meth c Q nc ns post C K J f st I w ha hK hJ
  obtain ⟨⟨hx, hb, hml, hown, hts⟩, ⟨hKn, hFx, hinj, hl⟩, ⟨hR1, hR2, hR3, hR4⟩, hpost⟩ := C
  simp only [a_idiv] at ha
  split at ha
  · rename_i y x r
    exact fun H locs ls hP hS hls => lv_idiv hx hb hd ha.1 (hK _ _ _ _ ha.2 H locs ls hP hS hls)
  · exact ha.elim
def a_irem : am_A := fun K _ _ f st I w => match st with
  | .int y :: .int x :: r => ¬ y = 0 ∧ K f (.int (x - x / y * y) :: r) I w
  | _ => False
theorem v_irem (hd : decode cc pc = .ok (.irem, 1)) : am_V E k cc nL own pc 1 (a_irem) := by
  intro p l e R s m args below meth c Q nc ns post C K J f st I w ha hK hJ
  obtain ⟨⟨hx, hb, hml, hown, hts⟩, ⟨hKn, hFx, hinj, hl⟩, ⟨hR1, hR2, hR3, hR4⟩, hpost⟩ := C
  simp only [a_irem] at ha
  split at ha
  · rename_i y x r
    exact fun H locs ls hP hS hls => lv_irem hx hb hd ha.1 (hK _ _ _ _ ha.2 H locs ls hP hS hls)
  · exact ha.elim
def a_ineg : am_A := fun K _ _ f st I w => match st with
  | .int x :: r => K f (.int (-x) :: r) I w
  | _ => False
theorem v_ineg (hd : decode cc pc = .ok (.ineg, 1)) : am_V E k cc nL own pc 1 (a_ineg) := by
  intro p l e R s m args below meth c Q nc ns post C K J f st I w ha hK hJ
  obtain ⟨⟨hx, hb, hml, hown, hts⟩, ⟨hKn, hFx, hinj, hl⟩, ⟨hR1, hR2, hR3, hR4⟩, hpost⟩ := C
  simp only [a_ineg] at ha
  split at ha
  · rename_i x r
    exact fun H locs ls hP hS hls => lv_ineg hx hb hd (hK _ _ _ _ ha H locs ls hP hS hls)
  · exact ha.elim
def a_i2b : am_A := fun K _ _ f st I w => match st with
  | .int x :: r => K f (.int (x.toInt8.toInt32) :: r) I w
  | _ => False
theorem v_i2b (hd : decode cc pc = .ok (.i2b, 1)) : am_V E k cc nL own pc 1 (a_i2b) := by
  intro p l e R s m args below meth c Q nc ns post C K J f st I w ha hK hJ
  obtain ⟨⟨hx, hb, hml, hown, hts⟩, ⟨hKn, hFx, hinj, hl⟩, ⟨hR1, hR2, hR3, hR4⟩, hpost⟩ := C
  simp only [a_i2b] at ha
  split at ha
  · rename_i x r
    exact fun H locs ls hP hS hls => lv_i2b hx hb hd rfl (hK _ _ _ _ ha H locs ls hP hS hls)
  · exact ha.elim
def a_i2s : am_A := fun K _ _ f st I w => match st with
  | .int x :: r => K f (.int (x.toInt16.toInt32) :: r) I w
  | _ => False
theorem v_i2s (hd : decode cc pc = .ok (.i2s, 1)) : am_V E k cc nL own pc 1 (a_i2s) := by
  intro p l e R s m args below meth c Q nc ns post C K J f st I w ha hK hJ
  obtain ⟨⟨hx, hb, hml, hown, hts⟩, ⟨hKn, hFx, hinj, hl⟩, ⟨hR1, hR2, hR3, hR4⟩, hpost⟩ := C
  simp only [a_i2s] at ha
  split at ha
  · rename_i x r
    exact fun H locs ls hP hS hls => lv_i2s hx hb hd rfl (hK _ _ _ _ ha H locs ls hP hS hls)
  · exact ha.elim
def a_i2c : am_A := fun K _ _ f st I w => match st with
  | .int x :: r => K f (.int ((x.toUInt32 % 65536).toInt32) :: r) I w
  | _ => False
theorem v_i2c (hd : decode cc pc = .ok (.i2c, 1)) : am_V E k cc nL own pc 1 (a_i2c) := by
  intro p l e R s m args below meth c Q nc ns post C K J f st I w ha hK hJ
  obtain ⟨⟨hx, hb, hml, hown, hts⟩, ⟨hKn, hFx, hinj, hl⟩, ⟨hR1, hR2, hR3, hR4⟩, hpost⟩ := C
  simp only [a_i2c] at ha
  split at ha
  · rename_i x r
    exact fun H locs ls hP hS hls => lv_i2c hx hb hd rfl (hK _ _ _ _ ha H locs ls hP hS hls)
  · exact ha.elim
def a_ladd : am_A := fun K _ _ f st I w => match st with
  | .long y :: .long x :: r => K f (.long (x + y) :: r) I w
  | _ => False
theorem v_ladd (hd : decode cc pc = .ok (.ladd, 1)) : am_V E k cc nL own pc 1 (a_ladd) := by
  intro p l e R s m args below meth c Q nc ns post C K J f st I w ha hK hJ
  obtain ⟨⟨hx, hb, hml, hown, hts⟩, ⟨hKn, hFx, hinj, hl⟩, ⟨hR1, hR2, hR3, hR4⟩, hpost⟩ := C
  simp only [a_ladd] at ha
  split at ha
  · rename_i y x r
    exact fun H locs ls hP hS hls => lv_ladd hx hb hd (hK _ _ _ _ ha H locs ls hP hS hls)
  · exact ha.elim
def a_lsub : am_A := fun K _ _ f st I w => match st with
  | .long y :: .long x :: r => K f (.long (x - y) :: r) I w
  | _ => False
theorem v_lsub (hd : decode cc pc = .ok (.lsub, 1)) : am_V E k cc nL own pc 1 (a_lsub) := by
  intro p l e R s m args below meth c Q nc ns post C K J f st I w ha hK hJ
  obtain ⟨⟨hx, hb, hml, hown, hts⟩, ⟨hKn, hFx, hinj, hl⟩, ⟨hR1, hR2, hR3, hR4⟩, hpost⟩ := C
  simp only [a_lsub] at ha
  split at ha
  · rename_i y x r
    exact fun H locs ls hP hS hls => lv_lsub hx hb hd (hK _ _ _ _ ha H locs ls hP hS hls)
  · exact ha.elim
def a_lmul : am_A := fun K _ _ f st I w => match st with
  | .long y :: .long x :: r => K f (.long (x * y) :: r) I w
  | _ => False
theorem v_lmul (hd : decode cc pc = .ok (.lmul, 1)) : am_V E k cc nL own pc 1 (a_lmul) := by
  intro p l e R s m args below meth c Q nc ns post C K J f st I w ha hK hJ
  obtain ⟨⟨hx, hb, hml, hown, hts⟩, ⟨hKn, hFx, hinj, hl⟩, ⟨hR1, hR2, hR3, hR4⟩, hpost⟩ := C
  simp only [a_lmul] at ha
  split at ha
  · rename_i y x r
    exact fun H locs ls hP hS hls => lv_lmul hx hb hd (hK _ _ _ _ ha H locs ls hP hS hls)
  · exact ha.elim
def a_land : am_A := fun K _ _ f st I w => match st with
  | .long y :: .long x :: r => K f (.long (x &&& y) :: r) I w
  | _ => False
theorem v_land (hd : decode cc pc = .ok (.land, 1)) : am_V E k cc nL own pc 1 (a_land) := by
  intro p l e R s m args below meth c Q nc ns post C K J f st I w ha hK hJ
  obtain ⟨⟨hx, hb, hml, hown, hts⟩, ⟨hKn, hFx, hinj, hl⟩, ⟨hR1, hR2, hR3, hR4⟩, hpost⟩ := C
  simp only [a_land] at ha
  split at ha
  · rename_i y x r
    exact fun H locs ls hP hS hls => lv_land hx hb hd (hK _ _ _ _ ha H locs ls hP hS hls)
  · exact ha.elim
def a_lor : am_A := fun K _ _ f st I w => match st with
  | .long y :: .long x :: r => K f (.long (x ||| y) :: r) I w
  | _ => False
theorem v_lor (hd : decode cc pc = .ok (.lor, 1)) : am_V E k cc nL own pc 1 (a_lor) := by
  intro p l e R s m args below meth c Q nc ns post C K J f st I w ha hK hJ
  obtain ⟨⟨hx, hb, hml, hown, hts⟩, ⟨hKn, hFx, hinj, hl⟩, ⟨hR1, hR2, hR3, hR4⟩, hpost⟩ := C
  simp only [a_lor] at ha
  split at ha
  · rename_i y x r
    exact fun H locs ls hP hS hls => lv_lor hx hb hd (hK _ _ _ _ ha H locs ls hP hS hls)
  · exact ha.elim
def a_lshl : am_A := fun K _ _ f st I w => match st with
  | .int y :: .long x :: r => K f (.long (x <<< (y.toInt64 &&& 63)) :: r) I w
  | _ => False
theorem v_lshl (hd : decode cc pc = .ok (.lshl, 1)) : am_V E k cc nL own pc 1 (a_lshl) := by
  intro p l e R s m args below meth c Q nc ns post C K J f st I w ha hK hJ
  obtain ⟨⟨hx, hb, hml, hown, hts⟩, ⟨hKn, hFx, hinj, hl⟩, ⟨hR1, hR2, hR3, hR4⟩, hpost⟩ := C
  simp only [a_lshl] at ha
  split at ha
  · rename_i y x r
    exact fun H locs ls hP hS hls => lv_lshl hx hb hd rfl (hK _ _ _ _ ha H locs ls hP hS hls)
  · exact ha.elim
def a_lshr : am_A := fun K _ _ f st I w => match st with
  | .int y :: .long x :: r => K f (.long (x >>> (y.toInt64 &&& 63)) :: r) I w
  | _ => False
theorem v_lshr (hd : decode cc pc = .ok (.lshr, 1)) : am_V E k cc nL own pc 1 (a_lshr) := by
  intro p l e R s m args below meth c Q nc ns post C K J f st I w ha hK hJ
  obtain ⟨⟨hx, hb, hml, hown, hts⟩, ⟨hKn, hFx, hinj, hl⟩, ⟨hR1, hR2, hR3, hR4⟩, hpost⟩ := C
  simp only [a_lshr] at ha
  split at ha
  · rename_i y x r
    exact fun H locs ls hP hS hls => lv_lshr hx hb hd rfl (hK _ _ _ _ ha H locs ls hP hS hls)
  · exact ha.elim
def aCmp : am_A := fun K _ _ f st I w => match st with
  | .long y :: .long x :: r => K f (.int (lg_cmp x y) :: r) I w
  | _ => False
theorem v_lcmp (hd : decode cc pc = .ok (.lcmp, 1)) : am_V E k cc nL own pc 1 (aCmp) := by
  intro p l e R s m args below meth c Q nc ns post C K J f st I w ha hK hJ
  obtain ⟨⟨hx, hb, hml, hown, hts⟩, ⟨hKn, hFx, hinj, hl⟩, ⟨hR1, hR2, hR3, hR4⟩, hpost⟩ := C
  simp only [aCmp] at ha
  split at ha
  · rename_i y x r
    exact fun H locs ls hP hS hls => W.lcmp hx hb hd (hK _ _ _ _ ha H locs ls hP hS hls)
  · exact ha.elim
def aI2L : am_A := fun K _ _ f st I w => match st with
  | .int x :: r => K f (.long x.toInt64 :: r) I w
  | _ => False
def aL2I : am_A := fun K _ _ f st I w => match st with
  | .long x :: r => K f (.int x.toInt32 :: r) I w
  | _ => False
theorem v_i2l (hd : decode cc pc = .ok (.i2l, 1)) : am_V E k cc nL own pc 1 (aI2L) := by
  intro p l e R s m args below meth c Q nc ns post C K J f st I w ha hK hJ
  obtain ⟨⟨hx, hb, hml, hown, hts⟩, ⟨hKn, hFx, hinj, hl⟩, ⟨hR1, hR2, hR3, hR4⟩, hpost⟩ := C
  simp only [aI2L] at ha
  split at ha
  · rename_i x r
    exact fun H locs ls hP hS hls => lv_i2l hx hb hd rfl (hK _ _ _ _ ha H locs ls hP hS hls)
  · exact ha.elim
theorem v_l2i (hd : decode cc pc = .ok (.l2i, 1)) : am_V E k cc nL own pc 1 (aL2I) := by
  intro p l e R s m args below meth c Q nc ns post C K J f st I w ha hK hJ
  obtain ⟨⟨hx, hb, hml, hown, hts⟩, ⟨hKn, hFx, hinj, hl⟩, ⟨hR1, hR2, hR3, hR4⟩, hpost⟩ := C
  simp only [aL2I] at ha
  split at ha
  · rename_i x r
    exact fun H locs ls hP hS hls => lv_l2i hx hb hd rfl (hK _ _ _ _ ha H locs ls hP hS hls)
  · exact ha.elim
def aDup : am_A := fun K _ _ f st I w => match st with
  | .int x :: r => K f (.int x :: .int x :: r) I w
  | .ref x :: r => K f (.ref x :: .ref x :: r) I w
  | _ => False
theorem v_dup (hd : decode cc pc = .ok (.dup, 1)) : am_V E k cc nL own pc 1 (aDup) := by
  intro p l e R s m args below meth c Q nc ns post C K J f st I w ha hK hJ
  obtain ⟨⟨hx, hb, hml, hown, hts⟩, ⟨hKn, hFx, hinj, hl⟩, ⟨hR1, hR2, hR3, hR4⟩, hpost⟩ := C
  simp only [aDup] at ha
  split at ha
  · exact fun H locs ls hP hS hls => lv_dup hx hb hd rfl (hK _ _ _ _ ha H locs ls hP hS hls)
  · exact fun H locs ls hP hS hls => lv_dup hx hb hd rfl (hK _ _ _ _ ha H locs ls hP hS hls)
  · exact ha.elim
def aPop : am_A := fun K _ _ f st I w => match st with
  | .int _ :: r => K f r I w
  | _ => False
theorem v_pop (hd : decode cc pc = .ok (.pop, 1)) : am_V E k cc nL own pc 1 (aPop) := by
  intro p l e R s m args below meth c Q nc ns post C K J f st I w ha hK hJ
  obtain ⟨⟨hx, hb, hml, hown, hts⟩, ⟨hKn, hFx, hinj, hl⟩, ⟨hR1, hR2, hR3, hR4⟩, hpost⟩ := C
  simp only [aPop] at ha
  split at ha
  · exact fun H locs ls hP hS hls => lv_pop hx hb hd rfl (hK _ _ _ _ ha H locs ls hP hS hls)
  · exact ha.elim
def z_eq (t : Nat) : am_A := fun K J _ f st I w => match st with
  | .int x :: r => (x = 0 → J t f r I w) ∧ (¬ x = 0 → K f r I w)
  | _ => False
def c_eq (t : Nat) : am_A := fun K J _ f st I w => match st with
  | .int y :: .int x :: r => (x = y → J t f r I w) ∧ (¬ x = y → K f r I w)
  | _ => False
theorem v_if_eq {off : Int} {t : Nat} (hd : decode cc pc = .ok (.ifCond .eq off, 3)) (ht : (pc : Int) + off = (t : Int)) : am_V E k cc nL own pc 3 (z_eq t) := by
  intro p l e R s m args below meth c Q nc ns post C K J f st I w ha hK hJ
  obtain ⟨⟨hx, hb, hml, hown, hts⟩, ⟨hKn, hFx, hinj, hl⟩, ⟨hR1, hR2, hR3, hR4⟩, hpost⟩ := C
  simp only [z_eq] at ha
  split at ha
  · rename_i x r
    exact fun H locs ls hP hS hls => lv_if_eq hx hb hd ht (fun h => hJ _ _ _ _ _ (ha.1 h) H locs ls hP hS hls) (fun h => hK _ _ _ _ (ha.2 h) H locs ls hP hS hls)
  · exact ha.elim
theorem v_ic_eq {off : Int} {t : Nat} (hd : decode cc pc = .ok (.if_icmp .eq off, 3)) (ht : (pc : Int) + off = (t : Int)) : am_V E k cc nL own pc 3 (c_eq t) := by
  intro p l e R s m args below meth c Q nc ns post C K J f st I w ha hK hJ
  obtain ⟨⟨hx, hb, hml, hown, hts⟩, ⟨hKn, hFx, hinj, hl⟩, ⟨hR1, hR2, hR3, hR4⟩, hpost⟩ := C
  simp only [c_eq] at ha
  split at ha
  · rename_i y x r
    exact fun H locs ls hP hS hls => lv_icmp_eq hx hb hd ht (fun h => hJ _ _ _ _ _ (ha.1 h) H locs ls hP hS hls) (fun h => hK _ _ _ _ (ha.2 h) H locs ls hP hS hls)
  · exact ha.elim
def z_ne (t : Nat) : am_A := fun K J _ f st I w => match st with
  | .int x :: r => (x = 0 → K f r I w) ∧ (¬ x = 0 → J t f r I w)
  | _ => False
def c_ne (t : Nat) : am_A := fun K J _ f st I w => match st with
  | .int y :: .int x :: r => (x = y → K f r I w) ∧ (¬ x = y → J t f r I w)
  | _ => False
theorem v_if_ne {off : Int} {t : Nat} (hd : decode cc pc = .ok (.ifCond .ne off, 3)) (ht : (pc : Int) + off = (t : Int)) : am_V E k cc nL own pc 3 (z_ne t) := by
  intro p l e R s m args below meth c Q nc ns post C K J f st I w ha hK hJ
  obtain ⟨⟨hx, hb, hml, hown, hts⟩, ⟨hKn, hFx, hinj, hl⟩, ⟨hR1, hR2, hR3, hR4⟩, hpost⟩ := C
  simp only [z_ne] at ha
  split at ha
  · rename_i x r
    exact fun H locs ls hP hS hls => lv_if_ne hx hb hd ht (fun h => hJ _ _ _ _ _ (ha.2 h) H locs ls hP hS hls) (fun h => hK _ _ _ _ (ha.1 h) H locs ls hP hS hls)
  · exact ha.elim
theorem v_ic_ne {off : Int} {t : Nat} (hd : decode cc pc = .ok (.if_icmp .ne off, 3)) (ht : (pc : Int) + off = (t : Int)) : am_V E k cc nL own pc 3 (c_ne t) := by
  intro p l e R s m args below meth c Q nc ns post C K J f st I w ha hK hJ
  obtain ⟨⟨hx, hb, hml, hown, hts⟩, ⟨hKn, hFx, hinj, hl⟩, ⟨hR1, hR2, hR3, hR4⟩, hpost⟩ := C
  simp only [c_ne] at ha
  split at ha
  · rename_i y x r
    exact fun H locs ls hP hS hls => lv_icmp_ne hx hb hd ht (fun h => hJ _ _ _ _ _ (ha.2 h) H locs ls hP hS hls) (fun h => hK _ _ _ _ (ha.1 h) H locs ls hP hS hls)
  · exact ha.elim
def z_lt (t : Nat) : am_A := fun K J _ f st I w => match st with
  | .int x :: r => (x < 0 → J t f r I w) ∧ (¬ x < 0 → K f r I w)
  | _ => False
def c_lt (t : Nat) : am_A := fun K J _ f st I w => match st with
  | .int y :: .int x :: r => (x < y → J t f r I w) ∧ (¬ x < y → K f r I w)
  | _ => False
theorem v_if_lt {off : Int} {t : Nat} (hd : decode cc pc = .ok (.ifCond .lt off, 3)) (ht : (pc : Int) + off = (t : Int)) : am_V E k cc nL own pc 3 (z_lt t) := by
  intro p l e R s m args below meth c Q nc ns post C K J f st I w ha hK hJ
  obtain ⟨⟨hx, hb, hml, hown, hts⟩, ⟨hKn, hFx, hinj, hl⟩, ⟨hR1, hR2, hR3, hR4⟩, hpost⟩ := C
  simp only [z_lt] at ha
  split at ha
  · rename_i x r
    exact fun H locs ls hP hS hls => lv_if_lt hx hb hd ht (fun h => hJ _ _ _ _ _ (ha.1 h) H locs ls hP hS hls) (fun h => hK _ _ _ _ (ha.2 h) H locs ls hP hS hls)
  · exact ha.elim
theorem v_ic_lt {off : Int} {t : Nat} (hd : decode cc pc = .ok (.if_icmp .lt off, 3)) (ht : (pc : Int) + off = (t : Int)) : am_V E k cc nL own pc 3 (c_lt t) := by
  intro p l e R s m args below meth c Q nc ns post C K J f st I w ha hK hJ
  obtain ⟨⟨hx, hb, hml, hown, hts⟩, ⟨hKn, hFx, hinj, hl⟩, ⟨hR1, hR2, hR3, hR4⟩, hpost⟩ := C
  simp only [c_lt] at ha
  split at ha
  · rename_i y x r
    exact fun H locs ls hP hS hls => lv_icmp_lt hx hb hd ht (fun h => hJ _ _ _ _ _ (ha.1 h) H locs ls hP hS hls) (fun h => hK _ _ _ _ (ha.2 h) H locs ls hP hS hls)
  · exact ha.elim
def z_ge (t : Nat) : am_A := fun K J _ f st I w => match st with
  | .int x :: r => (x < 0 → K f r I w) ∧ (¬ x < 0 → J t f r I w)
  | _ => False
def c_ge (t : Nat) : am_A := fun K J _ f st I w => match st with
  | .int y :: .int x :: r => (x < y → K f r I w) ∧ (¬ x < y → J t f r I w)
  | _ => False
theorem v_if_ge {off : Int} {t : Nat} (hd : decode cc pc = .ok (.ifCond .ge off, 3)) (ht : (pc : Int) + off = (t : Int)) : am_V E k cc nL own pc 3 (z_ge t) := by
  intro p l e R s m args below meth c Q nc ns post C K J f st I w ha hK hJ
  obtain ⟨⟨hx, hb, hml, hown, hts⟩, ⟨hKn, hFx, hinj, hl⟩, ⟨hR1, hR2, hR3, hR4⟩, hpost⟩ := C
  simp only [z_ge] at ha
  split at ha
  · rename_i x r
    exact fun H locs ls hP hS hls => lv_if_ge hx hb hd ht (fun h => hJ _ _ _ _ _ (ha.2 (Int32.not_lt.mpr h)) H locs ls hP hS hls) (fun h => hK _ _ _ _ (ha.1 (Int32.not_le.mp h)) H locs ls hP hS hls)
  · exact ha.elim
theorem v_ic_ge {off : Int} {t : Nat} (hd : decode cc pc = .ok (.if_icmp .ge off, 3)) (ht : (pc : Int) + off = (t : Int)) : am_V E k cc nL own pc 3 (c_ge t) := by
  intro p l e R s m args below meth c Q nc ns post C K J f st I w ha hK hJ
  obtain ⟨⟨hx, hb, hml, hown, hts⟩, ⟨hKn, hFx, hinj, hl⟩, ⟨hR1, hR2, hR3, hR4⟩, hpost⟩ := C
  simp only [c_ge] at ha
  split at ha
  · rename_i y x r
    exact fun H locs ls hP hS hls => lv_icmp_ge hx hb hd ht (fun h => hJ _ _ _ _ _ (ha.2 (Int32.not_lt.mpr h)) H locs ls hP hS hls) (fun h => hK _ _ _ _ (ha.1 (Int32.not_le.mp h)) H locs ls hP hS hls)
  · exact ha.elim
def z_gt (t : Nat) : am_A := fun K J _ f st I w => match st with
  | .int x :: r => (0 < x → J t f r I w) ∧ (¬ 0 < x → K f r I w)
  | _ => False
def c_gt (t : Nat) : am_A := fun K J _ f st I w => match st with
  | .int y :: .int x :: r => (y < x → J t f r I w) ∧ (¬ y < x → K f r I w)
  | _ => False
theorem v_if_gt {off : Int} {t : Nat} (hd : decode cc pc = .ok (.ifCond .gt off, 3)) (ht : (pc : Int) + off = (t : Int)) : am_V E k cc nL own pc 3 (z_gt t) := by
  intro p l e R s m args below meth c Q nc ns post C K J f st I w ha hK hJ
  obtain ⟨⟨hx, hb, hml, hown, hts⟩, ⟨hKn, hFx, hinj, hl⟩, ⟨hR1, hR2, hR3, hR4⟩, hpost⟩ := C
  simp only [z_gt] at ha
  split at ha
  · rename_i x r
    exact fun H locs ls hP hS hls => lv_if_gt hx hb hd ht (fun h => hJ _ _ _ _ _ (ha.1 h) H locs ls hP hS hls) (fun h => hK _ _ _ _ (ha.2 h) H locs ls hP hS hls)
  · exact ha.elim
theorem v_ic_gt {off : Int} {t : Nat} (hd : decode cc pc = .ok (.if_icmp .gt off, 3)) (ht : (pc : Int) + off = (t : Int)) : am_V E k cc nL own pc 3 (c_gt t) := by
  intro p l e R s m args below meth c Q nc ns post C K J f st I w ha hK hJ
  obtain ⟨⟨hx, hb, hml, hown, hts⟩, ⟨hKn, hFx, hinj, hl⟩, ⟨hR1, hR2, hR3, hR4⟩, hpost⟩ := C
  simp only [c_gt] at ha
  split at ha
  · rename_i y x r
    exact fun H locs ls hP hS hls => lv_icmp_gt hx hb hd ht (fun h => hJ _ _ _ _ _ (ha.1 h) H locs ls hP hS hls) (fun h => hK _ _ _ _ (ha.2 h) H locs ls hP hS hls)
  · exact ha.elim
def z_le (t : Nat) : am_A := fun K J _ f st I w => match st with
  | .int x :: r => (0 < x → K f r I w) ∧ (¬ 0 < x → J t f r I w)
  | _ => False
def c_le (t : Nat) : am_A := fun K J _ f st I w => match st with
  | .int y :: .int x :: r => (y < x → K f r I w) ∧ (¬ y < x → J t f r I w)
  | _ => False
theorem v_if_le {off : Int} {t : Nat} (hd : decode cc pc = .ok (.ifCond .le off, 3)) (ht : (pc : Int) + off = (t : Int)) : am_V E k cc nL own pc 3 (z_le t) := by
  intro p l e R s m args below meth c Q nc ns post C K J f st I w ha hK hJ
  obtain ⟨⟨hx, hb, hml, hown, hts⟩, ⟨hKn, hFx, hinj, hl⟩, ⟨hR1, hR2, hR3, hR4⟩, hpost⟩ := C
  simp only [z_le] at ha
  split at ha
  · rename_i x r
    exact fun H locs ls hP hS hls => lv_if_le hx hb hd ht (fun h => hJ _ _ _ _ _ (ha.2 (Int32.not_lt.mpr h)) H locs ls hP hS hls) (fun h => hK _ _ _ _ (ha.1 (Int32.not_le.mp h)) H locs ls hP hS hls)
  · exact ha.elim
theorem v_ic_le {off : Int} {t : Nat} (hd : decode cc pc = .ok (.if_icmp .le off, 3)) (ht : (pc : Int) + off = (t : Int)) : am_V E k cc nL own pc 3 (c_le t) := by
  intro p l e R s m args below meth c Q nc ns post C K J f st I w ha hK hJ
  obtain ⟨⟨hx, hb, hml, hown, hts⟩, ⟨hKn, hFx, hinj, hl⟩, ⟨hR1, hR2, hR3, hR4⟩, hpost⟩ := C
  simp only [c_le] at ha
  split at ha
  · rename_i y x r
    exact fun H locs ls hP hS hls => lv_icmp_le hx hb hd ht (fun h => hJ _ _ _ _ _ (ha.2 (Int32.not_lt.mpr h)) H locs ls hP hS hls) (fun h => hK _ _ _ _ (ha.1 (Int32.not_le.mp h)) H locs ls hP hS hls)
  · exact ha.elim
def aGo (t : Nat) : am_A := fun _ J _ f st I w => J t f st I w
theorem v_goto {off : Int} {t : Nat} (hd : decode cc pc = .ok (.goto off, 3)) (ht : (pc : Int) + off = (t : Int)) : am_V E k cc nL own pc 3 (aGo t) := by
  intro p l e R s m args below meth c Q nc ns post C K J f st I w ha hK hJ
  obtain ⟨⟨hx, hb, hml, hown, hts⟩, ⟨hKn, hFx, hinj, hl⟩, ⟨hR1, hR2, hR3, hR4⟩, hpost⟩ := C
  exact fun H locs ls hP hS hls => lv_goto hx hb hd ht (hJ _ _ _ _ _ ha H locs ls hP hS hls)
def am_sw (J : Nat → Prop) (x : Int32) (d : Nat) : List (Int32 × Nat) → Prop
  | [] => J d
  | (v, t) :: r => (x = v → J t) ∧ (¬ x = v → am_sw J x d r)
theorem am_sw_of {J : Nat → Prop} {x : Int32} {d : Nat} : ∀ (ks : List (Int32 × Nat)), am_sw J x d ks → (∃ (i t : Nat), ks[i]? = some (x, t) ∧ J t) ∨ ((∀ (i : Nat) (q : Int32 × Nat), ks[i]? = some q → x ≠ q.1) ∧ J d)
  | [], h => Or.inr ⟨fun i q hq => by simp at hq, h⟩
  | (v, t) :: r, h => by
    by_cases e : x = v
    · exact Or.inl ⟨0, t, by rw [e]; rfl, h.1 e⟩
    · rcases am_sw_of r (h.2 e) with ⟨i, t', h1, h2⟩ | ⟨h1, h2⟩
      · exact Or.inl ⟨i + 1, t', h1, h2⟩
      · refine Or.inr ⟨fun i q hq => ?_, h2⟩
        cases i with
        | zero => simp at hq; rw [← hq]; exact e
        | succ i => exact h1 i q hq
def aSw (ks : List (Int32 × Nat)) (d : Nat) : am_A := fun _ J _ f st I w => match st with
  | .int x :: r => am_sw (fun t => J t f r I w) x d ks
  | _ => False
theorem v_tsw {dflt lo hi : Int} {offs : Array Int} {len : Nat} {ks : List (Int32 × Nat)} {d : Nat} (hd : decode cc pc = .ok (.tableswitch dflt lo hi offs, len)) (ht : (pc : Int) + dflt = (d : Int)) (hk : lo + (ks.length : Int) = hi + 1) (hks : (List.range ks.length).all (fun i => decide ((ks.getD i (0, 0)).1.toInt = lo + (i : Int)) && decide (offs[i]? = some (((ks.getD i (0, 0)).2 : Int) - (pc : Int)))) = true) : am_V E k cc nL own pc len (aSw ks d) := by
  intro p l e R s m args below meth c Q nc ns post C K J f st I w ha hK hJ
  obtain ⟨⟨hx, hb, hml, hown, hts⟩, ⟨hKn, hFx, hinj, hl⟩, ⟨hR1, hR2, hR3, hR4⟩, hpost⟩ := C
  simp only [aSw] at ha
  split at ha
  · rename_i x r
    have hi' : ∀ (i : Nat) (q : Int32 × Nat), ks[i]? = some q → q.1.toInt = lo + (i : Int) ∧ offs[i]? = some ((q.2 : Int) - (pc : Int)) := by
      intro i q hq
      have hlt := (List.getElem?_eq_some_iff.mp hq).1
      have h1 := List.all_eq_true.mp hks i (List.mem_range.mpr hlt)
      rw [Bool.and_eq_true, decide_eq_true_eq, decide_eq_true_eq] at h1
      have e : ks.getD i (0, 0) = q := by rw [List.getD_eq_getElem?_getD, hq]; rfl
      rw [e] at h1
      exact h1
    intro H locs ls hP hS hls
    rcases am_sw_of ks ha with ⟨i, t, h1, h2⟩ | ⟨h1, h2⟩
    · obtain ⟨a1, a2⟩ := hi' i _ h1
      have hlt := (List.getElem?_eq_some_iff.mp h1).1
      have e : (x.toInt - lo).toNat = i := by rw [a1]; omega
      exact lv_tableIn hx hb hd (off := (t : Int) - pc) (tgt := t) (by rw [a1]; omega) (by rw [a1]; omega) (by rw [e]; exact a2) (by omega) (hJ _ _ _ _ _ h2 H locs ls hP hS hls)
    · refine lv_tableOut hx hb hd ?_ ht (hJ _ _ _ _ _ h2 H locs ls hP hS hls)
      by_cases q1 : x.toInt < lo
      · exact Or.inl q1
      · by_cases q2 : hi < x.toInt
        · exact Or.inr q2
        · exfalso
          have hlt : (x.toInt - lo).toNat < ks.length := by omega
          have hq := List.getElem?_eq_getElem hlt
          obtain ⟨a1, -⟩ := hi' _ _ hq
          exact h1 _ _ hq (Int32.toInt_inj.mp (by rw [a1]; omega))
  · exact ha.elim
theorem am_lsw {J : Nat → Prop} {x : Int32} {d pc : Nat} {dflt : Int} (hd : (pc : Int) + dflt = (d : Int)) : ∀ (ks : List (Int32 × Nat)) (ps : List (Int × Int)), am_sw J x d ks → ps = ks.map (fun q => (q.1.toInt, (q.2 : Int) - (pc : Int))) → ∃ t : Nat, J t ∧ (pc : Int) + Op.lookupswitch.offset ps dflt x.toInt = (t : Int)
  | [], _, h, rfl => ⟨d, h, by simpa [Op.lookupswitch.offset] using hd⟩
  | (v, t) :: r, _, h, rfl => by
    rw [List.map_cons, Op.lookupswitch.offset_cons]
    by_cases e : x = v
    · subst e
      exact ⟨t, h.1 rfl, by simp; omega⟩
    · obtain ⟨t', h1, h2⟩ := am_lsw hd r _ (h.2 e) rfl
      refine ⟨t', h1, ?_⟩
      rw [if_neg]
      · exact h2
      · intro q
        exact e (Int32.toInt_inj.mp q.symm)
theorem v_lsw {dflt : Int} {ps : Array (Int × Int)} {len : Nat} {ks : List (Int32 × Nat)} {d : Nat} (hd : decode cc pc = .ok (.lookupswitch dflt ps, len)) (hp : (ps.toList.zip (ps.toList.drop 1)).all (fun (a, next) => a.1 < next.1) = true) (ht : (pc : Int) + dflt = (d : Int)) (hks : ps.toList = ks.map (fun q => (q.1.toInt, (q.2 : Int) - (pc : Int)))) : am_V E k cc nL own pc len (aSw ks d) := by
  intro p l e R s m args below meth c Q nc ns post C K J f st I w ha hK hJ
  obtain ⟨⟨hx, hb, hml, hown, hts⟩, ⟨hKn, hFx, hinj, hl⟩, ⟨hR1, hR2, hR3, hR4⟩, hpost⟩ := C
  simp only [aSw] at ha
  split at ha
  · rename_i x r
    intro H locs ls hP hS hls
    obtain ⟨t, h1, h2⟩ := am_lsw ht ks ps.toList ha hks
    exact lv_lookup hx hb hd hp rfl h2 (hJ _ _ _ _ _ h1 H locs ls hP hS hls)
  · exact ha.elim
def aRi : am_A := fun _ _ Rt f st I w => match st with
  | [.int v] => Rt f [.int v] I w
  | _ => False
def aRl : am_A := fun _ _ Rt f st I w => match st with
  | [.long v] => Rt f [.long v] I w
  | _ => False
def aRv : am_A := fun _ _ Rt f st I w => match st with
  | [] => Rt f [] I w
  | _ => False
theorem v_ireturn (hd : decode cc pc = .ok (.ireturn, 1)) : am_V E k cc nL own pc 1 (aRi) := by
  intro p l e R s m args below meth c Q nc ns post C K J f st I w ha hK hJ
  obtain ⟨⟨hx, hb, hml, hown, hts⟩, ⟨hKn, hFx, hinj, hl⟩, ⟨hR1, hR2, hR3, hR4⟩, hpost⟩ := C
  simp only [aRi] at ha
  split at ha
  · exact fun H locs ls hP hS hls => hpost .ireturn _ _ _ _ pc H locs ls ha (Or.inl ⟨rfl, _, rfl⟩) hd hP hS
  · exact ha.elim
theorem v_lreturn (hd : decode cc pc = .ok (.lreturn, 1)) : am_V E k cc nL own pc 1 (aRl) := by
  intro p l e R s m args below meth c Q nc ns post C K J f st I w ha hK hJ
  obtain ⟨⟨hx, hb, hml, hown, hts⟩, ⟨hKn, hFx, hinj, hl⟩, ⟨hR1, hR2, hR3, hR4⟩, hpost⟩ := C
  simp only [aRl] at ha
  split at ha
  · exact fun H locs ls hP hS hls => hpost .lreturn _ _ _ _ pc H locs ls ha (Or.inr (Or.inl ⟨rfl, _, rfl⟩)) hd hP hS
  · exact ha.elim
theorem v_return_ (hd : decode cc pc = .ok (.return_, 1)) : am_V E k cc nL own pc 1 (aRv) := by
  intro p l e R s m args below meth c Q nc ns post C K J f st I w ha hK hJ
  obtain ⟨⟨hx, hb, hml, hown, hts⟩, ⟨hKn, hFx, hinj, hl⟩, ⟨hR1, hR2, hR3, hR4⟩, hpost⟩ := C
  simp only [aRv] at ha
  split at ha
  · exact fun H locs ls hP hS hls => hpost .return_ _ _ _ _ pc H locs ls ha (Or.inr (Or.inr ⟨rfl, rfl⟩)) hd hP hS
  · exact ha.elim
end ACTS
