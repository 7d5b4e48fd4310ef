/-! String constants: names 130 .. 140, their bytes 150 .. 160 -/
section STRINGS
variable {E : am_E} {k : Nat} {cc : ByteArray} {nL : Nat} {own : String} {pc : Nat}
theorem v_ldcS {i : Nat} (hi : i < 11) (hd : decode cc pc = .ok (.ldc (am_tx.getD i (0, "")).1, 2)) : am_V E k cc nL "TwoCamps$TextReader" pc 2 (aGs (130 + i)) := by
  intro p l e R s m args below meth c Q nc ns post C K J f st I w ha hK hJ
  obtain ⟨⟨hx, hb, hml, hown, hts⟩, ⟨hKn, hFx, hinj, hl⟩, ⟨hR1, hR2, hR3, hR4⟩, hpost⟩ := C
  exact fun H locs ls hP hS hls => va_ldcS hx hb hown (hFx.2.2.2.2.1 i hi) hd (hK _ _ _ _ ha H locs ls hP hS hls)
/-- an act that never comes -/
def aNo : am_A := fun _ _ _ _ _ _ _ => False
theorem v_no {len : Nat} : am_V E k cc nL own pc len aNo := by
  intro p l e R s m args below meth c Q nc ns post C K J f st I w ha hK hJ
  exact ha.elim
def aSval : am_A := fun K _ _ f st I w => match st with
  | .ref o :: r => ∃ i, i < 11 ∧ o = 130 + i ∧ K f (.ref (150 + i) :: r) I w
  | _ => False
theorem v_sval {idx : Nat} (hw : Cond.fieldLink own idx "java/lang/String" "value" "[B" ∈ am_T) (hd : decode cc pc = .ok (.getfield idx, 3)) : am_V E k cc nL own pc 3 aSval := by
  intro p l e R s m args below meth c Q nc ns post C K J f st I w ha hK hJ
  obtain ⟨⟨hx, hb, hml, hown, hts⟩, ⟨hKn, hFx, hinj, hl⟩, ⟨hR1, hR2, hR3, hR4⟩, hpost⟩ := C
  simp only [aSval] at ha
  split at ha
  · rename_i o r
    obtain ⟨i, hi, rfl, hk⟩ := ha
    exact fun H locs ls hP hS hls => vk_getf hx hb (hFx.2.2.2.1.1 i hi).2.2.1 hS hown (hts _ hw) (fun _ h => h) hd (hK _ _ _ _ hk H locs ls hP hS hls)
  · exact ha.elim
def aScod : am_A := fun K _ _ f st I w => match st with
  | .ref o :: r => ∃ i, i < 11 ∧ o = 130 + i ∧ K f (.int 0 :: r) I w
  | _ => False
theorem v_scod {idx : Nat} (hw : Cond.fieldLink own idx "java/lang/String" "coder" "B" ∈ am_T) (hd : decode cc pc = .ok (.getfield idx, 3)) : am_V E k cc nL own pc 3 aScod := by
  intro p l e R s m args below meth c Q nc ns post C K J f st I w ha hK hJ
  obtain ⟨⟨hx, hb, hml, hown, hts⟩, ⟨hKn, hFx, hinj, hl⟩, ⟨hR1, hR2, hR3, hR4⟩, hpost⟩ := C
  simp only [aScod] at ha
  split at ha
  · rename_i o r
    obtain ⟨i, hi, rfl, hk⟩ := ha
    exact fun H locs ls hP hS hls => vk_getf hx hb (hFx.2.2.2.1.1 i hi).2.1 hS hown (hts _ hw) (fun _ h => h) hd (hK _ _ _ _ hk H locs ls hP hS hls)
  · exact ha.elim
def aSlen : am_A := fun K _ _ f st I w => match st with
  | .ref o :: r => ∃ i, i < 11 ∧ o = 150 + i ∧ K f (.int (nI (am_tl.getD i 0)) :: r) I w
  | _ => False
theorem v_slen (hd : decode cc pc = .ok (.arraylength, 1)) : am_V E k cc nL own pc 1 aSlen := by
  intro p l e R s m args below meth c Q nc ns post C K J f st I w ha hK hJ
  obtain ⟨⟨hx, hb, hml, hown, hts⟩, ⟨hKn, hFx, hinj, hl⟩, ⟨hR1, hR2, hR3, hR4⟩, hpost⟩ := C
  simp only [aSlen] at ha
  split at ha
  · rename_i o r
    obtain ⟨i, hi, rfl, hk⟩ := ha
    exact fun H locs ls hP hS hls => va_tlen hx hb (hFx.2.2.2.1.1 i hi).2.2.2 hS (v := nI (am_tl.getD i 0)) rfl hd (hK _ _ _ _ hk H locs ls hP hS hls)
  · exact ha.elim
def aSbald : am_A := fun K _ _ f st I w => match st with
  | .int j :: .ref o :: r => ∃ i, i < 11 ∧ o = 150 + i ∧ vp_in j (am_tl.getD i 0) ∧ K f (.int ((am_tb.getD i []).getD j.toNatClampNeg 0) :: r) I w
  | _ => False
theorem v_sbald (hd : decode cc pc = .ok (.baload, 1)) : am_V E k cc nL own pc 1 aSbald := by
  intro p l e R s m args below meth c Q nc ns post C K J f st I w ha hK hJ
  obtain ⟨⟨hx, hb, hml, hown, hts⟩, ⟨hKn, hFx, hinj, hl⟩, ⟨hR1, hR2, hR3, hR4⟩, hpost⟩ := C
  simp only [aSbald] at ha
  split at ha
  · rename_i j o r
    obtain ⟨i, hi, rfl, hj, hk⟩ := ha
    exact fun H locs ls hP hS hls => va_tb hx hb (hFx.2.2.2.1.1 i hi).2.2.2 hS hj rfl hd (hK _ _ _ _ hk H locs ls hP hS hls)
  · exact ha.elim
theorem v_scs {idx : Nat} (hw : Cond.fieldLink own idx "java/lang/String" "COMPACT_STRINGS" "Z" ∈ am_T) (hd : decode cc pc = .ok (.getstatic idx, 3)) : am_V E k cc nL own pc 3 (aI 1) := by
  intro p l e R s m args below meth c Q nc ns post C K J f st I w ha hK hJ
  obtain ⟨⟨hx, hb, hml, hown, hts⟩, ⟨hKn, hFx, hinj, hl⟩, ⟨hR1, hR2, hR3, hR4⟩, hpost⟩ := C
  exact fun H locs ls hP hS hls => va_gets hx hb hFx.2.2.1.1 hS hown (hts _ hw) (fun _ h => h) hd (hK _ _ _ _ ha H locs ls hP hS hls)
def aFmt : am_A := fun K _ _ f st I w => K f (.null :: st) I w ∧ K f (.ref 171 :: st) I w
theorem v_fmt {idx : Nat} (hw : Cond.fieldLink own idx "jdk/internal/util/Preconditions" "SIOOBE_FORMATTER" "Ljava/util/function/BiFunction;" ∈ am_T) (hd : decode cc pc = .ok (.getstatic idx, 3)) : am_V E k cc nL own pc 3 aFmt := by
  intro p l e R s m args below meth c Q nc ns post C K J f st I w ha hK hJ
  obtain ⟨⟨hx, hb, hml, hown, hts⟩, ⟨hKn, hFx, hinj, hl⟩, ⟨hR1, hR2, hR3, hR4⟩, hpost⟩ := C
  intro H locs ls hP hS hls
  rcases hFx.2.2.1.2 with h | h
  · exact va_gets hx hb h hS hown (hts _ hw) (fun _ h => h) hd (hK _ _ _ _ ha.1 H locs ls hP hS hls)
  · exact va_gets hx hb h hS hown (hts _ hw) (fun _ h => h) hd (hK _ _ _ _ ha.2 H locs ls hP hS hls)
/-- a call of a String's method -/
def aIvs (E : am_E) (k n : Nat) (Y : am_Y) : am_A := fun K _ _ f st I w => match am_pop (n + 1) [] st with
  | some (.ref o :: av, st') => (match Nat.ble (am_wt st') 8 with
    | true => ∃ i, i < 11 ∧ o = 130 + i ∧ ∃ (k' : Nat) (Po : am_Q), k' < k ∧ am_Ret E k' Y (.ref o :: av) I w Po ∧ ∀ (r : Option Value) (I' : am_I) (w' : Int64), Po r I' w' → K f (am_ps r st') I' w'
    | _ => False)
  | _ => False
theorem v_virtS {n idx : Nat} {Y : am_Y} (hY : am_yV Y n) (hcl : Y.1.cls = "java/lang/String") (hl : Cond.methodLink own idx Y.1 ∈ am_T) (hd : decode cc pc = .ok (.invokevirtual idx, 3)) : am_V E k cc nL own pc 3 (aIvs E k n Y) := by
  intro p l e R s m args below meth c Q nc ns post C K J f st I w ha hK hJ
  have C0 := C
  obtain ⟨⟨hx, hb, hml, hown, hts⟩, ⟨hKn, hFx, hinj, hle⟩, ⟨hR1, hR2, hR3, hR4⟩, hpost⟩ := C
  subst hle
  simp only [aIvs] at ha
  split at ha
  · rename_i o av st' hp
    split at ha
    · rename_i hw
      obtain ⟨i, hi, rfl, k', Po, hk', hM, hk⟩ := ha
      obtain ⟨xs, g1, g2, g3⟩ := am_pop_spec _ _ _ _ hp
      simp only [List.append_nil] at g2 g3
      subst g2
      intro H locs ls hP hS hls
      have hst : st.map (am_rz E.2.1) = (av.map (am_rz E.2.1)).reverse ++ .ref (E.2.1 (130 + i)) :: st'.map (am_rz E.2.1) := by
        rw [g3]
        simp [am_rz]
      have hlen : (av.map (am_rz E.2.1)).length = n := by
        rw [List.length_map]
        simp at g1
        exact g1
      have hrecv := vk_recv hFx.2.2.2.1 hi hS
      rw [← hcl] at hrecv
      obtain ⟨hB, hins, hsel⟩ := hY
      have hwt := Nat.ble_eq.mp hw
      refine am_back (va_runV (Ts := am_T) (own := own) (C := Y.1.cls) (b := E.2.1 (130 + i)) (As := av.map (am_rz E.2.1)) (rest := st'.map (am_rz E.2.1)) ⟨hx, hb, hml, hown, hts⟩ hM
        (cwV n hts (tb_goodIn (fun w hw => ?_)) rfl rfl rfl ⟨rfl, hB.2.2.1⟩ ⟨?_, ?_⟩) ⟨am_Pc_blind _ _ _ _, hrecv, am_pre C0 hP hS (.ref (130 + i) :: av)⟩ rfl hlen hls.2.1 hst (lv_room ?_) hd ⟨hR3, hR4⟩) hS
        (fun r I' w' H1 locs1 hpo hP1 hS1 => ?_)
      · unfold wsV at hw
        rcases List.mem_append.mp hw with h | h
        · simp only [List.mem_cons, List.not_mem_nil, or_false] at h
          rcases h with e | e | e | e
          · rw [e]; exact hl
          · rw [e]; exact hins
          · rw [e]; exact hsel
          · rw [e]; exact hB.1
        · exact hB.ws w h
      · show k' + 1 ≤ R.frames
        omega
      · have := hB.2.2.2
        show 8 + (Y.2.2.1 + 11) + (100 * k' + 100) ≤ R.locals
        omega
      · rw [am_wt_eq]; exact hwt
      · have := hK _ _ _ _ (hk r I' w' hpo) H1 locs1 ls hP1 hS1 hls
        rw [am_ps_map] at this
        exact this
    · exact ha.elim
  · exact ha.elim
end STRINGS
