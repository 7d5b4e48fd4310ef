/-! calls -/
def am_pop : Nat → List Value → List Value → Option (List Value × List Value)
  | 0, av, st => some (av, st)
  | n + 1, av, v :: st => am_pop n (v :: av) st
  | _ + 1, _, [] => none
theorem am_pop_spec : ∀ (n : Nat) (acc st : List Value) (q : List Value × List Value), am_pop n acc st = some q → ∃ xs, xs.length = n ∧ q.1 = xs ++ acc ∧ st = xs.reverse ++ q.2
  | 0, acc, st, q, h => by cases h; exact ⟨[], rfl, rfl, rfl⟩
  | n + 1, acc, v :: st, q, h => by
    obtain ⟨xs, h1, h2, h3⟩ := am_pop_spec n (v :: acc) st q h
    exact ⟨xs ++ [v], by simp [h1], by rw [h2]; simp, by rw [h3]; simp⟩
  | n + 1, acc, [], q, h => by cases h
def am_wt : List Value → Nat
  | [] => 0
  | .long _ :: r => am_wt r + 2
  | .double _ :: r => am_wt r + 2
  | _ :: r => am_wt r + 1
theorem am_wt_eq (ad : Nat → Nat) : ∀ (st : List Value), (((st.map (am_rz ad))).map fun v => v.category).sum = am_wt st
  | [] => rfl
  | v :: r => by
    have ih := am_wt_eq ad r
    cases v <;> simp [am_wt, am_rz, Value.category] at ih ⊢ <;> omega
def am_ps : Option Value → List Value → List Value
  | none, st => st
  | some v, st => v :: st
theorem am_ps_map (ad : Nat → Nat) (r : Option Value) (st : List Value) : (am_ps r st).map (am_rz ad) = (r.map (am_rz ad)).toList ++ st.map (am_rz ad) := by
  cases r <;> rfl
/-- what the tables say of a method: an instance's; a static one -/
def am_yB (Y : am_Y) (n : Nat) : Prop := Cond.initialized Y.1.cls ∈ am_T ∧ Cond.code Y.1 Y.2.1 Y.2.2.1 Y.2.2.2 ∈ am_T ∧ (Y.1.cls ≠ "java/lang/invoke/MethodHandle" ∧ Y.1.cls ≠ "java/lang/invoke/VarHandle" ∧ (parseMethodDescriptor Y.1.desc).map (fun d => d.parameters.length) = some n) ∧ Y.2.2.1 ≤ 81
def am_yV (Y : am_Y) (n : Nat) : Prop := am_yB Y n ∧ Cond.instanceMethod Y.1 ∈ am_T ∧ Cond.selects Y.1.cls Y.1 Y.1 ∈ am_T
def am_yS (Y : am_Y) (n : Nat) : Prop := am_yB Y n ∧ Cond.static Y.1 ∈ am_T
theorem am_yB.ws {Y : am_Y} {n : Nat} (h : am_yB Y n) : ∀ w ∈ Cond.code Y.1 Y.2.1 Y.2.2.1 Y.2.2.2 :: am_T, w ∈ am_T := by
  intro w hw
  rcases List.mem_cons.mp hw with e | e
  · rw [e]; exact h.2.1
  · exact e
section CALLS
variable {E : am_E} {k : Nat} {cc : ByteArray} {nL : Nat} {own : String} {pc : Nat}
section CALL0
variable {p : Program} {l : Launch} {e : Env} {R : Room} {s : State} {m : MethodId} {args : Array Value} {below : List Frame} {meth : Method} {c : Code} {Q : State → Prop} {nc ns : Nat} {post : am_K}
theorem am_back {H : Heap} {locs : List Loc} {ls : Array Slot} {rest st0 : List Value} {Po : am_Q} {a : Array Value}
    (hr : va_Run p l e R s m args below meth c H locs nc ns 0 0 (F0 m pc ls st0) rest (am_Qc E Po a) (am_Ad E)) (hS : va_S (am_Ad E) s.heap H locs)
    (kk : ∀ (r : Option Value) (I' : am_I) (w' : Int64) (H1 : Heap) (locs1 : List Loc), Po r I' w' → va_P E.2.2.1 classes (am_wd E I' w') H1 → va_S (am_Ad E) s.heap H1 locs1 → W p l e R s m args below meth c H1 locs1 nc ns Q (F0 m (pc + 3) ls ((r.map (am_rz E.2.1)).toList ++ rest))) : W p l e R s m args below meth c H locs nc ns Q (F0 m pc ls st0) := by
  intro T hT X
  obtain ⟨v, st₀, t, T', L, h0, X', hL, e1, e2, ⟨r, I', w', hv, hpo, hP1, hz, hk⟩, st⟩ := hr T hT X
  cases hv
  rw [h0] at hz hk
  obtain ⟨t2, a1, b1⟩ := kk r I' w' T'.heap (locs ++ L) hpo (by rw [e1]; exact hP1)
    ⟨Nat.le_trans hS.1 (by rw [e1]; exact hz), fun q h1 h2 => by rw [e1, hk q (Nat.lt_of_lt_of_le h1 hS.1) h2]; exact hS.2.1 q h1 h2, fun q hq => by
      rcases List.mem_append.mp hq with h | h
      · exact hS.2.2 q h
      · exact hL q h⟩ T' rfl X'
  exact ⟨t2, st t2 a1, b1⟩
theorem am_pre {H : Heap} {locs : List Loc} {I : am_I} {w : Int64} (C : am_Ctx E k p l e R s m args below meth c Q nc ns cc nL own post) (hP : va_P E.2.2.1 classes (am_wd E I w) H) (hS : va_S (am_Ad E) s.heap H locs) (av : List Value) :
    ∀ U : State, U.heap = H → s.WarmedH U.vm → am_Pc E av I w (av.map (am_rz E.2.1)).toArray U := by
  obtain ⟨-, ⟨hKn, hFx, -⟩, -⟩ := C
  intro U hU hW
  exact ⟨rfl, va_K.moved hW.alike hKn, by rw [hU]; exact hP, by rw [hU]; exact (hFx.kept hS.2.1).warm hW⟩
end CALL0
def am_isc (ci o : Nat) : Bool := match am_nt am_sh o with
  | some (kd, _) => Nat.beq kd (ci + 5)
  | none => false
theorem am_isc_spec {ci o : Nat} (h : am_isc ci o = true) : ∃ (n : Nat) (r : List Nat), am_sh[o]? = some (ci + 5, n, r) := by
  unfold am_isc at h
  split at h
  · rename_i kd z hs
    have e : kd = ci + 5 := Nat.eq_of_beq_eq_true h
    subst e
    exact ⟨z.1, z.2, by rw [← am_nt_eq]; exact hs⟩
  · cases h
/-- a call of an instance's method: the receiver of class ci, n arguments beside it -/
def aIv (E : am_E) (k ci n : Nat) (Y : am_Y) : am_A := fun K _ _ f st I w => match am_pop (n + 1) [] st with
  | some (.ref o :: av, st') => (match am_isc ci o, Nat.ble (am_wt st') 8 with
    | true, true => ∃ (k' : Nat) (Po : am_Q), k' < k ∧ am_Ret E k' Y (.ref o :: av) I w Po ∧ ∀ (r : Option Value) (I' : am_I) (w' : Int64), Po r I' w' → K f (am_ps r st') I' w'
    | _, _ => False)
  | _ => False
theorem v_virt {ci n idx : Nat} {Y : am_Y} {q : vw_C} (hY : am_yV Y n) (hq : classes[ci]? = some q) (hcl : q.1 = Y.1.cls) (hl : Cond.methodLink own idx Y.1 ∈ am_T) (hd : decode cc pc = .ok (.invokevirtual idx, 3)) : am_V E k cc nL own pc 3 (aIv E k ci n Y) := by
  intro p l e R s m args below meth c Q nc ns post C K J f st I w ha hK hJ
  have C0 := C
  obtain ⟨⟨hx, hb, hml, hown, hts⟩, ⟨hKn, hFx, hinj, hle⟩, ⟨hR1, hR2, hR3, hR4⟩, hpost⟩ := C
  subst hle
  simp only [aIv] at ha
  split at ha
  · rename_i o av st' hp
    split at ha
    · rename_i hi hw
      obtain ⟨k', Po, hk', hM, hk⟩ := ha
      obtain ⟨xs, g1, g2, g3⟩ := am_pop_spec _ _ _ _ hp
      simp only [List.append_nil] at g2 g3
      subst g2
      obtain ⟨nn, rr, hs⟩ := am_isc_spec hi
      intro H locs ls hP hS hls
      have hst : st.map (am_rz E.2.1) = (av.map (am_rz E.2.1)).reverse ++ .ref (E.2.1 o) :: st'.map (am_rz E.2.1) := by
        rw [g3]
        simp [am_rz]
      have hlen : (av.map (am_rz E.2.1)).length = n := by
        rw [List.length_map]
        simp at g1
        exact g1
      have he := am_wd_get E I w hs
      have hrecv := va_recv hKn hP hq (fs := am_fv E.2.1 (I o) w 0 rr) he
      rw [hcl] at hrecv
      obtain ⟨hB, hins, hsel⟩ := hY
      have hwt := Nat.ble_eq.mp hw
      refine am_back (va_runV (Ts := am_T) (own := own) (C := Y.1.cls) (b := E.2.1 o) (As := av.map (am_rz E.2.1)) (rest := st'.map (am_rz E.2.1)) ⟨hx, hb, hml, hown, hts⟩ hM
        (cwV n hts (tb_goodIn (fun w hw => ?_)) rfl rfl rfl ⟨rfl, hB.2.2.1⟩ ⟨?_, ?_⟩) ⟨am_Pc_blind _ _ _ _, hrecv, am_pre C0 hP hS (.ref o :: av)⟩ rfl hlen hls.2.1 hst (lv_room ?_) hd ⟨hR3, hR4⟩) hS
        (fun r I' w' H1 locs1 hpo hP1 hS1 => ?_)
      · unfold wsV at hw
        rcases List.mem_append.mp hw with h | h
        · simp only [List.mem_cons, List.not_mem_nil, or_false] at h
          rcases h with e | e | e | e
          · rw [e]; exact hl
          · rw [e]; exact hins
          · rw [e]; exact hsel
          · rw [e]; exact hB.1
        · exact hB.ws w h
      · show k' + 1 ≤ R.frames
        omega
      · have := hB.2.2.2
        show 8 + (Y.2.2.1 + 11) + (100 * k' + 100) ≤ R.locals
        omega
      · rw [am_wt_eq]; exact hwt
      · have := hK _ _ _ _ (hk r I' w' hpo) H1 locs1 ls hP1 hS1 hls
        rw [am_ps_map] at this
        exact this
    · exact ha.elim
  · exact ha.elim
/-- a call of a static method -/
def aIs (E : am_E) (k n : Nat) (Y : am_Y) : am_A := fun K _ _ f st I w => match am_pop n [] st with
  | some (av, st') => (match Nat.ble (am_wt st') 8 with
    | true => ∃ (k' : Nat) (Po : am_Q), k' < k ∧ am_Ret E k' Y av I w Po ∧ ∀ (r : Option Value) (I' : am_I) (w' : Int64), Po r I' w' → K f (am_ps r st') I' w'
    | _ => False)
  | _ => False
theorem v_stat {n idx : Nat} {Y : am_Y} (hY : am_yS Y n) (hl : Cond.methodLink own idx Y.1 ∈ am_T) (hd : decode cc pc = .ok (.invokestatic idx, 3)) : am_V E k cc nL own pc 3 (aIs E k n Y) := by
  intro p l e R s m args below meth c Q nc ns post C K J f st I w ha hK hJ
  have C0 := C
  obtain ⟨⟨hx, hb, hml, hown, hts⟩, ⟨hKn, hFx, hinj, hle⟩, ⟨hR1, hR2, hR3, hR4⟩, hpost⟩ := C
  subst hle
  simp only [aIs] at ha
  split at ha
  · rename_i av st' hp
    split at ha
    · rename_i hw
      obtain ⟨k', Po, hk', hM, hk⟩ := ha
      obtain ⟨xs, g1, g2, g3⟩ := am_pop_spec _ _ _ _ hp
      simp only [List.append_nil] at g2 g3
      subst g2
      intro H locs ls hP hS hls
      have hst : st.map (am_rz E.2.1) = (av.map (am_rz E.2.1)).reverse ++ st'.map (am_rz E.2.1) := by
        rw [g3]
        simp
      have hlen : (av.map (am_rz E.2.1)).length = n := by rw [List.length_map]; exact g1
      obtain ⟨hB, hsta⟩ := hY
      have hwt := Nat.ble_eq.mp hw
      refine am_back (va_runS (Ts := am_T) (own := own) (As := av.map (am_rz E.2.1)) (rest := st'.map (am_rz E.2.1)) ⟨hx, hb, hml, hown, hts⟩ hM
        (va_cwS n hts (tb_goodIn (fun w hw => ?_)) rfl rfl rfl hB.2.2.1 ⟨?_, ?_⟩) ⟨am_Pc_blind _ _ _ _, am_pre C0 hP hS av⟩ rfl hlen hls.2.1 hst (lv_room ?_) hd ⟨hR3, hR4⟩) hS
        (fun r I' w' H1 locs1 hpo hP1 hS1 => ?_)
      · unfold va_wsS at hw
        rcases List.mem_append.mp hw with h | h
        · simp only [List.mem_cons, List.not_mem_nil, or_false] at h
          rcases h with e | e | e
          · rw [e]; exact hl
          · rw [e]; exact hsta
          · rw [e]; exact hB.1
        · exact hB.ws w h
      · show k' + 1 ≤ R.frames
        omega
      · have := hB.2.2.2
        show 8 + (Y.2.2.1 + 11) + (100 * k' + 100) ≤ R.locals
        omega
      · rw [am_wt_eq]; exact hwt
      · have := hK _ _ _ _ (hk r I' w' hpo) H1 locs1 ls hP1 hS1 hls
        rw [am_ps_map] at this
        exact this
    · exact ha.elim
  · exact ha.elim
/-- .. of a nest mate, private -/
theorem v_statN {n idx : Nat} {host : String} {Y : am_Y} (hY : am_yS Y n) (hl : (own, idx, Y.1, host) ∈ am_nest) (hd : decode cc pc = .ok (.invokestatic idx, 3)) : am_V E k cc nL own pc 3 (aIs E k n Y) := by
  intro p l e R s m args below meth c Q nc ns post C K J f st I w ha hK hJ
  have C0 := C
  obtain ⟨⟨hx, hb, hml, hown, hts⟩, ⟨hKn, hFx, hinj, hle⟩, ⟨hR1, hR2, hR3, hR4⟩, hpost⟩ := C
  subst hle
  simp only [aIs] at ha
  split at ha
  · rename_i av st' hp
    split at ha
    · rename_i hw
      obtain ⟨k', Po, hk', hM, hk⟩ := ha
      obtain ⟨xs, g1, g2, g3⟩ := am_pop_spec _ _ _ _ hp
      simp only [List.append_nil] at g2 g3
      subst g2
      intro H locs ls hP hS hls
      have hst : st.map (am_rz E.2.1) = (av.map (am_rz E.2.1)).reverse ++ st'.map (am_rz E.2.1) := by
        rw [g3]
        simp
      have hlen : (av.map (am_rz E.2.1)).length = n := by rw [List.length_map]; exact g1
      obtain ⟨hB, hsta⟩ := hY
      have hwt := Nat.ble_eq.mp hw
      have hnest := hFx.2.2.2.2.2 _ hl
      refine am_back (va_runSN (Ts := am_T) (own := own) (host := host) (As := av.map (am_rz E.2.1)) (rest := st'.map (am_rz E.2.1)) ⟨hx, hb, hml, hown, hts⟩ hM
        ⟨va_cnB n hts (tb_goodIn hB.ws) rfl rfl rfl hnest (hts _ hB.1) hB.2.2.1 ⟨?_, ?_⟩, hts _ hsta, trivial⟩ ⟨am_Pc_blind _ _ _ _, am_pre C0 hP hS av⟩ rfl hlen hls.2.1 hst (lv_room ?_) hd ⟨hR3, hR4⟩) hS
        (fun r I' w' H1 locs1 hpo hP1 hS1 => ?_)
      · show k' + 1 ≤ R.frames
        omega
      · have := hB.2.2.2
        show 8 + (Y.2.2.1 + 11) + (100 * k' + 100) ≤ R.locals
        omega
      · rw [am_wt_eq]; exact hwt
      · have := hK _ _ _ _ (hk r I' w' hpo) H1 locs1 ls hP1 hS1 hls
        rw [am_ps_map] at this
        exact this
    · exact ha.elim
  · exact ha.elim
/-! natives and Math -/
def am_cpI (I : am_I) (a b sp dp n : Nat) : am_I := fun q j => if q = b then va_cpy (I a) (I b) sp dp n j else I q j
theorem am_cpI_ne {I : am_I} {a b sp dp n q : Nat} (h : q ≠ b) : am_cpI I a b sp dp n q = I q := by
  funext j
  simp [am_cpI, h]
theorem am_cpI_self {I : am_I} {a b sp dp n : Nat} : am_cpI I a b sp dp n b = va_cpy (I a) (I b) sp dp n := by
  funext j
  simp [am_cpI]
def aCpy (k : Nat) : am_A := fun K _ _ f st I w => match st with
  | .int n :: .int dp :: .ref b :: .int sp :: .ref a :: r => (match am_arr 0 a, am_arr 0 b, Nat.ble (am_wt r) 8 with
    | some na, some nb, true => 0 < k ∧ ¬ sp < 0 ∧ ¬ dp < 0 ∧ ¬ n < 0 ∧ sp.toNatClampNeg + n.toNatClampNeg ≤ na ∧ dp.toNatClampNeg + n.toNatClampNeg ≤ nb ∧ K f r (am_cpI I a b sp.toNatClampNeg dp.toNatClampNeg n.toNatClampNeg) w
    | _, _, _ => False)
  | _ => False
theorem v_cpy {idx : Nat} (hl : Cond.methodLink own idx arraycopyName ∈ am_T) (hn : Cond.native arraycopyName ∈ am_T) (hst : Cond.static arraycopyName ∈ am_T) (hi : Cond.initialized "java/lang/System" ∈ am_T) (hd : decode cc pc = .ok (.invokestatic idx, 3)) : am_V E k cc nL own pc 3 (aCpy k) := by
  intro p l e R s m args below meth c Q nc ns post C K J f st I w ha hK hJ
  obtain ⟨⟨hx, hb, hml, hown, hts⟩, ⟨hKn, hFx, hinj, hle⟩, ⟨hR1, hR2, hR3, hR4⟩, hpost⟩ := C
  simp only [aCpy] at ha
  split at ha
  · rename_i n dp b sp a r
    split at ha
    · rename_i na nb hca hcb hw
      obtain ⟨h0, h1, h2, h3, h4, h5, h6⟩ := ha
      obtain ⟨ra, hsa⟩ := am_arr_spec hca
      obtain ⟨rb, hsb⟩ := am_arr_spec hcb
      have hwt := Nat.ble_eq.mp hw
      intro H locs ls hP hS hls
      have hnat : nativeFrameWords "java/lang/System" "arraycopy" 5 = 7 := by decide
      refine va_copyi hx hb (by rw [hml]; exact hls.2.1.symm) hown (hts _ hl) (hts _ hn) (hts _ hst) (hts _ hi) hKn hP (am_wd_D hinj I w) hS a b 0 0 (am_wd_get E I w hsa) (am_wd_get E I w hsb) rfl rfl rfl h1 h2 h3 h4 h5 (fun i _ => rfl) (by omega) (by rw [hnat, am_wt_eq]; omega) hd (fun H1 locs1 hP1 _ hS1 => ?_)
      have e1 : (Sum.inl (E.2.2.2 0, nb, .inl (va_cpy (I a) (I b) sp.toNatClampNeg dp.toNatClampNeg n.toNatClampNeg)) : va_E) = am_ce E (am_cpI I a b sp.toNatClampNeg dp.toNatClampNeg n.toNatClampNeg b) w (0, nb, rb) := by rw [am_cpI_self]; rfl
      have e2 := am_wd_set (E := E) (I := I) (I' := am_cpI I a b sp.toNatClampNeg dp.toNatClampNeg n.toNatClampNeg) (w := w) (w' := w) hsb (fun i s' hi _ => by rw [am_cpI_ne hi])
      rw [e1, e2] at hP1
      exact hK _ _ _ _ h6 H1 locs1 ls hP1 hS1 hls
    · exact ha.elim
  · exact ha.elim
def aMx (k : Nat) : am_A := fun K _ _ f st I w => match st with
  | .int y :: .int x :: r => (match Nat.ble (am_wt r) 8 with
    | true => 0 < k ∧ K f (.int (if x < y then y else x) :: r) I w
    | _ => False)
  | _ => False
theorem v_max {idx : Nat} (hl : Cond.methodLink own idx Lib.Math.max.name ∈ am_T) (hst : Cond.static Lib.Math.max.name ∈ am_T) (hi : Cond.initialized "java/lang/Math" ∈ am_T) (hc : Cond.code Lib.Math.max.name Lib.Math.max.code 2 (some .int) ∈ am_T) (hd : decode cc pc = .ok (.invokestatic idx, 3)) : am_V E k cc nL own pc 3 (aMx k) := by
  intro p l e R s m args below meth c Q nc ns post C K J f st I w ha hK hJ
  obtain ⟨⟨hx, hb, hml, hown, hts⟩, ⟨hKn, hFx, hinj, hle⟩, ⟨hR1, hR2, hR3, hR4⟩, hpost⟩ := C
  simp only [aMx] at ha
  split at ha
  · rename_i y x r
    split at ha
    · rename_i hw
      have hwt := Nat.ble_eq.mp hw
      intro H locs ls hP hS hls
      exact va_mmax hx hb (by rw [hml]; exact hls.2.1.symm) hown (hts _ hl) (hts _ hst) (hts _ hi) (hts _ hc) (by omega) (by rw [am_wt_eq]; omega) hR3 hR4 hd (hK _ _ _ _ ha.2 H locs ls hP hS hls)
    · exact ha.elim
  · exact ha.elim
def aMn (k : Nat) : am_A := fun K _ _ f st I w => match st with
  | .int y :: .int x :: r => (match Nat.ble (am_wt r) 8 with
    | true => 0 < k ∧ K f (.int (if y < x then y else x) :: r) I w
    | _ => False)
  | _ => False
theorem v_min {idx : Nat} (hl : Cond.methodLink own idx Lib.Math.min.name ∈ am_T) (hst : Cond.static Lib.Math.min.name ∈ am_T) (hi : Cond.initialized "java/lang/Math" ∈ am_T) (hc : Cond.code Lib.Math.min.name Lib.Math.min.code 2 (some .int) ∈ am_T) (hd : decode cc pc = .ok (.invokestatic idx, 3)) : am_V E k cc nL own pc 3 (aMn k) := by
  intro p l e R s m args below meth c Q nc ns post C K J f st I w ha hK hJ
  obtain ⟨⟨hx, hb, hml, hown, hts⟩, ⟨hKn, hFx, hinj, hle⟩, ⟨hR1, hR2, hR3, hR4⟩, hpost⟩ := C
  simp only [aMn] at ha
  split at ha
  · rename_i y x r
    split at ha
    · rename_i hw
      have hwt := Nat.ble_eq.mp hw
      intro H locs ls hP hS hls
      exact va_mmin hx hb (by rw [hml]; exact hls.2.1.symm) hown (hts _ hl) (hts _ hst) (hts _ hi) (hts _ hc) (by omega) (by rw [am_wt_eq]; omega) hR3 hR4 hd (hK _ _ _ _ ha.2 H locs ls hP hS hls)
    · exact ha.elim
  · exact ha.elim
end CALLS
