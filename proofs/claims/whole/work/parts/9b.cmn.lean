/-! CONSTRUCTORS: new cells, rows of references, calls -/
section CMN
variable {G : cm_G} {k mc ms : Nat} {cc : ByteArray} {nL : Nat} {own : String} {ii : Bool} {pc : Nat}
theorem cm_size {p : Program} {l : Launch} {e : Env} {R : Room} {s : State} {m : MethodId} {args : Array Value} {below : List Frame} {meth : Method} {c : Code} {Q : State → Prop} {H : Heap} {locs : List Loc} {nc ns : Nat} {g : JFrame} {σ : cm_S}
    (hP : G.2.1 + σ.length = s.heap.size + nc ∧ va_P G.2.2.1 classes (cm_ws G 0 σ) H) (hS : va_S (cm_A0 G) s.heap H locs) (hB : G.2.1 ≤ s.heap.size) (kk : H.size = cm_ad G σ.length → W p l e R s m args below meth c H locs nc ns Q g) : W p l e R s m args below meth c H locs nc ns Q g := by
  intro T hT X
  have h1 := X.heapSize
  rw [hT] at h1
  have h2 : G.2.1 + σ.length ≤ H.size := by
    cases hl : σ.length with
    | zero => have := hS.1; omega
    | succ n =>
      obtain ⟨c0, hc0⟩ : ∃ c0, σ[n]? = some c0 := ⟨σ[n], List.getElem?_eq_getElem (by omega)⟩
      have h3 := (hP.2 n _ (cm_ws_at hc0)).lt
      have h4 : G.2.1 + n < H.size := h3
      omega
  have h5 := hP.1
  exact kk (by unfold cm_ad; omega) T hT X
theorem cm_push {σ : cm_S} {c : cm_C} {H H1 : Heap} (hP : va_P G.2.2.1 classes (cm_ws G 0 σ) H) (o1 : ∀ q, q < H.size → H1[q]? = H[q]?) (hc : va_at G.2.2.1 classes (cm_ad G σ.length, cm_ce G c) H1) : va_P G.2.2.1 classes (cm_ws G 0 (σ ++ [c])) H1 := by
  rw [← cm_ws_app]
  refine va_P.app (va_P.kept hP (fun k q hq => o1 _ ((hP k q hq).lt))) (fun k q hq => ?_)
  cases k with
  | zero => cases hq; exact hc
  | succ k => cases hq
theorem cm_grow {H0 H H1 : Heap} {locs : List Loc} (hS : va_S (cm_A0 G) H0 H locs) (z1 : H1.size = H.size + 1) (o1 : ∀ q, q < H.size → H1[q]? = H[q]?) : va_S (cm_A0 G) H0 H1 locs :=
  ⟨Nat.le_trans hS.1 (by omega), fun x h1 h2 => (o1 x (Nat.lt_of_lt_of_le h1 hS.1)).trans (hS.2.1 x h1 h2), hS.2.2⟩
def xNewa (mc ms kd : Nat) : cm_A := fun F => match F.2.1 with
  | .int n :: r => (match decide (n < 0), Nat.ble (n.toNatClampNeg * 4) 536870912, Nat.ble (F.2.2.2.1 + 1) mc, Nat.ble (F.2.2.2.2 + n.toNatClampNeg) ms with
    | false, true, true, true => some (none, F.1, .ref F.2.2.1.length :: r, F.2.2.1 ++ [.inl (kd, n.toNatClampNeg, fun _ => 0)], F.2.2.2.1 + 1, F.2.2.2.2 + n.toNatClampNeg)
    | _, _, _, _ => none)
  | _ => none
theorem x_newa {kd : Nat} {atype : ArrayType} (harr : Cond.arrayClass (newarray.typeOf atype) ∈ am_T) (hdef : defaultValue (newarray.typeOf atype) = .int 0) (hcb : componentBytes (newarray.typeOf atype) ≤ 4)
    (hnm : ∀ s, va_K G.2.2.1 classes (cm_tys G) s → s.vm.findClass ("[" ++ (newarray.typeOf atype).toString) = some (G.2.2.2 kd)) (hd : decode cc pc = .ok (.newarray atype, 2)) : cm_V G k mc ms cc nL own ii pc 2 (xNewa mc ms kd) := by
  intro p l e R s m args below meth c Q C F j0 F' ha hk
  obtain ⟨⟨hx, hb, hml, hown, hts⟩, ⟨hKn, hFx, hl, hB⟩, ⟨hR1, hR2, hR3, hR4⟩, -⟩ := C
  obtain ⟨f, st, σ, nc, ns⟩ := F
  unfold xNewa at ha
  split at ha
  · rename_i n r hst
    have hst : st = .int n :: r := hst
    rw [hst]
    split at ha
    · rename_i a1 a2 a3 a4
      have a1 := of_decide_eq_false a1
      have a2 := Nat.ble_eq.mp a2
      have a3 : nc + 1 ≤ mc := Nat.ble_eq.mp a3
      have a4 : ns + n.toNatClampNeg ≤ ms := Nat.ble_eq.mp a4
      cases ha
      intro H locs ls hP hS hls
      refine cm_size hP hS hB (fun hz => ?_)
      have hbt : n.toNatClampNeg * componentBytes (newarray.typeOf atype) ≤ 536870912 := Nat.le_trans (Nat.mul_le_mul_left _ hcb) a2
      refine va_newaK (atype := atype) hx hb (hts _ harr) rfl hd rfl a1 rfl hbt (Nat.le_trans a3 hR3) (Nat.le_trans a4 hR4) hz (fun H1 cA e1 z1 o1 _ hN => ?_)
      have eA : cA = G.2.2.2 kd := Option.some.inj (hN.symm.trans (hnm s hKn))
      subst eA
      have o1 : ∀ q, q < H.size → H1[q]? = H[q]? := fun q hq => o1 q (by omega)
      refine hk H1 locs ls ⟨?_, cm_push hP.2 o1 ?_⟩ (cm_grow hS (by omega) o1) hls
      · have := hP.1
        show G.2.1 + (σ ++ [_]).length = s.heap.size + (nc + 1)
        rw [List.length_append]
        simp only [List.length_cons, List.length_nil] at this ⊢
        omega
      · show H1[cm_ad G σ.length]? = some (vp_cell _ _)
        rw [e1, vp_cell_i, hdef]
    · cases ha
  · cases ha
theorem x_newi (harr : Cond.arrayClass .int ∈ am_T) (hd : decode cc pc = .ok (.newarray .int, 2)) : cm_V G k mc ms cc nL own ii pc 2 (xNewa mc ms 0) :=
  x_newa (atype := .int) harr rfl (by decide) (fun s hK => (hK.2 0 _ rfl).2) hd
theorem x_newz (harr : Cond.arrayClass .boolean ∈ am_T) (hd : decode cc pc = .ok (.newarray .boolean, 2)) : cm_V G k mc ms cc nL own ii pc 2 (xNewa mc ms 1) :=
  x_newa (atype := .boolean) harr rfl (by decide) (fun s hK => (hK.2 1 _ rfl).2) hd
def cm_df (ci N : Nat) : List Value := (List.range N).map (fun j => defaultValue (kT ci j))
theorem cm_df_ok (ad : Nat → Nat) {ci N j : Nat} (hj : j < N) : defaultValue (kT ci j) = vp_V ((cm_df ci N).map (am_rz ad)) j := by
  have e : am_rz ad (defaultValue (kT ci j)) = defaultValue (kT ci j) := by cases kT ci j <;> rfl
  unfold vp_V cm_df
  rw [List.getD_eq_getElem?_getD, List.getElem?_map, List.getElem?_map, List.getElem?_range hj]
  exact e.symm
def xNew (mc ms ci N : Nat) : cm_A := fun F => match Nat.ble (F.2.2.2.1 + 1) mc, Nat.ble (F.2.2.2.2 + N) ms with
  | true, true => some (none, F.1, .ref F.2.2.1.length :: F.2.1, F.2.2.1 ++ [.inr (.inr (ci, cm_df ci N))], F.2.2.2.1 + 1, F.2.2.2.2 + N)
  | _, _ => none
theorem x_new {idx ci N : Nat} {C0 : String} {T : u_T} (hq : classes[ci]? = some (C0, T, N)) (hcl : Cond.classLink own idx C0 ∈ am_T) (hinst : Cond.instantiable C0 N ∈ am_T) (hini : Cond.initialized C0 ∈ am_T) (hd : decode cc pc = .ok (.new idx, 3)) : cm_V G k mc ms cc nL own ii pc 3 (xNew mc ms ci N) := by
  intro p l e R s m args below meth c Q C F j0 F' ha hk
  obtain ⟨⟨hx, hb, hml, hown, hts⟩, ⟨hKn, hFx, hl, hB⟩, ⟨hR1, hR2, hR3, hR4⟩, -⟩ := C
  obtain ⟨f, st, σ, nc, ns⟩ := F
  unfold xNew at ha
  split at ha
  · rename_i a3 a4
    have a3 : nc + 1 ≤ mc := Nat.ble_eq.mp a3
    have a4 : ns + N ≤ ms := Nat.ble_eq.mp a4
    cases ha
    intro H locs ls hP hS hls
    refine cm_size hP hS hB (fun hz => ?_)
    have hu := hKn.1 ci _ hq
    refine W.newcK hx hb hown (hts _ hcl) (hts _ hinst) (hts _ hini) rfl hd (Nat.le_trans a3 hR3) (Nat.le_trans a4 hR4) hu.2.1 hz (fun H1 kC hkC e1 z1 o1 => ?_)
    have o1 : ∀ q, q < H.size → H1[q]? = H[q]? := fun q hq => o1 q (by omega)
    refine hk H1 locs ls ⟨?_, cm_push hP.2 o1 ?_⟩ (cm_grow hS (by omega) o1) hls
    · have := hP.1
      show G.2.1 + (σ ++ [_]).length = s.heap.size + (nc + 1)
      rw [List.length_append]
      simp only [List.length_cons, List.length_nil] at this ⊢
      omega
    · exact ⟨_, hq, (u_born (kT ci) hts (k_all hq).1 hu hkC e1 (k_all hq).2.2).to (fun j hj => cm_df_ok (cm_ad G) hj)⟩
  · cases ha
def xNewq (mc ms kd : Nat) : cm_A := fun F => match F.2.1 with
  | .int n :: r => (match decide (n < 0), Nat.ble (n.toNatClampNeg * 4) 536870912, Nat.ble (F.2.2.2.1 + 1) mc, Nat.ble (F.2.2.2.2 + n.toNatClampNeg) ms with
    | false, true, true, true => some (none, F.1, .ref F.2.2.1.length :: r, F.2.2.1 ++ [.inr (.inl (kd, n.toNatClampNeg, fun _ => none))], F.2.2.2.1 + 1, F.2.2.2.2 + n.toNatClampNeg)
    | _, _, _, _ => none)
  | _ => none
theorem x_newq {kd idx : Nat} {C0 : String} (hC : C0 ∈ cm_el) (hkd : (cm_tys G)[kd]? = some (G.2.2.2 kd, .object C0)) (hcl : Cond.classLink own idx C0 ∈ am_T) (hd : decode cc pc = .ok (.anewarray idx, 3)) : cm_V G k mc ms cc nL own ii pc 3 (xNewq mc ms kd) := by
  intro p l e R s m args below meth c Q C F j0 F' ha hk
  obtain ⟨⟨hx, hb, hml, hown, hts⟩, ⟨hKn, hFx, hl, hB⟩, ⟨hR1, hR2, hR3, hR4⟩, -⟩ := C
  obtain ⟨f, st, σ, nc, ns⟩ := F
  unfold xNewq at ha
  split at ha
  · rename_i n r hst
    have hst : st = .int n :: r := hst
    rw [hst]
    split at ha
    · rename_i a1 a2 a3 a4
      have a1 := of_decide_eq_false a1
      have a2 := Nat.ble_eq.mp a2
      have a3 : nc + 1 ≤ mc := Nat.ble_eq.mp a3
      have a4 : ns + n.toNatClampNeg ≤ ms := Nat.ble_eq.mp a4
      cases ha
      intro H locs ls hP hS hls
      refine cm_size hP hS hB (fun hz => ?_)
      refine W.anew hx hb hown (hts _ hcl) (va_AO.use (hFx.1 C0 hC)) rfl hd rfl a1 a2 (Nat.le_trans a3 hR3) (Nat.le_trans a4 hR4) (fun cA kA comp f1 f2 f3 f4 => ?_)
      obtain ⟨kA', comp', h1, h2, h3, h4⟩ : va_RA s (G.2.2.2 kd) (.object C0) := (hKn.2 kd _ hkd).2
      have eA : cA = G.2.2.2 kd := Option.some.inj (f1.symm.trans h4)
      subst eA
      generalize hH1 : H.push ({ cls := G.2.2.2 kd, slots := Array.replicate n.toNatClampNeg .null, vm := .none } : Cell) = H1
      have z1 : H1.size = H.size + 1 := by rw [← hH1, Array.size_push]
      have e1 : H1[H.size]? = some (arrV (G.2.2.2 kd) n.toNatClampNeg (fun _ => .null)) := by rw [← hH1, Array.getElem?_push_size, ← arrV_new]
      have o1 : ∀ q : Nat, q < H.size → H1[q]? = H[q]? := fun q hq => by rw [← hH1, Array.getElem?_push, if_neg (Nat.ne_of_lt hq)]
      rw [hz]
      rw [hz] at e1
      refine hk H1 locs ls ⟨?_, cm_push hP.2 o1 ?_⟩ (cm_grow hS z1 o1) hls
      · have := hP.1
        show G.2.1 + (σ ++ [_]).length = s.heap.size + (nc + 1)
        rw [List.length_append]
        simp only [List.length_cons, List.length_nil] at this ⊢
        omega
      · show H1[cm_ad G σ.length]? = some (vp_cell _ _)
        rw [e1]
        rfl
    · cases ha
  · cases ha
def xAast (kd ci : Nat) : cm_A := fun F => match F.2.1 with
  | .ref v :: .int i :: .ref o :: r => (match cm_ra F.2.2.1 kd o, cm_ob F.2.2.1 ci v with
    | some (n, f), some _ => (match decide (i < 0), Nat.blt i.toNatClampNeg n with
      | false, true => some (none, F.1, r, F.2.2.1.set o (.inr (.inl (kd, n, va_up f i.toNatClampNeg (some v)))), F.2.2.2)
      | _, _ => none)
    | _, _ => none)
  | _ => none
theorem x_aast {kd ci : Nat} {q : vw_C} (hq : classes[ci]? = some q) (hkd : (cm_tys G)[kd]? = some (G.2.2.2 kd, .object q.1)) (hd : decode cc pc = .ok (.aastore, 1)) : cm_V G k mc ms cc nL own ii pc 1 (xAast kd ci) := by
  intro p l e R s m args below meth c Q C F j0 F' ha hk
  obtain ⟨⟨hx, hb, hml, hown, hts⟩, ⟨hKn, hFx, hl, hB⟩, ⟨hR1, hR2, hR3, hR4⟩, -⟩ := C
  obtain ⟨f, st, σ, nc, ns⟩ := F
  unfold xAast at ha
  split at ha
  · rename_i v i o r hst
    have hst : st = .ref v :: .int i :: .ref o :: r := hst
    rw [hst]
    split at ha
    · rename_i n g vs ho hv
      split at ha
      · rename_i a1 a2
        have a1 := of_decide_eq_false a1
        have a2 : i.toNatClampNeg < n := Nat.blt_eq.mp a2
        have ho := cm_ra_spec ho
        cases ha
        intro H locs ls hP hS hls
        refine va_astq hx hb hKn hP.2 (cm_D G σ) hS o kd v ci (cm_ws_at ho) hkd (cm_ws_at (cm_ob_spec hv)) hq (fun z => z.elim a1 (fun z => absurd z (by omega))) hd (fun H1 locs1 hP1 _ hS1 => ?_)
        have e1 : (va_up (fun i => (g i).map (cm_ad G)) i.toNatClampNeg (some (cm_ad G v))) = fun j => (va_up g i.toNatClampNeg (some v) j).map (cm_ad G) := by
          funext j
          unfold va_up
          by_cases hj : j = i.toNatClampNeg
          · rw [if_pos hj, if_pos hj]; rfl
          · rw [if_neg hj, if_neg hj]
        rw [e1] at hP1
        have hP1 : va_P G.2.2.1 classes ((cm_ws G 0 σ).set o (cm_ad G o, cm_ce G (.inr (.inl (kd, n, va_up g i.toNatClampNeg (some v)))))) H1 := hP1
        rw [cm_ws_set ho] at hP1
        exact hk H1 locs1 ls ⟨by rw [List.length_set]; exact hP.1, hP1⟩ hS1 hls
      · cases ha
    · cases ha
  · cases ha
def xAst : cm_A := fun F => match F.2.1 with
  | .int x :: .int i :: .ref o :: r => (match cm_ia F.2.2.1 0 o with
    | some (n, f) => (match decide (i < 0), Nat.blt i.toNatClampNeg n with
      | false, true => some (none, F.1, r, F.2.2.1.set o (.inl (0, n, upd f i.toNatClampNeg x)), F.2.2.2)
      | _, _ => none)
    | none => none)
  | _ => none
theorem x_iast (hd : decode cc pc = .ok (.iastore, 1)) : cm_V G k mc ms cc nL own ii pc 1 xAst := by
  intro p l e R s m args below meth c Q C F j0 F' ha hk
  obtain ⟨⟨hx, hb, hml, hown, hts⟩, ⟨hKn, hFx, hl, hB⟩, ⟨hR1, hR2, hR3, hR4⟩, -⟩ := C
  obtain ⟨f, st, σ, nc, ns⟩ := F
  unfold xAst at ha
  split at ha
  · rename_i x i o r hst
    have hst : st = .int x :: .int i :: .ref o :: r := hst
    rw [hst]
    split at ha
    · rename_i n g ho
      split at ha
      · rename_i a1 a2
        have a1 := of_decide_eq_false a1
        have a2 : i.toNatClampNeg < n := Nat.blt_eq.mp a2
        have ho := cm_ia_spec ho
        cases ha
        intro H locs ls hP hS hls
        refine va_iast hx hb hKn hP.2 (cm_D G σ) hS o 0 (cm_ws_at ho) rfl (fun z => z.elim a1 (fun z => absurd z (by omega))) hd (fun H1 locs1 hP1 _ hS1 => ?_)
        have hP1 : va_P G.2.2.1 classes ((cm_ws G 0 σ).set o (cm_ad G o, cm_ce G (.inl (0, n, upd g i.toNatClampNeg x)))) H1 := hP1
        rw [cm_ws_set ho] at hP1
        exact hk H1 locs1 ls ⟨by rw [List.length_set]; exact hP.1, hP1⟩ hS1 hls
      · cases ha
    · cases ha
  · cases ha
def xAa (kd : Nat) : cm_A := fun F => match F.2.1 with
  | .int i :: .ref o :: r => (match cm_ra F.2.2.1 kd o with
    | some (n, f) => (match decide (i < 0), Nat.blt i.toNatClampNeg n, f i.toNatClampNeg with
      | false, true, some q => some (none, F.1, .ref q :: r, F.2.2)
      | _, _, _ => none)
    | none => none)
  | _ => none
theorem x_aa {kd : Nat} {C0 : String} (hkd : (cm_tys G)[kd]? = some (G.2.2.2 kd, .object C0)) (hd : decode cc pc = .ok (.aaload, 1)) : cm_V G k mc ms cc nL own ii pc 1 (xAa kd) := by
  intro p l e R s m args below meth c Q C F j0 F' ha hk
  obtain ⟨⟨hx, hb, hml, hown, hts⟩, ⟨hKn, hFx, hl, hB⟩, ⟨hR1, hR2, hR3, hR4⟩, -⟩ := C
  obtain ⟨f, st, σ, nc, ns⟩ := F
  unfold xAa at ha
  split at ha
  · rename_i i o r hst
    have hst : st = .int i :: .ref o :: r := hst
    rw [hst]
    split at ha
    · rename_i n g ho
      split at ha
      · rename_i q a1 a2 a3
        have a1 := of_decide_eq_false a1
        have a2 : i.toNatClampNeg < n := Nat.blt_eq.mp a2
        have ho := cm_ra_spec ho
        cases ha
        intro H locs ls hP hS hls
        have hv : va_rf ((fun i => (g i).map (cm_ad G)) i.toNatClampNeg) = am_rz (cm_ad G) (.ref q) := by
          show va_rf ((g i.toNatClampNeg).map (cm_ad G)) = _
          rw [a3]
          rfl
        exact va_aldq hx hb hKn hP.2 o kd (f := fun i => (g i).map (cm_ad G)) (cm_ws_at ho) hkd (fun z => z.elim a1 (fun z => absurd z (by omega))) hd (by rw [hv]; exact hk H locs ls hP hS hls)
      · cases ha
    · cases ha
  · cases ha
def xLen : cm_A := fun F => match F.2.1 with
  | .ref o :: r => (match cm_ia F.2.2.1 0 o with
    | some (n, _) => some (none, F.1, .int (nI n) :: r, F.2.2)
    | none => none)
  | _ => none
theorem x_alen (hd : decode cc pc = .ok (.arraylength, 1)) : cm_V G k mc ms cc nL own ii pc 1 xLen := by
  intro p l e R s m args below meth c Q C F j0 F' ha hk
  obtain ⟨⟨hx, hb, hml, hown, hts⟩, ⟨hKn, hFx, hl, hB⟩, ⟨hR1, hR2, hR3, hR4⟩, -⟩ := C
  obtain ⟨f, st, σ, nc, ns⟩ := F
  unfold xLen at ha
  split at ha
  · rename_i o r hst
    have hst : st = .ref o :: r := hst
    rw [hst]
    split at ha
    · rename_i n g ho
      have ho := cm_ia_spec ho
      cases ha
      intro H locs ls hP hS hls
      exact va_alen hx hb hKn hP.2 o 0 (cm_ws_at ho) (ty := .int) rfl (v := nI n) rfl hd (hk H locs ls hP hS hls)
    · cases ha
  · cases ha
def xObj : cm_A := fun F => match F.2.1 with
  | .ref _ :: r => (match Nat.ble (am_wt r) 8 with
    | true => some (none, F.1, r, F.2.2)
    | false => none)
  | _ => none
theorem x_obj {idx : Nat} (hk1 : 1 ≤ k) (hl : Cond.methodLink own idx Lib.objectInit ∈ am_T) (hi : Cond.instanceMethod Lib.objectInit ∈ am_T) (hc : Cond.code Lib.objectInit ⟨#[0xb1]⟩ 1 none ∈ am_T) (hd : decode cc pc = .ok (.invokespecial idx, 3)) : cm_V G k mc ms cc nL own ii pc 3 xObj := by
  intro p l e R s m args below meth c Q C F j0 F' ha hk
  obtain ⟨⟨hx, hb, hml, hown, hts⟩, ⟨hKn, hFx, -, hB⟩, ⟨hR1, hR2, hR3, hR4⟩, -⟩ := C
  obtain ⟨f, st, σ, nc, ns⟩ := F
  unfold xObj at ha
  split at ha
  · rename_i o r hst
    have hst : st = .ref o :: r := hst
    rw [hst]
    split at ha
    · rename_i hw
      have hw := Nat.ble_eq.mp hw
      cases ha
      intro H locs ls hP hS hls
      refine W.objInit hx hb hown (hts _ hl) (hts _ hi) (hts _ hc) rfl (by rw [hml]; exact hls.2.1) rfl hd (by omega) ?_ (hk H locs ls hP hS hls)
      show 2 * 0 + ((r.map (am_rz (cm_ad G))).map fun v => v.category).sum + 12 ≤ R.locals
      rw [am_wt_eq]
      omega
    · cases ha
  · cases ha
end CMN
