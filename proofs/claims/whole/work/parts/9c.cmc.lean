/-! CONSTRUCTORS: calls -/
def cm_yI (Y : am_Y) (n : Nat) : Prop := am_yB Y n ∧ Cond.instanceMethod Y.1 ∈ am_T ∧ Y.1.name = "<init>"
def xCal (mc ms mc' ms' n : Nat) (g : List Value → cm_S → Option cm_S) : cm_A := fun F => match am_pop n [] F.2.1 with
  | some (av, r) => (match Nat.ble (am_wt r) 8, Nat.ble (F.2.2.2.1 + mc') mc, Nat.ble (F.2.2.2.2 + ms') ms, g av F.2.2.1 with
    | true, true, true, some σ' => (match Nat.beq σ'.length (F.2.2.1.length + mc') with
      | true => some (none, F.1, r, σ', F.2.2.2.1 + mc', F.2.2.2.2 + ms')
      | false => none)
    | _, _, _, _ => none)
  | none => none
def xCalo (mc ms mc' ms' ci n : Nat) (g : List Value → cm_S → Option cm_S) : cm_A := fun F => match am_pop (n + 1) [] F.2.1 with
  | some (.ref o :: _, _) => (match cm_ob F.2.2.1 ci o with
    | some _ => xCal mc ms mc' ms' (n + 1) g F
    | none => none)
  | _ => none
section CMC
variable {G : cm_G} {k mc ms mc' ms' : Nat} {cc : ByteArray} {nL : Nat} {own : String} {ii : Bool} {pc : Nat}
theorem cm_back {p : Program} {l : Launch} {e : Env} {R : Room} {s : State} {m : MethodId} {args : Array Value} {below : List Frame} {meth : Method} {c : Code} {Q : State → Prop} {nc ns : Nat} {H : Heap} {locs : List Loc} {ls : Array Slot} {rest st0 : List Value} {σ' : cm_S} {a : Array Value}
    (hr : va_Run p l e R s m args below meth c H locs nc ns mc' ms' (F0 m pc ls st0) rest (cm_Qc G σ' a) (cm_A0 G)) (hS : va_S (cm_A0 G) s.heap H locs)
    (kk : ∀ (H1 : Heap) (locs1 : List Loc), va_P G.2.2.1 classes (cm_ws G 0 σ') H1 → va_S (cm_A0 G) s.heap H1 locs1 → W p l e R s m args below meth c H1 locs1 (nc + mc') (ns + ms') Q (F0 m (pc + 3) ls rest)) : W p l e R s m args below meth c H locs nc ns Q (F0 m pc ls st0) := by
  intro T hT X
  obtain ⟨v, st₀, t, T', L, h0, X', hL, e1, e2, ⟨hv, hP1, hz, hk⟩, st⟩ := hr T hT X
  cases hv
  rw [h0] at hz hk
  obtain ⟨t2, a1, b1⟩ := kk T'.heap (locs ++ L) (by rw [e1]; exact hP1)
    ⟨Nat.le_trans hS.1 (by rw [e1]; exact hz), fun q h1 h2 => by rw [e1, hk q (Nat.lt_of_lt_of_le h1 hS.1) h2]; exact hS.2.1 q h1 h2, fun q hq => by
      rcases List.mem_append.mp hq with h | h
      · exact hS.2.2 q h
      · exact hL q h⟩ T' rfl X'
  exact ⟨t2, st t2 a1, b1⟩
/-- what a call is given -/
theorem xCal_of {n : Nat} {g : List Value → cm_S → Option cm_S} {f : am_L} {st : List Value} {σ : cm_S} {nc ns : Nat} {j : Option Nat} {F' : cm_F} (h : xCal mc ms mc' ms' n g (f, st, σ, nc, ns) = some (j, F')) :
    ∃ (av r : List Value) (σ' : cm_S), am_pop n [] st = some (av, r) ∧ am_wt r ≤ 8 ∧ nc + mc' ≤ mc ∧ ns + ms' ≤ ms ∧ g av σ = some σ' ∧ σ'.length = σ.length + mc' ∧ j = none ∧ F' = (f, r, σ', nc + mc', ns + ms') := by
  unfold xCal at h
  split at h
  · rename_i av r hp
    split at h
    · rename_i σ' a1 a2 a3 a4
      split at h
      · rename_i a5
        cases h
        exact ⟨av, r, σ', hp, Nat.ble_eq.mp a1, Nat.ble_eq.mp a2, Nat.ble_eq.mp a3, a4, Nat.eq_of_beq_eq_true a5, rfl, rfl⟩
      · cases h
    · cases h
  · cases h
theorem cm_pre {s : State} {σ : cm_S} {H : Heap} (hKn : va_K G.2.2.1 classes (cm_tys G) s) (hFx : cm_Fx s) (hz : H.size = cm_ad G σ.length) (hP : va_P G.2.2.1 classes (cm_ws G 0 σ) H) (av : List Value) : ∀ U : State, U.heap = H → s.WarmedH U.vm → cm_Pc G av σ (av.map (am_rz (cm_ad G))).toArray U := by
  intro U hU hW
  exact ⟨rfl, va_K.moved hW.alike hKn, ⟨by rw [hU]; exact hz, by rw [hU]; exact hP⟩, hFx.warm hW⟩
/-- what a call of an object's method is given -/
theorem xCalo_of {ci n : Nat} {g : List Value → cm_S → Option cm_S} {f : am_L} {st : List Value} {σ : cm_S} {nc ns : Nat} {j : Option Nat} {F' : cm_F} (h : xCalo mc ms mc' ms' ci n g (f, st, σ, nc, ns) = some (j, F')) :
    ∃ (o : Nat) (as r vs : List Value) (σ' : cm_S), as.length = n ∧ st = as.reverse ++ .ref o :: r ∧ cm_ob σ ci o = some vs ∧ am_wt r ≤ 8 ∧ nc + mc' ≤ mc ∧ ns + ms' ≤ ms ∧ g (.ref o :: as) σ = some σ' ∧ σ'.length = σ.length + mc' ∧ j = none ∧ F' = (f, r, σ', nc + mc', ns + ms') := by
  unfold xCalo at h
  split at h
  · rename_i o as r hp
    split at h
    · rename_i vs ho
      obtain ⟨av, r2, σ', hp2, h1, h2, h3, h4, h5, h6, h7⟩ := xCal_of h
      have e := Option.some.inj (hp.symm.trans hp2)
      obtain ⟨rfl, rfl⟩ := Prod.mk.inj e
      obtain ⟨xs, g1, g2, g3⟩ := am_pop_spec _ _ _ _ hp
      simp only [List.append_nil] at g2 g3
      subst g2
      refine ⟨o, as, r, vs, σ', ?_, ?_, ho, h1, h2, h3, h4, h5, h6, h7⟩
      · simp at g1
        exact g1
      · have g3 : st = (Value.ref o :: as).reverse ++ r := g3
        rw [g3]
        simp
    · cases h
  · cases h
theorem cm_rev {st as r : List Value} {o : Nat} (ad : Nat → Nat) (h : st = as.reverse ++ .ref o :: r) : st.map (am_rz ad) = (as.map (am_rz ad)).reverse ++ .ref (ad o) :: r.map (am_rz ad) := by
  rw [h]
  simp [am_rz]
theorem cm_lenW {σ σ' : cm_S} {s : State} {nc : Nat} (h : G.2.1 + σ.length = s.heap.size + nc) (hl : σ'.length = σ.length + mc') : G.2.1 + σ'.length = s.heap.size + (nc + mc') := by omega
/-- a constructor -/
theorem x_init {ci n idx k' : Nat} {Y : am_Y} {g : List Value → cm_S → Option cm_S} (hY : cm_yI Y n) (hr : Y.2.2.2 = none) (hg : ∀ av σ σ', g av σ = some σ' → cm_Ret G k' Y mc' ms' av σ σ') (hk' : k' < k) (hl : Cond.methodLink own idx Y.1 ∈ am_T) (hd : decode cc pc = .ok (.invokespecial idx, 3)) : cm_V G k mc ms cc nL own ii pc 3 (xCalo mc ms mc' ms' ci n g) := by
  intro p l e R s m args below meth c Q C F j F' ha hk
  obtain ⟨⟨hx, hb, hml, hown, hts⟩, ⟨hKn, hFx, hle, hB⟩, ⟨hR1, hR2, hR3, hR4⟩, -⟩ := C
  subst hle
  obtain ⟨f, st, σ, nc, ns⟩ := F
  obtain ⟨o, as, r, vs, σ', hn, hst, ho, hw, h1, h2, hgs, hlen, rfl, rfl⟩ := xCalo_of ha
  intro H locs ls hP hS hls
  refine cm_size hP hS hB (fun hz => ?_)
  have hM := hg _ _ _ hgs
  obtain ⟨hBB, hins, hnm⟩ := hY
  unfold cm_Ret at hM
  rw [hr] at hM
  have hB2 : ∀ w ∈ Cond.code Y.1 Y.2.1 Y.2.2.1 none :: am_T, w ∈ am_T := fun w hw => hBB.ws w (by rw [hr]; exact hw)
  refine cm_back (va_runI (Ts := am_T) (own := own) (b := cm_ad G o) (As := as.map (am_rz (cm_ad G))) (rest := r.map (am_rz (cm_ad G))) ⟨hx, hb, hml, hown, hts⟩ hM
    (cwI n hts (tb_goodIn hB2) rfl rfl rfl (hts _ hBB.1) (hts _ hl) (hts _ hins) hnm hBB.2.2.1 ⟨?_, ?_⟩) ⟨cm_Pc_blind _ _ _, cm_pre hKn hFx hz hP.2 (.ref o :: as)⟩ rfl (by rw [List.length_map]; exact hn) hls.2.1 (cm_rev _ hst) (lv_room ?_) hd ⟨Nat.le_trans h1 hR3, Nat.le_trans h2 hR4⟩) hS
    (fun H1 locs1 hP1 hS1 => hk H1 locs1 ls ⟨cm_lenW hP.1 hlen, hP1⟩ hS1 hls)
  · show k' + 1 ≤ R.frames
    omega
  · have := hBB.2.2.2
    show 8 + (Y.2.2.1 + 11) + (100 * k' + 100) ≤ R.locals
    omega
  · rw [am_wt_eq]; exact hw
/-- .. of a nest mate, private -/
theorem x_initN {ci n idx k' : Nat} {host : String} {Y : am_Y} {g : List Value → cm_S → Option cm_S} (hY : cm_yI Y n) (hr : Y.2.2.2 = none) (hg : ∀ av σ σ', g av σ = some σ' → cm_Ret G k' Y mc' ms' av σ σ') (hk' : k' < k) (hl : (own, idx, Y.1, host) ∈ am_nest) (hd : decode cc pc = .ok (.invokespecial idx, 3)) : cm_V G k mc ms cc nL own ii pc 3 (xCalo mc ms mc' ms' ci n g) := by
  intro p l e R s m args below meth c Q C F j F' ha hk
  obtain ⟨⟨hx, hb, hml, hown, hts⟩, ⟨hKn, hFx, hle, hB⟩, ⟨hR1, hR2, hR3, hR4⟩, -⟩ := C
  subst hle
  obtain ⟨f, st, σ, nc, ns⟩ := F
  obtain ⟨o, as, r, vs, σ', hn, hst, ho, hw, h1, h2, hgs, hlen, rfl, rfl⟩ := xCalo_of ha
  intro H locs ls hP hS hls
  refine cm_size hP hS hB (fun hz => ?_)
  have hM := hg _ _ _ hgs
  obtain ⟨hBB, hins, hnm⟩ := hY
  unfold cm_Ret at hM
  rw [hr] at hM
  have hB2 : ∀ w ∈ Cond.code Y.1 Y.2.1 Y.2.2.1 none :: am_T, w ∈ am_T := fun w hw => hBB.ws w (by rw [hr]; exact hw)
  refine cm_back (va_runIN (Ts := am_T) (own := own) (host := host) (b := cm_ad G o) (As := as.map (am_rz (cm_ad G))) (rest := r.map (am_rz (cm_ad G))) ⟨hx, hb, hml, hown, hts⟩ hM
    ⟨va_cnB n hts (tb_goodIn hB2) rfl rfl rfl (hFx.2 _ hl) (hts _ hBB.1) hBB.2.2.1 ⟨?_, ?_⟩, hnm, hts _ hins⟩ ⟨cm_Pc_blind _ _ _, cm_pre hKn hFx hz hP.2 (.ref o :: as)⟩ rfl (by rw [List.length_map]; exact hn) hls.2.1 (cm_rev _ hst) (lv_room ?_) hd ⟨Nat.le_trans h1 hR3, Nat.le_trans h2 hR4⟩) hS
    (fun H1 locs1 hP1 hS1 => hk H1 locs1 ls ⟨cm_lenW hP.1 hlen, hP1⟩ hS1 hls)
  · show k' + 1 ≤ R.frames
    omega
  · have := hBB.2.2.2
    show 8 + (Y.2.2.1 + 11) + (100 * k' + 100) ≤ R.locals
    omega
  · rw [am_wt_eq]; exact hw
theorem x_virt {ci n idx k' : Nat} {Y : am_Y} {q : vw_C} {g : List Value → cm_S → Option cm_S} (hY : am_yV Y n) (hg : ∀ av σ σ', g av σ = some σ' → cm_Ret G k' Y mc' ms' av σ σ') (hk' : k' < k) (hq : classes[ci]? = some q) (hcl : q.1 = Y.1.cls) (hl : Cond.methodLink own idx Y.1 ∈ am_T) (hd : decode cc pc = .ok (.invokevirtual idx, 3)) : cm_V G k mc ms cc nL own ii pc 3 (xCalo mc ms mc' ms' ci n g) := by
  intro p l e R s m args below meth c Q C F j F' ha hk
  obtain ⟨⟨hx, hb, hml, hown, hts⟩, ⟨hKn, hFx, hle, hB⟩, ⟨hR1, hR2, hR3, hR4⟩, -⟩ := C
  subst hle
  obtain ⟨f, st, σ, nc, ns⟩ := F
  obtain ⟨o, as, r, vs, σ', hn, hst, ho, hw, h1, h2, hgs, hlen, rfl, rfl⟩ := xCalo_of ha
  intro H locs ls hP hS hls
  refine cm_size hP hS hB (fun hz => ?_)
  have hM := hg _ _ _ hgs
  have he := cm_ws_at (G := G) (cm_ob_spec ho)
  have hrecv := va_recv hKn hP.2 hq (fs := vs.map (am_rz (cm_ad G))) he
  rw [hcl] at hrecv
  obtain ⟨hBB, hins, hsel⟩ := hY
  refine cm_back (va_runV (Ts := am_T) (own := own) (C := Y.1.cls) (b := cm_ad G o) (As := as.map (am_rz (cm_ad G))) (rest := r.map (am_rz (cm_ad G))) ⟨hx, hb, hml, hown, hts⟩ hM
    (cwV n hts (tb_goodIn (fun w hw => ?_)) rfl rfl rfl ⟨rfl, hBB.2.2.1⟩ ⟨?_, ?_⟩) ⟨cm_Pc_blind _ _ _, hrecv, cm_pre hKn hFx hz hP.2 (.ref o :: as)⟩ rfl (by rw [List.length_map]; exact hn) hls.2.1 (cm_rev _ hst) (lv_room ?_) hd ⟨Nat.le_trans h1 hR3, Nat.le_trans h2 hR4⟩) hS
    (fun H1 locs1 hP1 hS1 => hk H1 locs1 ls ⟨cm_lenW hP.1 hlen, hP1⟩ hS1 hls)
  · unfold wsV at hw
    rcases List.mem_append.mp hw with h | h
    · simp only [List.mem_cons, List.not_mem_nil, or_false] at h
      rcases h with e | e | e | e
      · rw [e]; exact hl
      · rw [e]; exact hins
      · rw [e]; exact hsel
      · rw [e]; exact hBB.1
    · exact hBB.ws w h
  · show k' + 1 ≤ R.frames
    omega
  · have := hBB.2.2.2
    show 8 + (Y.2.2.1 + 11) + (100 * k' + 100) ≤ R.locals
    omega
  · rw [am_wt_eq]; exact hw
theorem x_stat {n idx k' : Nat} {Y : am_Y} {g : List Value → cm_S → Option cm_S} (hY : am_yS Y n) (hg : ∀ av σ σ', g av σ = some σ' → cm_Ret G k' Y mc' ms' av σ σ') (hk' : k' < k) (hl : Cond.methodLink own idx Y.1 ∈ am_T) (hd : decode cc pc = .ok (.invokestatic idx, 3)) : cm_V G k mc ms cc nL own ii pc 3 (xCal mc ms mc' ms' n g) := by
  intro p l e R s m args below meth c Q C F j F' ha hk
  obtain ⟨⟨hx, hb, hml, hown, hts⟩, ⟨hKn, hFx, hle, hB⟩, ⟨hR1, hR2, hR3, hR4⟩, -⟩ := C
  subst hle
  obtain ⟨f, st, σ, nc, ns⟩ := F
  obtain ⟨av, r, σ', hp, hw, h1, h2, hgs, hlen, rfl, rfl⟩ := xCal_of ha
  obtain ⟨xs, g1, g2, g3⟩ := am_pop_spec _ _ _ _ hp
  simp only [List.append_nil] at g2 g3
  subst g2
  have hst : st.map (am_rz (cm_ad G)) = (av.map (am_rz (cm_ad G))).reverse ++ r.map (am_rz (cm_ad G)) := by
    rw [g3]
    simp
  intro H locs ls hP hS hls
  refine cm_size hP hS hB (fun hz => ?_)
  have hM := hg _ _ _ hgs
  obtain ⟨hBB, hsta⟩ := hY
  refine cm_back (va_runS (Ts := am_T) (own := own) (As := av.map (am_rz (cm_ad G))) (rest := r.map (am_rz (cm_ad G))) ⟨hx, hb, hml, hown, hts⟩ hM
    (va_cwS n hts (tb_goodIn (fun w hw => ?_)) rfl rfl rfl hBB.2.2.1 ⟨?_, ?_⟩) ⟨cm_Pc_blind _ _ _, cm_pre hKn hFx hz hP.2 av⟩ rfl (by rw [List.length_map]; exact g1) hls.2.1 hst (lv_room ?_) hd ⟨Nat.le_trans h1 hR3, Nat.le_trans h2 hR4⟩) hS
    (fun H1 locs1 hP1 hS1 => hk H1 locs1 ls ⟨cm_lenW hP.1 hlen, hP1⟩ hS1 hls)
  · unfold va_wsS at hw
    rcases List.mem_append.mp hw with h | h
    · simp only [List.mem_cons, List.not_mem_nil, or_false] at h
      rcases h with e | e | e
      · rw [e]; exact hl
      · rw [e]; exact hsta
      · rw [e]; exact hBB.1
    · exact hBB.ws w h
  · show k' + 1 ≤ R.frames
    omega
  · have := hBB.2.2.2
    show 8 + (Y.2.2.1 + 11) + (100 * k' + 100) ≤ R.locals
    omega
  · rw [am_wt_eq]; exact hw
end CMC
