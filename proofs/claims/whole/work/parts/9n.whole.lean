/-! THE CLAIM OUT OF ONE WALK OF THE LAW'S BODY. Your part is whole_start (and what it stands on); all else here is the same for every law, but numbers. -/
def R_law : String := "TwoCampsLaw"
def lw_P (b : Addr) (xs : List Int32) (args : Array Value) (s : State) : Prop := args = #[.ref b] ∧ s.IntsAt b xs ∧ xs.length ≤ 3072 ∧ (Jvm.Cond.and given_1 narrow_1).before args s = true
def lw_Q (_ : Array Value) (s : State) (o : Outcome) (t : State) : Prop := o = .returned (some (.int 1)) ∧ Framed s o t [] 600000 7302250
def lw_Z (below : List Frame) (a : Array Value) (s : State) : State → Prop := fun t => ∃ o, t.status = .running ∧ Ended t below o ∧ lw_Q a s o t
/-- the law's own end, with 1 on the stack, nothing written that was there before, its room as the claim has it -/
theorem lw_ret {p : Program} {l : Launch} {e : Env} {s : State} {m : MethodId} {below : List Frame} {meth : Method} {c : Code} {b : Nat} (hx : p.tables.exec = Jvm.exec) (hb : c.code = code) (hr : meth.sig.returnType = ret) (hlocks : meth.locks = false) {pc : Nat} {H : Heap} {ls : Array Slot} (hdg : decode code pc = .ok (.ireturn, 1)) : W p l e room_1 s m #[Value.ref b] below meth c H [] 600000 7302250 (lw_Z below #[Value.ref b] s) (F0 m pc ls [.int 1]) := by
  intro T hT X
  obtain ⟨fs, hret, hrun, hended, hW, hframe⟩ := X.leave (v := some (.int 1)) (hlocks := hlocks) (fun h => by rw [hr] at h; cases h)
  have hmeth' : T.vm.method? m = some meth := X.method'
  refine ⟨T.setFrames fs, ?_, .returned (some (.int 1)), hrun, hended, rfl, ⟨_, rfl⟩, hW, hframe⟩
  jvm_step X.here [X.here.top, hx, hb, hdg, hmeth', hr, ret, narrow_b1]
  (try refine ⟨rfl, ?_⟩); (try refine ⟨rfl, ?_⟩)
  first | (intro acts; rw [hret _ acts rfl rfl rfl]) | rw [hret _ _ rfl rfl rfl]
  exact Steps.refl _
/-- what holds at the law's entry: the machine, the code, the tables' words (any of lw_tbl by 'hts w (by decide +kernel)'), the script of L ints xs at the cell b, what the Statement gives of the start (any of its parts by flat_of_before) -/
def lw_At (p : Program) (s : State) (m : MethodId) (meth : Method) (c : Code) (b L : Nat) (xs : Nat → Int32) : Prop :=
  p.tables.exec = Jvm.exec ∧ c.code = code ∧ meth.sig.returnType = ret ∧ c.maxLocals = 4 ∧ s.vm.findClass R_law = some m.cls ∧ (∀ w ∈ lw_tbl, w.before #[Value.ref b] s = true) ∧ va_X b L xs s s.heap ∧ b < s.heap.size ∧ meth.locks = false ∧ (Jvm.Cond.and given_1 narrow_1).before #[Value.ref b] s = true
theorem lw_res {p : Program} {l : Launch} {e : Env} {s : State} {m : MethodId} {below : List Frame} {meth : Method} {c : Code} {b L : Nat} {xs : Nat → Int32} {E : am_E} (eA : ∀ q, am_Ad E q → s.heap.size ≤ q) (hE1 : E.1 = l) (hx : p.tables.exec = Jvm.exec) (hb : c.code = code) (hr : meth.sig.returnType = ret) (hml : c.maxLocals = 4) (hown : s.vm.findClass "TwoCampsLaw" = some m.cls) (hlocks : meth.locks = false) (hts : ∀ w ∈ am_T, w.before #[Value.ref b] s = true) (hKE : va_K E.2.2.1 classes (am_tys E) s) (hFx : am_Fx E s s.heap) (zi : am_inj E) (X : lw_X E b L xs s) (hL : L ≤ 3072)
    {H : Heap} {ls : Array Slot} (hP : va_P E.2.2.1 classes (am_wd E ex 0) H) (hS : va_S (am_Ad E) s.heap H []) (hls : am_ls E.2.1 4 ls (lwF 0)) : W p l e room_1 s m #[Value.ref b] below meth c H [] 600000 7302250 (lw_Z below #[Value.ref b] s) (F0 m 18 ls []) := by
  have C : am_Ctx E 100 p l e room_1 s m #[Value.ref b] below meth c (lw_Z below #[Value.ref b] s) 600000 7302250 code 4 "TwoCampsLaw" (fun _ st _ _ => st = [.int 1]) := by
    refine ⟨⟨hx, hb, hml, hown, hts⟩, ⟨hKE, hFx, zi, hE1⟩, ⟨by decide, by decide, by decide, by decide⟩, ?_⟩
    intro i f st I w pc H locs ls hp hi hd hP hS
    have hp : st = [.int 1] := hp
    subst hp
    rcases hi with ⟨rfl, -⟩ | ⟨-, v, hv⟩ | ⟨-, hv⟩
    · refine va_forget (fun q hq => eA _ (hS.2.2 q hq)) ?_
      exact lw_ret hx hb hr hlocks hd
    · cases hv
    · cases hv
  have hok := lw_pv_ok C X _ (pv_LAW E 100 L xs)
  exact lw_loop zi (by decide : 60 < 100) hok hL 0 (Nat.zero_le _) A0 ex 0 z0_W z0_C z0_R H [] ls hP hS hls
theorem d_L0 : decode code 0 = .ok (.new 7, 3) := by decide +kernel
theorem d_L3 : decode code 3 = .ok (.dup, 1) := by decide +kernel
theorem d_L4 : decode code 4 = .ok (.invokespecial 9, 3) := by decide +kernel
theorem d_L7 : decode code 7 = .ok (.astore_n 1, 1) := by decide +kernel
theorem d_L8 : decode code 8 = .ok (.new 10, 3) := by decide +kernel
theorem d_L11 : decode code 11 = .ok (.dup, 1) := by decide +kernel
theorem d_L12 : decode code 12 = .ok (.invokespecial 12, 3) := by decide +kernel
theorem d_L15 : decode code 15 = .ok (.astore_n 2, 1) := by decide +kernel
theorem d_L16 : decode code 16 = .ok (.iconst 0, 1) := by decide +kernel
theorem d_L17 : decode code 17 = .ok (.istore_n 3, 1) := by decide +kernel
set_option maxHeartbeats 4000000 in
set_option maxRecDepth 40000 in
/-- YOUR PART: from the entry, for every script of at most 3072 ints, the law comes to its end with true ('hflags': the launch's flags, for a law that throws: no stack traces) -/
theorem whole_start {p : Program} {e : Env} {s : State} {m : MethodId} {below : List Frame} {meth : Method} {c : Code} (l : Launch) (hflags : l.flags = flags0) {b L : Nat} {xs : Nat → Int32} (hL : L ≤ 3072) (C0 : lw_At p s m meth c b L xs) : W p l e room_1 s m #[Value.ref b] below meth c s.heap [] 0 0 (lw_Z below #[Value.ref b] s) (entryFrame m ([Value.ref b] : List Value).toArray 4) := by
  obtain ⟨hx, hb, hr, hml, hown, htb, hX, hbl, hlocks, hgv⟩ := C0
  have hown : s.vm.findClass "TwoCampsLaw" = some m.cls := hown
  have hts : ∀ w ∈ am_T, w.before #[Value.ref b] s = true := fun w hw => htb w (am_T_in hw)
  have ht1 : ∀ w ∈ tables_1, w.before #[Value.ref b] s = true := fun w hw => htb w (List.mem_append_right _ hw)
  have hg : ∀ w ∈ pm_T, w.before #[Value.ref b] s = true := flat_of_before _ hgv
  obtain ⟨tU, tR, tF, adK, adV, hSt⟩ := lw_stat hg ht1 (A := fun q => s.heap.size ≤ q) (fun a h1 h2 => absurd h1 (Nat.not_lt.mpr h2))
  obtain ⟨D, dA, hK⟩ := lw_kn ht1 hts
  obtain ⟨E, hE⟩ : ∃ E : am_E, E = (l, lw_ad s.heap.size b tU tR tF adK adV, D, dA) := ⟨_, rfl⟩
  obtain ⟨G, hG⟩ : ∃ G : cm_G, G = (l, s.heap.size, D, dA) := ⟨_, rfl⟩
  have eA : E.2.1 = lw_ad s.heap.size b tU tR tF adK adV := by rw [hE]
  have zi : am_inj E := lw_inj eA
  have hFx := lw_Fx eA hSt
  have had : ∀ k, k < 117 → E.2.1 k = cm_ad G k := fun k hk => by rw [eA, lw_ad0 hk, hG]; rfl
  have e200 : E.2.1 200 = b := by rw [eA]; rfl
  have hKG : va_K G.2.2.1 classes (cm_tys G) s := by rw [hG]; exact hK
  have hKE : va_K E.2.2.1 classes (am_tys E) s := by rw [hE]; exact hK
  have hcF : cm_Fx s := ⟨lw_over ht1, hFx.2.2.2.2.2⟩
  have hB0 : G.2.1 = s.heap.size := by rw [hG]
  have hD : E.2.2.1 = G.2.2.1 := by rw [hE, hG]
  have hDA : E.2.2.2 = G.2.2.2 := by rw [hE, hG]
  have hE1 : E.1 = l := by rw [hE]
  have hG1 : G.1 = l := by rw [hG]
  have X : lw_X E b L xs s := ⟨e200, hX, hbl, fun h => absurd hbl (Nat.not_lt.mpr (lw_Ad eA h))⟩
  have hA : ∀ q, am_Ad E q → s.heap.size ≤ q := fun q => lw_Ad eA
  obtain ⟨k1, k2, k3, k4, k5⟩ := st_all
  clear hE hG hSt hgv htb hg
  subst hG1
  have ha0 : s.heap.size = cm_ad G 0 := by unfold cm_ad; rw [hB0]; rfl
  have hl := lv_entry ([.ref b]) (n := 4) (Nat.le_of_ble_eq_true rfl)
  rw [lg_entry_eq]
  generalize (lg_sl ([.ref b]) ++ List.replicate (4 - (lg_sl ([.ref b])).length) Slot.unset).toArray = ls at hl ⊢
  have hl : lv_has ls 4 [(0, .ref b)] := hl
  have hls : am_ls E.2.1 4 ls [some (.ref 200), none, none, none] := ⟨rfl, by
    show lv_has ls 4 [(0, .ref (E.2.1 200))]
    rw [e200]
    exact hl⟩
  have hu0 := hKG.1 0 ("TwoCamps", kF0, 16) rfl
  have hu12 := hKG.1 12 ("TwoCampsModel", kF12, 53) rfl
  refine W.newcK (own := "TwoCampsLaw") (C := "TwoCamps") hx hb hown (hts (.classLink "TwoCampsLaw" 7 "TwoCamps") (tb1 22 (by decide +kernel) rfl)) (hts (.instantiable "TwoCamps" 16) (tb1 23 (by decide +kernel) rfl)) (hts (.initialized "TwoCamps") (tb1 1 (by decide +kernel) rfl)) rfl d_L0 (Nat.le_of_ble_eq_true rfl) (Nat.le_of_ble_eq_true rfl) hu0.2.1 ha0 (fun H1 kC hkC e1 z1 o1 => ?_)
  have o1 : ∀ q, q < s.heap.size → H1[q]? = s.heap[q]? := fun q hq => o1 q (by omega)
  have hP1 : va_P G.2.2.1 classes (cm_ws G 0 st0) H1 := cm_push (σ := []) (H := s.heap) (fun k q h => by cases h) o1 ⟨_, rfl, (u_born (kT 0) hts (k_all (ci := 0) rfl).1 hu0 hkC e1 (k_all (ci := 0) rfl).2.2).to (fun j hj => cm_df_ok (cm_ad G) hj)⟩
  have hS1 : va_S (cm_A0 G) s.heap H1 [] := cm_grow va_S.rf (by omega) o1
  have hz1 : H1.size = cm_ad G st0.length := by
    rw [z1]
    rfl
  refine lv_dup hx hb d_L3 rfl ?_
  have hM1 := cr_TC_init G (k := 3) (by decide) [.ref 0] st0 st1 k1
  unfold cm_Ret at hM1
  refine cm_back (va_runI (Ts := am_T) (own := "TwoCampsLaw") (b := cm_ad G 0) (As := []) (rest := [.ref (cm_ad G 0)]) ⟨hx, hb, hml, hown, hts⟩ hM1
    (cwI 0 hts (tb_goodIn yi_TC_init.1.ws) rfl rfl rfl (hts _ yi_TC_init.1.1) (hts _ (tb1 24 (by decide +kernel) rfl)) (hts _ yi_TC_init.2.1) yi_TC_init.2.2 yi_TC_init.1.2.2.1 ⟨Nat.le_of_ble_eq_true rfl, Nat.le_of_ble_eq_true rfl⟩) ⟨cm_Pc_blind _ _ _, cm_pre hKG hcF hz1 hP1 [.ref 0]⟩ rfl rfl hls.2.1 rfl (lv_room (Nat.le_of_ble_eq_true rfl)) d_L4 ⟨Nat.le_of_ble_eq_true rfl, Nat.le_of_ble_eq_true rfl⟩) hS1 (fun H2 locs2 hP2 hS2 => ?_)
  rw [← had 0 (by decide)]
  refine lv_astore_n (i := 1) hx hb d_L7 rfl hls.2 (by decide) rfl (fun ls1 h1 => ?_)
  have hls1 : am_ls E.2.1 4 ls1 [some (.ref 200), some (.ref 0), none, none] := hls.st1 (v := .ref 0) h1
  refine cm_size (σ := st1) ⟨by rw [k3, hB0], hP2⟩ hS2 (Nat.le_of_eq hB0) (fun hz2 => ?_)
  refine W.newcK (own := "TwoCampsLaw") (C := "TwoCampsModel") hx hb hown (hts (.classLink "TwoCampsLaw" 10 "TwoCampsModel") (tb5 159 (by decide +kernel) rfl)) (hts (.instantiable "TwoCampsModel" 53) (tb5 160 (by decide +kernel) rfl)) (hts (.initialized "TwoCampsModel") (tb1 14 (by decide +kernel) rfl)) rfl d_L8 (Nat.le_of_ble_eq_true rfl) (Nat.le_of_ble_eq_true rfl) hu12.2.1 hz2 (fun H3 kC3 hkC3 e3 z3 o3 => ?_)
  have o3 : ∀ q, q < H2.size → H3[q]? = H2[q]? := fun q hq => o3 q (by omega)
  have hP3 : va_P G.2.2.1 classes (cm_ws G 0 st1n) H3 := cm_push (σ := st1) hP2 o3 ⟨_, rfl, (u_born (kT 12) hts (k_all (ci := 12) rfl).1 hu12 hkC3 e3 (k_all (ci := 12) rfl).2.2).to (fun j hj => cm_df_ok (cm_ad G) hj)⟩
  have hS3 : va_S (cm_A0 G) s.heap H3 locs2 := cm_grow hS2 (by omega) o3
  have k6 : st1n.length = 89 := by
    unfold st1n
    rw [List.length_append, k3]
    rfl
  have hz3 : H3.size = cm_ad G st1n.length := by
    rw [k6, z3, k3]
    rfl
  rw [k3]
  refine lv_dup hx hb d_L11 rfl ?_
  have hM2 := cr_MO_init G (k := 3) (by decide) [.ref 88] st1n st2 k2
  unfold cm_Ret at hM2
  refine cm_back (va_runI (Ts := am_T) (own := "TwoCampsLaw") (b := cm_ad G 88) (As := []) (rest := [.ref (cm_ad G 88)]) ⟨hx, hb, hml, hown, hts⟩ hM2
    (cwI 0 hts (tb_goodIn yi_MO_init.1.ws) rfl rfl rfl (hts _ yi_MO_init.1.1) (hts _ (tb5 161 (by decide +kernel) rfl)) (hts _ yi_MO_init.2.1) yi_MO_init.2.2 yi_MO_init.1.2.2.1 ⟨Nat.le_of_ble_eq_true rfl, Nat.le_of_ble_eq_true rfl⟩) ⟨cm_Pc_blind _ _ _, cm_pre hKG hcF hz3 hP3 [.ref 88]⟩ rfl rfl hls1.2.1 rfl (lv_room (Nat.le_of_ble_eq_true rfl)) d_L12 ⟨Nat.le_of_ble_eq_true rfl, Nat.le_of_ble_eq_true rfl⟩) hS3 (fun H4 locs4 hP4 hS4 => ?_)
  rw [← had 88 (by decide)]
  refine lv_astore_n (i := 2) hx hb d_L15 rfl hls1.2 (by decide) rfl (fun ls2 h2 => ?_)
  have hls2 : am_ls E.2.1 4 ls2 [some (.ref 200), some (.ref 0), some (.ref 88), none] := hls1.st1 (v := .ref 88) h2
  refine lv_iconst (v := 0) hx hb d_L16 (by decide) ?_
  refine lv_istore_n (i := 3) hx hb d_L17 rfl hls2.2 (by decide) rfl (fun ls3 h3 => ?_)
  have hls3 : am_ls E.2.1 4 ls3 (lwF 0) := hls2.st1 (v := .int 0) h3
  refine W.widen (k := 600000) (n := 7302250) (Nat.le_of_ble_eq_true rfl) (Nat.le_of_ble_eq_true rfl) ?_
  refine va_forget (fun q hq => ?_) ?_
  · have h : G.2.1 ≤ q.base := hS4.2.2 q hq
    omega
  · refine lw_res hA hE1 hx hb hr hml hown hlocks hts hKE hFx zi X hL (cm_to_am hD hDA had k5 hP4) ⟨hS4.1, fun q h1 _ => hS4.2.1 q h1 (fun h => ?_), fun q hq => by cases hq⟩ hls3
    have h : G.2.1 ≤ q := h
    omega
