/-! CONSTRUCTORS: a machine of closed runs; the cells come one behind another, at the end of the heap -/
abbrev cm_C : Type := (Nat × Nat × (Nat → Int32)) ⊕ ((Nat × Nat × (Nat → Option Nat)) ⊕ (Nat × List Value))
abbrev cm_S : Type := List cm_C
/-- locals, stack, cells; how many cells and slots came -/
abbrev cm_F : Type := am_L × List Value × cm_S × Nat × Nat
abbrev cm_A : Type := cm_F → Option (Option Nat × cm_F)
abbrev cm_G : Type := Launch × Nat × va_G × (Nat → ClassId)
def cm_ad (G : cm_G) (k : Nat) : Nat := G.2.1 + k
def cm_ce (G : cm_G) : cm_C → va_E
  | .inl (kd, n, f) => .inl (G.2.2.2 kd, n, .inl f)
  | .inr (.inl (kd, n, f)) => .inl (G.2.2.2 kd, n, .inr (.inr (.inr (.inr (fun i => (f i).map (cm_ad G))))))
  | .inr (.inr (ci, vs)) => .inr (ci, vs.map (am_rz (cm_ad G)))
def cm_ws (G : cm_G) : Nat → cm_S → va_W
  | _, [] => []
  | b, c :: r => (cm_ad G b, cm_ce G c) :: cm_ws G (b + 1) r
theorem cm_ws_get (G : cm_G) : ∀ (σ : cm_S) (b k : Nat), (cm_ws G b σ)[k]? = (σ[k]?).map (fun c => (cm_ad G (b + k), cm_ce G c))
  | [], b, k => by simp [cm_ws]
  | c :: r, b, 0 => by simp [cm_ws]
  | c :: r, b, k + 1 => by
    rw [cm_ws, List.getElem?_cons_succ, List.getElem?_cons_succ, cm_ws_get G r (b + 1) k]
    rw [show b + 1 + k = b + (k + 1) by omega]
theorem cm_ws_len (G : cm_G) : ∀ (σ : cm_S) (b : Nat), (cm_ws G b σ).length = σ.length
  | [], b => rfl
  | c :: r, b => by rw [cm_ws, List.length_cons, List.length_cons, cm_ws_len G r (b + 1)]
theorem cm_ws_at {G : cm_G} {σ : cm_S} {k : Nat} {c : cm_C} (h : σ[k]? = some c) : (cm_ws G 0 σ)[k]? = some (cm_ad G k, cm_ce G c) := by
  rw [cm_ws_get, h, Nat.zero_add]
  rfl
theorem cm_ws_app {G : cm_G} {σ : cm_S} {c : cm_C} : cm_ws G 0 σ ++ [(cm_ad G σ.length, cm_ce G c)] = cm_ws G 0 (σ ++ [c]) := by
  apply List.ext_getElem?
  intro j
  rw [cm_ws_get]
  by_cases h : j < σ.length
  · rw [List.getElem?_append_left (by rw [cm_ws_len]; exact h), List.getElem?_append_left h, cm_ws_get]
  · rw [List.getElem?_append_right (by rw [cm_ws_len]; omega), List.getElem?_append_right (by omega), cm_ws_len]
    by_cases h2 : j - σ.length = 0
    · rw [h2, show j = σ.length by omega, Nat.zero_add]
      rfl
    · rw [List.getElem?_eq_none (by simp; omega), List.getElem?_eq_none (by simp; omega)]
      rfl
theorem cm_ws_set {G : cm_G} {σ : cm_S} {k : Nat} {c0 c : cm_C} (h : σ[k]? = some c0) : (cm_ws G 0 σ).set k (cm_ad G k, cm_ce G c) = cm_ws G 0 (σ.set k c) := by
  have hk := (List.getElem?_eq_some_iff.mp h).1
  apply List.ext_getElem?
  intro j
  rw [cm_ws_get]
  by_cases e : j = k
  · subst e
    rw [List.getElem?_set_self (by rw [cm_ws_len]; exact hk), List.getElem?_set_self hk, Nat.zero_add]
    rfl
  · rw [List.getElem?_set_ne (Ne.symm e), List.getElem?_set_ne (Ne.symm e), cm_ws_get]
def cm_A0 (G : cm_G) : Nat → Prop := fun q => G.2.1 ≤ q
theorem cm_D (G : cm_G) (σ : cm_S) : va_D (cm_A0 G) (cm_ws G 0 σ) := by
  have key : ∀ (i : Nat) (p : Nat × va_E), (cm_ws G 0 σ)[i]? = some p → p.1 = G.2.1 + i := fun i p h => by
    rw [cm_ws_get] at h
    cases hs : σ[i]? with
    | none => rw [hs] at h; cases h
    | some c =>
      rw [hs] at h
      simp only [Option.map_some, Nat.zero_add, Option.some.injEq] at h
      rw [← h]
      rfl
  refine ⟨fun i j p q h1 h2 e => ?_, fun i q h => ?_⟩
  · rw [key i p h1, key j q h2] at e
    omega
  · show G.2.1 ≤ q.1
    rw [key i q h]
    omega
def cm_W (G : cm_G) (σ : cm_S) (H : Heap) : Prop := H.size = G.2.1 + σ.length ∧ va_P G.2.2.1 classes (cm_ws G 0 σ) H
def cm_tys (G : cm_G) : List (ClassId × FieldType) := [(G.2.2.2 0, .int), (G.2.2.2 1, .boolean), (G.2.2.2 2, .object "TwoCamps$Camping"), (G.2.2.2 3, .object "TwoCamps$Text"), (G.2.2.2 4, .object "TwoCamps$Sheet")]
def cm_el : List String := ["TwoCamps$Camping", "TwoCamps$Text", "TwoCamps$Sheet"]
def cm_Fx (U : State) : Prop := (∀ C ∈ cm_el, va_AO C U) ∧ ∀ q ∈ am_nest, va_Nw (.methodLinkNest q.1 q.2.1 q.2.2.1 q.2.2.2) U
theorem cm_Fx.warm {u U : State} (hW : u.WarmedH U.vm) (h : cm_Fx u) : cm_Fx U := ⟨fun C hC => (h.1 C hC).moved hW.alike, fun q hq => va_Nw.warmM hW (h.2 q hq)⟩
theorem cm_Fx.same {u U : State} (hv : U.vm = u.vm) (h : cm_Fx u) : cm_Fx U := by
  have hv' : u.vm.Alike U.vm := by rw [hv]; exact Vm.Alike.refl _
  exact ⟨fun C hC => (h.1 C hC).moved hv', fun q hq => va_Nw.same rfl hv.symm (h.2 q hq)⟩
def cm_rm (k mc ms : Nat) : Room := { frames := k, cells := mc, slots := ms, locals := 100 * k + 100 }
def cm_Pc (G : cm_G) (av : List Value) (σ : cm_S) : Array Value → State → Prop := fun v U =>
  v = (av.map (am_rz (cm_ad G))).toArray ∧ va_K G.2.2.1 classes (cm_tys G) U ∧ cm_W G σ U.heap ∧ cm_Fx U
def cm_Qc (G : cm_G) (σ' : cm_S) : Array Value → State → Outcome → State → Prop := fun _ st o t => o = .returned none ∧ va_P G.2.2.1 classes (cm_ws G 0 σ') t.heap ∧ va_F (cm_A0 G) st t
def cm_Ret (G : cm_G) (k : Nat) (Y : am_Y) (mc ms : Nat) (av : List Value) (σ σ' : cm_S) : Prop :=
  Met G.1 Y.1 (Cond.code Y.1 Y.2.1 Y.2.2.1 Y.2.2.2 :: am_T) (cm_rm k mc ms) (cm_Pc G av σ) (cm_Qc G σ') mc ms (cm_A0 G)
theorem cm_Pc_blind (G : cm_G) (av : List Value) (σ : cm_S) : FrameBlind (cm_Pc G av σ) := by
  intro a U g mk h
  obtain ⟨h1, h2, h3, h4⟩ := h
  exact ⟨h1, va_K.moved (u := U) (U := U.calling g mk a) (Vm.Alike.refl U.vm) h2, h3, cm_Fx.same (u := U) (U := U.calling g mk a) rfl h4⟩
section CM
variable {G : cm_G} {p : Program} {l : Launch} {e : Env} {R : Room} {s : State} {m : MethodId} {args : Array Value} {below : List Frame} {meth : Method} {c : Code} {Q : State → Prop} {cc : ByteArray} {nL : Nat} {own : String} {k mc ms : Nat}
def cm_Sem (G : cm_G) (p : Program) (l : Launch) (e : Env) (R : Room) (s : State) (m : MethodId) (args : Array Value) (below : List Frame) (meth : Method) (c : Code) (nL : Nat) (Q : State → Prop) (pc : Nat) (F : cm_F) : Prop :=
  ∀ (H : Heap) (locs : List Loc) (ls : Array Slot), G.2.1 + F.2.2.1.length = s.heap.size + F.2.2.2.1 ∧ va_P G.2.2.1 classes (cm_ws G 0 F.2.2.1) H → va_S (cm_A0 G) s.heap H locs → am_ls (cm_ad G) nL ls F.1 → W p l e R s m args below meth c H locs F.2.2.2.1 F.2.2.2.2 Q (F0 m pc ls (F.2.1.map (am_rz (cm_ad G))))
def cm_Ctx (G : cm_G) (k mc ms : Nat) (p : Program) (l : Launch) (R : Room) (s : State) (m : MethodId) (args : Array Value) (meth : Method) (c : Code) (cc : ByteArray) (nL : Nat) (own : String) (ii : Bool) : Prop :=
  (p.tables.exec = Jvm.exec ∧ c.code = cc ∧ c.maxLocals = nL ∧ s.vm.findClass own = some m.cls ∧ (∀ w ∈ am_T, w.before args s = true)) ∧
  (va_K G.2.2.1 classes (cm_tys G) s ∧ cm_Fx s ∧ G.1 = l ∧ G.2.1 ≤ s.heap.size) ∧
  (k ≤ R.frames ∧ 100 * k + 100 ≤ R.locals ∧ mc ≤ R.cells ∧ ms ≤ R.slots) ∧ (ii = true → meth.name = "<init>")
end CM
def cm_V (G : cm_G) (k mc ms : Nat) (cc : ByteArray) (nL : Nat) (own : String) (ii : Bool) (pc len : Nat) (a : cm_A) : Prop :=
  ∀ (p : Program) (l : Launch) (e : Env) (R : Room) (s : State) (m : MethodId) (args : Array Value) (below : List Frame) (meth : Method) (c : Code) (Q : State → Prop), cm_Ctx G k mc ms p l R s m args meth c cc nL own ii →
    ∀ (F : cm_F) (j : Option Nat) (F' : cm_F), a F = some (j, F') → cm_Sem G p l e R s m args below meth c nL Q (j.getD (pc + len)) F' → cm_Sem G p l e R s m args below meth c nL Q pc F
abbrev cm_P : Type := List (Nat × Nat × Option cm_A)
def cm_pv (G : cm_G) (k mc ms : Nat) (cc : ByteArray) (nL : Nat) (own : String) (ii : Bool) : cm_P → Prop
  | [] => True
  | (pc, _, none) :: r => decode cc pc = .ok (.return_, 1) ∧ cm_pv G k mc ms cc nL own ii r
  | (pc, len, some a) :: r => cm_V G k mc ms cc nL own ii pc len a ∧ cm_pv G k mc ms cc nL own ii r
def cm_sk (t : Nat) : cm_P → Option (Nat × Option cm_A)
  | [] => none
  | (pc, q) :: r => match Nat.beq t pc with
    | true => some q
    | false => cm_sk t r
theorem cm_sk_ok {G : cm_G} {k mc ms : Nat} {cc : ByteArray} {nL : Nat} {own : String} {ii : Bool} {t : Nat} : ∀ (P : cm_P), cm_pv G k mc ms cc nL own ii P → ∀ q, cm_sk t P = some q → match q with
    | (_, none) => decode cc t = .ok (.return_, 1)
    | (len, some a) => cm_V G k mc ms cc nL own ii t len a
  | [], _, q, h => by cases h
  | (pc, q0) :: r, hv, q, h => by
    unfold cm_sk at h
    cases hb : Nat.beq t pc with
    | true =>
      rw [hb] at h
      have e : t = pc := Nat.eq_of_beq_eq_true hb
      subst e
      cases h
      obtain ⟨len, a⟩ := q0
      cases a with
      | none => exact hv.1
      | some a => exact hv.1
    | false =>
      rw [hb] at h
      obtain ⟨len, a⟩ := q0
      cases a with
      | none => exact cm_sk_ok r hv.2 q h
      | some a => exact cm_sk_ok r hv.2 q h
def cm_go (P : cm_P) (mc ms : Nat) : Nat → Nat → cm_F → Option cm_S
  | 0, _, _ => none
  | n + 1, pc, F => match cm_sk pc P with
    | none => none
    | some (_, none) => (match F.2.1, Nat.ble F.2.2.2.1 mc, Nat.ble F.2.2.2.2 ms with
      | [], true, true => some F.2.2.1
      | _, _, _ => none)
    | some (len, some a) => (match a F with
      | none => none
      | some (j, F') => cm_go P mc ms n (j.getD (pc + len)) F')
theorem cm_run {G : cm_G} {k mc ms : Nat} {cc : ByteArray} {nL : Nat} {own : String} {ii : Bool} {p : Program} {l : Launch} {e : Env} {R : Room} {s : State} {m : MethodId} {args : Array Value} {below : List Frame} {meth : Method} {c : Code} {Q : State → Prop} {P : cm_P} {σ' : cm_S}
    (C : cm_Ctx G k mc ms p l R s m args meth c cc nL own ii) (hP : cm_pv G k mc ms cc nL own ii P)
    (hret : ∀ (pc : Nat) (f : am_L) (nc ns : Nat), decode cc pc = .ok (.return_, 1) → nc ≤ mc → ns ≤ ms → cm_Sem G p l e R s m args below meth c nL Q pc (f, [], σ', nc, ns)) :
    ∀ (n pc : Nat) (F : cm_F), cm_go P mc ms n pc F = some σ' → cm_Sem G p l e R s m args below meth c nL Q pc F := by
  intro n
  induction n with
  | zero => intro pc F h; cases h
  | succ n ih =>
    intro pc F h
    unfold cm_go at h
    cases hs : cm_sk pc P with
    | none => rw [hs] at h; cases h
    | some q =>
      rw [hs] at h
      have hq := cm_sk_ok P hP q hs
      obtain ⟨len, a⟩ := q
      cases a with
      | none =>
        obtain ⟨f, st, σ, nc, ns⟩ := F
        cases st with
        | cons v r =>
          have h : (none : Option cm_S) = some σ' := h
          cases h
        | nil =>
          cases h1 : Nat.ble nc mc with
          | false =>
            dsimp only at h
            rw [h1] at h
            cases h
          | true =>
            cases h2 : Nat.ble ns ms with
            | false =>
              dsimp only at h
              rw [h1, h2] at h
              cases h
            | true =>
              dsimp only at h
              rw [h1, h2] at h
              cases h
              exact hret pc f nc ns hq (Nat.ble_eq.mp h1) (Nat.ble_eq.mp h2)
      | some a =>
        dsimp only at h
        cases ha : a F with
        | none => rw [ha] at h; cases h
        | some r =>
          rw [ha] at h
          obtain ⟨j, F'⟩ := r
          exact hq p l e R s m args below meth c Q C F j F' ha (ih _ _ h)
/-- a method's own run -/
def cm_fn (P : cm_P) (mc ms nL n : Nat) (av : List Value) (σ : cm_S) : Option cm_S := match am_nod av, Nat.ble (am_f0 av).length nL with
  | true, true => cm_go P mc ms n 0 (am_pad nL (am_f0 av), [], σ, 0, 0)
  | _, _ => none
theorem cm_intro {G : cm_G} {k mc ms : Nat} {Y : am_Y} {ii : Bool} {P : cm_P} {n : Nat} (hv : cm_pv G k mc ms Y.2.1 Y.2.2.1 Y.1.cls ii P) (hy : plainName Y.1.cls = true) (hr : Y.2.2.2 = none) (hii : ii = true → Y.1.name = "<init>") {av : List Value} {σ σ' : cm_S} (h : cm_fn P mc ms Y.2.2.1 n av σ = some σ') : cm_Ret G k Y mc ms av σ σ' := by
  unfold cm_fn at h
  split at h
  · rename_i hav hn
    refine Met.ofW (cc := Y.2.1) (maxL := Y.2.2.1) (ret := Y.2.2.2) hy rfl ?_
    intro p e s m args below meth c s₁ B hml hP
    obtain ⟨rfl, hK, hW, hF⟩ := hP
    have hts := atoms_spec (ws := Cond.code Y.1 Y.2.1 Y.2.2.1 Y.2.2.2 :: am_T) B.pre
    have C : cm_Ctx G k mc ms p G.1 (cm_rm k mc ms) s m (av.map (am_rz (cm_ad G))).toArray meth c Y.2.1 Y.2.2.1 Y.1.cls ii := by
      refine ⟨⟨B.exec, B.bytes, hml, findClass_of_methodNamed B.named, fun w hw => hts w (List.mem_cons_of_mem _ hw)⟩, ⟨hK, hF, rfl, ?_⟩, ⟨Nat.le_refl _, Nat.le_refl _, Nat.le_refl _, Nat.le_refl _⟩, fun hi => ?_⟩
      · rw [hW.1]; omega
      · rw [← hii hi]; exact (name_of_methodNamed B.named B.method).1
    have hd := am_nod_of av hav
    have hlen := am_f0_len (cm_ad G) av hd
    have hn2 := Nat.ble_eq.mp hn
    have hl := lv_entry (av.map (am_rz (cm_ad G))) (n := Y.2.2.1) (by rw [← hlen]; exact hn2)
    rw [lg_entry_eq]
    refine cm_run (Q := MQ below (cm_Qc G σ') (av.map (am_rz (cm_ad G))).toArray s mc ms (cm_A0 G)) C hv ?_ n 0 _ h s.heap [] _ ⟨hW.1.symm, hW.2⟩ va_S.rf ⟨?_, ?_⟩
    · intro pc f nc ns hdec h1 h2 H locs ls hW1 hS hls
      refine W.widen (k := mc) (n := ms) h1 h2 ?_
      exact W.vret B.exec B.bytes (by rw [B.returns, hr]) (fun t ht _ => ⟨rfl, by rw [ht]; exact hW1.2, hS.F ht⟩) hS.2.2 hdec B.notSynchronized
    · unfold am_pad
      rw [List.length_append, List.length_replicate]
      omega
    · unfold am_pad
      rw [am_lv_pad, am_f0_lv (cm_ad G) av 0 hd]
      exact hl
  · cases h
