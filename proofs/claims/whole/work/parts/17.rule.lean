/-! THE RULE as the class runs it: a stack of ints -/
theorem CS_of {I J : am_I} {σ : St} (h : ∀ q, q ∈ [1, 2, 3, 7, 8, 9, 10, 11, 12, 13] → J q = I q) (zC : CS I σ) : CS J σ := by
  unfold CS
  rw [h 1 (by decide), h 2 (by decide), h 3 (by decide), h 7 (by decide), h 8 (by decide), h 9 (by decide), h 10 (by decide), h 11 (by decide), h 12 (by decide), h 13 (by decide)]
  exact zC
theorem CS_fs {I J : am_I} {σ : St} (h : am_fs 25 [7] [29] I J) (zC : CS I σ) : CS J σ := CS_of (fun q hq => h.1 q (by rintro hz; simp only [List.mem_cons, List.not_mem_nil, or_false] at hz hq; omega) (by rintro rfl; exact absurd hq (by decide))) zC
def skc (c : Nat → Int32) : List Int32 → Prop
  | [] => True
  | v :: s => c s.length = v ∧ skc c s
theorem skc_up {c : Nat → Int32} {q : Nat} {v : Int32} : ∀ {s : List Int32}, s.length ≤ q → skc c s → skc (fup c q v) s
  | [], _, _ => trivial
  | x :: s, hq, h => by
    have hq2 : s.length + 1 ≤ q := hq
    exact ⟨(fup_ne (by omega)).trans h.1, skc_up (by omega) h.2⟩
def skI (s : List Int32) (I : am_I) : Prop := I 25 7 = nI s.length ∧ skc (I 29) s
def hd0 : List Int32 → Int32
  | [] => 0
  | v :: _ => v
theorem r_push {E : am_E} (zi : am_inj E) {k : Nat} {s : List Int32} (hs : s.length < 160) {I : am_I} (zs : skI s I) (w : Int64) (v : Int32) : am_Ret E k Y_Law_push [.ref 25, .int v] I w (fun r I' w' => r = none ∧ w' = w ∧ skI (v :: s) I' ∧ am_fs 25 [7] [29] I I') := by
  refine am_intro (pv_Law_push E k) (by decide) zi ?_ rfl rfl ?_
  · rintro _ _ _ ⟨rfl, -⟩; trivial
  intro S hS
  refine am_at hS (fun _ => false) 40 0 ?_
  refine ⟨fun _ => ?_, fun q => absurd (show I 25 7 < 160 by rw [zs.1]; exact nI_lt hs (by decide)) q⟩
  refine ⟨by rw [zs.1]; exact vp_in_nI (by omega) (by omega), ?_⟩
  rw [zs.1, nI_clamp (by omega)]
  refine ⟨rfl, rfl, ⟨?_, ?_⟩, ?_⟩
  · rw [am_up_fup, fup_self, am_up_ne (by decide), zs.1]
    exact nI_1 _
  · rw [am_up_ne (by decide), am_up_fup]
    exact ⟨fup_self, skc_up (Nat.le_refl _) zs.2⟩
  · exact am_fs.upo (am_fs.up am_fs.refl (by decide) (by decide)) (by decide)
theorem r_pop {E : am_E} (zi : am_inj E) {k : Nat} {s : List Int32} (hs : s.length ≤ 160) {I : am_I} (zs : skI s I) (w : Int64) : am_Ret E k Y_Law_pop [.ref 25] I w (fun r I' w' => r = some (.int (hd0 s)) ∧ w' = w ∧ skI s.tail I' ∧ am_fs 25 [7] [29] I I') := by
  refine am_intro (pv_Law_pop E k) (by decide) zi ?_ rfl rfl ?_
  · rintro _ _ _ ⟨rfl, -⟩; rfl
  intro S hS
  refine am_at hS (fun _ => false) 40 0 ?_
  cases s with
  | nil =>
    refine ⟨fun q => absurd q (by show ¬ 0 < I 25 7; rw [zs.1]; decide), fun _ => ⟨rfl, rfl, zs, am_fs.refl⟩⟩
  | cons v s =>
    have hs2 : s.length + 1 ≤ 160 := hs
    have e : am_up I 25 7 (I 25 7 - 1) 25 7 = nI s.length := by
      rw [am_up_fup, fup_self, zs.1]
      exact nI_pred _
    refine ⟨fun _ => ?_, fun q => absurd (show nI 0 < I 25 7 by rw [zs.1]; exact nI_lt (Nat.succ_pos _) (by show s.length + 1 < 2 ^ 31; omega)) q⟩
    refine ⟨by rw [e]; exact vp_in_nI (by omega) (by omega), ?_⟩
    rw [e, nI_clamp (by omega)]
    refine ⟨?_, rfl, ⟨e, ?_⟩, ?_⟩
    · rw [am_up_ne (by decide), zs.2.1]; rfl
    · rw [am_up_ne (by decide)]; exact zs.2.2
    · exact am_fs.upo am_fs.refl (by decide)
def isn (t : Int32) : Bool := !decide (-9 < t) && !decide (t < -14)
theorem r_isName {E : am_E} (zi : am_inj E) {k : Nat} (t : Int32) (I : am_I) (w : Int64) : am_Ret E k Y_Text_isName [.int t] I w (am_eq (some (.int (bi (isn t)))) I w) := by
  refine am_intro (pv_Text_isName E k) (by decide) zi ?_ rfl rfl ?_
  · rintro _ _ _ ⟨rfl, rfl, rfl⟩; exact bi_nr _
  intro S hS
  unfold isn at hS
  refine am_at hS (fun _ => false) 40 0 ?_
  refine ⟨fun h3 => ?_, fun h3 => ?_⟩
  · refine ⟨?_, rfl, rfl⟩
    rw [decide_eq_true h3]; rfl
  · refine ⟨fun h9 => ?_, fun h9 => ?_⟩
    · refine ⟨?_, rfl, rfl⟩
      rw [decide_eq_false h3, decide_eq_true h9]; rfl
    · refine ⟨?_, rfl, rfl⟩
      rw [decide_eq_false h3, decide_eq_false h9]; rfl
/-- what a NAME says of a FEELING -/
def env (σ : St) (f : Nat) : Nat → Int32
  | 0 => sT σ f
  | 1 => bi (decide (sS σ f < 0))
  | 2 => nI (sK σ f / 2)
  | 3 => nI (sK σ f % 2)
  | 4 => nI (sL σ f)
  | _ => nI (sG σ f)
def nam (e : Nat → Int32) (t : Int32) : Int32 := if t = -13 then e 4 else if t = -12 then e 3 else if t = -11 then e 2 else if t = -10 then e 1 else if t = -9 then e 0 else e 5
def joi (t a b : Int32) : Int32 := if t = -61 then bi (decide (a = b)) else if t = -60 then bi (decide (a < b)) else if t = -45 then a - b else if t = -43 then a + b else if t = -42 then a * b else if t = -6 then bi (!decide (a = 0) && !decide (b = 0)) else bi (!decide (a = 0) || !decide (b = 0))
theorem r_joined {E : am_E} (zi : am_inj E) {k : Nat} (t a b : Int32) (I : am_I) (w : Int64) : am_Ret E k Y_Law_joined [.int t, .int a, .int b] I w (am_eq (some (.int (joi t a b))) I w) := by
  refine am_intro (pv_Law_joined E k) (by decide) zi ?_ rfl rfl ?_
  · rintro _ _ _ ⟨rfl, rfl, rfl⟩; rfl
  intro S hS
  unfold joi at hS
  refine am_at hS (fun _ => false) 80 0 ?_
  refine ⟨fun e => ?_, fun e => ?_⟩
  · rw [if_pos e]
    exact ⟨fun h => ⟨by rw [decide_eq_true h]; rfl, rfl, rfl⟩, fun h => ⟨by rw [decide_eq_false h]; rfl, rfl, rfl⟩⟩
  rw [if_neg e]
  refine ⟨fun e => ?_, fun e => ?_⟩
  · rw [if_pos e]
    exact ⟨fun h => ⟨by rw [decide_eq_true h]; rfl, rfl, rfl⟩, fun h => ⟨by rw [decide_eq_false h]; rfl, rfl, rfl⟩⟩
  rw [if_neg e]
  refine ⟨fun e => ?_, fun e => ?_⟩
  · rw [if_pos e]; exact ⟨rfl, rfl, rfl⟩
  rw [if_neg e]
  refine ⟨fun e => ?_, fun e => ?_⟩
  · rw [if_pos e]; exact ⟨rfl, rfl, rfl⟩
  rw [if_neg e]
  refine ⟨fun e => ?_, fun e => ?_⟩
  · rw [if_pos e]; exact ⟨rfl, rfl, rfl⟩
  rw [if_neg e]
  refine ⟨fun e => ?_, fun e => ?_⟩
  · rw [if_pos e]
    refine ⟨fun h => ⟨by rw [decide_eq_true h]; rfl, rfl, rfl⟩, fun h => ?_⟩
    exact ⟨fun g => ⟨by rw [decide_eq_true g, decide_eq_false h]; rfl, rfl, rfl⟩, fun g => ⟨by rw [decide_eq_false g, decide_eq_false h]; rfl, rfl, rfl⟩⟩
  rw [if_neg e]
  refine ⟨fun h => ?_, fun h => ⟨by rw [decide_eq_false h]; rfl, rfl, rfl⟩⟩
  exact ⟨fun g => ⟨by rw [decide_eq_true g, decide_eq_true h]; rfl, rfl, rfl⟩, fun g => ⟨by rw [decide_eq_false g, decide_eq_true h]; rfl, rfl, rfl⟩⟩
theorem r_named {E : am_E} (zi : am_inj E) {k : Nat} {σ : St} (zw : wf σ) {I : am_I} (zC : CS I σ) (w : Int64) {f : Nat} (hf : f < sM σ) (t : Int32) : am_Ret E k Y_Law_named [.ref 25, .int t, .int (nI f)] I w (am_eq (some (.int (nam (env σ f) t))) I w) := by
  refine am_intro (pv_Law_named E k) (by decide) zi ?_ rfl rfl ?_
  · rintro _ _ _ ⟨rfl, rfl, rfl⟩; rfl
  intro S hS
  have h36 := sM_le zw
  obtain ⟨e1, e2, e3, e4, e5⟩ := zC.2.2.1 f hf
  have hK := (zw.2.1.2.2.1 f hf).2.2
  have bd : vp_in (nI f) 36 := vp_in_nI (by omega) (by omega)
  unfold nam at hS
  refine am_at hS (fun _ => false) 80 0 ?_
  refine ⟨fun e => ?_, fun e => ?_⟩
  · rw [if_pos e]
    refine ⟨bd, ?_⟩
    rw [nI_clamp (by omega), e1]
    exact ⟨rfl, rfl, rfl⟩
  rw [if_neg e]
  refine ⟨fun e => ?_, fun e => ?_⟩
  · rw [if_pos e]
    refine ⟨bd, ?_⟩
    rw [nI_clamp (by omega), e5]
    exact ⟨by rw [nI_and1 _ (by omega)]; rfl, rfl, rfl⟩
  rw [if_neg e]
  refine ⟨fun e => ?_, fun e => ?_⟩
  · rw [if_pos e]
    refine ⟨bd, ?_⟩
    rw [nI_clamp (by omega), e5]
    exact ⟨by rw [show (1 : Int32) = nI 1 from rfl, nI_shr (by omega) (by decide)]; rfl, rfl, rfl⟩
  rw [if_neg e]
  refine ⟨fun e => ?_, fun e => ?_⟩
  · rw [if_pos e]
    refine ⟨bd, ?_⟩
    rw [nI_clamp (by omega), e3]
    exact ⟨fun h => ⟨by show _ = some (Value.int (bi (decide (sS σ f < 0)))); rw [decide_eq_true h]; rfl, rfl, rfl⟩, fun h => ⟨by show _ = some (Value.int (bi (decide (sS σ f < 0)))); rw [decide_eq_false h]; rfl, rfl, rfl⟩⟩
  rw [if_neg e]
  refine ⟨fun e => ?_, fun e => ?_⟩
  · rw [if_pos e]
    refine ⟨bd, ?_⟩
    rw [nI_clamp (by omega), e4]
    exact ⟨rfl, rfl, rfl⟩
  rw [if_neg e]
  refine ⟨bd, ?_⟩
  rw [nI_clamp (by omega), e2]
  exact ⟨rfl, rfl, rfl⟩

