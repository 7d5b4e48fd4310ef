/-! CONSTRUCTORS: their programs -/
def X_Arr_fill : cm_P := [(0, 1, some (xI 0)), (1, 1, some (xSi 2)), (2, 1, some (xLa 0)), (3, 1, some (xLen)), (4, 1, some (xSi 3)), (5, 1, some (xLi 2)), (6, 1, some (xLi 3)), (7, 3, some (xCge 20)), (10, 1, some (xLa 0)), (11, 1, some (xLi 2)), (12, 1, some (xLi 1)), (13, 1, some (xAst)), (14, 3, some (xInc 2 1)), (17, 3, some (xGo 5)), (20, 1, none)]
def gf_Arr_fill : List Value → cm_S → Option cm_S := cm_fn X_Arr_fill 0 0 Y_Arr_fill.2.2.1 2000
set_option maxRecDepth 20000 in
theorem xv_Arr_fill (G : cm_G) {k : Nat} (hk : 0 ≤ k) : cm_pv G k 0 0 Y_Arr_fill.2.1 Y_Arr_fill.2.2.1 Y_Arr_fill.1.cls false X_Arr_fill := by
  refine ⟨x_iconst (n := 0) (by decide +kernel) rfl, ?_⟩
  refine ⟨x_istore_n (q := 2) (by decide +kernel) rfl, ?_⟩
  refine ⟨x_aload_n (q := 0) (by decide +kernel) rfl, ?_⟩
  refine ⟨x_alen (by decide +kernel), ?_⟩
  refine ⟨x_istore_n (q := 3) (by decide +kernel) rfl, ?_⟩
  refine ⟨x_iload_n (q := 2) (by decide +kernel) rfl, ?_⟩
  refine ⟨x_iload_n (q := 3) (by decide +kernel) rfl, ?_⟩
  refine ⟨x_ic_ge (off := 13) (by decide +kernel) rfl, ?_⟩
  refine ⟨x_aload_n (q := 0) (by decide +kernel) rfl, ?_⟩
  refine ⟨x_iload_n (q := 2) (by decide +kernel) rfl, ?_⟩
  refine ⟨x_iload_n (q := 1) (by decide +kernel) rfl, ?_⟩
  refine ⟨x_iast (by decide +kernel), ?_⟩
  refine ⟨x_iinc (n := 1) (by decide +kernel) (by decide +kernel), ?_⟩
  refine ⟨x_goto (off := -12) (by decide +kernel) rfl, ?_⟩
  refine ⟨(by decide +kernel), ?_⟩
  exact trivial
theorem cr_Arr_fill (G : cm_G) {k : Nat} (hk : 0 ≤ k) (av : List Value) (σ σ' : cm_S) (h : gf_Arr_fill av σ = some σ') : cm_Ret G k Y_Arr_fill 0 0 av σ σ' := cm_intro (xv_Arr_fill G hk) (by decide) rfl (fun q => by cases q) h
def X_Text_add : cm_P := [(0, 1, some (xLa 0)), (1, 3, some (xGet 5 1)), (4, 3, some (xI 160)), (7, 3, some (xCge 30)), (10, 1, some (xLa 0)), (11, 3, some (xGet 5 0)), (14, 1, some (xLa 0)), (15, 3, some (xGet 5 1)), (18, 1, some (xLi 1)), (19, 1, some (xAst)), (20, 1, some (xLa 0)), (21, 1, some (xDup)), (22, 3, some (xGet 5 1)), (25, 1, some (xI 1)), (26, 1, some (xBi (fun x y => x + y))), (27, 3, some (xPut 5 1 (kT 5 1))), (30, 1, none)]
def gf_Text_add : List Value → cm_S → Option cm_S := cm_fn X_Text_add 0 0 Y_Text_add.2.2.1 2000
set_option maxRecDepth 20000 in
theorem xv_Text_add (G : cm_G) {k : Nat} (hk : 0 ≤ k) : cm_pv G k 0 0 Y_Text_add.2.1 Y_Text_add.2.2.1 Y_Text_add.1.cls false X_Text_add := by
  refine ⟨x_aload_n (q := 0) (by decide +kernel) rfl, ?_⟩
  refine ⟨x_get fl_Text_15 (by decide +kernel), ?_⟩
  refine ⟨x_sipush (n := 160) (by decide +kernel) (by decide +kernel), ?_⟩
  refine ⟨x_ic_ge (off := 23) (by decide +kernel) rfl, ?_⟩
  refine ⟨x_aload_n (q := 0) (by decide +kernel) rfl, ?_⟩
  refine ⟨x_get fl_Text_9 (by decide +kernel), ?_⟩
  refine ⟨x_aload_n (q := 0) (by decide +kernel) rfl, ?_⟩
  refine ⟨x_get fl_Text_15 (by decide +kernel), ?_⟩
  refine ⟨x_iload_n (q := 1) (by decide +kernel) rfl, ?_⟩
  refine ⟨x_iast (by decide +kernel), ?_⟩
  refine ⟨x_aload_n (q := 0) (by decide +kernel) rfl, ?_⟩
  refine ⟨x_dup (by decide +kernel), ?_⟩
  refine ⟨x_get fl_Text_15 (by decide +kernel), ?_⟩
  refine ⟨x_iconst (n := 1) (by decide +kernel) rfl, ?_⟩
  refine ⟨x_iadd (by decide +kernel), ?_⟩
  refine ⟨x_put (idx := 15) ⟨_, rfl, by decide, rfl, (tb1 138 (by decide +kernel) rfl), by decide +kernel, Or.inl rfl⟩ (by decide +kernel), ?_⟩
  refine ⟨(by decide +kernel), ?_⟩
  exact trivial
theorem cr_Text_add (G : cm_G) {k : Nat} (hk : 0 ≤ k) (av : List Value) (σ σ' : cm_S) (h : gf_Text_add av σ = some σ') : cm_Ret G k Y_Text_add 0 0 av σ σ' := cm_intro (xv_Text_add G hk) (by decide) rfl (fun q => by cases q) h
def X_Text_endCost : cm_P := [(0, 1, some (xLa 0)), (1, 1, some (xLa 0)), (2, 3, some (xGet 5 1)), (5, 3, some (xPut 5 2 (kT 5 2))), (8, 1, none)]
def gf_Text_endCost : List Value → cm_S → Option cm_S := cm_fn X_Text_endCost 0 0 Y_Text_endCost.2.2.1 2000
set_option maxRecDepth 20000 in
theorem xv_Text_endCost (G : cm_G) {k : Nat} (hk : 0 ≤ k) : cm_pv G k 0 0 Y_Text_endCost.2.1 Y_Text_endCost.2.2.1 Y_Text_endCost.1.cls false X_Text_endCost := by
  refine ⟨x_aload_n (q := 0) (by decide +kernel) rfl, ?_⟩
  refine ⟨x_aload_n (q := 0) (by decide +kernel) rfl, ?_⟩
  refine ⟨x_get fl_Text_15 (by decide +kernel), ?_⟩
  refine ⟨x_put (idx := 19) ⟨_, rfl, by decide, rfl, (tb1 140 (by decide +kernel) rfl), by decide +kernel, Or.inl rfl⟩ (by decide +kernel), ?_⟩
  refine ⟨(by decide +kernel), ?_⟩
  exact trivial
theorem cr_Text_endCost (G : cm_G) {k : Nat} (hk : 0 ≤ k) (av : List Value) (σ σ' : cm_S) (h : gf_Text_endCost av σ = some σ') : cm_Ret G k Y_Text_endCost 0 0 av σ σ' := cm_intro (xv_Text_endCost G hk) (by decide) rfl (fun q => by cases q) h
def X_MO_spell : cm_P := [(0, 1, some (xI 0)), (1, 2, some (xSi 4)), (3, 2, some (xLi 4)), (5, 2, some (xI 8)), (7, 3, some (xCge 40)), (10, 1, some (xLa 0)), (11, 3, some (xGet 12 1)), (14, 1, some (xLi 1)), (15, 2, some (xLi 4)), (17, 1, some (xBi (fun x y => x + y))), (18, 1, some (xLj 2)), (19, 2, some (xI 56)), (21, 2, some (xI 8)), (23, 2, some (xLi 4)), (25, 1, some (xBi (fun x y => x * y))), (26, 1, some (xBi (fun x y => x - y))), (27, 1, some (xShr)), (28, 3, some (xJ 255)), (31, 1, some (xLand)), (32, 1, some (xL2I)), (33, 1, some (xAst)), (34, 3, some (xInc 4 1)), (37, 3, some (xGo 3)), (40, 1, none)]
def gf_MO_spell : List Value → cm_S → Option cm_S := cm_fn X_MO_spell 0 0 Y_MO_spell.2.2.1 2000
set_option maxRecDepth 20000 in
theorem xv_MO_spell (G : cm_G) {k : Nat} (hk : 0 ≤ k) : cm_pv G k 0 0 Y_MO_spell.2.1 Y_MO_spell.2.2.1 Y_MO_spell.1.cls false X_MO_spell := by
  refine ⟨x_iconst (n := 0) (by decide +kernel) rfl, ?_⟩
  refine ⟨x_istore (by decide +kernel), ?_⟩
  refine ⟨x_iload (by decide +kernel), ?_⟩
  refine ⟨x_bipush (n := 8) (by decide +kernel) (by decide +kernel), ?_⟩
  refine ⟨x_ic_ge (off := 33) (by decide +kernel) rfl, ?_⟩
  refine ⟨x_aload_n (q := 0) (by decide +kernel) rfl, ?_⟩
  refine ⟨x_get fl_MO_13 (by decide +kernel), ?_⟩
  refine ⟨x_iload_n (q := 1) (by decide +kernel) rfl, ?_⟩
  refine ⟨x_iload (by decide +kernel), ?_⟩
  refine ⟨x_iadd (by decide +kernel), ?_⟩
  refine ⟨x_lload_n (q := 2) (by decide +kernel) rfl, ?_⟩
  refine ⟨x_bipush (n := 56) (by decide +kernel) (by decide +kernel), ?_⟩
  refine ⟨x_bipush (n := 8) (by decide +kernel) (by decide +kernel), ?_⟩
  refine ⟨x_iload (by decide +kernel), ?_⟩
  refine ⟨x_imul (by decide +kernel), ?_⟩
  refine ⟨x_isub (by decide +kernel), ?_⟩
  refine ⟨x_lshr (by decide +kernel), ?_⟩
  refine ⟨x_ldc2 (i := 114) (tb5 170 (by decide +kernel) rfl) (by decide +kernel), ?_⟩
  refine ⟨x_land (by decide +kernel), ?_⟩
  refine ⟨x_l2i (by decide +kernel), ?_⟩
  refine ⟨x_iast (by decide +kernel), ?_⟩
  refine ⟨x_iinc (n := 1) (by decide +kernel) (by decide +kernel), ?_⟩
  refine ⟨x_goto (off := -34) (by decide +kernel) rfl, ?_⟩
  refine ⟨(by decide +kernel), ?_⟩
  exact trivial
theorem cr_MO_spell (G : cm_G) {k : Nat} (hk : 0 ≤ k) (av : List Value) (σ σ' : cm_S) (h : gf_MO_spell av σ = some σ') : cm_Ret G k Y_MO_spell 0 0 av σ σ' := cm_intro (xv_MO_spell G hk) (by decide) rfl (fun q => by cases q) h
theorem yi_People_init : cm_yI Y_People_init 0 := ⟨⟨(tb1 2 (by decide +kernel) rfl), (tb1 34 (by decide +kernel) rfl), ⟨by decide +kernel, by decide +kernel, by decide +kernel⟩, by decide +kernel⟩, (tb1 33 (by decide +kernel) rfl), rfl⟩
def X_People_init : cm_P := [(0, 1, some (xLa 0)), (1, 3, some (xObj)), (4, 1, some (xLa 0)), (5, 2, some (xI 9)), (7, 2, some (xNewa 2 18 0)), (9, 3, some (xPut 1 1 (kT 1 1))), (12, 1, some (xLa 0)), (13, 2, some (xI 9)), (15, 2, some (xNewa 2 18 0)), (17, 3, some (xPut 1 2 (kT 1 2))), (20, 1, none)]
def gf_People_init : List Value → cm_S → Option cm_S := cm_fn X_People_init 2 18 Y_People_init.2.2.1 2000
set_option maxRecDepth 20000 in
theorem xv_People_init (G : cm_G) {k : Nat} (hk : 1 ≤ k) : cm_pv G k 2 18 Y_People_init.2.1 Y_People_init.2.2.1 Y_People_init.1.cls true X_People_init := by
  refine ⟨x_aload_n (q := 0) (by decide +kernel) rfl, ?_⟩
  refine ⟨x_obj (idx := 3) (by omega) (tb1 35 (by decide +kernel) rfl) (tb1 28 (by decide +kernel) rfl) (tb1 29 (by decide +kernel) rfl) (by decide +kernel), ?_⟩
  refine ⟨x_aload_n (q := 0) (by decide +kernel) rfl, ?_⟩
  refine ⟨x_bipush (n := 9) (by decide +kernel) (by decide +kernel), ?_⟩
  refine ⟨x_newi (tb1 54 (by decide +kernel) rfl) (by decide +kernel), ?_⟩
  refine ⟨x_put (idx := 9) ⟨_, rfl, by decide, rfl, (tb1 41 (by decide +kernel) rfl), by decide +kernel, Or.inr ⟨rfl, rfl, rfl⟩⟩ (by decide +kernel), ?_⟩
  refine ⟨x_aload_n (q := 0) (by decide +kernel) rfl, ?_⟩
  refine ⟨x_bipush (n := 9) (by decide +kernel) (by decide +kernel), ?_⟩
  refine ⟨x_newi (tb1 54 (by decide +kernel) rfl) (by decide +kernel), ?_⟩
  refine ⟨x_put (idx := 15) ⟨_, rfl, by decide, rfl, (tb1 44 (by decide +kernel) rfl), by decide +kernel, Or.inr ⟨rfl, rfl, rfl⟩⟩ (by decide +kernel), ?_⟩
  refine ⟨(by decide +kernel), ?_⟩
  exact trivial
theorem cr_People_init (G : cm_G) {k : Nat} (hk : 1 ≤ k) (av : List Value) (σ σ' : cm_S) (h : gf_People_init av σ = some σ') : cm_Ret G k Y_People_init 2 18 av σ σ' := cm_intro (xv_People_init G hk) (by decide) rfl (fun _ => rfl) h
theorem yi_Tape_init : cm_yI Y_Tape_init 0 := ⟨⟨(tb1 5 (by decide +kernel) rfl), (tb1 112 (by decide +kernel) rfl), ⟨by decide +kernel, by decide +kernel, by decide +kernel⟩, by decide +kernel⟩, (tb1 111 (by decide +kernel) rfl), rfl⟩
def X_Tape_init : cm_P := [(0, 1, some (xLa 0)), (1, 3, some (xObj)), (4, 1, some (xLa 0)), (5, 3, some (xI 160)), (8, 2, some (xNewa 1 160 0)), (10, 3, some (xPut 3 1 (kT 3 1))), (13, 1, none)]
def gf_Tape_init : List Value → cm_S → Option cm_S := cm_fn X_Tape_init 1 160 Y_Tape_init.2.2.1 2000
set_option maxRecDepth 20000 in
theorem xv_Tape_init (G : cm_G) {k : Nat} (hk : 1 ≤ k) : cm_pv G k 1 160 Y_Tape_init.2.1 Y_Tape_init.2.2.1 Y_Tape_init.1.cls true X_Tape_init := by
  refine ⟨x_aload_n (q := 0) (by decide +kernel) rfl, ?_⟩
  refine ⟨x_obj (idx := 3) (by omega) (tb1 113 (by decide +kernel) rfl) (tb1 28 (by decide +kernel) rfl) (tb1 29 (by decide +kernel) rfl) (by decide +kernel), ?_⟩
  refine ⟨x_aload_n (q := 0) (by decide +kernel) rfl, ?_⟩
  refine ⟨x_sipush (n := 160) (by decide +kernel) (by decide +kernel), ?_⟩
  refine ⟨x_newi (tb1 54 (by decide +kernel) rfl) (by decide +kernel), ?_⟩
  refine ⟨x_put (idx := 9) ⟨_, rfl, by decide, rfl, (tb1 117 (by decide +kernel) rfl), by decide +kernel, Or.inr ⟨rfl, rfl, rfl⟩⟩ (by decide +kernel), ?_⟩
  refine ⟨(by decide +kernel), ?_⟩
  exact trivial
theorem cr_Tape_init (G : cm_G) {k : Nat} (hk : 1 ≤ k) (av : List Value) (σ σ' : cm_S) (h : gf_Tape_init av σ = some σ') : cm_Ret G k Y_Tape_init 1 160 av σ σ' := cm_intro (xv_Tape_init G hk) (by decide) rfl (fun _ => rfl) h
theorem yi_Text_init : cm_yI Y_Text_init 0 := ⟨⟨(tb1 7 (by decide +kernel) rfl), (tb1 134 (by decide +kernel) rfl), ⟨by decide +kernel, by decide +kernel, by decide +kernel⟩, by decide +kernel⟩, (tb1 133 (by decide +kernel) rfl), rfl⟩
def X_Text_init : cm_P := [(0, 1, some (xLa 0)), (1, 3, some (xObj)), (4, 1, some (xLa 0)), (5, 3, some (xI 160)), (8, 2, some (xNewa 1 160 0)), (10, 3, some (xPut 5 0 (kT 5 0))), (13, 1, none)]
def gf_Text_init : List Value → cm_S → Option cm_S := cm_fn X_Text_init 1 160 Y_Text_init.2.2.1 2000
set_option maxRecDepth 20000 in
theorem xv_Text_init (G : cm_G) {k : Nat} (hk : 1 ≤ k) : cm_pv G k 1 160 Y_Text_init.2.1 Y_Text_init.2.2.1 Y_Text_init.1.cls true X_Text_init := by
  refine ⟨x_aload_n (q := 0) (by decide +kernel) rfl, ?_⟩
  refine ⟨x_obj (idx := 3) (by omega) (tb1 135 (by decide +kernel) rfl) (tb1 28 (by decide +kernel) rfl) (tb1 29 (by decide +kernel) rfl) (by decide +kernel), ?_⟩
  refine ⟨x_aload_n (q := 0) (by decide +kernel) rfl, ?_⟩
  refine ⟨x_sipush (n := 160) (by decide +kernel) (by decide +kernel), ?_⟩
  refine ⟨x_newi (tb1 54 (by decide +kernel) rfl) (by decide +kernel), ?_⟩
  refine ⟨x_put (idx := 9) ⟨_, rfl, by decide, rfl, (tb1 136 (by decide +kernel) rfl), by decide +kernel, Or.inr ⟨rfl, rfl, rfl⟩⟩ (by decide +kernel), ?_⟩
  refine ⟨(by decide +kernel), ?_⟩
  exact trivial
theorem cr_Text_init (G : cm_G) {k : Nat} (hk : 1 ≤ k) (av : List Value) (σ σ' : cm_S) (h : gf_Text_init av σ = some σ') : cm_Ret G k Y_Text_init 1 160 av σ σ' := cm_intro (xv_Text_init G hk) (by decide) rfl (fun _ => rfl) h
theorem yi_Sheet_init : cm_yI Y_Sheet_init 0 := ⟨⟨(tb1 13 (by decide +kernel) rfl), (tb2 115 (by decide +kernel) rfl), ⟨by decide +kernel, by decide +kernel, by decide +kernel⟩, by decide +kernel⟩, (tb2 114 (by decide +kernel) rfl), rfl⟩
def X_Sheet_init : cm_P := [(0, 1, some (xLa 0)), (1, 3, some (xObj)), (4, 1, some (xLa 0)), (5, 1, some (xI (-1))), (6, 3, some (xPut 11 0 (kT 11 0))), (9, 1, some (xLa 0)), (10, 2, some (xI 40)), (12, 2, some (xNewa 1 40 0)), (14, 3, some (xPut 11 2 (kT 11 2))), (17, 1, none)]
def gf_Sheet_init : List Value → cm_S → Option cm_S := cm_fn X_Sheet_init 1 40 Y_Sheet_init.2.2.1 2000
set_option maxRecDepth 20000 in
theorem xv_Sheet_init (G : cm_G) {k : Nat} (hk : 1 ≤ k) : cm_pv G k 1 40 Y_Sheet_init.2.1 Y_Sheet_init.2.2.1 Y_Sheet_init.1.cls true X_Sheet_init := by
  refine ⟨x_aload_n (q := 0) (by decide +kernel) rfl, ?_⟩
  refine ⟨x_obj (idx := 3) (by omega) (tb2 116 (by decide +kernel) rfl) (tb1 28 (by decide +kernel) rfl) (tb1 29 (by decide +kernel) rfl) (by decide +kernel), ?_⟩
  refine ⟨x_aload_n (q := 0) (by decide +kernel) rfl, ?_⟩
  refine ⟨x_iconst (n := -1) (by decide +kernel) rfl, ?_⟩
  refine ⟨x_put (idx := 11) ⟨_, rfl, by decide, rfl, (tb2 117 (by decide +kernel) rfl), by decide +kernel, Or.inl rfl⟩ (by decide +kernel), ?_⟩
  refine ⟨x_aload_n (q := 0) (by decide +kernel) rfl, ?_⟩
  refine ⟨x_bipush (n := 40) (by decide +kernel) (by decide +kernel), ?_⟩
  refine ⟨x_newi (tb1 54 (by decide +kernel) rfl) (by decide +kernel), ?_⟩
  refine ⟨x_put (idx := 15) ⟨_, rfl, by decide, rfl, (tb2 122 (by decide +kernel) rfl), by decide +kernel, Or.inr ⟨rfl, rfl, rfl⟩⟩ (by decide +kernel), ?_⟩
  refine ⟨(by decide +kernel), ?_⟩
  exact trivial
theorem cr_Sheet_init (G : cm_G) {k : Nat} (hk : 1 ≤ k) (av : List Value) (σ σ' : cm_S) (h : gf_Sheet_init av σ = some σ') : cm_Ret G k Y_Sheet_init 1 40 av σ σ' := cm_intro (xv_Sheet_init G hk) (by decide) rfl (fun _ => rfl) h
theorem yi_StreetReader_init : cm_yI Y_StreetReader_init 3 := ⟨⟨(tb1 9 (by decide +kernel) rfl), (tb1 221 (by decide +kernel) rfl), ⟨by decide +kernel, by decide +kernel, by decide +kernel⟩, by decide +kernel⟩, (tb1 220 (by decide +kernel) rfl), rfl⟩
def X_StreetReader_init : cm_P := [(0, 1, some (xLa 0)), (1, 3, some (xObj)), (4, 1, some (xLa 0)), (5, 1, some (xLa 1)), (6, 3, some (xPut 7 0 (kT 7 0))), (9, 1, some (xLa 0)), (10, 1, some (xLa 2)), (11, 3, some (xPut 7 1 (kT 7 1))), (14, 1, some (xLa 0)), (15, 1, some (xLa 3)), (16, 3, some (xPut 7 2 (kT 7 2))), (19, 1, none)]
def gf_StreetReader_init : List Value → cm_S → Option cm_S := cm_fn X_StreetReader_init 0 0 Y_StreetReader_init.2.2.1 2000
set_option maxRecDepth 20000 in
theorem xv_StreetReader_init (G : cm_G) {k : Nat} (hk : 1 ≤ k) : cm_pv G k 0 0 Y_StreetReader_init.2.1 Y_StreetReader_init.2.2.1 Y_StreetReader_init.1.cls true X_StreetReader_init := by
  refine ⟨x_aload_n (q := 0) (by decide +kernel) rfl, ?_⟩
  refine ⟨x_obj (idx := 3) (by omega) (tb1 222 (by decide +kernel) rfl) (tb1 28 (by decide +kernel) rfl) (tb1 29 (by decide +kernel) rfl) (by decide +kernel), ?_⟩
  refine ⟨x_aload_n (q := 0) (by decide +kernel) rfl, ?_⟩
  refine ⟨x_aload_n (q := 1) (by decide +kernel) rfl, ?_⟩
  refine ⟨x_put (idx := 9) ⟨_, rfl, by decide, rfl, (tb1 223 (by decide +kernel) rfl), by decide +kernel, Or.inr ⟨rfl, rfl, rfl⟩⟩ (by decide +kernel), ?_⟩
  refine ⟨x_aload_n (q := 0) (by decide +kernel) rfl, ?_⟩
  refine ⟨x_aload_n (q := 2) (by decide +kernel) rfl, ?_⟩
  refine ⟨x_put (idx := 15) ⟨_, rfl, by decide, rfl, (tb1 224 (by decide +kernel) rfl), by decide +kernel, Or.inr ⟨rfl, rfl, rfl⟩⟩ (by decide +kernel), ?_⟩
  refine ⟨x_aload_n (q := 0) (by decide +kernel) rfl, ?_⟩
  refine ⟨x_aload_n (q := 3) (by decide +kernel) rfl, ?_⟩
  refine ⟨x_put (idx := 19) ⟨_, rfl, by decide, rfl, (tb1 225 (by decide +kernel) rfl), by decide +kernel, Or.inr ⟨rfl, rfl, rfl⟩⟩ (by decide +kernel), ?_⟩
  refine ⟨(by decide +kernel), ?_⟩
  exact trivial
theorem cr_StreetReader_init (G : cm_G) {k : Nat} (hk : 1 ≤ k) (av : List Value) (σ σ' : cm_S) (h : gf_StreetReader_init av σ = some σ') : cm_Ret G k Y_StreetReader_init 0 0 av σ σ' := cm_intro (xv_StreetReader_init G hk) (by decide) rfl (fun _ => rfl) h
theorem yi_Camping_init : cm_yI Y_Camping_init 3 := ⟨⟨(tb1 10 (by decide +kernel) rfl), (tb2 17 (by decide +kernel) rfl), ⟨by decide +kernel, by decide +kernel, by decide +kernel⟩, by decide +kernel⟩, (tb2 16 (by decide +kernel) rfl), rfl⟩
def X_Camping_init : cm_P := [(0, 1, some (xLa 0)), (1, 3, some (xObj)), (4, 1, some (xLa 0)), (5, 2, some (xI 9)), (7, 2, some (xNewa 1 9 0)), (9, 3, some (xPut 8 5 (kT 8 5))), (12, 1, some (xLa 0)), (13, 1, some (xLa 1)), (14, 3, some (xPut 8 0 (kT 8 0))), (17, 1, some (xLa 0)), (18, 1, some (xLa 2)), (19, 3, some (xPut 8 1 (kT 8 1))), (22, 1, some (xLa 0)), (23, 1, some (xLa 3)), (24, 3, some (xPut 8 2 (kT 8 2))), (27, 1, none)]
def gf_Camping_init : List Value → cm_S → Option cm_S := cm_fn X_Camping_init 1 9 Y_Camping_init.2.2.1 2000
set_option maxRecDepth 20000 in
theorem xv_Camping_init (G : cm_G) {k : Nat} (hk : 1 ≤ k) : cm_pv G k 1 9 Y_Camping_init.2.1 Y_Camping_init.2.2.1 Y_Camping_init.1.cls true X_Camping_init := by
  refine ⟨x_aload_n (q := 0) (by decide +kernel) rfl, ?_⟩
  refine ⟨x_obj (idx := 3) (by omega) (tb2 18 (by decide +kernel) rfl) (tb1 28 (by decide +kernel) rfl) (tb1 29 (by decide +kernel) rfl) (by decide +kernel), ?_⟩
  refine ⟨x_aload_n (q := 0) (by decide +kernel) rfl, ?_⟩
  refine ⟨x_bipush (n := 9) (by decide +kernel) (by decide +kernel), ?_⟩
  refine ⟨x_newi (tb1 54 (by decide +kernel) rfl) (by decide +kernel), ?_⟩
  refine ⟨x_put (idx := 9) ⟨_, rfl, by decide, rfl, (tb2 26 (by decide +kernel) rfl), by decide +kernel, Or.inr ⟨rfl, rfl, rfl⟩⟩ (by decide +kernel), ?_⟩
  refine ⟨x_aload_n (q := 0) (by decide +kernel) rfl, ?_⟩
  refine ⟨x_aload_n (q := 1) (by decide +kernel) rfl, ?_⟩
  refine ⟨x_put (idx := 15) ⟨_, rfl, by decide, rfl, (tb2 19 (by decide +kernel) rfl), by decide +kernel, Or.inr ⟨rfl, rfl, rfl⟩⟩ (by decide +kernel), ?_⟩
  refine ⟨x_aload_n (q := 0) (by decide +kernel) rfl, ?_⟩
  refine ⟨x_aload_n (q := 2) (by decide +kernel) rfl, ?_⟩
  refine ⟨x_put (idx := 19) ⟨_, rfl, by decide, rfl, (tb2 20 (by decide +kernel) rfl), by decide +kernel, Or.inr ⟨rfl, rfl, rfl⟩⟩ (by decide +kernel), ?_⟩
  refine ⟨x_aload_n (q := 0) (by decide +kernel) rfl, ?_⟩
  refine ⟨x_aload_n (q := 3) (by decide +kernel) rfl, ?_⟩
  refine ⟨x_put (idx := 23) ⟨_, rfl, by decide, rfl, (tb2 21 (by decide +kernel) rfl), by decide +kernel, Or.inr ⟨rfl, rfl, rfl⟩⟩ (by decide +kernel), ?_⟩
  refine ⟨(by decide +kernel), ?_⟩
  exact trivial
theorem cr_Camping_init (G : cm_G) {k : Nat} (hk : 1 ≤ k) (av : List Value) (σ σ' : cm_S) (h : gf_Camping_init av σ = some σ') : cm_Ret G k Y_Camping_init 1 9 av σ σ' := cm_intro (xv_Camping_init G hk) (by decide) rfl (fun _ => rfl) h
theorem yi_Net_init : cm_yI Y_Net_init 2 := ⟨⟨(tb1 11 (by decide +kernel) rfl), (tb2 44 (by decide +kernel) rfl), ⟨by decide +kernel, by decide +kernel, by decide +kernel⟩, by decide +kernel⟩, (tb2 43 (by decide +kernel) rfl), rfl⟩
def X_Net_init : cm_P := [(0, 1, some (xLa 0)), (1, 3, some (xObj)), (4, 1, some (xLa 0)), (5, 2, some (xI 18)), (7, 2, some (xNewa 4 72 0)), (9, 3, some (xPut 9 3 (kT 9 3))), (12, 1, some (xLa 0)), (13, 2, some (xI 18)), (15, 2, some (xNewa 4 72 0)), (17, 3, some (xPut 9 4 (kT 9 4))), (20, 1, some (xLa 0)), (21, 2, some (xI 18)), (23, 2, some (xNewa 4 72 0)), (25, 3, some (xPut 9 6 (kT 9 6))), (28, 1, some (xLa 0)), (29, 2, some (xI 18)), (31, 2, some (xNewa 4 72 0)), (33, 3, some (xPut 9 7 (kT 9 7))), (36, 1, some (xLa 0)), (37, 1, some (xLa 1)), (38, 3, some (xPut 9 0 (kT 9 0))), (41, 1, some (xLa 0)), (42, 1, some (xLa 2)), (43, 3, some (xPut 9 1 (kT 9 1))), (46, 1, none)]
def gf_Net_init : List Value → cm_S → Option cm_S := cm_fn X_Net_init 4 72 Y_Net_init.2.2.1 2000
set_option maxRecDepth 20000 in
theorem xv_Net_init (G : cm_G) {k : Nat} (hk : 1 ≤ k) : cm_pv G k 4 72 Y_Net_init.2.1 Y_Net_init.2.2.1 Y_Net_init.1.cls true X_Net_init := by
  refine ⟨x_aload_n (q := 0) (by decide +kernel) rfl, ?_⟩
  refine ⟨x_obj (idx := 3) (by omega) (tb2 45 (by decide +kernel) rfl) (tb1 28 (by decide +kernel) rfl) (tb1 29 (by decide +kernel) rfl) (by decide +kernel), ?_⟩
  refine ⟨x_aload_n (q := 0) (by decide +kernel) rfl, ?_⟩
  refine ⟨x_bipush (n := 18) (by decide +kernel) (by decide +kernel), ?_⟩
  refine ⟨x_newi (tb1 54 (by decide +kernel) rfl) (by decide +kernel), ?_⟩
  refine ⟨x_put (idx := 11) ⟨_, rfl, by decide, rfl, (tb2 50 (by decide +kernel) rfl), by decide +kernel, Or.inr ⟨rfl, rfl, rfl⟩⟩ (by decide +kernel), ?_⟩
  refine ⟨x_aload_n (q := 0) (by decide +kernel) rfl, ?_⟩
  refine ⟨x_bipush (n := 18) (by decide +kernel) (by decide +kernel), ?_⟩
  refine ⟨x_newi (tb1 54 (by decide +kernel) rfl) (by decide +kernel), ?_⟩
  refine ⟨x_put (idx := 15) ⟨_, rfl, by decide, rfl, (tb2 52 (by decide +kernel) rfl), by decide +kernel, Or.inr ⟨rfl, rfl, rfl⟩⟩ (by decide +kernel), ?_⟩
  refine ⟨x_aload_n (q := 0) (by decide +kernel) rfl, ?_⟩
  refine ⟨x_bipush (n := 18) (by decide +kernel) (by decide +kernel), ?_⟩
  refine ⟨x_newi (tb1 54 (by decide +kernel) rfl) (by decide +kernel), ?_⟩
  refine ⟨x_put (idx := 18) ⟨_, rfl, by decide, rfl, (tb2 54 (by decide +kernel) rfl), by decide +kernel, Or.inr ⟨rfl, rfl, rfl⟩⟩ (by decide +kernel), ?_⟩
  refine ⟨x_aload_n (q := 0) (by decide +kernel) rfl, ?_⟩
  refine ⟨x_bipush (n := 18) (by decide +kernel) (by decide +kernel), ?_⟩
  refine ⟨x_newi (tb1 54 (by decide +kernel) rfl) (by decide +kernel), ?_⟩
  refine ⟨x_put (idx := 21) ⟨_, rfl, by decide, rfl, (tb2 55 (by decide +kernel) rfl), by decide +kernel, Or.inr ⟨rfl, rfl, rfl⟩⟩ (by decide +kernel), ?_⟩
  refine ⟨x_aload_n (q := 0) (by decide +kernel) rfl, ?_⟩
  refine ⟨x_aload_n (q := 1) (by decide +kernel) rfl, ?_⟩
  refine ⟨x_put (idx := 24) ⟨_, rfl, by decide, rfl, (tb2 46 (by decide +kernel) rfl), by decide +kernel, Or.inr ⟨rfl, rfl, rfl⟩⟩ (by decide +kernel), ?_⟩
  refine ⟨x_aload_n (q := 0) (by decide +kernel) rfl, ?_⟩
  refine ⟨x_aload_n (q := 2) (by decide +kernel) rfl, ?_⟩
  refine ⟨x_put (idx := 28) ⟨_, rfl, by decide, rfl, (tb2 47 (by decide +kernel) rfl), by decide +kernel, Or.inr ⟨rfl, rfl, rfl⟩⟩ (by decide +kernel), ?_⟩
  refine ⟨(by decide +kernel), ?_⟩
  exact trivial
theorem cr_Net_init (G : cm_G) {k : Nat} (hk : 1 ≤ k) (av : List Value) (σ σ' : cm_S) (h : gf_Net_init av σ = some σ') : cm_Ret G k Y_Net_init 4 72 av σ σ' := cm_intro (xv_Net_init G hk) (by decide) rfl (fun _ => rfl) h
theorem yi_Best_init : cm_yI Y_Best_init 3 := ⟨⟨(tb1 12 (by decide +kernel) rfl), (tb2 77 (by decide +kernel) rfl), ⟨by decide +kernel, by decide +kernel, by decide +kernel⟩, by decide +kernel⟩, (tb2 76 (by decide +kernel) rfl), rfl⟩
def X_Best_init : cm_P := [(0, 1, some (xLa 0)), (1, 3, some (xObj)), (4, 1, some (xLa 0)), (5, 3, some (xI 256)), (8, 2, some (xNewa 2 265 0)), (10, 3, some (xPut 10 5 (kT 10 5))), (13, 1, some (xLa 0)), (14, 2, some (xI 9)), (16, 2, some (xNewa 2 265 0)), (18, 3, some (xPut 10 6 (kT 10 6))), (21, 1, some (xLa 0)), (22, 1, some (xLa 1)), (23, 3, some (xPut 10 0 (kT 10 0))), (26, 1, some (xLa 0)), (27, 1, some (xLa 2)), (28, 3, some (xPut 10 1 (kT 10 1))), (31, 1, some (xLa 0)), (32, 1, some (xLa 3)), (33, 3, some (xPut 10 2 (kT 10 2))), (36, 1, none)]
def gf_Best_init : List Value → cm_S → Option cm_S := cm_fn X_Best_init 2 265 Y_Best_init.2.2.1 2000
set_option maxRecDepth 20000 in
theorem xv_Best_init (G : cm_G) {k : Nat} (hk : 1 ≤ k) : cm_pv G k 2 265 Y_Best_init.2.1 Y_Best_init.2.2.1 Y_Best_init.1.cls true X_Best_init := by
  refine ⟨x_aload_n (q := 0) (by decide +kernel) rfl, ?_⟩
  refine ⟨x_obj (idx := 3) (by omega) (tb2 78 (by decide +kernel) rfl) (tb1 28 (by decide +kernel) rfl) (tb1 29 (by decide +kernel) rfl) (by decide +kernel), ?_⟩
  refine ⟨x_aload_n (q := 0) (by decide +kernel) rfl, ?_⟩
  refine ⟨x_sipush (n := 256) (by decide +kernel) (by decide +kernel), ?_⟩
  refine ⟨x_newi (tb1 54 (by decide +kernel) rfl) (by decide +kernel), ?_⟩
  refine ⟨x_put (idx := 9) ⟨_, rfl, by decide, rfl, (tb2 86 (by decide +kernel) rfl), by decide +kernel, Or.inr ⟨rfl, rfl, rfl⟩⟩ (by decide +kernel), ?_⟩
  refine ⟨x_aload_n (q := 0) (by decide +kernel) rfl, ?_⟩
  refine ⟨x_bipush (n := 9) (by decide +kernel) (by decide +kernel), ?_⟩
  refine ⟨x_newi (tb1 54 (by decide +kernel) rfl) (by decide +kernel), ?_⟩
  refine ⟨x_put (idx := 15) ⟨_, rfl, by decide, rfl, (tb2 88 (by decide +kernel) rfl), by decide +kernel, Or.inr ⟨rfl, rfl, rfl⟩⟩ (by decide +kernel), ?_⟩
  refine ⟨x_aload_n (q := 0) (by decide +kernel) rfl, ?_⟩
  refine ⟨x_aload_n (q := 1) (by decide +kernel) rfl, ?_⟩
  refine ⟨x_put (idx := 18) ⟨_, rfl, by decide, rfl, (tb2 79 (by decide +kernel) rfl), by decide +kernel, Or.inr ⟨rfl, rfl, rfl⟩⟩ (by decide +kernel), ?_⟩
  refine ⟨x_aload_n (q := 0) (by decide +kernel) rfl, ?_⟩
  refine ⟨x_aload_n (q := 2) (by decide +kernel) rfl, ?_⟩
  refine ⟨x_put (idx := 22) ⟨_, rfl, by decide, rfl, (tb2 80 (by decide +kernel) rfl), by decide +kernel, Or.inr ⟨rfl, rfl, rfl⟩⟩ (by decide +kernel), ?_⟩
  refine ⟨x_aload_n (q := 0) (by decide +kernel) rfl, ?_⟩
  refine ⟨x_aload_n (q := 3) (by decide +kernel) rfl, ?_⟩
  refine ⟨x_put (idx := 26) ⟨_, rfl, by decide, rfl, (tb2 81 (by decide +kernel) rfl), by decide +kernel, Or.inr ⟨rfl, rfl, rfl⟩⟩ (by decide +kernel), ?_⟩
  refine ⟨(by decide +kernel), ?_⟩
  exact trivial
theorem cr_Best_init (G : cm_G) {k : Nat} (hk : 1 ≤ k) (av : List Value) (σ σ' : cm_S) (h : gf_Best_init av σ = some σ') : cm_Ret G k Y_Best_init 2 265 av σ σ' := cm_intro (xv_Best_init G hk) (by decide) rfl (fun _ => rfl) h
theorem yi_Feelings_init : cm_yI Y_Feelings_init 0 := ⟨⟨(tb1 3 (by decide +kernel) rfl), (tb1 59 (by decide +kernel) rfl), ⟨by decide +kernel, by decide +kernel, by decide +kernel⟩, by decide +kernel⟩, (tb1 58 (by decide +kernel) rfl), rfl⟩
def X_Feelings_init : cm_P := [(0, 1, some (xLa 0)), (1, 3, some (xObj)), (4, 1, some (xLa 0)), (5, 2, some (xI 36)), (7, 2, some (xNewa 7 297 0)), (9, 3, some (xPut 2 1 (kT 2 1))), (12, 1, some (xLa 0)), (13, 2, some (xI 36)), (15, 2, some (xNewa 7 297 0)), (17, 3, some (xPut 2 2 (kT 2 2))), (20, 1, some (xLa 0)), (21, 2, some (xI 36)), (23, 2, some (xNewa 7 297 0)), (25, 3, some (xPut 2 3 (kT 2 3))), (28, 1, some (xLa 0)), (29, 2, some (xI 36)), (31, 2, some (xNewa 7 297 0)), (33, 3, some (xPut 2 4 (kT 2 4))), (36, 1, some (xLa 0)), (37, 2, some (xI 36)), (39, 2, some (xNewa 7 297 0)), (41, 3, some (xPut 2 5 (kT 2 5))), (44, 1, some (xLa 0)), (45, 2, some (xI 81)), (47, 2, some (xNewa 7 297 0)), (49, 3, some (xPut 2 6 (kT 2 6))), (52, 1, some (xLa 0)), (53, 2, some (xI 36)), (55, 2, some (xNewa 7 297 0)), (57, 3, some (xPut 2 7 (kT 2 7))), (60, 1, some (xLa 0)), (61, 3, some (xGet 2 6)), (64, 1, some (xI (-1))), (65, 3, some (xCal 7 297 0 0 2 gf_Arr_fill)), (68, 1, none)]
def gf_Feelings_init : List Value → cm_S → Option cm_S := cm_fn X_Feelings_init 7 297 Y_Feelings_init.2.2.1 2000
set_option maxRecDepth 20000 in
theorem xv_Feelings_init (G : cm_G) {k : Nat} (hk : 1 ≤ k) : cm_pv G k 7 297 Y_Feelings_init.2.1 Y_Feelings_init.2.2.1 Y_Feelings_init.1.cls true X_Feelings_init := by
  refine ⟨x_aload_n (q := 0) (by decide +kernel) rfl, ?_⟩
  refine ⟨x_obj (idx := 3) (by omega) (tb1 60 (by decide +kernel) rfl) (tb1 28 (by decide +kernel) rfl) (tb1 29 (by decide +kernel) rfl) (by decide +kernel), ?_⟩
  refine ⟨x_aload_n (q := 0) (by decide +kernel) rfl, ?_⟩
  refine ⟨x_bipush (n := 36) (by decide +kernel) (by decide +kernel), ?_⟩
  refine ⟨x_newi (tb1 54 (by decide +kernel) rfl) (by decide +kernel), ?_⟩
  refine ⟨x_put (idx := 9) ⟨_, rfl, by decide, rfl, (tb1 70 (by decide +kernel) rfl), by decide +kernel, Or.inr ⟨rfl, rfl, rfl⟩⟩ (by decide +kernel), ?_⟩
  refine ⟨x_aload_n (q := 0) (by decide +kernel) rfl, ?_⟩
  refine ⟨x_bipush (n := 36) (by decide +kernel) (by decide +kernel), ?_⟩
  refine ⟨x_newi (tb1 54 (by decide +kernel) rfl) (by decide +kernel), ?_⟩
  refine ⟨x_put (idx := 15) ⟨_, rfl, by decide, rfl, (tb1 74 (by decide +kernel) rfl), by decide +kernel, Or.inr ⟨rfl, rfl, rfl⟩⟩ (by decide +kernel), ?_⟩
  refine ⟨x_aload_n (q := 0) (by decide +kernel) rfl, ?_⟩
  refine ⟨x_bipush (n := 36) (by decide +kernel) (by decide +kernel), ?_⟩
  refine ⟨x_newi (tb1 54 (by decide +kernel) rfl) (by decide +kernel), ?_⟩
  refine ⟨x_put (idx := 18) ⟨_, rfl, by decide, rfl, (tb1 78 (by decide +kernel) rfl), by decide +kernel, Or.inr ⟨rfl, rfl, rfl⟩⟩ (by decide +kernel), ?_⟩
  refine ⟨x_aload_n (q := 0) (by decide +kernel) rfl, ?_⟩
  refine ⟨x_bipush (n := 36) (by decide +kernel) (by decide +kernel), ?_⟩
  refine ⟨x_newi (tb1 54 (by decide +kernel) rfl) (by decide +kernel), ?_⟩
  refine ⟨x_put (idx := 21) ⟨_, rfl, by decide, rfl, (tb1 83 (by decide +kernel) rfl), by decide +kernel, Or.inr ⟨rfl, rfl, rfl⟩⟩ (by decide +kernel), ?_⟩
  refine ⟨x_aload_n (q := 0) (by decide +kernel) rfl, ?_⟩
  refine ⟨x_bipush (n := 36) (by decide +kernel) (by decide +kernel), ?_⟩
  refine ⟨x_newi (tb1 54 (by decide +kernel) rfl) (by decide +kernel), ?_⟩
  refine ⟨x_put (idx := 24) ⟨_, rfl, by decide, rfl, (tb1 86 (by decide +kernel) rfl), by decide +kernel, Or.inr ⟨rfl, rfl, rfl⟩⟩ (by decide +kernel), ?_⟩
  refine ⟨x_aload_n (q := 0) (by decide +kernel) rfl, ?_⟩
  refine ⟨x_bipush (n := 81) (by decide +kernel) (by decide +kernel), ?_⟩
  refine ⟨x_newi (tb1 54 (by decide +kernel) rfl) (by decide +kernel), ?_⟩
  refine ⟨x_put (idx := 27) ⟨_, rfl, by decide, rfl, (tb1 89 (by decide +kernel) rfl), by decide +kernel, Or.inr ⟨rfl, rfl, rfl⟩⟩ (by decide +kernel), ?_⟩
  refine ⟨x_aload_n (q := 0) (by decide +kernel) rfl, ?_⟩
  refine ⟨x_bipush (n := 36) (by decide +kernel) (by decide +kernel), ?_⟩
  refine ⟨x_newi (tb1 54 (by decide +kernel) rfl) (by decide +kernel), ?_⟩
  refine ⟨x_put (idx := 30) ⟨_, rfl, by decide, rfl, (tb1 90 (by decide +kernel) rfl), by decide +kernel, Or.inr ⟨rfl, rfl, rfl⟩⟩ (by decide +kernel), ?_⟩
  refine ⟨x_aload_n (q := 0) (by decide +kernel) rfl, ?_⟩
  refine ⟨x_get fl_Feelings_27 (by decide +kernel), ?_⟩
  refine ⟨x_iconst (n := -1) (by decide +kernel) rfl, ?_⟩
  refine ⟨x_stat (idx := 33) (k' := 0) ys_Arr_fill (cr_Arr_fill G (by decide)) (by omega) (tb1 61 (by decide +kernel) rfl) (by decide +kernel), ?_⟩
  refine ⟨(by decide +kernel), ?_⟩
  exact trivial
theorem cr_Feelings_init (G : cm_G) {k : Nat} (hk : 1 ≤ k) (av : List Value) (σ σ' : cm_S) (h : gf_Feelings_init av σ = some σ') : cm_Ret G k Y_Feelings_init 7 297 av σ σ' := cm_intro (xv_Feelings_init G hk) (by decide) rfl (fun _ => rfl) h
theorem yi_Law_init : cm_yI Y_Law_init 1 := ⟨⟨(tb1 6 (by decide +kernel) rfl), (tb1 127 (by decide +kernel) rfl), ⟨by decide +kernel, by decide +kernel, by decide +kernel⟩, by decide +kernel⟩, (tb1 126 (by decide +kernel) rfl), rfl⟩
def X_Law_init : cm_P := [(0, 1, some (xLa 0)), (1, 3, some (xObj)), (4, 1, some (xLa 0)), (5, 2, some (xI 6)), (7, 3, some (xNewq 16 1216 3)), (10, 3, some (xPut 4 1 (kT 4 1))), (13, 1, some (xLa 0)), (14, 1, some (xI 1)), (15, 3, some (xPut 4 2 (kT 4 2))), (18, 1, some (xLa 0)), (19, 2, some (xI 36)), (21, 2, some (xNewa 16 1216 0)), (23, 3, some (xPut 4 4 (kT 4 4))), (26, 1, some (xLa 0)), (27, 2, some (xI 36)), (29, 2, some (xNewa 16 1216 1)), (31, 3, some (xPut 4 5 (kT 4 5))), (34, 1, some (xLa 0)), (35, 3, some (xI 160)), (38, 2, some (xNewa 16 1216 0)), (40, 3, some (xPut 4 6 (kT 4 6))), (43, 1, some (xLa 0)), (44, 1, some (xLa 1)), (45, 3, some (xPut 4 0 (kT 4 0))), (48, 1, some (xI 0)), (49, 1, some (xSi 2)), (50, 1, some (xLi 2)), (51, 2, some (xI 6)), (53, 3, some (xCge 75)), (56, 1, some (xLa 0)), (57, 3, some (xGet 4 1)), (60, 1, some (xLi 2)), (61, 3, some (xNew 16 1216 5 3)), (64, 1, some (xDup)), (65, 3, some (xCalo 16 1216 1 160 5 0 gf_Text_init)), (68, 1, some (xAast 3 5)), (69, 3, some (xInc 2 1)), (72, 3, some (xGo 50)), (75, 1, some (xLa 0)), (76, 3, some (xGet 4 1)), (79, 1, some (xI 0)), (80, 1, some (xAa 3)), (81, 2, some (xI (-9))), (83, 3, some (xCalo 16 1216 0 0 5 1 gf_Text_add)), (86, 1, some (xLa 0)), (87, 3, some (xGet 4 1)), (90, 1, some (xI 0)), (91, 1, some (xAa 3)), (92, 3, some (xCalo 16 1216 0 0 5 0 gf_Text_endCost)), (95, 1, some (xLa 0)), (96, 3, some (xGet 4 1)), (99, 1, some (xI 0)), (100, 1, some (xAa 3)), (101, 2, some (xI (-12))), (103, 3, some (xCalo 16 1216 0 0 5 1 gf_Text_add)), (106, 1, some (xLa 0)), (107, 3, some (xGet 4 1)), (110, 1, some (xI 0)), (111, 1, some (xAa 3)), (112, 2, some (xI (-7))), (114, 3, some (xCalo 16 1216 0 0 5 1 gf_Text_add)), (117, 1, none)]
def gf_Law_init : List Value → cm_S → Option cm_S := cm_fn X_Law_init 16 1216 Y_Law_init.2.2.1 2000
set_option maxRecDepth 20000 in
theorem xv_Law_init (G : cm_G) {k : Nat} (hk : 2 ≤ k) : cm_pv G k 16 1216 Y_Law_init.2.1 Y_Law_init.2.2.1 Y_Law_init.1.cls true X_Law_init := by
  refine ⟨x_aload_n (q := 0) (by decide +kernel) rfl, ?_⟩
  refine ⟨x_obj (idx := 3) (by omega) (tb1 128 (by decide +kernel) rfl) (tb1 28 (by decide +kernel) rfl) (tb1 29 (by decide +kernel) rfl) (by decide +kernel), ?_⟩
  refine ⟨x_aload_n (q := 0) (by decide +kernel) rfl, ?_⟩
  refine ⟨x_bipush (n := 6) (by decide +kernel) (by decide +kernel), ?_⟩
  refine ⟨x_newq (idx := 9) (C0 := "TwoCamps$Text") (by decide +kernel) rfl (tb1 129 (by decide +kernel) rfl) (by decide +kernel), ?_⟩
  refine ⟨x_put (idx := 11) ⟨_, rfl, by decide, rfl, (tb1 159 (by decide +kernel) rfl), by decide +kernel, Or.inr ⟨rfl, rfl, rfl⟩⟩ (by decide +kernel), ?_⟩
  refine ⟨x_aload_n (q := 0) (by decide +kernel) rfl, ?_⟩
  refine ⟨x_iconst (n := 1) (by decide +kernel) rfl, ?_⟩
  refine ⟨x_put (idx := 17) ⟨_, rfl, by decide, rfl, (tb1 160 (by decide +kernel) rfl), by decide +kernel, Or.inl rfl⟩ (by decide +kernel), ?_⟩
  refine ⟨x_aload_n (q := 0) (by decide +kernel) rfl, ?_⟩
  refine ⟨x_bipush (n := 36) (by decide +kernel) (by decide +kernel), ?_⟩
  refine ⟨x_newi (tb1 54 (by decide +kernel) rfl) (by decide +kernel), ?_⟩
  refine ⟨x_put (idx := 21) ⟨_, rfl, by decide, rfl, (tb1 164 (by decide +kernel) rfl), by decide +kernel, Or.inr ⟨rfl, rfl, rfl⟩⟩ (by decide +kernel), ?_⟩
  refine ⟨x_aload_n (q := 0) (by decide +kernel) rfl, ?_⟩
  refine ⟨x_bipush (n := 36) (by decide +kernel) (by decide +kernel), ?_⟩
  refine ⟨x_newz (tb1 149 (by decide +kernel) rfl) (by decide +kernel), ?_⟩
  refine ⟨x_put (idx := 25) ⟨_, rfl, by decide, rfl, (tb1 167 (by decide +kernel) rfl), by decide +kernel, Or.inr ⟨rfl, rfl, rfl⟩⟩ (by decide +kernel), ?_⟩
  refine ⟨x_aload_n (q := 0) (by decide +kernel) rfl, ?_⟩
  refine ⟨x_sipush (n := 160) (by decide +kernel) (by decide +kernel), ?_⟩
  refine ⟨x_newi (tb1 54 (by decide +kernel) rfl) (by decide +kernel), ?_⟩
  refine ⟨x_put (idx := 29) ⟨_, rfl, by decide, rfl, (tb1 170 (by decide +kernel) rfl), by decide +kernel, Or.inr ⟨rfl, rfl, rfl⟩⟩ (by decide +kernel), ?_⟩
  refine ⟨x_aload_n (q := 0) (by decide +kernel) rfl, ?_⟩
  refine ⟨x_aload_n (q := 1) (by decide +kernel) rfl, ?_⟩
  refine ⟨x_put (idx := 32) ⟨_, rfl, by decide, rfl, (tb1 158 (by decide +kernel) rfl), by decide +kernel, Or.inr ⟨rfl, rfl, rfl⟩⟩ (by decide +kernel), ?_⟩
  refine ⟨x_iconst (n := 0) (by decide +kernel) rfl, ?_⟩
  refine ⟨x_istore_n (q := 2) (by decide +kernel) rfl, ?_⟩
  refine ⟨x_iload_n (q := 2) (by decide +kernel) rfl, ?_⟩
  refine ⟨x_bipush (n := 6) (by decide +kernel) (by decide +kernel), ?_⟩
  refine ⟨x_ic_ge (off := 22) (by decide +kernel) rfl, ?_⟩
  refine ⟨x_aload_n (q := 0) (by decide +kernel) rfl, ?_⟩
  refine ⟨x_get fl_Law_11 (by decide +kernel), ?_⟩
  refine ⟨x_iload_n (q := 2) (by decide +kernel) rfl, ?_⟩
  refine ⟨x_new (idx := 9) (ci := 5) rfl (tb1 129 (by decide +kernel) rfl) (tb1 131 (by decide +kernel) rfl) (tb1 7 (by decide +kernel) rfl) (by decide +kernel), ?_⟩
  refine ⟨x_dup (by decide +kernel), ?_⟩
  refine ⟨x_initN (idx := 36) (host := "TwoCamps") (k' := 1) yi_Text_init rfl (cr_Text_init G (by decide)) (by omega) (List.mem_of_getElem? (i := 2) (by decide +kernel)) (by decide +kernel), ?_⟩
  refine ⟨x_aast (kd := 3) (ci := 5) rfl rfl (by decide +kernel), ?_⟩
  refine ⟨x_iinc (n := 1) (by decide +kernel) (by decide +kernel), ?_⟩
  refine ⟨x_goto (off := -22) (by decide +kernel) rfl, ?_⟩
  refine ⟨x_aload_n (q := 0) (by decide +kernel) rfl, ?_⟩
  refine ⟨x_get fl_Law_11 (by decide +kernel), ?_⟩
  refine ⟨x_iconst (n := 0) (by decide +kernel) rfl, ?_⟩
  refine ⟨x_aa rfl (by decide +kernel), ?_⟩
  refine ⟨x_bipush (n := -9) (by decide +kernel) (by decide +kernel), ?_⟩
  refine ⟨x_virt (idx := 37) (k' := 0) yv_Text_add (cr_Text_add G (by decide)) (by omega) rfl rfl (tb1 150 (by decide +kernel) rfl) (by decide +kernel), ?_⟩
  refine ⟨x_aload_n (q := 0) (by decide +kernel) rfl, ?_⟩
  refine ⟨x_get fl_Law_11 (by decide +kernel), ?_⟩
  refine ⟨x_iconst (n := 0) (by decide +kernel) rfl, ?_⟩
  refine ⟨x_aa rfl (by decide +kernel), ?_⟩
  refine ⟨x_virt (idx := 41) (k' := 0) yv_Text_endCost (cr_Text_endCost G (by decide)) (by omega) rfl rfl (tb1 154 (by decide +kernel) rfl) (by decide +kernel), ?_⟩
  refine ⟨x_aload_n (q := 0) (by decide +kernel) rfl, ?_⟩
  refine ⟨x_get fl_Law_11 (by decide +kernel), ?_⟩
  refine ⟨x_iconst (n := 0) (by decide +kernel) rfl, ?_⟩
  refine ⟨x_aa rfl (by decide +kernel), ?_⟩
  refine ⟨x_bipush (n := -12) (by decide +kernel) (by decide +kernel), ?_⟩
  refine ⟨x_virt (idx := 37) (k' := 0) yv_Text_add (cr_Text_add G (by decide)) (by omega) rfl rfl (tb1 150 (by decide +kernel) rfl) (by decide +kernel), ?_⟩
  refine ⟨x_aload_n (q := 0) (by decide +kernel) rfl, ?_⟩
  refine ⟨x_get fl_Law_11 (by decide +kernel), ?_⟩
  refine ⟨x_iconst (n := 0) (by decide +kernel) rfl, ?_⟩
  refine ⟨x_aa rfl (by decide +kernel), ?_⟩
  refine ⟨x_bipush (n := -7) (by decide +kernel) (by decide +kernel), ?_⟩
  refine ⟨x_virt (idx := 37) (k' := 0) yv_Text_add (cr_Text_add G (by decide)) (by omega) rfl rfl (tb1 150 (by decide +kernel) rfl) (by decide +kernel), ?_⟩
  refine ⟨(by decide +kernel), ?_⟩
  exact trivial
theorem cr_Law_init (G : cm_G) {k : Nat} (hk : 2 ≤ k) (av : List Value) (σ σ' : cm_S) (h : gf_Law_init av σ = some σ') : cm_Ret G k Y_Law_init 16 1216 av σ σ' := cm_intro (xv_Law_init G hk) (by decide) rfl (fun _ => rfl) h
theorem yi_TextReader_init : cm_yI Y_TextReader_init 1 := ⟨⟨(tb1 8 (by decide +kernel) rfl), (tb1 193 (by decide +kernel) rfl), ⟨by decide +kernel, by decide +kernel, by decide +kernel⟩, by decide +kernel⟩, (tb1 192 (by decide +kernel) rfl), rfl⟩
def X_TextReader_init : cm_P := [(0, 1, some (xLa 0)), (1, 3, some (xObj)), (4, 1, some (xLa 0)), (5, 3, some (xI 161)), (8, 2, some (xNewa 4 485 0)), (10, 3, some (xPut 6 1 (kT 6 1))), (13, 1, some (xLa 0)), (14, 3, some (xI 161)), (17, 2, some (xNewa 4 485 0)), (19, 3, some (xPut 6 2 (kT 6 2))), (22, 1, some (xLa 0)), (23, 3, some (xNew 4 485 5 3)), (26, 1, some (xDup)), (27, 3, some (xCalo 4 485 1 160 5 0 gf_Text_init)), (30, 3, some (xPut 6 5 (kT 6 5))), (33, 1, some (xLa 0)), (34, 1, some (xLa 1)), (35, 3, some (xPut 6 0 (kT 6 0))), (38, 1, none)]
def gf_TextReader_init : List Value → cm_S → Option cm_S := cm_fn X_TextReader_init 4 485 Y_TextReader_init.2.2.1 2000
set_option maxRecDepth 20000 in
theorem xv_TextReader_init (G : cm_G) {k : Nat} (hk : 2 ≤ k) : cm_pv G k 4 485 Y_TextReader_init.2.1 Y_TextReader_init.2.2.1 Y_TextReader_init.1.cls true X_TextReader_init := by
  refine ⟨x_aload_n (q := 0) (by decide +kernel) rfl, ?_⟩
  refine ⟨x_obj (idx := 3) (by omega) (tb1 194 (by decide +kernel) rfl) (tb1 28 (by decide +kernel) rfl) (tb1 29 (by decide +kernel) rfl) (by decide +kernel), ?_⟩
  refine ⟨x_aload_n (q := 0) (by decide +kernel) rfl, ?_⟩
  refine ⟨x_sipush (n := 161) (by decide +kernel) (by decide +kernel), ?_⟩
  refine ⟨x_newi (tb1 54 (by decide +kernel) rfl) (by decide +kernel), ?_⟩
  refine ⟨x_put (idx := 11) ⟨_, rfl, by decide, rfl, (tb1 198 (by decide +kernel) rfl), by decide +kernel, Or.inr ⟨rfl, rfl, rfl⟩⟩ (by decide +kernel), ?_⟩
  refine ⟨x_aload_n (q := 0) (by decide +kernel) rfl, ?_⟩
  refine ⟨x_sipush (n := 161) (by decide +kernel) (by decide +kernel), ?_⟩
  refine ⟨x_newi (tb1 54 (by decide +kernel) rfl) (by decide +kernel), ?_⟩
  refine ⟨x_put (idx := 15) ⟨_, rfl, by decide, rfl, (tb1 199 (by decide +kernel) rfl), by decide +kernel, Or.inr ⟨rfl, rfl, rfl⟩⟩ (by decide +kernel), ?_⟩
  refine ⟨x_aload_n (q := 0) (by decide +kernel) rfl, ?_⟩
  refine ⟨x_new (idx := 18) (ci := 5) rfl (tb1 195 (by decide +kernel) rfl) (tb1 131 (by decide +kernel) rfl) (tb1 7 (by decide +kernel) rfl) (by decide +kernel), ?_⟩
  refine ⟨x_dup (by decide +kernel), ?_⟩
  refine ⟨x_initN (idx := 20) (host := "TwoCamps") (k' := 1) yi_Text_init rfl (cr_Text_init G (by decide)) (by omega) (List.mem_of_getElem? (i := 3) (by decide +kernel)) (by decide +kernel), ?_⟩
  refine ⟨x_put (idx := 21) ⟨_, rfl, by decide, rfl, (tb1 202 (by decide +kernel) rfl), by decide +kernel, Or.inr ⟨rfl, rfl, rfl⟩⟩ (by decide +kernel), ?_⟩
  refine ⟨x_aload_n (q := 0) (by decide +kernel) rfl, ?_⟩
  refine ⟨x_aload_n (q := 1) (by decide +kernel) rfl, ?_⟩
  refine ⟨x_put (idx := 25) ⟨_, rfl, by decide, rfl, (tb1 197 (by decide +kernel) rfl), by decide +kernel, Or.inr ⟨rfl, rfl, rfl⟩⟩ (by decide +kernel), ?_⟩
  refine ⟨(by decide +kernel), ?_⟩
  exact trivial
theorem cr_TextReader_init (G : cm_G) {k : Nat} (hk : 2 ≤ k) (av : List Value) (σ σ' : cm_S) (h : gf_TextReader_init av σ = some σ') : cm_Ret G k Y_TextReader_init 4 485 av σ σ' := cm_intro (xv_TextReader_init G hk) (by decide) rfl (fun _ => rfl) h
theorem yi_TC_init : cm_yI Y_TC_init 0 := ⟨⟨(tb1 1 (by decide +kernel) rfl), (tb1 26 (by decide +kernel) rfl), ⟨by decide +kernel, by decide +kernel, by decide +kernel⟩, by decide +kernel⟩, (tb1 25 (by decide +kernel) rfl), rfl⟩
def X_TC_init : cm_P := [(0, 1, some (xLa 0)), (1, 3, some (xObj)), (4, 1, some (xLa 0)), (5, 3, some (xNew 87 3243 1 3)), (8, 1, some (xDup)), (9, 3, some (xCalo 87 3243 2 18 1 0 gf_People_init)), (12, 3, some (xPut 0 0 (kT 0 0))), (15, 1, some (xLa 0)), (16, 3, some (xNew 87 3243 1 3)), (19, 1, some (xDup)), (20, 3, some (xCalo 87 3243 2 18 1 0 gf_People_init)), (23, 3, some (xPut 0 1 (kT 0 1))), (26, 1, some (xLa 0)), (27, 3, some (xNew 87 3243 2 8)), (30, 1, some (xDup)), (31, 3, some (xCalo 87 3243 7 297 2 0 gf_Feelings_init)), (34, 3, some (xPut 0 2 (kT 0 2))), (37, 1, some (xLa 0)), (38, 3, some (xNew 87 3243 2 8)), (41, 1, some (xDup)), (42, 3, some (xCalo 87 3243 7 297 2 0 gf_Feelings_init)), (45, 3, some (xPut 0 3 (kT 0 3))), (48, 1, some (xLa 0)), (49, 3, some (xNew 87 3243 3 2)), (52, 1, some (xDup)), (53, 3, some (xCalo 87 3243 1 160 3 0 gf_Tape_init)), (56, 3, some (xPut 0 6 (kT 0 6))), (59, 1, some (xLa 0)), (60, 3, some (xNew 87 3243 4 8)), (63, 1, some (xDup)), (64, 1, some (xLa 0)), (65, 3, some (xGet 0 2)), (68, 3, some (xCalo 87 3243 16 1216 4 1 gf_Law_init)), (71, 3, some (xPut 0 7 (kT 0 7))), (74, 1, some (xLa 0)), (75, 3, some (xNew 87 3243 6 6)), (78, 1, some (xDup)), (79, 1, some (xLa 0)), (80, 3, some (xGet 0 6)), (83, 3, some (xCalo 87 3243 4 485 6 1 gf_TextReader_init)), (86, 3, some (xPut 0 8 (kT 0 8))), (89, 1, some (xLa 0)), (90, 3, some (xNew 87 3243 7 9)), (93, 1, some (xDup)), (94, 1, some (xLa 0)), (95, 3, some (xGet 0 6)), (98, 1, some (xLa 0)), (99, 3, some (xGet 0 0)), (102, 1, some (xLa 0)), (103, 3, some (xGet 0 2)), (106, 3, some (xCalo 87 3243 0 0 7 3 gf_StreetReader_init)), (109, 3, some (xPut 0 9 (kT 0 9))), (112, 1, some (xLa 0)), (113, 2, some (xI 10)), (115, 3, some (xNewq 87 3243 2)), (118, 3, some (xPut 0 10 (kT 0 10))), (121, 1, some (xI 0)), (122, 1, some (xSi 1)), (123, 1, some (xLi 1)), (124, 2, some (xI 10)), (126, 3, some (xCge 160)), (129, 1, some (xLa 0)), (130, 3, some (xGet 0 10)), (133, 1, some (xLi 1)), (134, 3, some (xNew 87 3243 8 6)), (137, 1, some (xDup)), (138, 1, some (xLa 0)), (139, 3, some (xGet 0 0)), (142, 1, some (xLa 0)), (143, 3, some (xGet 0 2)), (146, 1, some (xLa 0)), (147, 3, some (xGet 0 7)), (150, 3, some (xCalo 87 3243 1 9 8 3 gf_Camping_init)), (153, 1, some (xAast 2 8)), (154, 3, some (xInc 1 1)), (157, 3, some (xGo 123)), (160, 1, some (xLa 0)), (161, 3, some (xNew 87 3243 8 6)), (164, 1, some (xDup)), (165, 1, some (xLa 0)), (166, 3, some (xGet 0 0)), (169, 1, some (xLa 0)), (170, 3, some (xGet 0 2)), (173, 1, some (xLa 0)), (174, 3, some (xGet 0 7)), (177, 3, some (xCalo 87 3243 1 9 8 3 gf_Camping_init)), (180, 3, some (xPut 0 12 (kT 0 12))), (183, 1, some (xLa 0)), (184, 3, some (xNew 87 3243 9 8)), (187, 1, some (xDup)), (188, 1, some (xLa 0)), (189, 3, some (xGet 0 0)), (192, 1, some (xLa 0)), (193, 3, some (xGet 0 2)), (196, 3, some (xCalo 87 3243 4 72 9 2 gf_Net_init)), (199, 3, some (xPut 0 13 (kT 0 13))), (202, 1, some (xLa 0)), (203, 3, some (xNew 87 3243 10 9)), (206, 1, some (xDup)), (207, 1, some (xLa 0)), (208, 3, some (xGet 0 0)), (211, 1, some (xLa 0)), (212, 3, some (xGet 0 2)), (215, 1, some (xLa 0)), (216, 3, some (xGet 0 7)), (219, 3, some (xCalo 87 3243 2 265 10 3 gf_Best_init)), (222, 3, some (xPut 0 14 (kT 0 14))), (225, 1, some (xLa 0)), (226, 1, some (xI 4)), (227, 3, some (xNewq 87 3243 4)), (230, 3, some (xPut 0 15 (kT 0 15))), (233, 1, some (xI 0)), (234, 1, some (xSi 1)), (235, 1, some (xLi 1)), (236, 1, some (xI 4)), (237, 3, some (xCge 259)), (240, 1, some (xLa 0)), (241, 3, some (xGet 0 15)), (244, 1, some (xLi 1)), (245, 3, some (xNew 87 3243 11 3)), (248, 1, some (xDup)), (249, 3, some (xCalo 87 3243 1 40 11 0 gf_Sheet_init)), (252, 1, some (xAast 4 11)), (253, 3, some (xInc 1 1)), (256, 3, some (xGo 235)), (259, 1, none)]
def gf_TC_init : List Value → cm_S → Option cm_S := cm_fn X_TC_init 87 3243 Y_TC_init.2.2.1 2000
set_option maxRecDepth 20000 in
theorem xv_TC_init (G : cm_G) {k : Nat} (hk : 3 ≤ k) : cm_pv G k 87 3243 Y_TC_init.2.1 Y_TC_init.2.2.1 Y_TC_init.1.cls true X_TC_init := by
  refine ⟨x_aload_n (q := 0) (by decide +kernel) rfl, ?_⟩
  refine ⟨x_obj (idx := 1) (by omega) (tb1 27 (by decide +kernel) rfl) (tb1 28 (by decide +kernel) rfl) (tb1 29 (by decide +kernel) rfl) (by decide +kernel), ?_⟩
  refine ⟨x_aload_n (q := 0) (by decide +kernel) rfl, ?_⟩
  refine ⟨x_new (idx := 7) (ci := 1) rfl (tb1 30 (by decide +kernel) rfl) (tb1 31 (by decide +kernel) rfl) (tb1 2 (by decide +kernel) rfl) (by decide +kernel), ?_⟩
  refine ⟨x_dup (by decide +kernel), ?_⟩
  refine ⟨x_initN (idx := 9) (host := "TwoCamps") (k' := 1) yi_People_init rfl (cr_People_init G (by decide)) (by omega) (List.mem_of_getElem? (i := 0) (by decide +kernel)) (by decide +kernel), ?_⟩
  refine ⟨x_put (idx := 10) ⟨_, rfl, by decide, rfl, (tb2 132 (by decide +kernel) rfl), by decide +kernel, Or.inr ⟨rfl, rfl, rfl⟩⟩ (by decide +kernel), ?_⟩
  refine ⟨x_aload_n (q := 0) (by decide +kernel) rfl, ?_⟩
  refine ⟨x_new (idx := 7) (ci := 1) rfl (tb1 30 (by decide +kernel) rfl) (tb1 31 (by decide +kernel) rfl) (tb1 2 (by decide +kernel) rfl) (by decide +kernel), ?_⟩
  refine ⟨x_dup (by decide +kernel), ?_⟩
  refine ⟨x_initN (idx := 9) (host := "TwoCamps") (k' := 1) yi_People_init rfl (cr_People_init G (by decide)) (by omega) (List.mem_of_getElem? (i := 0) (by decide +kernel)) (by decide +kernel), ?_⟩
  refine ⟨x_put (idx := 16) ⟨_, rfl, by decide, rfl, (tb2 133 (by decide +kernel) rfl), by decide +kernel, Or.inr ⟨rfl, rfl, rfl⟩⟩ (by decide +kernel), ?_⟩
  refine ⟨x_aload_n (q := 0) (by decide +kernel) rfl, ?_⟩
  refine ⟨x_new (idx := 19) (ci := 2) rfl (tb1 55 (by decide +kernel) rfl) (tb1 56 (by decide +kernel) rfl) (tb1 3 (by decide +kernel) rfl) (by decide +kernel), ?_⟩
  refine ⟨x_dup (by decide +kernel), ?_⟩
  refine ⟨x_init (idx := 21) (k' := 1) yi_Feelings_init rfl (cr_Feelings_init G (by decide)) (by omega) (tb1 57 (by decide +kernel) rfl) (by decide +kernel), ?_⟩
  refine ⟨x_put (idx := 22) ⟨_, rfl, by decide, rfl, (tb2 134 (by decide +kernel) rfl), by decide +kernel, Or.inr ⟨rfl, rfl, rfl⟩⟩ (by decide +kernel), ?_⟩
  refine ⟨x_aload_n (q := 0) (by decide +kernel) rfl, ?_⟩
  refine ⟨x_new (idx := 19) (ci := 2) rfl (tb1 55 (by decide +kernel) rfl) (tb1 56 (by decide +kernel) rfl) (tb1 3 (by decide +kernel) rfl) (by decide +kernel), ?_⟩
  refine ⟨x_dup (by decide +kernel), ?_⟩
  refine ⟨x_init (idx := 21) (k' := 1) yi_Feelings_init rfl (cr_Feelings_init G (by decide)) (by omega) (tb1 57 (by decide +kernel) rfl) (by decide +kernel), ?_⟩
  refine ⟨x_put (idx := 26) ⟨_, rfl, by decide, rfl, (tb2 135 (by decide +kernel) rfl), by decide +kernel, Or.inr ⟨rfl, rfl, rfl⟩⟩ (by decide +kernel), ?_⟩
  refine ⟨x_aload_n (q := 0) (by decide +kernel) rfl, ?_⟩
  refine ⟨x_new (idx := 29) (ci := 3) rfl (tb1 108 (by decide +kernel) rfl) (tb1 109 (by decide +kernel) rfl) (tb1 5 (by decide +kernel) rfl) (by decide +kernel), ?_⟩
  refine ⟨x_dup (by decide +kernel), ?_⟩
  refine ⟨x_initN (idx := 31) (host := "TwoCamps") (k' := 1) yi_Tape_init rfl (cr_Tape_init G (by decide)) (by omega) (List.mem_of_getElem? (i := 1) (by decide +kernel)) (by decide +kernel), ?_⟩
  refine ⟨x_put (idx := 32) ⟨_, rfl, by decide, rfl, (tb2 138 (by decide +kernel) rfl), by decide +kernel, Or.inr ⟨rfl, rfl, rfl⟩⟩ (by decide +kernel), ?_⟩
  refine ⟨x_aload_n (q := 0) (by decide +kernel) rfl, ?_⟩
  refine ⟨x_new (idx := 36) (ci := 4) rfl (tb1 123 (by decide +kernel) rfl) (tb1 124 (by decide +kernel) rfl) (tb1 6 (by decide +kernel) rfl) (by decide +kernel), ?_⟩
  refine ⟨x_dup (by decide +kernel), ?_⟩
  refine ⟨x_aload_n (q := 0) (by decide +kernel) rfl, ?_⟩
  refine ⟨x_get fl_TC_22 (by decide +kernel), ?_⟩
  refine ⟨x_init (idx := 38) (k' := 2) yi_Law_init rfl (cr_Law_init G (by decide)) (by omega) (tb1 125 (by decide +kernel) rfl) (by decide +kernel), ?_⟩
  refine ⟨x_put (idx := 41) ⟨_, rfl, by decide, rfl, (tb2 139 (by decide +kernel) rfl), by decide +kernel, Or.inr ⟨rfl, rfl, rfl⟩⟩ (by decide +kernel), ?_⟩
  refine ⟨x_aload_n (q := 0) (by decide +kernel) rfl, ?_⟩
  refine ⟨x_new (idx := 45) (ci := 6) rfl (tb1 189 (by decide +kernel) rfl) (tb1 190 (by decide +kernel) rfl) (tb1 8 (by decide +kernel) rfl) (by decide +kernel), ?_⟩
  refine ⟨x_dup (by decide +kernel), ?_⟩
  refine ⟨x_aload_n (q := 0) (by decide +kernel) rfl, ?_⟩
  refine ⟨x_get fl_TC_32 (by decide +kernel), ?_⟩
  refine ⟨x_init (idx := 47) (k' := 2) yi_TextReader_init rfl (cr_TextReader_init G (by decide)) (by omega) (tb1 191 (by decide +kernel) rfl) (by decide +kernel), ?_⟩
  refine ⟨x_put (idx := 50) ⟨_, rfl, by decide, rfl, (tb2 140 (by decide +kernel) rfl), by decide +kernel, Or.inr ⟨rfl, rfl, rfl⟩⟩ (by decide +kernel), ?_⟩
  refine ⟨x_aload_n (q := 0) (by decide +kernel) rfl, ?_⟩
  refine ⟨x_new (idx := 54) (ci := 7) rfl (tb1 217 (by decide +kernel) rfl) (tb1 218 (by decide +kernel) rfl) (tb1 9 (by decide +kernel) rfl) (by decide +kernel), ?_⟩
  refine ⟨x_dup (by decide +kernel), ?_⟩
  refine ⟨x_aload_n (q := 0) (by decide +kernel) rfl, ?_⟩
  refine ⟨x_get fl_TC_32 (by decide +kernel), ?_⟩
  refine ⟨x_aload_n (q := 0) (by decide +kernel) rfl, ?_⟩
  refine ⟨x_get fl_TC_10 (by decide +kernel), ?_⟩
  refine ⟨x_aload_n (q := 0) (by decide +kernel) rfl, ?_⟩
  refine ⟨x_get fl_TC_22 (by decide +kernel), ?_⟩
  refine ⟨x_init (idx := 56) (k' := 1) yi_StreetReader_init rfl (cr_StreetReader_init G (by decide)) (by omega) (tb1 219 (by decide +kernel) rfl) (by decide +kernel), ?_⟩
  refine ⟨x_put (idx := 59) ⟨_, rfl, by decide, rfl, (tb2 141 (by decide +kernel) rfl), by decide +kernel, Or.inr ⟨rfl, rfl, rfl⟩⟩ (by decide +kernel), ?_⟩
  refine ⟨x_aload_n (q := 0) (by decide +kernel) rfl, ?_⟩
  refine ⟨x_bipush (n := 10) (by decide +kernel) (by decide +kernel), ?_⟩
  refine ⟨x_newq (idx := 63) (C0 := "TwoCamps$Camping") (by decide +kernel) rfl (tb2 12 (by decide +kernel) rfl) (by decide +kernel), ?_⟩
  refine ⟨x_put (idx := 65) ⟨_, rfl, by decide, rfl, (tb2 142 (by decide +kernel) rfl), by decide +kernel, Or.inr ⟨rfl, rfl, rfl⟩⟩ (by decide +kernel), ?_⟩
  refine ⟨x_iconst (n := 0) (by decide +kernel) rfl, ?_⟩
  refine ⟨x_istore_n (q := 1) (by decide +kernel) rfl, ?_⟩
  refine ⟨x_iload_n (q := 1) (by decide +kernel) rfl, ?_⟩
  refine ⟨x_bipush (n := 10) (by decide +kernel) (by decide +kernel), ?_⟩
  refine ⟨x_ic_ge (off := 34) (by decide +kernel) rfl, ?_⟩
  refine ⟨x_aload_n (q := 0) (by decide +kernel) rfl, ?_⟩
  refine ⟨x_get fl_TC_65 (by decide +kernel), ?_⟩
  refine ⟨x_iload_n (q := 1) (by decide +kernel) rfl, ?_⟩
  refine ⟨x_new (idx := 63) (ci := 8) rfl (tb2 12 (by decide +kernel) rfl) (tb2 14 (by decide +kernel) rfl) (tb1 10 (by decide +kernel) rfl) (by decide +kernel), ?_⟩
  refine ⟨x_dup (by decide +kernel), ?_⟩
  refine ⟨x_aload_n (q := 0) (by decide +kernel) rfl, ?_⟩
  refine ⟨x_get fl_TC_10 (by decide +kernel), ?_⟩
  refine ⟨x_aload_n (q := 0) (by decide +kernel) rfl, ?_⟩
  refine ⟨x_get fl_TC_22 (by decide +kernel), ?_⟩
  refine ⟨x_aload_n (q := 0) (by decide +kernel) rfl, ?_⟩
  refine ⟨x_get fl_TC_41 (by decide +kernel), ?_⟩
  refine ⟨x_init (idx := 69) (k' := 1) yi_Camping_init rfl (cr_Camping_init G (by decide)) (by omega) (tb2 15 (by decide +kernel) rfl) (by decide +kernel), ?_⟩
  refine ⟨x_aast (kd := 2) (ci := 8) rfl rfl (by decide +kernel), ?_⟩
  refine ⟨x_iinc (n := 1) (by decide +kernel) (by decide +kernel), ?_⟩
  refine ⟨x_goto (off := -34) (by decide +kernel) rfl, ?_⟩
  refine ⟨x_aload_n (q := 0) (by decide +kernel) rfl, ?_⟩
  refine ⟨x_new (idx := 63) (ci := 8) rfl (tb2 12 (by decide +kernel) rfl) (tb2 14 (by decide +kernel) rfl) (tb1 10 (by decide +kernel) rfl) (by decide +kernel), ?_⟩
  refine ⟨x_dup (by decide +kernel), ?_⟩
  refine ⟨x_aload_n (q := 0) (by decide +kernel) rfl, ?_⟩
  refine ⟨x_get fl_TC_10 (by decide +kernel), ?_⟩
  refine ⟨x_aload_n (q := 0) (by decide +kernel) rfl, ?_⟩
  refine ⟨x_get fl_TC_22 (by decide +kernel), ?_⟩
  refine ⟨x_aload_n (q := 0) (by decide +kernel) rfl, ?_⟩
  refine ⟨x_get fl_TC_41 (by decide +kernel), ?_⟩
  refine ⟨x_init (idx := 69) (k' := 1) yi_Camping_init rfl (cr_Camping_init G (by decide)) (by omega) (tb2 15 (by decide +kernel) rfl) (by decide +kernel), ?_⟩
  refine ⟨x_put (idx := 72) ⟨_, rfl, by decide, rfl, (tb2 144 (by decide +kernel) rfl), by decide +kernel, Or.inr ⟨rfl, rfl, rfl⟩⟩ (by decide +kernel), ?_⟩
  refine ⟨x_aload_n (q := 0) (by decide +kernel) rfl, ?_⟩
  refine ⟨x_new (idx := 76) (ci := 9) rfl (tb2 40 (by decide +kernel) rfl) (tb2 41 (by decide +kernel) rfl) (tb1 11 (by decide +kernel) rfl) (by decide +kernel), ?_⟩
  refine ⟨x_dup (by decide +kernel), ?_⟩
  refine ⟨x_aload_n (q := 0) (by decide +kernel) rfl, ?_⟩
  refine ⟨x_get fl_TC_10 (by decide +kernel), ?_⟩
  refine ⟨x_aload_n (q := 0) (by decide +kernel) rfl, ?_⟩
  refine ⟨x_get fl_TC_22 (by decide +kernel), ?_⟩
  refine ⟨x_init (idx := 78) (k' := 1) yi_Net_init rfl (cr_Net_init G (by decide)) (by omega) (tb2 42 (by decide +kernel) rfl) (by decide +kernel), ?_⟩
  refine ⟨x_put (idx := 81) ⟨_, rfl, by decide, rfl, (tb2 145 (by decide +kernel) rfl), by decide +kernel, Or.inr ⟨rfl, rfl, rfl⟩⟩ (by decide +kernel), ?_⟩
  refine ⟨x_aload_n (q := 0) (by decide +kernel) rfl, ?_⟩
  refine ⟨x_new (idx := 85) (ci := 10) rfl (tb2 73 (by decide +kernel) rfl) (tb2 74 (by decide +kernel) rfl) (tb1 12 (by decide +kernel) rfl) (by decide +kernel), ?_⟩
  refine ⟨x_dup (by decide +kernel), ?_⟩
  refine ⟨x_aload_n (q := 0) (by decide +kernel) rfl, ?_⟩
  refine ⟨x_get fl_TC_10 (by decide +kernel), ?_⟩
  refine ⟨x_aload_n (q := 0) (by decide +kernel) rfl, ?_⟩
  refine ⟨x_get fl_TC_22 (by decide +kernel), ?_⟩
  refine ⟨x_aload_n (q := 0) (by decide +kernel) rfl, ?_⟩
  refine ⟨x_get fl_TC_41 (by decide +kernel), ?_⟩
  refine ⟨x_init (idx := 87) (k' := 1) yi_Best_init rfl (cr_Best_init G (by decide)) (by omega) (tb2 75 (by decide +kernel) rfl) (by decide +kernel), ?_⟩
  refine ⟨x_put (idx := 88) ⟨_, rfl, by decide, rfl, (tb2 146 (by decide +kernel) rfl), by decide +kernel, Or.inr ⟨rfl, rfl, rfl⟩⟩ (by decide +kernel), ?_⟩
  refine ⟨x_aload_n (q := 0) (by decide +kernel) rfl, ?_⟩
  refine ⟨x_iconst (n := 4) (by decide +kernel) rfl, ?_⟩
  refine ⟨x_newq (idx := 92) (C0 := "TwoCamps$Sheet") (by decide +kernel) rfl (tb2 110 (by decide +kernel) rfl) (by decide +kernel), ?_⟩
  refine ⟨x_put (idx := 94) ⟨_, rfl, by decide, rfl, (tb2 147 (by decide +kernel) rfl), by decide +kernel, Or.inr ⟨rfl, rfl, rfl⟩⟩ (by decide +kernel), ?_⟩
  refine ⟨x_iconst (n := 0) (by decide +kernel) rfl, ?_⟩
  refine ⟨x_istore_n (q := 1) (by decide +kernel) rfl, ?_⟩
  refine ⟨x_iload_n (q := 1) (by decide +kernel) rfl, ?_⟩
  refine ⟨x_iconst (n := 4) (by decide +kernel) rfl, ?_⟩
  refine ⟨x_ic_ge (off := 22) (by decide +kernel) rfl, ?_⟩
  refine ⟨x_aload_n (q := 0) (by decide +kernel) rfl, ?_⟩
  refine ⟨x_get fl_TC_94 (by decide +kernel), ?_⟩
  refine ⟨x_iload_n (q := 1) (by decide +kernel) rfl, ?_⟩
  refine ⟨x_new (idx := 92) (ci := 11) rfl (tb2 110 (by decide +kernel) rfl) (tb2 112 (by decide +kernel) rfl) (tb1 13 (by decide +kernel) rfl) (by decide +kernel), ?_⟩
  refine ⟨x_dup (by decide +kernel), ?_⟩
  refine ⟨x_initN (idx := 98) (host := "TwoCamps") (k' := 1) yi_Sheet_init rfl (cr_Sheet_init G (by decide)) (by omega) (List.mem_of_getElem? (i := 4) (by decide +kernel)) (by decide +kernel), ?_⟩
  refine ⟨x_aast (kd := 4) (ci := 11) rfl rfl (by decide +kernel), ?_⟩
  refine ⟨x_iinc (n := 1) (by decide +kernel) (by decide +kernel), ?_⟩
  refine ⟨x_goto (off := -21) (by decide +kernel) rfl, ?_⟩
  refine ⟨(by decide +kernel), ?_⟩
  exact trivial
theorem cr_TC_init (G : cm_G) {k : Nat} (hk : 3 ≤ k) (av : List Value) (σ σ' : cm_S) (h : gf_TC_init av σ = some σ') : cm_Ret G k Y_TC_init 87 3243 av σ σ' := cm_intro (xv_TC_init G hk) (by decide) rfl (fun _ => rfl) h
theorem yi_MO_init : cm_yI Y_MO_init 0 := ⟨⟨(tb1 14 (by decide +kernel) rfl), (tb5 163 (by decide +kernel) rfl), ⟨by decide +kernel, by decide +kernel, by decide +kernel⟩, by decide +kernel⟩, (tb5 162 (by decide +kernel) rfl), rfl⟩
def X_MO_init : cm_P := [(0, 1, some (xLa 0)), (1, 3, some (xObj)), (4, 1, some (xLa 0)), (5, 3, some (xI 960)), (8, 2, some (xNewa 28 2577 0)), (10, 3, some (xPut 12 1 (kT 12 1))), (13, 1, some (xLa 0)), (14, 2, some (xI 6)), (16, 2, some (xNewa 28 2577 0)), (18, 3, some (xPut 12 2 (kT 12 2))), (21, 1, some (xLa 0)), (22, 3, some (xI 160)), (25, 2, some (xNewa 28 2577 0)), (27, 3, some (xPut 12 5 (kT 12 5))), (30, 1, some (xLa 0)), (31, 2, some (xI 9)), (33, 2, some (xNewa 28 2577 0)), (35, 3, some (xPut 12 7 (kT 12 7))), (38, 1, some (xLa 0)), (39, 2, some (xI 9)), (41, 2, some (xNewa 28 2577 0)), (43, 3, some (xPut 12 8 (kT 12 8))), (46, 1, some (xLa 0)), (47, 2, some (xI 36)), (49, 2, some (xNewa 28 2577 0)), (51, 3, some (xPut 12 10 (kT 12 10))), (54, 1, some (xLa 0)), (55, 2, some (xI 36)), (57, 2, some (xNewa 28 2577 0)), (59, 3, some (xPut 12 11 (kT 12 11))), (62, 1, some (xLa 0)), (63, 2, some (xI 36)), (65, 2, some (xNewa 28 2577 0)), (67, 3, some (xPut 12 12 (kT 12 12))), (70, 1, some (xLa 0)), (71, 2, some (xI 36)), (73, 2, some (xNewa 28 2577 0)), (75, 3, some (xPut 12 13 (kT 12 13))), (78, 1, some (xLa 0)), (79, 2, some (xI 36)), (81, 2, some (xNewa 28 2577 0)), (83, 3, some (xPut 12 14 (kT 12 14))), (86, 1, some (xLa 0)), (87, 2, some (xI 36)), (89, 2, some (xNewa 28 2577 0)), (91, 3, some (xPut 12 15 (kT 12 15))), (94, 1, some (xLa 0)), (95, 2, some (xI 10)), (97, 2, some (xNewa 28 2577 0)), (99, 3, some (xPut 12 29 (kT 12 29))), (102, 1, some (xLa 0)), (103, 2, some (xI 10)), (105, 2, some (xNewa 28 2577 0)), (107, 3, some (xPut 12 30 (kT 12 30))), (110, 1, some (xLa 0)), (111, 2, some (xI 90)), (113, 2, some (xNewa 28 2577 0)), (115, 3, some (xPut 12 31 (kT 12 31))), (118, 1, some (xLa 0)), (119, 2, some (xI 9)), (121, 2, some (xNewa 28 2577 0)), (123, 3, some (xPut 12 33 (kT 12 33))), (126, 1, some (xLa 0)), (127, 2, some (xI 18)), (129, 2, some (xNewa 28 2577 0)), (131, 3, some (xPut 12 35 (kT 12 35))), (134, 1, some (xLa 0)), (135, 2, some (xI 18)), (137, 2, some (xNewa 28 2577 0)), (139, 3, some (xPut 12 36 (kT 12 36))), (142, 1, some (xLa 0)), (143, 2, some (xI 18)), (145, 2, some (xNewa 28 2577 0)), (147, 3, some (xPut 12 37 (kT 12 37))), (150, 1, some (xLa 0)), (151, 2, some (xI 18)), (153, 2, some (xNewa 28 2577 0)), (155, 3, some (xPut 12 38 (kT 12 38))), (158, 1, some (xLa 0)), (159, 2, some (xI 36)), (161, 2, some (xNewa 28 2577 0)), (163, 3, some (xPut 12 39 (kT 12 39))), (166, 1, some (xLa 0)), (167, 2, some (xI 36)), (169, 2, some (xNewa 28 2577 1)), (171, 3, some (xPut 12 40 (kT 12 40))), (174, 1, some (xLa 0)), (175, 3, some (xI 512)), (178, 2, some (xNewa 28 2577 0)), (180, 3, some (xPut 12 41 (kT 12 41))), (183, 1, some (xLa 0)), (184, 2, some (xI 36)), (186, 2, some (xNewa 28 2577 0)), (188, 3, some (xPut 12 43 (kT 12 43))), (191, 1, some (xLa 0)), (192, 3, some (xI 234)), (195, 2, some (xNewa 28 2577 0)), (197, 3, some (xPut 12 44 (kT 12 44))), (200, 1, some (xLa 0)), (201, 1, some (xI 4)), (202, 2, some (xNewa 28 2577 1)), (204, 3, some (xPut 12 49 (kT 12 49))), (207, 1, some (xLa 0)), (208, 1, some (xI 4)), (209, 2, some (xNewa 28 2577 0)), (211, 3, some (xPut 12 50 (kT 12 50))), (214, 1, some (xLa 0)), (215, 1, some (xI 4)), (216, 2, some (xNewa 28 2577 0)), (218, 3, some (xPut 12 51 (kT 12 51))), (221, 1, some (xLa 0)), (222, 3, some (xI 160)), (225, 2, some (xNewa 28 2577 0)), (227, 3, some (xPut 12 52 (kT 12 52))), (230, 1, some (xLa 0)), (231, 1, some (xI 0)), (232, 3, some (xJ 7165072474767586418)), (235, 3, some (xCalo 28 2577 0 0 12 2 gf_MO_spell)), (238, 1, some (xLa 0)), (239, 2, some (xI 8)), (241, 3, some (xJ 7308892994929703712)), (244, 3, some (xCalo 28 2577 0 0 12 2 gf_MO_spell)), (247, 1, some (xLa 0)), (248, 2, some (xI 16)), (250, 3, some (xJ 7810776811384566816)), (253, 3, some (xCalo 28 2577 0 0 12 2 gf_MO_spell)), (256, 1, some (xLa 0)), (257, 2, some (xI 24)), (259, 3, some (xJ 7379561841290132256)), (262, 3, some (xCalo 28 2577 0 0 12 2 gf_MO_spell)), (265, 1, some (xLa 0)), (266, 3, some (xGet 12 2)), (269, 1, some (xI 0)), (270, 2, some (xI 32)), (272, 1, some (xAst)), (273, 1, some (xLa 0)), (274, 1, some (xI 1)), (275, 3, some (xPut 12 3 (kT 12 3))), (278, 1, none)]
def gf_MO_init : List Value → cm_S → Option cm_S := cm_fn X_MO_init 28 2577 Y_MO_init.2.2.1 2000
set_option maxRecDepth 20000 in
theorem xv_MO_init (G : cm_G) {k : Nat} (hk : 1 ≤ k) : cm_pv G k 28 2577 Y_MO_init.2.1 Y_MO_init.2.2.1 Y_MO_init.1.cls true X_MO_init := by
  refine ⟨x_aload_n (q := 0) (by decide +kernel) rfl, ?_⟩
  refine ⟨x_obj (idx := 7) (by omega) (tb5 164 (by decide +kernel) rfl) (tb1 28 (by decide +kernel) rfl) (tb1 29 (by decide +kernel) rfl) (by decide +kernel), ?_⟩
  refine ⟨x_aload_n (q := 0) (by decide +kernel) rfl, ?_⟩
  refine ⟨x_sipush (n := 960) (by decide +kernel) (by decide +kernel), ?_⟩
  refine ⟨x_newi (tb1 54 (by decide +kernel) rfl) (by decide +kernel), ?_⟩
  refine ⟨x_put (idx := 13) ⟨_, rfl, by decide, rfl, (tb5 174 (by decide +kernel) rfl), by decide +kernel, Or.inr ⟨rfl, rfl, rfl⟩⟩ (by decide +kernel), ?_⟩
  refine ⟨x_aload_n (q := 0) (by decide +kernel) rfl, ?_⟩
  refine ⟨x_bipush (n := 6) (by decide +kernel) (by decide +kernel), ?_⟩
  refine ⟨x_newi (tb1 54 (by decide +kernel) rfl) (by decide +kernel), ?_⟩
  refine ⟨x_put (idx := 17) ⟨_, rfl, by decide, rfl, (tb5 175 (by decide +kernel) rfl), by decide +kernel, Or.inr ⟨rfl, rfl, rfl⟩⟩ (by decide +kernel), ?_⟩
  refine ⟨x_aload_n (q := 0) (by decide +kernel) rfl, ?_⟩
  refine ⟨x_sipush (n := 160) (by decide +kernel) (by decide +kernel), ?_⟩
  refine ⟨x_newi (tb1 54 (by decide +kernel) rfl) (by decide +kernel), ?_⟩
  refine ⟨x_put (idx := 20) ⟨_, rfl, by decide, rfl, (tb5 178 (by decide +kernel) rfl), by decide +kernel, Or.inr ⟨rfl, rfl, rfl⟩⟩ (by decide +kernel), ?_⟩
  refine ⟨x_aload_n (q := 0) (by decide +kernel) rfl, ?_⟩
  refine ⟨x_bipush (n := 9) (by decide +kernel) (by decide +kernel), ?_⟩
  refine ⟨x_newi (tb1 54 (by decide +kernel) rfl) (by decide +kernel), ?_⟩
  refine ⟨x_put (idx := 23) ⟨_, rfl, by decide, rfl, (tb5 180 (by decide +kernel) rfl), by decide +kernel, Or.inr ⟨rfl, rfl, rfl⟩⟩ (by decide +kernel), ?_⟩
  refine ⟨x_aload_n (q := 0) (by decide +kernel) rfl, ?_⟩
  refine ⟨x_bipush (n := 9) (by decide +kernel) (by decide +kernel), ?_⟩
  refine ⟨x_newi (tb1 54 (by decide +kernel) rfl) (by decide +kernel), ?_⟩
  refine ⟨x_put (idx := 26) ⟨_, rfl, by decide, rfl, (tb5 181 (by decide +kernel) rfl), by decide +kernel, Or.inr ⟨rfl, rfl, rfl⟩⟩ (by decide +kernel), ?_⟩
  refine ⟨x_aload_n (q := 0) (by decide +kernel) rfl, ?_⟩
  refine ⟨x_bipush (n := 36) (by decide +kernel) (by decide +kernel), ?_⟩
  refine ⟨x_newi (tb1 54 (by decide +kernel) rfl) (by decide +kernel), ?_⟩
  refine ⟨x_put (idx := 29) ⟨_, rfl, by decide, rfl, (tb5 183 (by decide +kernel) rfl), by decide +kernel, Or.inr ⟨rfl, rfl, rfl⟩⟩ (by decide +kernel), ?_⟩
  refine ⟨x_aload_n (q := 0) (by decide +kernel) rfl, ?_⟩
  refine ⟨x_bipush (n := 36) (by decide +kernel) (by decide +kernel), ?_⟩
  refine ⟨x_newi (tb1 54 (by decide +kernel) rfl) (by decide +kernel), ?_⟩
  refine ⟨x_put (idx := 32) ⟨_, rfl, by decide, rfl, (tb5 184 (by decide +kernel) rfl), by decide +kernel, Or.inr ⟨rfl, rfl, rfl⟩⟩ (by decide +kernel), ?_⟩
  refine ⟨x_aload_n (q := 0) (by decide +kernel) rfl, ?_⟩
  refine ⟨x_bipush (n := 36) (by decide +kernel) (by decide +kernel), ?_⟩
  refine ⟨x_newi (tb1 54 (by decide +kernel) rfl) (by decide +kernel), ?_⟩
  refine ⟨x_put (idx := 35) ⟨_, rfl, by decide, rfl, (tb5 185 (by decide +kernel) rfl), by decide +kernel, Or.inr ⟨rfl, rfl, rfl⟩⟩ (by decide +kernel), ?_⟩
  refine ⟨x_aload_n (q := 0) (by decide +kernel) rfl, ?_⟩
  refine ⟨x_bipush (n := 36) (by decide +kernel) (by decide +kernel), ?_⟩
  refine ⟨x_newi (tb1 54 (by decide +kernel) rfl) (by decide +kernel), ?_⟩
  refine ⟨x_put (idx := 38) ⟨_, rfl, by decide, rfl, (tb5 186 (by decide +kernel) rfl), by decide +kernel, Or.inr ⟨rfl, rfl, rfl⟩⟩ (by decide +kernel), ?_⟩
  refine ⟨x_aload_n (q := 0) (by decide +kernel) rfl, ?_⟩
  refine ⟨x_bipush (n := 36) (by decide +kernel) (by decide +kernel), ?_⟩
  refine ⟨x_newi (tb1 54 (by decide +kernel) rfl) (by decide +kernel), ?_⟩
  refine ⟨x_put (idx := 41) ⟨_, rfl, by decide, rfl, (tb5 187 (by decide +kernel) rfl), by decide +kernel, Or.inr ⟨rfl, rfl, rfl⟩⟩ (by decide +kernel), ?_⟩
  refine ⟨x_aload_n (q := 0) (by decide +kernel) rfl, ?_⟩
  refine ⟨x_bipush (n := 36) (by decide +kernel) (by decide +kernel), ?_⟩
  refine ⟨x_newi (tb1 54 (by decide +kernel) rfl) (by decide +kernel), ?_⟩
  refine ⟨x_put (idx := 44) ⟨_, rfl, by decide, rfl, (tb5 188 (by decide +kernel) rfl), by decide +kernel, Or.inr ⟨rfl, rfl, rfl⟩⟩ (by decide +kernel), ?_⟩
  refine ⟨x_aload_n (q := 0) (by decide +kernel) rfl, ?_⟩
  refine ⟨x_bipush (n := 10) (by decide +kernel) (by decide +kernel), ?_⟩
  refine ⟨x_newi (tb1 54 (by decide +kernel) rfl) (by decide +kernel), ?_⟩
  refine ⟨x_put (idx := 47) ⟨_, rfl, by decide, rfl, (tb5 202 (by decide +kernel) rfl), by decide +kernel, Or.inr ⟨rfl, rfl, rfl⟩⟩ (by decide +kernel), ?_⟩
  refine ⟨x_aload_n (q := 0) (by decide +kernel) rfl, ?_⟩
  refine ⟨x_bipush (n := 10) (by decide +kernel) (by decide +kernel), ?_⟩
  refine ⟨x_newi (tb1 54 (by decide +kernel) rfl) (by decide +kernel), ?_⟩
  refine ⟨x_put (idx := 50) ⟨_, rfl, by decide, rfl, (tb5 203 (by decide +kernel) rfl), by decide +kernel, Or.inr ⟨rfl, rfl, rfl⟩⟩ (by decide +kernel), ?_⟩
  refine ⟨x_aload_n (q := 0) (by decide +kernel) rfl, ?_⟩
  refine ⟨x_bipush (n := 90) (by decide +kernel) (by decide +kernel), ?_⟩
  refine ⟨x_newi (tb1 54 (by decide +kernel) rfl) (by decide +kernel), ?_⟩
  refine ⟨x_put (idx := 53) ⟨_, rfl, by decide, rfl, (tb5 204 (by decide +kernel) rfl), by decide +kernel, Or.inr ⟨rfl, rfl, rfl⟩⟩ (by decide +kernel), ?_⟩
  refine ⟨x_aload_n (q := 0) (by decide +kernel) rfl, ?_⟩
  refine ⟨x_bipush (n := 9) (by decide +kernel) (by decide +kernel), ?_⟩
  refine ⟨x_newi (tb1 54 (by decide +kernel) rfl) (by decide +kernel), ?_⟩
  refine ⟨x_put (idx := 56) ⟨_, rfl, by decide, rfl, (tb5 206 (by decide +kernel) rfl), by decide +kernel, Or.inr ⟨rfl, rfl, rfl⟩⟩ (by decide +kernel), ?_⟩
  refine ⟨x_aload_n (q := 0) (by decide +kernel) rfl, ?_⟩
  refine ⟨x_bipush (n := 18) (by decide +kernel) (by decide +kernel), ?_⟩
  refine ⟨x_newi (tb1 54 (by decide +kernel) rfl) (by decide +kernel), ?_⟩
  refine ⟨x_put (idx := 59) ⟨_, rfl, by decide, rfl, (tb5 208 (by decide +kernel) rfl), by decide +kernel, Or.inr ⟨rfl, rfl, rfl⟩⟩ (by decide +kernel), ?_⟩
  refine ⟨x_aload_n (q := 0) (by decide +kernel) rfl, ?_⟩
  refine ⟨x_bipush (n := 18) (by decide +kernel) (by decide +kernel), ?_⟩
  refine ⟨x_newi (tb1 54 (by decide +kernel) rfl) (by decide +kernel), ?_⟩
  refine ⟨x_put (idx := 62) ⟨_, rfl, by decide, rfl, (tb5 209 (by decide +kernel) rfl), by decide +kernel, Or.inr ⟨rfl, rfl, rfl⟩⟩ (by decide +kernel), ?_⟩
  refine ⟨x_aload_n (q := 0) (by decide +kernel) rfl, ?_⟩
  refine ⟨x_bipush (n := 18) (by decide +kernel) (by decide +kernel), ?_⟩
  refine ⟨x_newi (tb1 54 (by decide +kernel) rfl) (by decide +kernel), ?_⟩
  refine ⟨x_put (idx := 65) ⟨_, rfl, by decide, rfl, (tb5 210 (by decide +kernel) rfl), by decide +kernel, Or.inr ⟨rfl, rfl, rfl⟩⟩ (by decide +kernel), ?_⟩
  refine ⟨x_aload_n (q := 0) (by decide +kernel) rfl, ?_⟩
  refine ⟨x_bipush (n := 18) (by decide +kernel) (by decide +kernel), ?_⟩
  refine ⟨x_newi (tb1 54 (by decide +kernel) rfl) (by decide +kernel), ?_⟩
  refine ⟨x_put (idx := 68) ⟨_, rfl, by decide, rfl, (tb5 211 (by decide +kernel) rfl), by decide +kernel, Or.inr ⟨rfl, rfl, rfl⟩⟩ (by decide +kernel), ?_⟩
  refine ⟨x_aload_n (q := 0) (by decide +kernel) rfl, ?_⟩
  refine ⟨x_bipush (n := 36) (by decide +kernel) (by decide +kernel), ?_⟩
  refine ⟨x_newi (tb1 54 (by decide +kernel) rfl) (by decide +kernel), ?_⟩
  refine ⟨x_put (idx := 71) ⟨_, rfl, by decide, rfl, (tb5 212 (by decide +kernel) rfl), by decide +kernel, Or.inr ⟨rfl, rfl, rfl⟩⟩ (by decide +kernel), ?_⟩
  refine ⟨x_aload_n (q := 0) (by decide +kernel) rfl, ?_⟩
  refine ⟨x_bipush (n := 36) (by decide +kernel) (by decide +kernel), ?_⟩
  refine ⟨x_newz (tb1 149 (by decide +kernel) rfl) (by decide +kernel), ?_⟩
  refine ⟨x_put (idx := 74) ⟨_, rfl, by decide, rfl, (tb5 213 (by decide +kernel) rfl), by decide +kernel, Or.inr ⟨rfl, rfl, rfl⟩⟩ (by decide +kernel), ?_⟩
  refine ⟨x_aload_n (q := 0) (by decide +kernel) rfl, ?_⟩
  refine ⟨x_sipush (n := 512) (by decide +kernel) (by decide +kernel), ?_⟩
  refine ⟨x_newi (tb1 54 (by decide +kernel) rfl) (by decide +kernel), ?_⟩
  refine ⟨x_put (idx := 78) ⟨_, rfl, by decide, rfl, (tb5 214 (by decide +kernel) rfl), by decide +kernel, Or.inr ⟨rfl, rfl, rfl⟩⟩ (by decide +kernel), ?_⟩
  refine ⟨x_aload_n (q := 0) (by decide +kernel) rfl, ?_⟩
  refine ⟨x_bipush (n := 36) (by decide +kernel) (by decide +kernel), ?_⟩
  refine ⟨x_newi (tb1 54 (by decide +kernel) rfl) (by decide +kernel), ?_⟩
  refine ⟨x_put (idx := 81) ⟨_, rfl, by decide, rfl, (tb5 216 (by decide +kernel) rfl), by decide +kernel, Or.inr ⟨rfl, rfl, rfl⟩⟩ (by decide +kernel), ?_⟩
  refine ⟨x_aload_n (q := 0) (by decide +kernel) rfl, ?_⟩
  refine ⟨x_sipush (n := 234) (by decide +kernel) (by decide +kernel), ?_⟩
  refine ⟨x_newi (tb1 54 (by decide +kernel) rfl) (by decide +kernel), ?_⟩
  refine ⟨x_put (idx := 84) ⟨_, rfl, by decide, rfl, (tb5 217 (by decide +kernel) rfl), by decide +kernel, Or.inr ⟨rfl, rfl, rfl⟩⟩ (by decide +kernel), ?_⟩
  refine ⟨x_aload_n (q := 0) (by decide +kernel) rfl, ?_⟩
  refine ⟨x_iconst (n := 4) (by decide +kernel) rfl, ?_⟩
  refine ⟨x_newz (tb1 149 (by decide +kernel) rfl) (by decide +kernel), ?_⟩
  refine ⟨x_put (idx := 87) ⟨_, rfl, by decide, rfl, (tb5 222 (by decide +kernel) rfl), by decide +kernel, Or.inr ⟨rfl, rfl, rfl⟩⟩ (by decide +kernel), ?_⟩
  refine ⟨x_aload_n (q := 0) (by decide +kernel) rfl, ?_⟩
  refine ⟨x_iconst (n := 4) (by decide +kernel) rfl, ?_⟩
  refine ⟨x_newi (tb1 54 (by decide +kernel) rfl) (by decide +kernel), ?_⟩
  refine ⟨x_put (idx := 90) ⟨_, rfl, by decide, rfl, (tb5 223 (by decide +kernel) rfl), by decide +kernel, Or.inr ⟨rfl, rfl, rfl⟩⟩ (by decide +kernel), ?_⟩
  refine ⟨x_aload_n (q := 0) (by decide +kernel) rfl, ?_⟩
  refine ⟨x_iconst (n := 4) (by decide +kernel) rfl, ?_⟩
  refine ⟨x_newi (tb1 54 (by decide +kernel) rfl) (by decide +kernel), ?_⟩
  refine ⟨x_put (idx := 93) ⟨_, rfl, by decide, rfl, (tb5 224 (by decide +kernel) rfl), by decide +kernel, Or.inr ⟨rfl, rfl, rfl⟩⟩ (by decide +kernel), ?_⟩
  refine ⟨x_aload_n (q := 0) (by decide +kernel) rfl, ?_⟩
  refine ⟨x_sipush (n := 160) (by decide +kernel) (by decide +kernel), ?_⟩
  refine ⟨x_newi (tb1 54 (by decide +kernel) rfl) (by decide +kernel), ?_⟩
  refine ⟨x_put (idx := 96) ⟨_, rfl, by decide, rfl, (tb5 225 (by decide +kernel) rfl), by decide +kernel, Or.inr ⟨rfl, rfl, rfl⟩⟩ (by decide +kernel), ?_⟩
  refine ⟨x_aload_n (q := 0) (by decide +kernel) rfl, ?_⟩
  refine ⟨x_iconst (n := 0) (by decide +kernel) rfl, ?_⟩
  refine ⟨x_ldc2 (i := 99) (tb5 165 (by decide +kernel) rfl) (by decide +kernel), ?_⟩
  refine ⟨x_virt (idx := 101) (k' := 0) yv_MO_spell (cr_MO_spell G (by decide)) (by omega) rfl rfl (tb5 166 (by decide +kernel) rfl) (by decide +kernel), ?_⟩
  refine ⟨x_aload_n (q := 0) (by decide +kernel) rfl, ?_⟩
  refine ⟨x_bipush (n := 8) (by decide +kernel) (by decide +kernel), ?_⟩
  refine ⟨x_ldc2 (i := 105) (tb5 171 (by decide +kernel) rfl) (by decide +kernel), ?_⟩
  refine ⟨x_virt (idx := 101) (k' := 0) yv_MO_spell (cr_MO_spell G (by decide)) (by omega) rfl rfl (tb5 166 (by decide +kernel) rfl) (by decide +kernel), ?_⟩
  refine ⟨x_aload_n (q := 0) (by decide +kernel) rfl, ?_⟩
  refine ⟨x_bipush (n := 16) (by decide +kernel) (by decide +kernel), ?_⟩
  refine ⟨x_ldc2 (i := 107) (tb5 172 (by decide +kernel) rfl) (by decide +kernel), ?_⟩
  refine ⟨x_virt (idx := 101) (k' := 0) yv_MO_spell (cr_MO_spell G (by decide)) (by omega) rfl rfl (tb5 166 (by decide +kernel) rfl) (by decide +kernel), ?_⟩
  refine ⟨x_aload_n (q := 0) (by decide +kernel) rfl, ?_⟩
  refine ⟨x_bipush (n := 24) (by decide +kernel) (by decide +kernel), ?_⟩
  refine ⟨x_ldc2 (i := 109) (tb5 173 (by decide +kernel) rfl) (by decide +kernel), ?_⟩
  refine ⟨x_virt (idx := 101) (k' := 0) yv_MO_spell (cr_MO_spell G (by decide)) (by omega) rfl rfl (tb5 166 (by decide +kernel) rfl) (by decide +kernel), ?_⟩
  refine ⟨x_aload_n (q := 0) (by decide +kernel) rfl, ?_⟩
  refine ⟨x_get fl_MO_17 (by decide +kernel), ?_⟩
  refine ⟨x_iconst (n := 0) (by decide +kernel) rfl, ?_⟩
  refine ⟨x_bipush (n := 32) (by decide +kernel) (by decide +kernel), ?_⟩
  refine ⟨x_iast (by decide +kernel), ?_⟩
  refine ⟨x_aload_n (q := 0) (by decide +kernel) rfl, ?_⟩
  refine ⟨x_iconst (n := 1) (by decide +kernel) rfl, ?_⟩
  refine ⟨x_put (idx := 111) ⟨_, rfl, by decide, rfl, (tb5 176 (by decide +kernel) rfl), by decide +kernel, Or.inl rfl⟩ (by decide +kernel), ?_⟩
  refine ⟨(by decide +kernel), ?_⟩
  exact trivial
theorem cr_MO_init (G : cm_G) {k : Nat} (hk : 1 ≤ k) (av : List Value) (σ σ' : cm_S) (h : gf_MO_init av σ = some σ') : cm_Ret G k Y_MO_init 28 2577 av σ σ' := cm_intro (xv_MO_init G hk) (by decide) rfl (fun _ => rfl) h
