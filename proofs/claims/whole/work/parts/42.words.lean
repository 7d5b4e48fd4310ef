/-! Strings: length, charAt; words -/
def P_Pre_checkIndex (E : am_E) (k : Nat) : am_P := [(0, aLi 0), (1, z_lt 9), (4, aLi 0), (5, aLi 1), (6, c_lt 16), (9, aNo), (16, aLi 0), (17, aRi)]
set_option maxRecDepth 20000 in
theorem pv_Pre_checkIndex (E : am_E) (k : Nat) : am_pv E k Y_Pre_checkIndex.2.1 Y_Pre_checkIndex.2.2.1 Y_Pre_checkIndex.1.cls (P_Pre_checkIndex E k) := by
  refine am_pv_cons (v_iload_n (q := 0) (by decide +kernel) rfl) rfl ?_
  refine am_pv_cons (v_if_lt (off := 8) (by decide +kernel) rfl) rfl ?_
  refine am_pv_cons (v_iload_n (q := 0) (by decide +kernel) rfl) rfl ?_
  refine am_pv_cons (v_iload_n (q := 1) (by decide +kernel) rfl) rfl ?_
  refine am_pv_cons (v_ic_lt (off := 10) (by decide +kernel) rfl) rfl ?_
  refine am_pv_cons (v_no (len := 7)) rfl ?_
  refine am_pv_cons (v_iload_n (q := 0) (by decide +kernel) rfl) rfl ?_
  refine am_pv_cons (v_ireturn (by decide +kernel)) trivial ?_
  exact trivial
theorem r_preCheck {E : am_E} (zi : am_inj E) {k : Nat} {i N : Nat} (hi : i < N) (hN : N < 2 ^ 31) (I : am_I) (w : Int64) (u : Value) (hu : u = .null ∨ u = .ref 171) : am_Ret E k Y_Pre_checkIndex [.int (nI i), .int (nI N), u] I w (am_eq (some (.int (nI i))) I w) := by
  rcases hu with rfl | rfl
  · refine am_intro (pv_Pre_checkIndex E k) (by decide) zi ?_ rfl rfl ?_
    · rintro _ _ _ ⟨rfl, -⟩; rfl
    intro S hS
    refine am_at hS (fun _ => false) 60 0 ?_
    refine ⟨fun q => absurd q (nI_pos (by omega)), fun _ => ?_⟩
    exact ⟨fun _ => ⟨rfl, rfl, rfl⟩, fun q => absurd (nI_lt hi hN) q⟩
  · refine am_intro (pv_Pre_checkIndex E k) (by decide) zi ?_ rfl rfl ?_
    · rintro _ _ _ ⟨rfl, -⟩; rfl
    intro S hS
    refine am_at hS (fun _ => false) 60 0 ?_
    refine ⟨fun q => absurd q (nI_pos (by omega)), fun _ => ?_⟩
    exact ⟨fun _ => ⟨rfl, rfl, rfl⟩, fun q => absurd (nI_lt hi hN) q⟩
theorem r_strCheck {E : am_E} (zi : am_inj E) {k : Nat} (hk : 1 ≤ k) {i N : Nat} (hi : i < N) (hN : N < 2 ^ 31) (I : am_I) (w : Int64) : am_Ret E k Y_Str_checkIndex [.int (nI i), .int (nI N)] I w (am_eq none I w) := by
  refine am_intro (pv_Str_checkIndex E k) (by decide) zi ?_ rfl rfl ?_
  · rintro _ _ _ ⟨rfl, -⟩; trivial
  intro S hS
  refine am_at hS (fun _ => false) 60 0 ?_
  refine ⟨?_, ?_⟩
  · refine ⟨_, _, (by omega : k - 1 < k), r_preCheck zi hi hN I w .null (Or.inl rfl), am_elim ?_⟩
    exact ⟨rfl, rfl, rfl⟩
  · refine ⟨_, _, (by omega : k - 1 < k), r_preCheck zi hi hN I w (.ref 171) (Or.inr rfl), am_elim ?_⟩
    exact ⟨rfl, rfl, rfl⟩
theorem r_coder {E : am_E} (zi : am_inj E) {k : Nat} {i : Nat} (hi : i < 11) (I : am_I) (w : Int64) : am_Ret E k Y_Str_coder [.ref (130 + i)] I w (am_eq (some (.int 0)) I w) := by
  refine am_intro (pv_Str_coder E k) (by decide) zi ?_ rfl rfl ?_
  · rintro _ _ _ ⟨rfl, -⟩; rfl
  intro S hS
  refine am_at hS (fun _ => false) 60 0 ?_
  refine ⟨fun q => absurd q (by decide), fun _ => ?_⟩
  exact ⟨i, hi, rfl, rfl, rfl, rfl⟩
theorem r_isLatin1 {E : am_E} (zi : am_inj E) {k : Nat} {i : Nat} (hi : i < 11) (I : am_I) (w : Int64) : am_Ret E k Y_Str_isLatin1 [.ref (130 + i)] I w (am_eq (some (.int 1)) I w) := by
  refine am_intro (pv_Str_isLatin1 E k) (by decide) zi ?_ rfl rfl ?_
  · rintro _ _ _ ⟨rfl, -⟩; rfl
  intro S hS
  refine am_at hS (fun _ => false) 60 0 ?_
  refine ⟨fun q => absurd q (by decide), fun _ => ?_⟩
  refine ⟨i, hi, rfl, ?_⟩
  exact ⟨fun _ => ⟨rfl, rfl, rfl⟩, fun q => absurd rfl q⟩
theorem tl_ok : (List.range 11).all (fun i => decide (nI (am_tl.getD i 0) >>> ((0 : Int32) &&& 31) = nI (am_tl.getD i 0)) && decide (am_tl.getD i 0 < 9)) = true := by decide +kernel
theorem tl_of {i : Nat} (hi : i < 11) : nI (am_tl.getD i 0) >>> ((0 : Int32) &&& 31) = nI (am_tl.getD i 0) ∧ am_tl.getD i 0 < 9 := by
  have h := List.all_eq_true.mp tl_ok i (List.mem_range.mpr hi)
  rw [Bool.and_eq_true, decide_eq_true_eq, decide_eq_true_eq] at h
  exact h
theorem r_strLength {E : am_E} (zi : am_inj E) {k : Nat} (hk : 1 ≤ k) {i : Nat} (hi : i < 11) (I : am_I) (w : Int64) : am_Ret E k Y_Str_length [.ref (130 + i)] I w (am_eq (some (.int (nI (am_tl.getD i 0)))) I w) := by
  refine am_intro (pv_Str_length E k) (by decide) zi ?_ rfl rfl ?_
  · rintro _ _ _ ⟨rfl, -⟩; rfl
  intro S hS
  refine am_at hS (fun _ => false) 60 0 ?_
  refine ⟨i, hi, rfl, ?_⟩
  refine ⟨i, hi, rfl, ?_⟩
  refine ⟨i, hi, rfl, _, _, (by omega : k - 1 < k), r_coder zi hi I w, am_elim ?_⟩
  refine ⟨?_, rfl, rfl⟩
  rw [(tl_of hi).1]
/-- a word's letters -/
def wl (i j : Nat) : Nat := ((am_tb.getD i []).getD j 0).toNatClampNeg
theorem tb_ok : (List.range 11).all (fun i => (List.range 9).all (fun j => decide ((((am_tb.getD i []).getD j 0 &&& 255).toUInt32 % 65536).toInt32 = nI (wl i j)) && decide (wl i j < 256) && (decide (am_tl.getD i 0 ≤ j) || (decide (97 ≤ wl i j) && decide (wl i j ≤ 122))))) = true := by decide +kernel
theorem tb_of {i j : Nat} (hi : i < 11) (hj : j < 9) : (((am_tb.getD i []).getD j 0 &&& 255).toUInt32 % 65536).toInt32 = nI (wl i j) ∧ wl i j < 256 ∧ (j < am_tl.getD i 0 → 97 ≤ wl i j ∧ wl i j ≤ 122) := by
  have h := List.all_eq_true.mp (List.all_eq_true.mp tb_ok i (List.mem_range.mpr hi)) j (List.mem_range.mpr hj)
  rw [Bool.and_eq_true, Bool.and_eq_true, decide_eq_true_eq, decide_eq_true_eq, Bool.or_eq_true, Bool.and_eq_true, decide_eq_true_eq, decide_eq_true_eq, decide_eq_true_eq] at h
  exact ⟨h.1.1, h.1.2, fun q => by omega⟩
theorem r_l1CharAt {E : am_E} (zi : am_inj E) {k : Nat} (hk : 2 ≤ k) {i j : Nat} (hi : i < 11) (hj : j < am_tl.getD i 0) (I : am_I) (w : Int64) : am_Ret E k Y_L1_charAt [.ref (150 + i), .int (nI j)] I w (am_eq (some (.int (nI (wl i j)))) I w) := by
  refine am_intro (pv_L1_charAt E k) (by decide) zi ?_ rfl rfl ?_
  · rintro _ _ _ ⟨rfl, -⟩
    have h := tb_of (j := j) hi (by have := (tl_of hi).2; omega)
    exact (pk_charN (by omega)).1
  intro S hS
  have h9 := (tl_of hi).2
  refine am_at hS (fun _ => false) 60 0 ?_
  refine ⟨i, hi, rfl, ?_⟩
  refine ⟨_, _, (by omega : k - 1 < k), r_strCheck zi (by omega) hj (by omega) I w, am_elim ?_⟩
  refine ⟨i, hi, rfl, vp_in_nI hj (by omega), ?_⟩
  rw [nI_clamp (by omega)]
  refine ⟨?_, rfl, rfl⟩
  rw [(tb_of hi (by omega)).1]
theorem r_charAt {E : am_E} (zi : am_inj E) {k : Nat} (hk : 3 ≤ k) {i j : Nat} (hi : i < 11) (hj : j < am_tl.getD i 0) (I : am_I) (w : Int64) : am_Ret E k Y_Str_charAt [.ref (130 + i), .int (nI j)] I w (am_eq (some (.int (nI (wl i j)))) I w) := by
  refine am_intro (pv_Str_charAt E k) (by decide) zi ?_ rfl rfl ?_
  · rintro _ _ _ ⟨rfl, -⟩
    have h := tb_of (j := j) hi (by have := (tl_of hi).2; omega)
    exact (pk_charN (by omega)).1
  intro S hS
  refine am_at hS (fun _ => false) 60 0 ?_
  refine ⟨i, hi, rfl, _, _, (by omega : k - 1 < k), r_isLatin1 zi hi I w, am_elim ?_⟩
  refine ⟨fun q => absurd q (by decide), fun _ => ?_⟩
  refine ⟨i, hi, rfl, ?_⟩
  refine ⟨_, _, (by omega : k - 1 < k), r_l1CharAt zi (by omega) hi hj I w, am_elim ?_⟩
  exact ⟨rfl, rfl, rfl⟩
/-- the bytes f .. e - 1 are the word i; the first t of its letters stand there -/
def spt (b : Nat → Nat) (f i t : Nat) : Prop := ∀ j, j < t → b (f + j) = wl i j
def spl (b : Nat → Nat) (f e i : Nat) : Prop := e - f = am_tl.getD i 0 ∧ spt b f i (am_tl.getD i 0)
noncomputable def splB (b : Nat → Nat) (f e i : Nat) : Bool := @decide (spl b f e i) (Classical.propDecidable _)
theorem splB_t {b : Nat → Nat} {f e i : Nat} (h : spl b f e i) : splB b f e i = true := @decide_eq_true _ (Classical.propDecidable _) h
theorem splB_f {b : Nat → Nat} {f e i : Nat} (h : ¬ spl b f e i) : splB b f e i = false := @decide_eq_false _ (Classical.propDecidable _) h
theorem splB_of {b : Nat → Nat} {f e i : Nat} (h : splB b f e i = true) : spl b f e i := @of_decide_eq_true _ (Classical.propDecidable _) h
theorem r_spells {E : am_E} (zi : am_inj E) {k n : Nat} (hk : 5 ≤ k) {b : Nat → Nat} (zt : wft n b) {I : am_I} (zT : tC I n b) (w : Int64) {f e i : Nat} (hfe : f ≤ e) (he : e ≤ n) (hi : i < 11) : am_Ret E k Y_TextReader_spells [.ref 42, .int (nI f), .int (nI e), .ref (130 + i)] I w (am_eq (some (.int (bi (splB b f e i)))) I w) := by
  refine am_intro (pv_TextReader_spells E k) (by decide) zi ?_ rfl rfl ?_
  · rintro _ _ _ ⟨rfl, -⟩; exact bi_nr _
  intro S hS
  have h9 := (tl_of hi).2
  have h16 := zt.1
  have loop := down (P := fun t => e - f = am_tl.getD i 0 → spt b f i t → S 15 [some (.ref 42), some (.int (nI f)), some (.int (nI e)), some (.ref (130 + i)), some (.int (nI t))] [] I w) (am_tl.getD i 0) ?z ?s
  case z =>
    intro h1 h2
    refine am_at hS (fun t => Nat.beq t 15) 60 15 ?_
    refine ⟨i, hi, rfl, _, _, (by omega : k - 1 < k), r_strLength zi (by omega) hi I w, am_elim ?_⟩
    refine ⟨fun q => absurd q (nI_nlt (Nat.le_refl _) (by omega)), fun _ => ?_⟩
    rw [splB_t ⟨h1, h2⟩]
    exact ⟨rfl, rfl, rfl⟩
  case s =>
    intro t ht hn h1 h2
    refine am_at hS (fun t => Nat.beq t 15) 60 15 ?_
    refine ⟨i, hi, rfl, _, _, (by omega : k - 1 < k), r_strLength zi (by omega) hi I w, am_elim ?_⟩
    refine ⟨fun _ => ?_, fun q => absurd (nI_lt ht (by omega)) q⟩
    refine ⟨_, _, (by omega : k - 1 < k), (by rw [nI_add]; exact r_at zi zt zT w (by omega)), am_elim ?_⟩
    refine ⟨i, hi, rfl, _, _, (by omega : k - 1 < k), r_charAt zi (by omega) hi ht I w, am_elim ?_⟩
    have hw := (tb_of (j := t) hi (by omega)).2.1
    refine ⟨fun h41 => ?_, fun h41 => ?_⟩
    · rw [tat_eq zt (by omega)] at h41
      have hgo := hn h1 (fun j hj => by
        by_cases ej : j = t
        · rw [ej]; exact h41.2
        · exact h2 j (by omega))
      rw [← nI_1] at hgo
      exact hgo
    · rw [tat_eq zt (by omega)] at h41
      rw [splB_f (fun q => h41 ⟨by omega, q.2 t ht⟩)]
      exact ⟨rfl, rfl, rfl⟩
  refine am_at hS (fun t => Nat.beq t 15) 60 0 ?_
  refine ⟨i, hi, rfl, _, _, (by omega : k - 1 < k), r_strLength zi (by omega) hi I w, am_elim ?_⟩
  refine ⟨fun h7 => ?_, fun h7 => ?_⟩
  · rw [pk_sub hfe, neq (by omega) (by omega)] at h7
    exact loop 0 (Nat.zero_le _) h7.symm (fun j hj => absurd hj (by omega))
  · rw [pk_sub hfe, neq (by omega) (by omega)] at h7
    rw [splB_f (fun q => h7 q.1.symm)]
    exact ⟨rfl, rfl, rfl⟩
/-- the codes of the words -/
def wcd (i : Nat) : Int32 := ([-3, -4, -5, -6, -7, -9, -10, -11, -12, -13, -14] : List Int32).getD i (-2)
noncomputable def wco (b : Nat → Nat) (f e : Nat) : Nat → Int32
  | 0 => -2
  | d + 1 => cond (splB b f e (10 - d)) (wcd (10 - d)) (wco b f e d)
theorem r_wordOf {E : am_E} (zi : am_inj E) {k n : Nat} (hk : 6 ≤ k) {b : Nat → Nat} (zt : wft n b) {I : am_I} (zT : tC I n b) (w : Int64) {f e : Nat} (hfe : f ≤ e) (he : e ≤ n) : am_Ret E k Y_TextReader_wordOf [.ref 42, .int (nI f), .int (nI e)] I w (am_eq (some (.int (wco b f e 11))) I w) := by
  refine am_intro (pv_TextReader_wordOf E k) (by decide) zi ?_ rfl rfl ?_
  · rintro _ _ _ ⟨rfl, -⟩; rfl
  intro S hS
  refine am_at hS (fun _ => false) 160 0 ?_
  have st := fun i (hi : i < 11) => r_spells zi (k := k - 1) (by omega) zt zT w hfe he hi
  have un : ∀ d, wco b f e (d + 1) = cond (splB b f e (10 - d)) (wcd (10 - d)) (wco b f e d) := fun d => rfl

  refine ⟨_, _, (by omega : k - 1 < k), st 0 (by decide), am_elim ?_⟩
  refine ⟨fun h => ?_, fun h => ?_⟩
  · rw [bi_eq0] at h
    rw [un 10, show splB b f e (10 - 10) = false from h, cond_false]
    clear h
    refine ⟨_, _, (by omega : k - 1 < k), st 1 (by decide), am_elim ?_⟩
    refine ⟨fun h => ?_, fun h => ?_⟩
    · rw [bi_eq0] at h
      rw [un 9, show splB b f e (10 - 9) = false from h, cond_false]
      clear h
      refine ⟨_, _, (by omega : k - 1 < k), st 2 (by decide), am_elim ?_⟩
      refine ⟨fun h => ?_, fun h => ?_⟩
      · rw [bi_eq0] at h
        rw [un 8, show splB b f e (10 - 8) = false from h, cond_false]
        clear h
        refine ⟨_, _, (by omega : k - 1 < k), st 3 (by decide), am_elim ?_⟩
        refine ⟨fun h => ?_, fun h => ?_⟩
        · rw [bi_eq0] at h
          rw [un 7, show splB b f e (10 - 7) = false from h, cond_false]
          clear h
          refine ⟨_, _, (by omega : k - 1 < k), st 4 (by decide), am_elim ?_⟩
          refine ⟨fun h => ?_, fun h => ?_⟩
          · rw [bi_eq0] at h
            rw [un 6, show splB b f e (10 - 6) = false from h, cond_false]
            clear h
            refine ⟨_, _, (by omega : k - 1 < k), st 5 (by decide), am_elim ?_⟩
            refine ⟨fun h => ?_, fun h => ?_⟩
            · rw [bi_eq0] at h
              rw [un 5, show splB b f e (10 - 5) = false from h, cond_false]
              clear h
              refine ⟨_, _, (by omega : k - 1 < k), st 6 (by decide), am_elim ?_⟩
              refine ⟨fun h => ?_, fun h => ?_⟩
              · rw [bi_eq0] at h
                rw [un 4, show splB b f e (10 - 4) = false from h, cond_false]
                clear h
                refine ⟨_, _, (by omega : k - 1 < k), st 7 (by decide), am_elim ?_⟩
                refine ⟨fun h => ?_, fun h => ?_⟩
                · rw [bi_eq0] at h
                  rw [un 3, show splB b f e (10 - 3) = false from h, cond_false]
                  clear h
                  refine ⟨_, _, (by omega : k - 1 < k), st 8 (by decide), am_elim ?_⟩
                  refine ⟨fun h => ?_, fun h => ?_⟩
                  · rw [bi_eq0] at h
                    rw [un 2, show splB b f e (10 - 2) = false from h, cond_false]
                    clear h
                    refine ⟨_, _, (by omega : k - 1 < k), st 9 (by decide), am_elim ?_⟩
                    refine ⟨fun h => ?_, fun h => ?_⟩
                    · rw [bi_eq0] at h
                      rw [un 1, show splB b f e (10 - 1) = false from h, cond_false]
                      clear h
                      refine ⟨_, _, (by omega : k - 1 < k), st 10 (by decide), am_elim ?_⟩
                      refine ⟨fun h => ?_, fun h => ?_⟩
                      · rw [bi_eq0] at h
                        rw [un 0, show splB b f e (10 - 0) = false from h, cond_false]
                        clear h
                        exact ⟨rfl, rfl, rfl⟩
                      · rw [bi_eq0, Bool.not_eq_false] at h
                        rw [un 0, show splB b f e (10 - 0) = true from h]
                        exact ⟨rfl, rfl, rfl⟩
                    · rw [bi_eq0, Bool.not_eq_false] at h
                      rw [un 1, show splB b f e (10 - 1) = true from h]
                      exact ⟨rfl, rfl, rfl⟩
                  · rw [bi_eq0, Bool.not_eq_false] at h
                    rw [un 2, show splB b f e (10 - 2) = true from h]
                    exact ⟨rfl, rfl, rfl⟩
                · rw [bi_eq0, Bool.not_eq_false] at h
                  rw [un 3, show splB b f e (10 - 3) = true from h]
                  exact ⟨rfl, rfl, rfl⟩
              · rw [bi_eq0, Bool.not_eq_false] at h
                rw [un 4, show splB b f e (10 - 4) = true from h]
                exact ⟨rfl, rfl, rfl⟩
            · rw [bi_eq0, Bool.not_eq_false] at h
              rw [un 5, show splB b f e (10 - 5) = true from h]
              exact ⟨rfl, rfl, rfl⟩
          · rw [bi_eq0, Bool.not_eq_false] at h
            rw [un 6, show splB b f e (10 - 6) = true from h]
            exact ⟨rfl, rfl, rfl⟩
        · rw [bi_eq0, Bool.not_eq_false] at h
          rw [un 7, show splB b f e (10 - 7) = true from h]
          exact ⟨rfl, rfl, rfl⟩
      · rw [bi_eq0, Bool.not_eq_false] at h
        rw [un 8, show splB b f e (10 - 8) = true from h]
        exact ⟨rfl, rfl, rfl⟩
    · rw [bi_eq0, Bool.not_eq_false] at h
      rw [un 9, show splB b f e (10 - 9) = true from h]
      exact ⟨rfl, rfl, rfl⟩
  · rw [bi_eq0, Bool.not_eq_false] at h
    rw [un 10, show splB b f e (10 - 10) = true from h]
    exact ⟨rfl, rfl, rfl⟩
