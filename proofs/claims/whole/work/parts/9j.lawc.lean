/-! THE LAW'S LOOP: its cases -/
theorem lw_vp {t d L : Nat} (h : 6 * t + 6 ≤ L) (hL : L ≤ 3072) (hd : d ≤ 5) : vp_in (nI (6 * t) + nI d) L := by
  rw [nI_add]
  exact vp_in_nI (by omega) (by omega)
theorem lw_v0 {t L : Nat} (h : 6 * t + 6 ≤ L) (hL : L ≤ 3072) : vp_in (nI (6 * t)) L := vp_in_nI (by omega) (by omega)
theorem lw_v1 {t L : Nat} (h : 6 * t + 6 ≤ L) (hL : L ≤ 3072) : vp_in (nI (6 * t) + 1) L := lw_vp (d := 1) h hL (by decide)
theorem lw_v2 {t L : Nat} (h : 6 * t + 6 ≤ L) (hL : L ≤ 3072) : vp_in (nI (6 * t) + 2) L := lw_vp (d := 2) h hL (by decide)
theorem lw_v3 {t L : Nat} (h : 6 * t + 6 ≤ L) (hL : L ≤ 3072) : vp_in (nI (6 * t) + 3) L := lw_vp (d := 3) h hL (by decide)
theorem lw_v4 {t L : Nat} (h : 6 * t + 6 ≤ L) (hL : L ≤ 3072) : vp_in (nI (6 * t) + 4) L := lw_vp (d := 4) h hL (by decide)
theorem lw_v5 {t L : Nat} (h : 6 * t + 6 ≤ L) (hL : L ≤ 3072) : vp_in (nI (6 * t) + 5) L := lw_vp (d := 5) h hL (by decide)
theorem du_go {E : am_E} {k : Nat} (hk : 60 < k) {Yc Ym : am_Y} {as : List Value} {α : Type} {mk : α → Value} (hd : du E Yc Ym as mk) {A : ab} (hA : iW A) {I : am_I} {w : Int64} (hC : iC A I) {K : Option Value → am_I → Int64 → Prop}
    (h : ∀ (v : α) (A' : ab), iW A' → (∀ (I : am_I) (w : Int64), iR A I → am_Ret E 60 Ym (.ref 88 :: as) I w (fun q I' _ => q = some (mk v) ∧ iR A' I' ∧ ∀ q, q < 88 → I' q = I q)) → ∀ (I1 : am_I) (w1 : Int64), iC A' I1 → (∀ q, 88 ≤ q → I1 q = I q) → K (some (mk v)) I1 w1) :
    ∃ (k' : Nat) (Po : am_Q), k' < k ∧ am_Ret E k' Yc (.ref 0 :: as) I w Po ∧ ∀ (r : Option Value) (I' : am_I) (w' : Int64), Po r I' w' → K r I' w' := by
  obtain ⟨v, A', hW', h1, h2⟩ := hd A hA
  refine ⟨60, _, hk, h1 I w hC, fun r I' w' hpo => ?_⟩
  obtain ⟨e, y, f⟩ := hpo
  rw [e]
  exact h v A' hW' h2 I' w' y f
def lwF (t : Nat) : am_L := [some (.ref 200), some (.ref 0), some (.ref 88), some (.int (nI (6 * t)))]
set_option maxRecDepth 40000 in
theorem lc_person {E : am_E} (zi : am_inj E) {k : Nat} (hk : 60 < k) {L : Nat} {xs : Nat → Int32} {S : Nat → am_K} {post : am_K} (hS : am_ok S post (P_LAW E k L xs)) {t : Nat} (h0 : 6 * t + 6 ≤ L) (hL : L ≤ 3072) {A : ab} (hA : iW A) {I : am_I} {w : Int64} (hC : iC A I) (hR : iR A I) (hn : ∀ (A' : ab) (I' : am_I) (w' : Int64), iW A' → iC A' I' → iR A' I' → S 1291 (lwF t) [] I' w') : S 196 (lwF t) [] I w := by
  refine am_at hS (fun t => Nat.beq t 1291) 120 196 ?_
  refine ⟨lw_v1 h0 hL, ?_⟩
  refine du_go hk (du_person zi _) hA hC ?_
  intro v A' hW' h2 I1 w1 y1 f1
  refine ⟨lw_v1 h0 hL, ?_⟩
  refine ⟨60, _, hk, h2 I1 w1 (iR_hi f1 hR), ?_⟩
  rintro _ I2 w2 ⟨rfl, y2, f2⟩
  exact ⟨fun _ => hn A' I2 w2 hW' (iC_lo hW' f2 y1) y2, fun q => absurd rfl q⟩
set_option maxRecDepth 40000 in
theorem lc_set {E : am_E} (zi : am_inj E) {k : Nat} (hk : 60 < k) {L : Nat} {xs : Nat → Int32} {S : Nat → am_K} {post : am_K} (hS : am_ok S post (P_LAW E k L xs)) {t : Nat} (h0 : 6 * t + 6 ≤ L) (hL : L ≤ 3072) {A : ab} (hA : iW A) {I : am_I} {w : Int64} (hC : iC A I) (hR : iR A I) (hn : ∀ (A' : ab) (I' : am_I) (w' : Int64), iW A' → iC A' I' → iR A' I' → S 1291 (lwF t) [] I' w') : S 219 (lwF t) [] I w := by
  refine am_at hS (fun t => Nat.beq t 1291) 120 219 ?_
  refine ⟨lw_v1 h0 hL, ?_⟩
  refine ⟨lw_v2 h0 hL, ?_⟩
  refine ⟨lw_v3 h0 hL, ?_⟩
  refine du_go hk (du_set zi _ _ _) hA hC ?_
  intro v A' hW' h2 I1 w1 y1 f1
  refine ⟨lw_v1 h0 hL, ?_⟩
  refine ⟨lw_v2 h0 hL, ?_⟩
  refine ⟨lw_v3 h0 hL, ?_⟩
  refine ⟨60, _, hk, h2 I1 w1 (iR_hi f1 hR), ?_⟩
  rintro _ I2 w2 ⟨rfl, y2, f2⟩
  exact ⟨fun _ => hn A' I2 w2 hW' (iC_lo hW' f2 y1) y2, fun q => absurd rfl q⟩
set_option maxRecDepth 40000 in
theorem lc_feel {E : am_E} (zi : am_inj E) {k : Nat} (hk : 60 < k) {L : Nat} {xs : Nat → Int32} {S : Nat → am_K} {post : am_K} (hS : am_ok S post (P_LAW E k L xs)) {t : Nat} (h0 : 6 * t + 6 ≤ L) (hL : L ≤ 3072) {A : ab} (hA : iW A) {I : am_I} {w : Int64} (hC : iC A I) (hR : iR A I) (hn : ∀ (A' : ab) (I' : am_I) (w' : Int64), iW A' → iC A' I' → iR A' I' → S 1291 (lwF t) [] I' w') : S 262 (lwF t) [] I w := by
  refine am_at hS (fun t => Nat.beq t 1291) 120 262 ?_
  refine ⟨lw_v1 h0 hL, ?_⟩
  refine ⟨lw_v2 h0 hL, ?_⟩
  refine ⟨lw_v3 h0 hL, ?_⟩
  refine ⟨lw_v4 h0 hL, ?_⟩
  refine ⟨lw_v5 h0 hL, ?_⟩
  refine du_go hk (du_feel zi _ _ _ _ _) hA hC ?_
  intro v A' hW' h2 I1 w1 y1 f1
  refine ⟨lw_v1 h0 hL, ?_⟩
  refine ⟨lw_v2 h0 hL, ?_⟩
  refine ⟨lw_v3 h0 hL, ?_⟩
  refine ⟨lw_v4 h0 hL, ?_⟩
  refine ⟨lw_v5 h0 hL, ?_⟩
  refine ⟨60, _, hk, h2 I1 w1 (iR_hi f1 hR), ?_⟩
  rintro _ I2 w2 ⟨rfl, y2, f2⟩
  exact ⟨fun _ => hn A' I2 w2 hW' (iC_lo hW' f2 y1) y2, fun q => absurd rfl q⟩
set_option maxRecDepth 40000 in
theorem lc_felt {E : am_E} (zi : am_inj E) {k : Nat} (hk : 60 < k) {L : Nat} {xs : Nat → Int32} {S : Nat → am_K} {post : am_K} (hS : am_ok S post (P_LAW E k L xs)) {t : Nat} (h0 : 6 * t + 6 ≤ L) (hL : L ≤ 3072) {A : ab} (hA : iW A) {I : am_I} {w : Int64} (hC : iC A I) (hR : iR A I) (hn : ∀ (A' : ab) (I' : am_I) (w' : Int64), iW A' → iC A' I' → iR A' I' → S 1291 (lwF t) [] I' w') : S 325 (lwF t) [] I w := by
  refine am_at hS (fun t => Nat.beq t 1291) 120 325 ?_
  refine ⟨lw_v1 h0 hL, ?_⟩
  refine ⟨lw_v2 h0 hL, ?_⟩
  refine du_go hk (du_felt zi _ _) hA hC ?_
  intro v A' hW' h2 I1 w1 y1 f1
  refine ⟨lw_v1 h0 hL, ?_⟩
  refine ⟨lw_v2 h0 hL, ?_⟩
  refine ⟨60, _, hk, h2 I1 w1 (iR_hi f1 hR), ?_⟩
  rintro _ I2 w2 ⟨rfl, y2, f2⟩
  exact ⟨fun _ => hn A' I2 w2 hW' (iC_lo hW' f2 y1) y2, fun q => absurd rfl q⟩
set_option maxRecDepth 40000 in
theorem lc_between {E : am_E} (zi : am_inj E) {k : Nat} (hk : 60 < k) {L : Nat} {xs : Nat → Int32} {S : Nat → am_K} {post : am_K} (hS : am_ok S post (P_LAW E k L xs)) {t : Nat} (h0 : 6 * t + 6 ≤ L) (hL : L ≤ 3072) {A : ab} (hA : iW A) {I : am_I} {w : Int64} (hC : iC A I) (hR : iR A I) (hn : ∀ (A' : ab) (I' : am_I) (w' : Int64), iW A' → iC A' I' → iR A' I' → S 1291 (lwF t) [] I' w') : S 358 (lwF t) [] I w := by
  refine am_at hS (fun t => Nat.beq t 1291) 120 358 ?_
  refine ⟨lw_v1 h0 hL, ?_⟩
  refine ⟨lw_v2 h0 hL, ?_⟩
  refine du_go hk (du_between zi _ _) hA hC ?_
  intro v A' hW' h2 I1 w1 y1 f1
  refine ⟨lw_v1 h0 hL, ?_⟩
  refine ⟨lw_v2 h0 hL, ?_⟩
  refine ⟨60, _, hk, h2 I1 w1 (iR_hi f1 hR), ?_⟩
  rintro _ I2 w2 ⟨rfl, y2, f2⟩
  exact ⟨fun _ => hn A' I2 w2 hW' (iC_lo hW' f2 y1) y2, fun q => absurd rfl q⟩
set_option maxRecDepth 40000 in
theorem lc_feed {E : am_E} (zi : am_inj E) {k : Nat} (hk : 60 < k) {L : Nat} {xs : Nat → Int32} {S : Nat → am_K} {post : am_K} (hS : am_ok S post (P_LAW E k L xs)) {t : Nat} (h0 : 6 * t + 6 ≤ L) (hL : L ≤ 3072) {A : ab} (hA : iW A) {I : am_I} {w : Int64} (hC : iC A I) (hR : iR A I) (hn : ∀ (A' : ab) (I' : am_I) (w' : Int64), iW A' → iC A' I' → iR A' I' → S 1291 (lwF t) [] I' w') : S 391 (lwF t) [] I w := by
  refine am_at hS (fun t => Nat.beq t 1291) 120 391 ?_
  refine ⟨lw_v1 h0 hL, ?_⟩
  refine ⟨lw_v2 h0 hL, ?_⟩
  refine ⟨lw_v3 h0 hL, ?_⟩
  refine du_go hk (du_feed zi _ _) hA hC ?_
  intro v A' hW' h2 I1 w1 y1 f1
  refine ⟨lw_v1 h0 hL, ?_⟩
  refine ⟨lw_v2 h0 hL, ?_⟩
  refine ⟨lw_v3 h0 hL, ?_⟩
  refine ⟨60, _, hk, h2 I1 w1 (iR_hi f1 hR), ?_⟩
  rintro _ I2 w2 ⟨rfl, y2, f2⟩
  exact ⟨fun _ => hn A' I2 w2 hW' (iC_lo hW' f2 y1) y2, fun q => absurd rfl q⟩
set_option maxRecDepth 40000 in
theorem lc_street {E : am_E} (zi : am_inj E) {k : Nat} (hk : 60 < k) {L : Nat} {xs : Nat → Int32} {S : Nat → am_K} {post : am_K} (hS : am_ok S post (P_LAW E k L xs)) {t : Nat} (h0 : 6 * t + 6 ≤ L) (hL : L ≤ 3072) {A : ab} (hA : iW A) {I : am_I} {w : Int64} (hC : iC A I) (hR : iR A I) (hn : ∀ (A' : ab) (I' : am_I) (w' : Int64), iW A' → iC A' I' → iR A' I' → S 1291 (lwF t) [] I' w') : S 454 (lwF t) [] I w := by
  refine am_at hS (fun t => Nat.beq t 1291) 120 454 ?_
  refine du_go hk (du_street zi) hA hC ?_
  intro v A' hW' h2 I1 w1 y1 f1
  refine ⟨60, _, hk, h2 I1 w1 (iR_hi f1 hR), ?_⟩
  rintro _ I2 w2 ⟨rfl, y2, f2⟩
  exact ⟨fun _ => hn A' I2 w2 hW' (iC_lo hW' f2 y1) y2, fun q => absurd rfl q⟩
set_option maxRecDepth 40000 in
theorem lc_text {E : am_E} (zi : am_inj E) {k : Nat} (hk : 60 < k) {L : Nat} {xs : Nat → Int32} {S : Nat → am_K} {post : am_K} (hS : am_ok S post (P_LAW E k L xs)) {t : Nat} (h0 : 6 * t + 6 ≤ L) (hL : L ≤ 3072) {A : ab} (hA : iW A) {I : am_I} {w : Int64} (hC : iC A I) (hR : iR A I) (hn : ∀ (A' : ab) (I' : am_I) (w' : Int64), iW A' → iC A' I' → iR A' I' → S 1291 (lwF t) [] I' w') : S 467 (lwF t) [] I w := by
  refine am_at hS (fun t => Nat.beq t 1291) 120 467 ?_
  refine du_go hk (du_text zi) hA hC ?_
  intro v A' hW' h2 I1 w1 y1 f1
  refine ⟨60, _, hk, h2 I1 w1 (iR_hi f1 hR), ?_⟩
  rintro _ I2 w2 ⟨rfl, y2, f2⟩
  exact ⟨fun _ => hn A' I2 w2 hW' (iC_lo hW' f2 y1) y2, fun q => absurd rfl q⟩
set_option maxRecDepth 40000 in
theorem lc_force {E : am_E} (zi : am_inj E) {k : Nat} (hk : 60 < k) {L : Nat} {xs : Nat → Int32} {S : Nat → am_K} {post : am_K} (hS : am_ok S post (P_LAW E k L xs)) {t : Nat} (h0 : 6 * t + 6 ≤ L) (hL : L ≤ 3072) {A : ab} (hA : iW A) {I : am_I} {w : Int64} (hC : iC A I) (hR : iR A I) (hn : ∀ (A' : ab) (I' : am_I) (w' : Int64), iW A' → iC A' I' → iR A' I' → S 1291 (lwF t) [] I' w') : S 480 (lwF t) [] I w := by
  refine am_at hS (fun t => Nat.beq t 1291) 120 480 ?_
  refine ⟨lw_v1 h0 hL, ?_⟩
  refine du_go hk (du_force zi _) hA hC ?_
  intro v A' hW' h2 I1 w1 y1 f1
  refine ⟨lw_v1 h0 hL, ?_⟩
  refine ⟨60, _, hk, h2 I1 w1 (iR_hi f1 hR), ?_⟩
  rintro _ I2 w2 ⟨rfl, y2, f2⟩
  exact ⟨fun _ => hn A' I2 w2 hW' (iC_lo hW' f2 y1) y2, fun q => absurd rfl q⟩
set_option maxRecDepth 40000 in
theorem lc_camping {E : am_E} (zi : am_inj E) {k : Nat} (hk : 60 < k) {L : Nat} {xs : Nat → Int32} {S : Nat → am_K} {post : am_K} (hS : am_ok S post (P_LAW E k L xs)) {t : Nat} (h0 : 6 * t + 6 ≤ L) (hL : L ≤ 3072) {A : ab} (hA : iW A) {I : am_I} {w : Int64} (hC : iC A I) (hR : iR A I) (hn : ∀ (A' : ab) (I' : am_I) (w' : Int64), iW A' → iC A' I' → iR A' I' → S 1291 (lwF t) [] I' w') : S 503 (lwF t) [] I w := by
  refine am_at hS (fun t => Nat.beq t 1291) 120 503 ?_
  refine ⟨lw_v1 h0 hL, ?_⟩
  refine ⟨lw_v2 h0 hL, ?_⟩
  refine du_go hk (du_camping zi _ _) hA hC ?_
  intro v A' hW' h2 I1 w1 y1 f1
  refine ⟨lw_v1 h0 hL, ?_⟩
  refine ⟨lw_v2 h0 hL, ?_⟩
  refine ⟨60, _, hk, h2 I1 w1 (iR_hi f1 hR), ?_⟩
  rintro _ I2 w2 ⟨rfl, y2, f2⟩
  exact ⟨fun _ => hn A' I2 w2 hW' (iC_lo hW' f2 y1) y2, fun q => absurd rfl q⟩
set_option maxRecDepth 40000 in
theorem lc_camped {E : am_E} (zi : am_inj E) {k : Nat} (hk : 60 < k) {L : Nat} {xs : Nat → Int32} {S : Nat → am_K} {post : am_K} (hS : am_ok S post (P_LAW E k L xs)) {t : Nat} (h0 : 6 * t + 6 ≤ L) (hL : L ≤ 3072) {A : ab} (hA : iW A) {I : am_I} {w : Int64} (hC : iC A I) (hR : iR A I) (hn : ∀ (A' : ab) (I' : am_I) (w' : Int64), iW A' → iC A' I' → iR A' I' → S 1291 (lwF t) [] I' w') : S 536 (lwF t) [] I w := by
  refine am_at hS (fun t => Nat.beq t 1291) 120 536 ?_
  refine ⟨lw_v1 h0 hL, ?_⟩
  refine ⟨lw_v2 h0 hL, ?_⟩
  refine du_go hk (du_camped zi _ _) hA hC ?_
  intro v A' hW' h2 I1 w1 y1 f1
  refine ⟨lw_v1 h0 hL, ?_⟩
  refine ⟨lw_v2 h0 hL, ?_⟩
  refine ⟨60, _, hk, h2 I1 w1 (iR_hi f1 hR), ?_⟩
  rintro _ I2 w2 ⟨rfl, y2, f2⟩
  exact ⟨fun _ => hn A' I2 w2 hW' (iC_lo hW' f2 y1) y2, fun q => absurd rfl q⟩
set_option maxRecDepth 40000 in
theorem lc_cost {E : am_E} (zi : am_inj E) {k : Nat} (hk : 60 < k) {L : Nat} {xs : Nat → Int32} {S : Nat → am_K} {post : am_K} (hS : am_ok S post (P_LAW E k L xs)) {t : Nat} (h0 : 6 * t + 6 ≤ L) (hL : L ≤ 3072) {A : ab} (hA : iW A) {I : am_I} {w : Int64} (hC : iC A I) (hR : iR A I) (hn : ∀ (A' : ab) (I' : am_I) (w' : Int64), iW A' → iC A' I' → iR A' I' → S 1291 (lwF t) [] I' w') : S 569 (lwF t) [] I w := by
  refine am_at hS (fun t => Nat.beq t 1291) 120 569 ?_
  refine ⟨lw_v1 h0 hL, ?_⟩
  refine du_go hk (du_cost zi _) hA hC ?_
  intro v A' hW' h2 I1 w1 y1 f1
  refine ⟨lw_v1 h0 hL, ?_⟩
  refine ⟨60, _, hk, h2 I1 w1 (iR_hi f1 hR), ?_⟩
  rintro _ I2 w2 ⟨rfl, y2, f2⟩
  exact ⟨fun _ => hn A' I2 w2 hW' (iC_lo hW' f2 y1) y2, fun q => absurd (cmp_eq.mpr rfl) q⟩
set_option maxRecDepth 40000 in
theorem lc_move {E : am_E} (zi : am_inj E) {k : Nat} (hk : 60 < k) {L : Nat} {xs : Nat → Int32} {S : Nat → am_K} {post : am_K} (hS : am_ok S post (P_LAW E k L xs)) {t : Nat} (h0 : 6 * t + 6 ≤ L) (hL : L ≤ 3072) {A : ab} (hA : iW A) {I : am_I} {w : Int64} (hC : iC A I) (hR : iR A I) (hn : ∀ (A' : ab) (I' : am_I) (w' : Int64), iW A' → iC A' I' → iR A' I' → S 1291 (lwF t) [] I' w') : S 593 (lwF t) [] I w := by
  refine am_at hS (fun t => Nat.beq t 1291) 120 593 ?_
  refine ⟨lw_v1 h0 hL, ?_⟩
  refine ⟨lw_v2 h0 hL, ?_⟩
  refine ⟨lw_v3 h0 hL, ?_⟩
  refine du_go hk (du_move zi _ _ _) hA hC ?_
  intro v A' hW' h2 I1 w1 y1 f1
  refine ⟨lw_v1 h0 hL, ?_⟩
  refine ⟨lw_v2 h0 hL, ?_⟩
  refine ⟨lw_v3 h0 hL, ?_⟩
  refine ⟨60, _, hk, h2 I1 w1 (iR_hi f1 hR), ?_⟩
  rintro _ I2 w2 ⟨rfl, y2, f2⟩
  exact ⟨fun _ => hn A' I2 w2 hW' (iC_lo hW' f2 y1) y2, fun q => absurd (cmp_eq.mpr rfl) q⟩
set_option maxRecDepth 40000 in
theorem lc_same {E : am_E} (zi : am_inj E) {k : Nat} (hk : 60 < k) {L : Nat} {xs : Nat → Int32} {S : Nat → am_K} {post : am_K} (hS : am_ok S post (P_LAW E k L xs)) {t : Nat} (h0 : 6 * t + 6 ≤ L) (hL : L ≤ 3072) {A : ab} (hA : iW A) {I : am_I} {w : Int64} (hC : iC A I) (hR : iR A I) (hn : ∀ (A' : ab) (I' : am_I) (w' : Int64), iW A' → iC A' I' → iR A' I' → S 1291 (lwF t) [] I' w') : S 637 (lwF t) [] I w := by
  refine am_at hS (fun t => Nat.beq t 1291) 120 637 ?_
  refine ⟨lw_v1 h0 hL, ?_⟩
  refine ⟨lw_v2 h0 hL, ?_⟩
  refine du_go hk (du_same zi _ _) hA hC ?_
  intro v A' hW' h2 I1 w1 y1 f1
  refine ⟨lw_v1 h0 hL, ?_⟩
  refine ⟨lw_v2 h0 hL, ?_⟩
  refine ⟨60, _, hk, h2 I1 w1 (iR_hi f1 hR), ?_⟩
  rintro _ I2 w2 ⟨rfl, y2, f2⟩
  exact ⟨fun _ => hn A' I2 w2 hW' (iC_lo hW' f2 y1) y2, fun q => absurd rfl q⟩
set_option maxRecDepth 40000 in
theorem lc_peace {E : am_E} (zi : am_inj E) {k : Nat} (hk : 60 < k) {L : Nat} {xs : Nat → Int32} {S : Nat → am_K} {post : am_K} (hS : am_ok S post (P_LAW E k L xs)) {t : Nat} (h0 : 6 * t + 6 ≤ L) (hL : L ≤ 3072) {A : ab} (hA : iW A) {I : am_I} {w : Int64} (hC : iC A I) (hR : iR A I) (hn : ∀ (A' : ab) (I' : am_I) (w' : Int64), iW A' → iC A' I' → iR A' I' → S 1291 (lwF t) [] I' w') : S 670 (lwF t) [] I w := by
  refine am_at hS (fun t => Nat.beq t 1291) 120 670 ?_
  refine du_go hk (du_peace zi) hA hC ?_
  intro v A' hW' h2 I1 w1 y1 f1
  refine ⟨60, _, hk, h2 I1 w1 (iR_hi f1 hR), ?_⟩
  rintro _ I2 w2 ⟨rfl, y2, f2⟩
  exact ⟨fun _ => hn A' I2 w2 hW' (iC_lo hW' f2 y1) y2, fun q => absurd rfl q⟩
set_option maxRecDepth 40000 in
theorem lc_ring {E : am_E} (zi : am_inj E) {k : Nat} (hk : 60 < k) {L : Nat} {xs : Nat → Int32} {S : Nat → am_K} {post : am_K} (hS : am_ok S post (P_LAW E k L xs)) {t : Nat} (h0 : 6 * t + 6 ≤ L) (hL : L ≤ 3072) {A : ab} (hA : iW A) {I : am_I} {w : Int64} (hC : iC A I) (hR : iR A I) (hn : ∀ (A' : ab) (I' : am_I) (w' : Int64), iW A' → iC A' I' → iR A' I' → S 1291 (lwF t) [] I' w') : S 683 (lwF t) [] I w := by
  refine am_at hS (fun t => Nat.beq t 1291) 120 683 ?_
  refine ⟨lw_v1 h0 hL, ?_⟩
  refine du_go hk (du_ring zi _) hA hC ?_
  intro v A' hW' h2 I1 w1 y1 f1
  refine ⟨lw_v1 h0 hL, ?_⟩
  refine ⟨60, _, hk, h2 I1 w1 (iR_hi f1 hR), ?_⟩
  rintro _ I2 w2 ⟨rfl, y2, f2⟩
  exact ⟨fun _ => hn A' I2 w2 hW' (iC_lo hW' f2 y1) y2, fun q => absurd rfl q⟩
set_option maxRecDepth 40000 in
theorem lc_least {E : am_E} (zi : am_inj E) {k : Nat} (hk : 60 < k) {L : Nat} {xs : Nat → Int32} {S : Nat → am_K} {post : am_K} (hS : am_ok S post (P_LAW E k L xs)) {t : Nat} (h0 : 6 * t + 6 ≤ L) (hL : L ≤ 3072) {A : ab} (hA : iW A) {I : am_I} {w : Int64} (hC : iC A I) (hR : iR A I) (hn : ∀ (A' : ab) (I' : am_I) (w' : Int64), iW A' → iC A' I' → iR A' I' → S 1291 (lwF t) [] I' w') : S 706 (lwF t) [] I w := by
  refine am_at hS (fun t => Nat.beq t 1291) 120 706 ?_
  refine du_go hk (du_least zi) hA hC ?_
  intro v A' hW' h2 I1 w1 y1 f1
  refine ⟨60, _, hk, h2 I1 w1 (iR_hi f1 hR), ?_⟩
  rintro _ I2 w2 ⟨rfl, y2, f2⟩
  exact ⟨fun _ => hn A' I2 w2 hW' (iC_lo hW' f2 y1) y2, fun q => absurd rfl q⟩
set_option maxRecDepth 40000 in
theorem lc_all {E : am_E} (zi : am_inj E) {k : Nat} (hk : 60 < k) {L : Nat} {xs : Nat → Int32} {S : Nat → am_K} {post : am_K} (hS : am_ok S post (P_LAW E k L xs)) {t : Nat} (h0 : 6 * t + 6 ≤ L) (hL : L ≤ 3072) {A : ab} (hA : iW A) {I : am_I} {w : Int64} (hC : iC A I) (hR : iR A I) (hn : ∀ (A' : ab) (I' : am_I) (w' : Int64), iW A' → iC A' I' → iR A' I' → S 1291 (lwF t) [] I' w') : S 719 (lwF t) [] I w := by
  refine am_at hS (fun t => Nat.beq t 1291) 120 719 ?_
  refine ⟨lw_v1 h0 hL, ?_⟩
  refine du_go hk (du_all zi _) hA hC ?_
  intro v A' hW' h2 I1 w1 y1 f1
  refine ⟨lw_v1 h0 hL, ?_⟩
  refine ⟨60, _, hk, h2 I1 w1 (iR_hi f1 hR), ?_⟩
  rintro _ I2 w2 ⟨rfl, y2, f2⟩
  exact ⟨fun _ => hn A' I2 w2 hW' (iC_lo hW' f2 y1) y2, fun q => absurd rfl q⟩
set_option maxRecDepth 40000 in
theorem lc_together {E : am_E} (zi : am_inj E) {k : Nat} (hk : 60 < k) {L : Nat} {xs : Nat → Int32} {S : Nat → am_K} {post : am_K} (hS : am_ok S post (P_LAW E k L xs)) {t : Nat} (h0 : 6 * t + 6 ≤ L) (hL : L ≤ 3072) {A : ab} (hA : iW A) {I : am_I} {w : Int64} (hC : iC A I) (hR : iR A I) (hn : ∀ (A' : ab) (I' : am_I) (w' : Int64), iW A' → iC A' I' → iR A' I' → S 1291 (lwF t) [] I' w') : S 742 (lwF t) [] I w := by
  refine am_at hS (fun t => Nat.beq t 1291) 120 742 ?_
  refine ⟨lw_v1 h0 hL, ?_⟩
  refine ⟨lw_v2 h0 hL, ?_⟩
  refine du_go hk (du_together zi _ _) hA hC ?_
  intro v A' hW' h2 I1 w1 y1 f1
  refine ⟨lw_v1 h0 hL, ?_⟩
  refine ⟨lw_v2 h0 hL, ?_⟩
  refine ⟨60, _, hk, h2 I1 w1 (iR_hi f1 hR), ?_⟩
  rintro _ I2 w2 ⟨rfl, y2, f2⟩
  exact ⟨fun _ => hn A' I2 w2 hW' (iC_lo hW' f2 y1) y2, fun q => absurd rfl q⟩
set_option maxRecDepth 40000 in
theorem lc_aside {E : am_E} (zi : am_inj E) {k : Nat} (hk : 60 < k) {L : Nat} {xs : Nat → Int32} {S : Nat → am_K} {post : am_K} (hS : am_ok S post (P_LAW E k L xs)) {t : Nat} (h0 : 6 * t + 6 ≤ L) (hL : L ≤ 3072) {A : ab} (hA : iW A) {I : am_I} {w : Int64} (hC : iC A I) (hR : iR A I) (hn : ∀ (A' : ab) (I' : am_I) (w' : Int64), iW A' → iC A' I' → iR A' I' → S 1291 (lwF t) [] I' w') : S 775 (lwF t) [] I w := by
  refine am_at hS (fun t => Nat.beq t 1291) 120 775 ?_
  refine du_go hk (du_aside zi) hA hC ?_
  intro v A' hW' h2 I1 w1 y1 f1
  refine ⟨60, _, hk, h2 I1 w1 (iR_hi f1 hR), ?_⟩
  rintro _ I2 w2 ⟨rfl, y2, f2⟩
  exact ⟨fun _ => hn A' I2 w2 hW' (iC_lo hW' f2 y1) y2, fun q => absurd rfl q⟩
set_option maxRecDepth 40000 in
theorem lc_many {E : am_E} (zi : am_inj E) {k : Nat} (hk : 60 < k) {L : Nat} {xs : Nat → Int32} {S : Nat → am_K} {post : am_K} (hS : am_ok S post (P_LAW E k L xs)) {t : Nat} (h0 : 6 * t + 6 ≤ L) (hL : L ≤ 3072) {A : ab} (hA : iW A) {I : am_I} {w : Int64} (hC : iC A I) (hR : iR A I) (hn : ∀ (A' : ab) (I' : am_I) (w' : Int64), iW A' → iC A' I' → iR A' I' → S 1291 (lwF t) [] I' w') : S 788 (lwF t) [] I w := by
  refine am_at hS (fun t => Nat.beq t 1291) 120 788 ?_
  refine ⟨lw_v1 h0 hL, ?_⟩
  refine du_go hk (du_many zi _) hA hC ?_
  intro v A' hW' h2 I1 w1 y1 f1
  refine ⟨lw_v1 h0 hL, ?_⟩
  refine ⟨60, _, hk, h2 I1 w1 (iR_hi f1 hR), ?_⟩
  rintro _ I2 w2 ⟨rfl, y2, f2⟩
  exact ⟨fun _ => hn A' I2 w2 hW' (iC_lo hW' f2 y1) y2, fun q => absurd rfl q⟩
set_option maxRecDepth 40000 in
theorem lc_part {E : am_E} (zi : am_inj E) {k : Nat} (hk : 60 < k) {L : Nat} {xs : Nat → Int32} {S : Nat → am_K} {post : am_K} (hS : am_ok S post (P_LAW E k L xs)) {t : Nat} (h0 : 6 * t + 6 ≤ L) (hL : L ≤ 3072) {A : ab} (hA : iW A) {I : am_I} {w : Int64} (hC : iC A I) (hR : iR A I) (hn : ∀ (A' : ab) (I' : am_I) (w' : Int64), iW A' → iC A' I' → iR A' I' → S 1291 (lwF t) [] I' w') : S 811 (lwF t) [] I w := by
  refine am_at hS (fun t => Nat.beq t 1291) 120 811 ?_
  refine ⟨lw_v1 h0 hL, ?_⟩
  refine du_go hk (du_part zi _) hA hC ?_
  intro v A' hW' h2 I1 w1 y1 f1
  refine ⟨lw_v1 h0 hL, ?_⟩
  refine ⟨60, _, hk, h2 I1 w1 (iR_hi f1 hR), ?_⟩
  rintro _ I2 w2 ⟨rfl, y2, f2⟩
  exact ⟨fun _ => hn A' I2 w2 hW' (iC_lo hW' f2 y1) y2, fun q => absurd rfl q⟩
set_option maxRecDepth 40000 in
theorem lc_doors {E : am_E} (zi : am_inj E) {k : Nat} (hk : 60 < k) {L : Nat} {xs : Nat → Int32} {S : Nat → am_K} {post : am_K} (hS : am_ok S post (P_LAW E k L xs)) {t : Nat} (h0 : 6 * t + 6 ≤ L) (hL : L ≤ 3072) {A : ab} (hA : iW A) {I : am_I} {w : Int64} (hC : iC A I) (hR : iR A I) (hn : ∀ (A' : ab) (I' : am_I) (w' : Int64), iW A' → iC A' I' → iR A' I' → S 1291 (lwF t) [] I' w') : S 834 (lwF t) [] I w := by
  refine am_at hS (fun t => Nat.beq t 1291) 120 834 ?_
  refine du_go hk (du_doors zi) hA hC ?_
  intro v A' hW' h2 I1 w1 y1 f1
  refine ⟨60, _, hk, h2 I1 w1 (iR_hi f1 hR), ?_⟩
  rintro _ I2 w2 ⟨rfl, y2, f2⟩
  exact ⟨fun _ => hn A' I2 w2 hW' (iC_lo hW' f2 y1) y2, fun q => absurd rfl q⟩
set_option maxRecDepth 40000 in
theorem lc_threes {E : am_E} (zi : am_inj E) {k : Nat} (hk : 60 < k) {L : Nat} {xs : Nat → Int32} {S : Nat → am_K} {post : am_K} (hS : am_ok S post (P_LAW E k L xs)) {t : Nat} (h0 : 6 * t + 6 ≤ L) (hL : L ≤ 3072) {A : ab} (hA : iW A) {I : am_I} {w : Int64} (hC : iC A I) (hR : iR A I) (hn : ∀ (A' : ab) (I' : am_I) (w' : Int64), iW A' → iC A' I' → iR A' I' → S 1291 (lwF t) [] I' w') : S 847 (lwF t) [] I w := by
  refine am_at hS (fun t => Nat.beq t 1291) 120 847 ?_
  refine du_go hk (du_threes zi) hA hC ?_
  intro v A' hW' h2 I1 w1 y1 f1
  refine ⟨60, _, hk, h2 I1 w1 (iR_hi f1 hR), ?_⟩
  rintro _ I2 w2 ⟨rfl, y2, f2⟩
  exact ⟨fun _ => hn A' I2 w2 hW' (iC_lo hW' f2 y1) y2, fun q => absurd rfl q⟩
set_option maxRecDepth 40000 in
theorem lc_step {E : am_E} (zi : am_inj E) {k : Nat} (hk : 60 < k) {L : Nat} {xs : Nat → Int32} {S : Nat → am_K} {post : am_K} (hS : am_ok S post (P_LAW E k L xs)) {t : Nat} (h0 : 6 * t + 6 ≤ L) (hL : L ≤ 3072) {A : ab} (hA : iW A) {I : am_I} {w : Int64} (hC : iC A I) (hR : iR A I) (hn : ∀ (A' : ab) (I' : am_I) (w' : Int64), iW A' → iC A' I' → iR A' I' → S 1291 (lwF t) [] I' w') : S 860 (lwF t) [] I w := by
  refine am_at hS (fun t => Nat.beq t 1291) 120 860 ?_
  refine ⟨lw_v1 h0 hL, ?_⟩
  refine du_go hk (du_step zi _) hA hC ?_
  intro v A' hW' h2 I1 w1 y1 f1
  refine ⟨lw_v1 h0 hL, ?_⟩
  refine ⟨60, _, hk, h2 I1 w1 (iR_hi f1 hR), ?_⟩
  rintro _ I2 w2 ⟨rfl, y2, f2⟩
  exact ⟨fun _ => hn A' I2 w2 hW' (iC_lo hW' f2 y1) y2, fun q => absurd rfl q⟩
set_option maxRecDepth 40000 in
theorem lc_ends {E : am_E} (zi : am_inj E) {k : Nat} (hk : 60 < k) {L : Nat} {xs : Nat → Int32} {S : Nat → am_K} {post : am_K} (hS : am_ok S post (P_LAW E k L xs)) {t : Nat} (h0 : 6 * t + 6 ≤ L) (hL : L ≤ 3072) {A : ab} (hA : iW A) {I : am_I} {w : Int64} (hC : iC A I) (hR : iR A I) (hn : ∀ (A' : ab) (I' : am_I) (w' : Int64), iW A' → iC A' I' → iR A' I' → S 1291 (lwF t) [] I' w') : S 883 (lwF t) [] I w := by
  refine am_at hS (fun t => Nat.beq t 1291) 120 883 ?_
  refine ⟨lw_v1 h0 hL, ?_⟩
  refine du_go hk (du_ends zi _) hA hC ?_
  intro v A' hW' h2 I1 w1 y1 f1
  refine ⟨lw_v1 h0 hL, ?_⟩
  refine ⟨60, _, hk, h2 I1 w1 (iR_hi f1 hR), ?_⟩
  rintro _ I2 w2 ⟨rfl, y2, f2⟩
  exact ⟨fun _ => hn A' I2 w2 hW' (iC_lo hW' f2 y1) y2, fun q => absurd rfl q⟩
set_option maxRecDepth 40000 in
theorem lc_meet {E : am_E} (zi : am_inj E) {k : Nat} (hk : 60 < k) {L : Nat} {xs : Nat → Int32} {S : Nat → am_K} {post : am_K} (hS : am_ok S post (P_LAW E k L xs)) {t : Nat} (h0 : 6 * t + 6 ≤ L) (hL : L ≤ 3072) {A : ab} (hA : iW A) {I : am_I} {w : Int64} (hC : iC A I) (hR : iR A I) (hn : ∀ (A' : ab) (I' : am_I) (w' : Int64), iW A' → iC A' I' → iR A' I' → S 1291 (lwF t) [] I' w') : S 906 (lwF t) [] I w := by
  refine am_at hS (fun t => Nat.beq t 1291) 120 906 ?_
  refine ⟨lw_v1 h0 hL, ?_⟩
  refine ⟨lw_v2 h0 hL, ?_⟩
  refine ⟨lw_v3 h0 hL, ?_⟩
  refine du_go hk (du_meet zi _ _ _) hA hC ?_
  intro v A' hW' h2 I1 w1 y1 f1
  refine ⟨lw_v1 h0 hL, ?_⟩
  refine ⟨lw_v2 h0 hL, ?_⟩
  refine ⟨lw_v3 h0 hL, ?_⟩
  refine ⟨60, _, hk, h2 I1 w1 (iR_hi f1 hR), ?_⟩
  rintro _ I2 w2 ⟨rfl, y2, f2⟩
  exact ⟨fun _ => hn A' I2 w2 hW' (iC_lo hW' f2 y1) y2, fun q => absurd (cmp_eq.mpr rfl) q⟩
set_option maxRecDepth 40000 in
theorem lc_edge {E : am_E} (zi : am_inj E) {k : Nat} (hk : 60 < k) {L : Nat} {xs : Nat → Int32} {S : Nat → am_K} {post : am_K} (hS : am_ok S post (P_LAW E k L xs)) {t : Nat} (h0 : 6 * t + 6 ≤ L) (hL : L ≤ 3072) {A : ab} (hA : iW A) {I : am_I} {w : Int64} (hC : iC A I) (hR : iR A I) (hn : ∀ (A' : ab) (I' : am_I) (w' : Int64), iW A' → iC A' I' → iR A' I' → S 1291 (lwF t) [] I' w') : S 950 (lwF t) [] I w := by
  refine am_at hS (fun t => Nat.beq t 1291) 120 950 ?_
  refine ⟨lw_v1 h0 hL, ?_⟩
  refine du_go hk (du_edge zi _) hA hC ?_
  intro v A' hW' h2 I1 w1 y1 f1
  refine ⟨lw_v1 h0 hL, ?_⟩
  refine ⟨60, _, hk, h2 I1 w1 (iR_hi f1 hR), ?_⟩
  rintro _ I2 w2 ⟨rfl, y2, f2⟩
  exact ⟨fun _ => hn A' I2 w2 hW' (iC_lo hW' f2 y1) y2, fun q => absurd (cmp_eq.mpr rfl) q⟩
set_option maxRecDepth 40000 in
theorem lc_bring {E : am_E} (zi : am_inj E) {k : Nat} (hk : 60 < k) {L : Nat} {xs : Nat → Int32} {S : Nat → am_K} {post : am_K} (hS : am_ok S post (P_LAW E k L xs)) {t : Nat} (h0 : 6 * t + 6 ≤ L) (hL : L ≤ 3072) {A : ab} (hA : iW A) {I : am_I} {w : Int64} (hC : iC A I) (hR : iR A I) (hn : ∀ (A' : ab) (I' : am_I) (w' : Int64), iW A' → iC A' I' → iR A' I' → S 1291 (lwF t) [] I' w') : S 974 (lwF t) [] I w := by
  refine am_at hS (fun t => Nat.beq t 1291) 120 974 ?_
  refine ⟨lw_v1 h0 hL, ?_⟩
  refine ⟨lw_v2 h0 hL, ?_⟩
  refine du_go hk (du_bring zi _ _) hA hC ?_
  intro v A' hW' h2 I1 w1 y1 f1
  refine ⟨lw_v1 h0 hL, ?_⟩
  refine ⟨lw_v2 h0 hL, ?_⟩
  refine ⟨60, _, hk, h2 I1 w1 (iR_hi f1 hR), ?_⟩
  rintro _ I2 w2 ⟨rfl, y2, f2⟩
  exact ⟨fun _ => hn A' I2 w2 hW' (iC_lo hW' f2 y1) y2, fun q => absurd rfl q⟩
set_option maxRecDepth 40000 in
theorem lc_image {E : am_E} (zi : am_inj E) {k : Nat} (hk : 60 < k) {L : Nat} {xs : Nat → Int32} {S : Nat → am_K} {post : am_K} (hS : am_ok S post (P_LAW E k L xs)) {t : Nat} (h0 : 6 * t + 6 ≤ L) (hL : L ≤ 3072) {A : ab} (hA : iW A) {I : am_I} {w : Int64} (hC : iC A I) (hR : iR A I) (hn : ∀ (A' : ab) (I' : am_I) (w' : Int64), iW A' → iC A' I' → iR A' I' → S 1291 (lwF t) [] I' w') : S 1007 (lwF t) [] I w := by
  refine am_at hS (fun t => Nat.beq t 1291) 120 1007 ?_
  refine du_go hk (du_image zi) hA hC ?_
  intro v A' hW' h2 I1 w1 y1 f1
  refine ⟨60, _, hk, h2 I1 w1 (iR_hi f1 hR), ?_⟩
  rintro _ I2 w2 ⟨rfl, y2, f2⟩
  exact ⟨fun _ => hn A' I2 w2 hW' (iC_lo hW' f2 y1) y2, fun q => absurd rfl q⟩
set_option maxRecDepth 40000 in
theorem lc_back {E : am_E} (zi : am_inj E) {k : Nat} (hk : 60 < k) {L : Nat} {xs : Nat → Int32} {S : Nat → am_K} {post : am_K} (hS : am_ok S post (P_LAW E k L xs)) {t : Nat} (h0 : 6 * t + 6 ≤ L) (hL : L ≤ 3072) {A : ab} (hA : iW A) {I : am_I} {w : Int64} (hC : iC A I) (hR : iR A I) (hn : ∀ (A' : ab) (I' : am_I) (w' : Int64), iW A' → iC A' I' → iR A' I' → S 1291 (lwF t) [] I' w') : S 1020 (lwF t) [] I w := by
  refine am_at hS (fun t => Nat.beq t 1291) 120 1020 ?_
  refine du_go hk (du_back zi) hA hC ?_
  intro v A' hW' h2 I1 w1 y1 f1
  refine ⟨60, _, hk, h2 I1 w1 (iR_hi f1 hR), ?_⟩
  rintro _ I2 w2 ⟨rfl, y2, f2⟩
  exact ⟨fun _ => hn A' I2 w2 hW' (iC_lo hW' f2 y1) y2, fun q => absurd rfl q⟩
set_option maxRecDepth 40000 in
theorem lc_count {E : am_E} (zi : am_inj E) {k : Nat} (hk : 60 < k) {L : Nat} {xs : Nat → Int32} {S : Nat → am_K} {post : am_K} (hS : am_ok S post (P_LAW E k L xs)) {t : Nat} (h0 : 6 * t + 6 ≤ L) (hL : L ≤ 3072) {A : ab} (hA : iW A) {I : am_I} {w : Int64} (hC : iC A I) (hR : iR A I) (hn : ∀ (A' : ab) (I' : am_I) (w' : Int64), iW A' → iC A' I' → iR A' I' → S 1291 (lwF t) [] I' w') : S 1033 (lwF t) [] I w := by
  refine am_at hS (fun t => Nat.beq t 1291) 120 1033 ?_
  refine ⟨lw_v1 h0 hL, ?_⟩
  refine du_go hk (du_count zi _) hA hC ?_
  intro v A' hW' h2 I1 w1 y1 f1
  refine ⟨lw_v1 h0 hL, ?_⟩
  refine ⟨60, _, hk, h2 I1 w1 (iR_hi f1 hR), ?_⟩
  rintro _ I2 w2 ⟨rfl, y2, f2⟩
  exact ⟨fun _ => hn A' I2 w2 hW' (iC_lo hW' f2 y1) y2, fun q => absurd rfl q⟩
set_option maxRecDepth 40000 in
theorem lc_sheet {E : am_E} (zi : am_inj E) {k : Nat} (hk : 60 < k) {L : Nat} {xs : Nat → Int32} {S : Nat → am_K} {post : am_K} (hS : am_ok S post (P_LAW E k L xs)) {t : Nat} (h0 : 6 * t + 6 ≤ L) (hL : L ≤ 3072) {A : ab} (hA : iW A) {I : am_I} {w : Int64} (hC : iC A I) (hR : iR A I) (hn : ∀ (A' : ab) (I' : am_I) (w' : Int64), iW A' → iC A' I' → iR A' I' → S 1291 (lwF t) [] I' w') : S 1056 (lwF t) [] I w := by
  refine am_at hS (fun t => Nat.beq t 1291) 120 1056 ?_
  refine ⟨lw_v1 h0 hL, ?_⟩
  refine ⟨lw_v2 h0 hL, ?_⟩
  refine ⟨lw_v3 h0 hL, ?_⟩
  refine du_go hk (du_sheet zi _ _ _) hA hC ?_
  intro v A' hW' h2 I1 w1 y1 f1
  refine ⟨lw_v1 h0 hL, ?_⟩
  refine ⟨lw_v2 h0 hL, ?_⟩
  refine ⟨lw_v3 h0 hL, ?_⟩
  refine ⟨60, _, hk, h2 I1 w1 (iR_hi f1 hR), ?_⟩
  rintro _ I2 w2 ⟨rfl, y2, f2⟩
  exact ⟨fun _ => hn A' I2 w2 hW' (iC_lo hW' f2 y1) y2, fun q => absurd rfl q⟩
set_option maxRecDepth 40000 in
theorem lc_cell {E : am_E} (zi : am_inj E) {k : Nat} (hk : 60 < k) {L : Nat} {xs : Nat → Int32} {S : Nat → am_K} {post : am_K} (hS : am_ok S post (P_LAW E k L xs)) {t : Nat} (h0 : 6 * t + 6 ≤ L) (hL : L ≤ 3072) {A : ab} (hA : iW A) {I : am_I} {w : Int64} (hC : iC A I) (hR : iR A I) (hn : ∀ (A' : ab) (I' : am_I) (w' : Int64), iW A' → iC A' I' → iR A' I' → S 1291 (lwF t) [] I' w') : S 1099 (lwF t) [] I w := by
  refine am_at hS (fun t => Nat.beq t 1291) 120 1099 ?_
  refine ⟨lw_v1 h0 hL, ?_⟩
  refine ⟨lw_v2 h0 hL, ?_⟩
  refine ⟨lw_v3 h0 hL, ?_⟩
  refine du_go hk (du_cell zi _ _ _) hA hC ?_
  intro v A' hW' h2 I1 w1 y1 f1
  refine ⟨lw_v1 h0 hL, ?_⟩
  refine ⟨lw_v2 h0 hL, ?_⟩
  refine ⟨lw_v3 h0 hL, ?_⟩
  refine ⟨60, _, hk, h2 I1 w1 (iR_hi f1 hR), ?_⟩
  rintro _ I2 w2 ⟨rfl, y2, f2⟩
  exact ⟨fun _ => hn A' I2 w2 hW' (iC_lo hW' f2 y1) y2, fun q => absurd rfl q⟩
set_option maxRecDepth 40000 in
theorem lc_copy {E : am_E} (zi : am_inj E) {k : Nat} (hk : 60 < k) {L : Nat} {xs : Nat → Int32} {S : Nat → am_K} {post : am_K} (hS : am_ok S post (P_LAW E k L xs)) {t : Nat} (h0 : 6 * t + 6 ≤ L) (hL : L ≤ 3072) {A : ab} (hA : iW A) {I : am_I} {w : Int64} (hC : iC A I) (hR : iR A I) (hn : ∀ (A' : ab) (I' : am_I) (w' : Int64), iW A' → iC A' I' → iR A' I' → S 1291 (lwF t) [] I' w') : S 1142 (lwF t) [] I w := by
  refine am_at hS (fun t => Nat.beq t 1291) 120 1142 ?_
  refine ⟨lw_v1 h0 hL, ?_⟩
  refine ⟨lw_v2 h0 hL, ?_⟩
  refine ⟨lw_v3 h0 hL, ?_⟩
  refine ⟨lw_v4 h0 hL, ?_⟩
  refine ⟨lw_v5 h0 hL, ?_⟩
  refine du_go hk (du_copy zi _ _ _ _ _) hA hC ?_
  intro v A' hW' h2 I1 w1 y1 f1
  refine ⟨lw_v1 h0 hL, ?_⟩
  refine ⟨lw_v2 h0 hL, ?_⟩
  refine ⟨lw_v3 h0 hL, ?_⟩
  refine ⟨lw_v4 h0 hL, ?_⟩
  refine ⟨lw_v5 h0 hL, ?_⟩
  refine ⟨60, _, hk, h2 I1 w1 (iR_hi f1 hR), ?_⟩
  rintro _ I2 w2 ⟨rfl, y2, f2⟩
  exact ⟨fun _ => hn A' I2 w2 hW' (iC_lo hW' f2 y1) y2, fun q => absurd rfl q⟩
set_option maxRecDepth 40000 in
theorem lc_feels {E : am_E} (zi : am_inj E) {k : Nat} (hk : 60 < k) {L : Nat} {xs : Nat → Int32} {S : Nat → am_K} {post : am_K} (hS : am_ok S post (P_LAW E k L xs)) {t : Nat} (h0 : 6 * t + 6 ≤ L) (hL : L ≤ 3072) {A : ab} (hA : iW A) {I : am_I} {w : Int64} (hC : iC A I) (hR : iR A I) (hn : ∀ (A' : ab) (I' : am_I) (w' : Int64), iW A' → iC A' I' → iR A' I' → S 1291 (lwF t) [] I' w') : S 1205 (lwF t) [] I w := by
  refine am_at hS (fun t => Nat.beq t 1291) 120 1205 ?_
  refine ⟨lw_v1 h0 hL, ?_⟩
  refine ⟨lw_v2 h0 hL, ?_⟩
  refine ⟨lw_v3 h0 hL, ?_⟩
  refine ⟨lw_v4 h0 hL, ?_⟩
  refine du_go hk (du_feels zi _ _ _ _) hA hC ?_
  intro v A' hW' h2 I1 w1 y1 f1
  refine ⟨lw_v1 h0 hL, ?_⟩
  refine ⟨lw_v2 h0 hL, ?_⟩
  refine ⟨lw_v3 h0 hL, ?_⟩
  refine ⟨lw_v4 h0 hL, ?_⟩
  refine ⟨60, _, hk, h2 I1 w1 (iR_hi f1 hR), ?_⟩
  rintro _ I2 w2 ⟨rfl, y2, f2⟩
  exact ⟨fun _ => hn A' I2 w2 hW' (iC_lo hW' f2 y1) y2, fun q => absurd rfl q⟩
set_option maxRecDepth 40000 in
theorem lc_taken {E : am_E} (zi : am_inj E) {k : Nat} (hk : 60 < k) {L : Nat} {xs : Nat → Int32} {S : Nat → am_K} {post : am_K} (hS : am_ok S post (P_LAW E k L xs)) {t : Nat} (h0 : 6 * t + 6 ≤ L) (hL : L ≤ 3072) {A : ab} (hA : iW A) {I : am_I} {w : Int64} (hC : iC A I) (hR : iR A I) (hn : ∀ (A' : ab) (I' : am_I) (w' : Int64), iW A' → iC A' I' → iR A' I' → S 1291 (lwF t) [] I' w') : S 1258 (lwF t) [] I w := by
  refine am_at hS (fun t => Nat.beq t 1291) 120 1258 ?_
  refine ⟨lw_v1 h0 hL, ?_⟩
  refine ⟨lw_v2 h0 hL, ?_⟩
  refine du_go hk (du_taken zi _ _) hA hC ?_
  intro v A' hW' h2 I1 w1 y1 f1
  refine ⟨lw_v1 h0 hL, ?_⟩
  refine ⟨lw_v2 h0 hL, ?_⟩
  refine ⟨60, _, hk, h2 I1 w1 (iR_hi f1 hR), ?_⟩
  rintro _ I2 w2 ⟨rfl, y2, f2⟩
  exact ⟨fun _ => hn A' I2 w2 hW' (iC_lo hW' f2 y1) y2, fun q => absurd rfl q⟩
