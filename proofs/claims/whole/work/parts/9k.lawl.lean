/-! THE LAW'S LOOP -/
set_option maxRecDepth 40000 in
theorem lw_loop {E : am_E} (zi : am_inj E) {k : Nat} (hk : 60 < k) {L : Nat} {xs : Nat → Int32} {S : Nat → am_K} (hS : am_ok S (fun _ st _ _ => st = [.int 1]) (P_LAW E k L xs)) (hL : L ≤ 3072) : ∀ t, t ≤ 600 → ∀ (A : ab) (I : am_I) (w : Int64), iW A → iC A I → iR A I → S 18 (lwF t) [] I w := by
  refine down (P := fun t => ∀ (A : ab) (I : am_I) (w : Int64), iW A → iC A I → iR A I → S 18 (lwF t) [] I w) 600 ?z ?s
  case z =>
    intro A I w _ _ _
    refine am_at hS (fun t => Nat.ble 196 t && Nat.ble t 1296) 60 18 ?_
    refine ⟨fun _ => rfl, fun q => absurd ?_ q⟩
    rw [i_lt, nI_toInt (by decide), show (6 : Int32) = nI 6 from rfl, pk_sub_toInt (by omega) (by decide)]
    omega
  case s =>
    intro t ht hn A I w hA hC hR
    have h1291 : ∀ (A' : ab) (I' : am_I) (w' : Int64), iW A' → iC A' I' → iR A' I' → S 1291 (lwF t) [] I' w' := fun A' I' w' h1 h2 h3 => by
      refine am_at hS (fun t => Nat.beq t 18) 60 1291 ?_
      have h4 := hn A' I' w' h1 h2 h3
      have e : lwF (t + 1) = [some (.ref 200), some (.ref 0), some (.ref 88), some (.int (nI (6 * t) + 6))] := by
        unfold lwF
        rw [show (6 : Int32) = nI 6 from rfl, nI_add, show 6 * t + 6 = 6 * (t + 1) by omega]
      rw [e] at h4
      exact h4
    refine am_at hS (fun t => Nat.ble 196 t && Nat.ble t 1296) 60 18 ?_
    refine ⟨fun _ => rfl, fun q => ?_⟩
    have h0 : 6 * t + 6 ≤ L := by
      rw [i_lt, nI_toInt (by omega), show (6 : Int32) = nI 6 from rfl, pk_sub_toInt (by omega) (by decide)] at q
      omega
    refine ⟨lw_v0 h0 hL, ?_⟩
    refine ⟨fun _ => lc_person zi hk hS h0 hL hA hC hR h1291, fun _ => ?_⟩
    refine ⟨fun _ => lc_set zi hk hS h0 hL hA hC hR h1291, fun _ => ?_⟩
    refine ⟨fun _ => lc_feel zi hk hS h0 hL hA hC hR h1291, fun _ => ?_⟩
    refine ⟨fun _ => lc_felt zi hk hS h0 hL hA hC hR h1291, fun _ => ?_⟩
    refine ⟨fun _ => lc_between zi hk hS h0 hL hA hC hR h1291, fun _ => ?_⟩
    refine ⟨fun _ => lc_feed zi hk hS h0 hL hA hC hR h1291, fun _ => ?_⟩
    refine ⟨fun _ => lc_street zi hk hS h0 hL hA hC hR h1291, fun _ => ?_⟩
    refine ⟨fun _ => lc_text zi hk hS h0 hL hA hC hR h1291, fun _ => ?_⟩
    refine ⟨fun _ => lc_force zi hk hS h0 hL hA hC hR h1291, fun _ => ?_⟩
    refine ⟨fun _ => lc_camping zi hk hS h0 hL hA hC hR h1291, fun _ => ?_⟩
    refine ⟨fun _ => lc_camped zi hk hS h0 hL hA hC hR h1291, fun _ => ?_⟩
    refine ⟨fun _ => lc_cost zi hk hS h0 hL hA hC hR h1291, fun _ => ?_⟩
    refine ⟨fun _ => lc_move zi hk hS h0 hL hA hC hR h1291, fun _ => ?_⟩
    refine ⟨fun _ => lc_same zi hk hS h0 hL hA hC hR h1291, fun _ => ?_⟩
    refine ⟨fun _ => lc_peace zi hk hS h0 hL hA hC hR h1291, fun _ => ?_⟩
    refine ⟨fun _ => lc_ring zi hk hS h0 hL hA hC hR h1291, fun _ => ?_⟩
    refine ⟨fun _ => lc_least zi hk hS h0 hL hA hC hR h1291, fun _ => ?_⟩
    refine ⟨fun _ => lc_all zi hk hS h0 hL hA hC hR h1291, fun _ => ?_⟩
    refine ⟨fun _ => lc_together zi hk hS h0 hL hA hC hR h1291, fun _ => ?_⟩
    refine ⟨fun _ => lc_aside zi hk hS h0 hL hA hC hR h1291, fun _ => ?_⟩
    refine ⟨fun _ => lc_many zi hk hS h0 hL hA hC hR h1291, fun _ => ?_⟩
    refine ⟨fun _ => lc_part zi hk hS h0 hL hA hC hR h1291, fun _ => ?_⟩
    refine ⟨fun _ => lc_doors zi hk hS h0 hL hA hC hR h1291, fun _ => ?_⟩
    refine ⟨fun _ => lc_threes zi hk hS h0 hL hA hC hR h1291, fun _ => ?_⟩
    refine ⟨fun _ => lc_step zi hk hS h0 hL hA hC hR h1291, fun _ => ?_⟩
    refine ⟨fun _ => lc_ends zi hk hS h0 hL hA hC hR h1291, fun _ => ?_⟩
    refine ⟨fun _ => lc_meet zi hk hS h0 hL hA hC hR h1291, fun _ => ?_⟩
    refine ⟨fun _ => lc_edge zi hk hS h0 hL hA hC hR h1291, fun _ => ?_⟩
    refine ⟨fun _ => lc_bring zi hk hS h0 hL hA hC hR h1291, fun _ => ?_⟩
    refine ⟨fun _ => lc_image zi hk hS h0 hL hA hC hR h1291, fun _ => ?_⟩
    refine ⟨fun _ => lc_back zi hk hS h0 hL hA hC hR h1291, fun _ => ?_⟩
    refine ⟨fun _ => lc_count zi hk hS h0 hL hA hC hR h1291, fun _ => ?_⟩
    refine ⟨fun _ => lc_sheet zi hk hS h0 hL hA hC hR h1291, fun _ => ?_⟩
    refine ⟨fun _ => lc_cell zi hk hS h0 hL hA hC hR h1291, fun _ => ?_⟩
    refine ⟨fun _ => lc_copy zi hk hS h0 hL hA hC hR h1291, fun _ => ?_⟩
    refine ⟨fun _ => lc_feels zi hk hS h0 hL hA hC hR h1291, fun _ => ?_⟩
    refine ⟨fun _ => lc_taken zi hk hS h0 hL hA hC hR h1291, fun _ => ?_⟩
    exact h1291 A I w hA hC hR
