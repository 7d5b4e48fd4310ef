/-! SHEETS: copy: the reference's -/
theorem sub_lo {a : Nat} (ha : a ≤ 40) {n : Int32} (hn : ¬ n < 0) : (nI a - n).toInt = (a : Int) - n.toInt := by
  rw [i_lt, show (0 : Int32).toInt = 0 from rfl] at hn
  have h1 := n.toInt_lt
  rw [Int32.toInt_sub, nI_toInt (by omega)]
  apply Int.bmod_eq_of_le <;> omega
theorem hld_lo {a : Nat} (ha : a ≤ 40) {i n : Int32} (hn : ¬ n < 0) (hi : ¬ i < 0) : (nI a - n < i) = (hld a i n = false) := by
  have e := sub_lo ha hn
  rw [i_lt, show (0 : Int32).toInt = 0 from rfl] at hn hi
  rw [i_lt, e]
  unfold hld
  refine propext ⟨fun q => ?_, fun q => ?_⟩
  · rw [decide_eq_false (show ¬ n.toInt ≤ a - i.toInt by omega), Bool.and_false, Bool.and_false]
  · refine Classical.byContradiction fun c => ?_
    rw [decide_eq_true (show n.toInt ≤ a - i.toInt by omega), decide_eq_true (show i.toInt ≤ a by omega), decide_eq_true (show 0 ≤ n.toInt by omega), decide_eq_true (show 0 ≤ i.toInt by omega)] at q
    exact absurd q (by decide)
theorem hld_ng {a : Nat} {i n : Int32} (h : n < 0 ∨ i < 0) : hld a i n = false := by
  rw [i_lt, i_lt, show (0 : Int32).toInt = 0 from rfl] at h
  unfold hld
  by_cases c : n.toInt < 0
  · rw [decide_eq_false (show ¬ 0 ≤ n.toInt by omega), Bool.and_false, Bool.false_and]
  · rw [decide_eq_false (show ¬ 0 ≤ i.toInt by omega), Bool.false_and, Bool.false_and]
def cpq (up : Bool) (n t : Nat) : Nat := cond up (n - 1 - t) t
theorem cpq_lt {up : Bool} {n t : Nat} (h : t < n) : cpq up n t < n := by
  cases up
  · exact h
  · show n - 1 - t < n
    omega
theorem cpq_ne {up : Bool} {n t m : Nat} (h : t < n) (hm : m < t) : cpq up n m ≠ cpq up n t ∧ (up = true → cpq up n t < cpq up n m) ∧ (up = false → cpq up n m < cpq up n t) := by
  cases up
  · show m ≠ t ∧ (false = true → t < m) ∧ (false = false → m < t)
    exact ⟨by omega, fun e => (by cases e), fun _ => hm⟩
  · show n - 1 - m ≠ n - 1 - t ∧ (true = true → n - 1 - t < n - 1 - m) ∧ (true = false → n - 1 - m < n - 1 - t)
    exact ⟨by omega, fun _ => by omega, fun e => (by cases e)⟩
theorem cpq_on {up : Bool} {n q : Nat} (h : q < n) : ∃ m, m < n ∧ cpq up n m = q := by
  cases up
  · exact ⟨q, h, rfl⟩
  · refine ⟨n - 1 - q, by omega, ?_⟩
    show n - 1 - (n - 1 - q) = q
    omega
/-- after t steps of the reference's copying -/
def cpD (I J : am_I) (s i o j n : Nat) (up : Bool) (t : Nat) : Prop := (∀ m, m < t → J 116 (40 * o + j + cpq up n m) = I 116 (40 * s + i + cpq up n m)) ∧ (∀ x, (∀ m, m < t → x ≠ 40 * o + j + cpq up n m) → J 116 x = I 116 x) ∧ am_fr [116] I J
theorem cpD_step {I J : am_I} {s i o j n : Nat} {up : Bool} {t : Nat} (h : cpD I J s i o j n up t) (ht : t < n) (hi : i + n ≤ 40) (hj : j + n ≤ 40) (hu : s = o → (up = true ↔ i < j)) : cpD I (am_up J 116 (40 * o + j + cpq up n t) (J 116 (40 * s + i + cpq up n t))) s i o j n up (t + 1) := by
  obtain ⟨h1, h2, h3⟩ := h
  have q1 := cpq_lt (up := up) ht
  have hr : J 116 (40 * s + i + cpq up n t) = I 116 (40 * s + i + cpq up n t) := by
    refine h2 _ (fun m hm e => ?_)
    have q2 := cpq_lt (up := up) (show m < n by omega)
    obtain ⟨g1, g2, g3⟩ := cpq_ne (up := up) ht hm
    have hso : s = o := by omega
    have hu := hu hso
    cases up
    · have g3 := g3 rfl
      have : ¬ i < j := fun q => (by cases (hu.mpr q))
      omega
    · have g2 := g2 rfl
      have : i < j := hu.mp rfl
      omega
  refine ⟨fun m hm => ?_, fun x hx => ?_, am_fr.up h3 (by decide)⟩
  · by_cases e : m = t
    · rw [e, am_seq]; exact hr
    · have g := (cpq_ne (up := up) ht (show m < t by omega)).1
      rw [am_sne (by omega)]
      exact h1 m (by omega)
  · rw [am_sne (hx t (by omega))]
    exact h2 x (fun m hm => hx m (by omega))
theorem cpD_end {I J : am_I} {s i o j n : Nat} {up : Bool} {h : Hz} {t a u b : Nat} (hd : cpD I J s i o j n up n) (hw : wfh h) (hI : hR I h) (hs : s < 4) (ho : o < 4) (es : h.1 s = some (t, a)) (eo : h.1 o = some (u, b)) (hin : i + n ≤ a) (hjn : j + n ≤ b) : hR J (hCpy h s i o j n) := by
  obtain ⟨h1, h2, h3⟩ := hd
  intro x hx
  rw [h3 113 (by decide), h3 114 (by decide), h3 115 (by decide)]
  refine ⟨(hI x hx).1, fun c d hcd => ?_⟩
  obtain ⟨g1, g2, g3, g4⟩ := (hI x hx).2 c d hcd
  have hdb := (hw x hx c d hcd).2
  have hab := (hw s hs t a es).2
  have hbb := (hw o ho u b eo).2
  refine ⟨g1, g2, g3, fun q hq => ?_⟩
  show _ = if x = o ∧ (j ≤ q ∧ q < j + n) then h.2 s (i + (q - j)) else h.2 x q
  by_cases e : x = o ∧ (j ≤ q ∧ q < j + n)
  · rw [if_pos e]
    obtain ⟨rfl, e1, e2⟩ := e
    obtain ⟨m, hm, em⟩ := cpq_on (up := up) (show q - j < n by omega)
    have r := h1 m hm
    rw [em] at r
    rw [show 40 * x + q = 40 * x + j + (q - j) by omega, r, show 40 * s + i + (q - j) = 40 * s + (i + (q - j)) by omega]
    exact ((hI s hs).2 t a es).2.2.2 _ (by omega)
  · rw [if_neg e, h2 _ (fun m hm z => ?_)]
    · exact g4 q hq
    · have := cpq_lt (up := up) hm
      exact e ⟨by omega, by omega, by omega⟩
theorem m_copy {E : am_E} (zi : am_inj E) {k : Nat} (hk : 2 ≤ k) {I : am_I} (w : Int64) {h : Hz} (hw : wfh h) (hI : hR I h) (x i y j n : Int32) :
    am_Ret E k Y_MO_copy [.ref 88, .int x, .int i, .int y, .int j, .int n] I w (fun q I' w' => q = some (.int (aCpo h x i y j n)) ∧ w' = w ∧ hR I' (sCpo h x i y j n) ∧ am_fr mSh I I') := by
  refine am_intro (pv_MO_copy E k) (by decide) zi ?_ rfl rfl ?_
  · rintro _ _ _ ⟨rfl, -⟩; rfl
  intro S hS
  have bad : ∀ v, v < 0 → aCpo h x i y j n = v → am_po (fun q I' w' => q = some (.int (aCpo h x i y j n)) ∧ w' = w ∧ hR I' (sCpo h x i y j n) ∧ am_fr mSh I I') [] [.int v] I w := fun v hv e => by
    have e3 : sCpo h x i y j n = h := if_pos (by rw [e]; exact hv)
    exact ⟨congrArg (fun y => some (Value.int y)) e.symm, rfl, by rw [e3]; exact hI, am_fr.refl⟩
  refine am_at hS (fun t => Nat.beq t 116) 90 0 ?_
  refine ⟨_, _, (by omega : k - 1 < k), m_isSheet zi (by omega) I w x, am_elim ?_⟩
  refine ⟨fun g => ?_, fun g => ?_⟩
  · rw [bi_eq0] at g
    exact bad (-2) (by decide) (by unfold aCpo; rw [g]; rfl)
  rw [bi_eq0, Bool.not_eq_false] at g
  refine ⟨_, _, (by omega : k - 1 < k), m_isSheet zi (by omega) I w y, am_elim ?_⟩
  refine ⟨fun g2 => ?_, fun g2 => ?_⟩
  · rw [bi_eq0] at g2
    exact bad (-2) (by decide) (by unfold aCpo; rw [g2, Bool.and_false]; rfl)
  rw [bi_eq0, Bool.not_eq_false] at g2
  obtain ⟨s, hs, rfl⟩ := inb_of g (by decide)
  obtain ⟨o, ho, rfl⟩ := inb_of g2 (by decide)
  have cs : (nI s).toNatClampNeg = s := nI_clamp (by omega)
  have co_ : (nI o).toNatClampNeg = o := nI_clamp (by omega)
  have bds : vp_in (nI s) 4 := vp_in_nI (by omega) (by omega)
  have bdo : vp_in (nI o) 4 := vp_in_nI (by omega) (by omega)
  have ea : aCpo h (nI s) i (nI o) j n = aCo2 (h.1 s) (h.1 o) i j n := by unfold aCpo; rw [g, g2, cs, co_]; rfl
  refine ⟨bds, ?_⟩
  rw [cs]
  cases hos : h.1 s with
  | none =>
    rw [hos] at ea
    have b0 := bad (-11) (by decide) ea
    have e := (hI s hs).1 hos
    exact ⟨fun _ => b0, fun q => absurd e q⟩
  | some v1 =>
    obtain ⟨t, a⟩ := v1
    obtain ⟨e0, e1, e2, -⟩ := (hI s hs).2 t a hos
    refine ⟨fun q => absurd (e0.symm.trans q) (by decide), fun _ => ?_⟩
    refine ⟨bdo, ?_⟩
    rw [co_]
    cases hoo : h.1 o with
    | none =>
      rw [hos, hoo] at ea
      have b0 := bad (-11) (by decide) ea
      have e := (hI o ho).1 hoo
      exact ⟨fun _ => b0, fun q => absurd e q⟩
    | some v2 =>
      obtain ⟨u, b⟩ := v2
      obtain ⟨f0, f1, f2, -⟩ := (hI o ho).2 u b hoo
      obtain ⟨ht, ha⟩ := hw s hs t a hos
      obtain ⟨hu, hb⟩ := hw o ho u b hoo
      rw [hos, hoo] at ea
      have ea : aCpo h (nI s) i (nI o) j n = cond (decide (t = u)) (cond (hld a i n && hld b j n) n (-12)) (-13) := ea
      have hN : (I 114 s = I 114 o) = (t = u) := by rw [e1, f1, neq (by omega) (by omega)]
      refine ⟨fun q => absurd (f0.symm.trans q) (by decide), fun _ => ?_⟩
      refine ⟨bds, ?_⟩
      refine ⟨bdo, ?_⟩
      rw [cs, co_]
      refine ⟨fun q => ?_, fun q => ?y⟩
      case y =>
        have b13 : ¬ t = u := fun z1 => q (hN.mpr z1)
        exact bad (-13) (by decide) (by rw [ea, decide_eq_false b13]; rfl)
      have q := hN.mp q
      have b12 : (hld a i n && hld b j n) = false → _ := fun q2 => bad (-12) (by decide) (by rw [ea, decide_eq_true q, q2]; rfl)
      refine ⟨fun q1 => b12 (by rw [hld_ng (Or.inl q1)]; rfl), fun n0 => ?_⟩
      refine ⟨fun q1 => b12 (by rw [hld_ng (Or.inr q1)]; rfl), fun i0 => ?_⟩
      refine ⟨fun q1 => b12 (by rw [hld_ng (Or.inr q1), Bool.and_false]), fun j0 => ?_⟩
      refine ⟨bds, ?_⟩
      rw [cs, e2]
      refine ⟨fun q1 => b12 (by rw [(hld_lo ha n0 i0).mp q1]; rfl), fun q1 => ?_⟩
      refine ⟨bdo, ?_⟩
      rw [co_, f2]
      refine ⟨fun q2 => b12 (by rw [(hld_lo hb n0 j0).mp q2, Bool.and_false]), fun q2 => ?_⟩
      rw [hld_lo ha n0 i0, Bool.not_eq_false] at q1
      rw [hld_lo hb n0 j0, Bool.not_eq_false] at q2
      have ev : aCpo h (nI s) i (nI o) j n = n := by rw [ea, decide_eq_true q, q1, q2]; rfl
      clear b12 bad ea n0 i0 j0
      obtain ⟨i', n', rfl, rfl, hin⟩ := hld_of ha q1
      obtain ⟨j', n2, rfl, en2, hjn⟩ := hld_of hb q2
      have enn : n2 = n' := by
        rw [neq (by omega) (by omega)] at en2
        exact en2.symm
      have es : sCpo h (nI s) (nI i') (nI o) (nI j') (nI n') = hCpy h s i' o j' n' := by
        unfold sCpo
        rw [ev, if_neg (show ¬ nI n' < (0 : Int32) from nI_nlt (Nat.zero_le _) (by omega)), cs, co_, nI_clamp (by omega), nI_clamp (by omega), nI_clamp (by omega)]
      have a116 : ∀ up, (s = o → (up = true ↔ i' < j')) → S 116 [some (.ref 88), some (.int (nI s)), some (.int (nI i')), some (.int (nI o)), some (.int (nI j')), some (.int (nI n')), none, none, none] [.int (bi up)] I w := by
        intro up hup
        have loop := down (P := fun t => ∀ (l : Option Value) J, cpD I J s i' o j' n' up t → S 121 [some (.ref 88), some (.int (nI s)), some (.int (nI i')), some (.int (nI o)), some (.int (nI j')), some (.int (nI n')), some (.int (bi up)), some (.int (nI t)), l] [] J w) n' ?z ?s
        case z =>
          intro l J hJ
          refine am_at hS (fun t => Nat.beq t 121) 60 121 ?_
          refine ⟨fun q => absurd q (nI_nlt (Nat.le_refl _) (by omega)), fun _ => ?_⟩
          refine ⟨congrArg (fun y => some (Value.int y)) ev.symm, rfl, ?_, hJ.2.2.mono (by decide)⟩
          rw [es]
          exact cpD_end hJ hw hI hs ho hos hoo hin (by omega)
        case s =>
          intro t ht hn l J hJ
          have a145 : ∀ v, v = nI (cpq up n' t) → S 145 [some (.ref 88), some (.int (nI s)), some (.int (nI i')), some (.int (nI o)), some (.int (nI j')), some (.int (nI n')), some (.int (bi up)), some (.int (nI t)), l] [.int v] J w := by
            rintro _ rfl
            have q1 := cpq_lt (up := up) ht
            obtain ⟨c, hc⟩ : ∃ c, cpq up n' t = c := ⟨_, rfl⟩
            have h2 := hn (some (.int (nI (cpq up n' t)))) _ (cpD_step hJ ht (by omega) (by omega) hup)
            rw [hc] at h2 q1 ⊢
            have x1 : 40 * nI o + nI j' + nI c = nI (40 * o + j' + c) := by rw [i40, nI_add]
            have x2 : 40 * nI s + nI i' + nI c = nI (40 * s + i' + c) := by rw [i40, nI_add]
            refine am_at hS (fun t => Nat.beq t 121) 60 145 ?_
            refine ⟨by rw [x2]; exact vp_in_nI (by omega) (by omega), ?_⟩
            refine ⟨by rw [x1]; exact vp_in_nI (by omega) (by omega), ?_⟩
            rw [x1, x2, nI_clamp (by omega), nI_clamp (by omega)]
            rw [← nI_1] at h2
            exact h2
          refine am_at hS (fun t => Nat.beq t 145) 60 121 ?_
          refine ⟨fun _ => ?_, fun q => absurd (nI_lt ht (by omega)) q⟩
          cases up with
          | false =>
            refine ⟨fun _ => a145 _ rfl, fun q => absurd rfl q⟩
          | true =>
            refine ⟨fun q => absurd (show (1 : Int32) = 0 from q) (by decide), fun _ => a145 _ ?_⟩
            rw [show (1 : Int32) = nI 1 from rfl, pk_sub (by omega), pk_sub (by omega)]
            rfl
        refine am_at hS (fun t => Nat.beq t 121) 60 116 ?_
        exact loop 0 (Nat.zero_le _) none I ⟨fun m hm => absurd hm (Nat.not_lt_zero _), fun _ _ => rfl, am_fr.refl⟩
      refine ⟨fun so => ?_, fun so => ?_⟩
      · have so : s = o := (neq (by omega) (by omega)).mp so
        refine ⟨fun ij => ?_, fun ij => ?_⟩
        · exact a116 true (fun _ => ⟨fun _ => (nI_ltI (by omega) (by omega)).mp ij, fun _ => rfl⟩)
        · exact a116 false (fun _ => ⟨fun e => (by cases e), fun e => absurd ((nI_ltI (by omega) (by omega)).mpr e) ij⟩)
      · exact a116 false (fun e => absurd (congrArg nI e) so)
