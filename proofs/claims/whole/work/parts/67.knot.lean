/-! the knot -/
def pcn (X : Nat) : Nat := ct (fun k => X.testBit k) 16
def KF (b : Bd) (X : Nat) : Nat := KP b (kth (fun k => X.testBit k)) (fun i v => fitW b (kth (fun k => X.testBit k) i) v) (ct (fun k => X.testBit k) (nS b)) 0 z0
theorem pcn_pos : ∀ X, X < 64 → 1 ≤ X → 1 ≤ pcn X := by decide +kernel
theorem pcn_le : ∀ N, N ≤ 6 → ∀ X, X < 2 ^ N → pcn X ≤ N := by decide +kernel
theorem tbit_16 {X : Nat} (h : X < 64) : ∀ k, 16 ≤ k → X.testBit k = false := by
  intro k hk
  have : 2 ^ 16 ≤ 2 ^ k := Nat.pow_le_pow_right (by decide) hk
  exact Nat.testBit_lt_two_pow (by omega)
def Kn (b : Bd) (R : Nat) : Prop := (R = 0 ∧ ∀ Y, 1 ≤ Y → Y < 2 ^ nS b → KF b Y ≠ 0) ∨ (1 ≤ R ∧ R < 2 ^ nS b ∧ KF b R = 0 ∧ ∀ Y, 1 ≤ Y → Y < 2 ^ nS b → KF b Y = 0 → pcn R < pcn Y ∨ (pcn R = pcn Y ∧ R ≤ Y))
theorem Kn_uniq {b : Bd} {R S : Nat} (h1 : Kn b R) (h2 : Kn b S) : R = S := by
  rcases h1 with ⟨a1, a2⟩ | ⟨a1, a2, a3, a4⟩
  · rcases h2 with ⟨c1, c2⟩ | ⟨c1, c2, c3, c4⟩
    · omega
    · exact absurd c3 (a2 S c1 c2)
  · rcases h2 with ⟨c1, c2⟩ | ⟨c1, c2, c3, c4⟩
    · exact absurd a3 (c2 R a1 a2)
    · have := a4 S c1 c2 c3
      have := c4 R a1 a2 a3
      omega
theorem KF_sub {b : Bd} (h : KA b ≠ 0) (X : Nat) : KF b X ≠ 0 := by
  have h8 := nS_le b
  obtain ⟨ψ, p1, p2⟩ := KP_pos.mp h
  generalize hp : (fun k => X.testBit k) = p
  have hg : KP b (kth p) (fun i v => fitW b (kth p i) v) (ct p (nS b)) 0 z0 ≠ 0 := by
    refine KP_pos.mpr ⟨fun j => ψ (kth p j), fun j hj => by omega, fun j _ hj => ?_⟩
    rw [Nat.zero_add] at hj
    obtain ⟨k1, k2, k3⟩ := kth_ok hj h8
    obtain ⟨q1, q2⟩ := p2 (kth p j) (by omega) (by omega)
    obtain ⟨q3, q4⟩ := okP_iff.mp q2
    rw [alls_kth b k1] at q3
    refine ⟨q1, okP_iff.mpr ⟨q3, fun i hi => ?_⟩⟩
    have hlt := kth_lt h8 hi hj
    have := q4 (kth p i) hlt
    rw [alls_kth b (show kth p i < nS b by omega), alls_kth b k1] at this
    exact this
  unfold KF
  rw [hp]
  exact hg
section KN
variable {b : Bd} {σ : SC} {τ : SR}
theorem canFill_ok (hv : VB b) (hd : Der b σ) (X : Nat) : ∃ σ', f_X2_canFill σ (nI X) = some (b2 (decide (KF b X ≠ 0)), σ') ∧ FQ σ σ' := by
  obtain ⟨σ1, σ', c1, c2, c3, -⟩ := fillC hv hd.1 hd.2.1 (IsSet.ofN X) (r := 11) rfl (by decide) hd.2.2.1 (fun _ _ h => h) (L := 1) (by omega) (by omega)
  have c2' : f_X2_ways 12 σ1 0 1 = some (nI (min 1 (KF b X)), σ') := c2
  refine ⟨σ', ?_, c3⟩
  unfold f_X2_canFill
  rw [c1, Option.bind_some, c2', bnd_some]
  by_cases g : KF b X = 0
  · rw [g, show nI (min 1 0) = 0 from rfl, if_pos (by decide)]; rfl
  · rw [Nat.min_eq_left (by omega), show nI 1 = 1 from rfl, if_neg (by decide), decide_eq_true g]; rfl
theorem knot38 (hv : VB b) (hN : nS b ≤ 6) {z : Nat} (hz : z ≤ 6) (kx : SC → Option (Int32 × SC)) : ∀ (k n X : Nat) (σ : SC), X + k = 2 ^ nS b → k < n → 1 ≤ X → Der b σ → (∀ Y, 1 ≤ Y → Y < X → pcn Y = z → KF b Y ≠ 0) → (∃ σ', f_X7_knottedSlots_L38 (nI (nS b)) (nI z) kx n σ (nI X) = kx σ' ∧ FQ σ σ' ∧ ∀ Y, 1 ≤ Y → Y < 2 ^ nS b → pcn Y = z → KF b Y ≠ 0) ∨ (∃ R σ', f_X7_knottedSlots_L38 (nI (nS b)) (nI z) kx n σ (nI X) = some (nI R, σ') ∧ FQ σ σ' ∧ 1 ≤ R ∧ R < 2 ^ nS b ∧ pcn R = z ∧ KF b R = 0 ∧ ∀ Y, 1 ≤ Y → Y < R → pcn Y = z → KF b Y ≠ 0) := by
  have h64 : 2 ^ nS b ≤ 64 := (Nat.pow_le_pow_right (show 0 < 2 by decide) hN : 2 ^ nS b ≤ 2 ^ 6)
  intro k
  induction k with
  | zero =>
    intro n X σ h1 h2 h3 hd hY
    obtain ⟨n, rfl⟩ := succ_of h2
    left
    rw [f_X7_knottedSlots_L38_s, shl_ok _ (by omega), if_le (by omega) (by omega)]
    exact ⟨σ, rfl, FQ.rf, fun Y y1 y2 y3 => hY Y y1 (by omega) y3⟩
  | succ k ih =>
    intro n X σ h1 h2 h3 hd hY
    obtain ⟨n, rfl⟩ := succ_of h2
    have hpc : pcn X ≤ 16 := ct_le _ _
    have hbc : f_J6_bitCount_0f7a4 (nI X) = some (nI (pcn X)) := bitCount_ok (IsSet.ofN X) (tbit_16 (by omega))
    rw [f_X7_knottedSlots_L38_s, shl_ok _ (by omega), if_nle (by omega) (by omega), hbc, Option.bind_some, nI_1]
    by_cases g : pcn X = z
    · obtain ⟨σ1, c1, c2⟩ := canFill_ok hv hd X
      rw [if_eq g, c1, bnd_some]
      by_cases gk : KF b X = 0
      · right
        rw [if_b0 (by simp [gk])]
        exact ⟨X, σ1, rfl, c2, h3, by omega, g, gk, hY⟩
      · rw [if_b1 (decide_eq_true gk)]
        have := ih n (X + 1) σ1 (by omega) (by omega) (by omega) (c2.der hd) (fun Y y1 y2 y3 => by
          by_cases e : Y = X
          · rw [e]; exact gk
          · exact hY Y y1 (by omega) y3)
        rcases this with ⟨σ2, d1, d2, d3⟩ | ⟨R, σ2, d1, d2, d3⟩
        · left; exact ⟨σ2, d1, c2.tr d2, d3⟩
        · right; exact ⟨R, σ2, d1, c2.tr d2, d3⟩
    · rw [if_neq g (by omega) (by omega)]
      exact ih n (X + 1) σ (by omega) (by omega) (by omega) hd (fun Y y1 y2 y3 => by
        by_cases e : Y = X
        · rw [e] at y3; exact absurd y3 g
        · exact hY Y y1 (by omega) y3)
theorem knot31 (hv : VB b) (hN : nS b ≤ 6) : ∀ (k n z : Nat) (σ : SC), z + k = nS b + 1 → k < n → 1 ≤ z → Der b σ → (∀ Y, 1 ≤ Y → Y < 2 ^ nS b → pcn Y < z → KF b Y ≠ 0) → ∃ R σ', f_X7_knottedSlots_L31 (nI (nS b)) n σ (nI z) = some (nI R, σ') ∧ FQ σ σ' ∧ Kn b R := by
  have h64 : 2 ^ nS b ≤ 64 := (Nat.pow_le_pow_right (show 0 < 2 by decide) hN : 2 ^ nS b ≤ 2 ^ 6)
  have h1p : 1 ≤ 2 ^ nS b := Nat.one_le_two_pow
  intro k
  induction k with
  | zero =>
    intro n z σ h1 h2 h3 hd hY
    obtain ⟨n, rfl⟩ := succ_of h2
    rw [f_X7_knottedSlots_L31_s, if_lt (by omega) (by omega)]
    refine ⟨0, σ, rfl, FQ.rf, Or.inl ⟨rfl, fun Y y1 y2 => hY Y y1 y2 ?_⟩⟩
    have := pcn_le _ hN Y y2
    omega
  | succ k ih =>
    intro n z σ h1 h2 h3 hd hY
    obtain ⟨n, rfl⟩ := succ_of h2
    rw [f_X7_knottedSlots_L31_s, if_nlt (by omega) (by omega), nI_1]
    have := knot38 hv hN (z := z) (by omega) (fun σ_72 => (f_X7_knottedSlots_L31 (nI (nS b)) n σ_72 (nI (z + 1)))) (2 ^ nS b - 1) FU 1 σ (by omega) (by have := FU_big; omega) (by omega) hd (fun Y y1 y2 => by omega)
    rw [show nI 1 = (1 : Int32) from rfl] at this
    rcases this with ⟨σ2, d1, d2, d3⟩ | ⟨R, σ2, d1, d2, d3, d4, d5, d6, d7⟩
    · obtain ⟨R, σ3, e1, e2, e3⟩ := ih n (z + 1) σ2 (by omega) (by omega) (by omega) (d2.der hd) (fun Y y1 y2 y3 => by
        by_cases e : pcn Y = z
        · exact d3 Y y1 y2 e
        · exact hY Y y1 y2 (by omega))
      exact ⟨R, σ3, d1.trans e1, d2.tr e2, e3⟩
    · refine ⟨R, σ2, d1, d2, Or.inr ⟨d3, d4, d6, fun Y y1 y2 y3 => ?_⟩⟩
      rcases Nat.lt_trichotomy (pcn Y) z with g | g | g
      · exact absurd y3 (hY Y y1 y2 g)
      · right
        refine ⟨by omega, ?_⟩
        rcases Nat.lt_or_ge Y R with q | q
        · exact absurd y3 (d7 Y y1 q g)
        · exact q
      · left; omega
theorem knotC (hv : VB b) (hd : Der b σ) : ∃ r σ', f_X7_knottedSlots σ = some (r, σ') ∧ FQ σ σ' ∧ ((6 < nS b ∧ r = -1) ∨ (nS b ≤ 6 ∧ ∃ R, Kn b R ∧ r = nI R)) := by
  have h8 := nS_le b
  unfold f_X7_knottedSlots
  rw [hd.1.1]
  by_cases hN : nS b ≤ 6
  · rw [if_le hN (by omega)]
    have h64 : 2 ^ nS b ≤ 64 := (Nat.pow_le_pow_right (show 0 < 2 by decide) hN : 2 ^ nS b ≤ 2 ^ 6)
    obtain ⟨σ1, c1, c2, -⟩ := fillingsC hv hd.1 hd.2.1 hd.2.2 (L := 1) (by omega) (by omega)
    have c1' : f_X2_fillings σ 1 = some (nI (min 1 (KA b)), σ1) := c1
    rw [c1', bnd_some]
    by_cases g : KA b = 0
    · rw [g, show nI (min 1 0) = 0 from rfl, if_pos (by decide)]
      obtain ⟨R, σ2, d1, d2, d3⟩ := knot31 hv hN (nS b) FU 1 σ1 (by omega) (by have := FU_big; omega) (by omega) (c2.der hd) (fun Y y1 y2 y3 => by
        have := pcn_pos Y (by omega) y1
        omega)
      rw [show nI 1 = (1 : Int32) from rfl] at d1
      exact ⟨nI R, σ2, d1, c2.tr d2, Or.inr ⟨hN, R, d3, rfl⟩⟩
    · rw [Nat.min_eq_left (by omega), show nI 1 = (1 : Int32) from rfl, if_neg (by decide)]
      exact ⟨0, σ1, rfl, c2, Or.inr ⟨hN, 0, Or.inl ⟨rfl, fun Y _ _ => KF_sub g Y⟩, rfl⟩⟩
  · rw [if_nle (by omega) (by omega)]
    exact ⟨-1, σ, rfl, FQ.rf, Or.inl ⟨by omega, rfl⟩⟩
def KI (b : Bd) (X B : Nat) : Prop := (B = 0 ∧ ∀ Y, 1 ≤ Y → Y < X → KF b Y ≠ 0) ∨ (1 ≤ B ∧ B < X ∧ KF b B = 0 ∧ ∀ Y, 1 ≤ Y → Y < X → KF b Y = 0 → pcn B < pcn Y ∨ (pcn B = pcn Y ∧ B ≤ Y))
theorem knot19 (hv : VB b) (hN : nS b ≤ 6) : ∀ (k n X B : Nat) (τ : SR), X + k = 2 ^ nS b → k < n → 1 ≤ X → RB b τ → RS b τ → KI b X B → ∃ R τ', f_X8_knot_L19 n τ (nI B) (nI X) = some (nI R, τ') ∧ F8 τ τ' ∧ Kn b R := by
  have h64 : 2 ^ nS b ≤ 64 := (Nat.pow_le_pow_right (show 0 < 2 by decide) hN : 2 ^ nS b ≤ 2 ^ 6)
  have h1p : 1 ≤ 2 ^ nS b := Nat.one_le_two_pow
  intro k
  induction k with
  | zero =>
    intro n X B τ h1 h2 h3 hr hs hI
    obtain ⟨n, rfl⟩ := succ_of h2
    have e : X = 2 ^ nS b := by omega
    obtain ⟨y, y1, -, y3⟩ := all_set hs
    rw [f_X8_knot_L19_s, y1, Option.bind_some, y3, if_lt (by omega) (by omega)]
    rw [e] at hI
    exact ⟨B, τ, rfl, F8.rf, hI⟩
  | succ k ih =>
    intro n X B τ h1 h2 h3 hr hs hI
    obtain ⟨n, rfl⟩ := succ_of h2
    have hX : X < 2 ^ nS b := by omega
    obtain ⟨y, y1, -, y3⟩ := all_set hs
    rw [f_X8_knot_L19_s, y1, Option.bind_some, y3, if_nlt (by omega) (by omega), nI_1]
    have hK42 : (KF b X ≠ 0 → KI b (X + 1) B) → (KF b X = 0 → KI b (X + 1) X) → ∃ R τ', f_X8_knot_K42 (f_X8_knot_L19 n) τ (nI B) (nI X) = some (nI R, τ') ∧ F8 τ τ' ∧ Kn b R := by
      intro i1 i2
      obtain ⟨τ1, c1, c2, -⟩ := fillSet hr hv hs (IsSet.ofN X) (L := 1) (by omega) (by omega)
      have c1' : f_X8_fillings τ (nI X) 1 (-1) 0 = some (nI (min 1 (KF b X)), τ1) := c1
      unfold f_X8_knot_K42
      rw [c1', bnd_some, nI_1]
      by_cases g : KF b X = 0
      · rw [g, show nI (min 1 0) = 0 from rfl, if00]
        obtain ⟨R, τ2, d1, d2, d3⟩ := ih n (X + 1) X τ1 (by omega) (by omega) (by omega) (c2.rb hr) (c2.rs hs) (i2 g)
        exact ⟨R, τ2, d1, c2.tr d2, d3⟩
      · rw [Nat.min_eq_left (by omega), show nI 1 = (1 : Int32) from rfl, if10]
        obtain ⟨R, τ2, d1, d2, d3⟩ := ih n (X + 1) B τ1 (by omega) (by omega) (by omega) (c2.rb hr) (c2.rs hs) (i1 g)
        exact ⟨R, τ2, d1, c2.tr d2, d3⟩
    rcases hI with ⟨b1, b2⟩ | ⟨b1, b2, b3, b4⟩
    · rw [b1] at hK42
      rw [b1, nI_0, if00]
      rw [nI_0] at hK42
      refine hK42 (fun g => Or.inl ⟨rfl, fun Y u1 u2 => ?_⟩) (fun g => Or.inr ⟨h3, by omega, g, fun Y u1 u2 u3 => ?_⟩)
      · by_cases e : Y = X
        · rw [e]; exact g
        · exact b2 Y u1 (by omega)
      · by_cases e : Y = X
        · right; rw [e]; exact ⟨rfl, by omega⟩
        · exact absurd u3 (b2 Y u1 (by omega))
    · have p1 : pcn X ≤ 16 := ct_le _ _
      have p2 : pcn B ≤ 16 := ct_le _ _
      have hbX : f_X8_bits (nI X) = some (nI (pcn X)) := bits_ok (IsSet.ofN X) (tbit_16 (by omega))
      have hbB : f_X8_bits (nI B) = some (nI (pcn B)) := bits_ok (IsSet.ofN B) (tbit_16 (by omega))
      rw [if_ne0 (by omega) (by omega), hbX, Option.bind_some, hbB, Option.bind_some]
      by_cases g : pcn B ≤ pcn X
      · rw [if_le g (by omega)]
        refine ih n (X + 1) B τ (by omega) (by omega) (by omega) hr hs (Or.inr ⟨b1, by omega, b3, fun Y u1 u2 u3 => ?_⟩)
        by_cases e : Y = X
        · rw [e]; omega
        · exact b4 Y u1 (by omega) u3
      · rw [if_nle (by omega) (by omega)]
        refine hK42 (fun gk => Or.inr ⟨b1, by omega, b3, fun Y u1 u2 u3 => ?_⟩) (fun gk => Or.inr ⟨h3, by omega, gk, fun Y u1 u2 u3 => ?_⟩)
        · by_cases e : Y = X
          · rw [e] at u3; exact absurd u3 gk
          · exact b4 Y u1 (by omega) u3
        · by_cases e : Y = X
          · right; rw [e]; exact ⟨rfl, by omega⟩
          · have := b4 Y u1 (by omega) u3
            left; omega
theorem knotR (hr : RB b τ) (hv : VB b) : ∃ r τ', f_X8_knot τ = some (r, τ') ∧ FR τ τ' ∧ ((6 < nS b ∧ r = -1) ∨ (nS b ≤ 6 ∧ ∃ R, Kn b R ∧ r = nI R)) := by
  have h8 := nS_le b
  obtain ⟨τ1, e1, e2, e3, -⟩ := lay_ok hr hv
  unfold f_X8_knot
  rw [e1, Option.bind_some, e2.1]
  by_cases hN : nS b ≤ 6
  · have h64 : 2 ^ nS b ≤ 64 := (Nat.pow_le_pow_right (show 0 < 2 by decide) hN : 2 ^ nS b ≤ 2 ^ 6)
    have h1p : 1 ≤ 2 ^ nS b := Nat.one_le_two_pow
    rw [if_le hN (by omega)]
    obtain ⟨R, τ2, d1, d2, d3⟩ := knot19 hv hN (2 ^ nS b - 1) FU 1 0 τ1 (by omega) (by have := FU_big; omega) (by omega) (e3.rb hr) e2 (Or.inl ⟨rfl, fun Y _ _ => by omega⟩)
    rw [show nI 1 = (1 : Int32) from rfl, nI_0] at d1
    exact ⟨nI R, τ2, d1, e3.tr d2.fr, Or.inr ⟨hN, R, d3, rfl⟩⟩
  · rw [if_nle (by omega) (by omega)]
    exact ⟨-1, τ1, rfl, e3, Or.inl ⟨by omega, rfl⟩⟩
end KN
