/-! words by lots -/
def nx (k : Nat) : Nat := k * 16807 % 2147483647
theorem nx_lt (k : Nat) : nx k < 2147483647 := Nat.mod_lt _ (by decide)
theorem lot_ok {k : Nat} (hk : k < 2147483647) : (lN k * 16807) - (lN k * 16807) / 2147483647 * 2147483647 = lN (nx k) := by
  rw [show (16807 : Int64) = lN 16807 from rfl, show (2147483647 : Int64) = lN 2147483647 from rfl, lN_mul, pk_lRem (by omega) (by decide) (by decide)]
  rfl
theorem nextLot_ok {k : Nat} (hk : k < 2147483647) : f_X7_nextLot (lN k) = some (lN (nx k)) := by
  unfold f_X7_nextLot
  rw [lot_ok hk]
theorem lots_ok {τ : SR} {k d : Nat} (hk : k < 2147483647) (hd : 0 < d) (hd2 : d < 100) (h : τ.2 = lN k) : f_X8_lots τ (nI d) = some (nI (nx k % d), rlt τ (lN (nx k))) := by
  have hn := nx_lt k
  unfold f_X8_lots
  rw [h, lot_ok hk, nI_l (by omega), if_neg (by rw [show (0 : Int64) = lN 0 from rfl, pk_lEQ (by omega) (by omega)]; omega), pk_lRem (by omega) hd (by omega), lN_i]
def DG : Nat → Nat → Bool
  | 0, c => decide (c = 0)
  | p + 1, c => decide (c % 7 ≠ 0) && DG p (c / 7)
theorem DG_step {p c q : Nat} (h : DG p c = true) (hq : q < 6) : DG (p + 1) (c * 7 + 1 + q) = true := by
  show (decide ((c * 7 + 1 + q) % 7 ≠ 0) && DG p ((c * 7 + 1 + q) / 7)) = true
  rw [show (c * 7 + 1 + q) / 7 = c by omega, h, decide_eq_true (by omega)]
  rfl
theorem DG_lt : ∀ {p c : Nat}, DG p c = true → c < 7 ^ p
  | 0, c, h => by
    have : c = 0 := of_decide_eq_true h
    subst this; decide
  | p + 1, c, h => by
    have h1 : (decide (c % 7 ≠ 0) && DG p (c / 7)) = true := h
    have h2 := DG_lt (Bool.and_eq_true_iff.mp h1).2
    rw [Nat.pow_succ]; omega
set_option maxRecDepth 100000 in
theorem DG_dec : ∀ a, a < 49 → ∀ c, c < 49 → (DG 2 (49 * a + c) || DG 3 (49 * a + c) || DG 4 (49 * a + c)) = true → okN (49 * a + c) = true := by decide +kernel
theorem DG_ok {p c : Nat} (hp : p = 2 ∨ p = 3 ∨ p = 4) (h : DG p c = true) : okN c = true ∧ c ≤ 2400 := by
  have hl := DG_lt h
  have h74 : 7 ^ p ≤ 2401 := by rcases hp with rfl | rfl | rfl <;> decide
  have := DG_dec (c / 49) (by omega) (c % 49) (Nat.mod_lt _ (by decide))
  rw [Nat.div_add_mod] at this
  refine ⟨this ?_, by omega⟩
  rcases hp with rfl | rfl | rfl <;> simp [h]
theorem lots_in {len : Nat} (hlen : len ≤ 4) {u1 u2 u3 v1 v2 v3 : Int32} (kc : SC → Int64 → Int32 → Option (Int32 × SC)) (kr : SR → Int32 → Option (Int32 × SR)) (σ : SC) (τ : SR) : ∀ (m n n' p c k : Nat), p + m = len → m < n → m < n' → k < 2147483647 → DG p c = true → ∃ c' k', f_X7_appendByLots_L39 u1 u2 u3 (nI len) kc n σ (lN k) (nI c) (nI p) = kc σ (lN k') (nI c') ∧ f_X8_drift_L59 v1 v2 v3 (nI len) kr n' (rlt τ (lN k)) (nI c) (nI p) = kr (rlt τ (lN k')) (nI c') ∧ k' < 2147483647 ∧ DG len c' = true := by
  intro m
  induction m with
  | zero =>
    intro n n' p c k h1 h2 h3 hk hD
    obtain ⟨n, rfl⟩ := succ_of h2
    obtain ⟨n', rfl⟩ := succ_of h3
    rw [f_X7_appendByLots_L39_s, f_X8_drift_L59_s, if_le (by omega) (by omega), if_le (by omega) (by omega)]
    rw [show p = len by omega] at hD
    exact ⟨c, k, rfl, rfl, hk, hD⟩
  | succ m ih =>
    intro n n' p c k h1 h2 h3 hk hD
    obtain ⟨n, rfl⟩ := succ_of h2
    obtain ⟨n', rfl⟩ := succ_of h3
    have hn := nx_lt k
    rw [f_X7_appendByLots_L39_s, f_X8_drift_L59_s, if_nle (by omega) (by omega), if_nle (by omega) (by omega), nextLot_ok hk, Option.bind_some, lots_ok (τ := rlt τ (lN k)) (k := k) hk (by decide) (by decide) rfl, bnd_some, show (6 : Int64) = lN 6 from rfl, pk_lRem (by omega) (by decide) (by decide), lN_i]
    simp only [pk_mul, nI_1, nI_add, Nat.mul_comm 7 c]
    exact ih n n' (p + 1) (c * 7 + 1 + nx k % 6) (nx k) (by omega) (by omega) (by omega) hn (DG_step hD (Nat.mod_lt _ (by decide)))
theorem lots_out {x : Nat} (hx : x ≤ 16) {σ0 : SC} {τ0 : SR} : ∀ (m n n' i a k : Nat) (b : Bd) (σ : SC) (τ : SR), i + m = x → m < n → m < n' → k < 2147483647 → a ≤ i → VB b → CB b σ → RB b τ → τ.2 = lN k → G1 σ0 σ τ0 τ → ∃ (r : Int32) (b' : Bd) (σ' : SC) (τ' : SR), f_X7_appendByLots_L9 (nI x) n σ (nI a) (lN k) (nI i) = some (r, σ') ∧ f_X8_drift_L38 (nI x) n' τ (nI a) (nI i) = some (r, τ') ∧ VB b' ∧ CB b' σ' ∧ RB b' τ' ∧ G1 σ0 σ' τ0 τ' := by
  intro m
  induction m with
  | zero =>
    intro n n' i a k b σ τ h1 h2 h3 hk ha hv hc hr ht hg
    obtain ⟨n, rfl⟩ := succ_of h2
    obtain ⟨n', rfl⟩ := succ_of h3
    rw [f_X7_appendByLots_L9_s, f_X8_drift_L38_s, if_le (by omega) (by omega), if_le (by omega) (by omega)]
    exact ⟨_, b, σ, τ, rfl, rfl, hv, hc, hr, hg⟩
  | succ m ih =>
    intro n n' i a k b σ τ h1 h2 h3 hk ha hv hc hr ht hg
    obtain ⟨n, rfl⟩ := succ_of h2
    obtain ⟨n', rfl⟩ := succ_of h3
    have hn := nx_lt k
    have hw16 := hv.2.1
    have h3' : nx k % 3 < 3 := Nat.mod_lt _ (by decide)
    rw [f_X7_appendByLots_L9_s, f_X8_drift_L38_s, if_nle (by omega) (by omega), if_nle (by omega) (by omega), nextLot_ok hk, Option.bind_some, lots_ok hk (by decide) (by decide) ht, bnd_some, show (3 : Int64) = lN 3 from rfl, pk_lRem (by omega) (by decide) (by decide), lN_i, nI_add]
    obtain ⟨c, k', g1, g2, g3, g4⟩ := lots_in (len := 2 + nx k % 3) (by omega) (u1 := nI x) (u2 := nI a) (u3 := nI i) (v1 := nI x) (v2 := nI a) (v3 := nI i) (fun σ_76 z4_76 x8_76 => ((f_X0_numberOf σ_76 x8_76).bind fun r82 => (if r82 = (-1) then (if (nI 16) ≤ (σ_76 17 0) then (f_X7_appendByLots_L9 (nI x) n σ_76 (nI a) z4_76 (nI i + 1)) else ((f_X0_append σ_76 x8_76).bind fun σ107 => (f_X7_appendByLots_L9 (nI x) n σ107 (nI a + 1) z4_76 (nI i + 1)))) else (f_X7_appendByLots_L9 (nI x) n σ_76 (nI a) z4_76 (nI i + 1))))) (fun σ_88 x6_88 => ((f_X8_findCode σ_88 x6_88).bind fun r91 => (if r91 = (-1) then (if inb (nI 16) 33 = true then (if (nI 16) ≤ (σ_88.1 0 (ix (nI 16))) then (f_X8_drift_L38 (nI x) n' σ_88 (nI a) (nI i + 1)) else (if inb (nI 16) 33 = true then (if inb ((nI 17) + (σ_88.1 0 (ix (nI 16)))) 33 = true then (if inb (nI 16) 33 = true then (if inb (nI 16) 33 = true then (f_X8_drift_L38 (nI x) n' (rsu (rsu σ_88 0 (ix ((nI 17) + (σ_88.1 0 (ix (nI 16))))) x6_88) 0 (ix (nI 16)) (((rsu σ_88 0 (ix ((nI 17) + (σ_88.1 0 (ix (nI 16))))) x6_88).1 0 (ix (nI 16))) + 1)) (nI a + 1) (nI i + 1)) else none) else none) else none) else none)) else none) else (f_X8_drift_L38 (nI x) n' σ_88 (nI a) (nI i + 1))))) σ τ (2 + nx k % 3) FU FU 0 0 (nx k) (by omega) (by have := FU_big; omega) (by have := FU_big; omega) hn rfl
    rw [nI_0] at g1 g2
    rw [g1, g2]
    have hDG := DG_ok (p := 2 + nx k % 3) (by omega) g4
    have hr1 : RB b (rlt τ (lN k')) := hr
    have hg1 : G1 σ0 σ τ0 (rlt τ (lN k')) := hg
    show ∃ (r : Int32) (b' : Bd) (σ' : SC) (τ' : SR), ((f_X0_numberOf σ (nI c)).bind _) = _ ∧ ((f_X8_findCode (rlt τ (lN k')) (nI c)).bind _) = _ ∧ _
    rw [numberOf_ok hc hv, findCode_ok hr1 hv, Option.bind_some, Option.bind_some]
    rcases fnd_code hv hDG.2 with ⟨q1, q2⟩ | ⟨j, q1, q2⟩
    · rw [q1, if_t (show (-1 : Int32) = -1 from rfl), if_t (show (-1 : Int32) = -1 from rfl), if_in16, ix16, hc.2.1, hr1.2.1, nI_1, nI_1]
      by_cases gw : b.2.1 < 16
      · obtain ⟨σ2, a1, a2, a3, a4⟩ := append_ok (v := c) hc hr1 gw
        have e16 : (rsu (rlt τ (lN k')) 0 (17 + b.2.1) (nI c)).1 0 16 = nI b.2.1 := by rw [rsu_at, if_neg (by omega)]; exact hr1.2.1
        rw [if_nle gw (by omega), if_nle gw (by omega), a1, Option.bind_some, if_in16, nI_add, if_in (by omega), if_in16, if_in16, ix_nI (by omega), e16, nI_1]
        exact ih n n' (i + 1) (a + 1) k' (addw b c) σ2 _ (by omega) (by omega) (by omega) g3 (by omega) (addw_V hv gw hDG.1 q2) a2 a3 rfl (hg1.tr a4)
      · rw [if_le (by omega) (by omega), if_le (by omega) (by omega)]
        exact ih n n' (i + 1) a k' b σ _ (by omega) (by omega) (by omega) g3 (by omega) hv hc hr1 rfl hg1
    · rw [q2, if_nm1 (by omega), if_nm1 (by omega), nI_1]
      exact ih n n' (i + 1) a k' b σ _ (by omega) (by omega) (by omega) g3 (by omega) hv hc hr1 rfl hg1
theorem s_drift {σ : SC} {τ : SR} (h : Rel σ τ) (a0 a1 : Int32) : ∃ (r : Int32) (σ' : SC) (τ' : SR), f_X7_drift σ a0 a1 = some (r, σ') ∧ f_X8_drift τ a0 a1 = some (r, τ') ∧ Rel σ' τ' := by
  obtain ⟨b, hv, hc, hr, hd, hp⟩ := id h
  unfold f_X7_drift f_X8_drift f_X8_in
  by_cases g1 : a0 < 1
  · rw [if_pos g1, if_pos g1]; exact ⟨_, σ, τ, rfl, rfl, h⟩
  · rw [if_neg g1, if_neg g1]
    by_cases g2 : nI 16 < a0
    · rw [if_pos g2, if_pos g2]; exact ⟨_, σ, τ, rfl, rfl, h⟩
    · rw [if_neg g2, if_neg g2, Option.bind_some, if10]
      by_cases g3 : a1 < 1
      · rw [if_pos g3, if_pos g3]; exact ⟨_, σ, τ, rfl, rfl, h⟩
      · rw [if_neg g3, if_neg g3]
        by_cases g4 : a1 ≤ 999999
        · have g4' : ¬ (999999 : Int32) < a1 := Int32.not_lt.mpr g4
          rw [if_pos g4, if_neg g4', Option.bind_some, if10]
          obtain ⟨x, hx1, rfl⟩ : ∃ x, x < 17 ∧ a0 = nI x := by
            rcases pk_ix a0 (n := 17) (by decide) with z | z | z
            · exact absurd (Int32.lt_trans z (by decide)) g1
            · exact absurd (Int32.lt_of_lt_of_le (show nI 16 < nI 17 by decide) z) g2
            · exact z
          obtain ⟨k, hk1, rfl⟩ : ∃ k, k < 1000000 ∧ a1 = nI k := by
            rcases pk_ix a1 (n := 1000000) (by decide) with z | z | z
            · exact absurd (Int32.lt_trans z (by decide)) g3
            · exact absurd (Int32.lt_of_lt_of_le (show (999999 : Int32) < nI 1000000 by decide) z) g4'
            · exact z
          obtain ⟨σ1, τ1, n1, n2, n3, n4, n5, -, -, -, -⟩ := noted hv hc hr hp
          obtain ⟨r, b', σ2, τ2, w1, w2, w3, w4, w5, w6⟩ := lots_out (x := x) (by omega) (σ0 := σ1) (τ0 := τ1) x FU FU 0 0 k b σ1 (rlt τ1 (lN k)) (by omega) (by have := FU_big; omega) (by have := FU_big; omega) (by omega) (by omega) hv n3 n4 rfl G1.rf
          obtain ⟨σ3, f1, f2, f3, -⟩ := finish w3 w4 w5 (w6.pr n5)
          rw [nI_0] at w1 w2
          unfold f_X7_appendByLots
          rw [n1, n2, Option.bind_some, Option.bind_some, nI_l (by omega), w1, w2, bnd_some, f1, Option.bind_some]
          exact ⟨_, σ3, τ2, rfl, rfl, f2⟩
        · have g4' : (999999 : Int32) < a1 := Int32.not_le.mp g4
          rw [if_neg g4, if_pos g4']; exact ⟨_, σ, τ, rfl, rfl, h⟩
/-! the start -/
def bd0 : Bd := (fun _ => 0, 0, fun _ => 0)
theorem s_start : ∃ σ0, f_X7_renew (fun _ _ => 0) = some σ0 ∧ Rel σ0 ((fun _ _ => 0), 0) := by
  have hv : VB bd0 := ⟨fun _ _ => Nat.zero_le _, Nat.zero_le _, fun _ _ => Nat.zero_le _, fun j h => absurd h (Nat.not_lt_zero j), fun i j h => absurd h (Nat.not_lt_zero i)⟩
  have hc : CV bd0 (fun _ => 0) (fun _ => 0) 0 := ⟨fun _ _ => rfl, rfl, fun _ _ => rfl⟩
  have hr : RV bd0 (fun _ => 0) := ⟨fun _ _ => rfl, rfl, fun _ _ => rfl⟩
  have hp : PR (fun _ _ => 0) ((fun _ _ => 0), 0) := ⟨fun _ => bd0, 0, 0, 0, fun _ _ => ⟨hv, hc⟩, fun _ _ => hr, fun _ _ => hr, by decide, by decide, rfl, rfl, rfl, rfl, by decide, rfl, fun k _ => by rw [Nat.zero_testBit]; rfl⟩
  obtain ⟨σ', e1, e2, -, -⟩ := finish (b := bd0) (σ := fun _ _ => 0) (τ := ((fun _ _ => 0), 0)) hv hc hr hp
  exact ⟨σ', e1, e2⟩
theorem s_find {σ : SC} {τ : SR} (h : Rel σ τ) (a0 : Int32) : ∃ (r : Int32) (σ' : SC) (τ' : SR), f_X7_find σ a0 = some r ∧ f_X8_find τ a0 = some r ∧ σ' = σ ∧ τ' = τ ∧ Rel σ' τ' := by
  obtain ⟨b, hv, hc, hr, hd, hp⟩ := id h
  unfold f_X7_find f_X8_find
  rcases code_any a0 with ⟨v, hok, rfl, e1, e2⟩ | ⟨e1, e2⟩
  · have hl := lenN_le v
    rw [e1, e2, Option.bind_some, Option.bind_some, if_ne0 (by omega) (by omega), if10, numberOf_ok hc hv, findCode_ok hr hv]
    exact ⟨_, σ, τ, rfl, rfl, rfl, rfl, h⟩
  · rw [e1, e2]; exact ⟨_, σ, τ, rfl, rfl, rfl, rfl, h⟩
theorem s_odds {σ : SC} {τ : SR} (h : Rel σ τ) (a0 a1 a2 a3 : Int32) : ∃ (r : Int32) (σ' : SC) (τ' : SR), f_X7_odds σ a0 a1 a2 a3 = some r ∧ f_X8_odds τ a0 a1 a2 a3 = some (r, τ') ∧ σ' = σ ∧ Rel σ' τ' := by
  obtain ⟨b, hv, hc, hr, hd, hp⟩ := id h
  have hw16 := hv.2.1
  have h8 := nS_le b
  obtain ⟨τ1, b1, b2', b3, hs⟩ := slot_any hd.1 hr hv a0
  have h1 := h.fr b3
  unfold f_X7_odds f_X8_odds
  rcases hs with ⟨e1, e2⟩ | ⟨s, hs', rfl, e1, e2⟩
  · rw [e1, e2]; exact ⟨_, σ, τ1, rfl, rfl, rfl, h1⟩
  · rw [e1, e2, Option.bind_some, bnd_some, if10, if10]
    rcases word_any hc b1 hv a1 with ⟨e3, e4⟩ | ⟨w, hw, rfl, e3, e4⟩
    · rw [e3, e4]; exact ⟨_, σ, τ1, rfl, rfl, rfl, h1⟩
    · rw [e3, e4, Option.bind_some, Option.bind_some, if10, if10]
      obtain ⟨τ2, c1, c2, c3, ht⟩ := slot_any hd.1 b1 hv a2
      have h2 := h1.fr c3
      rcases ht with ⟨e5, e6⟩ | ⟨t, ht', rfl, e5, e6⟩
      · rw [e5, e6]; exact ⟨_, σ, τ2, rfl, rfl, rfl, h2⟩
      · rw [e5, e6, Option.bind_some, bnd_some, if10, if10]
        rcases word_any hc c1 hv a3 with ⟨e7, e8⟩ | ⟨v, hvw, rfl, e7, e8⟩
        · rw [e7, e8]; exact ⟨_, σ, τ2, rfl, rfl, rfl, h2⟩
        · rw [e7, e8, Option.bind_some, Option.bind_some, if10, if10]
          by_cases est : s = t
          · rw [if_eq est, if_eq est]; exact ⟨_, σ, τ2, rfl, rfl, rfl, h2⟩
          · rw [if_neq est (by omega) (by omega), if_neq est (by omega) (by omega), common_ok c2 hs' ht', Option.bind_some, rd_in σ (show s < lnC 4 by show s < 8; omega), (hd.1.2.2.2.1 s hs').2.2.1.cnv (by omega)]
            have e : (decide (t < nS b) && X b s t) = X b s t := by simp [ht']
            rw [e]
            by_cases g : X b s t = true
            · obtain ⟨g1, g2, g3, g4⟩ := X_place hs' ht' g
              have hcl := cS_lt hs' g2
              rw [if_pos g, if_pos g, if10, if_nm1 (by omega), fits_ok c1 hv c2 hs' hw, Option.bind_some, rd_in σ (show s < lnC 11 by show s < 8; omega), rd_in σ (show t < lnC 11 by show t < 8; omega), (hd.2.2.1 s hs').cnv (by omega), (hd.2.2.1 t ht').cnv (by omega)]
              have ef : fitW b s w = fitB b s w := by unfold fitW; simp [hw]
              have ef2 : fitW b t v = fitB b t v := by unfold fitW; simp [hvw]
              rw [ef, ef2]
              have K6 : f_X8_odds_K106 τ2 = some (1, τ2) := rfl
              have C2 : f_X7_odds_K102 σ (nI s) (nI w) (nI t) (nI v) = some 1 := rfl
              by_cases q1 : fitB b s w = true
              · rw [if_pos q1, if10, if_b1 q1, fits_ok c1 hv c2 ht' hvw, Option.bind_some]
                by_cases q2 : fitB b t v = true
                · have l1 := (fitB_iff.mp q1).1
                  have l2 := (fitB_iff.mp q2).1
                  obtain ⟨x, hx1, hx2⟩ := besides_ok hv hd.1 hd.2.1 hs' ht' hw l1
                  rw [if_pos q2, if10, if_b1 q2]
                  unfold f_X7_odds_K103
                  rw [if10, hx1, Option.bind_some, hx2.cnv (by omega)]
                  by_cases q3 : w = v
                  · rw [if_eq q3, K6]
                    have : bes b s w t v = false := by unfold bes; simp [q3]
                    rw [this, if_f Bool.false_ne_true, if00]
                    exact ⟨_, σ, τ2, rfl, rfl, rfl, h2⟩
                  · have lt1 := letN_lt (b.2.2 w) (pX b s t)
                    have lt2 := letN_lt (b.2.2 v) (pX b t s)
                    rw [if_neq q3 (by omega) (by omega), letterIn_ok c1 hv c2 hs' hw g2 l1, Option.bind_some, g4, letterIn_ok c1 hv c2 ht' hvw g3 l2, Option.bind_some]
                    by_cases q4 : letN (b.2.2 w) (pX b s t) = letN (b.2.2 v) (pX b t s)
                    · have : bes b s w t v = true := by
                        unfold bes
                        simp only [Bool.and_eq_true, Bool.or_eq_true, decide_eq_true_eq]
                        exact ⟨by omega, Ne.symm q3, Or.inr ⟨hvw, by omega, q4.symm⟩⟩
                      rw [if_eq q4, this, if_t rfl, if10]
                      unfold f_X8_odds_K107
                      rw [if10]
                      exact ⟨_, σ, τ2, rfl, rfl, rfl, h2⟩
                    · have : bes b s w t v = false := by
                        unfold bes
                        rw [g, show decide (letN (b.2.2 v) (pX b t s) = letN (b.2.2 w) (pX b s t)) = false from decide_eq_false (fun z => q4 z.symm)]
                        simp
                      rw [if_neq q4 (by omega) (by omega), K6, this, if_f Bool.false_ne_true, if00]
                      exact ⟨_, σ, τ2, rfl, rfl, rfl, h2⟩
                · rw [if_neg q2, if00, if_b0 (by simpa using q2), K6, C2]
                  exact ⟨_, σ, τ2, rfl, rfl, rfl, h2⟩
              · rw [if_neg q1, if00, if_b0 (by simpa using q1), K6, C2]
                exact ⟨_, σ, τ2, rfl, rfl, rfl, h2⟩
            · rw [if_neg g, if_neg g, if00, if_t (show (-1 : Int32) = -1 from rfl)]
              exact ⟨_, σ, τ2, rfl, rfl, rfl, h2⟩
