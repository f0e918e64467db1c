/-! told, slot -/
section TD
variable {b : Bd} {σ : SC} {τ : SR}
theorem fittingWords_ok (hr : RB b τ) (hv : VB b) (hs : RS b τ) {s : Nat} (hs' : s < nS b) : f_X8_fittingWords τ (nI s) = some (nI (ct (fitB b s) b.2.1)) := by
  have hw16 := hv.2.1
  have key : ∀ (k n w : Nat), w + k = b.2.1 → k < n → f_X8_fittingWords_L4 τ (nI s) n (nI (ct (fitB b s) w)) (nI w) = some (nI (ct (fitB b s) b.2.1)) := by
    intro k
    induction k with
    | zero =>
      intro n w h1 h2
      obtain ⟨n, rfl⟩ := succ_of h2
      rw [f_X8_fittingWords_L4_s, if_in16, ix16, hr.2.1, if_le (by omega) (by omega), show w = b.2.1 by omega]
    | succ k ih =>
      intro n w h1 h2
      obtain ⟨n, rfl⟩ := succ_of h2
      have ih' := ih n (w + 1) (by omega) (by omega)
      rw [ct_succ] at ih'
      rw [f_X8_fittingWords_L4_s, if_in16, ix16, hr.2.1, if_nle (by omega) (by omega), fits_ok hr hv hs hs' (by omega), Option.bind_some, nI_1, nI_1, Int32.add_zero]
      by_cases g : fitB b s w = true
      · rw [if_pos g] at ih'
        rw [if_b1 g]; exact ih'
      · rw [if_neg g] at ih'
        rw [if_b0 (by simpa using g)]; exact ih'
  have := key b.2.1 FU 0 (by omega) (by have := FU_big; omega)
  exact this
theorem fitting_ct (hv : VB b) (s : Nat) : ct (fitW b s) 16 = ct (fitB b s) b.2.1 := by
  have hw16 := hv.2.1
  have := ct_tail (p := fitW b s) (m := b.2.1) (n := 16 - b.2.1) (fun k hk => by unfold fitW; rw [decide_eq_false (by omega), Bool.false_and])
  rw [show b.2.1 + (16 - b.2.1) = 16 by omega] at this
  rw [this]
  refine ct_cong (fun k hk => ?_)
  unfold fitW
  rw [decide_eq_true hk, Bool.true_and]
theorem fit_16 (hv : VB b) {s : Nat} : ∀ k, 16 ≤ k → fitW b s k = false := by
  intro k hk
  have hw16 := hv.2.1
  unfold fitW
  rw [decide_eq_false (by omega), Bool.false_and]
end TD
theorem knot_same {b : Bd} {r r' : Int32} (h1 : (6 < nS b ∧ r = -1) ∨ (nS b ≤ 6 ∧ ∃ R, Kn b R ∧ r = nI R)) (h2 : (6 < nS b ∧ r' = -1) ∨ (nS b ≤ 6 ∧ ∃ R, Kn b R ∧ r' = nI R)) : r' = r := by
  rcases h1 with ⟨a1, a2⟩ | ⟨a1, R, a2, a3⟩
  · rcases h2 with ⟨c1, c2⟩ | ⟨c1, S, c2, c3⟩
    · rw [a2, c2]
    · omega
  · rcases h2 with ⟨c1, c2⟩ | ⟨c1, S, c2, c3⟩
    · omega
    · rw [a3, c3, Kn_uniq a2 c2]
theorem s_told {σ : SC} {τ : SR} (h : Rel σ τ) (a0 : Int32) : ∃ (r : Int32) (σ' : SC) (τ' : SR), f_X7_told σ a0 = some (r, σ') ∧ f_X8_told τ a0 = some (r, τ') ∧ Rel σ' τ' := by
  obtain ⟨b, hv, hc, hr, hd, hp⟩ := id h
  have hw16 := hv.2.1
  have h8 := nS_le b
  obtain ⟨τ1, l1, l2, l3, -⟩ := lay_ok hr hv
  have hr1 := l3.rb hr
  have h1 := h.fr l3
  unfold f_X7_told f_X8_told
  rw [l1, Option.bind_some]
  by_cases q0 : a0 = 0
  · rw [if_pos q0, if_pos q0, l2.1, hd.1.1]; exact ⟨_, σ, τ1, rfl, rfl, h1⟩
  rw [if_neg q0, if_neg q0]
  by_cases q1 : a0 = 1
  · rw [if_pos q1, if_pos q1, if_in16, ix16, hr1.2.1, hc.2.1]; exact ⟨_, σ, τ1, rfl, rfl, h1⟩
  rw [if_neg q1, if_neg q1]
  obtain ⟨cx, cy, c1, c2, c3⟩ := ofCells_ok hr1 hv a0
  by_cases q2 : a0 = nI 2
  · rw [if_pos q2] at c1
    obtain ⟨x, x1, x2⟩ := blocked_ok hc hv
    rw [if_pos q2, if_pos q2, x1, c1, IsSet.eq c2 x2]; exact ⟨_, σ, τ1, rfl, rfl, h1⟩
  rw [if_neg q2] at c1
  rw [if_neg q2, if_neg q2]
  by_cases q3 : a0 = nI 3
  · obtain ⟨x, x1, x2⟩ := lettered_ok hc hv
    rw [if_pos q3, if_pos q3, x1, c1, IsSet.eq c3 x2]; exact ⟨_, σ, τ1, rfl, rfl, h1⟩
  rw [if_neg q3, if_neg q3]
  obtain ⟨ox, oy, τo, o1, o2, o3, o4⟩ := ofSlots_ok hr1 hv a0
  by_cases q4 : a0 = nI 4
  · rw [if_pos q4] at o1
    rw [if_pos q4, if_pos q4, o1, bnd_some, hd.1.2.2.1]; exact ⟨_, σ, τo, rfl, rfl, h1.fr o4⟩
  rw [if_neg q4] at o1
  rw [if_neg q4, if_neg q4]
  by_cases q5 : a0 = nI 5
  · rw [if_pos q5] at o1
    obtain ⟨x, x1, x2⟩ := fullSlots_ok hc hv hd.1
    rw [if_pos q5, if_pos q5, o1, bnd_some, x1, IsSet.eq o2 x2]; exact ⟨_, σ, τo, rfl, rfl, h1.fr o4⟩
  rw [if_neg q5] at o1
  rw [if_neg q5, if_neg q5]
  by_cases q6 : a0 = nI 6
  · obtain ⟨τ2, w1, w2⟩ := wrongR_ok hr1 hv
    rw [if_pos q6, if_pos q6, w1, bnd_some, wrongC_ok hc hv hd.1]; exact ⟨_, σ, τ2, rfl, rfl, h1.fr w2⟩
  rw [if_neg q6, if_neg q6]
  by_cases q7 : a0 = nI 7
  · obtain ⟨τ2, w1, w2⟩ := hardestR_ok hr1 hv
    rw [if_pos q7, if_pos q7, w1, bnd_some, hardestC_ok hc hv hd.1 hd.2.2]; exact ⟨_, σ, τ2, rfl, rfl, h1.fr w2⟩
  rw [if_neg q7, if_neg q7]
  by_cases q8 : a0 = nI 8
  · obtain ⟨y, y1, y2, -⟩ := all_set l2
    obtain ⟨τ2, w1, w2, -⟩ := fillingsR hr1 hv l2 y2 (L := 999) (by omega) (by omega)
    obtain ⟨σ2, v1, v2, -⟩ := fillingsC hv hd.1 hd.2.1 hd.2.2 (L := 999) (by omega) (by omega)
    rw [if_pos q8, if_pos q8, y1, Option.bind_some, w1, bnd_some, v1, bnd_some]; exact ⟨_, σ2, τ2, rfl, rfl, (h1.fr w2.fr).fq v2⟩
  rw [if_neg q8, if_neg q8]
  by_cases q9 : a0 = nI 9
  · obtain ⟨r, σ2, v1, v2, v3⟩ := knotC hv hd
    obtain ⟨r', τ2, w1, w2, w3⟩ := knotR hr1 hv
    rw [if_pos q9, if_pos q9, v1, w1, bnd_some, bnd_some, knot_same v3 w3]; exact ⟨_, σ2, τ2, rfl, rfl, (h1.fr w2).fq v2⟩
  rw [if_neg q9, if_neg q9]
  by_cases q10 : a0 = nI 10
  · obtain ⟨x, x1, x2⟩ := emptySlots_ok hd.1 hd.2.2
    rw [if_pos q10, if_pos q10, o1, bnd_some, x1, IsSet.eq o3 x2]; exact ⟨_, σ, τo, rfl, rfl, h1.fr o4⟩
  rw [if_neg q10, if_neg q10]
  by_cases q11 : a0 = nI 11
  · obtain ⟨E, a, d, m, z1, z2, z3, z4, z5, z6, z7, z8, z9, z10⟩ := id hp
    rw [if_pos q11, if_pos q11, l3.2.2.2.2.1, z8, z9]
    exact ⟨_, σ, τ1, rfl, rfl, h1⟩
  rw [if_neg q11, if_neg q11]
  exact ⟨_, σ, τ1, rfl, rfl, h1⟩
theorem s_slot {σ : SC} {τ : SR} (h : Rel σ τ) (a0 a1 : Int32) : ∃ (r : Int32) (σ' : SC) (τ' : SR), f_X7_slot σ a0 a1 = some (r, σ') ∧ f_X8_slot τ a0 a1 = some (r, τ') ∧ Rel σ' τ' := by
  obtain ⟨b, hv, hc, hr, hd, hp⟩ := id h
  have hw16 := hv.2.1
  have h8 := nS_le b
  obtain ⟨τ1, hr1, l2, l3, hs⟩ := slot_any hd.1 hr hv a0
  have h1 := h.fr l3
  unfold f_X7_slot f_X8_slot
  rcases hs with ⟨e1, e2⟩ | ⟨s, hs', rfl, e1, e2⟩
  · rw [e1, e2]; exact ⟨_, σ, τ1, rfl, rfl, h1⟩
  have hz := sZ_24 hs'
  have hcl := cS_lt hs' (show 0 < sZ b s by omega)
  have hds := hd.1.2.2.2.1 s hs'
  rw [e1, e2, Option.bind_some, bnd_some, if10, if10]
  by_cases q0 : a1 = 0
  · rw [if_pos q0, if_pos q0, if_in (by omega), ix_nI (by omega), (l2.2 s hs').1, rd_in σ (show s < lnC 2 by show s < 8; omega), hds.1]; exact ⟨_, σ, τ1, rfl, rfl, h1⟩
  rw [if_neg q0, if_neg q0]
  by_cases q1 : a1 = 1
  · rw [if_pos q1, if_pos q1, if_in (by omega), ix_nI (by omega), (l2.2 s hs').2.1, rd_in σ (show s < lnC 3 by show s < 8; omega), hds.2.1]; exact ⟨_, σ, τ1, rfl, rfl, h1⟩
  rw [if_neg q1, if_neg q1]
  by_cases q2 : a1 = nI 2
  · have r3 : rank b 4 ≤ 4 := rank_le b 4
    have hdn := lnb_down hs'
    have h14 := sT_14 b s
    rw [if_pos q2, if_pos q2, if_in (by omega), ix_nI (by omega), (l2.2 s hs').2.2, isDown_ok hd.1.2.1 (by omega) (by omega), Option.bind_some]
    by_cases g : rank b 4 ≤ s
    · rw [if_b1 (decide_eq_true g), if_eq (show sT b s = 4 by omega)]; exact ⟨_, σ, τ1, rfl, rfl, h1⟩
    · rw [if_b0 (decide_eq_false g), if_neq (show sT b s ≠ 4 by omega) (by omega) (by omega)]; exact ⟨_, σ, τ1, rfl, rfl, h1⟩
  rw [if_neg q2, if_neg q2]
  by_cases q3 : a1 = nI 3
  · obtain ⟨x, x1, x2⟩ := crossed_ok l2 hs'
    rw [if_pos q3, if_pos q3, x1, Option.bind_some, rd_in σ (show s < lnC 4 by show s < 8; omega), IsSet.eq x2 hds.2.2.1]; exact ⟨_, σ, τ1, rfl, rfl, h1⟩
  rw [if_neg q3, if_neg q3]
  by_cases q4 : a1 = nI 4
  · rw [if_pos q4, if_pos q4, fittingWords_ok hr1 hv l2 hs', Option.bind_some, rd_in σ (show s < lnC 11 by show s < 8; omega), bitCount_ok (hd.2.2.1 s hs') (fit_16 hv), Option.bind_some, fitting_ct hv]; exact ⟨_, σ, τ1, rfl, rfl, h1⟩
  rw [if_neg q4, if_neg q4]
  by_cases q5 : a1 = nI 5
  · obtain ⟨τ2, w1, -, -, w4, w5⟩ := layLeft_ok hr1 hv
    rw [if_pos q5, if_pos q5, w1, Option.bind_some, if_in (by omega), ix_nI (by omega), rd_in σ (show s < lnC 12 by show s < 8; omega), IsSet.eq (w5 s hs') (hd.2.2.2 s hs')]; exact ⟨_, σ, τ2, rfl, rfl, h1.fr w4⟩
  rw [if_neg q5, if_neg q5]
  by_cases q6 : a1 = nI 6
  · have hlt := lcd_2401 hv hs'
    rw [if_pos q6, if_pos q6, isFull_ok hr1 hv l2 hs', Option.bind_some, codeIn_v hc hv hd.1 hs', Option.bind_some, numberOf_ok hc hv, Option.bind_some]
    by_cases g : full b s = true
    · have ecd : cdv b s = lcd b s (sZ b s) := by unfold cdv; rw [if_pos g]
      rw [if_b1 g, lettersOf_ok hr1 hv l2 hs', Option.bind_some, findCode_ok hr1 hv, Option.bind_some, ecd]; exact ⟨_, σ, τ1, rfl, rfl, h1⟩
    · have e0 : cdv b s = 0 := (cdv_0 hs').mpr (by simpa using g)
      have ef : fnd (fun j => decide (nI (b.2.2 j) = nI (cdv b s))) b.2.1 0 = -1 := by
        refine fnd_none (fun j _ hj => ?_)
        apply decide_eq_false
        intro z
        have hok := okN_le (hv.2.2.2.1 j (by omega))
        rw [e0] at z
        have := (nI_eq (by omega) (by omega)).mp z
        omega
      rw [if_b0 (by simpa using g), ef]; exact ⟨_, σ, τ1, rfl, rfl, h1⟩
  rw [if_neg q6, if_neg q6]
  by_cases q7 : a1 = nI 7
  · obtain ⟨y, y1, y2, -⟩ := all_set l2
    obtain ⟨τ2, w1, w2, w3⟩ := fillingsR hr1 hv l2 y2 (L := 1) (by omega) (by omega)
    obtain ⟨σ2, v1, v2, v3⟩ := fillingsC hv hd.1 hd.2.1 hd.2.2 (L := 1) (by omega) (by omega)
    have w1' : f_X8_fillings τ1 y 1 (-1) 0 = some (nI (min 1 (KA b)), τ2) := w1
    have v1' : f_X2_fillings σ 1 = some (nI (min 1 (KA b)), σ2) := v1
    have hrel : Rel σ2 τ2 := (h1.fr w2.fr).fq v2
    unfold f_X7_wordInFirstFilling
    rw [if_pos q7, if_pos q7, y1, Option.bind_some, w1', v1']
    by_cases g : KA b = 0
    · refine ⟨-1, σ2, τ2, ?_, ?_, hrel⟩
      · rw [bnd_some, g, show nI (min 1 0) = 0 from rfl, if00]; rfl
      · rw [bnd_some, g, show nI (min 1 0) = 0 from rfl, if_pos (by decide)]
    · obtain ⟨ψ, z1, z2⟩ := w3 rfl g
      obtain ⟨χ, z3, z4⟩ := v3 rfl g
      have e : χ = ψ := Fst_uniq z3 z1
      refine ⟨nI (ψ s), σ2, τ2, ?_, ?_, hrel⟩
      · rw [bnd_some, Nat.min_eq_left (by omega), show nI 1 = (1 : Int32) from rfl, if10, rd_in σ2 (show s < lnC 15 by show s < 8; omega), z4 s hs', e]; rfl
      · rw [bnd_some, Nat.min_eq_left (by omega), show nI 1 = (1 : Int32) from rfl, if_neg (by decide), if_in (by omega), ix_nI (by omega), z2 s hs']
  rw [if_neg q7, if_neg q7]
  exact ⟨_, σ, τ1, rfl, rfl, h1⟩
