/-! word -/
def cd (p : Nat → Bool) : Nat → Nat → Nat
  | 0, _ => 0
  | k + 1, s => cd p k (s + 1) + (if p s = true then 1 else 0)
theorem cd_ct (p : Nat → Bool) : ∀ k s, cd p k s + ct p s = ct p (s + k)
  | 0, s => by show 0 + _ = _; rw [Nat.zero_add]; rfl
  | k + 1, s => by
    have := cd_ct p k (s + 1)
    rw [ct_succ, show s + 1 + k = s + (k + 1) by omega] at this
    show cd p k (s + 1) + (if p s = true then 1 else 0) + ct p s = _
    omega
section Q4
variable {b : Bd} {σ : SC} {τ : SR}
theorem ofWord_ok (hr : RB b τ) (hv : VB b) {w : Nat} (hw : w < b.2.1) (q : Int32) : ∃ x τ', f_X8_ofWord τ (nI w) q = (if q = nI 2 then some (nI (ct (fun s => fitB b s w) (nS b)), τ') else if q = nI 3 then some (x, τ') else some (fnd (fun s => decide (nI (cdv b s) = nI (b.2.2 w))) (nS b) 0, τ')) ∧ IsSet x (fun s => decide (s < nS b) && leftB b s w) ∧ FR τ τ' := by
  have h8 := nS_le b
  have hw16 := hv.2.1
  have hok := okN_le (hv.2.2.2.1 w hw)
  obtain ⟨τ1, e1, hr1, e2, e3, e4⟩ := layLeft_ok hr hv
  have key : ∀ (kx : SR → Int32 → Int32 → Int32 → Option (Int32 × SR)) (s n k : Nat) (x : Int32), s + k = nS b → s < n → IsSet x (fun t => decide (s ≤ t) && (decide (t < nS b) && leftB b t w)) → ∃ x', f_X8_ofWord_L20 (nI w) q kx n τ1 (nI (cd (fun s => fitB b s w) k s)) x (fnd (fun s => decide (nI (cdv b s) = nI (b.2.2 w))) k s) (nI s - 1) = kx τ1 (nI (cd (fun s => fitB b s w) (nS b) 0)) x' (fnd (fun s => decide (nI (cdv b s) = nI (b.2.2 w))) (nS b) 0) ∧ IsSet x' (fun s => decide (s < nS b) && leftB b s w) := by
    intro kx s
    induction s with
    | zero =>
      intro n k x h1 h2 hx
      obtain ⟨n, rfl⟩ := succ_of h2
      have e : k = nS b := by omega
      subst e
      rw [f_X8_ofWord_L20_s, if_pos (by decide)]
      exact ⟨x, rfl, hx.cong (fun t _ => by simp)⟩
    | succ s ih =>
      intro n k x h1 h2 hx
      obtain ⟨n, rfl⟩ := succ_of h2
      have hs' : s < nS b := by omega
      have l1 := lcd_2401 hv hs'
      have hlt := cdv_lt hv hs'
      have esub : nI (s + 1) - 1 = nI s := by rw [nI_m1 (by omega)]; rfl
      have hK67 : ∀ (x3 y0 : Int32), IsSet (x ||| y0) (fun t => decide (s ≤ t) && (decide (t < nS b) && leftB b t w)) → x3 = nI (cd (fun s => fitB b s w) (k + 1) s) → ∃ x', f_X8_ofWord_K67 (f_X8_ofWord_L20 (nI w) q kx n) τ1 (nI w) q x3 (fnd (fun s => decide (nI (cdv b s) = nI (b.2.2 w))) k (s + 1)) (nI s) y0 x = kx τ1 (nI (cd (fun s => fitB b s w) (nS b) 0)) x' (fnd (fun s => decide (nI (cdv b s) = nI (b.2.2 w))) (nS b) 0) ∧ IsSet x' (fun s => decide (s < nS b) && leftB b s w) := by
        rintro x3 y0 hy rfl
        have ih' := ih n (k + 1) (x ||| y0) (by omega) (by omega) hy
        unfold f_X8_ofWord_K67
        rw [isFull_ok hr1 hv e2 hs', Option.bind_some, dn_m1]
        rw [fnd_succ] at ih'
        by_cases g : full b s = true
        · have ec : cdv b s = lcd b s (sZ b s) := by unfold cdv; rw [if_pos g]
          rw [if_b1 g, lettersOf_ok hr1 hv e2 hs', Option.bind_some, codeAt_ok hr1 (by omega), Option.bind_some]
          rw [ec] at ih'
          by_cases y : nI (lcd b s (sZ b s)) = nI (b.2.2 w)
          · rw [if_pos (decide_eq_true y)] at ih'
            rw [if_pos y]; exact ih'
          · rw [if_neg (by simpa using y)] at ih'
            rw [if_neg y]; exact ih'
        · rw [if_b0 (by simpa using g)]
          rw [if_neg (by
            have e0 := (cdv_0 hs').mpr (by simpa using g)
            rw [e0]
            intro z
            have := (nI_eq (by omega) (by omega)).mp (of_decide_eq_true z)
            omega)] at ih'
          exact ih'
      have hK41 : ∀ (x3 y0 : Int32), x3 + y0 = nI (cd (fun s => fitB b s w) (k + 1) s) → ∃ x', f_X8_ofWord_K41 (f_X8_ofWord_L20 (nI w) q kx n) τ1 (nI w) q x (fnd (fun s => decide (nI (cdv b s) = nI (b.2.2 w))) k (s + 1)) (nI s) y0 x3 = kx τ1 (nI (cd (fun s => fitB b s w) (nS b) 0)) x' (fnd (fun s => decide (nI (cdv b s) = nI (b.2.2 w))) (nS b) 0) ∧ IsSet x' (fun s => decide (s < nS b) && leftB b s w) := by
        intro x3 y0 he
        unfold f_X8_ofWord_K41
        rw [if_in (by omega), ix_nI (by omega), (e4 s hs').hasv (by omega), Option.bind_some]
        by_cases g : leftB b s w = true
        · rw [if_pos g, if10]
          refine hK67 _ _ ((hx.ins (by omega)).cong (fun t _ => ?_)) he
          apply Bool.eq_iff_iff.mpr
          simp only [Bool.or_eq_true, Bool.and_eq_true, decide_eq_true_eq]
          constructor
          · rintro (⟨a1, a2, a3⟩ | rfl)
            · exact ⟨by omega, a2, a3⟩
            · exact ⟨by omega, hs', g⟩
          · rintro ⟨a1, a2, a3⟩
            by_cases e : t = s
            · right; exact e
            · left; exact ⟨by omega, a2, a3⟩
        · rw [if_neg g, if00]
          refine hK67 _ _ ?_ he
          rw [set_or0 hx]
          refine hx.cong (fun t _ => ?_)
          apply Bool.eq_iff_iff.mpr
          simp only [Bool.and_eq_true, decide_eq_true_eq]
          constructor
          · rintro ⟨a1, a2, a3⟩
            exact ⟨by omega, a2, a3⟩
          · rintro ⟨a1, a2, a3⟩
            refine ⟨?_, a2, a3⟩
            by_cases e : t = s
            · rw [e] at a3; exact absurd a3 g
            · omega
      rw [f_X8_ofWord_L20_s, esub, if_neg (nI_pos (by omega)), fits_ok hr1 hv e2 hs' hw, Option.bind_some]
      have eC : cd (fun s => fitB b s w) (k + 1) s = cd (fun s => fitB b s w) k (s + 1) + (if fitB b s w = true then 1 else 0) := rfl
      by_cases g : fitB b s w = true
      · rw [if_b1 g]
        refine hK41 _ _ ?_
        rw [eC, if_pos g, nI_1]
      · rw [if_b0 (by simpa using g)]
        refine hK41 _ _ ?_
        rw [eC, if_neg g, Int32.add_zero]; rfl
  obtain ⟨x, k1, k2⟩ := key (fun σ_108 x3_108 x4_108 x5_108 => (if q = (nI 2) then (some (x3_108, σ_108)) else (if q = (nI 3) then (some (x4_108, σ_108)) else (some (x5_108, σ_108))))) (nS b) FU 0 0 (by omega) (by have := FU_big; omega) (IsSet.zero.cong (fun t _ => by
    symm
    apply Bool.eq_false_iff.mpr
    simp only [ne_eq, Bool.and_eq_true, decide_eq_true_eq]
    omega))
  refine ⟨x, τ1, ?_, k2, e3⟩
  unfold f_X8_ofWord
  rw [e1, Option.bind_some, e2.1]
  refine Eq.trans k1 ?_
  have := cd_ct (fun s => fitB b s w) (nS b) 0
  have e0 : cd (fun s => fitB b s w) (nS b) 0 = ct (fun s => fitB b s w) (nS b) := by
    rw [Nat.zero_add] at this
    exact this
  rw [e0]
theorem qry5 (x : Int32) : (f_X8_in x 0 (nI 4) = some 0 ∧ x ≠ 0 ∧ x ≠ 1 ∧ x ≠ nI 2 ∧ x ≠ nI 3 ∧ x ≠ nI 4) ∨ (f_X8_in x 0 (nI 4) = some 1 ∧ (x = 0 ∨ x = 1 ∨ x = nI 2 ∨ x = nI 3 ∨ x = nI 4)) := by
  have e : nI 4 = nI 5 - 1 := by decide
  rcases rng x 5 (by decide) with h | ⟨i, hi, rfl⟩
  · left
    refine ⟨by rw [e]; exact in0 (by decide) h, ?_, ?_, ?_, ?_, ?_⟩ <;> rintro rfl <;> revert h <;> decide
  · right
    refine ⟨by rw [e]; exact in1 hi (by decide), ?_⟩
    have : i = 0 ∨ i = 1 ∨ i = 2 ∨ i = 3 ∨ i = 4 := by omega
    rcases this with rfl | rfl | rfl | rfl | rfl
    · exact Or.inl rfl
    · exact Or.inr (Or.inl rfl)
    · exact Or.inr (Or.inr (Or.inl rfl))
    · exact Or.inr (Or.inr (Or.inr (Or.inl rfl)))
    · exact Or.inr (Or.inr (Or.inr (Or.inr rfl)))
theorem s_word {σ : SC} {τ : SR} (h : Rel σ τ) (a0 a1 : Int32) : ∃ (r : Int32) (σ' : SC) (τ' : SR), f_X7_word σ a0 a1 = some r ∧ f_X8_word τ a0 a1 = some (r, τ') ∧ σ' = σ ∧ Rel σ' τ' := by
  obtain ⟨b, hv, hc, hr, hd, hp⟩ := id h
  have hw16 := hv.2.1
  have h8 := nS_le b
  unfold f_X7_word f_X8_word
  rcases word_any hc hr hv a0 with ⟨e3, e4⟩ | ⟨w, hw, rfl, e3, e4⟩
  · rw [e3, e4]; exact ⟨_, σ, τ, rfl, rfl, rfl, h⟩
  · have hcd := hv.2.2.1 w (by omega)
    have hok := hv.2.2.2.1 w hw
    rw [e3, e4, Option.bind_some, Option.bind_some, if10, if10, rd_in σ (show w < lnC 1 by show w < 16; omega), hc.2.2 w (by omega), lengthOf_ok hcd, if_pos hok, Option.bind_some]
    rcases qry5 a1 with ⟨i1, n0, n1, n2, n3, n4⟩ | ⟨i1, e⟩
    · rw [i1, Option.bind_some, if00, if_neg n0, if_neg n1, if_neg n2, if_neg n3, if_neg n4]
      exact ⟨_, σ, τ, rfl, rfl, rfl, h⟩
    · rw [i1, Option.bind_some, if10, codeAt_ok hr (by omega), Option.bind_some, Option.bind_some, rlength_ok hcd, Option.bind_some]
      obtain ⟨x, τ1, o1, o2, o3⟩ := ofWord_ok hr hv hw a1
      rw [o1]
      have hrel := h.fr o3
      rcases e with rfl | rfl | rfl | rfl | rfl
      · exact ⟨_, σ, τ, rfl, rfl, rfl, h⟩
      · exact ⟨_, σ, τ, rfl, rfl, rfl, h⟩
      · obtain ⟨y, y1, y2⟩ := slotsWith_ok hd.1 (r := 11) (w := w) rfl (by omega) hd.2.2.1
        have y3 := bitCount_ok y2 (fun k hk => by rw [decide_eq_false (by omega), Bool.false_and])
        have e5 : ct (fun s => decide (s < nS b) && fitW b s w) 16 = ct (fun s => fitB b s w) (nS b) := by
          have := ct_tail (p := fun s => decide (s < nS b) && fitW b s w) (m := nS b) (n := 16 - nS b) (fun k hk => by rw [decide_eq_false (by omega), Bool.false_and])
          rw [show nS b + (16 - nS b) = 16 by omega] at this
          rw [this]
          refine ct_cong (fun k hk => ?_)
          unfold fitW
          simp [hk, hw]
        rw [e5] at y3
        rw [y1, Option.bind_some, y3, Option.bind_some]
        exact ⟨_, σ, τ1, rfl, rfl, rfl, hrel⟩
      · obtain ⟨y, y1, y2⟩ := slotsWith_ok hd.1 (r := 12) (w := w) rfl (by omega) hd.2.2.2
        rw [y1, Option.bind_some, IsSet.eq y2 o2]
        exact ⟨_, σ, τ1, rfl, rfl, rfl, hrel⟩
      · rw [firstReads_ok hc hv hd.1, Option.bind_some]
        exact ⟨_, σ, τ1, rfl, rfl, rfl, hrel⟩
end Q4
