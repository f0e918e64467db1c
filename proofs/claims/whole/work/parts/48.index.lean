/-! the class's reads of slots; its index of the list -/
section CQ
variable {b : Bd} {σ : SC}
theorem cellAt_ok (hd : DS b σ) {s : Nat} (hs' : s < nS b) (p : Nat) : f_X6_cellAt σ (nI s) (nI p) = some (nI (cS b s p)) := by
  have h8 := nS_le b
  have hr := rank_le b 4
  unfold f_X6_cellAt
  rw [isDown_ok hd.2.1 (by omega) (by omega), Option.bind_some, rd_in σ (show s < lnC 2 by show s < 8; omega), (hd.2.2.2.1 s hs').1, show (1 : Int32) = nI 1 from rfl, pk_mul, pk_mul, nI_add, nI_add]
  have hl := lnb_down hs'
  unfold cS sT lsp
  by_cases g : rank b 4 ≤ s
  · rw [if_b1 (decide_eq_true g), if_neg (by omega), Nat.mul_comm]
  · rw [if_b0 (decide_eq_false g), if_pos (by omega), Nat.mul_comm]
theorem codeIn_ok (hb : CB b σ) (hv : VB b) (hd : DS b σ) {s : Nat} (hs' : s < nS b) : f_X6_codeIn σ (nI s) = some (if full b s = true then nI (lcd b s (sZ b s)) else 0) := by
  have h8 := nS_le b
  have hz := sZ_24 hs'
  have key : ∀ (k n p : Nat), p + k = sZ b s → k < n → (∀ j, j < p → b.1 (cS b s j) ≠ 0) → f_X6_codeIn_L5 σ (nI s) n (nI (lcd b s p)) (nI p) = some (if full b s = true then nI (lcd b s (sZ b s)) else 0) := by
    intro k
    induction k with
    | zero =>
      intro n p h1 h2 h3
      obtain ⟨n, rfl⟩ := succ_of h2
      rw [f_X6_codeIn_L5_s, rd_in σ (show s < lnC 3 by show s < 8; omega), (hd.2.2.2.1 s hs').2.1, if_le (by omega) (by omega), if_pos (full_iff.mpr (fun j hj => h3 j (by omega))), show p = sZ b s by omega]
    | succ k ih =>
      intro n p h1 h2 h3
      obtain ⟨n, rfl⟩ := succ_of h2
      have hc := cS_lt hs' (show p < sZ b s by omega)
      have h7 := hv.1 _ hc
      have ho := cS_open (show p < sZ b s by omega)
      rw [f_X6_codeIn_L5_s, rd_in σ (show s < lnC 3 by show s < 8; omega), (hd.2.2.2.1 s hs').2.1, if_nle (by omega) (by omega), cellAt_ok hd hs', Option.bind_some, rd_in σ (show cS b s p < lnC 0 from hc), hb.1 _ hc]
      by_cases g : b.1 (cS b s p) = 0
      · rw [if_neg (fun z => (cV_dec _ h7).2.1.mp z (Or.inl g)), if_neg]
        intro h
        exact full_iff.mp h p (by omega) g
      · have hlt := lcd_lt hv hs' p (by omega)
        have h74 : 7 ^ p ≤ 7 ^ 4 := Nat.pow_le_pow_right (by decide) (by omega)
        rw [if_pos ((cV_dec _ h7).2.1.mpr (by omega)), cV_let (by omega) (by omega), pk_mul, nI_add, pk_sub (by omega), nI_1, nI_1]
        rw [show lcd b s p * 7 + (96 + b.1 (cS b s p)) - 97 + 1 = lcd b s (p + 1) by show _ = 7 * lcd b s p + b.1 (cS b s p); omega]
        refine ih n (p + 1) (by omega) (by omega) (fun j hj => ?_)
        by_cases e : j = p
        · rw [e]; exact g
        · exact h3 j (by omega)
  unfold f_X6_codeIn
  have := key (sZ b s) FU 0 (by omega) (by have := FU_big; omega) (fun j hj => by omega)
  rw [nI_0] at this
  exact this
end CQ
theorem dn_m1 (a : Nat) : nI a + (-1) = nI a - 1 := (Int32.sub_eq_add_neg _ _).symm
theorem letN_div {v m : Nat} (hm : m < lenN v) : v / 7 ^ (lenN v - (m + 1)) % 7 = letN v m := by
  unfold letN
  rw [show lenN v - 1 - m = lenN v - (m + 1) by omega]
/-- the letters of one word, put down from the last on -/
def IW (σ : SC) (v j : Nat) : Nat → SC
  | 0 => σ
  | m + 1 => IW (su (su σ 10 (4 * j + m) (nI (letN v m - 1))) 9 (6 * m + (letN v m - 1)) (σ 9 (6 * m + (letN v m - 1)) ||| (1 : Int32) <<< (nI j &&& 31))) v j m
theorem IW_row {σ : SC} {v j r : Nat} (h9 : r ≠ 9) (h10 : r ≠ 10) : ∀ {m : Nat}, IW σ v j m r = σ r
  | 0 => rfl
  | m + 1 => by
    show IW _ v j m r = _
    rw [IW_row h9 h10, su_row _ _ _ _ h9, su_row _ _ _ _ h10]
theorem IW_9 {v j : Nat} : ∀ {m : Nat} {σ : SC}, m ≤ lenN v → okN v = true → ∀ p c, p < 4 → c < 6 → IW σ v j m 9 (6 * p + c) = if p < m ∧ letN v p = c + 1 then σ 9 (6 * p + c) ||| (1 : Int32) <<< (nI j &&& 31) else σ 9 (6 * p + c)
  | 0, σ, _, _, p, c, _, _ => by rw [if_neg (by omega)]; rfl
  | m + 1, σ, hm, hok, p, c, hp, hc => by
    have h1 := okN_let hok (show m < lenN v by omega)
    have h2 := letN_lt v m
    show IW _ v j m 9 (6 * p + c) = _
    rw [IW_9 (by omega) hok p c hp hc, su_at, su_row _ _ _ _ (show 9 ≠ 10 by decide)]
    by_cases e : p = m ∧ letN v p = c + 1
    · obtain ⟨rfl, e2⟩ := e
      rw [if_neg (by omega), if_pos ⟨rfl, by omega⟩, if_pos ⟨by omega, e2⟩]
      congr 2
      omega
    · by_cases g : p < m ∧ letN v p = c + 1
      · rw [if_pos g, if_neg (show ¬ (9 = 9 ∧ 6 * p + c = 6 * m + (letN v m - 1)) by omega), if_pos ⟨by omega, g.2⟩]
      · rw [if_neg g, if_neg, if_neg]
        · rintro ⟨a1, a2⟩
          by_cases z : p = m
          · exact e ⟨z, a2⟩
          · exact g ⟨by omega, a2⟩
        · rintro ⟨-, z⟩
          have : p = m := by omega
          subst this
          exact e ⟨rfl, by omega⟩
theorem IW_10 {v j : Nat} : ∀ {m : Nat} {σ : SC}, m ≤ 4 → ∀ w p, p < 4 → IW σ v j m 10 (4 * w + p) = if w = j ∧ p < m then nI (letN v p - 1) else σ 10 (4 * w + p)
  | 0, σ, _, w, p, _ => by rw [if_neg (by omega)]; rfl
  | m + 1, σ, hm, w, p, hp => by
    show IW _ v j m 10 (4 * w + p) = _
    rw [IW_10 (by omega) w p hp, su_row _ _ _ _ (show 10 ≠ 9 by decide), su_at]
    by_cases e : w = j ∧ p = m
    · obtain ⟨rfl, rfl⟩ := e
      rw [if_neg (by omega), if_pos ⟨rfl, rfl⟩, if_pos ⟨rfl, by omega⟩]
    · by_cases g : w = j ∧ p < m
      · rw [if_pos g, if_pos ⟨g.1, by omega⟩]
      · rw [if_neg g, if_neg (by omega), if_neg (by omega)]
theorem readWord_loop {v j : Nat} (hv : v ≤ 2400) (hok : okN v = true) (hj : j < 16) : ∀ (m n : Nat) (σ : SC), m ≤ lenN v → m < n → f_X3_readWord_L39 (nI j) ((1 : Int32) <<< (nI j &&& 31)) n σ (nI (v / 7 ^ (lenN v - m))) (nI m - 1) = some (IW σ v j m)
  | 0, n, σ, _, hn => by
    obtain ⟨n, rfl⟩ := succ_of hn
    rw [f_X3_readWord_L39_s, if_pos (by decide)]
    rfl
  | m + 1, n, σ, hm, hn => by
    obtain ⟨n, rfl⟩ := succ_of hn
    have h4 := lenN_le v
    have h1 := okN_let hok (show m < lenN v by omega)
    have h2 := letN_lt v m
    have hdv : v / 7 ^ (lenN v - (m + 1)) < 2147483648 := Nat.lt_of_le_of_lt (Nat.div_le_self _ _) (by omega)
    rw [f_X3_readWord_L39_s, nI_m1 (by omega), show m + 1 - 1 = m by omega, if_neg (nI_pos (by omega)), pk_rem hdv (by decide) (by decide), letN_div (by omega), nI_m1 h1, pk_mul, nI_add, wr_in _ _ (show j * 4 + m < lnC 10 by show _ < 64; omega)]
    unfold f_X3_wordsHaving
    rw [pk_mul, nI_add, Option.bind_some, rd_in _ (show m * 6 + (letN v m - 1) < lnC 9 by show _ < 24; omega), wr_in _ _ (show m * 6 + (letN v m - 1) < lnC 9 by show _ < 24; omega), pk_div hdv (by decide) (by decide), dn_m1, Nat.div_div_eq_div_mul, ← Nat.pow_succ, show (lenN v - (m + 1)).succ = lenN v - m by omega, readWord_loop hv hok hj m n _ (by omega) (by omega), su_row _ _ _ _ (show 9 ≠ 10 by decide), Nat.mul_comm j 4, Nat.mul_comm m 6]
    rfl
theorem readWord_ok {σ : SC} {v j : Nat} (hv : v ≤ 2400) (hok : okN v = true) (hj : j < 16) : f_X3_readWord σ (nI j) (nI v) = some (IW (su σ 8 (lenN v) (σ 8 (lenN v) ||| (1 : Int32) <<< (nI j &&& 31))) v j (lenN v)) := by
  have h4 := lenN_le v
  unfold f_X3_readWord
  rw [lengthOf_ok hv, if_pos hok, Option.bind_some, rd_in _ (show lenN v < lnC 8 by show _ < 5; omega), wr_in _ _ (show lenN v < lnC 8 by show _ < 5; omega)]
  have := readWord_loop hv hok hj (lenN v) FU (su σ 8 (lenN v) (σ 8 (lenN v) ||| (1 : Int32) <<< (nI j &&& 31))) (Nat.le_refl _) (by have := FU_big; omega)
  rw [Nat.sub_self, Nat.pow_zero, Nat.div_one] at this
  exact this
/-- the class's index of the first n words of the list -/
def DIn (b : Bd) (n : Nat) (σ : SC) : Prop := (∀ k, k ≤ 4 → IsSet (σ 8 k) (fun w => decide (w < n) && decide (lenN (b.2.2 w) = k))) ∧ (∀ p, p < 4 → ∀ c, c < 6 → IsSet (σ 9 (6 * p + c)) (fun w => decide (w < n) && (decide (p < lenN (b.2.2 w)) && decide (letN (b.2.2 w) p = c + 1)))) ∧ ∀ w, w < n → ∀ p, p < lenN (b.2.2 w) → σ 10 (4 * w + p) = nI (letN (b.2.2 w) p - 1)
def DI (b : Bd) (σ : SC) : Prop := DIn b b.2.1 σ
theorem DI.keep {b : Bd} {σ σ' : SC} (h : DI b σ) (h8 : σ' 8 = σ 8) (h9 : σ' 9 = σ 9) (h10 : σ' 10 = σ 10) : DI b σ' := by
  unfold DI DIn
  rw [h8, h9, h10]
  exact h
theorem DIn_step {b : Bd} {σ : SC} {j : Nat} (hj : j < 16) (hok : okN (b.2.2 j) = true) (h : DIn b j σ) : DIn b (j + 1) (IW (su σ 8 (lenN (b.2.2 j)) (σ 8 (lenN (b.2.2 j)) ||| (1 : Int32) <<< (nI j &&& 31))) (b.2.2 j) j (lenN (b.2.2 j))) := by
  have h4 := lenN_le (b.2.2 j)
  refine ⟨fun k hk => ?_, fun p hp c hc => ?_, fun w hw p hp => ?_⟩
  · rw [IW_row (by decide) (by decide), su_at]
    by_cases e : k = lenN (b.2.2 j)
    · rw [if_pos ⟨rfl, e⟩, ← e]
      refine ((h.1 k hk).ins (by omega)).cong (fun w _ => ?_)
      apply Bool.eq_iff_iff.mpr
      simp only [Bool.or_eq_true, Bool.and_eq_true, decide_eq_true_eq]
      constructor
      · rintro (⟨a1, a2⟩ | rfl)
        · exact ⟨by omega, a2⟩
        · exact ⟨by omega, e.symm⟩
      · rintro ⟨a1, a2⟩
        by_cases g : w = j
        · right; exact g
        · left; exact ⟨by omega, a2⟩
    · rw [if_neg (fun z => e z.2)]
      refine (h.1 k hk).cong (fun w _ => ?_)
      apply Bool.eq_iff_iff.mpr
      simp only [Bool.and_eq_true, decide_eq_true_eq]
      constructor
      · rintro ⟨a1, a2⟩; exact ⟨by omega, a2⟩
      · rintro ⟨a1, a2⟩
        refine ⟨?_, a2⟩
        by_cases g : w = j
        · subst g; exact absurd a2.symm e
        · omega
  · rw [IW_9 (Nat.le_refl _) hok p c hp hc, su_row _ _ _ _ (show 9 ≠ 8 by decide)]
    by_cases e : p < lenN (b.2.2 j) ∧ letN (b.2.2 j) p = c + 1
    · rw [if_pos e]
      refine ((h.2.1 p hp c hc).ins (by omega)).cong (fun w _ => ?_)
      apply Bool.eq_iff_iff.mpr
      simp only [Bool.or_eq_true, Bool.and_eq_true, decide_eq_true_eq]
      constructor
      · rintro (⟨a1, a2⟩ | rfl)
        · exact ⟨by omega, a2⟩
        · exact ⟨by omega, e⟩
      · rintro ⟨a1, a2⟩
        by_cases g : w = j
        · right; exact g
        · left; exact ⟨by omega, a2⟩
    · rw [if_neg e]
      refine (h.2.1 p hp c hc).cong (fun w _ => ?_)
      apply Bool.eq_iff_iff.mpr
      simp only [Bool.and_eq_true, decide_eq_true_eq]
      constructor
      · rintro ⟨a1, a2⟩; exact ⟨by omega, a2⟩
      · rintro ⟨a1, a2⟩
        refine ⟨?_, a2⟩
        by_cases g : w = j
        · subst g; exact absurd a2 e
        · omega
  · have h4w := lenN_le (b.2.2 w)
    rw [IW_10 (by omega) w p (by omega), su_row _ _ _ _ (show 10 ≠ 8 by decide)]
    by_cases g : w = j
    · subst g; rw [if_pos ⟨rfl, hp⟩]
    · rw [if_neg (fun z => g z.1)]; exact h.2.2 w (by omega) p hp
theorem index_ok {b : Bd} {σ : SC} (hb : CB b σ) (hv : VB b) : ∃ σ', f_X3_read σ = some σ' ∧ DI b σ' ∧ ∀ r, r ≠ 8 → r ≠ 9 → r ≠ 10 → σ' r = σ r := by
  have key : ∀ (k n j : Nat) (s : SC), j + k = b.2.1 → k < n → DIn b j s → (∀ r, r ≠ 8 → r ≠ 9 → r ≠ 10 → s r = σ r) → ∃ σ', f_X3_read_L18 n s (nI j) = some σ' ∧ DI b σ' ∧ ∀ r, r ≠ 8 → r ≠ 9 → r ≠ 10 → σ' r = σ r := by
    intro k
    induction k with
    | zero =>
      intro n j s h1 h2 h3 h4
      obtain ⟨n, rfl⟩ := succ_of h2
      have hw := hv.2.1
      rw [f_X3_read_L18_s, h4 17 (by decide) (by decide) (by decide), hb.2.1, if_le (by omega) (by omega)]
      rw [show j = b.2.1 by omega] at h3
      exact ⟨s, rfl, h3, h4⟩
    | succ k ih =>
      intro n j s h1 h2 h3 h4
      obtain ⟨n, rfl⟩ := succ_of h2
      have hw := hv.2.1
      rw [f_X3_read_L18_s, h4 17 (by decide) (by decide) (by decide), hb.2.1, if_nle (by omega) (by omega), rd_in s (show j < lnC 1 by show j < 16; omega), h4 1 (by decide) (by decide) (by decide), hb.2.2 j (by omega), readWord_ok (hv.2.2.1 j (by omega)) (hv.2.2.2.1 j (by omega)) (by omega), Option.bind_some, nI_1]
      refine ih n (j + 1) _ (by omega) (by omega) (DIn_step (by omega) (hv.2.2.2.1 j (by omega)) h3) (fun r a1 a2 a3 => ?_)
      rw [IW_row a2 a3, su_row _ _ _ _ a1, h4 r a1 a2 a3]
  unfold f_X3_read
  have := key b.2.1 FU 0 (fl (fl σ 8 0) 9 0) (by omega) (by have := FU_big; have := hv.2.1; omega) ⟨fun k hk => ?_, fun p hp c hc => ?_, fun w hw => by omega⟩ (fun r a1 a2 a3 => by rw [fl_row _ _ _ a2, fl_row _ _ _ a1])
  · rwa [nI_0] at this
  · rw [fl_row _ _ _ (by decide), fl_at, if_pos ⟨rfl, by show k < 5; omega⟩]
    exact IsSet.zero.cong (fun w _ => by simp)
  · rw [fl_at, if_pos ⟨rfl, by show _ < 24; omega⟩]
    exact IsSet.zero.cong (fun w _ => by simp)
section CF
variable {b : Bd} {σ : SC}
theorem wordsThatFit_ok (hb : CB b σ) (hv : VB b) (hd : DS b σ) (hi : DI b σ) {s : Nat} (hs' : s < nS b) : ∃ x, f_X1_wordsThatFit σ (nI s) = some x ∧ IsSet x (fun w => decide (w < b.2.1) && fitB b s w) := by
  have h8 := nS_le b
  have hz := sZ_24 hs'
  have key : ∀ (k n p : Nat) (x : Int32), p + k = sZ b s → k < n → IsSet x (fun w => decide (w < b.2.1) && (decide (lenN (b.2.2 w) = sZ b s) && (List.range (sZ b s)).all (fun j => decide (p ≤ j) || (decide (b.1 (cS b s j) = 0) || decide (b.1 (cS b s j) = letN (b.2.2 w) j))))) → ∃ y, f_X1_wordsThatFit_L25 σ (nI s) n x (nI p) = some y ∧ IsSet y (fun w => decide (w < b.2.1) && fitB b s w) := by
    intro k
    induction k with
    | zero =>
      intro n p x h1 h2 hx
      obtain ⟨n, rfl⟩ := succ_of h2
      rw [f_X1_wordsThatFit_L25_s, rd_in σ (show s < lnC 3 by show s < 8; omega), (hd.2.2.2.1 s hs').2.1, if_le (by omega) (by omega)]
      refine ⟨x, rfl, hx.cong (fun w _ => ?_)⟩
      congr 1
      unfold fitB
      congr 1
      apply Bool.eq_iff_iff.mpr
      simp only [List.all_eq_true, List.mem_range, Bool.or_eq_true, decide_eq_true_eq]
      constructor
      · intro a j hj; exact (a j hj).resolve_left (by omega)
      · intro a j hj; right; exact a j hj
    | succ k ih =>
      intro n p x h1 h2 hx
      obtain ⟨n, rfl⟩ := succ_of h2
      have hc := cS_lt hs' (show p < sZ b s by omega)
      have h7 := hv.1 _ hc
      have ho := cS_open (show p < sZ b s by omega)
      rw [f_X1_wordsThatFit_L25_s, rd_in σ (show s < lnC 3 by show s < 8; omega), (hd.2.2.2.1 s hs').2.1, if_nle (by omega) (by omega), cellAt_ok hd hs', Option.bind_some, rd_in σ (show cS b s p < lnC 0 from hc), hb.1 _ hc, nI_1]
      by_cases g : b.1 (cS b s p) = 0
      · rw [if_pos ((cV_dec _ h7).1.mpr (Or.inl g))]
        refine ih n (p + 1) x (by omega) (by omega) (hx.cong (fun w _ => ?_))
        congr 2
        apply Bool.eq_iff_iff.mpr
        simp only [List.all_eq_true, List.mem_range, Bool.or_eq_true, decide_eq_true_eq]
        constructor
        · intro a j hj
          rcases a j hj with z | z
          · by_cases e : j = p
            · right; left; rw [e]; exact g
            · left; omega
          · right; exact z
        · intro a j hj
          rcases a j hj with z | z
          · left; omega
          · right; exact z
      · rw [if_neg (fun z => by rcases (cV_dec _ h7).1.mp z with z | z <;> contradiction), cV_let (by omega) (by omega), pk_sub (by omega)]
        unfold f_X3_wordsHaving
        rw [pk_mul, nI_add, Option.bind_some, rd_in σ (show p * 6 + (96 + b.1 (cS b s p) - 97) < lnC 9 by show _ < 24; omega)]
        have hh := hi.2.1 p (by omega) (b.1 (cS b s p) - 1) (by omega)
        rw [show 6 * p + (b.1 (cS b s p) - 1) = p * 6 + (96 + b.1 (cS b s p) - 97) by omega] at hh
        refine ih n (p + 1) _ (by omega) (by omega) ((hx.and hh).cong (fun w _ => ?_))
        apply Bool.eq_iff_iff.mpr
        simp only [List.all_eq_true, List.mem_range, Bool.or_eq_true, Bool.and_eq_true, decide_eq_true_eq]
        constructor
        · rintro ⟨⟨a1, a2, a3⟩, -, a5, a6⟩
          refine ⟨a1, a2, fun j hj => ?_⟩
          rcases a3 j hj with z | z
          · by_cases e : j = p
            · right; right; rw [e]; omega
            · left; omega
          · right; exact z
        · rintro ⟨a1, a2, a3⟩
          refine ⟨⟨a1, a2, fun j hj => ?_⟩, a1, by omega, ?_⟩
          · rcases a3 j hj with z | z
            · left; omega
            · right; exact z
          · rcases a3 p (by omega) with z | z | z
            · omega
            · exact absurd z g
            · omega
  unfold f_X1_wordsThatFit
  rw [rd_in σ (show s < lnC 3 by show s < 8; omega), (hd.2.2.2.1 s hs').2.1, rd_in σ (show sZ b s < lnC 8 by show _ < 5; omega)]
  have := key (sZ b s) FU 0 (σ 8 (sZ b s)) (by omega) (by have := FU_big; omega) ((hi.1 (sZ b s) (by omega)).cong (fun w _ => by
    apply Bool.eq_iff_iff.mpr
    simp only [List.all_eq_true, List.mem_range, Bool.or_eq_true, Bool.and_eq_true, decide_eq_true_eq]
    exact ⟨fun a => ⟨a.1, a.2, fun j _ => Or.inl (Nat.zero_le j)⟩, fun a => ⟨a.1, a.2.1⟩⟩))
  rwa [nI_0] at this
/-- words that another slot may have beside this one's -/
def bes (b : Bd) (s w t v : Nat) : Bool := decide (v < 16) && (decide (v ≠ w) && (!X b s t || (decide (v < b.2.1) && (decide (pX b t s < lenN (b.2.2 v)) && decide (letN (b.2.2 v) (pX b t s) = letN (b.2.2 w) (pX b s t))))))
theorem besides_ok (hv : VB b) (hd : DS b σ) (hi : DI b σ) {s t w : Nat} (hs' : s < nS b) (ht : t < nS b) (hw : w < b.2.1) (hl : lenN (b.2.2 w) = sZ b s) : ∃ x, f_X1_besides σ (nI s) (nI w) (nI t) = some x ∧ IsSet x (bes b s w t) := by
  have h8 := nS_le b
  have hw16 := hv.2.1
  have h0 : IsSet ((65535 : Int32) &&& ((1 : Int32) <<< (nI w &&& 31) ^^^ (-1 : Int32))) (fun v => decide (v < 16) && !decide (v = w)) := IsSet.del (fun k hk => tb_16 k hk) (by omega)
  unfold f_X1_besides
  rw [pk_mul, nI_add, pk_mul, nI_add, rd_in σ (show s * 8 + t < lnC 5 by show _ < 64; omega), rd_in σ (show t * 8 + s < lnC 5 by show _ < 64; omega), Nat.mul_comm s 8, Nat.mul_comm t 8, (hd.2.2.2.1 s hs').2.2.2 t ht, (hd.2.2.2.1 t ht).2.2.2 s hs', X_symm b t s]
  by_cases g : X b s t = true
  · obtain ⟨g1, g2, g3, g4⟩ := X_place hs' ht g
    have hz := sZ_24 hs'
    have hz2 := sZ_24 ht
    rw [if_pos g, if_pos g, if_nm1 (by omega), pk_mul, pk_mul, nI_add, rd_in σ (show w * 4 + pX b s t < lnC 10 by show _ < 64; omega), Nat.mul_comm w 4, hi.2.2 w hw _ (by omega), nI_add]
    have h1 := okN_let (hv.2.2.2.1 w hw) (show pX b s t < lenN (b.2.2 w) by omega)
    have h2 := letN_lt (b.2.2 w) (pX b s t)
    rw [rd_in σ (show pX b t s * 6 + (letN (b.2.2 w) (pX b s t) - 1) < lnC 9 by show _ < 24; omega)]
    have hh := hi.2.1 (pX b t s) (by omega) (letN (b.2.2 w) (pX b s t) - 1) (by omega)
    rw [Nat.mul_comm 6] at hh
    refine ⟨_, rfl, (h0.and hh).cong (fun v _ => ?_)⟩
    unfold bes
    rw [g, show letN (b.2.2 w) (pX b s t) - 1 + 1 = letN (b.2.2 w) (pX b s t) by omega]
    simp [Bool.and_assoc]
  · rw [if_neg g, if_pos rfl]
    refine ⟨_, rfl, h0.cong (fun v _ => ?_)⟩
    unfold bes
    have : X b s t = false := by simpa using g
    rw [this]
    simp
end CF
