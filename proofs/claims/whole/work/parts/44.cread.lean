/-! the class lays its slots, line by line -/
def rowOf (k : Nat) : Nat := if k < 4 then 6 else 7
def LCp (b : Bd) (s : SC) (k : Nat) : SC := if k = 4 then su s 17 2 (nI (rank b 4)) else s
def LC (b : Bd) (σ : SC) : Nat → SC
  | 0 => fl (fl (su σ 17 1 0) 6 (-1)) 7 (-1)
  | k + 1 => if hs b k = true then AS (LCp b (LC b σ k) k) (rank b k) (lcell k (lo b k)) (ll b k) (lsp k) (rowOf k) else LCp b (LC b σ k) k
theorem LC_succ (b : Bd) (σ : SC) (k : Nat) : LC b σ (k + 1) = if hs b k = true then AS (LCp b (LC b σ k) k) (rank b k) (lcell k (lo b k)) (ll b k) (lsp k) (rowOf k) else LCp b (LC b σ k) k := rfl
theorem rowOf_67 (k : Nat) : rowOf k = 6 ∨ rowOf k = 7 := by unfold rowOf; split <;> simp
theorem LCp_row {b : Bd} {s : SC} {k r : Nat} (h : r ≠ 17) : LCp b s k r = s r := by
  unfold LCp
  split
  · exact su_row _ _ _ _ h
  · rfl
theorem LCp_f {b : Bd} {s : SC} {k j : Nat} (h : j ≠ 2) : LCp b s k 17 j = s 17 j := by
  unfold LCp
  split
  · rw [su_at, if_neg (fun g => h g.2)]
  · rfl
theorem AS_f {σ : SC} {c f len step row j : Nat} (hrow : row = 6 ∨ row = 7) : AS σ c f len step row 17 j = if j = 1 then nI (c + 1) else σ 17 j := by
  have h17 : 17 ≠ row := by rcases hrow with rfl | rfl <;> decide
  unfold AS
  rw [su_at]
  by_cases h : j = 1
  · simp [h]
  · rw [if_neg (fun g => h g.2), if_neg h, sr_other h17, su_row _ _ _ _ (by decide), su_row _ _ _ _ (by decide)]
theorem AS_2 {σ : SC} {c f len step row j : Nat} (hrow : row = 6 ∨ row = 7) : AS σ c f len step row 2 j = if j = c then nI f else σ 2 j := by
  have h2 : 2 ≠ row := by rcases hrow with rfl | rfl <;> decide
  unfold AS
  rw [su_row _ _ _ _ (by decide), sr_other h2, su_row _ _ _ _ (by decide), su_at]
  simp
theorem AS_3 {σ : SC} {c f len step row j : Nat} (hrow : row = 6 ∨ row = 7) : AS σ c f len step row 3 j = if j = c then nI len else σ 3 j := by
  have h2 : 3 ≠ row := by rcases hrow with rfl | rfl <;> decide
  unfold AS
  rw [su_row _ _ _ _ (by decide), sr_other h2, su_at, su_row _ _ _ _ (by decide)]
  simp
theorem AS_r {σ : SC} {c f len step row q : Nat} (hrow : row = 6 ∨ row = 7) : AS σ c f len step row row q = if (List.range len).any (fun i => decide (q = f + i * step)) = true then nI c else σ row q := by
  have h17 : row ≠ 17 := by rcases hrow with rfl | rfl <;> decide
  unfold AS
  rw [su_row _ _ _ _ h17, sr_same]
theorem any_row {k o len q : Nat} (hk : k < 4) (h4 : o + len ≤ 4) : ((List.range len).any (fun i => decide (q = lcell k o + i * lsp k)) = true) ↔ (q / 4 = k ∧ o ≤ q % 4 ∧ q % 4 < o + len) := by
  have e : ∀ i, lcell k o + i * lsp k = 4 * k + o + i := fun i => by unfold lcell lst lsp; rw [if_pos hk, if_pos hk]; omega
  simp only [List.any_eq_true, List.mem_range, decide_eq_true_eq, e]
  constructor
  · rintro ⟨i, h1, h2⟩; omega
  · rintro ⟨h1, h2, h3⟩; exact ⟨q % 4 - o, by omega, by omega⟩
theorem any_col {k o len q : Nat} (hk : 4 ≤ k) (hk8 : k < 8) (h4 : o + len ≤ 4) : ((List.range len).any (fun i => decide (q = lcell k o + i * lsp k)) = true) ↔ (4 + q % 4 = k ∧ o ≤ q / 4 ∧ q / 4 < o + len) := by
  have e : ∀ i, lcell k o + i * lsp k = (k - 4) + 4 * (o + i) := fun i => by unfold lcell lst lsp; rw [if_neg (by omega), if_neg (by omega)]; omega
  simp only [List.any_eq_true, List.mem_range, decide_eq_true_eq, e]
  constructor
  · rintro ⟨i, h1, h2⟩; omega
  · rintro ⟨h1, h2, h3⟩; exact ⟨q / 4 - o, by omega, by omega⟩
/-- a cell lies in a slot across, down -/
def inA (b : Bd) (q : Nat) : Bool := hs b (q / 4) && (decide (lo b (q / 4) ≤ q % 4) && decide (q % 4 < lo b (q / 4) + ll b (q / 4)))
def inD (b : Bd) (q : Nat) : Bool := hs b (4 + q % 4) && (decide (lo b (4 + q % 4) ≤ q / 4) && decide (q / 4 < lo b (4 + q % 4) + ll b (4 + q % 4)))
theorem inA_iff (b : Bd) (q : Nat) : inA b q = true ↔ hs b (q / 4) = true ∧ lo b (q / 4) ≤ q % 4 ∧ q % 4 < lo b (q / 4) + ll b (q / 4) := by
  unfold inA; simp only [Bool.and_eq_true, decide_eq_true_eq]
theorem inD_iff (b : Bd) (q : Nat) : inD b q = true ↔ hs b (4 + q % 4) = true ∧ lo b (4 + q % 4) ≤ q / 4 ∧ q / 4 < lo b (4 + q % 4) + ll b (4 + q % 4) := by
  unfold inD; simp only [Bool.and_eq_true, decide_eq_true_eq]
theorem LC_frame (b : Bd) (σ : SC) : ∀ k, (∀ r, r ≠ 2 → r ≠ 3 → r ≠ 6 → r ≠ 7 → r ≠ 17 → LC b σ k r = σ r) ∧ (∀ j, j ≠ 1 → j ≠ 2 → LC b σ k 17 j = σ 17 j)
  | 0 => ⟨fun r _ _ h6 h7 h17 => by show fl (fl (su σ 17 1 0) 6 (-1)) 7 (-1) r = _; rw [fl_row _ _ _ h7, fl_row _ _ _ h6, su_row _ _ _ _ h17], fun j h1 _ => by show fl (fl (su σ 17 1 0) 6 (-1)) 7 (-1) 17 j = _; rw [fl_row _ _ _ (by decide), fl_row _ _ _ (by decide), su_at, if_neg (fun g => h1 g.2)]⟩
  | k + 1 => by
    obtain ⟨h1, h2⟩ := LC_frame b σ k
    rw [LC_succ]
    by_cases h : hs b k = true
    · rw [if_pos h]
      refine ⟨fun r a1 a2 a3 a4 a5 => ?_, fun j a1 a2 => ?_⟩
      · rw [AS_row a1 a2 (by rcases rowOf_67 k with e | e <;> rw [e] <;> assumption) a5, LCp_row a5, h1 r a1 a2 a3 a4 a5]
      · rw [AS_f (rowOf_67 k), if_neg a1, LCp_f a2, h2 j a1 a2]
    · rw [if_neg h]
      exact ⟨fun r a1 a2 a3 a4 a5 => by rw [LCp_row a5, h1 r a1 a2 a3 a4 a5], fun j a1 a2 => by rw [LCp_f a2, h2 j a1 a2]⟩
theorem LC_cnt (b : Bd) (σ : SC) : ∀ k, LC b σ k 17 1 = nI (rank b k) ∧ (5 ≤ k → LC b σ k 17 2 = nI (rank b 4))
  | 0 => ⟨by show fl (fl (su σ 17 1 0) 6 (-1)) 7 (-1) 17 1 = _; rw [fl_row _ _ _ (by decide), fl_row _ _ _ (by decide), su_at, if_pos ⟨rfl, rfl⟩]; rfl, fun h => by omega⟩
  | k + 1 => by
    obtain ⟨h1, h2⟩ := LC_cnt b σ k
    have hp : 5 ≤ k + 1 → LCp b (LC b σ k) k 17 2 = nI (rank b 4) := by
      intro h
      unfold LCp
      by_cases e : k = 4
      · rw [if_pos e, su_at, if_pos ⟨rfl, rfl⟩]
      · rw [if_neg e]; exact h2 (by omega)
    rw [LC_succ, rank_succ]
    by_cases h : hs b k = true
    · rw [if_pos h, if_pos h]
      exact ⟨by rw [AS_f (rowOf_67 k), if_pos rfl], fun g => by rw [AS_f (rowOf_67 k), if_neg (by decide)]; exact hp g⟩
    · rw [if_neg h, if_neg h]
      exact ⟨by rw [LCp_f (by decide)]; exact h1, hp⟩
theorem LC_slots (b : Bd) (σ : SC) : ∀ k μ, μ < k → hs b μ = true → LC b σ k 2 (rank b μ) = nI (lcell μ (lo b μ)) ∧ LC b σ k 3 (rank b μ) = nI (ll b μ)
  | 0, μ, h, _ => by omega
  | k + 1, μ, hμ, hm => by
    rw [LC_succ]
    by_cases h : hs b k = true
    · rw [if_pos h, AS_2 (rowOf_67 k), AS_3 (rowOf_67 k), LCp_row (by decide), LCp_row (by decide)]
      by_cases e : μ = k
      · subst e; simp
      · have hlt := rank_lt b hm (show μ < k by omega)
        rw [if_neg (by omega), if_neg (by omega)]
        exact LC_slots b σ k μ (by omega) hm
    · rw [if_neg h, LCp_row (by decide), LCp_row (by decide)]
      have : μ ≠ k := fun e => h (e ▸ hm)
      exact LC_slots b σ k μ (by omega) hm
theorem LC_across (b : Bd) (σ : SC) : ∀ k, k ≤ 8 → ∀ q, q < 16 → LC b σ k 6 q = if q / 4 < k ∧ inA b q = true then nI (rank b (q / 4)) else -1
  | 0, _, q, hq => by
    show fl (fl (su σ 17 1 0) 6 (-1)) 7 (-1) 6 q = _
    rw [fl_row _ _ _ (by decide), fl_at, if_pos ⟨rfl, hq⟩, if_neg (by omega)]
  | k + 1, hk, q, hq => by
    have ih := LC_across b σ k (by omega) q hq
    have h4 := lo_ll b k
    rw [LC_succ]
    by_cases h : hs b k = true
    · rw [if_pos h]
      by_cases hk4 : k < 4
      · have e6 : rowOf k = 6 := by unfold rowOf; rw [if_pos hk4]
        rw [e6, AS_r (Or.inl rfl), LCp_row (by decide), ih]
        by_cases g : q / 4 = k ∧ lo b k ≤ q % 4 ∧ q % 4 < lo b k + ll b k
        · rw [if_pos ((any_row hk4 h4).mpr g), if_pos ⟨by omega, (inA_iff b q).mpr (by rw [g.1]; exact ⟨h, g.2⟩)⟩, g.1]
        · rw [if_neg (fun z => g ((any_row hk4 h4).mp z))]
          by_cases g2 : q / 4 < k ∧ inA b q = true
          · rw [if_pos g2, if_pos ⟨by omega, g2.2⟩]
          · rw [if_neg g2, if_neg]
            rintro ⟨g3, g4⟩
            have g5 := (inA_iff b q).mp g4
            by_cases e : q / 4 = k
            · rw [e] at g5; exact g ⟨e, g5.2⟩
            · exact g2 ⟨by omega, g4⟩
      · have e7 : rowOf k = 7 := by unfold rowOf; rw [if_neg hk4]
        rw [e7, AS_row (by decide) (by decide) (by decide) (by decide), LCp_row (by decide), ih]
        by_cases g2 : q / 4 < k ∧ inA b q = true
        · rw [if_pos g2, if_pos ⟨by omega, g2.2⟩]
        · rw [if_neg g2, if_neg (fun z => g2 ⟨by omega, z.2⟩)]
    · rw [if_neg h, LCp_row (by decide), ih]
      by_cases g2 : q / 4 < k ∧ inA b q = true
      · rw [if_pos g2, if_pos ⟨by omega, g2.2⟩]
      · rw [if_neg g2, if_neg]
        rintro ⟨g3, g4⟩
        have g5 := (inA_iff b q).mp g4
        by_cases e : q / 4 = k
        · rw [e] at g5; exact h g5.1
        · exact g2 ⟨by omega, g4⟩
theorem LC_down (b : Bd) (σ : SC) : ∀ k, k ≤ 8 → ∀ q, q < 16 → LC b σ k 7 q = if 4 + q % 4 < k ∧ inD b q = true then nI (rank b (4 + q % 4)) else -1
  | 0, _, q, hq => by
    show fl (fl (su σ 17 1 0) 6 (-1)) 7 (-1) 7 q = _
    rw [fl_at, if_pos ⟨rfl, hq⟩, if_neg (by omega)]
  | k + 1, hk, q, hq => by
    have ih := LC_down b σ k (by omega) q hq
    have h4 := lo_ll b k
    rw [LC_succ]
    by_cases h : hs b k = true
    · rw [if_pos h]
      by_cases hk4 : k < 4
      · have e6 : rowOf k = 6 := by unfold rowOf; rw [if_pos hk4]
        rw [e6, AS_row (by decide) (by decide) (by decide) (by decide), LCp_row (by decide), ih]
        rw [if_neg (by omega), if_neg (by omega)]
      · have e7 : rowOf k = 7 := by unfold rowOf; rw [if_neg hk4]
        rw [e7, AS_r (Or.inr rfl), LCp_row (by decide), ih]
        by_cases g : 4 + q % 4 = k ∧ lo b k ≤ q / 4 ∧ q / 4 < lo b k + ll b k
        · rw [if_pos ((any_col (by omega) (by omega) h4).mpr g), if_pos ⟨by omega, (inD_iff b q).mpr (by rw [g.1]; exact ⟨h, g.2⟩)⟩, g.1]
        · rw [if_neg (fun z => g ((any_col (by omega) (by omega) h4).mp z))]
          by_cases g2 : 4 + q % 4 < k ∧ inD b q = true
          · rw [if_pos g2, if_pos ⟨by omega, g2.2⟩]
          · rw [if_neg g2, if_neg]
            rintro ⟨g3, g4⟩
            have g5 := (inD_iff b q).mp g4
            by_cases e : 4 + q % 4 = k
            · rw [e] at g5; exact g ⟨e, g5.2⟩
            · exact g2 ⟨by omega, g4⟩
    · rw [if_neg h, LCp_row (by decide), ih]
      by_cases g2 : 4 + q % 4 < k ∧ inD b q = true
      · rw [if_pos g2, if_pos ⟨by omega, g2.2⟩]
      · rw [if_neg g2, if_neg]
        rintro ⟨g3, g4⟩
        have g5 := (inD_iff b q).mp g4
        by_cases e : 4 + q % 4 = k
        · rw [e] at g5; exact h g5.1
        · exact g2 ⟨by omega, g4⟩
theorem read_lines {b : Bd} {σ : SC} (hb : CB b σ) (hv : VB b) : f_X6_read σ = f_X6_readCrossings (LC b σ 8) := by
  have h0 : ∀ k j, j < 16 → LC b σ k 0 j = cV (b.1 j) := fun k j hj => by rw [(LC_frame b σ k).1 0 (by decide) (by decide) (by decide) (by decide) (by decide)]; exact hb.1 j hj
  have line : ∀ k, k < 8 → f_X6_readLine (LCp b (LC b σ k) k) (nI (lst k)) (nI (lsp k)) (rowOf k) = some (LC b σ (k + 1)) := by
    intro k hk
    rw [readLine_ok (c := rank b k) hk (rowOf_67 k) (fun j hj => by rw [LCp_row (by decide)]; exact h0 k j hj) hv.1 (by have := rank_le b k; omega) (by rw [LCp_f (by decide)]; exact (LC_cnt b σ k).1), LC_succ]
  have cols : ∀ (m n k : Nat), k + m = 4 → m < n → f_X6_read_L57 n (LCp b (LC b σ (4 + k)) (4 + k)) (nI k) = f_X6_readCrossings (LC b σ 8) := by
    intro m
    induction m with
    | zero =>
      intro n k h1 h2
      obtain ⟨n, rfl⟩ := succ_of h2
      rw [f_X6_read_L57_s, if_le (by omega) (by omega)]
      rw [show 4 + k = 8 by omega, show LCp b (LC b σ 8) 8 = LC b σ 8 from if_neg (by decide)]
      cases f_X6_readCrossings (LC b σ 8) <;> rfl
    | succ m ih =>
      intro n k h1 h2
      obtain ⟨n, rfl⟩ := succ_of h2
      have hl := line (4 + k) (by omega)
      rw [show lst (4 + k) = k by unfold lst; rw [if_neg (by omega)]; omega, show lsp (4 + k) = 4 by unfold lsp; rw [if_neg (by omega)], show rowOf (4 + k) = 7 by unfold rowOf; rw [if_neg (by omega)]] at hl
      rw [f_X6_read_L57_s, if_nle (by omega) (by omega), hl, Option.bind_some, nI_1]
      have := ih n (k + 1) (by omega) (by omega)
      rwa [show LCp b (LC b σ (4 + (k + 1))) (4 + (k + 1)) = LC b σ (4 + k + 1) from if_neg (by omega)] at this
  have rows : ∀ (m n k : Nat), k + m = 4 → m < n → f_X6_read_L23 (fun σ_47 => f_X6_read_L57 FU (su σ_47 17 2 (σ_47 17 1)) 0) n (LC b σ k) (nI k) = f_X6_readCrossings (LC b σ 8) := by
    intro m
    induction m with
    | zero =>
      intro n k h1 h2
      obtain ⟨n, rfl⟩ := succ_of h2
      rw [f_X6_read_L23_s, if_le (by omega) (by omega)]
      have := cols 4 FU 0 (by omega) (by have := FU_big; omega)
      rw [nI_0, show LCp b (LC b σ (4 + 0)) (4 + 0) = su (LC b σ 4) 17 2 (nI (rank b 4)) from if_pos rfl] at this
      rw [show k = 4 by omega, (LC_cnt b σ 4).1]
      exact this
    | succ m ih =>
      intro n k h1 h2
      obtain ⟨n, rfl⟩ := succ_of h2
      have hl := line k (by omega)
      rw [show lst k = k * 4 by unfold lst; rw [if_pos (by omega)]; omega, show lsp k = 1 by unfold lsp; rw [if_pos (by omega)], show rowOf k = 6 by unfold rowOf; rw [if_pos (by omega)], show LCp b (LC b σ k) k = LC b σ k from if_neg (by omega)] at hl
      rw [f_X6_read_L23_s, if_nle (by omega) (by omega), pk_mul, show (1 : Int32) = nI 1 from rfl, hl, Option.bind_some, nI_add]
      exact ih n (k + 1) (by omega) (by omega)
  unfold f_X6_read
  have := rows 4 FU 0 (by omega) (by have := FU_big; omega)
  rw [nI_0] at this
  exact this
