/-! the lines of the grid: four rows, four columns; each has room for one slot -/
def lst (k : Nat) : Nat := if k < 4 then 4 * k else k - 4
def lsp (k : Nat) : Nat := if k < 4 then 1 else 4
def lcell (k x : Nat) : Nat := lst k + x * lsp k
def opn (b : Bd) (i : Nat) : Bool := decide (b.1 i ≠ 7)
def ls4 (p q r s : Bool) : Nat × Nat := match p, q, r, s with
  | true, true, true, true => (0, 4)
  | true, true, true, false => (0, 3)
  | false, true, true, true => (1, 3)
  | true, true, false, _ => (0, 2)
  | false, true, true, false => (1, 2)
  | _, false, true, true => (2, 2)
  | _, _, _, _ => (0, 0)
def LSB (b : Bd) (k : Nat) : Nat × Nat := ls4 (opn b (lcell k 0)) (opn b (lcell k 1)) (opn b (lcell k 2)) (opn b (lcell k 3))
def lo (b : Bd) (k : Nat) : Nat := (LSB b k).1
def ll (b : Bd) (k : Nat) : Nat := (LSB b k).2
def hs (b : Bd) (k : Nat) : Bool := decide (2 ≤ ll b k)
def rank (b : Bd) (k : Nat) : Nat := ct (hs b) k
theorem ls4_ok : ∀ p q r s, (ls4 p q r s).1 + (ls4 p q r s).2 ≤ 4 ∧ ((ls4 p q r s).2 = 0 ∨ 2 ≤ (ls4 p q r s).2) := by decide
theorem ls4_in : ∀ p q r s : Bool, ∀ x, x < 4 → (ls4 p q r s).1 ≤ x → x < (ls4 p q r s).1 + (ls4 p q r s).2 → [p, q, r, s][x]? = some true := by decide
theorem lo_ll (b : Bd) (k : Nat) : lo b k + ll b k ≤ 4 := (ls4_ok _ _ _ _).1
theorem ll_02 (b : Bd) (k : Nat) : ll b k = 0 ∨ 2 ≤ ll b k := (ls4_ok _ _ _ _).2
theorem lcell_lt {k x : Nat} (hk : k < 8) (hx : x < 4) : lcell k x < 16 := by
  unfold lcell lst lsp
  by_cases h : k < 4
  · rw [if_pos h, if_pos h]; omega
  · rw [if_neg h, if_neg h]; omega
theorem slot_open (b : Bd) {k x : Nat} (h1 : lo b k ≤ x) (h2 : x < lo b k + ll b k) : b.1 (lcell k x) ≠ 7 := by
  have h4 := lo_ll b k
  have h := ls4_in _ _ _ _ x (by omega) h1 h2
  have : opn b (lcell k x) = true := by
    rcases (show x = 0 ∨ x = 1 ∨ x = 2 ∨ x = 3 by omega) with rfl | rfl | rfl | rfl <;> simpa using h
  simpa [opn] using this
theorem rank_le (b : Bd) (k : Nat) : rank b k ≤ k := ct_le _ _
theorem rank_succ (b : Bd) (k : Nat) : rank b (k + 1) = rank b k + (if hs b k = true then 1 else 0) := rfl
theorem rank_mono (b : Bd) {m n : Nat} (h : m ≤ n) : rank b m ≤ rank b n := ct_mono' _ h
theorem rank_lt (b : Bd) {m n : Nat} (hm : hs b m = true) (h : m < n) : rank b m < rank b n := by
  have h1 := rank_mono b (show m + 1 ≤ n by omega)
  rw [rank_succ, if_pos hm] at h1
  omega
theorem rank_inj (b : Bd) {m n : Nat} (hm : hs b m = true) (hn : hs b n = true) (h : rank b m = rank b n) : m = n := by
  rcases Nat.lt_trichotomy m n with g | g | g
  · have := rank_lt b hm g; omega
  · exact g
  · have := rank_lt b hn g; omega
/-! the class lays a slot -/
def AS (σ : SC) (c f len step row : Nat) : SC := su (sr (su (su σ 2 c (nI f)) 3 c (nI len)) row (fun q => if (List.range len).any (fun i => decide (q = f + i * step)) = true then nI c else σ row q)) 17 1 (nI (c + 1))
theorem addSlot_loop {row f len step c : Nat} (hrow : row = 6 ∨ row = 7) (hlen : len ≤ 4) (hf : ∀ i, i < len → f + i * step < 16) (hs4 : step ≤ 4) (hc : c < 8) : ∀ (k n i : Nat) (σ : SC), i + k = len → k < n → σ 17 1 = nI c → f_X6_addSlot_L42 row (nI f) (nI len) (nI step) n σ (nI i) = some (su (sr σ row (fun q => if (List.range len).any (fun j => decide (i ≤ j) && decide (q = f + j * step)) = true then nI c else σ row q)) 17 1 (nI (c + 1))) := by
  intro k
  induction k with
  | zero =>
    intro n i σ h1 h2 hcnt
    obtain ⟨n, rfl⟩ := succ_of h2
    rw [f_X6_addSlot_L42_s, if_le (by omega) (by omega), hcnt, nI_1]
    have : (fun q => if (List.range len).any (fun j => decide (i ≤ j) && decide (q = f + j * step)) = true then nI c else σ row q) = σ row := by
      funext q
      rw [if_neg]
      simp only [List.any_eq_true, List.mem_range, Bool.and_eq_true, decide_eq_true_eq]
      rintro ⟨j, h, g, -⟩
      omega
    rw [this, sr_self]
  | succ k ih =>
    intro n i σ h1 h2 hcnt
    obtain ⟨n, rfl⟩ := succ_of h2
    have hl16 : lnC row = 16 := by rcases hrow with rfl | rfl <;> rfl
    have hfi := hf i (by omega)
    have h17 : row ≠ 17 := by rcases hrow with rfl | rfl <;> decide
    rw [f_X6_addSlot_L42_s, if_nle (by omega) (by omega), pk_mul, nI_add, wr_in _ _ (by rw [hl16]; exact hfi), nI_1, hcnt, ih n (i + 1) _ (by omega) (by omega) (by rw [su_at, if_neg (by omega)]; exact hcnt)]
    congr 1
    congr 1
    unfold su
    rw [sr_sr]
    congr 1
    funext q
    simp only [sr_same]
    by_cases h : q = f + i * step
    · rw [if_pos (show (List.range len).any (fun j => decide (i ≤ j) && decide (q = f + j * step)) = true by
        simp only [List.any_eq_true, List.mem_range, Bool.and_eq_true, decide_eq_true_eq]
        exact ⟨i, by omega, Nat.le_refl i, h⟩)]
      split
      · rfl
      · simp [upd, h]
    · have e : (List.range len).any (fun j => decide (i + 1 ≤ j) && decide (q = f + j * step)) = (List.range len).any (fun j => decide (i ≤ j) && decide (q = f + j * step)) := by
        apply Bool.eq_iff_iff.mpr
        simp only [List.any_eq_true, List.mem_range, Bool.and_eq_true, decide_eq_true_eq]
        constructor
        · rintro ⟨j, a1, a2, a3⟩; exact ⟨j, a1, by omega, a3⟩
        · rintro ⟨j, a1, a2, a3⟩
          refine ⟨j, a1, ?_, a3⟩
          rcases Nat.lt_or_ge i j with g | g
          · exact g
          · have : j = i := by omega
            subst this; exact absurd a3 h
      rw [e]
      split
      · rfl
      · simp [upd, h]
theorem addSlot_ok {row f len step c : Nat} {σ : SC} (hrow : row = 6 ∨ row = 7) (h2 : 2 ≤ len) (hlen : len ≤ 4) (hf : ∀ i, i < len → f + i * step < 16) (hs4 : step ≤ 4) (hc : c < 8) (hcnt : σ 17 1 = nI c) : f_X6_addSlot σ (nI f) (nI len) (nI step) row = some (AS σ c f len step row) := by
  unfold f_X6_addSlot
  rw [if_nlt (by omega) (by omega), hcnt, if_lt (by omega) (by omega), wr_in σ _ (show c < lnC 2 from hc)]
  have e1 : su σ 2 c (nI f) 17 1 = nI c := by rw [su_at, if_neg (by omega)]; exact hcnt
  rw [e1, wr_in _ _ (show c < lnC 3 from hc)]
  have h := addSlot_loop (row := row) hrow hlen hf hs4 hc len FU 0 (su (su σ 2 c (nI f)) 3 c (nI len)) (by omega) (by have := FU_big; omega) (by rw [su_at, if_neg (by omega)]; exact e1)
  rw [nI_0] at h
  rw [h]
  unfold AS
  congr 3
  funext q
  have hr2 : row ≠ 2 := by rcases hrow with rfl | rfl <;> decide
  have hr3 : row ≠ 3 := by rcases hrow with rfl | rfl <;> decide
  rw [show su (su σ 2 c (nI f)) 3 c (nI len) row q = σ row q by rw [su_row _ _ _ _ hr3, su_row _ _ _ _ hr2]]
  simp
theorem addSlot_small {row : Nat} {σ : SC} {f len step : Nat} (h : len < 2) : f_X6_addSlot σ (nI f) (nI len) (nI step) row = some σ := by
  unfold f_X6_addSlot
  rw [if_lt (by omega) (by omega)]
theorem AS_row {σ : SC} {c f len step row r : Nat} (h1 : r ≠ 2) (h2 : r ≠ 3) (h3 : r ≠ row) (h4 : r ≠ 17) : AS σ c f len step row r = σ r := by
  unfold AS
  rw [su_row _ _ _ _ h4, sr_other h3, su_row _ _ _ _ h2, su_row _ _ _ _ h1]
section RL
variable {b : Bd} {row st step : Nat}
theorem rl_open {σ : SC} {n len i : Nat} (h0 : ∀ j, j < 16 → σ 0 j = cV (b.1 j)) (hv : ∀ j, j < 16 → b.1 j ≤ 7) (hi : i < 4) (hc : st + i * step < 16) (ho : b.1 (st + i * step) ≠ 7) : f_X6_readLine_L6 row (nI st) (nI step) (n + 1) σ (nI len) (nI i) = f_X6_readLine_L6 row (nI st) (nI step) n σ (nI (len + 1)) (nI (i + 1)) := by
  rw [f_X6_readLine_L6_s, if_nlt (by omega) (by omega), if_nle (by omega) (by omega), pk_mul, nI_add, rd_in σ (show st + i * step < lnC 0 from hc), h0 _ hc, if_neg (by rw [cV_m1 (hv _ hc)]; exact ho), nI_1, nI_1]
theorem rl_blk {σ : SC} {n len i : Nat} (h0 : ∀ j, j < 16 → σ 0 j = cV (b.1 j)) (hv : ∀ j, j < 16 → b.1 j ≤ 7) (hi : i < 4) (hl : len ≤ i) (hc : st + i * step < 16) (ho : b.1 (st + i * step) = 7) : f_X6_readLine_L6 row (nI st) (nI step) (n + 1) σ (nI len) (nI i) = (f_X6_addSlot σ (nI (st + (i - len) * step)) (nI len) (nI step) row).bind (fun σ' => f_X6_readLine_L6 row (nI st) (nI step) n σ' (nI 0) (nI (i + 1))) := by
  rw [f_X6_readLine_L6_s, if_nlt (by omega) (by omega), if_nle (by omega) (by omega), pk_mul, nI_add, rd_in σ (show st + i * step < lnC 0 from hc), h0 _ hc, if_pos (by rw [cV_m1 (hv _ hc)]; exact ho)]
  unfold f_X6_readLine_K41
  rw [pk_sub hl, pk_mul, nI_add, nI_1, nI_0]
theorem rl_end {σ : SC} {n len : Nat} (hl : len ≤ 4) : f_X6_readLine_L6 row (nI st) (nI step) (n + 2) σ (nI len) (nI 4) = f_X6_addSlot σ (nI (st + (4 - len) * step)) (nI len) (nI step) row := by
  rw [f_X6_readLine_L6_s, if_nlt (by omega) (by omega), if_le (by omega) (by omega)]
  unfold f_X6_readLine_K41
  rw [pk_sub hl, pk_mul, nI_add, nI_1]
  have : ∀ σ' : SC, f_X6_readLine_L6 row (nI st) (nI step) (n + 1) σ' 0 (nI (4 + 1)) = some σ' := by
    intro σ'
    rw [f_X6_readLine_L6_s, if_lt (by omega) (by omega)]
  simp only [this, Option.bind_some]
  cases f_X6_addSlot σ (nI (st + (4 - len) * step)) (nI len) (nI step) row <;> rfl
end RL
set_option maxHeartbeats 2000000 in
theorem readLine_ok {b : Bd} {σ : SC} {k c row : Nat} (hk : k < 8) (hrow : row = 6 ∨ row = 7) (h0 : ∀ j, j < 16 → σ 0 j = cV (b.1 j)) (hv : ∀ j, j < 16 → b.1 j ≤ 7) (hc : c < 8) (hcnt : σ 17 1 = nI c) : f_X6_readLine σ (nI (lst k)) (nI (lsp k)) row = some (if hs b k = true then AS σ c (lcell k (lo b k)) (ll b k) (lsp k) row else σ) := by
  have hcl : ∀ x, x < 4 → lst k + x * lsp k < 16 := fun x hx => lcell_lt hk hx
  have hsp : lsp k ≤ 4 := by unfold lsp; split <;> decide
  unfold f_X6_readLine
  obtain ⟨n, hn⟩ := FU_ex 6 (by decide)
  rw [hn, ← nI_0]
  have hAS : ∀ f len, AS σ c f len (lsp k) row 0 = σ 0 := fun f len => AS_row (by decide) (by decide) (by rcases hrow with rfl | rfl <;> decide) (by decide)
  have hA0 : ∀ f len j, j < 16 → AS σ c f len (lsp k) row 0 j = cV (b.1 j) := fun f len j hj => by rw [hAS]; exact h0 j hj
  have add : ∀ o len, 2 ≤ len → o + len ≤ 4 → f_X6_addSlot σ (nI (lst k + o * lsp k)) (nI len) (nI (lsp k)) row = some (AS σ c (lst k + o * lsp k) len (lsp k) row) := by
    intro o len h2 h4
    refine addSlot_ok hrow h2 (by omega) (fun i hi => ?_) hsp hc hcnt
    have := hcl (o + i) (by omega)
    rw [Nat.add_mul] at this
    omega
  have hLS : LSB b k = ls4 (opn b (lcell k 0)) (opn b (lcell k 1)) (opn b (lcell k 2)) (opn b (lcell k 3)) := rfl
  have hhs : hs b k = decide (2 ≤ (LSB b k).2) := rfl
  have hlo : lo b k = (LSB b k).1 := rfl
  have hll : ll b k = (LSB b k).2 := rfl
  have c0 := hcl 0 (by decide)
  have c1 := hcl 1 (by decide)
  have c2 := hcl 2 (by decide)
  have c3 := hcl 3 (by decide)
  rw [hhs, hlo, hll, hLS]
  by_cases q0 : b.1 (lst k + 0 * lsp k) = 7
  · by_cases q1 : b.1 (lst k + 1 * lsp k) = 7
    · by_cases q2 : b.1 (lst k + 2 * lsp k) = 7
      · by_cases q3 : b.1 (lst k + 3 * lsp k) = 7
        · have e0 : opn b (lcell k 0) = false := by unfold opn; exact decide_eq_false (fun h => h q0)
          have e1 : opn b (lcell k 1) = false := by unfold opn; exact decide_eq_false (fun h => h q1)
          have e2 : opn b (lcell k 2) = false := by unfold opn; exact decide_eq_false (fun h => h q2)
          have e3 : opn b (lcell k 3) = false := by unfold opn; exact decide_eq_false (fun h => h q3)
          rw [e0, e1, e2, e3]
          show _ = some (if decide (2 ≤ 0) = true then AS σ c (lst k + 0 * lsp k) 0 (lsp k) row else σ)
          rw [rl_blk h0 hv (by omega) (by omega) c0 q0, addSlot_small (by omega), Option.bind_some, rl_blk h0 hv (by omega) (by omega) c1 q1, addSlot_small (by omega), Option.bind_some, rl_blk h0 hv (by omega) (by omega) c2 q2, addSlot_small (by omega), Option.bind_some, rl_blk h0 hv (by omega) (by omega) c3 q3, addSlot_small (by omega), Option.bind_some, rl_end (by omega), addSlot_small (by omega)]
          rfl
        · have e0 : opn b (lcell k 0) = false := by unfold opn; exact decide_eq_false (fun h => h q0)
          have e1 : opn b (lcell k 1) = false := by unfold opn; exact decide_eq_false (fun h => h q1)
          have e2 : opn b (lcell k 2) = false := by unfold opn; exact decide_eq_false (fun h => h q2)
          have e3 : opn b (lcell k 3) = true := decide_eq_true q3
          rw [e0, e1, e2, e3]
          show _ = some (if decide (2 ≤ 0) = true then AS σ c (lst k + 0 * lsp k) 0 (lsp k) row else σ)
          rw [rl_blk h0 hv (by omega) (by omega) c0 q0, addSlot_small (by omega), Option.bind_some, rl_blk h0 hv (by omega) (by omega) c1 q1, addSlot_small (by omega), Option.bind_some, rl_blk h0 hv (by omega) (by omega) c2 q2, addSlot_small (by omega), Option.bind_some, rl_open h0 hv (by omega) c3 q3, rl_end (by omega), addSlot_small (by omega)]
          rfl
      · by_cases q3 : b.1 (lst k + 3 * lsp k) = 7
        · have e0 : opn b (lcell k 0) = false := by unfold opn; exact decide_eq_false (fun h => h q0)
          have e1 : opn b (lcell k 1) = false := by unfold opn; exact decide_eq_false (fun h => h q1)
          have e2 : opn b (lcell k 2) = true := decide_eq_true q2
          have e3 : opn b (lcell k 3) = false := by unfold opn; exact decide_eq_false (fun h => h q3)
          rw [e0, e1, e2, e3]
          show _ = some (if decide (2 ≤ 0) = true then AS σ c (lst k + 0 * lsp k) 0 (lsp k) row else σ)
          rw [rl_blk h0 hv (by omega) (by omega) c0 q0, addSlot_small (by omega), Option.bind_some, rl_blk h0 hv (by omega) (by omega) c1 q1, addSlot_small (by omega), Option.bind_some, rl_open h0 hv (by omega) c2 q2, rl_blk h0 hv (by omega) (by omega) c3 q3, addSlot_small (by omega), Option.bind_some, rl_end (by omega), addSlot_small (by omega)]
          rfl
        · have e0 : opn b (lcell k 0) = false := by unfold opn; exact decide_eq_false (fun h => h q0)
          have e1 : opn b (lcell k 1) = false := by unfold opn; exact decide_eq_false (fun h => h q1)
          have e2 : opn b (lcell k 2) = true := decide_eq_true q2
          have e3 : opn b (lcell k 3) = true := decide_eq_true q3
          rw [e0, e1, e2, e3]
          show _ = some (if decide (2 ≤ 2) = true then AS σ c (lst k + 2 * lsp k) 2 (lsp k) row else σ)
          rw [rl_blk h0 hv (by omega) (by omega) c0 q0, addSlot_small (by omega), Option.bind_some, rl_blk h0 hv (by omega) (by omega) c1 q1, addSlot_small (by omega), Option.bind_some, rl_open h0 hv (by omega) c2 q2, rl_open h0 hv (by omega) c3 q3, rl_end (by omega), add 2 2 (by decide) (by decide)]
          rfl
    · by_cases q2 : b.1 (lst k + 2 * lsp k) = 7
      · by_cases q3 : b.1 (lst k + 3 * lsp k) = 7
        · have e0 : opn b (lcell k 0) = false := by unfold opn; exact decide_eq_false (fun h => h q0)
          have e1 : opn b (lcell k 1) = true := decide_eq_true q1
          have e2 : opn b (lcell k 2) = false := by unfold opn; exact decide_eq_false (fun h => h q2)
          have e3 : opn b (lcell k 3) = false := by unfold opn; exact decide_eq_false (fun h => h q3)
          rw [e0, e1, e2, e3]
          show _ = some (if decide (2 ≤ 0) = true then AS σ c (lst k + 0 * lsp k) 0 (lsp k) row else σ)
          rw [rl_blk h0 hv (by omega) (by omega) c0 q0, addSlot_small (by omega), Option.bind_some, rl_open h0 hv (by omega) c1 q1, rl_blk h0 hv (by omega) (by omega) c2 q2, addSlot_small (by omega), Option.bind_some, rl_blk h0 hv (by omega) (by omega) c3 q3, addSlot_small (by omega), Option.bind_some, rl_end (by omega), addSlot_small (by omega)]
          rfl
        · have e0 : opn b (lcell k 0) = false := by unfold opn; exact decide_eq_false (fun h => h q0)
          have e1 : opn b (lcell k 1) = true := decide_eq_true q1
          have e2 : opn b (lcell k 2) = false := by unfold opn; exact decide_eq_false (fun h => h q2)
          have e3 : opn b (lcell k 3) = true := decide_eq_true q3
          rw [e0, e1, e2, e3]
          show _ = some (if decide (2 ≤ 0) = true then AS σ c (lst k + 0 * lsp k) 0 (lsp k) row else σ)
          rw [rl_blk h0 hv (by omega) (by omega) c0 q0, addSlot_small (by omega), Option.bind_some, rl_open h0 hv (by omega) c1 q1, rl_blk h0 hv (by omega) (by omega) c2 q2, addSlot_small (by omega), Option.bind_some, rl_open h0 hv (by omega) c3 q3, rl_end (by omega), addSlot_small (by omega)]
          rfl
      · by_cases q3 : b.1 (lst k + 3 * lsp k) = 7
        · have e0 : opn b (lcell k 0) = false := by unfold opn; exact decide_eq_false (fun h => h q0)
          have e1 : opn b (lcell k 1) = true := decide_eq_true q1
          have e2 : opn b (lcell k 2) = true := decide_eq_true q2
          have e3 : opn b (lcell k 3) = false := by unfold opn; exact decide_eq_false (fun h => h q3)
          rw [e0, e1, e2, e3]
          show _ = some (if decide (2 ≤ 2) = true then AS σ c (lst k + 1 * lsp k) 2 (lsp k) row else σ)
          rw [rl_blk h0 hv (by omega) (by omega) c0 q0, addSlot_small (by omega), Option.bind_some, rl_open h0 hv (by omega) c1 q1, rl_open h0 hv (by omega) c2 q2, rl_blk h0 hv (by omega) (by omega) c3 q3, add 1 2 (by decide) (by decide), Option.bind_some, rl_end (by omega), addSlot_small (by omega)]
          rfl
        · have e0 : opn b (lcell k 0) = false := by unfold opn; exact decide_eq_false (fun h => h q0)
          have e1 : opn b (lcell k 1) = true := decide_eq_true q1
          have e2 : opn b (lcell k 2) = true := decide_eq_true q2
          have e3 : opn b (lcell k 3) = true := decide_eq_true q3
          rw [e0, e1, e2, e3]
          show _ = some (if decide (2 ≤ 3) = true then AS σ c (lst k + 1 * lsp k) 3 (lsp k) row else σ)
          rw [rl_blk h0 hv (by omega) (by omega) c0 q0, addSlot_small (by omega), Option.bind_some, rl_open h0 hv (by omega) c1 q1, rl_open h0 hv (by omega) c2 q2, rl_open h0 hv (by omega) c3 q3, rl_end (by omega), add 1 3 (by decide) (by decide)]
          rfl
  · by_cases q1 : b.1 (lst k + 1 * lsp k) = 7
    · by_cases q2 : b.1 (lst k + 2 * lsp k) = 7
      · by_cases q3 : b.1 (lst k + 3 * lsp k) = 7
        · have e0 : opn b (lcell k 0) = true := decide_eq_true q0
          have e1 : opn b (lcell k 1) = false := by unfold opn; exact decide_eq_false (fun h => h q1)
          have e2 : opn b (lcell k 2) = false := by unfold opn; exact decide_eq_false (fun h => h q2)
          have e3 : opn b (lcell k 3) = false := by unfold opn; exact decide_eq_false (fun h => h q3)
          rw [e0, e1, e2, e3]
          show _ = some (if decide (2 ≤ 0) = true then AS σ c (lst k + 0 * lsp k) 0 (lsp k) row else σ)
          rw [rl_open h0 hv (by omega) c0 q0, rl_blk h0 hv (by omega) (by omega) c1 q1, addSlot_small (by omega), Option.bind_some, rl_blk h0 hv (by omega) (by omega) c2 q2, addSlot_small (by omega), Option.bind_some, rl_blk h0 hv (by omega) (by omega) c3 q3, addSlot_small (by omega), Option.bind_some, rl_end (by omega), addSlot_small (by omega)]
          rfl
        · have e0 : opn b (lcell k 0) = true := decide_eq_true q0
          have e1 : opn b (lcell k 1) = false := by unfold opn; exact decide_eq_false (fun h => h q1)
          have e2 : opn b (lcell k 2) = false := by unfold opn; exact decide_eq_false (fun h => h q2)
          have e3 : opn b (lcell k 3) = true := decide_eq_true q3
          rw [e0, e1, e2, e3]
          show _ = some (if decide (2 ≤ 0) = true then AS σ c (lst k + 0 * lsp k) 0 (lsp k) row else σ)
          rw [rl_open h0 hv (by omega) c0 q0, rl_blk h0 hv (by omega) (by omega) c1 q1, addSlot_small (by omega), Option.bind_some, rl_blk h0 hv (by omega) (by omega) c2 q2, addSlot_small (by omega), Option.bind_some, rl_open h0 hv (by omega) c3 q3, rl_end (by omega), addSlot_small (by omega)]
          rfl
      · by_cases q3 : b.1 (lst k + 3 * lsp k) = 7
        · have e0 : opn b (lcell k 0) = true := decide_eq_true q0
          have e1 : opn b (lcell k 1) = false := by unfold opn; exact decide_eq_false (fun h => h q1)
          have e2 : opn b (lcell k 2) = true := decide_eq_true q2
          have e3 : opn b (lcell k 3) = false := by unfold opn; exact decide_eq_false (fun h => h q3)
          rw [e0, e1, e2, e3]
          show _ = some (if decide (2 ≤ 0) = true then AS σ c (lst k + 0 * lsp k) 0 (lsp k) row else σ)
          rw [rl_open h0 hv (by omega) c0 q0, rl_blk h0 hv (by omega) (by omega) c1 q1, addSlot_small (by omega), Option.bind_some, rl_open h0 hv (by omega) c2 q2, rl_blk h0 hv (by omega) (by omega) c3 q3, addSlot_small (by omega), Option.bind_some, rl_end (by omega), addSlot_small (by omega)]
          rfl
        · have e0 : opn b (lcell k 0) = true := decide_eq_true q0
          have e1 : opn b (lcell k 1) = false := by unfold opn; exact decide_eq_false (fun h => h q1)
          have e2 : opn b (lcell k 2) = true := decide_eq_true q2
          have e3 : opn b (lcell k 3) = true := decide_eq_true q3
          rw [e0, e1, e2, e3]
          show _ = some (if decide (2 ≤ 2) = true then AS σ c (lst k + 2 * lsp k) 2 (lsp k) row else σ)
          rw [rl_open h0 hv (by omega) c0 q0, rl_blk h0 hv (by omega) (by omega) c1 q1, addSlot_small (by omega), Option.bind_some, rl_open h0 hv (by omega) c2 q2, rl_open h0 hv (by omega) c3 q3, rl_end (by omega), add 2 2 (by decide) (by decide)]
          rfl
    · by_cases q2 : b.1 (lst k + 2 * lsp k) = 7
      · by_cases q3 : b.1 (lst k + 3 * lsp k) = 7
        · have e0 : opn b (lcell k 0) = true := decide_eq_true q0
          have e1 : opn b (lcell k 1) = true := decide_eq_true q1
          have e2 : opn b (lcell k 2) = false := by unfold opn; exact decide_eq_false (fun h => h q2)
          have e3 : opn b (lcell k 3) = false := by unfold opn; exact decide_eq_false (fun h => h q3)
          rw [e0, e1, e2, e3]
          show _ = some (if decide (2 ≤ 2) = true then AS σ c (lst k + 0 * lsp k) 2 (lsp k) row else σ)
          rw [rl_open h0 hv (by omega) c0 q0, rl_open h0 hv (by omega) c1 q1, rl_blk h0 hv (by omega) (by omega) c2 q2, add 0 2 (by decide) (by decide), Option.bind_some, rl_blk (hA0 (lst k + 0 * lsp k) 2) hv (by omega) (by omega) c3 q3, addSlot_small (by omega), Option.bind_some, rl_end (by omega), addSlot_small (by omega)]
          rfl
        · have e0 : opn b (lcell k 0) = true := decide_eq_true q0
          have e1 : opn b (lcell k 1) = true := decide_eq_true q1
          have e2 : opn b (lcell k 2) = false := by unfold opn; exact decide_eq_false (fun h => h q2)
          have e3 : opn b (lcell k 3) = true := decide_eq_true q3
          rw [e0, e1, e2, e3]
          show _ = some (if decide (2 ≤ 2) = true then AS σ c (lst k + 0 * lsp k) 2 (lsp k) row else σ)
          rw [rl_open h0 hv (by omega) c0 q0, rl_open h0 hv (by omega) c1 q1, rl_blk h0 hv (by omega) (by omega) c2 q2, add 0 2 (by decide) (by decide), Option.bind_some, rl_open (hA0 (lst k + 0 * lsp k) 2) hv (by omega) c3 q3, rl_end (by omega), addSlot_small (by omega)]
          rfl
      · by_cases q3 : b.1 (lst k + 3 * lsp k) = 7
        · have e0 : opn b (lcell k 0) = true := decide_eq_true q0
          have e1 : opn b (lcell k 1) = true := decide_eq_true q1
          have e2 : opn b (lcell k 2) = true := decide_eq_true q2
          have e3 : opn b (lcell k 3) = false := by unfold opn; exact decide_eq_false (fun h => h q3)
          rw [e0, e1, e2, e3]
          show _ = some (if decide (2 ≤ 3) = true then AS σ c (lst k + 0 * lsp k) 3 (lsp k) row else σ)
          rw [rl_open h0 hv (by omega) c0 q0, rl_open h0 hv (by omega) c1 q1, rl_open h0 hv (by omega) c2 q2, rl_blk h0 hv (by omega) (by omega) c3 q3, add 0 3 (by decide) (by decide), Option.bind_some, rl_end (by omega), addSlot_small (by omega)]
          rfl
        · have e0 : opn b (lcell k 0) = true := decide_eq_true q0
          have e1 : opn b (lcell k 1) = true := decide_eq_true q1
          have e2 : opn b (lcell k 2) = true := decide_eq_true q2
          have e3 : opn b (lcell k 3) = true := decide_eq_true q3
          rw [e0, e1, e2, e3]
          show _ = some (if decide (2 ≤ 4) = true then AS σ c (lst k + 0 * lsp k) 4 (lsp k) row else σ)
          rw [rl_open h0 hv (by omega) c0 q0, rl_open h0 hv (by omega) c1 q1, rl_open h0 hv (by omega) c2 q2, rl_open h0 hv (by omega) c3 q3, rl_end (by omega), add 0 4 (by decide) (by decide)]
          rfl
