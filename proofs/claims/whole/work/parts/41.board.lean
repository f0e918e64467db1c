/-! boards and codes -/
theorem su_at (σ : SC) (r i : Nat) (v : Int32) (r' j : Nat) : su σ r i v r' j = if r' = r ∧ j = i then v else σ r' j := by
  unfold su sr upd
  by_cases h : r' = r
  · subst h
    by_cases g : j = i <;> simp [g]
  · simp [h]
theorem rsu_at (τ : SR) (r i : Nat) (v : Int32) (r' j : Nat) : (rsu τ r i v).1 r' j = if r' = r ∧ j = i then v else τ.1 r' j := su_at τ.1 r i v r' j
theorem su_row (σ : SC) (r i : Nat) (v : Int32) {r' : Nat} (h : r' ≠ r) : su σ r i v r' = σ r' := by
  funext j
  rw [su_at, if_neg (fun g => h g.1)]
theorem rsu_row (τ : SR) (r i : Nat) (v : Int32) {r' : Nat} (h : r' ≠ r) : (rsu τ r i v).1 r' = τ.1 r' := su_row τ.1 r i v h
theorem rd_in (σ : SC) {r i : Nat} (h : i < lnC r) : rd σ r (nI i) = σ r i := by
  have hl := lnC_lt r
  unfold rd
  rw [if_neg (nI_pos (by omega)), if_neg (nI_ge h hl), show ix (nI i) = i from nI_clamp (by omega)]
theorem wr_in (σ : SC) {r i : Nat} (v : Int32) (h : i < lnC r) : wr σ r (nI i) v = su σ r i v := by
  have hl := lnC_lt r
  unfold wr
  rw [if_neg (nI_pos (by omega)), if_neg (nI_ge h hl), show ix (nI i) = i from nI_clamp (by omega)]
theorem fl_at (σ : SC) (r : Nat) (v : Int32) (r' j : Nat) : fl σ r v r' j = if r' = r ∧ j < lnC r then v else σ r' j := by
  unfold fl sr
  by_cases h : r' = r
  · subst h
    by_cases g : j < lnC r' <;> simp [g]
  · simp [h]
theorem fl_row (σ : SC) (r : Nat) (v : Int32) {r' : Nat} (h : r' ≠ r) : fl σ r v r' = σ r' := by
  funext j
  rw [fl_at, if_neg (fun g => h g.1)]
/-- the digits of a code -/
def lenN (v : Nat) : Nat := if v < 49 then 2 else if v < 343 then 3 else 4
def letN (v p : Nat) : Nat := v / 7 ^ (lenN v - 1 - p) % 7
def okN (v : Nat) : Bool := decide (8 ≤ v) && decide (v ≤ 2400) && (List.range (lenN v)).all (fun p => decide (letN v p ≠ 0))
theorem lenN_le (v : Nat) : 2 ≤ lenN v ∧ lenN v ≤ 4 := by
  unfold lenN
  split
  · omega
  · split <;> omega
theorem letN_lt (v p : Nat) : letN v p < 7 := Nat.mod_lt _ (by decide)
theorem okN_le {v : Nat} (h : okN v = true) : 8 ≤ v ∧ v ≤ 2400 := by
  unfold okN at h
  simp only [Bool.and_eq_true, decide_eq_true_eq] at h
  exact h.1
theorem okN_let {v : Nat} (h : okN v = true) {p : Nat} (hp : p < lenN v) : 1 ≤ letN v p := by
  unfold okN at h
  simp only [Bool.and_eq_true, List.all_eq_true, decide_eq_true_eq] at h
  have := h.2 p (List.mem_range.mpr hp)
  omega
set_option maxRecDepth 100000 in
theorem cd_len : ∀ a, a < 49 → ∀ c, c < 49 → f_X7_lengthOf (nI (49 * a + c)) = some (if okN (49 * a + c) = true then nI (lenN (49 * a + c)) else 0) := by decide +kernel
set_option maxRecDepth 100000 in
theorem cd_is : ∀ a, a < 49 → ∀ c, c < 49 → f_X8_isCode (nI (49 * a + c)) = some (b2 (okN (49 * a + c))) := by decide +kernel
set_option maxRecDepth 100000 in
theorem cd_let : ∀ a, a < 49 → ∀ c, c < 49 → ∀ p, p < 4 → p < lenN (49 * a + c) → f_X8_letterOf (nI (49 * a + c)) (nI p) = some (nI (letN (49 * a + c) p)) := by decide +kernel
theorem lengthOf_ok {v : Nat} (h : v ≤ 2400) : f_X7_lengthOf (nI v) = some (if okN v = true then nI (lenN v) else 0) := by
  have := cd_len (v / 49) (by omega) (v % 49) (Nat.mod_lt _ (by decide))
  rwa [Nat.div_add_mod] at this
theorem isCode_ok {v : Nat} (h : v ≤ 2400) : f_X8_isCode (nI v) = some (b2 (okN v)) := by
  have := cd_is (v / 49) (by omega) (v % 49) (Nat.mod_lt _ (by decide))
  rwa [Nat.div_add_mod] at this
theorem letterOf_ok {v p : Nat} (h : v ≤ 2400) (hp : p < lenN v) : f_X8_letterOf (nI v) (nI p) = some (nI (letN v p)) := by
  have h4 := lenN_le v
  have := cd_let (v / 49) (by omega) (v % 49) (Nat.mod_lt _ (by decide)) p (by omega) (by rwa [Nat.div_add_mod])
  rwa [Nat.div_add_mod] at this
theorem rlength_ok {v : Nat} (h : v ≤ 2400) : f_X8_lengthOf (nI v) = some (nI (lenN v)) := by
  unfold f_X8_lengthOf lenN
  by_cases h1 : v < 49
  · rw [if_nle h1 (by omega), if_pos h1]
  · rw [if_le (by omega) (by omega), if_neg h1]
    by_cases h2 : v < 343
    · rw [if_nle h2 (by omega), if_pos h2]
    · rw [if_le (by omega) (by omega), if_neg h2]
/-- a number given: it is a code, for both sides; or not, for both -/
theorem code_any (x : Int32) : (∃ v, okN v = true ∧ x = nI v ∧ f_X7_lengthOf x = some (nI (lenN v)) ∧ f_X8_isCode x = some 1) ∨ (f_X7_lengthOf x = some 0 ∧ f_X8_isCode x = some 0) := by
  rcases pk_ix x (n := 2401) (by decide) with h | h | ⟨v, hv, rfl⟩
  · right
    have h8 : x < nI 8 := Int32.lt_trans h (by decide)
    constructor
    · unfold f_X7_lengthOf; rw [if_pos h8]
    · unfold f_X8_isCode f_X8_in
      rw [if_pos h8]
      rfl
  · right
    have h1 : ¬ x < nI 8 := fun g => absurd (Int32.lt_of_le_of_lt h g) (by decide)
    have h2 : ¬ x ≤ nI 2400 := fun g => absurd (Int32.le_trans h g) (by decide)
    have h3 : nI 2400 < x := Int32.not_le.mp h2
    constructor
    · unfold f_X7_lengthOf; rw [if_neg h1, if_neg h2]
    · unfold f_X8_isCode f_X8_in
      rw [if_neg h1, if_pos h3]
      rfl
  · by_cases h : okN v = true
    · left
      refine ⟨v, h, rfl, ?_, ?_⟩
      · rw [lengthOf_ok (by omega), if_pos h]
      · rw [isCode_ok (by omega), h]; rfl
    · right
      refine ⟨?_, ?_⟩
      · rw [lengthOf_ok (by omega), if_neg h]
      · rw [isCode_ok (by omega)]
        have : okN v = false := by simpa using h
        rw [this]; rfl
/-- a board: cells (0 none, 1 .. 6 a letter, 7 blocked), how many words, their codes -/
abbrev Bd : Type := (Nat → Nat) × Nat × (Nat → Nat)
def rV (k : Nat) : Int32 := if k = 7 then -1 else nI k
def cV (k : Nat) : Int32 := if k = 7 then -1 else if k = 0 then 0 else nI (96 + k)
def CV (b : Bd) (fc fk : Nat → Int32) (fw : Int32) : Prop := (∀ i, i < 16 → fc i = cV (b.1 i)) ∧ fw = nI b.2.1 ∧ ∀ j, j < 16 → fk j = nI (b.2.2 j)
def RV (b : Bd) (g : Nat → Int32) : Prop := (∀ i, i < 16 → g i = rV (b.1 i)) ∧ g 16 = nI b.2.1 ∧ ∀ j, j < 16 → g (17 + j) = nI (b.2.2 j)
def CB (b : Bd) (σ : SC) : Prop := CV b (σ 0) (σ 1) (σ 17 0)
def RB (b : Bd) (τ : SR) : Prop := RV b (τ.1 0)
def VB (b : Bd) : Prop := (∀ i, i < 16 → b.1 i ≤ 7) ∧ b.2.1 ≤ 16 ∧ (∀ j, j < 16 → b.2.2 j ≤ 2400) ∧ (∀ j, j < b.2.1 → okN (b.2.2 j) = true) ∧ ∀ i j, i < b.2.1 → j < b.2.1 → b.2.2 i = b.2.2 j → i = j
theorem cV_m1 {k : Nat} (h : k ≤ 7) : (cV k = -1) = (k = 7) := by
  unfold cV
  by_cases h7 : k = 7
  · simp [h7]
  · by_cases h0 : k = 0
    · subst h0; simp
    · rw [if_neg h7, if_neg h0, m1_nI (by omega)]; simp [h7]
theorem rV_m1 {k : Nat} (h : k ≤ 7) : (rV k = -1) = (k = 7) := by
  unfold rV
  by_cases h7 : k = 7
  · simp [h7]
  · rw [if_neg h7, m1_nI (by omega)]; simp [h7]
theorem cV_dec : ∀ k, k ≤ 7 → (cV k < nI 97 ↔ (k = 0 ∨ k = 7)) ∧ (nI 97 ≤ cV k ↔ ¬ (k = 0 ∨ k = 7)) ∧ (cV k = 0 ↔ k = 0) := by decide +kernel
theorem rV_dec : ∀ k, k ≤ 7 → (rV k ≤ 0 ↔ (k = 0 ∨ k = 7)) ∧ (0 < rV k ↔ ¬ (k = 0 ∨ k = 7)) ∧ (rV k = 0 ↔ k = 0) := by decide +kernel
theorem cV_inj : ∀ k, k ≤ 7 → ∀ j, j ≤ 7 → (cV k = cV j ↔ k = j) := by decide +kernel
theorem rV_inj : ∀ k, k ≤ 7 → ∀ j, j ≤ 7 → (rV k = rV j ↔ k = j) := by decide +kernel
theorem cV_let {k : Nat} (h1 : 1 ≤ k) (h6 : k ≤ 6) : cV k = nI (96 + k) := by unfold cV; rw [if_neg (by omega), if_neg (by omega)]
theorem rV_let {k : Nat} (h6 : k ≤ 6) : rV k = nI k := by unfold rV; rw [if_neg (by omega)]
/-- the word with a code -/
theorem numberOf_ok {b : Bd} {σ : SC} (hb : CB b σ) (hv : VB b) (x : Int32) : f_X0_numberOf σ x = some (fnd (fun j => decide (nI (b.2.2 j) = x)) b.2.1 0) := by
  obtain ⟨-, hw, hc⟩ := hb
  obtain ⟨-, hw16, -⟩ := hv
  have key : ∀ (k n j : Nat), j + k = b.2.1 → k < n → f_X0_numberOf_L2 σ x n (nI j) = some (fnd (fun j => decide (nI (b.2.2 j) = x)) k j) := by
    intro k
    induction k with
    | zero =>
      intro n j h1 h2
      obtain ⟨n, rfl⟩ : ∃ m, n = m + 1 := ⟨n - 1, by omega⟩
      rw [f_X0_numberOf_L2_s, hw, if_pos (by rw [le_nI (by omega) (by omega)]; omega)]
      rfl
    | succ k ih =>
      intro n j h1 h2
      obtain ⟨n, rfl⟩ : ∃ m, n = m + 1 := ⟨n - 1, by omega⟩
      rw [f_X0_numberOf_L2_s, hw, if_neg (by rw [le_nI (by omega) (by omega)]; omega), rd_in σ (show j < lnC 1 by show j < 16; omega), hc j (by omega), fnd_succ]
      by_cases h : nI (b.2.2 j) = x
      · rw [if_pos h, if_pos (decide_eq_true h)]
      · rw [if_neg h, if_neg (by simpa using h), nI_1, ih n (j + 1) (by omega) (by omega)]
  unfold f_X0_numberOf
  have := key b.2.1 FU 0 (by omega) (by have := FU_big; omega)
  rwa [nI_0] at this
theorem codeAt_ok {b : Bd} {τ : SR} (hb : RB b τ) {j : Nat} (hj : j < 16) : f_X8_codeAt τ (nI j) = some (nI (b.2.2 j)) := by
  unfold f_X8_codeAt
  rw [nI_add, if_in (by omega), ix_nI (by omega), hb.2.2 j hj]
theorem findCode_ok {b : Bd} {τ : SR} (hb : RB b τ) (hv : VB b) (x : Int32) : f_X8_findCode τ x = some (fnd (fun j => decide (nI (b.2.2 j) = x)) b.2.1 0) := by
  obtain ⟨-, hw16, -⟩ := hv
  have key : ∀ (k n j : Nat), j + k = b.2.1 → k < n → f_X8_findCode_L2 τ x n (nI j) = some (fnd (fun j => decide (nI (b.2.2 j) = x)) k j) := by
    intro k
    induction k with
    | zero =>
      intro n j h1 h2
      obtain ⟨n, rfl⟩ := succ_of h2
      rw [f_X8_findCode_L2_s, if_in16, ix16, hb.2.1, if_le (by omega) (by omega)]
      rfl
    | succ k ih =>
      intro n j h1 h2
      obtain ⟨n, rfl⟩ := succ_of h2
      rw [f_X8_findCode_L2_s, if_in16, ix16, hb.2.1, if_nle (by omega) (by omega), codeAt_ok hb (by omega), Option.bind_some, fnd_succ]
      by_cases h : nI (b.2.2 j) = x
      · rw [if_pos h, if_pos (decide_eq_true h)]
      · rw [if_neg h, if_neg (by simpa using h), nI_1, ih n (j + 1) (by omega) (by omega)]
  unfold f_X8_findCode
  have := key b.2.1 FU 0 (by omega) (by have := FU_big; omega)
  rwa [nI_0] at this
