/-! sets told -/
theorem set_step {x : Int32} {n : Nat} {p : Nat → Bool} (hn : n < 32) (h : IsSet x (fun k => decide (k < n) && p k)) (hp : p n = true) : IsSet (x ||| (1 : Int32) <<< (nI n &&& 31)) (fun k => decide (k < n + 1) && p k) := by
  refine (h.ins hn).cong (fun k _ => ?_)
  apply Bool.eq_iff_iff.mpr
  simp only [Bool.or_eq_true, Bool.and_eq_true, decide_eq_true_eq]
  constructor
  · rintro (⟨a1, a2⟩ | rfl)
    · exact ⟨by omega, a2⟩
    · exact ⟨by omega, hp⟩
  · rintro ⟨a1, a2⟩
    by_cases e : k = n
    · right; exact e
    · left; exact ⟨by omega, a2⟩
theorem set_skip {x : Int32} {n : Nat} {p : Nat → Bool} (h : IsSet x (fun k => decide (k < n) && p k)) (hp : p n = false) : IsSet x (fun k => decide (k < n + 1) && p k) := by
  refine h.cong (fun k _ => ?_)
  apply Bool.eq_iff_iff.mpr
  simp only [Bool.and_eq_true, decide_eq_true_eq]
  constructor
  · rintro ⟨a1, a2⟩; exact ⟨by omega, a2⟩
  · rintro ⟨a1, a2⟩
    refine ⟨?_, a2⟩
    by_cases e : k = n
    · rw [e, hp] at a2; cases a2
    · omega
theorem set_or0 {x : Int32} {f : Nat → Bool} (h : IsSet x f) : x ||| (0 : Int32) = x := IsSet.eq h.ins0 h
theorem set_nil {p : Nat → Bool} : IsSet 0 (fun k => decide (k < 0) && p k) := IsSet.zero.cong (fun k _ => by simp)
def isBlk (b : Bd) (q : Nat) : Bool := decide (b.1 q = 7)
def isLet (b : Bd) (q : Nat) : Bool := decide (b.1 q ≠ 7) && decide (b.1 q ≠ 0)
theorem isLet_iff {b : Bd} {q : Nat} : isLet b q = true ↔ ¬ (b.1 q = 0 ∨ b.1 q = 7) := by
  unfold isLet
  simp only [Bool.and_eq_true, decide_eq_true_eq]
  omega
section Q1
variable {b : Bd} {σ : SC} {τ : SR}
theorem blocked_ok (hc : CB b σ) (hv : VB b) : ∃ x, f_X0_blockedCells σ = some x ∧ IsSet x (fun k => decide (k < 16) && isBlk b k) := by
  have key : ∀ (m n q : Nat) (x : Int32), q + m = 16 → m < n → IsSet x (fun k => decide (k < q) && isBlk b k) → ∃ y, f_X0_blockedCells_L4 σ n x (nI q) = some y ∧ IsSet y (fun k => decide (k < 16) && isBlk b k) := by
    intro m
    induction m with
    | zero =>
      intro n q x h1 h2 hx
      obtain ⟨n, rfl⟩ := succ_of h2
      rw [f_X0_blockedCells_L4_s, if_le (by omega) (by omega)]
      rw [show q = 16 by omega] at hx
      exact ⟨x, rfl, hx⟩
    | succ m ih =>
      intro n q x h1 h2 hx
      obtain ⟨n, rfl⟩ := succ_of h2
      have hq : q < 16 := by omega
      have h7 := hv.1 q hq
      rw [f_X0_blockedCells_L4_s, if_nle (by omega) (by omega), rd_in σ (show q < lnC 0 from hq), hc.1 q hq, nI_1]
      by_cases g : b.1 q = 7
      · rw [if_cm h7 g]; exact ih n (q + 1) _ (by omega) (by omega) (set_step (by omega) hx (decide_eq_true g))
      · rw [if_cn h7 g]; exact ih n (q + 1) _ (by omega) (by omega) (set_skip hx (decide_eq_false g))
  have := key 16 FU 0 0 (by omega) (by have := FU_big; omega) set_nil
  rw [nI_0] at this
  exact this
theorem lettered_ok (hc : CB b σ) (hv : VB b) : ∃ x, f_X0_letteredCells σ = some x ∧ IsSet x (fun k => decide (k < 16) && isLet b k) := by
  have key : ∀ (m n q : Nat) (x : Int32), q + m = 16 → m < n → IsSet x (fun k => decide (k < q) && isLet b k) → ∃ y, f_X0_letteredCells_L4 σ n x (nI q) = some y ∧ IsSet y (fun k => decide (k < 16) && isLet b k) := by
    intro m
    induction m with
    | zero =>
      intro n q x h1 h2 hx
      obtain ⟨n, rfl⟩ := succ_of h2
      rw [f_X0_letteredCells_L4_s, if_le (by omega) (by omega)]
      rw [show q = 16 by omega] at hx
      exact ⟨x, rfl, hx⟩
    | succ m ih =>
      intro n q x h1 h2 hx
      obtain ⟨n, rfl⟩ := succ_of h2
      have hq : q < 16 := by omega
      have h7 := hv.1 q hq
      rw [f_X0_letteredCells_L4_s, if_nle (by omega) (by omega), rd_in σ (show q < lnC 0 from hq), hc.1 q hq, nI_1]
      by_cases g : b.1 q = 0 ∨ b.1 q = 7
      · rw [if_clo h7 g]; exact ih n (q + 1) _ (by omega) (by omega) (set_skip hx (Bool.eq_false_iff.mpr (fun z => isLet_iff.mp z g)))
      · rw [if_chi h7 g]; exact ih n (q + 1) _ (by omega) (by omega) (set_step (by omega) hx (isLet_iff.mpr g))
  have := key 16 FU 0 0 (by omega) (by have := FU_big; omega) set_nil
  rw [nI_0] at this
  exact this
theorem ofCells_ok (hr : RB b τ) (hv : VB b) (w : Int32) : ∃ x y, f_X8_ofCells τ w = (if w = nI 2 then some x else some y) ∧ IsSet x (fun k => decide (k < 16) && isBlk b k) ∧ IsSet y (fun k => decide (k < 16) && isLet b k) := by
  have key : ∀ (kx : Int32 → Int32 → Option Int32) (m n q : Nat) (x y : Int32), q + m = 16 → m < n → IsSet x (fun k => decide (k < q) && isBlk b k) → IsSet y (fun k => decide (k < q) && isLet b k) → ∃ x' y', f_X8_ofCells_L7 τ w kx n y x (nI q) = kx y' x' ∧ IsSet x' (fun k => decide (k < 16) && isBlk b k) ∧ IsSet y' (fun k => decide (k < 16) && isLet b k) := by
    intro kx m
    induction m with
    | zero =>
      intro n q x y h1 h2 hx hy
      obtain ⟨n, rfl⟩ := succ_of h2
      rw [f_X8_ofCells_L7_s, if_le (by omega) (by omega)]
      rw [show q = 16 by omega] at hx hy
      exact ⟨x, y, rfl, hx, hy⟩
    | succ m ih =>
      intro n q x y h1 h2 hx hy
      obtain ⟨n, rfl⟩ := succ_of h2
      have hq : q < 16 := by omega
      have h7 := hv.1 q hq
      have hK : ∀ y0 x', x ||| y0 = x' → IsSet x' (fun k => decide (k < q + 1) && isBlk b k) → ∃ x'' y'', f_X8_ofCells_K34 (f_X8_ofCells_L7 τ w kx n) τ w y (nI q) y0 x = kx y'' x'' ∧ IsSet x'' (fun k => decide (k < 16) && isBlk b k) ∧ IsSet y'' (fun k => decide (k < 16) && isLet b k) := by
        intro y0 x' hx0 hx'
        unfold f_X8_ofCells_K34
        rw [if_in (by omega), ix_nI (by omega), hr.1 q hq, hx0, nI_1]
        by_cases g : b.1 q = 0 ∨ b.1 q = 7
        · rw [if_rlo h7 g, set_or0 hy]
          exact ih n (q + 1) _ _ (by omega) (by omega) hx' (set_skip hy (Bool.eq_false_iff.mpr (fun z => isLet_iff.mp z g)))
        · rw [if_rhi h7 g]
          exact ih n (q + 1) _ _ (by omega) (by omega) hx' (set_step (by omega) hy (isLet_iff.mpr g))
      rw [f_X8_ofCells_L7_s, if_nle (by omega) (by omega), if_in (by omega), ix_nI (by omega), hr.1 q hq]
      by_cases g : b.1 q = 7
      · rw [if_rm h7 g]; exact hK _ _ rfl (set_step (by omega) hx (decide_eq_true g))
      · rw [if_rn h7 g]; exact hK _ _ (set_or0 hx) (set_skip hx (decide_eq_false g))
  unfold f_X8_ofCells
  obtain ⟨x, y, e1, e2, e3⟩ := key (fun x2_63 x3_63 => (if w = nI 2 then (some x3_63) else (some x2_63))) 16 FU 0 0 0 (by omega) (by have := FU_big; omega) set_nil set_nil
  rw [nI_0] at e1
  exact ⟨x, y, e1, e2, e3⟩
theorem lcd_low {s : Nat} (hf : full b s = true) : ∀ n, n < sZ b s → 7 ^ n ≤ lcd b s (n + 1)
  | 0, h => by
    have := full_iff.mp hf 0 h
    show 1 ≤ 7 * 0 + b.1 (cS b s 0)
    omega
  | n + 1, h => by
    have ih := lcd_low hf n (by omega)
    show 7 ^ (n + 1) ≤ 7 * lcd b s (n + 1) + b.1 (cS b s (n + 1))
    rw [Nat.pow_succ]; omega
theorem lcd_pos {s : Nat} (hs' : s < nS b) (hf : full b s = true) : 0 < lcd b s (sZ b s) := by
  have hz := sZ_24 hs'
  have := lcd_low hf (sZ b s - 1) (by omega)
  rw [show sZ b s - 1 + 1 = sZ b s by omega] at this
  have h1 : 0 < 7 ^ (sZ b s - 1) := Nat.pow_pos (by decide)
  omega
theorem lcd_2401 (hv : VB b) {s : Nat} (hs' : s < nS b) : lcd b s (sZ b s) < 2401 := by
  have hz := sZ_24 hs'
  have := lcd_lt hv hs' (sZ b s) (Nat.le_refl _)
  have h1 : 7 ^ sZ b s ≤ 7 ^ 4 := Nat.pow_le_pow_right (by decide) (by omega)
  omega
theorem lcd_size (hv : VB b) {s t : Nat} (hs' : s < nS b) (ht : t < nS b) (f1 : full b s = true) (f2 : full b t = true) (h : lcd b s (sZ b s) = lcd b t (sZ b t)) : sZ b s = sZ b t := by
  have z1 := sZ_24 hs'
  have z2 := sZ_24 ht
  have a1 := lcd_low f1 (sZ b s - 1) (by omega)
  have a2 := lcd_low f2 (sZ b t - 1) (by omega)
  have c1 := lcd_lt hv hs' (sZ b s) (Nat.le_refl _)
  have c2 := lcd_lt hv ht (sZ b t) (Nat.le_refl _)
  rw [show sZ b s - 1 + 1 = sZ b s by omega] at a1
  rw [show sZ b t - 1 + 1 = sZ b t by omega] at a2
  rcases Nat.lt_trichotomy (sZ b s) (sZ b t) with g | g | g
  · have : 7 ^ sZ b s ≤ 7 ^ (sZ b t - 1) := Nat.pow_le_pow_right (by decide) (by omega)
    omega
  · exact g
  · have : 7 ^ sZ b t ≤ 7 ^ (sZ b s - 1) := Nat.pow_le_pow_right (by decide) (by omega)
    omega
/-- the code that a slot reads, 0 if it is not full -/
def cdv (b : Bd) (s : Nat) : Nat := if full b s = true then lcd b s (sZ b s) else 0
theorem cdv_lt (hv : VB b) {s : Nat} (hs' : s < nS b) : cdv b s < 2401 := by
  unfold cdv
  split
  · exact lcd_2401 hv hs'
  · omega
theorem codeIn_v (hc : CB b σ) (hv : VB b) (hd : DS b σ) {s : Nat} (hs' : s < nS b) : f_X6_codeIn σ (nI s) = some (nI (cdv b s)) := by
  rw [codeIn_ok hc hv hd hs']
  unfold cdv
  split <;> rfl
theorem cdv_0 {s : Nat} (hs' : s < nS b) : cdv b s = 0 ↔ full b s = false := by
  unfold cdv
  by_cases g : full b s = true
  · rw [if_pos g, g]
    have := lcd_pos hs' g
    constructor
    · intro z; omega
    · intro z; cases z
  · rw [if_neg g]; simpa using g
theorem fullSlots_ok (hc : CB b σ) (hv : VB b) (hd : DS b σ) : ∃ x, f_X7_fullSlots σ = some x ∧ IsSet x (fun s => decide (s < nS b) && full b s) := by
  have h8 := nS_le b
  have key : ∀ (m n s : Nat) (x : Int32), s + m = nS b → m < n → IsSet x (fun k => decide (k < s) && full b k) → ∃ y, f_X7_fullSlots_L4 σ n x (nI s) = some y ∧ IsSet y (fun s => decide (s < nS b) && full b s) := by
    intro m
    induction m with
    | zero =>
      intro n s x h1 h2 hx
      obtain ⟨n, rfl⟩ := succ_of h2
      rw [f_X7_fullSlots_L4_s, hd.1, if_le (by omega) (by omega)]
      rw [show s = nS b by omega] at hx
      exact ⟨x, rfl, hx⟩
    | succ m ih =>
      intro n s x h1 h2 hx
      obtain ⟨n, rfl⟩ := succ_of h2
      have hs' : s < nS b := by omega
      have hl := cdv_lt hv hs'
      rw [f_X7_fullSlots_L4_s, hd.1, if_nle (by omega) (by omega), codeIn_v hc hv hd hs', Option.bind_some, nI_1]
      by_cases g : full b s = true
      · have : cdv b s ≠ 0 := fun z => by rw [(cdv_0 hs').mp z] at g; cases g
        rw [if_ne0 (by omega) (by omega)]
        exact ih n (s + 1) _ (by omega) (by omega) (set_step (by omega) hx g)
      · have g' : full b s = false := by simpa using g
        rw [(cdv_0 hs').mpr g', nI_0, if00]
        exact ih n (s + 1) _ (by omega) (by omega) (set_skip hx g')
  have := key (nS b) FU 0 0 (by omega) (by have := FU_big; omega) set_nil
  rw [nI_0] at this
  exact this
def lempty (b : Bd) (s : Nat) : Bool := (List.range 32).all (fun w => !leftB b s w)
theorem lempty_eq {x : Int32} {s : Nat} (h : IsSet x (leftB b s)) : (x = 0) ↔ lempty b s = true := by
  rw [h.eq0]
  unfold lempty
  simp only [List.all_eq_true, List.mem_range, Bool.not_eq_true']
theorem emptySlots_ok (hd : DS b σ) (hl : DC b σ) : ∃ x, f_X7_emptySlots σ = some x ∧ IsSet x (fun s => decide (s < nS b) && lempty b s) := by
  have h8 := nS_le b
  have key : ∀ (m n s : Nat) (x : Int32), s + m = nS b → m < n → IsSet x (fun k => decide (k < s) && lempty b k) → ∃ y, f_X7_emptySlots_L4 σ n x (nI s) = some y ∧ IsSet y (fun s => decide (s < nS b) && lempty b s) := by
    intro m
    induction m with
    | zero =>
      intro n s x h1 h2 hx
      obtain ⟨n, rfl⟩ := succ_of h2
      rw [f_X7_emptySlots_L4_s, hd.1, if_le (by omega) (by omega)]
      rw [show s = nS b by omega] at hx
      exact ⟨x, rfl, hx⟩
    | succ m ih =>
      intro n s x h1 h2 hx
      obtain ⟨n, rfl⟩ := succ_of h2
      have hs' : s < nS b := by omega
      rw [f_X7_emptySlots_L4_s, hd.1, if_nle (by omega) (by omega), rd_in σ (show s < lnC 12 by show s < 8; omega), nI_1]
      by_cases g : lempty b s = true
      · rw [if_pos ((lempty_eq (hl.2 s hs')).mpr g)]
        exact ih n (s + 1) _ (by omega) (by omega) (set_step (by omega) hx g)
      · rw [if_neg (fun z => g ((lempty_eq (hl.2 s hs')).mp z))]
        exact ih n (s + 1) _ (by omega) (by omega) (set_skip hx (by simpa using g))
  have := key (nS b) FU 0 0 (by omega) (by have := FU_big; omega) set_nil
  rw [nI_0] at this
  exact this
theorem slotsWith_ok (hd : DS b σ) {r w : Nat} (hr : lnC r = 8) (hw : w < 16) {L : LL} (hL : ∀ s, s < nS b → IsSet (σ r s) (L s)) : ∃ x, f_X1_slotsWith σ (nI w) r = some x ∧ IsSet x (fun s => decide (s < nS b) && L s w) := by
  have h8 := nS_le b
  have key : ∀ (m n s : Nat) (x : Int32), s + m = nS b → m < n → IsSet x (fun k => decide (k < s) && L k w) → ∃ y, f_X1_slotsWith_L5 r σ (nI w) n x (nI s) = some y ∧ IsSet y (fun s => decide (s < nS b) && L s w) := by
    intro m
    induction m with
    | zero =>
      intro n s x h1 h2 hx
      obtain ⟨n, rfl⟩ := succ_of h2
      rw [f_X1_slotsWith_L5_s, hd.1, if_le (by omega) (by omega)]
      rw [show s = nS b by omega] at hx
      exact ⟨x, rfl, hx⟩
    | succ m ih =>
      intro n s x h1 h2 hx
      obtain ⟨n, rfl⟩ := succ_of h2
      have hs' : s < nS b := by omega
      rw [f_X1_slotsWith_L5_s, hd.1, if_nle (by omega) (by omega), rd_in σ (show s < lnC r by rw [hr]; omega), (hL s hs').cnv (by omega), nI_1]
      by_cases g : L s w = true
      · rw [if_pos g, if10]
        exact ih n (s + 1) _ (by omega) (by omega) (set_step (p := fun k => L k w) (by omega) hx g)
      · rw [if_neg g, if00]
        exact ih n (s + 1) _ (by omega) (by omega) (set_skip (p := fun k => L k w) hx (by simpa using g))
  have := key (nS b) FU 0 0 (by omega) (by have := FU_big; omega) set_nil
  rw [nI_0] at this
  exact this
theorem firstReads_ok (hc : CB b σ) (hv : VB b) (hd : DS b σ) (x : Int32) : f_X7_firstSlotThatReads σ x = some (fnd (fun s => decide (nI (cdv b s) = x)) (nS b) 0) := by
  have h8 := nS_le b
  have key : ∀ (k n s : Nat), s + k = nS b → k < n → f_X7_firstSlotThatReads_L2 σ x n (nI s) = some (fnd (fun s => decide (nI (cdv b s) = x)) k s) := by
    intro k
    induction k with
    | zero =>
      intro n s h1 h2
      obtain ⟨n, rfl⟩ := succ_of h2
      rw [f_X7_firstSlotThatReads_L2_s, hd.1, if_le (by omega) (by omega)]
      rfl
    | succ k ih =>
      intro n s h1 h2
      obtain ⟨n, rfl⟩ := succ_of h2
      rw [f_X7_firstSlotThatReads_L2_s, hd.1, if_nle (by omega) (by omega), codeIn_v hc hv hd (by omega), Option.bind_some, fnd_succ]
      by_cases g : nI (cdv b s) = x
      · rw [if_pos g, if_pos (decide_eq_true g)]
      · rw [if_neg g, if_neg (by simpa using g), nI_1, ih n (s + 1) (by omega) (by omega)]
  have := key (nS b) FU 0 (by omega) (by have := FU_big; omega)
  rw [nI_0] at this
  exact this
end Q1
