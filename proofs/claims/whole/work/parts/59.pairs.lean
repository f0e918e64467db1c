/-! pairs, and the reference's walk over slots -/
def sm (g : Nat → Nat) : Nat → Nat
  | 0 => 0
  | n + 1 => sm g n + g n
theorem sm_cong {g h : Nat → Nat} : ∀ {n : Nat}, (∀ k, k < n → g k = h k) → sm g n = sm h n
  | 0, _ => rfl
  | n + 1, e => by
    show sm g n + g n = sm h n + h n
    rw [sm_cong (fun k hk => e k (by omega)), e n (by omega)]
theorem sm_slots {b : Bd} (g : Nat → Nat) : ∀ k, k ≤ 8 → sm (fun s => g (lnb b s)) (rank b k) = sm (fun l => if hs b l = true then g l else 0) k
  | 0, _ => rfl
  | k + 1, hk => by
    have ih := sm_slots (b := b) g k (by omega)
    have e : rank b (k + 1) = rank b k + (if hs b k = true then 1 else 0) := rfl
    show _ = sm (fun l => if hs b l = true then g l else 0) k + (if hs b k = true then g k else 0)
    rw [e, ← ih]
    by_cases h : hs b k = true
    · rw [if_pos h, if_pos h]
      show sm (fun s => g (lnb b s)) (rank b k) + g (lnb b (rank b k)) = _
      rw [lnb_rank (by omega) h]
    · rw [if_neg h, if_neg h]; rfl
theorem xl_hs {b : Bd} {k m : Nat} (hk : k < 8) (hm : m < 8) (h : xl b k m = true) : hs b k = true := by
  obtain ⟨h1, hA, hD⟩ := (xl_iff hk hm).mp h
  have gA := (inA_iff b _).mp hA
  have gD := (inD_iff b _).mp hD
  unfold xq at gA gD
  by_cases g : k < 4
  · rw [if_pos g] at gA
    rw [show (4 * k + (m - 4)) / 4 = k by omega] at gA
    exact gA.1
  · rw [if_neg g] at gD
    rw [show 4 + (4 * m + (k - 4)) % 4 = k by omega] at gD
    exact gD.1
theorem ct_sm (p : Nat → Bool) : ∀ n, ct p n = sm (fun k => if p k = true then 1 else 0) n
  | 0 => rfl
  | n + 1 => by
    show ct p n + _ = sm _ n + _
    rw [ct_sm p n]
theorem xN_lines {b : Bd} {s : Nat} (hs' : s < nS b) : xN b s = sm (fun m => if xl b (lnb b s) m = true then 1 else 0) 8 := by
  have h8 := nS_le b
  obtain ⟨k1, k2, k3⟩ := lnb_ok hs'
  have e1 : xN b s = ct (fun t => decide (t < nS b) && X b s t) (nS b) := by
    have := ct_tail (p := fun t => decide (t < nS b) && X b s t) (m := nS b) (n := 16 - nS b) (fun k hk => by rw [decide_eq_false (by omega), Bool.false_and])
    unfold xN
    rw [← this, show nS b + (16 - nS b) = 16 by omega]
  have e2 := sm_slots (b := b) (fun m => if xl b (lnb b s) m = true then 1 else 0) 8 (by omega)
  rw [e1, ct_sm]
  refine Eq.trans ?_ (Eq.trans e2 ?_)
  · apply sm_cong
    intro t ht
    have : t < nS b := ht
    show (if (decide (t < nS b) && X b s t) = true then 1 else 0) = if X b s t = true then 1 else 0
    rw [decide_eq_true this, Bool.true_and]
  · apply sm_cong
    intro m hm
    by_cases g : hs b m = true
    · rw [if_pos g]
    · rw [if_neg g, if_neg]
      intro z
      rw [xl_symm] at z
      exact g (xl_hs hm k1 z)
theorem pairs_eq (b : Bd) : sm (xN b) (nS b) = 2 * ct (fun q => inA b q && inD b q) 16 := by
  have e1 : sm (xN b) (nS b) = sm (fun s => sm (fun m => if xl b (lnb b s) m = true then 1 else 0) 8) (nS b) := sm_cong (fun s hs' => xN_lines hs')
  have e2 := sm_slots (b := b) (fun k => sm (fun m => if xl b k m = true then 1 else 0) 8) 8 (by omega)
  have e3 : sm (fun l => if hs b l = true then sm (fun m => if xl b l m = true then 1 else 0) 8 else 0) 8 = sm (fun k => sm (fun m => if k < 4 ∧ 4 ≤ m then (if (inA b (4 * k + (m - 4)) && inD b (4 * k + (m - 4))) = true then 1 else 0) else if m < 4 ∧ 4 ≤ k then (if (inA b (4 * m + (k - 4)) && inD b (4 * m + (k - 4))) = true then 1 else 0) else 0) 8) 8 := by
    apply sm_cong
    intro k hk
    have hx : ∀ m, m < 8 → (if xl b k m = true then 1 else 0) = (if k < 4 ∧ 4 ≤ m then (if (inA b (4 * k + (m - 4)) && inD b (4 * k + (m - 4))) = true then 1 else 0) else if m < 4 ∧ 4 ≤ k then (if (inA b (4 * m + (k - 4)) && inD b (4 * m + (k - 4))) = true then 1 else 0) else 0) := by
      intro m hm
      unfold xl
      by_cases a : k < 4 ∧ 4 ≤ m
      · rw [if_pos a, decide_eq_true a.1, decide_eq_true a.2, decide_eq_false (show ¬ m < 4 by omega)]
        simp
      · rw [if_neg a]
        by_cases c : m < 4 ∧ 4 ≤ k
        · rw [if_pos c, decide_eq_true c.1, decide_eq_true c.2, decide_eq_false (show ¬ k < 4 by omega)]
          simp
        · rw [if_neg c, if_neg]
          simp only [Bool.or_eq_true, Bool.and_eq_true, decide_eq_true_eq]
          omega
    by_cases g : hs b k = true
    · rw [if_pos g]
      exact sm_cong hx
    · rw [if_neg g]
      have z : sm (fun m => if xl b k m = true then 1 else 0) 8 = sm (fun _ => 0) 8 := sm_cong (fun m hm => if_neg (fun y => g (xl_hs hk hm y)))
      exact (z.symm.trans (sm_cong hx)).symm ▸ rfl
  rw [e1]
  refine Eq.trans e2 (Eq.trans e3 ?_)
  rw [ct_sm]
  generalize hw : (fun q => if (inA b q && inD b q) = true then 1 else 0) = w
  have hw' : ∀ q, (if (inA b q && inD b q) = true then 1 else 0) = w q := fun q => by rw [← hw]
  simp only [hw']
  simp [sm]
  omega
section Q3
variable {b : Bd} {σ : SC} {τ : SR}
theorem sm_le (g : Nat → Nat) (c : Nat) : ∀ n, (∀ k, k < n → g k ≤ c) → sm g n ≤ n * c
  | 0, _ => by simp [sm]
  | n + 1, h => by
    have := sm_le g c n (fun k hk => h k (by omega))
    have h2 := h n (by omega)
    show sm g n + g n ≤ _
    rw [Nat.add_mul]; omega
theorem half_ok : ∀ c, c ≤ 16 → nI (2 * c) / nI 2 = nI c := by decide +kernel
theorem ofSlots_ok (hr : RB b τ) (hv : VB b) (w : Int32) : ∃ x y τ', f_X8_ofSlots τ w = (if w = nI 4 then some (nI (ct (fun q => inA b q && inD b q) 16), τ') else if w = nI 5 then some (x, τ') else some (y, τ')) ∧ IsSet x (fun s => decide (s < nS b) && full b s) ∧ IsSet y (fun s => decide (s < nS b) && lempty b s) ∧ FR τ τ' := by
  have h8 := nS_le b
  obtain ⟨τ1, e1, hr1, e2, e3, e4⟩ := layLeft_ok hr hv
  have key : ∀ (kx : SR → Int32 → Int32 → Int32 → Option (Int32 × SR)) (m n s : Nat) (x y : Int32), s + m = nS b → m < n → IsSet x (fun k => decide (k < s) && full b k) → IsSet y (fun k => decide (k < s) && lempty b k) → ∃ x' y', f_X8_ofSlots_L14 w kx n τ1 (nI (sm (xN b) s)) x y (nI s) = kx τ1 (nI (sm (xN b) (nS b))) x' y' ∧ IsSet x' (fun s => decide (s < nS b) && full b s) ∧ IsSet y' (fun s => decide (s < nS b) && lempty b s) := by
    intro kx m
    induction m with
    | zero =>
      intro n s x y h1 h2 hx hy
      obtain ⟨n, rfl⟩ := succ_of h2
      rw [f_X8_ofSlots_L14_s, e2.1, if_le (by omega) (by omega)]
      have e : s = nS b := by omega
      rw [e] at hx hy
      rw [e]
      exact ⟨x, y, rfl, hx, hy⟩
    | succ m ih =>
      intro n s x y h1 h2 hx hy
      obtain ⟨n, rfl⟩ := succ_of h2
      have hs' : s < nS b := by omega
      obtain ⟨c1, c2, c3⟩ := crossed_ok e2 hs'
      have eS : nI (sm (xN b) s) + nI (xN b s) = nI (sm (xN b) (s + 1)) := nI_add (sm (xN b) s) (xN b s)
      have hx2 : ∀ y0 : Int32, y0 = (if full b s = true then (1 : Int32) <<< (nI s &&& 31) else 0) → IsSet (x ||| y0) (fun k => decide (k < s + 1) && full b k) := by
        rintro y0 rfl
        by_cases g : full b s = true
        · rw [if_pos g]; exact set_step (by omega) hx g
        · rw [if_neg g, set_or0 hx]; exact set_skip hx (by simpa using g)
      have hK : ∀ y0 : Int32, y0 = (if full b s = true then (1 : Int32) <<< (nI s &&& 31) else 0) → ∃ x' y', f_X8_ofSlots_K53 (f_X8_ofSlots_L14 w kx n) τ1 w (nI (sm (xN b) (s + 1))) y (nI s) y0 x = kx τ1 (nI (sm (xN b) (nS b))) x' y' ∧ IsSet x' (fun s => decide (s < nS b) && full b s) ∧ IsSet y' (fun s => decide (s < nS b) && lempty b s) := by
        intro y0 hy0
        unfold f_X8_ofSlots_K53
        rw [if_in (by omega), ix_nI (by omega), nI_1]
        by_cases g : lempty b s = true
        · rw [if_pos ((lempty_eq (e4 s hs')).mpr g)]
          exact ih n (s + 1) _ _ (by omega) (by omega) (hx2 y0 hy0) (set_step (by omega) hy g)
        · rw [if_neg (fun z => g ((lempty_eq (e4 s hs')).mp z)), set_or0 hy]
          exact ih n (s + 1) _ _ (by omega) (by omega) (hx2 y0 hy0) (set_skip hy (by simpa using g))
      rw [f_X8_ofSlots_L14_s, e2.1, if_nle (by omega) (by omega), c2, Option.bind_some, bits_ok c3 cross_16, Option.bind_some, isFull_ok hr1 hv e2 hs', Option.bind_some]
      have eX : nI (sm (xN b) s) + nI (ct (fun t => decide (t < nS b) && X b s t) 16) = nI (sm (xN b) (s + 1)) := eS
      rw [eX]
      by_cases g : full b s = true
      · rw [if_b1 g]; exact hK _ (if_pos g).symm
      · rw [if_b0 (by simpa using g)]; exact hK _ (if_neg g).symm
  obtain ⟨x, y, k1, k2, k3⟩ := key (fun σ_84 x2_84 x3_84 x4_84 => (if w = (nI 4) then (some ((x2_84 / (nI 2)), σ_84)) else (if w = (nI 5) then (some (x3_84, σ_84)) else (some (x4_84, σ_84))))) (nS b) FU 0 0 0 (by omega) (by have := FU_big; omega) set_nil set_nil
  refine ⟨x, y, τ1, ?_, k2, k3, e3⟩
  unfold f_X8_ofSlots
  rw [e1, Option.bind_some]
  refine Eq.trans k1 ?_
  show (if w = (nI 4) then (some (nI (sm (xN b) (nS b)) / (nI 2), τ1)) else (if w = (nI 5) then (some (x, τ1)) else (some (y, τ1)))) = _
  rw [pairs_eq, half_ok _ (ct_le _ _)]
end Q3
