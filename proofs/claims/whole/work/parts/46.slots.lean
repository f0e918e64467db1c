/-! slots by their numbers -/
theorem ct_kth {p : Nat → Bool} {k : Nat} : ∀ {n : Nat}, k < ct p n → ∃ i, i < n ∧ p i = true ∧ ct p i = k
  | 0, h => by simp [ct] at h
  | n + 1, h => by
    rw [ct_succ] at h
    by_cases g : k < ct p n
    · obtain ⟨i, h1, h2⟩ := ct_kth g
      exact ⟨i, by omega, h2⟩
    · by_cases e : p n = true
      · rw [if_pos e] at h
        exact ⟨n, by omega, e, by omega⟩
      · rw [if_neg e] at h; omega
def nS (b : Bd) : Nat := rank b 8
def lnb (b : Bd) (s : Nat) : Nat := ((List.range 8).find? (fun k => hs b k && decide (rank b k = s))).getD 0
theorem nS_le (b : Bd) : nS b ≤ 8 := rank_le b 8
theorem lnb_ok {b : Bd} {s : Nat} (h : s < nS b) : lnb b s < 8 ∧ hs b (lnb b s) = true ∧ rank b (lnb b s) = s := by
  obtain ⟨i, h1, h2, h3⟩ := ct_kth (p := hs b) (n := 8) h
  unfold lnb
  cases hf : (List.range 8).find? (fun k => hs b k && decide (rank b k = s)) with
  | none =>
    have := List.find?_eq_none.mp hf i (List.mem_range.mpr h1)
    simp only [Bool.and_eq_true, decide_eq_true_eq] at this
    exact absurd ⟨h2, h3⟩ this
  | some k =>
    have h4 := List.find?_some hf
    have h5 := List.mem_of_find?_eq_some hf
    simp only [Bool.and_eq_true, decide_eq_true_eq] at h4
    exact ⟨List.mem_range.mp h5, h4.1, h4.2⟩
theorem lnb_rank {b : Bd} {k : Nat} (hk : k < 8) (h : hs b k = true) : lnb b (rank b k) = k := by
  have := lnb_ok (b := b) (s := rank b k) (rank_lt b h hk)
  exact rank_inj b this.2.1 h this.2.2
theorem lnb_inj {b : Bd} {s t : Nat} (hs : s < nS b) (ht : t < nS b) (h : lnb b s = lnb b t) : s = t := by
  rw [← (lnb_ok hs).2.2, ← (lnb_ok ht).2.2, h]
theorem lnb_down {b : Bd} {s : Nat} (h : s < nS b) : rank b 4 ≤ s ↔ 4 ≤ lnb b s := by
  obtain ⟨h1, h2, h3⟩ := lnb_ok h
  constructor
  · intro g
    rcases Nat.lt_or_ge (lnb b s) 4 with z | z
    · have := rank_lt b h2 z; omega
    · exact z
  · intro g
    have := rank_mono b g; omega
def sF (b : Bd) (s : Nat) : Nat := lcell (lnb b s) (lo b (lnb b s))
def sZ (b : Bd) (s : Nat) : Nat := ll b (lnb b s)
def sT (b : Bd) (s : Nat) : Nat := lsp (lnb b s)
def cS (b : Bd) (s p : Nat) : Nat := sF b s + sT b s * p
def X (b : Bd) (s t : Nat) : Bool := xl b (lnb b s) (lnb b t)
def pX (b : Bd) (s t : Nat) : Nat := pl b (lnb b s) (lnb b t)
theorem sZ_24 {b : Bd} {s : Nat} (h : s < nS b) : 2 ≤ sZ b s ∧ sZ b s ≤ 4 := by
  have h1 := (lnb_ok h).2.1
  unfold hs at h1
  have h2 := of_decide_eq_true h1
  have h3 := lo_ll b (lnb b s)
  unfold sZ; omega
theorem cS_line {b : Bd} {s : Nat} (p : Nat) : cS b s p = lcell (lnb b s) (lo b (lnb b s) + p) := by
  unfold cS sF sT lcell
  rw [Nat.add_mul, Nat.mul_comm (lsp _) p]; omega
theorem cS_row {b : Bd} {s : Nat} (p : Nat) (h : lnb b s < 4) : cS b s p = 4 * lnb b s + lo b (lnb b s) + p := by
  rw [cS_line]; unfold lcell lst lsp; rw [if_pos h, if_pos h]; omega
theorem cS_col {b : Bd} {s : Nat} (p : Nat) (h : 4 ≤ lnb b s) : cS b s p = (lnb b s - 4) + 4 * (lo b (lnb b s) + p) := by
  rw [cS_line]; unfold lcell lst lsp; rw [if_neg (by omega), if_neg (by omega)]; omega
theorem cS_lt {b : Bd} {s p : Nat} (h : s < nS b) (hp : p < sZ b s) : cS b s p < 16 := by
  rw [cS_line]
  have h3 := lo_ll b (lnb b s)
  unfold sZ at hp
  exact lcell_lt (lnb_ok h).1 (by omega)
theorem cS_open {b : Bd} {s p : Nat} (hp : p < sZ b s) : b.1 (cS b s p) ≠ 7 := by
  rw [cS_line]
  unfold sZ at hp
  exact slot_open b (by omega) (by omega)
theorem cS_inj {b : Bd} {s p q : Nat} (h : cS b s p = cS b s q) : p = q := by
  by_cases g : lnb b s < 4
  · rw [cS_row p g, cS_row q g] at h; omega
  · rw [cS_col p (by omega), cS_col q (by omega)] at h; omega
theorem X_symm (b : Bd) (s t : Nat) : X b s t = X b t s := xl_symm
theorem X_place {b : Bd} {s t : Nat} (hs : s < nS b) (ht : t < nS b) (h : X b s t = true) : s ≠ t ∧ pX b s t < sZ b s ∧ pX b t s < sZ b t ∧ cS b s (pX b s t) = cS b t (pX b t s) := by
  obtain ⟨k1, k2, k3⟩ := lnb_ok hs
  obtain ⟨m1, m2, m3⟩ := lnb_ok ht
  unfold X at h
  obtain ⟨h1, hA, hD⟩ := (xl_iff k1 m1).mp h
  have gA := (inA_iff b _).mp hA
  have gD := (inD_iff b _).mp hD
  have hne : s ≠ t := by rintro rfl; omega
  refine ⟨hne, ?_⟩
  unfold pX sZ pl
  unfold xq at gA gD
  rcases h1 with ⟨a1, a2⟩ | ⟨a1, a2⟩
  · rw [if_pos a1] at gA gD
    rw [if_pos a1, if_neg (by omega), cS_row _ a1, cS_col _ a2]
    have e1 : (4 * lnb b s + (lnb b t - 4)) / 4 = lnb b s := by omega
    have e2 : (4 * lnb b s + (lnb b t - 4)) % 4 = lnb b t - 4 := by omega
    have e3 : 4 + (4 * lnb b s + (lnb b t - 4)) % 4 = lnb b t := by omega
    rw [e1, e2] at gA
    rw [e3, e1] at gD
    omega
  · rw [if_neg (by omega)] at gA gD
    rw [if_neg (by omega), if_pos a1, cS_col _ a2, cS_row _ a1]
    have e1 : (4 * lnb b t + (lnb b s - 4)) / 4 = lnb b t := by omega
    have e2 : (4 * lnb b t + (lnb b s - 4)) % 4 = lnb b s - 4 := by omega
    have e3 : 4 + (4 * lnb b t + (lnb b s - 4)) % 4 = lnb b s := by omega
    rw [e1, e2] at gA
    rw [e3, e1] at gD
    omega
theorem X_of {b : Bd} {s t p q : Nat} (hs' : s < nS b) (ht : t < nS b) (hne : s ≠ t) (hp : p < sZ b s) (hq : q < sZ b t) (h : cS b s p = cS b t q) : X b s t = true ∧ p = pX b s t ∧ q = pX b t s := by
  obtain ⟨k1, k2, k3⟩ := lnb_ok hs'
  obtain ⟨m1, m2, m3⟩ := lnb_ok ht
  have hl : lnb b s ≠ lnb b t := fun e => hne (lnb_inj hs' ht e)
  have l1 := lo_ll b (lnb b s)
  have l2 := lo_ll b (lnb b t)
  unfold sZ at hp hq
  unfold X pX pl
  by_cases a : lnb b s < 4
  · rw [cS_row _ a] at h
    by_cases c : lnb b t < 4
    · rw [cS_row _ c] at h; omega
    · rw [cS_col _ (by omega)] at h
      have e1 : (4 * lnb b s + (lnb b t - 4)) / 4 = lnb b s := by omega
      have e2 : (4 * lnb b s + (lnb b t - 4)) % 4 = lnb b t - 4 := by omega
      have e3 : 4 + (4 * lnb b s + (lnb b t - 4)) % 4 = lnb b t := by omega
      refine ⟨(xl_iff k1 m1).mpr ⟨Or.inl ⟨a, by omega⟩, ?_⟩, ?_, ?_⟩
      · unfold xq
        rw [if_pos a, inA_iff, inD_iff, e3, e1, e2]
        exact ⟨⟨k2, by omega, by omega⟩, m2, by omega, by omega⟩
      · rw [if_pos a]; omega
      · rw [if_neg c]; omega
  · rw [cS_col _ (by omega)] at h
    by_cases c : lnb b t < 4
    · rw [cS_row _ c] at h
      have e1 : (4 * lnb b t + (lnb b s - 4)) / 4 = lnb b t := by omega
      have e2 : (4 * lnb b t + (lnb b s - 4)) % 4 = lnb b s - 4 := by omega
      have e3 : 4 + (4 * lnb b t + (lnb b s - 4)) % 4 = lnb b s := by omega
      refine ⟨(xl_iff k1 m1).mpr ⟨Or.inr ⟨c, by omega⟩, ?_⟩, ?_, ?_⟩
      · unfold xq
        rw [if_neg a, inA_iff, inD_iff, e3, e1, e2]
        exact ⟨⟨m2, by omega, by omega⟩, k2, by omega, by omega⟩
      · rw [if_neg a]; omega
      · rw [if_pos c]; omega
    · rw [cS_col _ (by omega)] at h; omega
/-- the class's slots stand as the board says -/
def DS (b : Bd) (σ : SC) : Prop := σ 17 1 = nI (nS b) ∧ σ 17 2 = nI (rank b 4) ∧ σ 17 3 = nI (ct (fun q => inA b q && inD b q) 16) ∧ (∀ s, s < nS b → σ 2 s = nI (sF b s) ∧ σ 3 s = nI (sZ b s) ∧ IsSet (σ 4 s) (fun t => decide (t < nS b) && X b s t) ∧ ∀ t, t < nS b → σ 5 (8 * s + t) = if X b s t = true then nI (pX b s t) else -1) ∧ (∀ q, q < 16 → σ 6 q = if inA b q = true then nI (rank b (q / 4)) else -1) ∧ ∀ q, q < 16 → σ 7 q = if inD b q = true then nI (rank b (4 + q % 4)) else -1
theorem DS.keep {b : Bd} {σ σ' : SC} (h : DS b σ) (hr : ∀ r, 2 ≤ r → r ≤ 7 → σ' r = σ r) (hf : ∀ j, 1 ≤ j → j ≤ 3 → σ' 17 j = σ 17 j) : DS b σ' := by
  unfold DS
  rw [hr 2 (by decide) (by decide), hr 3 (by decide) (by decide), hr 4 (by decide) (by decide), hr 5 (by decide) (by decide), hr 6 (by decide) (by decide), hr 7 (by decide) (by decide), hf 1 (by decide) (by decide), hf 2 (by decide) (by decide), hf 3 (by decide) (by decide)]
  exact h
theorem xq_lt {k m : Nat} (hk : k < 8) (hm : m < 8) (h : k < 4 ∧ 4 ≤ m ∨ m < 4 ∧ 4 ≤ k) : xq k m < 16 := by
  unfold xq; split <;> omega
theorem read_ok {b : Bd} {σ : SC} (hb : CB b σ) (hv : VB b) : ∃ σ', f_X6_read σ = some σ' ∧ DS b σ' ∧ (∀ r, r < 2 ∨ 7 < r → r ≠ 17 → σ' r = σ r) ∧ ∀ j, j < 1 ∨ 3 < j → σ' 17 j = σ 17 j := by
  have f1 := LC_frame b σ 8
  have f2 := TX_frame b (LC b σ 8) 16
  have hX : XPre b (LC b σ 8) := by
    refine ⟨(LC_cnt b σ 8).2 (by decide), fun μ h1 h2 => (LC_slots b σ 8 μ h1 h2).1, fun q hq => ?_, fun q hq => ?_⟩
    · rw [LC_across b σ 8 (by decide) q hq]
      by_cases g : inA b q = true
      · rw [if_pos ⟨by omega, g⟩, if_pos g]
      · rw [if_neg (fun z => g z.2), if_neg g]
    · rw [LC_down b σ 8 (by decide) q hq]
      by_cases g : inD b q = true
      · rw [if_pos ⟨by omega, g⟩, if_pos g]
      · rw [if_neg (fun z => g z.2), if_neg g]
  refine ⟨TX b (LC b σ 8) 16, by rw [read_lines hb hv, readCrossings_ok hX], ⟨?_, ?_, TX_cnt b _ 16, ?_, ?_, ?_⟩, ?_, ?_⟩
  · rw [f2.2 1 (by decide)]; exact (LC_cnt b σ 8).1
  · rw [f2.2 2 (by decide)]; exact (LC_cnt b σ 8).2 (by decide)
  · intro s hs'
    obtain ⟨k1, k2, k3⟩ := lnb_ok hs'
    have hsl := LC_slots b σ 8 (lnb b s) k1 k2
    rw [k3] at hsl
    have h4 := TX_4 b (LC b σ 8) 16 (by decide) (lnb b s) k1 k2
    rw [k3] at h4
    refine ⟨by rw [f2.1 2 (by decide) (by decide) (by decide)]; exact hsl.1, by rw [f2.1 3 (by decide) (by decide) (by decide)]; exact hsl.2, h4.cong (fun t ht => ?_), fun t ht => ?_⟩
    · apply Bool.eq_iff_iff.mpr
      rw [xset_iff, Bool.and_eq_true, decide_eq_true_eq]
      constructor
      · rintro ⟨m, a1, a2, rfl, a4, a5⟩
        refine ⟨rank_lt b a2 a1, ?_⟩
        unfold X; rw [lnb_rank a1 a2]; exact a4
      · rintro ⟨a1, a2⟩
        obtain ⟨m1, m2, m3⟩ := lnb_ok a1
        exact ⟨lnb b t, m1, m2, m3.symm, a2, xq_lt k1 m1 ((xl_iff k1 m1).mp a2).1⟩
    · obtain ⟨m1, m2, m3⟩ := lnb_ok ht
      have h5 := TX_5 b (LC b σ 8) 16 (by decide) (lnb b s) k1 k2 (lnb b t) m1 m2
      rw [k3, m3] at h5
      rw [h5]
      unfold X pX
      by_cases g : xl b (lnb b s) (lnb b t) = true
      · rw [if_pos ⟨g, xq_lt k1 m1 ((xl_iff k1 m1).mp g).1⟩, if_pos g]
      · rw [if_neg (fun z => g z.1), if_neg g]
  · rw [f2.1 6 (by decide) (by decide) (by decide)]; exact hX.2.2.1
  · rw [f2.1 7 (by decide) (by decide) (by decide)]; exact hX.2.2.2
  · intro r h1 h2
    rw [f2.1 r (by omega) (by omega) h2, f1.1 r (by omega) (by omega) (by omega) (by omega) h2]
  · intro j h
    rw [f2.2 j (by omega), f1.2 j (by omega) (by omega)]
/-- the reference's slots stand as the board says -/
def RS (b : Bd) (τ : SR) : Prop := τ.1 9 2 = nI (nS b) ∧ ∀ s, s < nS b → τ.1 4 s = nI (sF b s) ∧ τ.1 5 s = nI (sZ b s) ∧ τ.1 6 s = nI (sT b s)
/-- what the reference keeps from call to call stays -/
def FR (τ τ' : SR) : Prop := τ'.1 0 = τ.1 0 ∧ τ'.1 1 = τ.1 1 ∧ τ'.1 2 = τ.1 2 ∧ τ'.1 3 = τ.1 3 ∧ τ'.1 9 0 = τ.1 9 0 ∧ τ'.1 9 1 = τ.1 9 1
theorem FR.rf {τ : SR} : FR τ τ := ⟨rfl, rfl, rfl, rfl, rfl, rfl⟩
theorem FR.tr {a c d : SR} (h1 : FR a c) (h2 : FR c d) : FR a d := ⟨h2.1.trans h1.1, h2.2.1.trans h1.2.1, h2.2.2.1.trans h1.2.2.1, h2.2.2.2.1.trans h1.2.2.2.1, h2.2.2.2.2.1.trans h1.2.2.2.2.1, h2.2.2.2.2.2.trans h1.2.2.2.2.2⟩
theorem FR.rb {b : Bd} {τ τ' : SR} (h : FR τ τ') (hb : RB b τ) : RB b τ' := by unfold RB; rw [h.1]; exact hb
theorem lay_ok {b : Bd} {τ : SR} (hb : RB b τ) (hv : VB b) : ∃ τ', f_X8_laySlots τ = some τ' ∧ RS b τ' ∧ FR τ τ' ∧ (∀ r, r ≠ 4 → r ≠ 5 → r ≠ 6 → r ≠ 9 → τ'.1 r = τ.1 r) := by
  obtain ⟨f1, f2, f3⟩ := LT_frame b τ 8
  refine ⟨LT b τ 8, laySlots_ok hb hv, ⟨(LT_ok b τ 8).1, fun s hs' => ?_⟩, ⟨f1 0 (by decide) (by decide) (by decide) (by decide), f1 1 (by decide) (by decide) (by decide) (by decide), f1 2 (by decide) (by decide) (by decide) (by decide), f1 3 (by decide) (by decide) (by decide) (by decide), f2 0 (by decide), f2 1 (by decide)⟩, f1⟩
  obtain ⟨k1, k2, k3⟩ := lnb_ok hs'
  have := (LT_ok b τ 8).2 (lnb b s) k1 k2
  rw [k3] at this
  exact this
