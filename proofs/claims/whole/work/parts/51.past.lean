/-! what was: the ring and the images, for both sides -/
def PR (σ : SC) (τ : SR) : Prop := ∃ (E : Nat → Bd) (a d m : Nat), (∀ k, k < 12 → VB (E k) ∧ CV (E k) (fun i => σ 16 (33 * k + i)) (fun j => σ 16 (33 * k + 16 + j)) (σ 16 (33 * k + 32))) ∧ (∀ k, k < 10 → RV (E k) (fun i => τ.1 1 (33 * k + i))) ∧ (∀ k, k < 2 → RV (E (10 + k)) (fun i => τ.1 3 (33 * k + i))) ∧ a < 10 ∧ d ≤ 10 ∧ σ 17 5 = nI a ∧ τ.1 9 1 = nI a ∧ σ 17 6 = nI d ∧ τ.1 9 0 = nI d ∧ m < 4 ∧ σ 17 7 = nI m ∧ ∀ k, k < 2 → τ.1 2 k = b2 (m.testBit k)
theorem PR.keep {σ σ' : SC} {τ τ' : SR} (h : PR σ τ) (h16 : σ' 16 = σ 16) (hf : ∀ j, 5 ≤ j → j ≤ 7 → σ' 17 j = σ 17 j) (h1 : τ'.1 1 = τ.1 1) (h2 : τ'.1 2 = τ.1 2) (h3 : τ'.1 3 = τ.1 3) (h90 : τ'.1 9 0 = τ.1 9 0) (h91 : τ'.1 9 1 = τ.1 9 1) : PR σ' τ' := by
  unfold PR
  rw [h16, hf 5 (by decide) (by decide), hf 6 (by decide) (by decide), hf 7 (by decide) (by decide), h1, h2, h3, h90, h91]
  exact h
def Rel (σ : SC) (τ : SR) : Prop := ∃ b, VB b ∧ CB b σ ∧ RB b τ ∧ Der b σ ∧ PR σ τ
theorem Rel.fr {σ : SC} {τ τ' : SR} (h : Rel σ τ) (hf : FR τ τ') : Rel σ τ' := by
  obtain ⟨b, h1, h2, h3, h4, h5⟩ := h
  exact ⟨b, h1, h2, hf.rb h3, h4, h5.keep rfl (fun _ _ _ => rfl) hf.2.1 hf.2.2.1 hf.2.2.2.1 hf.2.2.2.2.1 hf.2.2.2.2.2⟩
/-- only the filler's own rows differ -/
def FQ (σ σ' : SC) : Prop := (∀ r, r ≠ 13 → r ≠ 14 → r ≠ 15 → r ≠ 17 → σ' r = σ r) ∧ ∀ j, j ≠ 4 → σ' 17 j = σ 17 j
theorem FQ.rf {σ : SC} : FQ σ σ := ⟨fun _ _ _ _ _ => rfl, fun _ _ => rfl⟩
theorem FQ.tr {a c d : SC} (h1 : FQ a c) (h2 : FQ c d) : FQ a d := ⟨fun r a1 a2 a3 a4 => (h2.1 r a1 a2 a3 a4).trans (h1.1 r a1 a2 a3 a4), fun j hj => (h2.2 j hj).trans (h1.2 j hj)⟩
theorem FQ.cb {b : Bd} {σ σ' : SC} (h : FQ σ σ') (hb : CB b σ) : CB b σ' := by
  unfold CB; rw [h.1 0 (by decide) (by decide) (by decide) (by decide), h.1 1 (by decide) (by decide) (by decide) (by decide), h.2 0 (by decide)]; exact hb
theorem FQ.der {b : Bd} {σ σ' : SC} (h : FQ σ σ') (hd : Der b σ) : Der b σ' := by
  refine ⟨hd.1.keep (fun r _ _ => h.1 r (by omega) (by omega) (by omega) (by omega)) (fun j _ _ => h.2 j (by omega)), hd.2.1.keep (h.1 8 (by decide) (by decide) (by decide) (by decide)) (h.1 9 (by decide) (by decide) (by decide) (by decide)) (h.1 10 (by decide) (by decide) (by decide) (by decide)), ?_⟩
  unfold DC; rw [h.1 11 (by decide) (by decide) (by decide) (by decide), h.1 12 (by decide) (by decide) (by decide) (by decide)]; exact hd.2.2
theorem Rel.fq {σ σ' : SC} {τ : SR} (h : Rel σ τ) (hf : FQ σ σ') : Rel σ' τ := by
  obtain ⟨b, h1, h2, h3, h4, h5⟩ := h
  exact ⟨b, h1, hf.cb h2, h3, hf.der h4, h5.keep (hf.1 16 (by decide) (by decide) (by decide) (by decide)) (fun j _ _ => hf.2 j (by omega)) rfl rfl rfl rfl rfl⟩
/-! saving and loading -/
theorem lnC16 : lnC 16 = 396 := rfl
theorem save_ok {σ : SC} {k : Nat} (hk : k < 12) : ∃ σ', f_X4_save σ (nI k) = some σ' ∧ (∀ r, r ≠ 16 → σ' r = σ r) ∧ (∀ i, i < 16 → σ' 16 (33 * k + i) = σ 0 i) ∧ (∀ j, j < 16 → σ' 16 (33 * k + 16 + j) = σ 1 j) ∧ σ' 16 (33 * k + 32) = σ 17 0 ∧ ∀ q, q < 33 * k ∨ 33 * k + 33 ≤ q → σ' 16 q = σ 16 q := by
  have loop2 : ∀ (m n j : Nat) (s : SC), j + m = 16 → m < n → (∀ r, r ≠ 16 → s r = σ r) → (∀ i, i < 16 → s 16 (33 * k + i) = σ 0 i) → (∀ i, i < j → s 16 (33 * k + 16 + i) = σ 1 i) → (∀ q, q < 33 * k ∨ 33 * k + 33 ≤ q → s 16 q = σ 16 q) → ∃ σ', f_X4_save_L44 (nI (k * 33)) n s (nI j) = some σ' ∧ (∀ r, r ≠ 16 → σ' r = σ r) ∧ (∀ i, i < 16 → σ' 16 (33 * k + i) = σ 0 i) ∧ (∀ j, j < 16 → σ' 16 (33 * k + 16 + j) = σ 1 j) ∧ σ' 16 (33 * k + 32) = σ 17 0 ∧ ∀ q, q < 33 * k ∨ 33 * k + 33 ≤ q → σ' 16 q = σ 16 q := by
    intro m
    induction m with
    | zero =>
      intro n j s h1 h2 h3 h4 h5 h6
      obtain ⟨n, rfl⟩ := succ_of h2
      rw [f_X4_save_L44_s, if_le (by omega) (by omega), nI_add, nI_add, wr_in _ _ (by rw [lnC16]; omega)]
      refine ⟨_, rfl, fun r hr => by rw [su_row _ _ _ _ hr, h3 r hr], fun i hi => ?_, fun i hi => ?_, ?_, fun q hq => ?_⟩
      · rw [su_at, if_neg (by omega)]; exact h4 i hi
      · rw [su_at, if_neg (by omega)]; exact h5 i (by omega)
      · rw [su_at, if_pos ⟨rfl, by omega⟩, h3 17 (by decide)]
      · rw [su_at, if_neg (by omega)]; exact h6 q hq
    | succ m ih =>
      intro n j s h1 h2 h3 h4 h5 h6
      obtain ⟨n, rfl⟩ := succ_of h2
      rw [f_X4_save_L44_s, if_nle (by omega) (by omega), nI_add, nI_add, wr_in _ _ (by rw [lnC16]; omega), rd_in s (show j < lnC 1 by show j < 16; omega), h3 1 (by decide), nI_1]
      refine ih n (j + 1) _ (by omega) (by omega) (fun r hr => by rw [su_row _ _ _ _ hr, h3 r hr]) (fun i hi => ?_) (fun i hi => ?_) (fun q hq => ?_)
      · rw [su_at, if_neg (by omega)]; exact h4 i hi
      · rw [su_at]
        by_cases e : i = j
        · rw [if_pos ⟨rfl, by omega⟩, e]
        · rw [if_neg (by omega)]; exact h5 i (by omega)
      · rw [su_at, if_neg (by omega)]; exact h6 q hq
  have loop1 : ∀ (m n j : Nat) (s : SC), j + m = 16 → m < n → (∀ r, r ≠ 16 → s r = σ r) → (∀ i, i < j → s 16 (33 * k + i) = σ 0 i) → (∀ q, q < 33 * k ∨ 33 * k + 33 ≤ q → s 16 q = σ 16 q) → ∃ σ', f_X4_save_L8 (nI (k * 33)) (fun σ_41 => f_X4_save_L44 (nI (k * 33)) FU σ_41 0) n s (nI j) = some σ' ∧ (∀ r, r ≠ 16 → σ' r = σ r) ∧ (∀ i, i < 16 → σ' 16 (33 * k + i) = σ 0 i) ∧ (∀ j, j < 16 → σ' 16 (33 * k + 16 + j) = σ 1 j) ∧ σ' 16 (33 * k + 32) = σ 17 0 ∧ ∀ q, q < 33 * k ∨ 33 * k + 33 ≤ q → σ' 16 q = σ 16 q := by
    intro m
    induction m with
    | zero =>
      intro n j s h1 h2 h3 h4 h6
      obtain ⟨n, rfl⟩ := succ_of h2
      rw [f_X4_save_L8_s, if_le (by omega) (by omega)]
      have := loop2 16 FU 0 s (by omega) (by have := FU_big; omega) h3 (fun i hi => h4 i (by omega)) (fun i hi => by omega) h6
      rwa [nI_0] at this
    | succ m ih =>
      intro n j s h1 h2 h3 h4 h6
      obtain ⟨n, rfl⟩ := succ_of h2
      rw [f_X4_save_L8_s, if_nle (by omega) (by omega), nI_add, wr_in _ _ (by rw [lnC16]; omega), rd_in s (show j < lnC 0 by show j < 16; omega), h3 0 (by decide), nI_1]
      refine ih n (j + 1) _ (by omega) (by omega) (fun r hr => by rw [su_row _ _ _ _ hr, h3 r hr]) (fun i hi => ?_) (fun q hq => ?_)
      · rw [su_at]
        by_cases e : i = j
        · rw [if_pos ⟨rfl, by omega⟩, e]
        · rw [if_neg (by omega)]; exact h4 i (by omega)
      · rw [su_at, if_neg (by omega)]; exact h6 q hq
  unfold f_X4_save
  rw [pk_mul]
  have := loop1 16 FU 0 σ (by omega) (by have := FU_big; omega) (fun _ _ => rfl) (fun i hi => by omega) (fun _ _ => rfl)
  rwa [nI_0] at this
theorem load_ok {σ : SC} {k : Nat} (hk : k < 12) : ∃ σ', f_X4_load σ (nI k) = some σ' ∧ (∀ r, r ≠ 0 → r ≠ 1 → r ≠ 17 → σ' r = σ r) ∧ (∀ i, i < 16 → σ' 0 i = σ 16 (33 * k + i)) ∧ (∀ j, j < 16 → σ' 1 j = σ 16 (33 * k + 16 + j)) ∧ σ' 17 0 = σ 16 (33 * k + 32) ∧ ∀ j, j ≠ 0 → σ' 17 j = σ 17 j := by
  have loop2 : ∀ (m n j : Nat) (s : SC), j + m = 16 → m < n → (∀ r, r ≠ 0 → r ≠ 1 → s r = σ r) → (∀ i, i < 16 → s 0 i = σ 16 (33 * k + i)) → (∀ i, i < j → s 1 i = σ 16 (33 * k + 16 + i)) → ∃ σ', f_X4_load_L44 (nI (k * 33)) n s (nI j) = some σ' ∧ (∀ r, r ≠ 0 → r ≠ 1 → r ≠ 17 → σ' r = σ r) ∧ (∀ i, i < 16 → σ' 0 i = σ 16 (33 * k + i)) ∧ (∀ j, j < 16 → σ' 1 j = σ 16 (33 * k + 16 + j)) ∧ σ' 17 0 = σ 16 (33 * k + 32) ∧ ∀ j, j ≠ 0 → σ' 17 j = σ 17 j := by
    intro m
    induction m with
    | zero =>
      intro n j s h1 h2 h3 h4 h5
      obtain ⟨n, rfl⟩ := succ_of h2
      rw [f_X4_load_L44_s, if_le (by omega) (by omega), nI_add, nI_add, rd_in _ (by rw [lnC16]; omega), h3 16 (by decide) (by decide)]
      refine ⟨_, rfl, fun r a1 a2 a3 => by rw [su_row _ _ _ _ a3, h3 r a1 a2], fun i hi => ?_, fun i hi => ?_, ?_, fun q hq => ?_⟩
      · rw [su_row _ _ _ _ (by decide)]; exact h4 i hi
      · rw [su_row _ _ _ _ (by decide)]; exact h5 i (by omega)
      · rw [su_at, if_pos ⟨rfl, rfl⟩, Nat.mul_comm k 33]
      · rw [su_at, if_neg (fun z => hq z.2), h3 17 (by decide) (by decide)]
    | succ m ih =>
      intro n j s h1 h2 h3 h4 h5
      obtain ⟨n, rfl⟩ := succ_of h2
      rw [f_X4_load_L44_s, if_nle (by omega) (by omega), nI_add, nI_add, wr_in _ _ (show j < lnC 1 by show j < 16; omega), rd_in s (by rw [lnC16]; omega), h3 16 (by decide) (by decide), nI_1]
      refine ih n (j + 1) _ (by omega) (by omega) (fun r a1 a2 => by rw [su_row _ _ _ _ a2, h3 r a1 a2]) (fun i hi => ?_) (fun i hi => ?_)
      · rw [su_row _ _ _ _ (by decide)]; exact h4 i hi
      · rw [su_at]
        by_cases e : i = j
        · rw [if_pos ⟨rfl, e⟩, e, Nat.mul_comm k 33]
        · rw [if_neg (by omega)]; exact h5 i (by omega)
  have loop1 : ∀ (m n j : Nat) (s : SC), j + m = 16 → m < n → (∀ r, r ≠ 0 → s r = σ r) → (∀ i, i < j → s 0 i = σ 16 (33 * k + i)) → ∃ σ', f_X4_load_L8 (nI (k * 33)) (fun σ_41 => f_X4_load_L44 (nI (k * 33)) FU σ_41 0) n s (nI j) = some σ' ∧ (∀ r, r ≠ 0 → r ≠ 1 → r ≠ 17 → σ' r = σ r) ∧ (∀ i, i < 16 → σ' 0 i = σ 16 (33 * k + i)) ∧ (∀ j, j < 16 → σ' 1 j = σ 16 (33 * k + 16 + j)) ∧ σ' 17 0 = σ 16 (33 * k + 32) ∧ ∀ j, j ≠ 0 → σ' 17 j = σ 17 j := by
    intro m
    induction m with
    | zero =>
      intro n j s h1 h2 h3 h4
      obtain ⟨n, rfl⟩ := succ_of h2
      rw [f_X4_load_L8_s, if_le (by omega) (by omega)]
      have := loop2 16 FU 0 s (by omega) (by have := FU_big; omega) (fun r a _ => h3 r a) (fun i hi => h4 i (by omega)) (fun i hi => by omega)
      rwa [nI_0] at this
    | succ m ih =>
      intro n j s h1 h2 h3 h4
      obtain ⟨n, rfl⟩ := succ_of h2
      rw [f_X4_load_L8_s, if_nle (by omega) (by omega), nI_add, wr_in _ _ (show j < lnC 0 by show j < 16; omega), rd_in s (by rw [lnC16]; omega), h3 16 (by decide), nI_1]
      refine ih n (j + 1) _ (by omega) (by omega) (fun r hr => by rw [su_row _ _ _ _ hr, h3 r hr]) (fun i hi => ?_)
      rw [su_at]
      by_cases e : i = j
      · rw [if_pos ⟨rfl, e⟩, e, Nat.mul_comm k 33]
      · rw [if_neg (by omega)]; exact h4 i (by omega)
  unfold f_X4_load
  rw [pk_mul]
  have := loop1 16 FU 0 σ (by omega) (by have := FU_big; omega) (fun _ _ => rfl) (fun i hi => by omega)
  rwa [nI_0] at this
theorem remember_ok {τ : SR} {a d : Nat} (ha : a < 10) (hd : d ≤ 10) (h1 : τ.1 9 1 = nI a) (h0 : τ.1 9 0 = nI d) : ∃ τ', f_X8_remember τ = some τ' ∧ (∀ r, r ≠ 1 → r ≠ 9 → τ'.1 r = τ.1 r) ∧ (∀ i, i < 33 → τ'.1 1 (33 * a + i) = τ.1 0 i) ∧ (∀ q, q < 33 * a ∨ 33 * a + 33 ≤ q → τ'.1 1 q = τ.1 1 q) ∧ τ'.1 9 1 = nI ((a + 1) % 10) ∧ τ'.1 9 0 = nI (min (d + 1) 10) ∧ τ'.1 9 2 = τ.1 9 2 := by
  have loop : ∀ (kx : SR → Option SR) (m n j : Nat) (s : SR), j + m = 33 → m < n → (∀ r, r ≠ 1 → s.1 r = τ.1 r) → (∀ i, i < j → s.1 1 (33 * a + i) = τ.1 0 i) → (∀ q, q < 33 * a ∨ 33 * a + 33 ≤ q → s.1 1 q = τ.1 1 q) → ∃ s', f_X8_remember_L2 kx n s (nI j) = kx s' ∧ (∀ r, r ≠ 1 → s'.1 r = τ.1 r) ∧ (∀ i, i < 33 → s'.1 1 (33 * a + i) = τ.1 0 i) ∧ (∀ q, q < 33 * a ∨ 33 * a + 33 ≤ q → s'.1 1 q = τ.1 1 q) := by
    intro kx m
    induction m with
    | zero =>
      intro n j s h1 h2 h3 h4 h5
      obtain ⟨n, rfl⟩ := succ_of h2
      rw [f_X8_remember_L2_s, if_le (by omega) (by omega)]
      exact ⟨s, rfl, h3, fun i hi => h4 i (by omega), h5⟩
    | succ m ih =>
      intro n j s g1 g2 g3 g4 g5
      obtain ⟨n, rfl⟩ := succ_of g2
      rw [f_X8_remember_L2_s, if_nle (by omega) (by omega), if_in (by omega), g3 9 (by decide), h1, pk_mul, nI_add, if_in (by omega), ix_nI (by omega), ix_nI (by omega), g3 0 (by decide), nI_1]
      refine ih n (j + 1) _ (by omega) (by omega) (fun r hr => by rw [rsu_row _ _ _ _ hr, g3 r hr]) (fun i hi => ?_) (fun q hq => ?_)
      · rw [rsu_at]
        by_cases e : i = j
        · rw [if_pos ⟨rfl, by omega⟩, e]
        · rw [if_neg (by omega)]; exact g4 i (by omega)
      · rw [rsu_at, if_neg (by omega)]; exact g5 q hq
  unfold f_X8_remember
  obtain ⟨s, e1, e2, e3, e4⟩ := loop (fun σ_34 => (if nI 10 ≤ (σ_34.1 9 0) then (some (rsu (rsu σ_34 9 1 (((σ_34.1 9 1) + 1) - ((σ_34.1 9 1) + 1) / nI 10 * nI 10)) 9 0 ((σ_34.1 9 0) + 0))) else (some (rsu (rsu σ_34 9 1 (((σ_34.1 9 1) + 1) - ((σ_34.1 9 1) + 1) / nI 10 * nI 10)) 9 0 ((σ_34.1 9 0) + 1))))) 33 FU 0 τ (by omega) (by have := FU_big; omega) (fun _ _ => rfl) (fun i hi => by omega) (fun _ _ => rfl)
  rw [nI_0] at e1
  rw [e1, e2 9 (by decide), h1, h0, nI_1, pk_rem (by omega) (by decide) (by decide)]
  have fin : ∀ v, v = nI (min (d + 1) 10) → ∃ τ', (some (rsu (rsu s 9 1 (nI ((a + 1) % 10))) 9 0 v)) = some τ' ∧ (∀ r, r ≠ 1 → r ≠ 9 → τ'.1 r = τ.1 r) ∧ (∀ i, i < 33 → τ'.1 1 (33 * a + i) = τ.1 0 i) ∧ (∀ q, q < 33 * a ∨ 33 * a + 33 ≤ q → τ'.1 1 q = τ.1 1 q) ∧ τ'.1 9 1 = nI ((a + 1) % 10) ∧ τ'.1 9 0 = nI (min (d + 1) 10) ∧ τ'.1 9 2 = τ.1 9 2 := by
    intro v hv
    refine ⟨_, rfl, fun r a1 a2 => by rw [rsu_row _ _ _ _ a2, rsu_row _ _ _ _ a2, e2 r a1], fun i hi => by rw [rsu_row _ _ _ _ (by decide), rsu_row _ _ _ _ (by decide)]; exact e3 i hi, fun q hq => by rw [rsu_row _ _ _ _ (by decide), rsu_row _ _ _ _ (by decide)]; exact e4 q hq, ?_, ?_, ?_⟩
    · rw [rsu_at, if_neg (by decide), rsu_at, if_pos ⟨rfl, rfl⟩]
    · rw [rsu_at, if_pos ⟨rfl, rfl⟩, hv]
    · rw [rsu_at, if_neg (by decide), rsu_at, if_neg (by decide), e2 9 (by decide)]
  by_cases g : 10 ≤ d
  · rw [if_le g (by omega)]
    exact fin _ (by rw [Int32.add_zero]; congr 1; omega)
  · rw [if_nle (by omega) (by omega)]
    exact fin _ (by rw [nI_1]; congr 1; omega)
/-- a change is noted on both sides -/
theorem note_rel {b : Bd} {σ : SC} {τ : SR} (hv : VB b) (hc : CB b σ) (hr : RB b τ) (hp : PR σ τ) : ∃ σ' τ', f_X4_note σ = some σ' ∧ f_X8_remember τ = some τ' ∧ PR σ' τ' ∧ (∀ r, r ≠ 16 → r ≠ 17 → σ' r = σ r) ∧ (∀ j, j < 5 → σ' 17 j = σ 17 j) ∧ (∀ r, r ≠ 1 → r ≠ 9 → τ'.1 r = τ.1 r) ∧ τ'.1 9 2 = τ.1 9 2 := by
  obtain ⟨E, a, d, m, p1, p2, p3, p4, p5, p6, p7, p8, p9, p10, p11, p12⟩ := hp
  obtain ⟨τ', t1, t2, t3, t4, t5, t6, t7⟩ := remember_ok p4 p5 p7 p9
  obtain ⟨s, s1, s2, s3, s4, s5, s6⟩ := save_ok (σ := σ) (k := a) (by omega)
  have hmin : (if nI 10 < nI (d + 1) then nI 10 else nI (d + 1)) = nI (min (d + 1) 10) := by
    by_cases g : 10 < d + 1
    · rw [if_lt g (by omega)]; congr 1; omega
    · rw [if_nlt (by omega) (by omega)]; congr 1; omega
  refine ⟨su (su s 17 5 (nI ((a + 1) % 10))) 17 6 (nI (min (d + 1) 10)), τ', ?_, t1, ?_, ?_, ?_, t2, t7⟩
  · unfold f_X4_note
    rw [p6, s1, Option.bind_some, s2 17 (by decide), p6, p8, nI_1, nI_1, pk_rem (by omega) (by decide) (by decide), hmin]
  · refine ⟨fun k => if k = a then b else E k, (a + 1) % 10, min (d + 1) 10, m, fun k hk => ?_, fun k hk => ?_, fun k hk => ?_, by omega, by omega, ?_, t5, ?_, t6, p10, ?_, fun k hk => by rw [t2 2 (by decide) (by decide)]; exact p12 k hk⟩
    · rw [su_row _ _ _ _ (by decide), su_row _ _ _ _ (by decide)]
      by_cases e : k = a
      · simp only [if_pos e]
        rw [e]
        exact ⟨hv, fun i hi => (s3 i hi).trans (hc.1 i hi), s5.trans hc.2.1, fun j hj => (s4 j hj).trans (hc.2.2 j hj)⟩
      · simp only [if_neg e]
        obtain ⟨q1, q2, q3, q4⟩ := p1 k hk
        exact ⟨q1, fun i hi => (s6 _ (by omega)).trans (q2 i hi), (s6 _ (by omega)).trans q3, fun j hj => (s6 _ (by omega)).trans (q4 j hj)⟩
    · by_cases e : k = a
      · simp only [if_pos e]
        rw [e]
        exact ⟨fun i hi => (t3 i (by omega)).trans (hr.1 i hi), (t3 16 (by omega)).trans hr.2.1, fun j hj => (t3 (17 + j) (by omega)).trans (hr.2.2 j hj)⟩
      · simp only [if_neg e]
        obtain ⟨q2, q3, q4⟩ := p2 k hk
        exact ⟨fun i hi => (t4 _ (by omega)).trans (q2 i hi), (t4 _ (by omega)).trans q3, fun j hj => (t4 _ (by omega)).trans (q4 j hj)⟩
    · simp only [if_neg (show 10 + k ≠ a by omega)]
      rw [t2 3 (by decide) (by decide)]
      exact p3 k hk
    · rw [su_at, if_neg (by decide), su_at, if_pos ⟨rfl, rfl⟩]
    · rw [su_at, if_pos ⟨rfl, rfl⟩]
    · rw [su_at, if_neg (by decide), su_at, if_neg (by decide), s2 17 (by decide)]; exact p11
  · intro r a1 a2
    rw [su_row _ _ _ _ a2, su_row _ _ _ _ a2, s2 r a1]
  · intro j hj
    rw [su_at, if_neg (by omega), su_at, if_neg (by omega), s2 17 (by decide)]
/-- a board that has changed on both sides is renewed -/
theorem finish {b : Bd} {σ : SC} {τ : SR} (hv : VB b) (hc : CB b σ) (hr : RB b τ) (hp : PR σ τ) : ∃ σ', f_X7_renew σ = some σ' ∧ Rel σ' τ ∧ σ' 17 1 = nI (nS b) ∧ ∀ j, j < 1 ∨ 3 < j → σ' 17 j = σ 17 j := by
  obtain ⟨σ', e1, e2, e3, e4, e5⟩ := renew_ok hc hv
  exact ⟨σ', e1, ⟨b, hv, e2, hr, e3, hp.keep (e4 16 (by decide) (by decide)) (fun j _ _ => e5 j (by omega)) rfl rfl rfl rfl rfl⟩, e3.1.1, e5⟩
