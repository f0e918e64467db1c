/-! the reference lays a slot -/
def ARR (τ : SR) (c f len step : Nat) : SR := rsu (rsu (rsu (rsu τ 4 c (nI f)) 5 c (nI len)) 6 c (nI step)) 9 2 (nI (c + 1))
section RO
variable {b : Bd} {st step : Nat}
theorem ro_open {τ : SR} {n len i : Nat} (h0 : ∀ j, j < 16 → τ.1 0 j = rV (b.1 j)) (hv : ∀ j, j < 16 → b.1 j ≤ 7) (hi : i < 4) (hc : st + i * step < 16) (ho : b.1 (st + i * step) ≠ 7) : f_X8_layLine_L5 (nI st) (nI step) (n + 1) τ (nI len) (nI i) = f_X8_layLine_L5 (nI st) (nI step) n τ (nI (len + 1)) (nI (i + 1)) := by
  rw [f_X8_layLine_L5_s, if_nlt (by omega) (by omega), if_nle (by omega) (by omega), pk_mul, nI_add, Nat.mul_comm step i, if_in (by omega), ix_nI (by omega), h0 _ hc, if_neg (by rw [rV_m1 (hv _ hc)]; exact ho)]
  unfold f_X8_layLine_K37 f_X8_layLine_K96
  rw [if_neg (by decide), if_neg (by decide), nI_1, nI_1]
theorem ro_small {τ : SR} {n len i : Nat} (h0 : ∀ j, j < 16 → τ.1 0 j = rV (b.1 j)) (hv : ∀ j, j < 16 → b.1 j ≤ 7) (hi : i ≤ 4) (hl : len < 2) (hc : i < 4 → st + i * step < 16 ∧ b.1 (st + i * step) = 7) : f_X8_layLine_L5 (nI st) (nI step) (n + 1) τ (nI len) (nI i) = f_X8_layLine_L5 (nI st) (nI step) n τ (nI 0) (nI (i + 1)) := by
  have hK : f_X8_layLine_K36 (f_X8_layLine_L5 (nI st) (nI step) n) τ (nI st) (nI step) (nI len) (nI i) = f_X8_layLine_L5 (nI st) (nI step) n τ (nI 0) (nI (i + 1)) := by
    unfold f_X8_layLine_K36 f_X8_layLine_K37 f_X8_layLine_K96
    rw [if_pos rfl, if_pos (show nI len ≤ 1 from nI_le (b := 1) (by omega) (by omega)), if_pos rfl, nI_1, nI_0]
  rw [f_X8_layLine_L5_s, if_nlt (by omega) (by omega)]
  by_cases h4 : i < 4
  · obtain ⟨g1, g2⟩ := hc h4
    rw [if_nle h4 (by omega), pk_mul, nI_add, Nat.mul_comm step i, if_in (by omega), ix_nI (by omega), h0 _ g1, if_pos (by rw [rV_m1 (hv _ g1)]; exact g2), hK]
  · rw [if_le (by omega) (by omega), hK]
theorem ro_big {τ : SR} {n len i c : Nat} (h0 : ∀ j, j < 16 → τ.1 0 j = rV (b.1 j)) (hv : ∀ j, j < 16 → b.1 j ≤ 7) (hi : i ≤ 4) (hl : 2 ≤ len) (hli : len ≤ i) (hc8 : c < 8) (hcnt : τ.1 9 2 = nI c) (hc : i < 4 → st + i * step < 16 ∧ b.1 (st + i * step) = 7) : f_X8_layLine_L5 (nI st) (nI step) (n + 1) τ (nI len) (nI i) = f_X8_layLine_L5 (nI st) (nI step) n (ARR τ c (st + (i - len) * step) len step) (nI 0) (nI (i + 1)) := by
  have hK : f_X8_layLine_K36 (f_X8_layLine_L5 (nI st) (nI step) n) τ (nI st) (nI step) (nI len) (nI i) = f_X8_layLine_L5 (nI st) (nI step) n (ARR τ c (st + (i - len) * step) len step) (nI 0) (nI (i + 1)) := by
    unfold f_X8_layLine_K36 f_X8_layLine_K37 f_X8_layLine_K96
    rw [if_pos rfl, if_neg (show ¬ nI len ≤ 1 from nI_ge (a := 1) (by omega) (by omega)), hcnt, if_in (by omega), if_in (by omega), if_in (by omega), if_pos rfl, ix_nI (by omega), pk_sub hli, pk_mul, nI_add, nI_1, nI_1, nI_0, Nat.mul_comm step]
    rfl
  rw [f_X8_layLine_L5_s, if_nlt (by omega) (by omega)]
  by_cases h4 : i < 4
  · obtain ⟨g1, g2⟩ := hc h4
    rw [if_nle h4 (by omega), pk_mul, nI_add, Nat.mul_comm step i, if_in (by omega), ix_nI (by omega), h0 _ g1, if_pos (by rw [rV_m1 (hv _ g1)]; exact g2), hK]
  · rw [if_le (by omega) (by omega), hK]
theorem ro_end {τ : SR} {n len : Nat} : f_X8_layLine_L5 (nI st) (nI step) (n + 1) τ (nI len) (nI 5) = some τ := by
  rw [f_X8_layLine_L5_s, if_lt (by omega) (by omega)]
end RO
theorem ARR_row {τ : SR} {c f len step r : Nat} (h1 : r ≠ 4) (h2 : r ≠ 5) (h3 : r ≠ 6) (h4 : r ≠ 9) : (ARR τ c f len step).1 r = τ.1 r := by
  unfold ARR
  rw [rsu_row _ _ _ _ h4, rsu_row _ _ _ _ h3, rsu_row _ _ _ _ h2, rsu_row _ _ _ _ h1]
set_option maxHeartbeats 2000000 in
theorem layLine_ok {b : Bd} {τ : SR} {k c : Nat} (hk : k < 8) (h0 : ∀ j, j < 16 → τ.1 0 j = rV (b.1 j)) (hv : ∀ j, j < 16 → b.1 j ≤ 7) (hc : c < 8) (hcnt : τ.1 9 2 = nI c) : f_X8_layLine τ (nI (lst k)) (nI (lsp k)) = some (if hs b k = true then ARR τ c (lcell k (lo b k)) (ll b k) (lsp k) else τ) := by
  have hcl : ∀ x, x < 4 → lst k + x * lsp k < 16 := fun x hx => lcell_lt hk hx
  unfold f_X8_layLine
  obtain ⟨n, hn⟩ := FU_ex 6 (by decide)
  rw [hn, ← nI_0]
  have hA0 : ∀ f len j, j < 16 → (ARR τ c f len (lsp k)).1 0 j = rV (b.1 j) := fun f len j hj => by rw [ARR_row (by decide) (by decide) (by decide) (by decide)]; exact h0 j hj
  have hLS : LSB b k = ls4 (opn b (lcell k 0)) (opn b (lcell k 1)) (opn b (lcell k 2)) (opn b (lcell k 3)) := rfl
  have hhs : hs b k = decide (2 ≤ (LSB b k).2) := rfl
  have hlo : lo b k = (LSB b k).1 := rfl
  have hll : ll b k = (LSB b k).2 := rfl
  have c0 := hcl 0 (by decide)
  have c1 := hcl 1 (by decide)
  have c2 := hcl 2 (by decide)
  have c3 := hcl 3 (by decide)
  rw [hhs, hlo, hll, hLS]
  by_cases q0 : b.1 (lst k + 0 * lsp k) = 7
  · by_cases q1 : b.1 (lst k + 1 * lsp k) = 7
    · by_cases q2 : b.1 (lst k + 2 * lsp k) = 7
      · by_cases q3 : b.1 (lst k + 3 * lsp k) = 7
        · have e0 : opn b (lcell k 0) = false := by unfold opn; exact decide_eq_false (fun h => h q0)
          have e1 : opn b (lcell k 1) = false := by unfold opn; exact decide_eq_false (fun h => h q1)
          have e2 : opn b (lcell k 2) = false := by unfold opn; exact decide_eq_false (fun h => h q2)
          have e3 : opn b (lcell k 3) = false := by unfold opn; exact decide_eq_false (fun h => h q3)
          rw [e0, e1, e2, e3]
          show _ = some (if decide (2 ≤ 0) = true then ARR τ c (lst k + 0 * lsp k) 0 (lsp k) else τ)
          rw [ro_small h0 hv (by omega) (by decide) (fun _ => ⟨c0, q0⟩), ro_small h0 hv (by omega) (by decide) (fun _ => ⟨c1, q1⟩), ro_small h0 hv (by omega) (by decide) (fun _ => ⟨c2, q2⟩), ro_small h0 hv (by omega) (by decide) (fun _ => ⟨c3, q3⟩), ro_small h0 hv (by omega) (by decide) (fun h => absurd h (by decide)), ro_end]
          rfl
        · have e0 : opn b (lcell k 0) = false := by unfold opn; exact decide_eq_false (fun h => h q0)
          have e1 : opn b (lcell k 1) = false := by unfold opn; exact decide_eq_false (fun h => h q1)
          have e2 : opn b (lcell k 2) = false := by unfold opn; exact decide_eq_false (fun h => h q2)
          have e3 : opn b (lcell k 3) = true := decide_eq_true q3
          rw [e0, e1, e2, e3]
          show _ = some (if decide (2 ≤ 0) = true then ARR τ c (lst k + 0 * lsp k) 0 (lsp k) else τ)
          rw [ro_small h0 hv (by omega) (by decide) (fun _ => ⟨c0, q0⟩), ro_small h0 hv (by omega) (by decide) (fun _ => ⟨c1, q1⟩), ro_small h0 hv (by omega) (by decide) (fun _ => ⟨c2, q2⟩), ro_open h0 hv (by omega) c3 q3, ro_small h0 hv (by omega) (by decide) (fun h => absurd h (by decide)), ro_end]
          rfl
      · by_cases q3 : b.1 (lst k + 3 * lsp k) = 7
        · have e0 : opn b (lcell k 0) = false := by unfold opn; exact decide_eq_false (fun h => h q0)
          have e1 : opn b (lcell k 1) = false := by unfold opn; exact decide_eq_false (fun h => h q1)
          have e2 : opn b (lcell k 2) = true := decide_eq_true q2
          have e3 : opn b (lcell k 3) = false := by unfold opn; exact decide_eq_false (fun h => h q3)
          rw [e0, e1, e2, e3]
          show _ = some (if decide (2 ≤ 0) = true then ARR τ c (lst k + 0 * lsp k) 0 (lsp k) else τ)
          rw [ro_small h0 hv (by omega) (by decide) (fun _ => ⟨c0, q0⟩), ro_small h0 hv (by omega) (by decide) (fun _ => ⟨c1, q1⟩), ro_open h0 hv (by omega) c2 q2, ro_small h0 hv (by omega) (by decide) (fun _ => ⟨c3, q3⟩), ro_small h0 hv (by omega) (by decide) (fun h => absurd h (by decide)), ro_end]
          rfl
        · have e0 : opn b (lcell k 0) = false := by unfold opn; exact decide_eq_false (fun h => h q0)
          have e1 : opn b (lcell k 1) = false := by unfold opn; exact decide_eq_false (fun h => h q1)
          have e2 : opn b (lcell k 2) = true := decide_eq_true q2
          have e3 : opn b (lcell k 3) = true := decide_eq_true q3
          rw [e0, e1, e2, e3]
          show _ = some (if decide (2 ≤ 2) = true then ARR τ c (lst k + 2 * lsp k) 2 (lsp k) else τ)
          rw [ro_small h0 hv (by omega) (by decide) (fun _ => ⟨c0, q0⟩), ro_small h0 hv (by omega) (by decide) (fun _ => ⟨c1, q1⟩), ro_open h0 hv (by omega) c2 q2, ro_open h0 hv (by omega) c3 q3, ro_big h0 hv (by omega) (by decide) (by decide) hc hcnt (fun h => absurd h (by decide)), ro_end]
          rfl
    · by_cases q2 : b.1 (lst k + 2 * lsp k) = 7
      · by_cases q3 : b.1 (lst k + 3 * lsp k) = 7
        · have e0 : opn b (lcell k 0) = false := by unfold opn; exact decide_eq_false (fun h => h q0)
          have e1 : opn b (lcell k 1) = true := decide_eq_true q1
          have e2 : opn b (lcell k 2) = false := by unfold opn; exact decide_eq_false (fun h => h q2)
          have e3 : opn b (lcell k 3) = false := by unfold opn; exact decide_eq_false (fun h => h q3)
          rw [e0, e1, e2, e3]
          show _ = some (if decide (2 ≤ 0) = true then ARR τ c (lst k + 0 * lsp k) 0 (lsp k) else τ)
          rw [ro_small h0 hv (by omega) (by decide) (fun _ => ⟨c0, q0⟩), ro_open h0 hv (by omega) c1 q1, ro_small h0 hv (by omega) (by decide) (fun _ => ⟨c2, q2⟩), ro_small h0 hv (by omega) (by decide) (fun _ => ⟨c3, q3⟩), ro_small h0 hv (by omega) (by decide) (fun h => absurd h (by decide)), ro_end]
          rfl
        · have e0 : opn b (lcell k 0) = false := by unfold opn; exact decide_eq_false (fun h => h q0)
          have e1 : opn b (lcell k 1) = true := decide_eq_true q1
          have e2 : opn b (lcell k 2) = false := by unfold opn; exact decide_eq_false (fun h => h q2)
          have e3 : opn b (lcell k 3) = true := decide_eq_true q3
          rw [e0, e1, e2, e3]
          show _ = some (if decide (2 ≤ 0) = true then ARR τ c (lst k + 0 * lsp k) 0 (lsp k) else τ)
          rw [ro_small h0 hv (by omega) (by decide) (fun _ => ⟨c0, q0⟩), ro_open h0 hv (by omega) c1 q1, ro_small h0 hv (by omega) (by decide) (fun _ => ⟨c2, q2⟩), ro_open h0 hv (by omega) c3 q3, ro_small h0 hv (by omega) (by decide) (fun h => absurd h (by decide)), ro_end]
          rfl
      · by_cases q3 : b.1 (lst k + 3 * lsp k) = 7
        · have e0 : opn b (lcell k 0) = false := by unfold opn; exact decide_eq_false (fun h => h q0)
          have e1 : opn b (lcell k 1) = true := decide_eq_true q1
          have e2 : opn b (lcell k 2) = true := decide_eq_true q2
          have e3 : opn b (lcell k 3) = false := by unfold opn; exact decide_eq_false (fun h => h q3)
          rw [e0, e1, e2, e3]
          show _ = some (if decide (2 ≤ 2) = true then ARR τ c (lst k + 1 * lsp k) 2 (lsp k) else τ)
          rw [ro_small h0 hv (by omega) (by decide) (fun _ => ⟨c0, q0⟩), ro_open h0 hv (by omega) c1 q1, ro_open h0 hv (by omega) c2 q2, ro_big h0 hv (by omega) (by decide) (by decide) hc hcnt (fun _ => ⟨c3, q3⟩), ro_small (hA0 (lst k + 1 * lsp k) 2) hv (by omega) (by decide) (fun h => absurd h (by decide)), ro_end]
          rfl
        · have e0 : opn b (lcell k 0) = false := by unfold opn; exact decide_eq_false (fun h => h q0)
          have e1 : opn b (lcell k 1) = true := decide_eq_true q1
          have e2 : opn b (lcell k 2) = true := decide_eq_true q2
          have e3 : opn b (lcell k 3) = true := decide_eq_true q3
          rw [e0, e1, e2, e3]
          show _ = some (if decide (2 ≤ 3) = true then ARR τ c (lst k + 1 * lsp k) 3 (lsp k) else τ)
          rw [ro_small h0 hv (by omega) (by decide) (fun _ => ⟨c0, q0⟩), ro_open h0 hv (by omega) c1 q1, ro_open h0 hv (by omega) c2 q2, ro_open h0 hv (by omega) c3 q3, ro_big h0 hv (by omega) (by decide) (by decide) hc hcnt (fun h => absurd h (by decide)), ro_end]
          rfl
  · by_cases q1 : b.1 (lst k + 1 * lsp k) = 7
    · by_cases q2 : b.1 (lst k + 2 * lsp k) = 7
      · by_cases q3 : b.1 (lst k + 3 * lsp k) = 7
        · have e0 : opn b (lcell k 0) = true := decide_eq_true q0
          have e1 : opn b (lcell k 1) = false := by unfold opn; exact decide_eq_false (fun h => h q1)
          have e2 : opn b (lcell k 2) = false := by unfold opn; exact decide_eq_false (fun h => h q2)
          have e3 : opn b (lcell k 3) = false := by unfold opn; exact decide_eq_false (fun h => h q3)
          rw [e0, e1, e2, e3]
          show _ = some (if decide (2 ≤ 0) = true then ARR τ c (lst k + 0 * lsp k) 0 (lsp k) else τ)
          rw [ro_open h0 hv (by omega) c0 q0, ro_small h0 hv (by omega) (by decide) (fun _ => ⟨c1, q1⟩), ro_small h0 hv (by omega) (by decide) (fun _ => ⟨c2, q2⟩), ro_small h0 hv (by omega) (by decide) (fun _ => ⟨c3, q3⟩), ro_small h0 hv (by omega) (by decide) (fun h => absurd h (by decide)), ro_end]
          rfl
        · have e0 : opn b (lcell k 0) = true := decide_eq_true q0
          have e1 : opn b (lcell k 1) = false := by unfold opn; exact decide_eq_false (fun h => h q1)
          have e2 : opn b (lcell k 2) = false := by unfold opn; exact decide_eq_false (fun h => h q2)
          have e3 : opn b (lcell k 3) = true := decide_eq_true q3
          rw [e0, e1, e2, e3]
          show _ = some (if decide (2 ≤ 0) = true then ARR τ c (lst k + 0 * lsp k) 0 (lsp k) else τ)
          rw [ro_open h0 hv (by omega) c0 q0, ro_small h0 hv (by omega) (by decide) (fun _ => ⟨c1, q1⟩), ro_small h0 hv (by omega) (by decide) (fun _ => ⟨c2, q2⟩), ro_open h0 hv (by omega) c3 q3, ro_small h0 hv (by omega) (by decide) (fun h => absurd h (by decide)), ro_end]
          rfl
      · by_cases q3 : b.1 (lst k + 3 * lsp k) = 7
        · have e0 : opn b (lcell k 0) = true := decide_eq_true q0
          have e1 : opn b (lcell k 1) = false := by unfold opn; exact decide_eq_false (fun h => h q1)
          have e2 : opn b (lcell k 2) = true := decide_eq_true q2
          have e3 : opn b (lcell k 3) = false := by unfold opn; exact decide_eq_false (fun h => h q3)
          rw [e0, e1, e2, e3]
          show _ = some (if decide (2 ≤ 0) = true then ARR τ c (lst k + 0 * lsp k) 0 (lsp k) else τ)
          rw [ro_open h0 hv (by omega) c0 q0, ro_small h0 hv (by omega) (by decide) (fun _ => ⟨c1, q1⟩), ro_open h0 hv (by omega) c2 q2, ro_small h0 hv (by omega) (by decide) (fun _ => ⟨c3, q3⟩), ro_small h0 hv (by omega) (by decide) (fun h => absurd h (by decide)), ro_end]
          rfl
        · have e0 : opn b (lcell k 0) = true := decide_eq_true q0
          have e1 : opn b (lcell k 1) = false := by unfold opn; exact decide_eq_false (fun h => h q1)
          have e2 : opn b (lcell k 2) = true := decide_eq_true q2
          have e3 : opn b (lcell k 3) = true := decide_eq_true q3
          rw [e0, e1, e2, e3]
          show _ = some (if decide (2 ≤ 2) = true then ARR τ c (lst k + 2 * lsp k) 2 (lsp k) else τ)
          rw [ro_open h0 hv (by omega) c0 q0, ro_small h0 hv (by omega) (by decide) (fun _ => ⟨c1, q1⟩), ro_open h0 hv (by omega) c2 q2, ro_open h0 hv (by omega) c3 q3, ro_big h0 hv (by omega) (by decide) (by decide) hc hcnt (fun h => absurd h (by decide)), ro_end]
          rfl
    · by_cases q2 : b.1 (lst k + 2 * lsp k) = 7
      · by_cases q3 : b.1 (lst k + 3 * lsp k) = 7
        · have e0 : opn b (lcell k 0) = true := decide_eq_true q0
          have e1 : opn b (lcell k 1) = true := decide_eq_true q1
          have e2 : opn b (lcell k 2) = false := by unfold opn; exact decide_eq_false (fun h => h q2)
          have e3 : opn b (lcell k 3) = false := by unfold opn; exact decide_eq_false (fun h => h q3)
          rw [e0, e1, e2, e3]
          show _ = some (if decide (2 ≤ 2) = true then ARR τ c (lst k + 0 * lsp k) 2 (lsp k) else τ)
          rw [ro_open h0 hv (by omega) c0 q0, ro_open h0 hv (by omega) c1 q1, ro_big h0 hv (by omega) (by decide) (by decide) hc hcnt (fun _ => ⟨c2, q2⟩), ro_small (hA0 (lst k + 0 * lsp k) 2) hv (by omega) (by decide) (fun _ => ⟨c3, q3⟩), ro_small (hA0 (lst k + 0 * lsp k) 2) hv (by omega) (by decide) (fun h => absurd h (by decide)), ro_end]
          rfl
        · have e0 : opn b (lcell k 0) = true := decide_eq_true q0
          have e1 : opn b (lcell k 1) = true := decide_eq_true q1
          have e2 : opn b (lcell k 2) = false := by unfold opn; exact decide_eq_false (fun h => h q2)
          have e3 : opn b (lcell k 3) = true := decide_eq_true q3
          rw [e0, e1, e2, e3]
          show _ = some (if decide (2 ≤ 2) = true then ARR τ c (lst k + 0 * lsp k) 2 (lsp k) else τ)
          rw [ro_open h0 hv (by omega) c0 q0, ro_open h0 hv (by omega) c1 q1, ro_big h0 hv (by omega) (by decide) (by decide) hc hcnt (fun _ => ⟨c2, q2⟩), ro_open (hA0 (lst k + 0 * lsp k) 2) hv (by omega) c3 q3, ro_small (hA0 (lst k + 0 * lsp k) 2) hv (by omega) (by decide) (fun h => absurd h (by decide)), ro_end]
          rfl
      · by_cases q3 : b.1 (lst k + 3 * lsp k) = 7
        · have e0 : opn b (lcell k 0) = true := decide_eq_true q0
          have e1 : opn b (lcell k 1) = true := decide_eq_true q1
          have e2 : opn b (lcell k 2) = true := decide_eq_true q2
          have e3 : opn b (lcell k 3) = false := by unfold opn; exact decide_eq_false (fun h => h q3)
          rw [e0, e1, e2, e3]
          show _ = some (if decide (2 ≤ 3) = true then ARR τ c (lst k + 0 * lsp k) 3 (lsp k) else τ)
          rw [ro_open h0 hv (by omega) c0 q0, ro_open h0 hv (by omega) c1 q1, ro_open h0 hv (by omega) c2 q2, ro_big h0 hv (by omega) (by decide) (by decide) hc hcnt (fun _ => ⟨c3, q3⟩), ro_small (hA0 (lst k + 0 * lsp k) 3) hv (by omega) (by decide) (fun h => absurd h (by decide)), ro_end]
          rfl
        · have e0 : opn b (lcell k 0) = true := decide_eq_true q0
          have e1 : opn b (lcell k 1) = true := decide_eq_true q1
          have e2 : opn b (lcell k 2) = true := decide_eq_true q2
          have e3 : opn b (lcell k 3) = true := decide_eq_true q3
          rw [e0, e1, e2, e3]
          show _ = some (if decide (2 ≤ 4) = true then ARR τ c (lst k + 0 * lsp k) 4 (lsp k) else τ)
          rw [ro_open h0 hv (by omega) c0 q0, ro_open h0 hv (by omega) c1 q1, ro_open h0 hv (by omega) c2 q2, ro_open h0 hv (by omega) c3 q3, ro_big h0 hv (by omega) (by decide) (by decide) hc hcnt (fun h => absurd h (by decide)), ro_end]
          rfl
/-- the reference's slots, line by line -/
def LT (b : Bd) (τ : SR) : Nat → SR
  | 0 => rsu τ 9 2 0
  | k + 1 => if hs b k = true then ARR (LT b τ k) (rank b k) (lcell k (lo b k)) (ll b k) (lsp k) else LT b τ k
theorem LT_succ (b : Bd) (τ : SR) (k : Nat) : LT b τ (k + 1) = if hs b k = true then ARR (LT b τ k) (rank b k) (lcell k (lo b k)) (ll b k) (lsp k) else LT b τ k := rfl
theorem LT_frame (b : Bd) (τ : SR) : ∀ k, (∀ r, r ≠ 4 → r ≠ 5 → r ≠ 6 → r ≠ 9 → (LT b τ k).1 r = τ.1 r) ∧ (∀ j, j ≠ 2 → (LT b τ k).1 9 j = τ.1 9 j) ∧ (LT b τ k).2 = τ.2
  | 0 => ⟨fun r _ _ _ h => rsu_row _ _ _ _ h, fun j h => by show (rsu τ 9 2 0).1 9 j = _; rw [rsu_at, if_neg (fun g => h g.2)], rfl⟩
  | k + 1 => by
    obtain ⟨h1, h2, h3⟩ := LT_frame b τ k
    rw [LT_succ]
    by_cases h : hs b k = true
    · rw [if_pos h]
      refine ⟨fun r a1 a2 a3 a4 => by rw [ARR_row a1 a2 a3 a4, h1 r a1 a2 a3 a4], fun j hj => ?_, h3⟩
      unfold ARR
      rw [rsu_at, if_neg (fun g => hj g.2), rsu_row _ _ _ _ (by decide), rsu_row _ _ _ _ (by decide), rsu_row _ _ _ _ (by decide), h2 j hj]
    · rw [if_neg h]; exact ⟨h1, h2, h3⟩
theorem LT_ok (b : Bd) (τ : SR) : ∀ k, (LT b τ k).1 9 2 = nI (rank b k) ∧ ∀ μ, μ < k → hs b μ = true → (LT b τ k).1 4 (rank b μ) = nI (lcell μ (lo b μ)) ∧ (LT b τ k).1 5 (rank b μ) = nI (ll b μ) ∧ (LT b τ k).1 6 (rank b μ) = nI (lsp μ)
  | 0 => ⟨by show (rsu τ 9 2 0).1 9 2 = _; rw [rsu_at]; simp; rfl, fun μ h => by omega⟩
  | k + 1 => by
    obtain ⟨h1, h2⟩ := LT_ok b τ k
    rw [LT_succ]
    by_cases h : hs b k = true
    · rw [if_pos h, rank_succ, if_pos h]
      refine ⟨by unfold ARR; rw [rsu_at, if_pos ⟨rfl, rfl⟩], fun μ hμ hm => ?_⟩
      unfold ARR
      rw [rsu_row _ _ _ _ (show 4 ≠ 9 by decide), rsu_row _ _ _ _ (show 5 ≠ 9 by decide), rsu_row _ _ _ _ (show 6 ≠ 9 by decide), rsu_row _ _ _ _ (show 4 ≠ 6 by decide), rsu_row _ _ _ _ (show 5 ≠ 6 by decide), rsu_row _ _ _ _ (show 4 ≠ 5 by decide)]
      by_cases e : μ = k
      · subst e
        refine ⟨by rw [rsu_at, if_pos ⟨rfl, rfl⟩], by rw [rsu_at, if_pos ⟨rfl, rfl⟩], by rw [rsu_at, if_pos ⟨rfl, rfl⟩]⟩
      · have hlt := rank_lt b hm (show μ < k by omega)
        obtain ⟨g1, g2, g3⟩ := h2 μ (by omega) hm
        refine ⟨by rw [rsu_at, if_neg (by omega)]; exact g1, ?_, ?_⟩
        · rw [rsu_at, if_neg (by omega), rsu_row _ _ _ _ (show 5 ≠ 4 by decide)]; exact g2
        · rw [rsu_at, if_neg (by omega), rsu_row _ _ _ _ (show 6 ≠ 5 by decide), rsu_row _ _ _ _ (show 6 ≠ 4 by decide)]; exact g3
    · rw [if_neg h, rank_succ, if_neg h]
      refine ⟨h1, fun μ hμ hm => h2 μ ?_ hm⟩
      rcases Nat.lt_or_ge μ k with g | g
      · exact g
      · have : μ = k := by omega
        subst this; exact absurd hm h
theorem laySlots_ok {b : Bd} {τ : SR} (hb : RB b τ) (hv : VB b) : f_X8_laySlots τ = some (LT b τ 8) := by
  have h0 : ∀ k j, j < 16 → (LT b τ k).1 0 j = rV (b.1 j) := fun k j hj => by rw [(LT_frame b τ k).1 0 (by decide) (by decide) (by decide) (by decide)]; exact hb.1 j hj
  have line : ∀ k, k < 8 → f_X8_layLine (LT b τ k) (nI (lst k)) (nI (lsp k)) = some (LT b τ (k + 1)) := by
    intro k hk
    rw [layLine_ok hk (h0 k) hv.1 (by have := rank_le b k; omega) (LT_ok b τ k).1, LT_succ]
  have cols : ∀ (m n k : Nat), k + m = 4 → m < n → f_X8_laySlots_L28 n (LT b τ (4 + k)) (nI k) = some (LT b τ 8) := by
    intro m
    induction m with
    | zero =>
      intro n k h1 h2
      obtain ⟨n, rfl⟩ := succ_of h2
      rw [f_X8_laySlots_L28_s, if_le (by omega) (by omega)]
      rw [show 4 + k = 8 by omega]
    | succ m ih =>
      intro n k h1 h2
      obtain ⟨n, rfl⟩ := succ_of h2
      have hl := line (4 + k) (by omega)
      rw [show lst (4 + k) = k by unfold lst; rw [if_neg (by omega)]; omega, show lsp (4 + k) = 4 by unfold lsp; rw [if_neg (by omega)]] at hl
      rw [f_X8_laySlots_L28_s, if_nle (by omega) (by omega), hl, Option.bind_some, nI_1]
      exact ih n (k + 1) (by omega) (by omega)
  have rows : ∀ (m n k : Nat), k + m = 4 → m < n → f_X8_laySlots_L7 (fun σ_26 => f_X8_laySlots_L28 FU σ_26 0) n (LT b τ k) (nI k) = some (LT b τ 8) := by
    intro m
    induction m with
    | zero =>
      intro n k h1 h2
      obtain ⟨n, rfl⟩ := succ_of h2
      rw [f_X8_laySlots_L7_s, if_le (by omega) (by omega)]
      have := cols 4 FU 0 (by omega) (by have := FU_big; omega)
      rw [nI_0] at this
      rw [show k = 4 by omega]
      exact this
    | succ m ih =>
      intro n k h1 h2
      obtain ⟨n, rfl⟩ := succ_of h2
      have hl := line k (by omega)
      rw [show lst k = 4 * k by unfold lst; rw [if_pos (by omega)], show lsp k = 1 by unfold lsp; rw [if_pos (by omega)]] at hl
      rw [f_X8_laySlots_L7_s, if_nle (by omega) (by omega), pk_mul, show (1 : Int32) = nI 1 from rfl, hl, Option.bind_some, nI_add]
      exact ih n (k + 1) (by omega) (by omega)
  unfold f_X8_laySlots
  have := rows 4 FU 0 (by omega) (by have := FU_big; omega)
  rw [nI_0] at this
  exact this
