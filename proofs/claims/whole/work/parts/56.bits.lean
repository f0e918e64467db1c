/-! bits counted, for both sides -/
theorem pc_ct : ∀ (k m : Nat), pc k m = ct (fun i => m.testBit i) k := by
  have sh : ∀ (p : Nat → Bool) (n : Nat), ct p (n + 1) = (if p 0 = true then 1 else 0) + ct (fun i => p (i + 1)) n := by
    intro p n
    induction n with
    | zero => simp [ct]
    | succ n ih => rw [ct_succ, ih, ct_succ]; omega
  intro k
  induction k with
  | zero => intro m; rfl
  | succ k ih =>
    intro m
    rw [sh]
    show m % 2 + pc k (m / 2) = _
    rw [ih (m / 2)]
    congr 1
    · rw [Nat.testBit_zero]
      by_cases h : m % 2 = 1
      · simp [h]
      · have : m % 2 = 0 := by omega
        simp [this]
    · apply ct_cong
      intro i _
      rw [Nat.testBit_succ]
theorem and_half (x y : Nat) : (x &&& y) / 2 = x / 2 &&& y / 2 := by
  apply Nat.eq_of_testBit_eq
  intro i
  rw [← Nat.testBit_succ, Nat.testBit_and, Nat.testBit_and, Nat.testBit_succ, Nat.testBit_succ]
theorem and_odd (x y : Nat) (h : y % 2 = 0 ∨ x % 2 = 0) : (x &&& y) % 2 = 0 := by
  have h1 : (x &&& y).testBit 0 = false := by
    rw [Nat.testBit_and, Nat.testBit_zero, Nat.testBit_zero]
    rcases h with h | h <;> simp [h]
  rw [Nat.testBit_zero] at h1
  have := of_decide_eq_false h1
  omega
theorem pc_dec : ∀ (k m : Nat), 0 < m → m < 2 ^ k → pc k (m &&& (m - 1)) + 1 = pc k m
  | 0, m, h1, h2 => by simp at h2; omega
  | k + 1, m, h1, h2 => by
    show (m &&& (m - 1)) % 2 + pc k ((m &&& (m - 1)) / 2) + 1 = m % 2 + pc k (m / 2)
    rw [and_half, and_odd m (m - 1) (by omega)]
    rw [Nat.pow_succ] at h2
    by_cases h : m % 2 = 1
    · rw [show (m - 1) / 2 = m / 2 by omega, Nat.and_self, h]; omega
    · have := pc_dec k (m / 2) (by omega) (by omega)
      rw [show (m - 1) / 2 = m / 2 - 1 by omega, show m % 2 = 0 by omega]; omega
theorem nI_and (a c : Nat) : nI a &&& nI c = nI (a &&& c) := by
  apply tb_ext
  intro k hk
  rw [tb_and, tb_nI _ hk, tb_nI _ hk, tb_nI _ hk, Nat.testBit_and]
theorem bits_loop : ∀ (k n m c : Nat), pc 16 m = k → m < 65536 → k < n → f_X8_bits_L4 n (nI c) (nI m) = some (nI (c + k))
  | 0, n, m, c, h1, h2, h3 => by
    obtain ⟨n, rfl⟩ := succ_of h3
    have : m = 0 := by
      rcases Nat.eq_zero_or_pos m with z | z
      · exact z
      · have := pc_dec 16 m z h2; omega
    subst this
    rw [f_X8_bits_L4_s, if_pos (by decide)]
    rfl
  | k + 1, n, m, c, h1, h2, h3 => by
    obtain ⟨n, rfl⟩ := succ_of h3
    have hm : 0 < m := by
      rcases Nat.eq_zero_or_pos m with z | z
      · subst z
        have : pc 16 0 = 0 := by decide
        omega
      · exact z
    have hd := pc_dec 16 m hm h2
    have hle : m &&& (m - 1) ≤ m := Nat.and_le_left
    rw [f_X8_bits_L4_s, if_ne0 hm (by omega), nI_m1 hm, nI_and, nI_1, bits_loop k n _ (c + 1) (by omega) (by omega) (by omega)]
    congr 2
    omega
theorem set_nat {x : Int32} {f : Nat → Bool} (h : IsSet x f) (hf : ∀ k, 16 ≤ k → f k = false) : ∃ m, m < 65536 ∧ x = nI m ∧ pc 16 m = ct f 16 := by
  have e : x = nI x.toBitVec.toNat := tb_ext (fun k hk => by rw [tb_nI _ hk]; rfl)
  have ht : ∀ i, x.toBitVec.toNat.testBit i = (decide (i < 32) && f i) := by
    intro i
    by_cases hi : i < 32
    · have := h i hi
      simp only [hi, decide_true, Bool.true_and]
      exact this
    · simp only [hi, decide_false, Bool.false_and]
      exact Nat.testBit_lt_two_pow (Nat.lt_of_lt_of_le x.toBitVec.isLt (Nat.pow_le_pow_right (by decide) (by omega)))
  refine ⟨x.toBitVec.toNat, ?_, e, ?_⟩
  · show _ < 2 ^ 16
    apply Nat.lt_pow_two_of_testBit
    intro i hi
    rw [ht i, hf i hi, Bool.and_false]
  · rw [pc_ct]
    apply ct_cong
    intro k hk
    rw [ht k, decide_eq_true (by omega : k < 32), Bool.true_and]
theorem bits_ok {x : Int32} {f : Nat → Bool} (h : IsSet x f) (hf : ∀ k, 16 ≤ k → f k = false) : f_X8_bits x = some (nI (ct f 16)) := by
  obtain ⟨m, h1, rfl, h3⟩ := set_nat h hf
  unfold f_X8_bits
  have := bits_loop (pc 16 m) FU m 0 rfl h1 (by have := ct_le f 16; have := FU_big; omega)
  rw [nI_0, Nat.zero_add, h3] at this
  exact this
theorem bcC_at : ∀ {k m : Nat}, bcC k m = true → ∀ j, j < k → bcN (m + j) = pc 16 (m + j)
  | 0, _, _, j, hj => by omega
  | k + 1, m, h, j, hj => by
    have h1 : (Nat.beq (bcN m) (pc 16 m) && bcC k (m + 1)) = true := h
    obtain ⟨h2, h3⟩ := Bool.and_eq_true_iff.mp h1
    by_cases e : j = 0
    · subst e; exact Nat.eq_of_beq_eq_true h2
    · have := bcC_at h3 (j - 1) (by omega)
      rwa [show m + 1 + (j - 1) = m + j by omega] at this
theorem bcN_ok {m : Nat} (h : m < 65536) : bcN m = pc 16 m := by
  have key : ∀ i, i < 256 → bcC 256 (256 * i) = true := by
    intro i hi
    have hq : i / 32 < 8 := by omega
    have hr : i % 32 < 32 := Nat.mod_lt _ (by decide)
    have e : i = 32 * (i / 32) + i % 32 := (Nat.div_add_mod i 32).symm
    generalize i / 32 = q at *
    generalize i % 32 = r at *
    subst e
    rcases (show q = 0 ∨ q = 1 ∨ q = 2 ∨ q = 3 ∨ q = 4 ∨ q = 5 ∨ q = 6 ∨ q = 7 by omega) with rfl | rfl | rfl | rfl | rfl | rfl | rfl | rfl
    · exact bc_d0 r hr
    · exact bc_d1 r hr
    · exact bc_d2 r hr
    · exact bc_d3 r hr
    · exact bc_d4 r hr
    · exact bc_d5 r hr
    · exact bc_d6 r hr
    · exact bc_d7 r hr
  have := bcC_at (key (m / 256) (by omega)) (m % 256) (Nat.mod_lt _ (by decide))
  rwa [Nat.div_add_mod] at this
theorem ushr_nI {a : Nat} (ha : a < 4294967296) (s : Int32) (k : Nat) (hs : ((s.toUInt32 &&& Int32.toUInt32 31).toBitVec % 32).toNat = k) : ushr (nI a) s = nI (a / 2 ^ k) := pk_ushrN ha s k hs
theorem bitCount_N {m : Nat} (hm : m < 65536) : f_J6_bitCount_0f7a4 (nI m) = some (nI (bcN m)) := by
  have a1 : m / 2 &&& 1431655765 ≤ m / 2 := Nat.and_le_left
  have b1 : bc1 m ≤ 65536 := by unfold bc1; omega
  have h1 : nI m - (ushr (nI m) 1 &&& 1431655765) = nI (bc1 m) := by
    rw [ushr_nI (by omega) 1 1 (by decide), show (1431655765 : Int32) = nI 1431655765 from rfl, nI_and, pk_sub (by simp only [Nat.pow_one]; omega), Nat.pow_one]
    rfl
  generalize ev1 : bc1 m = v1 at h1 b1
  have a2 : v1 &&& 858993459 ≤ v1 := Nat.and_le_left
  have a2' : v1 / 4 &&& 858993459 ≤ v1 / 4 := Nat.and_le_left
  have h2 : (nI v1 &&& 858993459) + (ushr (nI v1) (nI 2) &&& 858993459) = nI (bc2 v1) := by
    rw [ushr_nI (by omega) (nI 2) 2 (by decide), show (858993459 : Int32) = nI 858993459 from rfl, nI_and, nI_and, nI_add]
    rfl
  have b2 : bc2 v1 ≤ 131072 := by unfold bc2; omega
  generalize ev2 : bc2 v1 = v2 at h2 b2
  have h3 : (nI v2 + ushr (nI v2) (nI 4)) &&& 252645135 = nI (bc3 v2) := by
    rw [ushr_nI (by omega) (nI 4) 4 (by decide), show (252645135 : Int32) = nI 252645135 from rfl, nI_add, nI_and]
    rfl
  have b3 : bc3 v2 ≤ 262144 := by
    have : (v2 + v2 / 16) &&& 252645135 ≤ v2 + v2 / 16 := Nat.and_le_left
    unfold bc3; omega
  generalize ev3 : bc3 v2 = v3 at h3 b3
  have h4 : nI v3 + ushr (nI v3) (nI 8) = nI (bc4 v3) := by
    rw [ushr_nI (by omega) (nI 8) 8 (by decide), nI_add]
    rfl
  have b4 : bc4 v3 ≤ 524288 := by unfold bc4; omega
  generalize ev4 : bc4 v3 = v4 at h4 b4
  have h5 : nI v4 + ushr (nI v4) (nI 16) = nI (bc5 v4) := by
    rw [ushr_nI (by omega) (nI 16) 16 (by decide), nI_add]
    rfl
  unfold f_J6_bitCount_0f7a4
  rw [h1, h2, h3, h4, h5, nI_and]
  congr 2
  unfold bcN
  rw [ev1, ev2, ev3, ev4]
theorem bitCount_ok {x : Int32} {f : Nat → Bool} (h : IsSet x f) (hf : ∀ k, 16 ≤ k → f k = false) : f_J6_bitCount_0f7a4 x = some (nI (ct f 16)) := by
  obtain ⟨m, h1, rfl, h3⟩ := set_nat h hf
  rw [bitCount_N h1, bcN_ok h1, h3]
