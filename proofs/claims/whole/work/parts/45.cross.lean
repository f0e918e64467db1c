/-! where the class's slots cross -/
/-- lines that cross, in which cell, and the place of it in the first -/
def xl (b : Bd) (k m : Nat) : Bool := (decide (k < 4) && decide (4 ≤ m) && (inA b (4 * k + (m - 4)) && inD b (4 * k + (m - 4)))) || (decide (m < 4) && decide (4 ≤ k) && (inA b (4 * m + (k - 4)) && inD b (4 * m + (k - 4))))
def xq (k m : Nat) : Nat := if k < 4 then 4 * k + (m - 4) else 4 * m + (k - 4)
def pl (b : Bd) (k m : Nat) : Nat := if k < 4 then (m - 4) - lo b k else m - lo b k
theorem xl_iff {b : Bd} {k m : Nat} (hk : k < 8) (hm : m < 8) : xl b k m = true ↔ ((k < 4 ∧ 4 ≤ m ∨ m < 4 ∧ 4 ≤ k) ∧ inA b (xq k m) = true ∧ inD b (xq k m) = true) := by
  unfold xl xq
  simp only [Bool.or_eq_true, Bool.and_eq_true, decide_eq_true_eq]
  by_cases h : k < 4
  · rw [if_pos h]
    constructor
    · rintro (⟨⟨h1, h2⟩, h3⟩ | ⟨⟨h1, h2⟩, h3⟩)
      · exact ⟨Or.inl ⟨h1, h2⟩, h3⟩
      · omega
    · rintro ⟨h1 | h1, h3⟩
      · exact Or.inl ⟨h1, h3⟩
      · omega
  · rw [if_neg h]
    constructor
    · rintro (⟨⟨h1, h2⟩, h3⟩ | ⟨⟨h1, h2⟩, h3⟩)
      · omega
      · exact ⟨Or.inr ⟨h1, h2⟩, h3⟩
    · rintro ⟨h1 | h1, h3⟩
      · omega
      · exact Or.inr ⟨h1, h3⟩
theorem xl_symm {b : Bd} {k m : Nat} : xl b k m = xl b m k := by
  unfold xl
  exact Bool.or_comm _ _
def CXs (σ : SC) (a d pa pd : Nat) : SC := su (su (su (su (su σ 17 3 (σ 17 3 + 1)) 4 a (σ 4 a ||| (1 : Int32) <<< (nI d &&& 31))) 4 d (σ 4 d ||| (1 : Int32) <<< (nI a &&& 31))) 5 (8 * a + d) (nI pa)) 5 (8 * d + a) (nI pd)
/-- what the walk over the cells stands on -/
def XPre (b : Bd) (s : SC) : Prop := s 17 2 = nI (rank b 4) ∧ (∀ μ, μ < 8 → hs b μ = true → s 2 (rank b μ) = nI (lcell μ (lo b μ))) ∧ (∀ q, q < 16 → s 6 q = if inA b q = true then nI (rank b (q / 4)) else -1) ∧ ∀ q, q < 16 → s 7 q = if inD b q = true then nI (rank b (4 + q % 4)) else -1
theorem XPre.keep {b : Bd} {s t : SC} (h : XPre b s) (h1 : t 17 2 = s 17 2) (h2 : t 2 = s 2) (h6 : t 6 = s 6) (h7 : t 7 = s 7) : XPre b t := by
  unfold XPre
  rw [h1, h2, h6, h7]
  exact h
theorem CXs_row {σ : SC} {a d pa pd r : Nat} (h4 : r ≠ 4) (h5 : r ≠ 5) (h17 : r ≠ 17) : CXs σ a d pa pd r = σ r := by
  unfold CXs
  rw [su_row _ _ _ _ h5, su_row _ _ _ _ h5, su_row _ _ _ _ h4, su_row _ _ _ _ h4, su_row _ _ _ _ h17]
theorem CXs_f {σ : SC} {a d pa pd j : Nat} : CXs σ a d pa pd 17 j = if j = 3 then σ 17 3 + 1 else σ 17 j := by
  unfold CXs
  rw [su_row _ _ _ _ (by decide), su_row _ _ _ _ (by decide), su_row _ _ _ _ (by decide), su_row _ _ _ _ (by decide), su_at]
  by_cases h : j = 3 <;> simp [h]
theorem CXs_4 {σ : SC} {a d pa pd j : Nat} : CXs σ a d pa pd 4 j = if j = d then σ 4 d ||| (1 : Int32) <<< (nI a &&& 31) else if j = a then σ 4 a ||| (1 : Int32) <<< (nI d &&& 31) else σ 4 j := by
  unfold CXs
  rw [su_row _ _ _ _ (show 4 ≠ 5 by decide), su_row _ _ _ _ (show 4 ≠ 5 by decide), su_at, su_at, su_row _ _ _ _ (show 4 ≠ 17 by decide)]
  simp
theorem CXs_5 {σ : SC} {a d pa pd j : Nat} : CXs σ a d pa pd 5 j = if j = 8 * d + a then nI pd else if j = 8 * a + d then nI pa else σ 5 j := by
  unfold CXs
  rw [su_at, su_at, su_row _ _ _ _ (show 5 ≠ 4 by decide), su_row _ _ _ _ (show 5 ≠ 4 by decide), su_row _ _ _ _ (show 5 ≠ 17 by decide)]
  simp
theorem isDown_ok {σ : SC} {s a : Nat} (h : σ 17 2 = nI a) (ha : a < 2147483648) (hs : s < 2147483648) : f_X6_isDown σ (nI s) = some (b2 (decide (a ≤ s))) := by
  unfold f_X6_isDown
  rw [h]
  by_cases g : s < a
  · rw [if_lt g ha, decide_eq_false (by omega)]; rfl
  · rw [if_nlt (by omega) hs, decide_eq_true (by omega)]; rfl
theorem rc_skip {b : Bd} {s : SC} (hX : XPre b s) {n q : Nat} (hq : q < 16) (h : (inA b q && inD b q) = false) : f_X6_readCrossings_L23 (n + 1) s (nI q) = f_X6_readCrossings_L23 n s (nI (q + 1)) := by
  rw [f_X6_readCrossings_L23_s, if_nle (by omega) (by omega), rd_in s (show q < lnC 6 from hq), rd_in s (show q < lnC 7 from hq), hX.2.2.1 q hq, hX.2.2.2 q hq, nI_1]
  by_cases hA : inA b q = true
  · rw [hA, Bool.true_and] at h
    have hr := rank_le b (q / 4)
    rw [if_pos hA, if_nm1 (by omega), h, if_neg Bool.false_ne_true, if_pos rfl]
  · rw [if_neg hA, if_pos rfl]
set_option maxHeartbeats 1000000 in
theorem rc_step {b : Bd} {s : SC} (hX : XPre b s) {n q : Nat} (hq : q < 16) (hA : inA b q = true) (hD : inD b q = true) : f_X6_readCrossings_L23 (n + 1) s (nI q) = f_X6_readCrossings_L23 n (CXs s (rank b (q / 4)) (rank b (4 + q % 4)) (q % 4 - lo b (q / 4)) (q / 4 - lo b (4 + q % 4))) (nI (q + 1)) := by
  have gA := (inA_iff b q).mp hA
  have gD := (inD_iff b q).mp hD
  have r1 : rank b (q / 4) < rank b 4 := rank_lt b gA.1 (by omega)
  have r2 : rank b 4 ≤ rank b (4 + q % 4) := rank_mono b (by omega)
  have r3 : rank b 4 ≤ 4 := rank_le b 4
  have r4 : rank b (4 + q % 4) < rank b 8 := rank_lt b gD.1 (by omega)
  have r5 : rank b 8 ≤ 8 := rank_le b 8
  generalize ea : rank b (q / 4) = a at *
  generalize ed : rank b (4 + q % 4) = d at *
  have fa : s 2 a = nI (lcell (q / 4) (lo b (q / 4))) := by rw [← ea]; exact hX.2.1 _ (by omega) gA.1
  have fd : s 2 d = nI (lcell (4 + q % 4) (lo b (4 + q % 4))) := by rw [← ed]; exact hX.2.1 _ (by omega) gD.1
  have ca : lcell (q / 4) (lo b (q / 4)) = 4 * (q / 4) + lo b (q / 4) := by unfold lcell lst lsp; rw [if_pos (by omega), if_pos (by omega)]; omega
  have cd : lcell (4 + q % 4) (lo b (4 + q % 4)) = q % 4 + 4 * lo b (4 + q % 4) := by unfold lcell lst lsp; rw [if_neg (by omega), if_neg (by omega)]; omega
  have place : ∀ (t : SC), t 17 2 = nI (rank b 4) → t 2 = s 2 → f_X6_placeOf t (nI q) (nI a) = some (nI (q % 4 - lo b (q / 4))) ∧ f_X6_placeOf t (nI q) (nI d) = some (nI (q / 4 - lo b (4 + q % 4))) := by
    intro t h1 h2
    constructor
    · unfold f_X6_placeOf
      rw [isDown_ok h1 (by omega) (by omega), Option.bind_some, if_b0 (decide_eq_false (by omega)), rd_in t (show a < 8 by omega), h2, fa, ca, pk_sub (by omega)]
      congr 2
      omega
    · unfold f_X6_placeOf
      rw [isDown_ok h1 (by omega) (by omega), Option.bind_some, if_b1 (decide_eq_true (by omega)), rd_in t (show d < 8 by omega), h2, fd, cd, pk_sub (by omega), pk_div (by omega) (by decide) (by decide)]
      congr 2
      omega
  rw [f_X6_readCrossings_L23_s, if_nle (by omega) (by omega), rd_in s (show q < lnC 6 from hq), rd_in s (show q < lnC 7 from hq), hX.2.2.1 q hq, hX.2.2.2 q hq, if_pos hA, if_pos hD, ea, ed, if_nm1 (by omega), if_nm1 (by omega)]
  simp only [wr_in _ _ (show a < lnC 4 from by show a < 8; omega), wr_in _ _ (show d < lnC 4 from by show d < 8; omega), rd_in _ (show a < lnC 4 from by show a < 8; omega), rd_in _ (show d < lnC 4 from by show d < 8; omega), pk_mul, nI_add, wr_in _ _ (show a * 8 + d < lnC 5 from by show a * 8 + d < 64; omega), wr_in _ _ (show d * 8 + a < lnC 5 from by show d * 8 + a < 64; omega)]
  rw [(place _ ?_ ?_).1, Option.bind_some, (place _ ?_ ?_).2, Option.bind_some, nI_1]
  · congr 1
    unfold CXs
    rw [su_row s 17 3 _ (show 4 ≠ 17 by decide), su_at (su s 17 3 (s 17 3 + 1)) 4 a _ 4 d, if_neg (by omega), su_row s 17 3 _ (show 4 ≠ 17 by decide), Nat.mul_comm a 8, Nat.mul_comm d 8]
  · rw [su_row _ _ _ _ (by decide), su_row _ _ _ _ (by decide), su_row _ _ _ _ (by decide), su_at, if_neg (by decide)]; exact hX.1
  · rw [su_row _ _ _ _ (by decide), su_row _ _ _ _ (by decide), su_row _ _ _ _ (by decide), su_row _ _ _ _ (by decide)]
  · rw [su_row _ _ _ _ (by decide), su_row _ _ _ _ (by decide), su_at, if_neg (by decide)]; exact hX.1
  · rw [su_row _ _ _ _ (by decide), su_row _ _ _ _ (by decide), su_row _ _ _ _ (by decide)]
def TX (b : Bd) (s : SC) : Nat → SC
  | 0 => fl (fl (su s 17 3 0) 4 0) 5 (-1)
  | q + 1 => if (inA b q && inD b q) = true then CXs (TX b s q) (rank b (q / 4)) (rank b (4 + q % 4)) (q % 4 - lo b (q / 4)) (q / 4 - lo b (4 + q % 4)) else TX b s q
theorem TX_succ (b : Bd) (s : SC) (q : Nat) : TX b s (q + 1) = if (inA b q && inD b q) = true then CXs (TX b s q) (rank b (q / 4)) (rank b (4 + q % 4)) (q % 4 - lo b (q / 4)) (q / 4 - lo b (4 + q % 4)) else TX b s q := rfl
theorem TX_frame (b : Bd) (s : SC) : ∀ q, (∀ r, r ≠ 4 → r ≠ 5 → r ≠ 17 → TX b s q r = s r) ∧ ∀ j, j ≠ 3 → TX b s q 17 j = s 17 j
  | 0 => ⟨fun r h4 h5 h17 => by show fl (fl (su s 17 3 0) 4 0) 5 (-1) r = _; rw [fl_row _ _ _ h5, fl_row _ _ _ h4, su_row _ _ _ _ h17], fun j h => by show fl (fl (su s 17 3 0) 4 0) 5 (-1) 17 j = _; rw [fl_row _ _ _ (by decide), fl_row _ _ _ (by decide), su_at, if_neg (fun g => h g.2)]⟩
  | q + 1 => by
    obtain ⟨h1, h2⟩ := TX_frame b s q
    rw [TX_succ]
    split
    · exact ⟨fun r a1 a2 a3 => by rw [CXs_row a1 a2 a3, h1 r a1 a2 a3], fun j hj => by rw [CXs_f, if_neg hj, h2 j hj]⟩
    · exact ⟨h1, h2⟩
theorem TX_cnt (b : Bd) (s : SC) : ∀ q, TX b s q 17 3 = nI (ct (fun q => inA b q && inD b q) q)
  | 0 => by show fl (fl (su s 17 3 0) 4 0) 5 (-1) 17 3 = _; rw [fl_row _ _ _ (by decide), fl_row _ _ _ (by decide), su_at, if_pos ⟨rfl, rfl⟩]; rfl
  | q + 1 => by
    rw [TX_succ, ct_succ]
    by_cases h : (inA b q && inD b q) = true
    · rw [if_pos h, if_pos h, CXs_f, if_pos rfl, TX_cnt b s q, nI_1]
    · rw [if_neg h, if_neg h, TX_cnt b s q]; rfl
theorem xq_at {b : Bd} {k m q : Nat} (hk : k < 8) (hm : m < 8) (h : xl b k m = true) (hq : xq k m = q) : (k = q / 4 ∧ m = 4 + q % 4) ∨ (k = 4 + q % 4 ∧ m = q / 4) := by
  have h1 := ((xl_iff hk hm).mp h).1
  unfold xq at hq
  by_cases g : k < 4
  · rw [if_pos g] at hq; left; omega
  · rw [if_neg g] at hq; right; omega
/-- the crossings met among the first q cells -/
def xset (b : Bd) (q k t : Nat) : Bool := (List.range 8).any (fun m => hs b m && (decide (t = rank b m) && (xl b k m && decide (xq k m < q))))
theorem xset_iff {b : Bd} {q k t : Nat} : xset b q k t = true ↔ ∃ m, m < 8 ∧ hs b m = true ∧ t = rank b m ∧ xl b k m = true ∧ xq k m < q := by
  unfold xset
  simp only [List.any_eq_true, List.mem_range, Bool.and_eq_true, decide_eq_true_eq]
theorem TX_4 (b : Bd) (s : SC) : ∀ q, q ≤ 16 → ∀ k, k < 8 → hs b k = true → IsSet (TX b s q 4 (rank b k)) (xset b q k)
  | 0, _, k, hk, hh => by
    have hr : rank b k < 8 := by have := rank_lt b hh hk; have := rank_le b 8; omega
    have e : TX b s 0 4 (rank b k) = 0 := by show fl (fl (su s 17 3 0) 4 0) 5 (-1) 4 _ = _; rw [fl_row _ _ _ (by decide), fl_at, if_pos ⟨rfl, hr⟩]
    rw [e]
    refine IsSet.zero.cong (fun t _ => ?_)
    symm
    apply Bool.eq_false_iff.mpr
    intro h
    obtain ⟨m, -, -, -, -, h5⟩ := xset_iff.mp h
    omega
  | q + 1, hq, k, hk, hh => by
    have ih := TX_4 b s q (by omega) k hk hh
    rw [TX_succ]
    by_cases h : (inA b q && inD b q) = true
    · rw [if_pos h, CXs_4]
      obtain ⟨hA, hD⟩ := Bool.and_eq_true_iff.mp h
      have gA := (inA_iff b q).mp hA
      have gD := (inD_iff b q).mp hD
      have r8 : ∀ m, m < 8 → hs b m = true → rank b m < 32 := fun m a c => by have := rank_lt b c a; have := rank_le b 8; omega
      by_cases e1 : k = 4 + q % 4
      · subst e1
        rw [if_pos rfl]
        refine (ih.ins (r8 (q / 4) (by omega) gA.1)).cong (fun t _ => ?_)
        apply Bool.eq_iff_iff.mpr
        simp only [Bool.or_eq_true, decide_eq_true_eq, xset_iff]
        constructor
        · rintro (⟨m, a1, a2, a3, a4, a5⟩ | rfl)
          · exact ⟨m, a1, a2, a3, a4, by omega⟩
          · refine ⟨q / 4, by omega, gA.1, rfl, (xl_iff hk (by omega)).mpr ⟨Or.inr ⟨by omega, by omega⟩, ?_⟩, by unfold xq; rw [if_neg (by omega)]; omega⟩
            have : xq (4 + q % 4) (q / 4) = q := by unfold xq; rw [if_neg (by omega)]; omega
            rw [this]; exact ⟨hA, hD⟩
        · rintro ⟨m, a1, a2, a3, a4, a5⟩
          by_cases e : xq (4 + q % 4) m = q
          · right
            rcases xq_at hk a1 a4 e with z | z
            · omega
            · rw [a3, z.2]
          · left; exact ⟨m, a1, a2, a3, a4, by omega⟩
      · have n1 : rank b k ≠ rank b (4 + q % 4) := fun z => e1 (rank_inj b hh gD.1 z)
        rw [if_neg n1]
        by_cases e2 : k = q / 4
        · subst e2
          rw [if_pos rfl]
          refine (ih.ins (r8 (4 + q % 4) (by omega) gD.1)).cong (fun t _ => ?_)
          apply Bool.eq_iff_iff.mpr
          simp only [Bool.or_eq_true, decide_eq_true_eq, xset_iff]
          constructor
          · rintro (⟨m, a1, a2, a3, a4, a5⟩ | rfl)
            · exact ⟨m, a1, a2, a3, a4, by omega⟩
            · refine ⟨4 + q % 4, by omega, gD.1, rfl, (xl_iff hk (by omega)).mpr ⟨Or.inl ⟨by omega, by omega⟩, ?_⟩, by unfold xq; rw [if_pos (by omega)]; omega⟩
              have : xq (q / 4) (4 + q % 4) = q := by unfold xq; rw [if_pos (by omega)]; omega
              rw [this]; exact ⟨hA, hD⟩
          · rintro ⟨m, a1, a2, a3, a4, a5⟩
            by_cases e : xq (q / 4) m = q
            · right
              rcases xq_at hk a1 a4 e with z | z
              · rw [a3, z.2]
              · omega
            · left; exact ⟨m, a1, a2, a3, a4, by omega⟩
        · have n2 : rank b k ≠ rank b (q / 4) := fun z => e2 (rank_inj b hh gA.1 z)
          rw [if_neg n2]
          refine ih.cong (fun t _ => ?_)
          apply Bool.eq_iff_iff.mpr
          simp only [xset_iff]
          constructor
          · rintro ⟨m, a1, a2, a3, a4, a5⟩; exact ⟨m, a1, a2, a3, a4, by omega⟩
          · rintro ⟨m, a1, a2, a3, a4, a5⟩
            refine ⟨m, a1, a2, a3, a4, ?_⟩
            by_cases e : xq k m = q
            · rcases xq_at hk a1 a4 e with z | z
              · exact absurd z.1 e2
              · exact absurd z.1 e1
            · omega
    · rw [if_neg h]
      refine ih.cong (fun t _ => ?_)
      apply Bool.eq_iff_iff.mpr
      simp only [xset_iff]
      constructor
      · rintro ⟨m, a1, a2, a3, a4, a5⟩; exact ⟨m, a1, a2, a3, a4, by omega⟩
      · rintro ⟨m, a1, a2, a3, a4, a5⟩
        refine ⟨m, a1, a2, a3, a4, ?_⟩
        by_cases e : xq k m = q
        · have := ((xl_iff hk a1).mp a4).2
          rw [e] at this
          exact absurd (by rw [this.1, this.2]; rfl) h
        · omega
theorem TX_5 (b : Bd) (s : SC) : ∀ q, q ≤ 16 → ∀ k, k < 8 → hs b k = true → ∀ m, m < 8 → hs b m = true → TX b s q 5 (8 * rank b k + rank b m) = if xl b k m = true ∧ xq k m < q then nI (pl b k m) else -1
  | 0, _, k, hk, hh, m, hm, hm2 => by
    have hr : rank b k < 8 := by have := rank_lt b hh hk; have := rank_le b 8; omega
    have hr2 : rank b m < 8 := by have := rank_lt b hm2 hm; have := rank_le b 8; omega
    show fl (fl (su s 17 3 0) 4 0) 5 (-1) 5 _ = _
    rw [fl_at, if_pos ⟨rfl, by show _ < 64; omega⟩, if_neg (by omega)]
  | q + 1, hq, k, hk, hh, m, hm, hm2 => by
    have ih := TX_5 b s q (by omega) k hk hh m hm hm2
    have hr : rank b k < 8 := by have := rank_lt b hh hk; have := rank_le b 8; omega
    have hr2 : rank b m < 8 := by have := rank_lt b hm2 hm; have := rank_le b 8; omega
    rw [TX_succ]
    by_cases h : (inA b q && inD b q) = true
    · rw [if_pos h, CXs_5]
      obtain ⟨hA, hD⟩ := Bool.and_eq_true_iff.mp h
      have gA := (inA_iff b q).mp hA
      have gD := (inD_iff b q).mp hD
      have ra : rank b (q / 4) < 8 := by have := rank_lt b gA.1 (show q / 4 < 8 by omega); have := rank_le b 8; omega
      have rd : rank b (4 + q % 4) < 8 := by have := rank_lt b gD.1 (show 4 + q % 4 < 8 by omega); have := rank_le b 8; omega
      by_cases e1 : k = 4 + q % 4 ∧ m = q / 4
      · obtain ⟨rfl, rfl⟩ := e1
        have e : xq (4 + q % 4) (q / 4) = q := by unfold xq; rw [if_neg (by omega)]; omega
        rw [if_pos rfl, if_pos ⟨(xl_iff hk hm).mpr ⟨Or.inr ⟨by omega, by omega⟩, by rw [e]; exact ⟨hA, hD⟩⟩, by omega⟩]
        congr 1
        unfold pl; rw [if_neg (by omega)]
      · have n1 : ¬ 8 * rank b k + rank b m = 8 * rank b (4 + q % 4) + rank b (q / 4) := by
          intro z
          exact e1 ⟨rank_inj b hh gD.1 (by omega), rank_inj b hm2 gA.1 (by omega)⟩
        rw [if_neg n1]
        by_cases e2 : k = q / 4 ∧ m = 4 + q % 4
        · obtain ⟨rfl, rfl⟩ := e2
          have e : xq (q / 4) (4 + q % 4) = q := by unfold xq; rw [if_pos (by omega)]; omega
          rw [if_pos rfl, if_pos ⟨(xl_iff hk hm).mpr ⟨Or.inl ⟨by omega, by omega⟩, by rw [e]; exact ⟨hA, hD⟩⟩, by omega⟩]
          congr 1
          unfold pl; rw [if_pos (by omega)]; omega
        · have n2 : ¬ 8 * rank b k + rank b m = 8 * rank b (q / 4) + rank b (4 + q % 4) := by
            intro z
            exact e2 ⟨rank_inj b hh gA.1 (by omega), rank_inj b hm2 gD.1 (by omega)⟩
          rw [if_neg n2, ih]
          by_cases g : xl b k m = true ∧ xq k m < q
          · rw [if_pos g, if_pos ⟨g.1, by omega⟩]
          · rw [if_neg g, if_neg]
            rintro ⟨g1, g2⟩
            by_cases e : xq k m = q
            · rcases xq_at hk hm g1 e with z | z
              · exact e2 z
              · exact e1 z
            · exact g ⟨g1, by omega⟩
    · rw [if_neg h, ih]
      by_cases g : xl b k m = true ∧ xq k m < q
      · rw [if_pos g, if_pos ⟨g.1, by omega⟩]
      · rw [if_neg g, if_neg]
        rintro ⟨g1, g2⟩
        by_cases e : xq k m = q
        · have := ((xl_iff hk hm).mp g1).2
          rw [e] at this
          exact absurd (by rw [this.1, this.2]; rfl) h
        · exact g ⟨g1, by omega⟩
theorem readCrossings_ok {b : Bd} {s : SC} (hX : XPre b s) : f_X6_readCrossings s = some (TX b s 16) := by
  have hXq : ∀ q, XPre b (TX b s q) := fun q => by
    obtain ⟨h1, h2⟩ := TX_frame b s q
    exact hX.keep (h2 2 (by decide)) (h1 2 (by decide) (by decide) (by decide)) (h1 6 (by decide) (by decide) (by decide)) (h1 7 (by decide) (by decide) (by decide))
  have key : ∀ (m n q : Nat), q + m = 16 → m < n → f_X6_readCrossings_L23 n (TX b s q) (nI q) = some (TX b s 16) := by
    intro m
    induction m with
    | zero =>
      intro n q h1 h2
      obtain ⟨n, rfl⟩ := succ_of h2
      rw [f_X6_readCrossings_L23_s, if_le (by omega) (by omega), show q = 16 by omega]
    | succ m ih =>
      intro n q h1 h2
      obtain ⟨n, rfl⟩ := succ_of h2
      have := ih n (q + 1) (by omega) (by omega)
      rw [TX_succ] at this
      by_cases h : (inA b q && inD b q) = true
      · rw [if_pos h] at this
        obtain ⟨hA, hD⟩ := Bool.and_eq_true_iff.mp h
        rw [rc_step (hXq q) (by omega) hA hD]
        exact this
      · rw [if_neg h] at this
        rw [rc_skip (hXq q) (by omega) (by simpa using h)]
        exact this
  unfold f_X6_readCrossings
  have := key 16 FU 0 (by omega) (by have := FU_big; omega)
  rw [nI_0] at this
  exact this
