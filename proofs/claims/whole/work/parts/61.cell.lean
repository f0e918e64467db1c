/-! cell -/
def onS (b : Bd) (t q : Nat) : Bool := (List.range (sZ b t)).any (fun p => decide (cS b t p = q))
theorem onS_iff {b : Bd} {t q : Nat} : onS b t q = true ↔ ∃ p, p < sZ b t ∧ cS b t p = q := by
  unfold onS
  simp only [List.any_eq_true, List.mem_range, decide_eq_true_eq]
theorem onA_iff {b : Bd} {t q : Nat} (ht : t < nS b) (hq : q < 16) : (onS b t q = true ∧ lnb b t < 4) ↔ (inA b q = true ∧ t = rank b (q / 4)) := by
  obtain ⟨k1, k2, k3⟩ := lnb_ok ht
  rw [onS_iff, inA_iff]
  have l1 := lo_ll b (lnb b t)
  constructor
  · rintro ⟨⟨p, hp, e⟩, h4⟩
    rw [cS_row _ h4] at e
    unfold sZ at hp
    have e1 : q / 4 = lnb b t := by omega
    rw [e1, k3]
    exact ⟨⟨k2, by omega, by omega⟩, rfl⟩
  · rintro ⟨⟨h1, h2, h3⟩, h4⟩
    have e1 : lnb b t = q / 4 := by rw [h4]; exact lnb_rank (by omega) h1
    refine ⟨⟨q % 4 - lo b (q / 4), ?_, ?_⟩, by omega⟩
    · unfold sZ; rw [e1]; omega
    · rw [cS_row _ (by omega), e1]; omega
theorem onD_iff {b : Bd} {t q : Nat} (ht : t < nS b) (hq : q < 16) : (onS b t q = true ∧ 4 ≤ lnb b t) ↔ (inD b q = true ∧ t = rank b (4 + q % 4)) := by
  obtain ⟨k1, k2, k3⟩ := lnb_ok ht
  rw [onS_iff, inD_iff]
  have l1 := lo_ll b (lnb b t)
  constructor
  · rintro ⟨⟨p, hp, e⟩, h4⟩
    rw [cS_col _ h4] at e
    unfold sZ at hp
    have e1 : 4 + q % 4 = lnb b t := by omega
    rw [e1, k3]
    exact ⟨⟨k2, by omega, by omega⟩, rfl⟩
  · rintro ⟨⟨h1, h2, h3⟩, h4⟩
    have e1 : lnb b t = 4 + q % 4 := by rw [h4]; exact lnb_rank (by omega) h1
    refine ⟨⟨q / 4 - lo b (4 + q % 4), ?_, ?_⟩, by omega⟩
    · unfold sZ; rw [e1]; omega
    · rw [cS_col _ (by omega), e1]; omega
def plS (b : Bd) (t q : Nat) : Nat := (q - sF b t) / sT b t
theorem plS_at {b : Bd} {t p : Nat} : plS b t (cS b t p) = p := by
  unfold plS cS
  have : 0 < sT b t := by unfold sT lsp; split <;> omega
  rw [Nat.add_sub_cancel_left, Nat.mul_div_cancel_left _ this]
def ls (b : Bd) (t p c : Nat) : Bool := (List.range b.2.1).any (fun w => leftB b t w && decide (letN (b.2.2 w) p = c + 1))
theorem ls_iff {b : Bd} {t p c : Nat} : ls b t p c = true ↔ ∃ w, w < b.2.1 ∧ leftB b t w = true ∧ letN (b.2.2 w) p = c + 1 := by
  unfold ls
  simp only [List.any_eq_true, List.mem_range, Bool.and_eq_true, decide_eq_true_eq]
def cbS (b : Bd) (q n c : Nat) : Bool := decide (c < 6) && (List.range n).all (fun t => !onS b t q || ls b t (plS b t q) c)
theorem cbS_iff {b : Bd} {q n c : Nat} : cbS b q n c = true ↔ c < 6 ∧ ∀ t, t < n → onS b t q = true → ls b t (plS b t q) c = true := by
  unfold cbS
  simp only [List.all_eq_true, List.mem_range, Bool.and_eq_true, decide_eq_true_eq, Bool.or_eq_true, Bool.not_eq_true']
  constructor
  · rintro ⟨h1, h2⟩
    refine ⟨h1, fun t ht ho => ?_⟩
    rcases h2 t ht with z | z
    · rw [ho] at z; cases z
    · exact z
  · rintro ⟨h1, h2⟩
    refine ⟨h1, fun t ht => ?_⟩
    by_cases g : onS b t q = true
    · right; exact h2 t ht g
    · left; simpa using g
def lone (b : Bd) (q n : Nat) : Bool := (List.range n).all (fun t => !onS b t q)
theorem lone_iff {b : Bd} {q n : Nat} : lone b q n = true ↔ ∀ t, t < n → onS b t q = false := by
  unfold lone
  simp only [List.all_eq_true, List.mem_range, Bool.not_eq_true']
theorem set63 : IsSet (nI 63) (fun c => decide (c < 6)) := by
  refine (IsSet.ofN 63).cong (fun k hk => ?_)
  have : ∀ k, k < 32 → Nat.testBit 63 k = decide (k < 6) := by decide
  exact this k hk
section Q5
variable {b : Bd} {σ : SC} {τ : SR}
theorem fnd_on (t q : Nat) : (fnd (fun p => decide (cS b t p = q)) (sZ b t) 0 = -1 ∧ onS b t q = false) ∨ ∃ p, p < sZ b t ∧ cS b t p = q ∧ onS b t q = true ∧ fnd (fun p => decide (cS b t p = q)) (sZ b t) 0 = nI p := by
  rcases fnd_cases (fun p => decide (cS b t p = q)) (sZ b t) 0 with ⟨z1, z2⟩ | ⟨i, z1, z2, z3, z4, z5⟩
  · left
    refine ⟨z1, ?_⟩
    apply Bool.eq_false_iff.mpr
    intro g
    obtain ⟨p, hp, e⟩ := onS_iff.mp g
    have := z2 p (by omega) (by omega)
    simp [e] at this
  · right
    exact ⟨i, by omega, of_decide_eq_true z3, onS_iff.mpr ⟨i, by omega, of_decide_eq_true z3⟩, z5⟩
theorem canBe_word (hr : RB b τ) (hv : VB b) (hs : RS b τ) (hl : ∀ s, s < nS b → IsSet (τ.1 7 s) (leftB b s)) {t p : Nat} (ht : t < nS b) (hp : p < sZ b t) (x2 : Int32) (kx : SR → Int32 → Option (Int32 × SR)) : ∃ y, f_X8_canBe_L50 (nI (cS b t p)) x2 (nI t) kx FU τ 0 0 = kx τ y ∧ IsSet y (fun c => ls b t p c) := by
  have hw16 := hv.2.1
  have h8 := nS_le b
  have hsup : Sup b (leftB b) := it_sup (fun _ _ h => h)
  have key : ∀ (k n w : Nat) (x : Int32), w + k = b.2.1 → k < n → IsSet x (fun c => (List.range w).any (fun w => leftB b t w && decide (letN (b.2.2 w) p = c + 1))) → ∃ y, f_X8_canBe_L50 (nI (cS b t p)) x2 (nI t) kx n τ x (nI w) = kx τ y ∧ IsSet y (fun c => ls b t p c) := by
    intro k
    induction k with
    | zero =>
      intro n w x h1 h2 hx
      obtain ⟨n, rfl⟩ := succ_of h2
      rw [f_X8_canBe_L50_s, if_in16, ix16, hr.2.1, if_le (by omega) (by omega)]
      rw [show w = b.2.1 by omega] at hx
      exact ⟨x, rfl, hx⟩
    | succ k ih =>
      intro n w x h1 h2 hx
      obtain ⟨n, rfl⟩ := succ_of h2
      have hw : w < b.2.1 := by omega
      rw [f_X8_canBe_L50_s, if_in16, ix16, hr.2.1, if_nle (by omega) (by omega), if_in (by omega), ix_nI (by omega), (hl t ht).hasv (by omega), Option.bind_some, nI_1]
      by_cases g : leftB b t w = true
      · have hlen := (hsup.len g).2
        have hlt := letN_lt (b.2.2 w) p
        have hok := okN_let (hv.2.2.2.1 w hw) (p := p) (by omega)
        rw [if_pos g, if10, letterIn_ok hr hv hs ht hw hp hlen, Option.bind_some, nI_m1 hok]
        refine ih n (w + 1) _ (by omega) (by omega) ((hx.ins (by omega)).cong (fun c _ => ?_))
        rw [List.range_succ, List.any_append]
        congr 1
        simp only [List.any_cons, List.any_nil, Bool.or_false, g, Bool.true_and]
        apply Bool.eq_iff_iff.mpr
        simp only [decide_eq_true_eq]
        omega
      · rw [if_neg g, if00, set_or0 hx]
        refine ih n (w + 1) _ (by omega) (by omega) (hx.cong (fun c _ => ?_))
        rw [List.range_succ, List.any_append]
        have g' : leftB b t w = false := by simpa using g
        simp [g']
  have := key b.2.1 FU 0 0 (by omega) (by have := FU_big; omega) (IsSet.zero.cong (fun c _ => by simp))
  rw [nI_0] at this
  exact this
theorem canBeR_ok (hr : RB b τ) (hv : VB b) {q : Nat} (hq : q < 16) (hn : b.1 q ≠ 7) : ∃ x τ', f_X8_canBe τ (nI q) = some ((if lone b q (nS b) = true then (if b.1 q = 0 then nI 63 else (1 : Int32) <<< (nI (b.1 q - 1) &&& 31)) else x), τ') ∧ IsSet x (cbS b q (nS b)) ∧ FR τ τ' := by
  have h8 := nS_le b
  have h7 := hv.1 q hq
  obtain ⟨τ1, e1, hr1, e2, e3, e4⟩ := layLeft_ok hr hv
  have key : ∀ (kx : SR → Int32 → Int32 → Option (Int32 × SR)) (m n s : Nat) (x : Int32), s + m = nS b → m < n → IsSet x (cbS b q s) → ∃ x', f_X8_canBe_L24 (nI q) kx n τ1 x (b2 (lone b q s)) (nI s) = kx τ1 x' (b2 (lone b q (nS b))) ∧ IsSet x' (cbS b q (nS b)) := by
    intro kx m
    induction m with
    | zero =>
      intro n s x h1 h2 hx
      obtain ⟨n, rfl⟩ := succ_of h2
      rw [f_X8_canBe_L24_s, e2.1, if_le (by omega) (by omega)]
      have e : s = nS b := by omega
      rw [e] at hx
      rw [e]
      exact ⟨x, rfl, hx⟩
    | succ m ih =>
      intro n s x h1 h2 hx
      obtain ⟨n, rfl⟩ := succ_of h2
      have hs' : s < nS b := by omega
      have hz := sZ_24 hs'
      rw [f_X8_canBe_L24_s, e2.1, if_nle (by omega) (by omega), placeIn_ok e2 hs' (by omega), Option.bind_some, nI_1]
      rcases fnd_on (b := b) s q with ⟨f1, f2⟩ | ⟨p, f1, f2, f3, f4⟩
      · rw [f1, if_t rfl]
        have el : lone b q s = lone b q (s + 1) := by
          unfold lone
          rw [List.range_succ, List.all_append]
          simp [f2]
        rw [el]
        refine ih n (s + 1) x (by omega) (by omega) (hx.cong (fun c _ => ?_))
        unfold cbS
        rw [List.range_succ, List.all_append]
        simp [f2]
      · obtain ⟨y, y1, y2⟩ := canBe_word hr1 hv e2 e4 hs' f1 x (fun σ_105 x5_105 => (f_X8_canBe_L24 (nI q) kx n σ_105 (x &&& x5_105) 0 (nI (s + 1))))
        rw [f4, if_nm1 (by omega)]
        rw [f2] at y1
        have el : lone b q (s + 1) = false := by
          unfold lone
          rw [List.range_succ, List.all_append]
          simp [f3]
        have ih' := ih n (s + 1) (x &&& y) (by omega) (by omega) ((hx.and y2).cong (fun c _ => by
          unfold cbS
          have : plS b s q = p := by rw [← f2]; exact plS_at
          rw [List.range_succ, List.all_append]
          simp [f3, this, Bool.and_assoc]))
        rw [el] at ih'
        obtain ⟨x', z1, z2⟩ := ih'
        exact ⟨x', y1.trans z1, z2⟩
  obtain ⟨x, k1, k2⟩ := key (fun σ_118 x2_118 x3_118 => (if x3_118 = 0 then (some (x2_118, σ_118)) else (if inb (nI q) 33 = true then (if (σ_118.1 0 (ix (nI q))) ≤ 0 then (some (x2_118, σ_118)) else (if inb (nI q) 33 = true then (some (((1 : Int32) <<< (((σ_118.1 0 (ix (nI q))) - 1) &&& 31)), σ_118)) else none)) else none))) (nS b) FU 0 (nI 63) (by omega) (by have := FU_big; omega) (set63.cong (fun c _ => by unfold cbS; simp))
  refine ⟨x, τ1, ?_, k2, e3⟩
  unfold f_X8_canBe
  rw [if_in (by omega), ix_nI (by omega), hr.1 q hq, if_rn h7 hn, e1, Option.bind_some]
  rw [nI_0, show b2 (lone b q 0) = 1 from rfl, ix_nI (by omega)] at k1
  refine Eq.trans k1 ?_
  show (if b2 (lone b q (nS b)) = 0 then _ else _) = _
  by_cases g : lone b q (nS b) = true
  · rw [if_b1 g, if_pos g, if_in (by omega), hr1.1 q hq]
    by_cases g0 : b.1 q = 0
    · rw [if_rlo h7 (Or.inl g0), if_pos g0]
      have : x = nI 63 := by
        refine IsSet.eq k2 (set63.cong (fun c _ => ?_))
        unfold cbS
        have g' := lone_iff.mp g
        apply Bool.eq_iff_iff.mpr
        simp only [Bool.and_eq_true, decide_eq_true_eq, List.all_eq_true, List.mem_range]
        constructor
        · intro h; exact ⟨h, fun t ht => by rw [g' t ht]; rfl⟩
        · intro h; exact h.1
      rw [this]
    · rw [if_rhi h7 (by omega), if_neg g0, if_in (by omega), rV_let (by omega), nI_m1 (by omega)]
  · rw [if_b0 (by simpa using g), if_neg g]
theorem placeOf_ok (hd : DS b σ) {s p : Nat} (hs' : s < nS b) (hp : p < sZ b s) : f_X6_placeOf σ (nI (cS b s p)) (nI s) = some (nI p) := by
  have h8 := nS_le b
  have hlt := cS_lt hs' hp
  have hz := sZ_24 hs'
  have r3 : rank b 4 ≤ 4 := rank_le b 4
  have hdn := lnb_down hs'
  unfold f_X6_placeOf
  rw [isDown_ok hd.2.1 (by omega) (by omega), Option.bind_some, rd_in σ (show s < lnC 2 by show s < 8; omega), (hd.2.2.2.1 s hs').1, pk_sub (by unfold cS; omega)]
  have e : cS b s p - sF b s = sT b s * p := by unfold cS; omega
  rw [e]
  by_cases g : rank b 4 ≤ s
  · have : sT b s = 4 := by unfold sT lsp; rw [if_neg (by omega)]
    rw [if_b1 (decide_eq_true g), this, pk_div (by omega) (by decide) (by decide)]
    congr 2; omega
  · have : sT b s = 1 := by unfold sT lsp; rw [if_pos (by omega)]
    rw [if_b0 (decide_eq_false g), this, Nat.one_mul]
theorem lettersLeft_ok (hv : VB b) (hd : DS b σ) (hi : DI b σ) (hl : DC b σ) {s p : Nat} (hs' : s < nS b) (hp : p < sZ b s) : ∃ x, f_X7_lettersLeft σ (nI s) (nI (cS b s p)) = some x ∧ IsSet x (fun c => decide (c < 6) && ls b s p c) := by
  have h8 := nS_le b
  have hz := sZ_24 hs'
  have hw16 := hv.2.1
  have hsup : Sup b (leftB b) := it_sup (fun _ _ h => h)
  have key : ∀ (m n c : Nat) (x : Int32), c + m = 6 → m < n → IsSet x (fun k => decide (k < c) && ls b s p k) → ∃ y, f_X7_lettersLeft_L24 σ (nI s) (nI p) n x (nI c) = some y ∧ IsSet y (fun k => decide (k < 6) && ls b s p k) := by
    intro m
    induction m with
    | zero =>
      intro n c x h1 h2 hx
      obtain ⟨n, rfl⟩ := succ_of h2
      rw [f_X7_lettersLeft_L24_s, if_le (by omega) (by omega)]
      rw [show c = 6 by omega] at hx
      exact ⟨x, rfl, hx⟩
    | succ m ih =>
      intro n c x h1 h2 hx
      obtain ⟨n, rfl⟩ := succ_of h2
      have hset := (hl.2 s hs').and (hi.2.1 p (by omega) c (by omega))
      have hif : ((σ 12 s &&& σ 9 (6 * p + c)) = 0) ↔ ls b s p c = false := by
        rw [hset.eq0]
        constructor
        · intro h
          apply Bool.eq_false_iff.mpr
          intro z
          obtain ⟨w, w1, w2, w3⟩ := ls_iff.mp z
          have hlen := (hsup.len w2).2
          have := h w (by omega)
          simp [w1, w2, w3, hlen, hp] at this
        · intro h w _
          apply Bool.eq_false_iff.mpr
          intro z
          simp only [Bool.and_eq_true, decide_eq_true_eq] at z
          have : ls b s p c = true := ls_iff.mpr ⟨w, z.2.1, z.1, z.2.2.2⟩
          rw [h] at this; cases this
      rw [f_X7_lettersLeft_L24_s, if_nle (by omega) (by omega)]
      unfold f_X3_wordsHaving
      rw [Option.bind_some, rd_in σ (show s < lnC 12 by show s < 8; omega), pk_mul, nI_add, Nat.mul_comm p 6, rd_in σ (show 6 * p + c < lnC 9 by show _ < 24; omega), nI_1]
      by_cases g : ls b s p c = true
      · rw [if_neg (fun z => by rw [hif.mp z] at g; cases g)]
        exact ih n (c + 1) _ (by omega) (by omega) (set_step (by omega) hx g)
      · rw [if_pos (hif.mpr (by simpa using g))]
        exact ih n (c + 1) _ (by omega) (by omega) (set_skip hx (by simpa using g))
  unfold f_X7_lettersLeft
  rw [if_nm1 (by omega), placeOf_ok hd hs' hp, Option.bind_some]
  have := key 6 FU 0 0 (by omega) (by have := FU_big; omega) set_nil
  rw [nI_0] at this
  exact this
theorem left63 (x : Int32) : f_X7_lettersLeft σ (-1) x = some (nI 63) := by
  unfold f_X7_lettersLeft
  rw [if_pos rfl]
theorem canBeC_ok (hc : CB b σ) (hv : VB b) (hd : Der b σ) {q : Nat} (hq : q < 16) (hn : b.1 q ≠ 7) : ∃ x, f_X7_lettersThatCanBe σ (nI q) = some (if lone b q (nS b) = true then (if b.1 q = 0 then nI 63 else (1 : Int32) <<< (nI (b.1 q - 1) &&& 31)) else x) ∧ IsSet x (cbS b q (nS b)) := by
  have h8 := nS_le b
  have h7 := hv.1 q hq
  have half : ∀ (v : Int32) (t : Nat) (g : Bool), v = (if g = true then nI t else -1) → (g = true → t < nS b ∧ onS b t q = true) → ∃ x, f_X7_lettersLeft σ v (nI q) = some x ∧ IsSet x (fun c => decide (c < 6) && (!g || ls b t (plS b t q) c)) := by
    rintro v t g rfl hg
    cases g with
    | false => exact ⟨nI 63, left63 _, set63.cong (fun c _ => by simp)⟩
    | true =>
      obtain ⟨g1, g2⟩ := hg rfl
      obtain ⟨p, p1, p2⟩ := onS_iff.mp g2
      obtain ⟨x, x1, x2⟩ := lettersLeft_ok hv hd.1 hd.2.1 hd.2.2 g1 p1
      have ep : plS b t q = p := by rw [← p2]; exact plS_at
      rw [p2] at x1
      exact ⟨x, x1, x2.cong (fun c _ => by simp [ep])⟩
  have hA : inA b q = true → rank b (q / 4) < nS b ∧ onS b (rank b (q / 4)) q = true := by
    intro g
    have hlt : rank b (q / 4) < nS b := rank_lt b ((inA_iff b q).mp g).1 (by omega)
    exact ⟨hlt, ((onA_iff hlt hq).mpr ⟨g, rfl⟩).1⟩
  have hD : inD b q = true → rank b (4 + q % 4) < nS b ∧ onS b (rank b (4 + q % 4)) q = true := by
    intro g
    have hlt : rank b (4 + q % 4) < nS b := rank_lt b ((inD_iff b q).mp g).1 (by omega)
    exact ⟨hlt, ((onD_iff hlt hq).mpr ⟨g, rfl⟩).1⟩
  have hon : ∀ t, t < nS b → onS b t q = true → (inA b q = true ∧ t = rank b (q / 4)) ∨ (inD b q = true ∧ t = rank b (4 + q % 4)) := by
    intro t ht ho
    by_cases g : lnb b t < 4
    · left; exact (onA_iff ht hq).mp ⟨ho, g⟩
    · right; exact (onD_iff ht hq).mp ⟨ho, by omega⟩
  obtain ⟨x, x1, x2⟩ := half _ _ _ (hd.1.2.2.2.2.1 q hq) hA
  obtain ⟨y, y1, y2⟩ := half _ _ _ (hd.1.2.2.2.2.2 q hq) hD
  have hK : f_X7_lettersThatCanBe_K71 σ (nI q) (σ 6 q) (σ 7 q) = some (x &&& y) := by
    unfold f_X7_lettersThatCanBe_K71
    rw [x1, Option.bind_some, y1, Option.bind_some]
  have hset : IsSet (x &&& y) (cbS b q (nS b)) := by
    refine (x2.and y2).cong (fun c _ => ?_)
    apply Bool.eq_iff_iff.mpr
    rw [cbS_iff]
    simp only [Bool.and_eq_true, decide_eq_true_eq, Bool.or_eq_true, Bool.not_eq_true']
    constructor
    · rintro ⟨⟨c6, a1⟩, -, a2⟩
      refine ⟨c6, fun t ht ho => ?_⟩
      rcases hon t ht ho with ⟨g, rfl⟩ | ⟨g, rfl⟩
      · rcases a1 with z | z
        · rw [g] at z; cases z
        · exact z
      · rcases a2 with z | z
        · rw [g] at z; cases z
        · exact z
    · rintro ⟨c6, h⟩
      refine ⟨⟨c6, ?_⟩, c6, ?_⟩
      · by_cases g : inA b q = true
        · right; exact h _ (hA g).1 (hA g).2
        · left; simpa using g
      · by_cases g : inD b q = true
        · right; exact h _ (hD g).1 (hD g).2
        · left; simpa using g
  refine ⟨x &&& y, ?_, hset⟩
  unfold f_X7_lettersThatCanBe
  rw [rd_in σ (show q < lnC 0 from hq), rd_in σ (show q < lnC 6 from hq), rd_in σ (show q < lnC 7 from hq), hK, hc.1 q hq, if_cn h7 hn]
  have r1 : rank b (q / 4) ≤ 8 := Nat.le_trans (rank_le b _) (by omega)
  have r2 : rank b (4 + q % 4) ≤ 8 := Nat.le_trans (rank_le b _) (by omega)
  rw [hd.1.2.2.2.2.1 q hq, hd.1.2.2.2.2.2 q hq]
  by_cases gA : inA b q = true
  · have hl : lone b q (nS b) = false := by
      apply Bool.eq_false_iff.mpr
      intro z
      have := lone_iff.mp z _ (hA gA).1
      rw [(hA gA).2] at this; cases this
    rw [if_pos gA, if_nm1 (by omega), hl]; rfl
  · rw [if_neg gA, if_t rfl]
    by_cases gD : inD b q = true
    · have hl : lone b q (nS b) = false := by
        apply Bool.eq_false_iff.mpr
        intro z
        have := lone_iff.mp z _ (hD gD).1
        rw [(hD gD).2] at this; cases this
      rw [if_pos gD, if_nm1 (by omega), hl]; rfl
    · have hl : lone b q (nS b) = true := by
        refine lone_iff.mpr (fun t ht => ?_)
        apply Bool.eq_false_iff.mpr
        intro z
        rcases hon t ht z with ⟨g, -⟩ | ⟨g, -⟩
        · exact gA g
        · exact gD g
      rw [if_neg gD, if_t rfl, if_pos hl]
      by_cases g0 : b.1 q = 0
      · rw [if_c0 g0, if_pos g0]
      · rw [if_cn0 h7 g0, if_neg g0, cV_let (by omega) (by omega), pk_sub (by omega), show 96 + b.1 q - 97 = b.1 q - 1 by omega]
theorem cellSlot_ok (hs : RS b τ) {q : Nat} (hq : q < 16) (x2 : Int32) (z : Nat) (hz : ∀ t, t < nS b → ((if x2 = 1 then (if nI (sT b t) = 1 then true else false) else (if nI (sT b t) = nI 4 then true else false)) = decide (sT b t = z))) : f_X8_cell_L74 (nI q) x2 FU τ 0 = some (fnd (fun t => onS b t q && decide (sT b t = z)) (nS b) 0, τ) := by
  have h8 := nS_le b
  have key : ∀ (k n s : Nat), s + k = nS b → k < n → f_X8_cell_L74 (nI q) x2 n τ (nI s) = some (fnd (fun t => onS b t q && decide (sT b t = z)) k s, τ) := by
    intro k
    induction k with
    | zero =>
      intro n s h1 h2
      obtain ⟨n, rfl⟩ := succ_of h2
      rw [f_X8_cell_L74_s, hs.1, if_le (by omega) (by omega)]
      rfl
    | succ k ih =>
      intro n s h1 h2
      obtain ⟨n, rfl⟩ := succ_of h2
      have hs' : s < nS b := by omega
      have hsz := sZ_24 hs'
      have ih' := ih n (s + 1) (by omega) (by omega)
      rw [f_X8_cell_L74_s, hs.1, if_nle (by omega) (by omega), placeIn_ok hs hs' (by omega), Option.bind_some, nI_1, ih', fnd_succ]
      rcases fnd_on (b := b) s q with ⟨f1, f2⟩ | ⟨p, f1, f2, f3, f4⟩
      · rw [f1, if_t rfl, f2, Bool.false_and]
        rfl
      · rw [f4, if_nm1 (by omega), if_in (by omega), ix_nI (by omega), (hs.2 s hs').2.2, f3, Bool.true_and, ← hz s hs']
        by_cases a : x2 = 1
        · rw [if_pos a, if_pos a]
          by_cases c : nI (sT b s) = 1
          · rw [if_pos c, if_pos c]; rfl
          · rw [if_neg c, if_neg c]; rfl
        · rw [if_neg a, if_neg a]
          by_cases c : nI (sT b s) = nI 4
          · rw [if_pos c, if_pos c]; rfl
          · rw [if_neg c, if_neg c]; rfl
  have := key (nS b) FU 0 (by omega) (by have := FU_big; omega)
  rw [nI_0] at this
  exact this
theorem sT_14 (b : Bd) (t : Nat) : (sT b t = 1 ↔ lnb b t < 4) ∧ (sT b t = 4 ↔ 4 ≤ lnb b t) ∧ sT b t ≤ 4 := by
  unfold sT lsp
  split <;> omega
theorem qry4 (x : Int32) : (f_X8_in x 0 (nI 3) = some 0 ∧ x ≠ 0 ∧ x ≠ 1 ∧ x ≠ nI 2 ∧ x ≠ nI 3) ∨ (f_X8_in x 0 (nI 3) = some 1 ∧ (x = 0 ∨ x = 1 ∨ x = nI 2 ∨ x = nI 3)) := by
  have e : nI 3 = nI 4 - 1 := by decide
  rcases rng x 4 (by decide) with h | ⟨i, hi, rfl⟩
  · left
    refine ⟨by rw [e]; exact in0 (by decide) h, ?_, ?_, ?_, ?_⟩ <;> rintro rfl <;> revert h <;> decide
  · right
    refine ⟨by rw [e]; exact in1 hi (by decide), ?_⟩
    have : i = 0 ∨ i = 1 ∨ i = 2 ∨ i = 3 := by omega
    rcases this with rfl | rfl | rfl | rfl
    · exact Or.inl rfl
    · exact Or.inr (Or.inl rfl)
    · exact Or.inr (Or.inr (Or.inl rfl))
    · exact Or.inr (Or.inr (Or.inr rfl))
theorem s_cell {σ : SC} {τ : SR} (h : Rel σ τ) (a0 a1 : Int32) : ∃ (r : Int32) (σ' : SC) (τ' : SR), f_X7_cell σ a0 a1 = some r ∧ f_X8_cell τ a0 a1 = some (r, τ') ∧ σ' = σ ∧ Rel σ' τ' := by
  obtain ⟨b, hv, hc, hr, hd, hp⟩ := id h
  have hw16 := hv.2.1
  have h8 := nS_le b
  unfold f_X7_cell f_X8_cell
  rcases cell_any a0 with ⟨e1, e2⟩ | ⟨q, hq, rfl, e1, e2⟩
  · rw [e1, e2]; exact ⟨_, σ, τ, rfl, rfl, rfl, h⟩
  · have h7 := hv.1 q hq
    rw [e1, e2, Option.bind_some, Option.bind_some, if10, if10, rd_in σ (show q < lnC 0 from hq), rd_in σ (show q < lnC 6 from hq), rd_in σ (show q < lnC 7 from hq)]
    obtain ⟨τ1, l1, l2, l3, -⟩ := lay_ok hr hv
    rcases qry4 a1 with ⟨i1, n0, n1, n2, n3⟩ | ⟨i1, e⟩
    · rw [i1, Option.bind_some, if00, if_neg n0, if_neg n1, if_neg n2, if_neg n3]
      exact ⟨_, σ, τ, rfl, rfl, rfl, h⟩
    · rw [i1, Option.bind_some, if10]
      rcases e with rfl | rfl | rfl | rfl
      · refine ⟨_, σ, τ, rfl, ?_, rfl, h⟩
        rw [if_pos rfl, if_in (by omega), ix_nI (by omega), hr.1 q hq, hc.1 q hq]
        by_cases g : b.1 q = 0 ∨ b.1 q = 7
        · rw [if_rlo h7 g, if_in (by omega)]
          rcases g with g | g <;> rw [g] <;> rfl
        · rw [if_rhi h7 g, if_in (by omega), rV_let (by omega), cV_let (by omega) (by omega), nI_add, Nat.add_comm]
      · refine ⟨_, σ, τ1, rfl, ?_, rfl, h.fr l3⟩
        rw [if_f (by decide), if_f (by decide), l1, Option.bind_some, cellSlot_ok l2 hq 1 1 (fun t _ => ?_), hd.1.2.2.2.2.1 q hq]
        · congr 2
          by_cases g : inA b q = true
          · have hlt : rank b (q / 4) < nS b := rank_lt b ((inA_iff b q).mp g).1 (by omega)
            have ho := (onA_iff hlt hq).mpr ⟨g, rfl⟩
            rw [if_pos g]
            refine fnd_some (by omega) (by omega) ?_ ?_
            · rw [ho.1, decide_eq_true ((sT_14 b _).1.mpr ho.2)]; rfl
            · intro t _ ht
              apply Bool.eq_false_iff.mpr
              intro z
              simp only [Bool.and_eq_true, decide_eq_true_eq] at z
              have := (onA_iff (show t < nS b by omega) hq).mp ⟨z.1, (sT_14 b t).1.mp z.2⟩
              omega
          · rw [if_neg g]
            refine fnd_none (fun t _ ht => ?_)
            apply Bool.eq_false_iff.mpr
            intro z
            simp only [Bool.and_eq_true, decide_eq_true_eq] at z
            exact g ((onA_iff (show t < nS b by omega) hq).mp ⟨z.1, (sT_14 b t).1.mp z.2⟩).1
        · have h4 := (sT_14 b t).2.2
          rw [if_pos rfl]
          by_cases y : sT b t = 1
          · rw [y]; rfl
          · rw [if_neg (show ¬ nI (sT b t) = (1 : Int32) from fun z => y ((nI_eq (a := sT b t) (b := 1) (by omega) (by omega)).mp z)), decide_eq_false y]
      · refine ⟨_, σ, τ1, rfl, ?_, rfl, h.fr l3⟩
        rw [if_f (by decide), if_f (by decide), l1, Option.bind_some, cellSlot_ok l2 hq (nI 2) 4 (fun t _ => ?_), hd.1.2.2.2.2.2 q hq]
        · congr 2
          by_cases g : inD b q = true
          · have hlt : rank b (4 + q % 4) < nS b := rank_lt b ((inD_iff b q).mp g).1 (by omega)
            have ho := (onD_iff hlt hq).mpr ⟨g, rfl⟩
            rw [if_pos g]
            refine fnd_some (by omega) (by omega) ?_ ?_
            · rw [ho.1, decide_eq_true ((sT_14 b _).2.1.mpr ho.2)]; rfl
            · intro t _ ht
              apply Bool.eq_false_iff.mpr
              intro z
              simp only [Bool.and_eq_true, decide_eq_true_eq] at z
              have := (onD_iff (show t < nS b by omega) hq).mp ⟨z.1, (sT_14 b t).2.1.mp z.2⟩
              omega
          · rw [if_neg g]
            refine fnd_none (fun t _ ht => ?_)
            apply Bool.eq_false_iff.mpr
            intro z
            simp only [Bool.and_eq_true, decide_eq_true_eq] at z
            exact g ((onD_iff (show t < nS b by omega) hq).mp ⟨z.1, (sT_14 b t).2.1.mp z.2⟩).1
        · have h4 := (sT_14 b t).2.2
          rw [if_f (by decide)]
          by_cases y : sT b t = 4
          · rw [y]; rfl
          · rw [if_neg (fun z => y ((nI_eq (a := sT b t) (b := 4) (by omega) (by omega)).mp z)), decide_eq_false y]
      · by_cases g : b.1 q = 7
        · refine ⟨0, σ, τ, ?_, ?_, rfl, h⟩
          · unfold f_X7_lettersThatCanBe
            rw [if_f (by decide), if_f (by decide), if_f (by decide), if_t rfl, rd_in σ (show q < lnC 0 from hq), hc.1 q hq, if_cm h7 g]; rfl
          · unfold f_X8_canBe
            rw [if_f (by decide), if_t rfl, if_in (by omega), ix_nI (by omega), hr.1 q hq, if_rm h7 g]; rfl
        · obtain ⟨x, x1, x2⟩ := canBeC_ok hc hv hd hq g
          obtain ⟨y, τ2, y1, y2, y3⟩ := canBeR_ok hr hv hq g
          rw [IsSet.eq y2 x2] at y1
          obtain ⟨r, x1, y1⟩ : ∃ r, f_X7_lettersThatCanBe σ (nI q) = some r ∧ f_X8_canBe τ (nI q) = some (r, τ2) := ⟨_, x1, y1⟩
          refine ⟨r, σ, τ2, ?_, ?_, rfl, h.fr y3⟩
          · rw [if_f (by decide), if_f (by decide), if_f (by decide), if_t rfl, x1]; rfl
          · rw [if_f (by decide), if_t rfl, y1]; rfl
end Q5
