/-! what the reference reads of slots and words -/
def full (b : Bd) (s : Nat) : Bool := (List.range (sZ b s)).all (fun p => decide (b.1 (cS b s p) ≠ 0))
theorem full_iff {b : Bd} {s : Nat} : full b s = true ↔ ∀ p, p < sZ b s → b.1 (cS b s p) ≠ 0 := by
  unfold full
  simp only [List.all_eq_true, List.mem_range, decide_eq_true_eq]
/-- the code of the first n letters of a slot -/
def lcd (b : Bd) (s : Nat) : Nat → Nat
  | 0 => 0
  | n + 1 => 7 * lcd b s n + b.1 (cS b s n)
def fitB (b : Bd) (s w : Nat) : Bool := decide (lenN (b.2.2 w) = sZ b s) && (List.range (sZ b s)).all (fun p => decide (b.1 (cS b s p) = 0) || decide (b.1 (cS b s p) = letN (b.2.2 w) p))
theorem fitB_iff {b : Bd} {s w : Nat} : fitB b s w = true ↔ lenN (b.2.2 w) = sZ b s ∧ ∀ p, p < sZ b s → b.1 (cS b s p) = 0 ∨ b.1 (cS b s p) = letN (b.2.2 w) p := by
  unfold fitB
  simp only [Bool.and_eq_true, List.all_eq_true, List.mem_range, decide_eq_true_eq, Bool.or_eq_true]
section RQ
variable {b : Bd} {τ : SR}
theorem cellOf_ok (hr : RS b τ) {s : Nat} (hs' : s < nS b) (p : Nat) : f_X8_cellOf τ (nI s) (nI p) = some (nI (cS b s p)) := by
  have h8 := nS_le b
  unfold f_X8_cellOf
  rw [if_in (by omega), if_in (by omega), ix_nI (by omega), (hr.2 s hs').1, (hr.2 s hs').2.2, pk_mul, nI_add]
  rfl
theorem placeIn_ok (hr : RS b τ) {s : Nat} (hs' : s < nS b) {q : Nat} (hq : q < 2147483648) : f_X8_placeIn τ (nI s) (nI q) = some (fnd (fun p => decide (cS b s p = q)) (sZ b s) 0) := by
  have h8 := nS_le b
  have hz := sZ_24 hs'
  have key : ∀ (k n p : Nat), p + k = sZ b s → k < n → f_X8_placeIn_L2 τ (nI s) (nI q) n (nI p) = some (fnd (fun p => decide (cS b s p = q)) k p) := by
    intro k
    induction k with
    | zero =>
      intro n p h1 h2
      obtain ⟨n, rfl⟩ := succ_of h2
      rw [f_X8_placeIn_L2_s, if_in (by omega), ix_nI (by omega), (hr.2 s hs').2.1, if_le (by omega) (by omega)]
      rfl
    | succ k ih =>
      intro n p h1 h2
      obtain ⟨n, rfl⟩ := succ_of h2
      have hc := cS_lt hs' (show p < sZ b s by omega)
      rw [f_X8_placeIn_L2_s, if_in (by omega), ix_nI (by omega), (hr.2 s hs').2.1, if_nle (by omega) (by omega), cellOf_ok hr hs', Option.bind_some, fnd_succ]
      by_cases h : cS b s p = q
      · rw [if_eq h, if_pos (decide_eq_true h)]
      · rw [if_neq h (by omega) hq, if_neg (by simpa using h), nI_1, ih n (p + 1) (by omega) (by omega)]
  unfold f_X8_placeIn
  have := key (sZ b s) FU 0 (by omega) (by have := FU_big; omega)
  rwa [nI_0] at this
theorem placeIn_at (hr : RS b τ) {s p : Nat} (hs' : s < nS b) (hp : p < sZ b s) : f_X8_placeIn τ (nI s) (nI (cS b s p)) = some (nI p) := by
  have hc := cS_lt hs' hp
  rw [placeIn_ok hr hs' (by omega), fnd_some (i := p) (by omega) (by omega) (decide_eq_true rfl)]
  intro t h1 h2
  apply decide_eq_false
  intro h
  have := cS_inj h
  omega
theorem common_ok (hr : RS b τ) {s t : Nat} (hs' : s < nS b) (ht : t < nS b) : f_X8_common τ (nI s) (nI t) = some (if X b s t = true then nI (cS b s (pX b s t)) else -1) := by
  have h8 := nS_le b
  have hz := sZ_24 hs'
  have key : ∀ (k n p : Nat), p + k = sZ b s → k < n → (X b s t = true → p ≤ pX b s t) → f_X8_common_L2 τ (nI s) (nI t) (some (-1)) n (nI p) = some (if X b s t = true then nI (cS b s (pX b s t)) else -1) := by
    intro k
    induction k with
    | zero =>
      intro n p h1 h2 h3
      obtain ⟨n, rfl⟩ := succ_of h2
      rw [f_X8_common_L2_s, if_in (by omega), ix_nI (by omega), (hr.2 s hs').2.1, if_le (by omega) (by omega), if_neg]
      intro h
      have := h3 h
      have := (X_place hs' ht h).2.1
      omega
    | succ k ih =>
      intro n p h1 h2 h3
      obtain ⟨n, rfl⟩ := succ_of h2
      have hc := cS_lt hs' (show p < sZ b s by omega)
      rw [f_X8_common_L2_s, if_in (by omega), ix_nI (by omega), (hr.2 s hs').2.1, if_nle (by omega) (by omega)]
      by_cases e : s = t
      · subst e
        rw [if_eq rfl, if_neg]
        intro h
        exact (X_place hs' hs' h).1 rfl
      · rw [if_neq e (by omega) (by omega), cellOf_ok hr hs', Option.bind_some, placeIn_ok hr ht (by omega), Option.bind_some]
        by_cases g : X b s t = true ∧ p = pX b s t
        · obtain ⟨g1, rfl⟩ := g
          obtain ⟨-, a2, a3, a4⟩ := X_place hs' ht g1
          have hz2 := sZ_24 ht
          rw [a4, fnd_some (p := fun p => decide (cS b t p = cS b t (pX b t s))) (i := pX b t s) (by omega) (by omega) (decide_eq_true rfl) (fun u _ h => decide_eq_false (fun z => by have := cS_inj z; omega)), if_nm1 (by omega), Option.bind_some, if_pos g1]
        · rw [fnd_none, if_pos rfl, nI_1]
          · refine ih n (p + 1) (by omega) (by omega) (fun h => ?_)
            have := h3 h
            rcases Nat.lt_or_ge p (pX b s t) with z | z
            · exact z
            · exact absurd ⟨h, by omega⟩ g
          · intro u _ h
            apply decide_eq_false
            intro z
            have := X_of hs' ht e (show p < sZ b s by omega) (show u < sZ b t by omega) z.symm
            exact g ⟨this.1, this.2.1⟩
  unfold f_X8_common
  have := key (sZ b s) FU 0 (by omega) (by have := FU_big; omega) (fun _ => Nat.zero_le _)
  rwa [nI_0] at this
theorem crossed_ok (hr : RS b τ) {s : Nat} (hs' : s < nS b) : ∃ x, f_X8_crossed τ (nI s) = some x ∧ IsSet x (fun t => decide (t < nS b) && X b s t) := by
  have h8 := nS_le b
  have key : ∀ (k n t : Nat) (x : Int32), t + k = nS b → k < n → IsSet x (fun u => decide (u < t) && X b s u) → ∃ y, f_X8_crossed_L4 τ (nI s) n x (nI t) = some y ∧ IsSet y (fun t => decide (t < nS b) && X b s t) := by
    intro k
    induction k with
    | zero =>
      intro n t x h1 h2 hx
      obtain ⟨n, rfl⟩ := succ_of h2
      rw [f_X8_crossed_L4_s, hr.1, if_le (by omega) (by omega)]
      rw [show t = nS b by omega] at hx
      exact ⟨x, rfl, hx⟩
    | succ k ih =>
      intro n t x h1 h2 hx
      obtain ⟨n, rfl⟩ := succ_of h2
      rw [f_X8_crossed_L4_s, hr.1, if_nle (by omega) (by omega), common_ok hr hs' (by omega), Option.bind_some, nI_1]
      by_cases g : X b s t = true
      · have hc := cS_lt hs' (X_place hs' (by omega) g).2.1
        rw [if_pos g, if_nm1 (by omega)]
        refine ih n (t + 1) _ (by omega) (by omega) ((hx.ins (by omega)).cong (fun u _ => ?_))
        apply Bool.eq_iff_iff.mpr
        simp only [Bool.or_eq_true, Bool.and_eq_true, decide_eq_true_eq]
        constructor
        · rintro (⟨a1, a2⟩ | rfl)
          · exact ⟨by omega, a2⟩
          · exact ⟨by omega, g⟩
        · rintro ⟨a1, a2⟩
          by_cases e : u = t
          · right; exact e
          · left; exact ⟨by omega, a2⟩
      · rw [if_neg g, if_pos rfl]
        refine ih n (t + 1) _ (by omega) (by omega) (hx.ins0.cong (fun u _ => ?_))
        apply Bool.eq_iff_iff.mpr
        simp only [Bool.and_eq_true, decide_eq_true_eq]
        constructor
        · rintro ⟨a1, a2⟩; exact ⟨by omega, a2⟩
        · rintro ⟨a1, a2⟩
          refine ⟨?_, a2⟩
          by_cases e : u = t
          · subst e; exact absurd a2 g
          · omega
  unfold f_X8_crossed
  have := key (nS b) FU 0 0 (by omega) (by have := FU_big; omega) (IsSet.zero.cong (fun u _ => by simp))
  rwa [nI_0] at this
theorem isFull_ok (hb : RB b τ) (hv : VB b) (hr : RS b τ) {s : Nat} (hs' : s < nS b) : f_X8_isFull τ (nI s) = some (b2 (full b s)) := by
  have h8 := nS_le b
  have hz := sZ_24 hs'
  have key : ∀ (k n p : Nat) (q : Bool), p + k = sZ b s → k < n → f_X8_isFull_L4 τ (nI s) n (b2 q) (nI p) = some (b2 (q && (List.range (sZ b s)).all (fun j => decide (j < p) || decide (b.1 (cS b s j) ≠ 0)))) := by
    intro k
    induction k with
    | zero =>
      intro n p q h1 h2
      obtain ⟨n, rfl⟩ := succ_of h2
      rw [f_X8_isFull_L4_s, if_in (by omega), ix_nI (by omega), (hr.2 s hs').2.1, if_le (by omega) (by omega), if_b01]
      have : (List.range (sZ b s)).all (fun j => decide (j < p) || decide (b.1 (cS b s j) ≠ 0)) = true := by
        simp only [List.all_eq_true, List.mem_range, Bool.or_eq_true, decide_eq_true_eq]
        intro j hj; left; omega
      rw [this, Bool.and_true]
    | succ k ih =>
      intro n p q h1 h2
      obtain ⟨n, rfl⟩ := succ_of h2
      have hc := cS_lt hs' (show p < sZ b s by omega)
      have h7 := hv.1 _ hc
      have ho := cS_open (show p < sZ b s by omega)
      rw [f_X8_isFull_L4_s, if_in (by omega), ix_nI (by omega), (hr.2 s hs').2.1, if_nle (by omega) (by omega), nI_1]
      have e0 : (0 : Int32) = b2 false := rfl
      have e1 : (1 : Int32) = b2 true := rfl
      have hstep : ∀ g : Bool, g = decide (b.1 (cS b s p) ≠ 0) → (g && (List.range (sZ b s)).all (fun j => decide (j < p + 1) || decide (b.1 (cS b s j) ≠ 0))) = (List.range (sZ b s)).all (fun j => decide (j < p) || decide (b.1 (cS b s j) ≠ 0)) := by
        rintro g rfl
        apply Bool.eq_iff_iff.mpr
        simp only [Bool.and_eq_true, List.all_eq_true, List.mem_range, Bool.or_eq_true, decide_eq_true_eq]
        constructor
        · rintro ⟨a1, a2⟩ j hj
          rcases a2 j hj with z | z
          · by_cases e : j = p
            · right; rw [e]; exact a1
            · left; omega
          · right; exact z
        · intro a
          refine ⟨(a p (by omega)).resolve_left (by omega), fun j hj => ?_⟩
          rcases a j hj with z | z
          · left; omega
          · right; exact z
      cases q with
      | false =>
        rw [if_b0 rfl, e0, ih n (p + 1) false (by omega) (by omega), Bool.false_and, Bool.false_and]
      | true =>
        rw [if_b1 rfl, cellOf_ok hr hs', Option.bind_some, if_in (by omega), ix_nI (by omega), hb.1 _ hc]
        by_cases g : b.1 (cS b s p) = 0
        · rw [if_pos ((rV_dec _ h7).1.mpr (Or.inl g)), e0, ih n (p + 1) false (by omega) (by omega), Bool.true_and, ← hstep false (by simp [g]), Bool.false_and]
        · rw [if_neg (fun z => by rcases (rV_dec _ h7).1.mp z with z | z <;> contradiction), e1, ih n (p + 1) true (by omega) (by omega), Bool.true_and, Bool.true_and, ← hstep true (by simp [g]), Bool.true_and]
  unfold f_X8_isFull
  have := key (sZ b s) FU 0 true (by omega) (by have := FU_big; omega)
  rw [nI_0] at this
  rw [show (1 : Int32) = b2 true from rfl, this, Bool.true_and]
  have e : (fun j => decide (j < 0) || decide (b.1 (cS b s j) ≠ 0)) = (fun j => decide (b.1 (cS b s j) ≠ 0)) := by
    funext j; simp
  rw [e]
  rfl
theorem lcd_lt (hv : VB b) {s : Nat} (hs' : s < nS b) : ∀ n, n ≤ sZ b s → lcd b s n < 7 ^ n
  | 0, _ => Nat.zero_lt_one
  | n + 1, h => by
    have ih := lcd_lt hv hs' n (by omega)
    have h7 := hv.1 _ (cS_lt hs' (show n < sZ b s by omega))
    have ho := cS_open (show n < sZ b s by omega)
    have e : 7 ^ (n + 1) = 7 * 7 ^ n := by rw [Nat.pow_succ, Nat.mul_comm]
    rw [e]
    show 7 * lcd b s n + b.1 (cS b s n) < _
    omega
theorem lettersOf_ok (hb : RB b τ) (hv : VB b) (hr : RS b τ) {s : Nat} (hs' : s < nS b) : f_X8_lettersOf τ (nI s) = some (nI (lcd b s (sZ b s))) := by
  have h8 := nS_le b
  have hz := sZ_24 hs'
  have key : ∀ (k n p : Nat), p + k = sZ b s → k < n → f_X8_lettersOf_L4 τ (nI s) n (nI (lcd b s p)) (nI p) = some (nI (lcd b s (sZ b s))) := by
    intro k
    induction k with
    | zero =>
      intro n p h1 h2
      obtain ⟨n, rfl⟩ := succ_of h2
      rw [f_X8_lettersOf_L4_s, if_in (by omega), ix_nI (by omega), (hr.2 s hs').2.1, if_le (by omega) (by omega), show p = sZ b s by omega]
    | succ k ih =>
      intro n p h1 h2
      obtain ⟨n, rfl⟩ := succ_of h2
      have hc := cS_lt hs' (show p < sZ b s by omega)
      have h7 := hv.1 _ hc
      have ho := cS_open (show p < sZ b s by omega)
      rw [f_X8_lettersOf_L4_s, if_in (by omega), ix_nI (by omega), (hr.2 s hs').2.1, if_nle (by omega) (by omega), cellOf_ok hr hs', Option.bind_some, if_in (by omega), ix_nI (by omega), hb.1 _ hc, rV_let (by omega), pk_mul, nI_add, nI_1]
      exact ih n (p + 1) (by omega) (by omega)
  unfold f_X8_lettersOf
  have := key (sZ b s) FU 0 (by omega) (by have := FU_big; omega)
  rw [nI_0] at this
  exact this
theorem fits_ok (hb : RB b τ) (hv : VB b) (hr : RS b τ) {s w : Nat} (hs' : s < nS b) (hw : w < b.2.1) : f_X8_fits τ (nI w) (nI s) = some (b2 (fitB b s w)) := by
  have h8 := nS_le b
  have hz := sZ_24 hs'
  have hw16 := hv.2.1
  have hcd := hv.2.2.1 w (by omega)
  have key : ∀ (kx : Int32 → Option Int32), (∀ q, kx (b2 q) = some (b2 q)) → ∀ (k n p : Nat) (q : Bool), p + k = sZ b s → k < n → (q = true → sZ b s = lenN (b.2.2 w)) → f_X8_fits_L29 τ (nI s) (nI (b.2.2 w)) kx n (b2 q) (nI p) = some (b2 (q && (List.range (sZ b s)).all (fun j => decide (j < p) || (decide (b.1 (cS b s j) = 0) || decide (b.1 (cS b s j) = letN (b.2.2 w) j))))) := by
    intro kx hkx k
    induction k with
    | zero =>
      intro n p q h1 h2 hq
      obtain ⟨n, rfl⟩ := succ_of h2
      have : (List.range (sZ b s)).all (fun j => decide (j < p) || (decide (b.1 (cS b s j) = 0) || decide (b.1 (cS b s j) = letN (b.2.2 w) j))) = true := by
        simp only [List.all_eq_true, List.mem_range, Bool.or_eq_true, decide_eq_true_eq]
        intro j hj; left; omega
      rw [f_X8_fits_L29_s, this, Bool.and_true]
      cases q with
      | false => rw [if_b0 rfl, hkx]
      | true => rw [if_b1 rfl, if_in (by omega), ix_nI (by omega), (hr.2 s hs').2.1, if_le (by omega) (by omega), hkx]
    | succ k ih =>
      intro n p q h1 h2 hq
      obtain ⟨n, rfl⟩ := succ_of h2
      have hc := cS_lt hs' (show p < sZ b s by omega)
      have h7 := hv.1 _ hc
      have ho := cS_open (show p < sZ b s by omega)
      have e0 : (0 : Int32) = b2 false := rfl
      have e1 : (1 : Int32) = b2 true := rfl
      have hstep : ∀ g : Bool, g = (decide (b.1 (cS b s p) = 0) || decide (b.1 (cS b s p) = letN (b.2.2 w) p)) → (g && (List.range (sZ b s)).all (fun j => decide (j < p + 1) || (decide (b.1 (cS b s j) = 0) || decide (b.1 (cS b s j) = letN (b.2.2 w) j)))) = (List.range (sZ b s)).all (fun j => decide (j < p) || (decide (b.1 (cS b s j) = 0) || decide (b.1 (cS b s j) = letN (b.2.2 w) j))) := by
        rintro g rfl
        apply Bool.eq_iff_iff.mpr
        simp only [Bool.and_eq_true, List.all_eq_true, List.mem_range, Bool.or_eq_true, decide_eq_true_eq]
        constructor
        · rintro ⟨a1, a2⟩ j hj
          rcases a2 j hj with z | z
          · by_cases e : j = p
            · right; rw [e]; exact a1
            · left; omega
          · right; exact z
        · intro a
          refine ⟨(a p (by omega)).resolve_left (by omega), fun j hj => ?_⟩
          rcases a j hj with z | z
          · left; omega
          · right; exact z
      rw [f_X8_fits_L29_s]
      cases q with
      | false => rw [if_b0 rfl, hkx, Bool.false_and]
      | true =>
        have hlen := hq rfl
        rw [if_b1 rfl, if_in (by omega), ix_nI (by omega), (hr.2 s hs').2.1, if_nle (by omega) (by omega), cellOf_ok hr hs', Option.bind_some, if_in (by omega), ix_nI (by omega), hb.1 _ hc, rV_let (by omega), nI_1, Bool.true_and]
        have hl := letN_lt (b.2.2 w) p
        by_cases g : b.1 (cS b s p) = 0
        · rw [if_pos (by rw [g]; rfl), e1, ih n (p + 1) true (by omega) (by omega) hq, ← hstep true (by simp [g])]
        · rw [if_ne0 (by omega) (by omega), letterOf_ok hcd (by omega), Option.bind_some]
          by_cases g2 : b.1 (cS b s p) = letN (b.2.2 w) p
          · rw [if_eq g2, e1, ih n (p + 1) true (by omega) (by omega) hq, ← hstep true (by simp [g2])]
          · rw [if_neq g2 (by omega) (by omega), e0, ih n (p + 1) false (by omega) (by omega) (fun h => by cases h), ← hstep false (by simp [g, g2])]
  unfold f_X8_fits
  rw [codeAt_ok hb (by omega), Option.bind_some, rlength_ok hcd, Option.bind_some, if_in (by omega), ix_nI (by omega), (hr.2 s hs').2.1]
  have hlz := lenN_le (b.2.2 w)
  by_cases g : lenN (b.2.2 w) = sZ b s
  · have := key (fun x4_88 => (if x4_88 = 0 ∨ x4_88 = 1 then some x4_88 else none)) (fun q => if_b01) (sZ b s) FU 0 true (by omega) (by have := FU_big; omega) (fun _ => g.symm)
    rw [nI_0] at this
    rw [if_eq g]
    refine Eq.trans this ?_
    congr 2
    unfold fitB
    simp [g]
  · have := key (fun x4_88 => (if x4_88 = 0 ∨ x4_88 = 1 then some x4_88 else none)) (fun q => if_b01) (sZ b s) FU 0 false (by omega) (by have := FU_big; omega) (fun h => by cases h)
    rw [nI_0] at this
    rw [if_neq g (by omega) (by omega)]
    refine Eq.trans this ?_
    congr 2
    unfold fitB
    simp [g]
theorem letterIn_ok (hb : RB b τ) (hv : VB b) (hr : RS b τ) {s w p : Nat} (hs' : s < nS b) (hw : w < b.2.1) (hp : p < sZ b s) (hl : lenN (b.2.2 w) = sZ b s) : f_X8_letterIn τ (nI w) (nI s) (nI (cS b s p)) = some (nI (letN (b.2.2 w) p)) := by
  have hw16 := hv.2.1
  unfold f_X8_letterIn
  rw [codeAt_ok hb (by omega), Option.bind_some, placeIn_at hr hs' hp, Option.bind_some, letterOf_ok (hv.2.2.1 w (by omega)) (by omega), Option.bind_some]
end RQ
