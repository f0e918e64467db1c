/-! numbers and sets -/
theorem le_nI {a b : Nat} (ha : a < 2147483648) (hb : b < 2147483648) : (nI a ≤ nI b) = (a ≤ b) := propext (nI_leI ha hb)
theorem lt_nI {a b : Nat} (ha : a < 2147483648) (hb : b < 2147483648) : (nI a < nI b) = (a < b) := propext (nI_ltI ha hb)
theorem eq_nI {a b : Nat} (ha : a < 2147483648) (hb : b < 2147483648) : (nI a = nI b) = (a = b) := propext (nI_eq ha hb)
theorem inb_dec {j n : Nat} (hj : j < 2147483648) : (inb (nI j) n = true) = (j < n) := by
  apply propext
  unfold inb
  rw [decide_eq_true_iff, nI_clamp hj]
  have h := nI_pos (n := j) hj
  constructor
  · intro h2
    rcases Nat.lt_or_ge j n with h3 | h3
    · exact h3
    · exact absurd (Or.inr h3) h2
  · rintro h2 (h3 | h3)
    · exact h h3
    · omega
theorem m1_nI {a : Nat} (ha : a < 2147483648) : (nI a = -1) = False := by
  apply propext
  refine ⟨fun h => ?_, False.elim⟩
  have h2 := nI_pos (n := a) ha
  rw [h] at h2
  exact h2 (by decide)
theorem m1_nI' {a : Nat} (ha : a < 2147483648) : ((-1 : Int32) = nI a) = False := by
  rw [← m1_nI ha]; exact propext ⟨Eq.symm, Eq.symm⟩
theorem m1_lt {a : Nat} (ha : a < 2147483648) : ((-1 : Int32) < nI a) = True := by
  apply propext
  refine ⟨fun _ => trivial, fun _ => ?_⟩
  rw [Int32.lt_iff_toInt_lt, nI_toInt ha]
  have : (-1 : Int32).toInt = -1 := by decide
  rw [this]; omega
theorem nI_lt0 {a : Nat} (ha : a < 2147483648) : (nI a < 0) = False := propext ⟨fun h => nI_pos ha h, False.elim⟩
theorem nI_le0 {a : Nat} (ha : a < 2147483648) : (nI a ≤ 0) = (a = 0) := by
  have h := le_nI (a := a) (b := 0) ha (by omega)
  rw [nI_0] at h
  rw [h]
  exact propext ⟨fun h => by omega, fun h => by omega⟩
theorem nI_eq0 {a : Nat} (ha : a < 2147483648) : (nI a = 0) = (a = 0) := by
  have h := eq_nI (a := a) (b := 0) ha (by omega)
  rwa [nI_0] at h
theorem nI_inc (a : Nat) : nI a + 1 = nI (a + 1) := nI_1 a
theorem ix_nI {a : Nat} (ha : a < 2147483648) : ix (nI a) = a := nI_clamp ha
theorem nI_m1 {a : Nat} (h : 1 ≤ a) : nI a - 1 = nI (a - 1) := by
  rw [show (1 : Int32) = nI 1 from rfl, pk_sub h]
/-- bit k of a set -/
def tb (x : Int32) (k : Nat) : Bool := x.toBitVec.getLsbD k
theorem tb_ext {x y : Int32} (h : ∀ k, k < 32 → tb x k = tb y k) : x = y := by
  apply Int32.toBitVec_inj.mp
  apply BitVec.eq_of_getLsbD_eq
  intro k hk
  exact h k hk
theorem sm_l : ∀ n, n < 32 → ((nI n &&& 31).toBitVec.smod 32).toNat = n := by decide +kernel
theorem tb_one : ∀ j, j < 32 → ∀ k, k < 32 → tb ((1 : Int32) <<< (nI j &&& 31)) k = decide (k = j) := by decide +kernel
theorem tb_zero (k : Nat) : tb 0 k = false := by
  show (0#32).getLsbD k = false
  simp
theorem tb_or (x y : Int32) (k : Nat) : tb (x ||| y) k = (tb x k || tb y k) := by
  show (x.toBitVec ||| y.toBitVec).getLsbD k = _
  simp [tb]
theorem tb_and (x y : Int32) (k : Nat) : tb (x &&& y) k = (tb x k && tb y k) := by
  show (x.toBitVec &&& y.toBitVec).getLsbD k = _
  simp [tb]
theorem tb_xor (x y : Int32) (k : Nat) : tb (x ^^^ y) k = (tb x k ^^ tb y k) := by
  show (x.toBitVec ^^^ y.toBitVec).getLsbD k = _
  simp [tb]
theorem tb_m1 : ∀ k, k < 32 → tb (-1) k = true := by decide +kernel
theorem tb_16 : ∀ k, k < 32 → tb 65535 k = decide (k < 16) := by decide +kernel
theorem tb_63 : ∀ k, k < 32 → tb (nI 63) k = decide (k < 6) := by decide +kernel
theorem tb_all : ∀ n, n < 16 → ∀ k, k < 32 → tb ((1 : Int32) <<< (nI n &&& 31) - 1) k = decide (k < n) := by decide +kernel
theorem tb_nI (n : Nat) {k : Nat} (hk : k < 32) : tb (nI n) k = n.testBit k := by
  show (BitVec.ofNat 32 n).getLsbD k = _
  rw [BitVec.getLsbD_ofNat]
  simp [hk]
theorem cn_tb (x : Int32) {j : Nat} (hj : j < 32) : cn x (nI j) = if tb x j = true then 1 else 0 := by
  unfold cn
  have key : (x >>> (nI j &&& 31) &&& 1 = 1) ↔ tb x j = true := by
    have h0 : tb (x >>> (nI j &&& 31)) 0 = tb x j := by
      show (x.toBitVec.sshiftRight' ((nI j &&& 31).toBitVec.smod 32)).getLsbD 0 = _
      rw [BitVec.sshiftRight_eq', sm_l j hj, BitVec.getLsbD_sshiftRight]
      simp [hj, tb]
    constructor
    · intro h
      have h1 := congrArg (fun y => tb y 0) h
      simp only [tb_and, h0] at h1
      have h2 : tb 1 0 = true := by decide
      rw [h2] at h1
      simpa using h1
    · intro h
      apply tb_ext
      intro k hk
      rw [tb_and]
      have h1 : ∀ k, k < 32 → tb 1 k = decide (k = 0) := by decide +kernel
      rw [h1 k hk]
      by_cases hk0 : k = 0
      · subst hk0; simp [h0, h]
      · simp [hk0]
  by_cases h : tb x j = true
  · rw [if_pos (key.mpr h), if_pos h]
  · rw [if_neg (fun g => h (key.mp g)), if_neg h]
theorem has_tb (x : Int32) {j : Nat} (hj : j < 32) : f_X8_has x (nI j) = some (if tb x j = true then 1 else 0) := by
  have h := cn_tb x hj
  unfold cn at h
  unfold f_X8_has
  by_cases g : x >>> (nI j &&& 31) &&& 1 = 1
  · rw [if_pos g] at h ⊢; exact congrArg some h
  · rw [if_neg g] at h ⊢; exact congrArg some h
/-- x holds just the numbers below 32 of which f says so -/
def IsSet (x : Int32) (f : Nat → Bool) : Prop := ∀ k, k < 32 → tb x k = f k
theorem IsSet.eq {x y : Int32} {f : Nat → Bool} (hx : IsSet x f) (hy : IsSet y f) : x = y := tb_ext (fun k hk => (hx k hk).trans (hy k hk).symm)
theorem IsSet.cong {x : Int32} {f g : Nat → Bool} (hx : IsSet x f) (h : ∀ k, k < 32 → f k = g k) : IsSet x g := fun k hk => (hx k hk).trans (h k hk)
theorem IsSet.zero : IsSet 0 (fun _ => false) := fun k _ => tb_zero k
theorem IsSet.ins {x : Int32} {f : Nat → Bool} (hx : IsSet x f) {j : Nat} (hj : j < 32) : IsSet (x ||| (1 : Int32) <<< (nI j &&& 31)) (fun k => f k || decide (k = j)) := by
  intro k hk
  rw [tb_or, hx k hk, tb_one j hj k hk]
theorem IsSet.ins0 {x : Int32} {f : Nat → Bool} (hx : IsSet x f) : IsSet (x ||| (0 : Int32)) f := by
  intro k hk
  rw [tb_or, hx k hk, tb_zero, Bool.or_false]
theorem IsSet.or {x y : Int32} {f g : Nat → Bool} (hx : IsSet x f) (hy : IsSet y g) : IsSet (x ||| y) (fun k => f k || g k) := by
  intro k hk
  rw [tb_or, hx k hk, hy k hk]
theorem IsSet.and {x y : Int32} {f g : Nat → Bool} (hx : IsSet x f) (hy : IsSet y g) : IsSet (x &&& y) (fun k => f k && g k) := by
  intro k hk
  rw [tb_and, hx k hk, hy k hk]
theorem IsSet.del {x : Int32} {f : Nat → Bool} (hx : IsSet x f) {j : Nat} (hj : j < 32) : IsSet (x &&& ((1 : Int32) <<< (nI j &&& 31) ^^^ (-1 : Int32))) (fun k => f k && !decide (k = j)) := by
  intro k hk
  rw [tb_and, hx k hk, tb_xor, tb_one j hj k hk, tb_m1 k hk, Bool.xor_true]
theorem IsSet.one {j : Nat} (hj : j < 32) : IsSet ((1 : Int32) <<< (nI j &&& 31)) (fun k => decide (k = j)) := fun k hk => tb_one j hj k hk
theorem IsSet.cnv {x : Int32} {f : Nat → Bool} (hx : IsSet x f) {j : Nat} (hj : j < 32) : cn x (nI j) = if f j = true then 1 else 0 := by
  rw [cn_tb x hj, hx j hj]
theorem IsSet.cn0 {x : Int32} {f : Nat → Bool} (hx : IsSet x f) {j : Nat} (hj : j < 32) : (cn x (nI j) = 0) = (f j = false) := by
  rw [hx.cnv hj]
  cases f j <;> simp
theorem IsSet.hasv {x : Int32} {f : Nat → Bool} (hx : IsSet x f) {j : Nat} (hj : j < 32) : f_X8_has x (nI j) = some (if f j = true then 1 else 0) := by
  rw [has_tb x hj, hx j hj]
theorem IsSet.eq0 {x : Int32} {f : Nat → Bool} (hx : IsSet x f) : (x = 0) = (∀ k, k < 32 → f k = false) := by
  apply propext
  constructor
  · rintro rfl k hk
    rw [← hx k hk, tb_zero]
  · intro h
    exact IsSet.eq hx (IsSet.zero.cong (fun k hk => (h k hk).symm))
theorem IsSet.ofN (n : Nat) : IsSet (nI n) (fun k => n.testBit k) := fun _ hk => tb_nI n hk
/-- how many of the first n -/
def ct (p : Nat → Bool) : Nat → Nat
  | 0 => 0
  | n + 1 => ct p n + (if p n = true then 1 else 0)
theorem ct_succ (p : Nat → Bool) (n : Nat) : ct p (n + 1) = ct p n + (if p n = true then 1 else 0) := rfl
theorem ct_le (p : Nat → Bool) : ∀ n, ct p n ≤ n
  | 0 => Nat.le_refl _
  | n + 1 => by
    have h := ct_le p n
    rw [ct_succ]
    split <;> omega
theorem ct_mono (p : Nat → Bool) (m : Nat) : ∀ n, ct p m ≤ ct p (m + n)
  | 0 => Nat.le_refl _
  | n + 1 => Nat.le_trans (ct_mono p m n) (Nat.le_add_right _ _)
theorem ct_mono' (p : Nat → Bool) {m n : Nat} (h : m ≤ n) : ct p m ≤ ct p n := by
  have := ct_mono p m (n - m)
  rwa [show m + (n - m) = n by omega] at this
theorem ct_cong {p q : Nat → Bool} : ∀ {n : Nat}, (∀ k, k < n → p k = q k) → ct p n = ct q n
  | 0, _ => rfl
  | n + 1, h => by rw [ct_succ, ct_succ, ct_cong (fun k hk => h k (by omega)), h n (by omega)]
theorem ct_tail {p : Nat → Bool} {m : Nat} : ∀ {n : Nat}, (∀ k, m ≤ k → p k = false) → ct p (m + n) = ct p m
  | 0, _ => rfl
  | n + 1, h => by rw [← Nat.add_assoc, ct_succ, ct_tail h, h (m + n) (by omega)]; simp
theorem ct_del {p q : Nat → Bool} {j : Nat} (hj : p j = true) (hq : ∀ k, q k = (p k && !decide (k = j))) : ∀ {n : Nat}, j < n → ct q n + 1 = ct p n := by
  intro n
  induction n with
  | zero => intro h; omega
  | succ n ih =>
    intro h
    rw [ct_succ, ct_succ, hq n]
    by_cases e : n = j
    · subst e
      rw [hj]
      have : ct q n = ct p n := ct_cong (fun k hk => by rw [hq k]; simp [show k ≠ n by omega])
      simp [this]
    · have := ih (by omega)
      simp only [e, decide_false, Bool.not_false, Bool.and_true]
      omega
/-- the least from j on, k of them tried, as a number; -1: none -/
def fnd (p : Nat → Bool) : Nat → Nat → Int32
  | 0, _ => -1
  | k + 1, j => if p j = true then nI j else fnd p k (j + 1)
theorem fnd_succ (p : Nat → Bool) (k j : Nat) : fnd p (k + 1) j = if p j = true then nI j else fnd p k (j + 1) := rfl
theorem fnd_cong {p q : Nat → Bool} : ∀ {k j : Nat}, (∀ i, j ≤ i → i < j + k → p i = q i) → fnd p k j = fnd q k j
  | 0, _, _ => rfl
  | k + 1, j, h => by rw [fnd_succ, fnd_succ, h j (by omega) (by omega), fnd_cong (fun i h1 h2 => h i (by omega) (by omega))]
theorem fnd_none {p : Nat → Bool} : ∀ {k j : Nat}, (∀ i, j ≤ i → i < j + k → p i = false) → fnd p k j = -1
  | 0, _, _ => rfl
  | k + 1, j, h => by rw [fnd_succ, h j (by omega) (by omega)]; simp; exact fnd_none (fun i h1 h2 => h i (by omega) (by omega))
theorem fnd_some {p : Nat → Bool} : ∀ {k j i : Nat}, j ≤ i → i < j + k → p i = true → (∀ t, j ≤ t → t < i → p t = false) → fnd p k j = nI i
  | 0, j, i, h1, h2, _, _ => by omega
  | k + 1, j, i, h1, h2, h3, h4 => by
    rw [fnd_succ]
    by_cases e : i = j
    · subst e; rw [if_pos h3]
    · rw [h4 j (by omega) (by omega)]; simp; exact fnd_some (by omega) (by omega) h3 (fun t a b => h4 t (by omega) b)
theorem fnd_cases (p : Nat → Bool) : ∀ (k j : Nat), (fnd p k j = -1 ∧ ∀ i, j ≤ i → i < j + k → p i = false) ∨ ∃ i, j ≤ i ∧ i < j + k ∧ p i = true ∧ (∀ t, j ≤ t → t < i → p t = false) ∧ fnd p k j = nI i
  | 0, j => Or.inl ⟨rfl, fun i h1 h2 => by omega⟩
  | k + 1, j => by
    rw [fnd_succ]
    by_cases h : p j = true
    · right
      exact ⟨j, by omega, by omega, h, fun t h1 h2 => by omega, by rw [if_pos h]⟩
    · rw [if_neg h]
      have h' : p j = false := by simpa using h
      rcases fnd_cases p k (j + 1) with ⟨h1, h2⟩ | ⟨i, h1, h2, h3, h4, h5⟩
      · left
        refine ⟨h1, fun i a b => ?_⟩
        by_cases e : i = j
        · rw [e]; exact h'
        · exact h2 i (by omega) (by omega)
      · right
        refine ⟨i, by omega, by omega, h3, fun t a b => ?_, h5⟩
        by_cases e : t = j
        · rw [e]; exact h'
        · exact h4 t (by omega) b
theorem FU_big : 1000000000000000000 ≤ FU := Nat.le_refl _
theorem FU_ex (k : Nat) (h : k ≤ 1000000000000000000) : ∃ n, FU = n + k := ⟨FU - k, by have := FU_big; omega⟩
/-- 0 or 1 out of a truth value -/
def b2 (b : Bool) : Int32 := if b = true then 1 else 0
theorem b2_0 (b : Bool) : (b2 b = 0) = (b = false) := by cases b <;> simp [b2]
theorem b2_01 (b : Bool) : b2 b = 0 ∨ b2 b = 1 := by cases b <;> simp [b2]
/-! conditions met -/
section IFS
variable {α : Type} {a b j n : Nat} {M N : α}
theorem if_in (h : j < n) (hn : n < 2147483648 := by decide) : (if inb (nI j) n = true then M else N) = M := if_pos (inb_nI h hn)
theorem if_in16 : (if inb (nI 16) 33 = true then M else N) = M := if_pos (by decide)
theorem if_le (h : a ≤ b) (hb : b < 2147483648) : (if nI a ≤ nI b then M else N) = M := if_pos (nI_le h hb)
theorem if_nle (h : b < a) (ha : a < 2147483648) : (if nI a ≤ nI b then M else N) = N := if_neg (nI_ge h ha)
theorem if_lt (h : a < b) (hb : b < 2147483648) : (if nI a < nI b then M else N) = M := if_pos (nI_lt h hb)
theorem if_nlt (h : b ≤ a) (ha : a < 2147483648) : (if nI a < nI b then M else N) = N := if_neg (nI_nlt h ha)
theorem if_eq (h : a = b) : (if nI a = nI b then M else N) = M := if_pos (congrArg nI h)
theorem if_neq (h : a ≠ b) (ha : a < 2147483648) (hb : b < 2147483648) : (if nI a = nI b then M else N) = N := if_neg (fun g => h ((nI_eq ha hb).mp g))
theorem if_nm1 (ha : a < 2147483648) : (if nI a = -1 then M else N) = N := if_neg (fun g => by rw [m1_nI ha] at g; exact g)
theorem if_ne0 (h : 0 < a) (ha : a < 2147483648) : (if nI a = 0 then M else N) = N := if_neg (fun g => by rw [nI_eq0 ha] at g; omega)
theorem if_b0 {q : Bool} (h : q = false) : (if b2 q = 0 then M else N) = M := if_pos (by rw [h]; rfl)
theorem if_b1 {q : Bool} (h : q = true) : (if b2 q = 0 then M else N) = N := if_neg (by rw [h]; decide)
theorem if_b01 {q : Bool} {v : Option α} {w : Option α} : (if b2 q = 0 ∨ b2 q = 1 then v else w) = v := if_pos (b2_01 q)
theorem ix16 : ix (nI 16) = 16 := by decide
theorem succ_of {n k : Nat} (h : k < n) : ∃ m, n = m + 1 := ⟨n - 1, by omega⟩
end IFS
