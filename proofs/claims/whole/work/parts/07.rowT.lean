theorem lnC_lt (r : Nat) : lnC r < 2 ^ 31 := by
  unfold lnC
  split <;> decide
theorem inb_nI {j n : Nat} (h : j < n) (hn : n < 2 ^ 31) : inb (nI j) n = true := decide_eq_true (nI_in h hn)
theorem inb_of {i : Int32} {n : Nat} (hn : n < 2 ^ 31) (h1 : ¬ i < 0) (h2 : ¬ nI n ≤ i) : inb i n = true := by
  rcases pk_ix i hn with h | h | ⟨j, hj, rfl⟩
  · exact absurd h h1
  · exact absurd h h2
  · exact inb_nI hj hn
/-- a row read, written, filled -/
def rd (σ : SC) (r : Nat) (i : Int32) : Int32 := if i < 0 then 0 else if nI (lnC r) ≤ i then 0 else σ r (ix i)
def wr (σ : SC) (r : Nat) (i v : Int32) : SC := if i < 0 then σ else if nI (lnC r) ≤ i then σ else su σ r (ix i) v
def fl (σ : SC) (r : Nat) (v : Int32) : SC := sr σ r (fun q => if q < lnC r then v else σ r q)
theorem f_X5_get_eq (σ : SC) (r : Nat) (i : Int32) : f_X5_get σ r i = some (rd σ r i) := by
  unfold f_X5_get rd
  by_cases h1 : i < 0
  · simp [h1]
  · by_cases h2 : nI (lnC r) ≤ i
    · simp [h1, h2]
    · simp [h1, h2, inb_of (lnC_lt r) h1 h2]
theorem f_X5_set_eq (σ : SC) (r : Nat) (i v : Int32) : f_X5_set σ r i v = some (wr σ r i v) := by
  unfold f_X5_set wr
  by_cases h1 : i < 0
  · simp [h1]
  · by_cases h2 : nI (lnC r) ≤ i
    · simp [h1, h2]
    · simp [h1, h2, inb_of (lnC_lt r) h1 h2]
theorem sr_same {σ : SC} {r : Nat} {f : Nat → Int32} : sr σ r f r = f := if_pos rfl
theorem sr_other {σ : SC} {r b : Nat} {f : Nat → Int32} (h : b ≠ r) : sr σ r f b = σ b := if_neg h
theorem sr_sr {σ : SC} {r : Nat} {f g : Nat → Int32} : sr (sr σ r f) r g = sr σ r g := by
  funext b
  by_cases h : b = r <;> simp [sr, h]
theorem sr_self {σ : SC} {r : Nat} : sr σ r (σ r) = σ := by
  funext b
  by_cases h : b = r <;> simp [sr, h]
theorem f_X5_fill_L2_eq (r : Nat) (v : Int32) : ∀ (n j : Nat) (σ : SC), j ≤ lnC r → lnC r < j + n → f_X5_fill_L2 r v n σ (nI j) = some (sr σ r (fun q => if j ≤ q ∧ q < lnC r then v else σ r q)) := by
  intro n
  induction n with
  | zero => intro j σ h1 h2; omega
  | succ n ih =>
    intro j σ h1 h2
    rw [f_X5_fill_L2_s]
    by_cases h : j = lnC r
    · subst h
      rw [if_pos (Int32.le_refl _)]
      congr 1
      have : (fun q => if lnC r ≤ q ∧ q < lnC r then v else σ r q) = σ r := by
        funext q
        exact if_neg (by omega)
      rw [this, sr_self]
    · have hj : j < lnC r := by omega
      rw [if_neg (nI_ge hj (lnC_lt r)), if_pos (inb_nI hj (lnC_lt r)), nI_1, ih (j + 1) _ (by omega) (by omega)]
      congr 1
      have hl := lnC_lt r
      rw [show ix (nI j) = j from nI_clamp (by omega)]
      unfold su
      rw [sr_sr, sr_same]
      congr 1
      funext q
      by_cases h3 : q = j
      · subst h3
        simp [upd, hj]
      · by_cases h4 : j + 1 ≤ q ∧ q < lnC r
        · rw [if_pos h4, if_pos ⟨by omega, h4.2⟩]
        · rw [if_neg h4, if_neg (by omega)]
          simp [upd, h3]
theorem f_X5_fill_eq (σ : SC) (r : Nat) (v : Int32) : f_X5_fill σ r v = some (fl σ r v) := by
  unfold f_X5_fill fl
  have h := f_X5_fill_L2_eq r v FU 0 σ (Nat.zero_le _) (by have := lnC_lt r; unfold FU; omega)
  rw [nI_0] at h
  rw [h]
  simp
section RT
variable {l : Launch} {D : va_G} {cI cZ : ClassId} {A : Nat → Prop} {ad : Nat → Nat}
theorem cT_X5_get (σ : SC) (r : Nat) (i : Int32) (hr : r < 17) : Met l yX5_get (.code yX5_get cX5_get 2 (some .int) :: wG) (Rm 1) (PreW D (tyA cI cZ) A (wC ad cI) [.ref (ad r), .int i] σ) (QI D A (wC ad cI) (rd σ r i, σ)) 0 0 A := c_X5_get σ r i hr _ (f_X5_get_eq σ r i)
theorem cT_X5_set (σ : SC) (r : Nat) (i v : Int32) (hr : r < 17) : Met l yX5_set (.code yX5_set cX5_set 3 none :: wG) (Rm 1) (PreW D (tyA cI cZ) A (wC ad cI) [.ref (ad r), .int i, .int v] σ) (QV D A (wC ad cI) (wr σ r i v)) 0 0 A := c_X5_set σ r i v hr _ (f_X5_set_eq σ r i v)
theorem cT_X5_fill (σ : SC) (r : Nat) (v : Int32) (hr : r < 17) : Met l yX5_fill (.code yX5_fill cX5_fill 3 none :: wG) (Rm 1) (PreW D (tyA cI cZ) A (wC ad cI) [.ref (ad r), .int v] σ) (QV D A (wC ad cI) (fl σ r v)) 0 0 A := c_X5_fill σ r v hr _ (f_X5_fill_eq σ r v)
/-- a set holds k, as 0 or 1 -/
def cn (s k : Int32) : Int32 := if s >>> (k &&& 31) &&& 1 = 1 then 1 else 0
theorem cT_X7_contains (σ : SC) (x k : Int32) : Met l yX7_contains (.code yX7_contains cX7_contains 2 (some .boolean) :: wG) (Rm 1) (PreW D (tyA cI cZ) A (wC ad cI) [.int x, .int k] σ) (QI D A (wC ad cI) (cn x k, σ)) 0 0 A := c_X7_contains σ x k _ (by unfold f_X7_contains cn; split <;> simp_all)
end RT
