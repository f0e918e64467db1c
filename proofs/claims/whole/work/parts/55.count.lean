/-! bits counted -/
def pc : Nat → Nat → Nat
  | 0, _ => 0
  | k + 1, m => m % 2 + pc k (m / 2)
def bc1 (m : Nat) : Nat := m - (m / 2 &&& 1431655765)
def bc2 (m : Nat) : Nat := (m &&& 858993459) + (m / 4 &&& 858993459)
def bc3 (m : Nat) : Nat := (m + m / 16) &&& 252645135
def bc4 (m : Nat) : Nat := m + m / 256
def bc5 (m : Nat) : Nat := m + m / 65536
def bcN (m : Nat) : Nat := bc5 (bc4 (bc3 (bc2 (bc1 m)))) &&& 63
def bcC : Nat → Nat → Bool
  | 0, _ => true
  | k + 1, m => Nat.beq (bcN m) (pc 16 m) && bcC k (m + 1)
set_option maxRecDepth 100000 in
theorem bc_d0 : ∀ a, a < 32 → bcC 256 (256 * (32 * 0 + a)) = true := by decide +kernel
set_option maxRecDepth 100000 in
theorem bc_d1 : ∀ a, a < 32 → bcC 256 (256 * (32 * 1 + a)) = true := by decide +kernel
set_option maxRecDepth 100000 in
theorem bc_d2 : ∀ a, a < 32 → bcC 256 (256 * (32 * 2 + a)) = true := by decide +kernel
set_option maxRecDepth 100000 in
theorem bc_d3 : ∀ a, a < 32 → bcC 256 (256 * (32 * 3 + a)) = true := by decide +kernel
set_option maxRecDepth 100000 in
theorem bc_d4 : ∀ a, a < 32 → bcC 256 (256 * (32 * 4 + a)) = true := by decide +kernel
set_option maxRecDepth 100000 in
theorem bc_d5 : ∀ a, a < 32 → bcC 256 (256 * (32 * 5 + a)) = true := by decide +kernel
set_option maxRecDepth 100000 in
theorem bc_d6 : ∀ a, a < 32 → bcC 256 (256 * (32 * 6 + a)) = true := by decide +kernel
set_option maxRecDepth 100000 in
theorem bc_d7 : ∀ a, a < 32 → bcC 256 (256 * (32 * 7 + a)) = true := by decide +kernel
