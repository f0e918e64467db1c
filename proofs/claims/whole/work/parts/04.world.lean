abbrev SC : Type := Nat → Nat → Int32
abbrev SR : Type := (Nat → Nat → Int32) × Int64
def sr (σ : SC) (r : Nat) (f : Nat → Int32) : SC := fun b => if b = r then f else σ b
def su (σ : SC) (r i : Nat) (v : Int32) : SC := sr σ r (upd (σ r) i v)
def rsu (τ : SR) (r i : Nat) (v : Int32) : SR := (su τ.1 r i v, τ.2)
def rlt (τ : SR) (v : Int64) : SR := (τ.1, v)
abbrev tyA (cI cZ : ClassId) : List (ClassId × FieldType) := [(cI, .int), (cZ, .boolean)]
theorem ne_toInt {x v : Int32} {k : Int} (h : ¬ x = v) (hk : v.toInt = k) : ¬ x.toInt = k := fun e => h (Int32.toInt_inj.mp (e.trans hk.symm))
def lnC : Nat → Nat
  | 0 => 16
  | 1 => 16
  | 2 => 8
  | 3 => 8
  | 4 => 8
  | 5 => 64
  | 6 => 16
  | 7 => 16
  | 8 => 5
  | 9 => 24
  | 10 => 64
  | 11 => 8
  | 12 => 8
  | 13 => 8
  | 14 => 64
  | 15 => 8
  | 16 => 396
  | _ => 0
def wC (ad : Nat → Nat) (cI : ClassId) (σ : SC) : va_W := [(ad 0, .inr (5, [.ref (ad 17)])),
  (ad 1, .inr (5, [.ref (ad 18)])),
  (ad 2, .inr (5, [.ref (ad 19)])),
  (ad 3, .inr (5, [.ref (ad 20)])),
  (ad 4, .inr (5, [.ref (ad 21)])),
  (ad 5, .inr (5, [.ref (ad 22)])),
  (ad 6, .inr (5, [.ref (ad 23)])),
  (ad 7, .inr (5, [.ref (ad 24)])),
  (ad 8, .inr (5, [.ref (ad 25)])),
  (ad 9, .inr (5, [.ref (ad 26)])),
  (ad 10, .inr (5, [.ref (ad 27)])),
  (ad 11, .inr (5, [.ref (ad 28)])),
  (ad 12, .inr (5, [.ref (ad 29)])),
  (ad 13, .inr (5, [.ref (ad 30)])),
  (ad 14, .inr (5, [.ref (ad 31)])),
  (ad 15, .inr (5, [.ref (ad 32)])),
  (ad 16, .inr (5, [.ref (ad 33)])),
  (ad 17, .inl (cI, 16, .inl (σ 0))),
  (ad 18, .inl (cI, 16, .inl (σ 1))),
  (ad 19, .inl (cI, 8, .inl (σ 2))),
  (ad 20, .inl (cI, 8, .inl (σ 3))),
  (ad 21, .inl (cI, 8, .inl (σ 4))),
  (ad 22, .inl (cI, 64, .inl (σ 5))),
  (ad 23, .inl (cI, 16, .inl (σ 6))),
  (ad 24, .inl (cI, 16, .inl (σ 7))),
  (ad 25, .inl (cI, 5, .inl (σ 8))),
  (ad 26, .inl (cI, 24, .inl (σ 9))),
  (ad 27, .inl (cI, 64, .inl (σ 10))),
  (ad 28, .inl (cI, 8, .inl (σ 11))),
  (ad 29, .inl (cI, 8, .inl (σ 12))),
  (ad 30, .inl (cI, 8, .inl (σ 13))),
  (ad 31, .inl (cI, 64, .inl (σ 14))),
  (ad 32, .inl (cI, 8, .inl (σ 15))),
  (ad 33, .inl (cI, 396, .inl (σ 16))),
  (ad 34, .inr (7, [.ref (ad 35), .ref (ad 36), .ref (ad 37), .ref (ad 38), .ref (ad 39), .ref (ad 40)])),
  (ad 35, .inr (0, [.ref (ad 0), .ref (ad 1), .int (σ 17 0)])),
  (ad 36, .inr (6, [.ref (ad 2), .ref (ad 3), .ref (ad 4), .ref (ad 5), .ref (ad 6), .ref (ad 7), .int (σ 17 1), .int (σ 17 2), .int (σ 17 3)])),
  (ad 37, .inr (3, [.ref (ad 8), .ref (ad 9), .ref (ad 10)])),
  (ad 38, .inr (1, [.ref (ad 36), .ref (ad 37), .ref (ad 11), .ref (ad 12)])),
  (ad 39, .inr (2, [.ref (ad 36), .ref (ad 38), .ref (ad 13), .int (σ 17 4), .ref (ad 14), .ref (ad 15)])),
  (ad 40, .inr (4, [.ref (ad 16), .int (σ 17 5), .int (σ 17 6), .int (σ 17 7)]))]
section WL
variable {ad : Nat → Nat} {cI cZ : ClassId}
theorem wC_row {σ : SC} : ∀ {r : Nat}, r < 17 → (wC ad cI σ)[r]? = some (ad r, .inr (5, [.ref (ad (17 + r))]))
  | 0, _ => rfl
  | 1, _ => rfl
  | 2, _ => rfl
  | 3, _ => rfl
  | 4, _ => rfl
  | 5, _ => rfl
  | 6, _ => rfl
  | 7, _ => rfl
  | 8, _ => rfl
  | 9, _ => rfl
  | 10, _ => rfl
  | 11, _ => rfl
  | 12, _ => rfl
  | 13, _ => rfl
  | 14, _ => rfl
  | 15, _ => rfl
  | 16, _ => rfl
  | n + 17, h => absurd h (by omega)
theorem wC_arr {σ : SC} : ∀ {r : Nat}, r < 17 → (wC ad cI σ)[17 + r]? = some (ad (17 + r), .inl (cI, lnC r, .inl (σ r)))
  | 0, _ => rfl
  | 1, _ => rfl
  | 2, _ => rfl
  | 3, _ => rfl
  | 4, _ => rfl
  | 5, _ => rfl
  | 6, _ => rfl
  | 7, _ => rfl
  | 8, _ => rfl
  | 9, _ => rfl
  | 10, _ => rfl
  | 11, _ => rfl
  | 12, _ => rfl
  | 13, _ => rfl
  | 14, _ => rfl
  | 15, _ => rfl
  | 16, _ => rfl
  | n + 17, h => absurd h (by omega)
theorem wC_sr {σ : SC} {f : Nat → Int32} : ∀ {r : Nat}, r < 17 → (wC ad cI σ).set (17 + r) (ad (17 + r), .inl (cI, lnC r, .inl f)) = wC ad cI (sr σ r f)
  | 0, _ => rfl
  | 1, _ => rfl
  | 2, _ => rfl
  | 3, _ => rfl
  | 4, _ => rfl
  | 5, _ => rfl
  | 6, _ => rfl
  | 7, _ => rfl
  | 8, _ => rfl
  | 9, _ => rfl
  | 10, _ => rfl
  | 11, _ => rfl
  | 12, _ => rfl
  | 13, _ => rfl
  | 14, _ => rfl
  | 15, _ => rfl
  | 16, _ => rfl
  | n + 17, h => absurd h (by omega)
theorem wC_set {σ : SC} {r i : Nat} {v : Int32} (h : r < 17) : (wC ad cI σ).set (17 + r) (ad (17 + r), .inl (cI, lnC r, .inl (upd (σ r) i v))) = wC ad cI (su σ r i v) := wC_sr h
theorem wC_o34 {σ : SC} : (wC ad cI σ)[34]? = some (ad 34, .inr (7, [.ref (ad 35), .ref (ad 36), .ref (ad 37), .ref (ad 38), .ref (ad 39), .ref (ad 40)])) := rfl
theorem wC_o35 {σ : SC} : (wC ad cI σ)[35]? = some (ad 35, .inr (0, [.ref (ad 0), .ref (ad 1), .int (σ 17 0)])) := rfl
theorem wC_p0 {σ : SC} {v : Int32} : (wC ad cI σ).set 35 (ad 35, .inr (0, ([.ref (ad 0), .ref (ad 1), .int (σ 17 0)] : List Value).set 2 (.int v))) = wC ad cI (su σ 17 0 v) := rfl
theorem wC_o36 {σ : SC} : (wC ad cI σ)[36]? = some (ad 36, .inr (6, [.ref (ad 2), .ref (ad 3), .ref (ad 4), .ref (ad 5), .ref (ad 6), .ref (ad 7), .int (σ 17 1), .int (σ 17 2), .int (σ 17 3)])) := rfl
theorem wC_p1 {σ : SC} {v : Int32} : (wC ad cI σ).set 36 (ad 36, .inr (6, ([.ref (ad 2), .ref (ad 3), .ref (ad 4), .ref (ad 5), .ref (ad 6), .ref (ad 7), .int (σ 17 1), .int (σ 17 2), .int (σ 17 3)] : List Value).set 6 (.int v))) = wC ad cI (su σ 17 1 v) := rfl
theorem wC_p2 {σ : SC} {v : Int32} : (wC ad cI σ).set 36 (ad 36, .inr (6, ([.ref (ad 2), .ref (ad 3), .ref (ad 4), .ref (ad 5), .ref (ad 6), .ref (ad 7), .int (σ 17 1), .int (σ 17 2), .int (σ 17 3)] : List Value).set 7 (.int v))) = wC ad cI (su σ 17 2 v) := rfl
theorem wC_p3 {σ : SC} {v : Int32} : (wC ad cI σ).set 36 (ad 36, .inr (6, ([.ref (ad 2), .ref (ad 3), .ref (ad 4), .ref (ad 5), .ref (ad 6), .ref (ad 7), .int (σ 17 1), .int (σ 17 2), .int (σ 17 3)] : List Value).set 8 (.int v))) = wC ad cI (su σ 17 3 v) := rfl
theorem wC_o37 {σ : SC} : (wC ad cI σ)[37]? = some (ad 37, .inr (3, [.ref (ad 8), .ref (ad 9), .ref (ad 10)])) := rfl
theorem wC_o38 {σ : SC} : (wC ad cI σ)[38]? = some (ad 38, .inr (1, [.ref (ad 36), .ref (ad 37), .ref (ad 11), .ref (ad 12)])) := rfl
theorem wC_o39 {σ : SC} : (wC ad cI σ)[39]? = some (ad 39, .inr (2, [.ref (ad 36), .ref (ad 38), .ref (ad 13), .int (σ 17 4), .ref (ad 14), .ref (ad 15)])) := rfl
theorem wC_p4 {σ : SC} {v : Int32} : (wC ad cI σ).set 39 (ad 39, .inr (2, ([.ref (ad 36), .ref (ad 38), .ref (ad 13), .int (σ 17 4), .ref (ad 14), .ref (ad 15)] : List Value).set 3 (.int v))) = wC ad cI (su σ 17 4 v) := rfl
theorem wC_o40 {σ : SC} : (wC ad cI σ)[40]? = some (ad 40, .inr (4, [.ref (ad 16), .int (σ 17 5), .int (σ 17 6), .int (σ 17 7)])) := rfl
theorem wC_p5 {σ : SC} {v : Int32} : (wC ad cI σ).set 40 (ad 40, .inr (4, ([.ref (ad 16), .int (σ 17 5), .int (σ 17 6), .int (σ 17 7)] : List Value).set 1 (.int v))) = wC ad cI (su σ 17 5 v) := rfl
theorem wC_p6 {σ : SC} {v : Int32} : (wC ad cI σ).set 40 (ad 40, .inr (4, ([.ref (ad 16), .int (σ 17 5), .int (σ 17 6), .int (σ 17 7)] : List Value).set 2 (.int v))) = wC ad cI (su σ 17 6 v) := rfl
theorem wC_p7 {σ : SC} {v : Int32} : (wC ad cI σ).set 40 (ad 40, .inr (4, ([.ref (ad 16), .int (σ 17 5), .int (σ 17 6), .int (σ 17 7)] : List Value).set 3 (.int v))) = wC ad cI (su σ 17 7 v) := rfl
end WL
def wR (ad : Nat → Nat) (cI cZ : ClassId) (τ : SR) : va_W := [(ad 0, .inr (8, [.ref (ad 1), .int (τ.1 9 0), .int (τ.1 9 1), .ref (ad 2), .ref (ad 3), .ref (ad 4), .int (τ.1 9 2), .ref (ad 5), .ref (ad 6), .ref (ad 7), .long τ.2, .ref (ad 8), .ref (ad 9)])),
  (ad 1, .inl (cI, 33, .inl (τ.1 0))),
  (ad 2, .inl (cI, 330, .inl (τ.1 1))),
  (ad 3, .inl (cZ, 2, .inl (τ.1 2))),
  (ad 4, .inl (cI, 66, .inl (τ.1 3))),
  (ad 5, .inl (cI, 8, .inl (τ.1 4))),
  (ad 6, .inl (cI, 8, .inl (τ.1 5))),
  (ad 7, .inl (cI, 8, .inl (τ.1 6))),
  (ad 8, .inl (cI, 8, .inl (τ.1 7))),
  (ad 9, .inl (cI, 8, .inl (τ.1 8)))]
section WL2
variable {ad : Nat → Nat} {cI cZ : ClassId}
theorem wR_o {τ : SR} : (wR ad cI cZ τ)[0]? = some (ad 0, .inr (8, [.ref (ad 1), .int (τ.1 9 0), .int (τ.1 9 1), .ref (ad 2), .ref (ad 3), .ref (ad 4), .int (τ.1 9 2), .ref (ad 5), .ref (ad 6), .ref (ad 7), .long τ.2, .ref (ad 8), .ref (ad 9)])) := rfl
theorem wR_a1 {τ : SR} : (wR ad cI cZ τ)[1]? = some (ad 1, .inl (cI, 33, .inl (τ.1 0))) := rfl
theorem wR_s1 {τ : SR} {i : Nat} {v : Int32} : (wR ad cI cZ τ).set 1 (ad 1, .inl (cI, 33, .inl (upd (τ.1 0) i v))) = wR ad cI cZ (rsu τ 0 i v) := rfl
theorem wR_a2 {τ : SR} : (wR ad cI cZ τ)[2]? = some (ad 2, .inl (cI, 330, .inl (τ.1 1))) := rfl
theorem wR_s2 {τ : SR} {i : Nat} {v : Int32} : (wR ad cI cZ τ).set 2 (ad 2, .inl (cI, 330, .inl (upd (τ.1 1) i v))) = wR ad cI cZ (rsu τ 1 i v) := rfl
theorem wR_a3 {τ : SR} : (wR ad cI cZ τ)[3]? = some (ad 3, .inl (cZ, 2, .inl (τ.1 2))) := rfl
theorem wR_s3 {τ : SR} {i : Nat} {v : Int32} : (wR ad cI cZ τ).set 3 (ad 3, .inl (cZ, 2, .inl (upd (τ.1 2) i v))) = wR ad cI cZ (rsu τ 2 i v) := rfl
theorem wR_a4 {τ : SR} : (wR ad cI cZ τ)[4]? = some (ad 4, .inl (cI, 66, .inl (τ.1 3))) := rfl
theorem wR_s4 {τ : SR} {i : Nat} {v : Int32} : (wR ad cI cZ τ).set 4 (ad 4, .inl (cI, 66, .inl (upd (τ.1 3) i v))) = wR ad cI cZ (rsu τ 3 i v) := rfl
theorem wR_a5 {τ : SR} : (wR ad cI cZ τ)[5]? = some (ad 5, .inl (cI, 8, .inl (τ.1 4))) := rfl
theorem wR_s5 {τ : SR} {i : Nat} {v : Int32} : (wR ad cI cZ τ).set 5 (ad 5, .inl (cI, 8, .inl (upd (τ.1 4) i v))) = wR ad cI cZ (rsu τ 4 i v) := rfl
theorem wR_a6 {τ : SR} : (wR ad cI cZ τ)[6]? = some (ad 6, .inl (cI, 8, .inl (τ.1 5))) := rfl
theorem wR_s6 {τ : SR} {i : Nat} {v : Int32} : (wR ad cI cZ τ).set 6 (ad 6, .inl (cI, 8, .inl (upd (τ.1 5) i v))) = wR ad cI cZ (rsu τ 5 i v) := rfl
theorem wR_a7 {τ : SR} : (wR ad cI cZ τ)[7]? = some (ad 7, .inl (cI, 8, .inl (τ.1 6))) := rfl
theorem wR_s7 {τ : SR} {i : Nat} {v : Int32} : (wR ad cI cZ τ).set 7 (ad 7, .inl (cI, 8, .inl (upd (τ.1 6) i v))) = wR ad cI cZ (rsu τ 6 i v) := rfl
theorem wR_a8 {τ : SR} : (wR ad cI cZ τ)[8]? = some (ad 8, .inl (cI, 8, .inl (τ.1 7))) := rfl
theorem wR_s8 {τ : SR} {i : Nat} {v : Int32} : (wR ad cI cZ τ).set 8 (ad 8, .inl (cI, 8, .inl (upd (τ.1 7) i v))) = wR ad cI cZ (rsu τ 7 i v) := rfl
theorem wR_a9 {τ : SR} : (wR ad cI cZ τ)[9]? = some (ad 9, .inl (cI, 8, .inl (τ.1 8))) := rfl
theorem wR_s9 {τ : SR} {i : Nat} {v : Int32} : (wR ad cI cZ τ).set 9 (ad 9, .inl (cI, 8, .inl (upd (τ.1 8) i v))) = wR ad cI cZ (rsu τ 8 i v) := rfl
theorem wR_p0 {τ : SR} {v : Int32} : (wR ad cI cZ τ).set 0 (ad 0, .inr (8, ([.ref (ad 1), .int (τ.1 9 0), .int (τ.1 9 1), .ref (ad 2), .ref (ad 3), .ref (ad 4), .int (τ.1 9 2), .ref (ad 5), .ref (ad 6), .ref (ad 7), .long τ.2, .ref (ad 8), .ref (ad 9)] : List Value).set 1 (.int v))) = wR ad cI cZ (rsu τ 9 0 v) := rfl
theorem wR_p1 {τ : SR} {v : Int32} : (wR ad cI cZ τ).set 0 (ad 0, .inr (8, ([.ref (ad 1), .int (τ.1 9 0), .int (τ.1 9 1), .ref (ad 2), .ref (ad 3), .ref (ad 4), .int (τ.1 9 2), .ref (ad 5), .ref (ad 6), .ref (ad 7), .long τ.2, .ref (ad 8), .ref (ad 9)] : List Value).set 2 (.int v))) = wR ad cI cZ (rsu τ 9 1 v) := rfl
theorem wR_p2 {τ : SR} {v : Int32} : (wR ad cI cZ τ).set 0 (ad 0, .inr (8, ([.ref (ad 1), .int (τ.1 9 0), .int (τ.1 9 1), .ref (ad 2), .ref (ad 3), .ref (ad 4), .int (τ.1 9 2), .ref (ad 5), .ref (ad 6), .ref (ad 7), .long τ.2, .ref (ad 8), .ref (ad 9)] : List Value).set 6 (.int v))) = wR ad cI cZ (rsu τ 9 2 v) := rfl
theorem wR_pl {τ : SR} {v : Int64} : (wR ad cI cZ τ).set 0 (ad 0, .inr (8, ([.ref (ad 1), .int (τ.1 9 0), .int (τ.1 9 1), .ref (ad 2), .ref (ad 3), .ref (ad 4), .int (τ.1 9 2), .ref (ad 5), .ref (ad 6), .ref (ad 7), .long τ.2, .ref (ad 8), .ref (ad 9)] : List Value).set 10 (.long v))) = wR ad cI cZ (rlt τ v) := rfl
end WL2
