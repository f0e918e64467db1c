def f_X8_all (σ : SR)  : Option Int32 :=
  (some (((1 : Int32) <<< ((σ.1 9 2) &&& 31)) - 1))
section SE
variable {p : Program} {l : Launch} {e : Env} {s : State} {m : MethodId} {args : Array Value} {below : List Frame} {meth : Method} {c : Code} {D : va_G} {cI cZ : ClassId} {A : Nat → Prop} {ad : Nat → Nat}
set_option maxRecDepth 100000 in
set_option maxHeartbeats 4000000 in
theorem c_X8_all {l : Launch} {D : va_G} {cI cZ : ClassId} {A : Nat → Prop} {ad : Nat → Nat} (σ : SR)   (r : Int32) (h : f_X8_all σ = some r) : Met l yX8_all (.code yX8_all cX8_all 1 (some .int) :: wG) (Rm 1) (PreW D (tyA cI cZ) A (wR ad cI cZ) [.ref (ad 0)] σ) (QI D A (wR ad cI cZ) (r, σ)) 0 0 A := by
  refine met_of (M := f_X8_all σ) (Qc := (fun r => QI D A (wR ad cI cZ) (r, σ))) (by decide) (Nat.le_of_ble_eq_true rfl) h (fun p e s m below meth c C0 => ?_)
  generalize hargs : ([.ref (ad 0)] : List Value).toArray = args at C0 ⊢
  have C0 : Cx D (tyA cI cZ) RX8 cX8_all 1 (some .int) p s m args meth c := C0
  refine J_sub (lv' := [(0, .ref (ad 0))]) [0] rfl ?_
  unfold f_X8_all
  refine J_iconst (pc := 0) (v := 1) C0 dX8_all_0 (by decide) ?_
  refine J_aload_n (pc := 1) C0 0 dX8_all_1 rfl rfl ?_
  refine J_get (pc := 2) (v := .int (σ.1 9 2)) C0 0 wR_o rfl in_X8 6 (by decide) q395 rfl dX8_all_2 ?_
  refine J_ishl (pc := 5) C0 dX8_all_5 ?_
  refine J_iconst (pc := 6) (v := 1) C0 dX8_all_6 (by decide) ?_
  refine J_isub (pc := 7) C0 dX8_all_7 ?_
  exact J_iretP C0 dX8_all_8
end SE

def f_X8_bits_L4 : Nat → Int32 → Int32 → Option Int32
  | 0, _, _ => none
  | n + 1, x1, x2 =>
  (if x2 = 0 then (some x1) else (f_X8_bits_L4 n (x1 + 1) (x2 &&& (x2 - 1))))
theorem f_X8_bits_L4_s (n : Nat) (x1 : Int32) (x2 : Int32) : f_X8_bits_L4 (n + 1) x1 x2 = ((if x2 = 0 then (some x1) else (f_X8_bits_L4 n (x1 + 1) (x2 &&& (x2 - 1))))) := rfl
def f_X8_bits (x0 : Int32) : Option Int32 :=
  (f_X8_bits_L4 FU 0 x0)
section SE
variable {p : Program} {l : Launch} {e : Env} {s : State} {m : MethodId} {args : Array Value} {below : List Frame} {meth : Method} {c : Code} {D : va_G} {cI cZ : ClassId} {A : Nat → Prop} {ad : Nat → Nat}
set_option maxRecDepth 100000 in
set_option maxHeartbeats 4000000 in
theorem j_X8_bits_L4 (C0 : Cx D (tyA cI cZ) RX8 cX8_bits 3 (some .int) p s m args meth c) (σ : SR) : ∀ (n : Nat) (x1 : Int32) (x2 : Int32), J p l e (Rm 1) s m args below meth c D A (wR ad cI cZ) 3 (fun r => QI D A (wR ad cI cZ) (r, σ)) (f_X8_bits_L4 n x1 x2) σ [(1, .int x1), (2, .int x2)] [] 4 := by
  intro n
  induction n with
  | zero => intros; exact J_none
  | succ n ih =>
    intro x1 x2
    refine J_eq (f_X8_bits_L4_s  n x1 x2) ?_
    refine J_iload_n (pc := 4) C0 1 dX8_bits_4 rfl rfl ?_
    refine J_if_eq (pc := 5) (tgt := 20) C0 dX8_bits_5 (by decide) (fun h_5 => ?_) (fun h_5 => ?_)
    · refine J_iload_n (pc := 20) C0 0 dX8_bits_20 rfl rfl ?_
      exact J_iretP C0 dX8_bits_21
    · refine J_iinc (pc := 8) (d := 1) (lv' := [(1, .int (x1 + 1)), (2, .int x2)]) C0 0 dX8_bits_8 rfl (by decide) (by decide) rfl ?_
      refine J_iload_n (pc := 11) C0 1 dX8_bits_11 rfl rfl ?_
      refine J_iload_n (pc := 12) C0 1 dX8_bits_12 rfl rfl ?_
      refine J_iconst (pc := 13) (v := 1) C0 dX8_bits_13 (by decide) ?_
      refine J_isub (pc := 14) C0 dX8_bits_14 ?_
      refine J_iand (pc := 15) C0 dX8_bits_15 ?_
      refine J_istore_n (pc := 16) (lv' := [(2, .int (x2 &&& (x2 - 1))), (1, .int (x1 + 1))]) C0 dX8_bits_16 rfl (by decide) rfl ?_
      refine J_goto (pc := 17) (tgt := 4) C0 dX8_bits_17 (by decide) ?_
      refine J_sub (lv' := [(1, .int (x1 + 1)), (2, .int (x2 &&& (x2 - 1)))]) [1, 0] rfl ?_
      exact ih (x1 + 1) (x2 &&& (x2 - 1))
set_option maxRecDepth 100000 in
set_option maxHeartbeats 4000000 in
theorem c_X8_bits {l : Launch} {D : va_G} {cI cZ : ClassId} {A : Nat → Prop} {ad : Nat → Nat} (σ : SR) (x0 : Int32)  (r : Int32) (h : f_X8_bits x0 = some r) : Met l yX8_bits (.code yX8_bits cX8_bits 3 (some .int) :: wG) (Rm 1) (PreW D (tyA cI cZ) A (wR ad cI cZ) [.int x0] σ) (QI D A (wR ad cI cZ) (r, σ)) 0 0 A := by
  refine met_of (M := f_X8_bits x0) (Qc := (fun r => QI D A (wR ad cI cZ) (r, σ))) (by decide) (Nat.le_of_ble_eq_true rfl) h (fun p e s m below meth c C0 => ?_)
  generalize hargs : ([.int x0] : List Value).toArray = args at C0 ⊢
  have C0 : Cx D (tyA cI cZ) RX8 cX8_bits 3 (some .int) p s m args meth c := C0
  refine J_sub (lv' := [(0, .int x0)]) [0] rfl ?_
  unfold f_X8_bits
  refine J_iconst (pc := 0) (v := 0) C0 dX8_bits_0 (by decide) ?_
  refine J_istore_n (pc := 1) (lv' := [(1, .int 0), (0, .int x0)]) C0 dX8_bits_1 rfl (by decide) rfl ?_
  refine J_iload_n (pc := 2) C0 1 dX8_bits_2 rfl rfl ?_
  refine J_istore_n (pc := 3) (lv' := [(2, .int x0), (1, .int 0), (0, .int x0)]) C0 dX8_bits_3 rfl (by decide) rfl ?_
  refine J_sub (lv' := [(1, .int 0), (2, .int x0)]) [1, 0] rfl ?_
  exact j_X8_bits_L4 C0 σ FU 0 x0
end SE

def f_X8_cellOf (σ : SR) (x1 : Int32) (x2 : Int32) : Option Int32 :=
  (if inb x1 8 = true then (if inb x1 8 = true then (some ((σ.1 4 (ix x1)) + ((σ.1 6 (ix x1)) * x2))) else none) else none)
section SE
variable {p : Program} {l : Launch} {e : Env} {s : State} {m : MethodId} {args : Array Value} {below : List Frame} {meth : Method} {c : Code} {D : va_G} {cI cZ : ClassId} {A : Nat → Prop} {ad : Nat → Nat}
set_option maxRecDepth 100000 in
set_option maxHeartbeats 4000000 in
theorem c_X8_cellOf {l : Launch} {D : va_G} {cI cZ : ClassId} {A : Nat → Prop} {ad : Nat → Nat} (σ : SR) (x1 : Int32) (x2 : Int32)  (r : Int32) (h : f_X8_cellOf σ x1 x2 = some r) : Met l yX8_cellOf (.code yX8_cellOf cX8_cellOf 3 (some .int) :: wG) (Rm 1) (PreW D (tyA cI cZ) A (wR ad cI cZ) [.ref (ad 0), .int x1, .int x2] σ) (QI D A (wR ad cI cZ) (r, σ)) 0 0 A := by
  refine met_of (M := f_X8_cellOf σ x1 x2) (Qc := (fun r => QI D A (wR ad cI cZ) (r, σ))) (by decide) (Nat.le_of_ble_eq_true rfl) h (fun p e s m below meth c C0 => ?_)
  generalize hargs : ([.ref (ad 0), .int x1, .int x2] : List Value).toArray = args at C0 ⊢
  have C0 : Cx D (tyA cI cZ) RX8 cX8_cellOf 3 (some .int) p s m args meth c := C0
  refine J_sub (lv' := [(0, .ref (ad 0)), (1, .int x1), (2, .int x2)]) [0, 1, 2] rfl ?_
  unfold f_X8_cellOf
  refine J_aload_n (pc := 0) C0 0 dX8_cellOf_0 rfl rfl ?_
  refine J_get (pc := 1) (v := .ref (ad 5)) C0 0 wR_o rfl in_X8 7 (by decide) q409 rfl dX8_cellOf_1 ?_
  refine J_iload_n (pc := 4) C0 1 dX8_cellOf_4 rfl rfl ?_
  refine J_iald (pc := 5) C0 5 0 wR_a5 rfl dX8_cellOf_5 (fun h_5 => ?_)
  refine J_aload_n (pc := 6) C0 0 dX8_cellOf_6 rfl rfl ?_
  refine J_get (pc := 7) (v := .ref (ad 7)) C0 0 wR_o rfl in_X8 9 (by decide) q410 rfl dX8_cellOf_7 ?_
  refine J_iload_n (pc := 10) C0 1 dX8_cellOf_10 rfl rfl ?_
  refine J_iald (pc := 11) C0 7 0 wR_a7 rfl dX8_cellOf_11 (fun h_11 => ?_)
  refine J_iload_n (pc := 12) C0 2 dX8_cellOf_12 rfl rfl ?_
  refine J_imul (pc := 13) C0 dX8_cellOf_13 ?_
  refine J_iadd (pc := 14) C0 dX8_cellOf_14 ?_
  exact J_iretP C0 dX8_cellOf_15
end SE

def f_X8_codeAt (σ : SR) (x1 : Int32) : Option Int32 :=
  (if inb ((nI 17) + x1) 33 = true then (some (σ.1 0 (ix ((nI 17) + x1)))) else none)
section SE
variable {p : Program} {l : Launch} {e : Env} {s : State} {m : MethodId} {args : Array Value} {below : List Frame} {meth : Method} {c : Code} {D : va_G} {cI cZ : ClassId} {A : Nat → Prop} {ad : Nat → Nat}
set_option maxRecDepth 100000 in
set_option maxHeartbeats 4000000 in
theorem c_X8_codeAt {l : Launch} {D : va_G} {cI cZ : ClassId} {A : Nat → Prop} {ad : Nat → Nat} (σ : SR) (x1 : Int32)  (r : Int32) (h : f_X8_codeAt σ x1 = some r) : Met l yX8_codeAt (.code yX8_codeAt cX8_codeAt 2 (some .int) :: wG) (Rm 1) (PreW D (tyA cI cZ) A (wR ad cI cZ) [.ref (ad 0), .int x1] σ) (QI D A (wR ad cI cZ) (r, σ)) 0 0 A := by
  refine met_of (M := f_X8_codeAt σ x1) (Qc := (fun r => QI D A (wR ad cI cZ) (r, σ))) (by decide) (Nat.le_of_ble_eq_true rfl) h (fun p e s m below meth c C0 => ?_)
  generalize hargs : ([.ref (ad 0), .int x1] : List Value).toArray = args at C0 ⊢
  have C0 : Cx D (tyA cI cZ) RX8 cX8_codeAt 2 (some .int) p s m args meth c := C0
  refine J_sub (lv' := [(0, .ref (ad 0)), (1, .int x1)]) [0, 1] rfl ?_
  unfold f_X8_codeAt
  refine J_aload_n (pc := 0) C0 0 dX8_codeAt_0 rfl rfl ?_
  refine J_get (pc := 1) (v := .ref (ad 1)) C0 0 wR_o rfl in_X8 0 (by decide) q411 rfl dX8_codeAt_1 ?_
  refine J_bipush (pc := 4) (v := (nI 17)) C0 dX8_codeAt_4 (by decide) ?_
  refine J_iload_n (pc := 6) C0 1 dX8_codeAt_6 rfl rfl ?_
  refine J_iadd (pc := 7) C0 dX8_codeAt_7 ?_
  refine J_iald (pc := 8) C0 1 0 wR_a1 rfl dX8_codeAt_8 (fun h_8 => ?_)
  exact J_iretP C0 dX8_codeAt_9
end SE

def f_X8_has (x0 : Int32) (x1 : Int32) : Option Int32 :=
  (if ((x0 >>> (x1 &&& 31)) &&& (1 : Int32)) = 1 then (some 1) else (some 0))
section SE
variable {p : Program} {l : Launch} {e : Env} {s : State} {m : MethodId} {args : Array Value} {below : List Frame} {meth : Method} {c : Code} {D : va_G} {cI cZ : ClassId} {A : Nat → Prop} {ad : Nat → Nat}
set_option maxRecDepth 100000 in
set_option maxHeartbeats 4000000 in
theorem c_X8_has {l : Launch} {D : va_G} {cI cZ : ClassId} {A : Nat → Prop} {ad : Nat → Nat} (σ : SR) (x0 : Int32) (x1 : Int32)  (r : Int32) (h : f_X8_has x0 x1 = some r) : Met l yX8_has (.code yX8_has cX8_has 2 (some .boolean) :: wG) (Rm 1) (PreW D (tyA cI cZ) A (wR ad cI cZ) [.int x0, .int x1] σ) (QI D A (wR ad cI cZ) (r, σ)) 0 0 A := by
  refine met_of (M := f_X8_has x0 x1) (Qc := (fun r => QI D A (wR ad cI cZ) (r, σ))) (by decide) (Nat.le_of_ble_eq_true rfl) h (fun p e s m below meth c C0 => ?_)
  generalize hargs : ([.int x0, .int x1] : List Value).toArray = args at C0 ⊢
  have C0 : Cx D (tyA cI cZ) RX8 cX8_has 2 (some .boolean) p s m args meth c := C0
  refine J_sub (lv' := [(0, .int x0), (1, .int x1)]) [0, 1] rfl ?_
  unfold f_X8_has
  refine J_iload_n (pc := 0) C0 0 dX8_has_0 rfl rfl ?_
  refine J_iload_n (pc := 1) C0 1 dX8_has_1 rfl rfl ?_
  refine J_ishr (pc := 2) C0 dX8_has_2 ?_
  refine J_iconst (pc := 3) (v := 1) C0 dX8_has_3 (by decide) ?_
  refine J_iand (pc := 4) C0 dX8_has_4 ?_
  refine J_iconst (pc := 5) (v := 1) C0 dX8_has_5 (by decide) ?_
  refine J_icmp_ne (pc := 6) (tgt := 13) C0 dX8_has_6 (by decide) (fun h_6 => ?_) (fun h_6 => ?_)
  · refine J_iconst (pc := 13) (v := 0) C0 dX8_has_13 (by decide) ?_
    exact J_zretP0 (Or.inl rfl) C0 dX8_has_14
  · refine J_iconst (pc := 9) (v := 1) C0 dX8_has_9 (by decide) ?_
    refine J_goto (pc := 10) (tgt := 14) C0 dX8_has_10 (by decide) ?_
    exact J_zretP0 (Or.inr rfl) C0 dX8_has_14
end SE

def f_X8_in (x0 : Int32) (x1 : Int32) (x2 : Int32) : Option Int32 :=
  (if x0 < x1 then (some 0) else (if x2 < x0 then (some 0) else (some 1)))
section SE
variable {p : Program} {l : Launch} {e : Env} {s : State} {m : MethodId} {args : Array Value} {below : List Frame} {meth : Method} {c : Code} {D : va_G} {cI cZ : ClassId} {A : Nat → Prop} {ad : Nat → Nat}
set_option maxRecDepth 100000 in
set_option maxHeartbeats 4000000 in
theorem c_X8_in {l : Launch} {D : va_G} {cI cZ : ClassId} {A : Nat → Prop} {ad : Nat → Nat} (σ : SR) (x0 : Int32) (x1 : Int32) (x2 : Int32)  (r : Int32) (h : f_X8_in x0 x1 x2 = some r) : Met l yX8_in (.code yX8_in cX8_in 3 (some .boolean) :: wG) (Rm 1) (PreW D (tyA cI cZ) A (wR ad cI cZ) [.int x0, .int x1, .int x2] σ) (QI D A (wR ad cI cZ) (r, σ)) 0 0 A := by
  refine met_of (M := f_X8_in x0 x1 x2) (Qc := (fun r => QI D A (wR ad cI cZ) (r, σ))) (by decide) (Nat.le_of_ble_eq_true rfl) h (fun p e s m below meth c C0 => ?_)
  generalize hargs : ([.int x0, .int x1, .int x2] : List Value).toArray = args at C0 ⊢
  have C0 : Cx D (tyA cI cZ) RX8 cX8_in 3 (some .boolean) p s m args meth c := C0
  refine J_sub (lv' := [(0, .int x0), (1, .int x1), (2, .int x2)]) [0, 1, 2] rfl ?_
  unfold f_X8_in
  refine J_iload_n (pc := 0) C0 0 dX8_in_0 rfl rfl ?_
  refine J_iload_n (pc := 1) C0 1 dX8_in_1 rfl rfl ?_
  refine J_icmp_lt (pc := 2) (tgt := 14) C0 dX8_in_2 (by decide) (fun h_2 => ?_) (fun h_2 => ?_)
  · refine J_iconst (pc := 14) (v := 0) C0 dX8_in_14 (by decide) ?_
    exact J_zretP0 (Or.inl rfl) C0 dX8_in_15
  · refine J_iload_n (pc := 5) C0 0 dX8_in_5 rfl rfl ?_
    refine J_iload_n (pc := 6) C0 2 dX8_in_6 rfl rfl ?_
    refine J_icmp_gt (pc := 7) (tgt := 14) C0 dX8_in_7 (by decide) (fun h_7 => ?_) (fun h_7 => ?_)
    · refine J_iconst (pc := 14) (v := 0) C0 dX8_in_14 (by decide) ?_
      exact J_zretP0 (Or.inl rfl) C0 dX8_in_15
    · refine J_iconst (pc := 10) (v := 1) C0 dX8_in_10 (by decide) ?_
      refine J_goto (pc := 11) (tgt := 15) C0 dX8_in_11 (by decide) ?_
      exact J_zretP0 (Or.inr rfl) C0 dX8_in_15
end SE

def f_X8_layLine_K96 (k5 : SR → Int32 → Int32 → Option SR) (σ : SR) (x1 : Int32) (x2 : Int32) (x3 : Int32) (x4 : Int32) (x5 : Int32) : Option SR :=
  (if x5 = 0 then (k5 σ 0 (x4 + 1)) else (k5 σ (x3 + 1) (x4 + 1)))
def f_X8_layLine_K37 (k5 : SR → Int32 → Int32 → Option SR) (σ : SR) (x1 : Int32) (x2 : Int32) (x3 : Int32) (x4 : Int32) (y0 : Int32) : Option SR :=
  (if y0 = 0 then (if x3 ≤ 1 then (f_X8_layLine_K96 k5 σ x1 x2 x3 x4 y0) else (if inb (σ.1 9 2) 8 = true then (if inb (σ.1 9 2) 8 = true then (if inb (σ.1 9 2) 8 = true then (f_X8_layLine_K96 k5 (rsu (rsu (rsu (rsu σ 4 (ix (σ.1 9 2)) (x1 + (x2 * (x4 - x3)))) 5 (ix (σ.1 9 2)) x3) 6 (ix (σ.1 9 2)) x2) 9 2 ((σ.1 9 2) + 1)) x1 x2 x3 x4 y0) else none) else none) else none)) else (f_X8_layLine_K96 k5 σ x1 x2 x3 x4 y0))
def f_X8_layLine_K36 (k5 : SR → Int32 → Int32 → Option SR) (σ : SR) (x1 : Int32) (x2 : Int32) (x3 : Int32) (x4 : Int32) : Option SR :=
  (f_X8_layLine_K37 k5 σ x1 x2 x3 x4 0)
def f_X8_layLine_L5 (x1 : Int32) (x2 : Int32) : Nat → SR → Int32 → Int32 → Option SR
  | 0, _, _, _ => none
  | n + 1, σ, x3, x4 =>
  (if (nI 4) < x4 then (some σ) else (if (nI 4) ≤ x4 then (f_X8_layLine_K36 (f_X8_layLine_L5 x1 x2 n) σ x1 x2 x3 x4) else (if inb (x1 + (x2 * x4)) 33 = true then (if (σ.1 0 (ix (x1 + (x2 * x4)))) = (-1) then (f_X8_layLine_K36 (f_X8_layLine_L5 x1 x2 n) σ x1 x2 x3 x4) else (f_X8_layLine_K37 (f_X8_layLine_L5 x1 x2 n) σ x1 x2 x3 x4 1)) else none)))
theorem f_X8_layLine_L5_s (x1 : Int32) (x2 : Int32) (n : Nat) (σ : SR) (x3 : Int32) (x4 : Int32) : f_X8_layLine_L5 x1 x2 (n + 1) σ x3 x4 = ((if (nI 4) < x4 then (some σ) else (if (nI 4) ≤ x4 then (f_X8_layLine_K36 (f_X8_layLine_L5 x1 x2 n) σ x1 x2 x3 x4) else (if inb (x1 + (x2 * x4)) 33 = true then (if (σ.1 0 (ix (x1 + (x2 * x4)))) = (-1) then (f_X8_layLine_K36 (f_X8_layLine_L5 x1 x2 n) σ x1 x2 x3 x4) else (f_X8_layLine_K37 (f_X8_layLine_L5 x1 x2 n) σ x1 x2 x3 x4 1)) else none)))) := rfl
def f_X8_layLine (σ : SR) (x1 : Int32) (x2 : Int32) : Option SR :=
  (f_X8_layLine_L5 x1 x2 FU σ 0 0)
section SE
variable {p : Program} {l : Launch} {e : Env} {s : State} {m : MethodId} {args : Array Value} {below : List Frame} {meth : Method} {c : Code} {D : va_G} {cI cZ : ClassId} {A : Nat → Prop} {ad : Nat → Nat}
set_option maxRecDepth 100000 in
set_option maxHeartbeats 4000000 in
theorem j_X8_layLine_K96 (C0 : Cx D (tyA cI cZ) RX8 cX8_layLine 6 none p s m args meth c) (k5 : SR → Int32 → Int32 → Option SR) (σ : SR) (x1 : Int32) (x2 : Int32) (x3 : Int32) (x4 : Int32) (x5 : Int32) (hk5 : ∀ (σ : SR) (x3 : Int32) (x4 : Int32), J p l e (Rm 1) s m args below meth c D A (wR ad cI cZ) 6 (QV D A (wR ad cI cZ)) (k5 σ x3 x4) σ [(0, .ref (ad 0)), (1, .int x1), (2, .int x2), (3, .int x3), (4, .int x4)] [] 5) : J p l e (Rm 1) s m args below meth c D A (wR ad cI cZ) 6 (QV D A (wR ad cI cZ)) (f_X8_layLine_K96 k5 σ x1 x2 x3 x4 x5) σ [(0, .ref (ad 0)), (1, .int x1), (2, .int x2), (3, .int x3), (4, .int x4), (5, .int x5)] [] 96 := by
  unfold f_X8_layLine_K96
  refine J_iload (pc := 96) C0 5 dX8_layLine_96 rfl ?_
  refine J_if_eq (pc := 98) (tgt := 107) C0 dX8_layLine_98 (by decide) (fun h_98 => ?_) (fun h_98 => ?_)
  · refine J_iconst (pc := 107) (v := 0) C0 dX8_layLine_107 (by decide) ?_
    refine J_istore_n (pc := 108) (lv' := [(3, .int 0), (0, .ref (ad 0)), (1, .int x1), (2, .int x2), (4, .int x4), (5, .int x5)]) C0 dX8_layLine_108 rfl (by decide) rfl ?_
    refine J_iinc (pc := 109) (d := 1) (lv' := [(4, .int (x4 + 1)), (3, .int 0), (0, .ref (ad 0)), (1, .int x1), (2, .int x2), (5, .int x5)]) C0 4 dX8_layLine_109 rfl (by decide) (by decide) rfl ?_
    refine J_goto (pc := 112) (tgt := 5) C0 dX8_layLine_112 (by decide) ?_
    refine J_sub (lv' := [(0, .ref (ad 0)), (1, .int x1), (2, .int x2), (3, .int 0), (4, .int (x4 + 1))]) [2, 3, 4, 1, 0] rfl ?_
    exact hk5 σ 0 (x4 + 1)
  · refine J_iload_n (pc := 101) C0 3 dX8_layLine_101 rfl rfl ?_
    refine J_iconst (pc := 102) (v := 1) C0 dX8_layLine_102 (by decide) ?_
    refine J_iadd (pc := 103) C0 dX8_layLine_103 ?_
    refine J_goto (pc := 104) (tgt := 108) C0 dX8_layLine_104 (by decide) ?_
    refine J_istore_n (pc := 108) (lv' := [(3, .int (x3 + 1)), (0, .ref (ad 0)), (1, .int x1), (2, .int x2), (4, .int x4), (5, .int x5)]) C0 dX8_layLine_108 rfl (by decide) rfl ?_
    refine J_iinc (pc := 109) (d := 1) (lv' := [(4, .int (x4 + 1)), (3, .int (x3 + 1)), (0, .ref (ad 0)), (1, .int x1), (2, .int x2), (5, .int x5)]) C0 4 dX8_layLine_109 rfl (by decide) (by decide) rfl ?_
    refine J_goto (pc := 112) (tgt := 5) C0 dX8_layLine_112 (by decide) ?_
    refine J_sub (lv' := [(0, .ref (ad 0)), (1, .int x1), (2, .int x2), (3, .int (x3 + 1)), (4, .int (x4 + 1))]) [2, 3, 4, 1, 0] rfl ?_
    exact hk5 σ (x3 + 1) (x4 + 1)
set_option maxRecDepth 100000 in
set_option maxHeartbeats 4000000 in
theorem j_X8_layLine_K37 (C0 : Cx D (tyA cI cZ) RX8 cX8_layLine 6 none p s m args meth c) (k5 : SR → Int32 → Int32 → Option SR) (σ : SR) (x1 : Int32) (x2 : Int32) (x3 : Int32) (x4 : Int32) (y0 : Int32) (hk5 : ∀ (σ : SR) (x3 : Int32) (x4 : Int32), J p l e (Rm 1) s m args below meth c D A (wR ad cI cZ) 6 (QV D A (wR ad cI cZ)) (k5 σ x3 x4) σ [(0, .ref (ad 0)), (1, .int x1), (2, .int x2), (3, .int x3), (4, .int x4)] [] 5) : J p l e (Rm 1) s m args below meth c D A (wR ad cI cZ) 6 (QV D A (wR ad cI cZ)) (f_X8_layLine_K37 k5 σ x1 x2 x3 x4 y0) σ [(0, .ref (ad 0)), (1, .int x1), (2, .int x2), (3, .int x3), (4, .int x4)] [.int y0] 37 := by
  unfold f_X8_layLine_K37
  refine J_istore (pc := 37) (lv' := [(5, .int y0), (0, .ref (ad 0)), (1, .int x1), (2, .int x2), (3, .int x3), (4, .int x4)]) C0 dX8_layLine_37 (by decide) rfl ?_
  refine J_iload (pc := 39) C0 0 dX8_layLine_39 rfl ?_
  refine J_if_ne (pc := 41) (tgt := 96) C0 dX8_layLine_41 (by decide) (fun h_41 => ?_) (fun h_41 => ?_)
  · refine J_sub (lv' := [(0, .ref (ad 0)), (1, .int x1), (2, .int x2), (3, .int x3), (4, .int x4), (5, .int y0)]) [1, 2, 3, 4, 5, 0] rfl ?_
    exact j_X8_layLine_K96 C0 _ σ x1 x2 x3 x4 y0 hk5
  · refine J_iload_n (pc := 44) C0 4 dX8_layLine_44 rfl rfl ?_
    refine J_iconst (pc := 45) (v := 1) C0 dX8_layLine_45 (by decide) ?_
    refine J_icmp_le (pc := 46) (tgt := 96) C0 dX8_layLine_46 (by decide) (fun h_46 => ?_) (fun h_46 => ?_)
    · refine J_sub (lv' := [(0, .ref (ad 0)), (1, .int x1), (2, .int x2), (3, .int x3), (4, .int x4), (5, .int y0)]) [1, 2, 3, 4, 5, 0] rfl ?_
      exact j_X8_layLine_K96 C0 _ σ x1 x2 x3 x4 y0 hk5
    · refine J_aload_n (pc := 49) C0 1 dX8_layLine_49 rfl rfl ?_
      refine J_get (pc := 50) (v := .ref (ad 5)) C0 0 wR_o rfl in_X8 7 (by decide) q409 rfl dX8_layLine_50 ?_
      refine J_aload_n (pc := 53) C0 1 dX8_layLine_53 rfl rfl ?_
      refine J_get (pc := 54) (v := .int (σ.1 9 2)) C0 0 wR_o rfl in_X8 6 (by decide) q395 rfl dX8_layLine_54 ?_
      refine J_iload_n (pc := 57) C0 2 dX8_layLine_57 rfl rfl ?_
      refine J_iload_n (pc := 58) C0 3 dX8_layLine_58 rfl rfl ?_
      refine J_iload (pc := 59) C0 5 dX8_layLine_59 rfl ?_
      refine J_iload_n (pc := 61) C0 4 dX8_layLine_61 rfl rfl ?_
      refine J_isub (pc := 62) C0 dX8_layLine_62 ?_
      refine J_imul (pc := 63) C0 dX8_layLine_63 ?_
      refine J_iadd (pc := 64) C0 dX8_layLine_64 ?_
      refine J_iast (pc := 65) (σ' := (rsu σ 4 (ix (σ.1 9 2)) (x1 + (x2 * (x4 - x3))))) C0 5 0 wR_a5 rfl wR_s5 dX8_layLine_65 (fun h_65 => ?_)
      refine J_aload_n (pc := 66) C0 1 dX8_layLine_66 rfl rfl ?_
      refine J_get (pc := 67) (v := .ref (ad 6)) C0 0 wR_o rfl in_X8 8 (by decide) q412 rfl dX8_layLine_67 ?_
      refine J_aload_n (pc := 70) C0 1 dX8_layLine_70 rfl rfl ?_
      refine J_get (pc := 71) (v := .int (σ.1 9 2)) C0 0 wR_o rfl in_X8 6 (by decide) q395 rfl dX8_layLine_71 ?_
      refine J_iload_n (pc := 74) C0 4 dX8_layLine_74 rfl rfl ?_
      refine J_iast (pc := 75) (σ' := (rsu (rsu σ 4 (ix (σ.1 9 2)) (x1 + (x2 * (x4 - x3)))) 5 (ix (σ.1 9 2)) x3)) C0 6 0 wR_a6 rfl wR_s6 dX8_layLine_75 (fun h_75 => ?_)
      refine J_aload_n (pc := 76) C0 1 dX8_layLine_76 rfl rfl ?_
      refine J_get (pc := 77) (v := .ref (ad 7)) C0 0 wR_o rfl in_X8 9 (by decide) q410 rfl dX8_layLine_77 ?_
      refine J_aload_n (pc := 80) C0 1 dX8_layLine_80 rfl rfl ?_
      refine J_get (pc := 81) (v := .int (σ.1 9 2)) C0 0 wR_o rfl in_X8 6 (by decide) q395 rfl dX8_layLine_81 ?_
      refine J_iload_n (pc := 84) C0 3 dX8_layLine_84 rfl rfl ?_
      refine J_iast (pc := 85) (σ' := (rsu (rsu (rsu σ 4 (ix (σ.1 9 2)) (x1 + (x2 * (x4 - x3)))) 5 (ix (σ.1 9 2)) x3) 6 (ix (σ.1 9 2)) x2)) C0 7 0 wR_a7 rfl wR_s7 dX8_layLine_85 (fun h_85 => ?_)
      refine J_aload_n (pc := 86) C0 1 dX8_layLine_86 rfl rfl ?_
      refine J_dup (pc := 87) C0 dX8_layLine_87 rfl ?_
      refine J_get (pc := 88) (v := .int (σ.1 9 2)) C0 0 wR_o rfl in_X8 6 (by decide) q395 rfl dX8_layLine_88 ?_
      refine J_iconst (pc := 91) (v := 1) C0 dX8_layLine_91 (by decide) ?_
      refine J_iadd (pc := 92) C0 dX8_layLine_92 ?_
      refine J_put (pc := 93) (σ' := (rsu (rsu (rsu (rsu σ 4 (ix (σ.1 9 2)) (x1 + (x2 * (x4 - x3)))) 5 (ix (σ.1 9 2)) x3) 6 (ix (σ.1 9 2)) x2) 9 2 ((σ.1 9 2) + 1))) (v := .int ((σ.1 9 2) + 1)) (ty := .int) C0 tyX8_ok nmX8 0 wR_o rfl in_X8 6 (by decide) q395 rfl (by decide +kernel) rfl rfl (Nat.le_of_ble_eq_true rfl) wR_p2 dX8_layLine_93 ?_
      refine J_sub (lv' := [(0, .ref (ad 0)), (1, .int x1), (2, .int x2), (3, .int x3), (4, .int x4), (5, .int y0)]) [1, 2, 3, 4, 5, 0] rfl ?_
      exact j_X8_layLine_K96 C0 _ (rsu (rsu (rsu (rsu σ 4 (ix (σ.1 9 2)) (x1 + (x2 * (x4 - x3)))) 5 (ix (σ.1 9 2)) x3) 6 (ix (σ.1 9 2)) x2) 9 2 ((σ.1 9 2) + 1)) x1 x2 x3 x4 y0 hk5
set_option maxRecDepth 100000 in
set_option maxHeartbeats 4000000 in
theorem j_X8_layLine_K36 (C0 : Cx D (tyA cI cZ) RX8 cX8_layLine 6 none p s m args meth c) (k5 : SR → Int32 → Int32 → Option SR) (σ : SR) (x1 : Int32) (x2 : Int32) (x3 : Int32) (x4 : Int32) (hk5 : ∀ (σ : SR) (x3 : Int32) (x4 : Int32), J p l e (Rm 1) s m args below meth c D A (wR ad cI cZ) 6 (QV D A (wR ad cI cZ)) (k5 σ x3 x4) σ [(0, .ref (ad 0)), (1, .int x1), (2, .int x2), (3, .int x3), (4, .int x4)] [] 5) : J p l e (Rm 1) s m args below meth c D A (wR ad cI cZ) 6 (QV D A (wR ad cI cZ)) (f_X8_layLine_K36 k5 σ x1 x2 x3 x4) σ [(0, .ref (ad 0)), (1, .int x1), (2, .int x2), (3, .int x3), (4, .int x4)] [] 36 := by
  unfold f_X8_layLine_K36
  refine J_iconst (pc := 36) (v := 0) C0 dX8_layLine_36 (by decide) ?_
  refine J_sub (lv' := [(0, .ref (ad 0)), (1, .int x1), (2, .int x2), (3, .int x3), (4, .int x4)]) [0, 1, 2, 3, 4] rfl ?_
  exact j_X8_layLine_K37 C0 _ σ x1 x2 x3 x4 0 hk5
set_option maxRecDepth 100000 in
set_option maxHeartbeats 4000000 in
theorem j_X8_layLine_L5 (C0 : Cx D (tyA cI cZ) RX8 cX8_layLine 6 none p s m args meth c) (x1 : Int32) (x2 : Int32) : ∀ (n : Nat) (σ : SR) (x3 : Int32) (x4 : Int32), J p l e (Rm 1) s m args below meth c D A (wR ad cI cZ) 6 (QV D A (wR ad cI cZ)) (f_X8_layLine_L5 x1 x2 n σ x3 x4) σ [(0, .ref (ad 0)), (1, .int x1), (2, .int x2), (3, .int x3), (4, .int x4)] [] 5 := by
  intro n
  induction n with
  | zero => intros; exact J_none
  | succ n ih =>
    intro σ x3 x4
    refine J_eq (f_X8_layLine_L5_s x1 x2 n σ x3 x4) ?_
    refine J_iload (pc := 5) C0 4 dX8_layLine_5 rfl ?_
    refine J_iconst (pc := 7) (v := (nI 4)) C0 dX8_layLine_7 (by decide) ?_
    refine J_icmp_gt (pc := 8) (tgt := 115) C0 dX8_layLine_8 (by decide) (fun h_8 => ?_) (fun h_8 => ?_)
    · exact J_vret C0 dX8_layLine_115
    · refine J_iload (pc := 11) C0 4 dX8_layLine_11 rfl ?_
      refine J_iconst (pc := 13) (v := (nI 4)) C0 dX8_layLine_13 (by decide) ?_
      refine J_icmp_ge (pc := 14) (tgt := 36) C0 dX8_layLine_14 (by decide) (fun h_14 => ?_) (fun h_14 => ?_)
      · refine J_sub (lv' := [(0, .ref (ad 0)), (1, .int x1), (2, .int x2), (3, .int x3), (4, .int x4)]) [0, 1, 2, 3, 4] rfl ?_
        exact j_X8_layLine_K36 C0 _ σ x1 x2 x3 x4 ih
      · refine J_aload_n (pc := 17) C0 0 dX8_layLine_17 rfl rfl ?_
        refine J_get (pc := 18) (v := .ref (ad 1)) C0 0 wR_o rfl in_X8 0 (by decide) q411 rfl dX8_layLine_18 ?_
        refine J_iload_n (pc := 21) C0 1 dX8_layLine_21 rfl rfl ?_
        refine J_iload_n (pc := 22) C0 2 dX8_layLine_22 rfl rfl ?_
        refine J_iload (pc := 23) C0 4 dX8_layLine_23 rfl ?_
        refine J_imul (pc := 25) C0 dX8_layLine_25 ?_
        refine J_iadd (pc := 26) C0 dX8_layLine_26 ?_
        refine J_iald (pc := 27) C0 1 0 wR_a1 rfl dX8_layLine_27 (fun h_27 => ?_)
        refine J_iconst (pc := 28) (v := (-1)) C0 dX8_layLine_28 (by decide) ?_
        refine J_icmp_eq (pc := 29) (tgt := 36) C0 dX8_layLine_29 (by decide) (fun h_29 => ?_) (fun h_29 => ?_)
        · refine J_sub (lv' := [(0, .ref (ad 0)), (1, .int x1), (2, .int x2), (3, .int x3), (4, .int x4)]) [0, 1, 2, 3, 4] rfl ?_
          exact j_X8_layLine_K36 C0 _ σ x1 x2 x3 x4 ih
        · refine J_iconst (pc := 32) (v := 1) C0 dX8_layLine_32 (by decide) ?_
          refine J_goto (pc := 33) (tgt := 37) C0 dX8_layLine_33 (by decide) ?_
          refine J_sub (lv' := [(0, .ref (ad 0)), (1, .int x1), (2, .int x2), (3, .int x3), (4, .int x4)]) [0, 1, 2, 3, 4] rfl ?_
          exact j_X8_layLine_K37 C0 _ σ x1 x2 x3 x4 1 ih
set_option maxRecDepth 100000 in
set_option maxHeartbeats 4000000 in
theorem c_X8_layLine {l : Launch} {D : va_G} {cI cZ : ClassId} {A : Nat → Prop} {ad : Nat → Nat} (σ : SR) (x1 : Int32) (x2 : Int32)  (r : SR) (h : f_X8_layLine σ x1 x2 = some r) : Met l yX8_layLine (.code yX8_layLine cX8_layLine 6 none :: wG) (Rm 1) (PreW D (tyA cI cZ) A (wR ad cI cZ) [.ref (ad 0), .int x1, .int x2] σ) (QV D A (wR ad cI cZ) r) 0 0 A := by
  refine met_of (M := f_X8_layLine σ x1 x2) (Qc := (QV D A (wR ad cI cZ))) (by decide) (Nat.le_of_ble_eq_true rfl) h (fun p e s m below meth c C0 => ?_)
  generalize hargs : ([.ref (ad 0), .int x1, .int x2] : List Value).toArray = args at C0 ⊢
  have C0 : Cx D (tyA cI cZ) RX8 cX8_layLine 6 none p s m args meth c := C0
  refine J_sub (lv' := [(0, .ref (ad 0)), (1, .int x1), (2, .int x2)]) [0, 1, 2] rfl ?_
  unfold f_X8_layLine
  refine J_iconst (pc := 0) (v := 0) C0 dX8_layLine_0 (by decide) ?_
  refine J_istore_n (pc := 1) (lv' := [(3, .int 0), (0, .ref (ad 0)), (1, .int x1), (2, .int x2)]) C0 dX8_layLine_1 rfl (by decide) rfl ?_
  refine J_iconst (pc := 2) (v := 0) C0 dX8_layLine_2 (by decide) ?_
  refine J_istore (pc := 3) (lv' := [(4, .int 0), (3, .int 0), (0, .ref (ad 0)), (1, .int x1), (2, .int x2)]) C0 dX8_layLine_3 (by decide) rfl ?_
  refine J_sub (lv' := [(0, .ref (ad 0)), (1, .int x1), (2, .int x2), (3, .int 0), (4, .int 0)]) [2, 3, 4, 1, 0] rfl ?_
  exact j_X8_layLine_L5 C0 x1 x2 FU σ 0 0
end SE

def f_X8_lengthOf (x0 : Int32) : Option Int32 :=
  (if (nI 49) ≤ x0 then (if (nI 343) ≤ x0 then (some (nI 4)) else (some (nI 3))) else (some (nI 2)))
section SE
variable {p : Program} {l : Launch} {e : Env} {s : State} {m : MethodId} {args : Array Value} {below : List Frame} {meth : Method} {c : Code} {D : va_G} {cI cZ : ClassId} {A : Nat → Prop} {ad : Nat → Nat}
set_option maxRecDepth 100000 in
set_option maxHeartbeats 4000000 in
theorem c_X8_lengthOf {l : Launch} {D : va_G} {cI cZ : ClassId} {A : Nat → Prop} {ad : Nat → Nat} (σ : SR) (x0 : Int32)  (r : Int32) (h : f_X8_lengthOf x0 = some r) : Met l yX8_lengthOf (.code yX8_lengthOf cX8_lengthOf 1 (some .int) :: wG) (Rm 1) (PreW D (tyA cI cZ) A (wR ad cI cZ) [.int x0] σ) (QI D A (wR ad cI cZ) (r, σ)) 0 0 A := by
  refine met_of (M := f_X8_lengthOf x0) (Qc := (fun r => QI D A (wR ad cI cZ) (r, σ))) (by decide) (Nat.le_of_ble_eq_true rfl) h (fun p e s m below meth c C0 => ?_)
  generalize hargs : ([.int x0] : List Value).toArray = args at C0 ⊢
  have C0 : Cx D (tyA cI cZ) RX8 cX8_lengthOf 1 (some .int) p s m args meth c := C0
  refine J_sub (lv' := [(0, .int x0)]) [0] rfl ?_
  unfold f_X8_lengthOf
  refine J_iload_n (pc := 0) C0 0 dX8_lengthOf_0 rfl rfl ?_
  refine J_bipush (pc := 1) (v := (nI 49)) C0 dX8_lengthOf_1 (by decide) ?_
  refine J_icmp_ge (pc := 3) (tgt := 10) C0 dX8_lengthOf_3 (by decide) (fun h_3 => ?_) (fun h_3 => ?_)
  · refine J_iload_n (pc := 10) C0 0 dX8_lengthOf_10 rfl rfl ?_
    refine J_sipush (pc := 11) (v := (nI 343)) C0 dX8_lengthOf_11 (by decide) ?_
    refine J_icmp_ge (pc := 14) (tgt := 21) C0 dX8_lengthOf_14 (by decide) (fun h_14 => ?_) (fun h_14 => ?_)
    · refine J_iconst (pc := 21) (v := (nI 4)) C0 dX8_lengthOf_21 (by decide) ?_
      exact J_iretP C0 dX8_lengthOf_22
    · refine J_iconst (pc := 17) (v := (nI 3)) C0 dX8_lengthOf_17 (by decide) ?_
      refine J_goto (pc := 18) (tgt := 22) C0 dX8_lengthOf_18 (by decide) ?_
      exact J_iretP C0 dX8_lengthOf_22
  · refine J_iconst (pc := 6) (v := (nI 2)) C0 dX8_lengthOf_6 (by decide) ?_
    refine J_goto (pc := 7) (tgt := 22) C0 dX8_lengthOf_7 (by decide) ?_
    exact J_iretP C0 dX8_lengthOf_22
end SE

def f_X8_lots (σ : SR) (x1 : Int32) : Option (Int32 × SR) :=
  (if x1.toInt64 = 0 then none else (some ((((σ.2 * 16807) - (σ.2 * 16807) / 2147483647 * 2147483647) - ((σ.2 * 16807) - (σ.2 * 16807) / 2147483647 * 2147483647) / x1.toInt64 * x1.toInt64).toInt32, (rlt σ ((σ.2 * 16807) - (σ.2 * 16807) / 2147483647 * 2147483647)))))
section SE
variable {p : Program} {l : Launch} {e : Env} {s : State} {m : MethodId} {args : Array Value} {below : List Frame} {meth : Method} {c : Code} {D : va_G} {cI cZ : ClassId} {A : Nat → Prop} {ad : Nat → Nat}
set_option maxRecDepth 100000 in
set_option maxHeartbeats 4000000 in
theorem c_X8_lots {l : Launch} {D : va_G} {cI cZ : ClassId} {A : Nat → Prop} {ad : Nat → Nat} (σ : SR) (x1 : Int32)  (r : (Int32 × SR)) (h : f_X8_lots σ x1 = some r) : Met l yX8_lots (.code yX8_lots cX8_lots 2 (some .int) :: wG) (Rm 1) (PreW D (tyA cI cZ) A (wR ad cI cZ) [.ref (ad 0), .int x1] σ) (QI D A (wR ad cI cZ) r) 0 0 A := by
  refine met_of (M := f_X8_lots σ x1) (Qc := (QI D A (wR ad cI cZ))) (by decide) (Nat.le_of_ble_eq_true rfl) h (fun p e s m below meth c C0 => ?_)
  generalize hargs : ([.ref (ad 0), .int x1] : List Value).toArray = args at C0 ⊢
  have C0 : Cx D (tyA cI cZ) RX8 cX8_lots 2 (some .int) p s m args meth c := C0
  refine J_sub (lv' := [(0, .ref (ad 0)), (1, .int x1)]) [0, 1] rfl ?_
  unfold f_X8_lots
  refine J_aload_n (pc := 0) C0 0 dX8_lots_0 rfl rfl ?_
  refine J_aload_n (pc := 1) C0 0 dX8_lots_1 rfl rfl ?_
  refine J_get (pc := 2) (v := .long σ.2) C0 0 wR_o rfl in_X8 10 (by decide) q413 rfl dX8_lots_2 ?_
  refine J_ldc2 (pc := 5) C0 q414 dX8_lots_5 ?_
  refine J_lmul (pc := 8) C0 dX8_lots_8 ?_
  refine J_ldc2 (pc := 9) C0 q415 dX8_lots_9 ?_
  refine J_lrem (pc := 12) C0 dX8_lots_12 (by decide) ?_
  refine J_put (pc := 13) (σ' := (rlt σ ((σ.2 * 16807) - (σ.2 * 16807) / 2147483647 * 2147483647))) (v := .long ((σ.2 * 16807) - (σ.2 * 16807) / 2147483647 * 2147483647)) (ty := .long) C0 tyX8_ok nmX8 0 wR_o rfl in_X8 10 (by decide) q413 rfl (by decide +kernel) rfl rfl (Nat.le_of_ble_eq_true rfl) wR_pl dX8_lots_13 ?_
  refine J_aload_n (pc := 16) C0 0 dX8_lots_16 rfl rfl ?_
  refine J_get (pc := 17) (v := .long ((σ.2 * 16807) - (σ.2 * 16807) / 2147483647 * 2147483647)) C0 0 wR_o rfl in_X8 10 (by decide) q413 rfl dX8_lots_17 ?_
  refine J_iload_n (pc := 20) C0 1 dX8_lots_20 rfl rfl ?_
  refine J_i2l (pc := 21) C0 dX8_lots_21 ?_
  refine J_lremG (pc := 22) C0 dX8_lots_22 (fun h_22 => ?_)
  refine J_l2i (pc := 23) C0 dX8_lots_23 ?_
  exact J_iret C0 dX8_lots_24
end SE

def f_X8_ofCells_K34 (k7 : Int32 → Int32 → Int32 → Option Int32) (σ : SR) (x1 : Int32) (x2 : Int32) (x4 : Int32) (y0 : Int32) (y1 : Int32) : Option Int32 :=
  (if inb x4 33 = true then (if (σ.1 0 (ix x4)) ≤ 0 then (k7 (x2 ||| (0 : Int32)) (y1 ||| y0) (x4 + 1)) else (k7 (x2 ||| ((1 : Int32) <<< (x4 &&& 31))) (y1 ||| y0) (x4 + 1))) else none)
def f_X8_ofCells_L7 (σ : SR) (x1 : Int32) (kx63 : Int32 → Int32 → Option Int32) : Nat → Int32 → Int32 → Int32 → Option Int32
  | 0, _, _, _ => none
  | n + 1, x2, x3, x4 =>
  (if (nI 16) ≤ x4 then (kx63 x2 x3) else (if inb x4 33 = true then (if (σ.1 0 (ix x4)) = (-1) then (f_X8_ofCells_K34 (f_X8_ofCells_L7 σ x1 kx63 n) σ x1 x2 x4 ((1 : Int32) <<< (x4 &&& 31)) x3) else (f_X8_ofCells_K34 (f_X8_ofCells_L7 σ x1 kx63 n) σ x1 x2 x4 0 x3)) else none))
theorem f_X8_ofCells_L7_s (σ : SR) (x1 : Int32) (kx63 : Int32 → Int32 → Option Int32) (n : Nat) (x2 : Int32) (x3 : Int32) (x4 : Int32) : f_X8_ofCells_L7 σ x1 kx63 (n + 1) x2 x3 x4 = ((if (nI 16) ≤ x4 then (kx63 x2 x3) else (if inb x4 33 = true then (if (σ.1 0 (ix x4)) = (-1) then (f_X8_ofCells_K34 (f_X8_ofCells_L7 σ x1 kx63 n) σ x1 x2 x4 ((1 : Int32) <<< (x4 &&& 31)) x3) else (f_X8_ofCells_K34 (f_X8_ofCells_L7 σ x1 kx63 n) σ x1 x2 x4 0 x3)) else none))) := rfl
def f_X8_ofCells (σ : SR) (x1 : Int32) : Option Int32 :=
  (f_X8_ofCells_L7 σ x1 (fun x2_63 x3_63 => (if x1 = (nI 2) then (some x3_63) else (some x2_63))) FU 0 0 0)
section SE
variable {p : Program} {l : Launch} {e : Env} {s : State} {m : MethodId} {args : Array Value} {below : List Frame} {meth : Method} {c : Code} {D : va_G} {cI cZ : ClassId} {A : Nat → Prop} {ad : Nat → Nat}
set_option maxRecDepth 100000 in
set_option maxHeartbeats 4000000 in
theorem j_X8_ofCells_K34 (C0 : Cx D (tyA cI cZ) RX8 cX8_ofCells 5 (some .int) p s m args meth c) (k7 : Int32 → Int32 → Int32 → Option Int32) (σ : SR) (x1 : Int32) (x2 : Int32) (x4 : Int32) (y0 : Int32) (y1 : Int32) (hk7 : ∀ (x2 : Int32) (x3 : Int32) (x4 : Int32), J p l e (Rm 1) s m args below meth c D A (wR ad cI cZ) 5 (fun r => QI D A (wR ad cI cZ) (r, σ)) (k7 x2 x3 x4) σ [(0, .ref (ad 0)), (1, .int x1), (2, .int x2), (3, .int x3), (4, .int x4)] [] 7) : J p l e (Rm 1) s m args below meth c D A (wR ad cI cZ) 5 (fun r => QI D A (wR ad cI cZ) (r, σ)) (f_X8_ofCells_K34 k7 σ x1 x2 x4 y0 y1) σ [(0, .ref (ad 0)), (1, .int x1), (2, .int x2), (4, .int x4)] [.int y0, .int y1] 34 := by
  unfold f_X8_ofCells_K34
  refine J_ior (pc := 34) C0 dX8_ofCells_34 ?_
  refine J_istore_n (pc := 35) (lv' := [(3, .int (y1 ||| y0)), (0, .ref (ad 0)), (1, .int x1), (2, .int x2), (4, .int x4)]) C0 dX8_ofCells_35 rfl (by decide) rfl ?_
  refine J_iload_n (pc := 36) C0 3 dX8_ofCells_36 rfl rfl ?_
  refine J_aload_n (pc := 37) C0 1 dX8_ofCells_37 rfl rfl ?_
  refine J_get (pc := 38) (v := .ref (ad 1)) C0 0 wR_o rfl in_X8 0 (by decide) q411 rfl dX8_ofCells_38 ?_
  refine J_iload (pc := 41) C0 4 dX8_ofCells_41 rfl ?_
  refine J_iald (pc := 43) C0 1 0 wR_a1 rfl dX8_ofCells_43 (fun h_43 => ?_)
  refine J_if_le (pc := 44) (tgt := 54) C0 dX8_ofCells_44 (by decide) (fun h_44 => ?_) (fun h_44 => ?_)
  · refine J_iconst (pc := 54) (v := 0) C0 dX8_ofCells_54 (by decide) ?_
    refine J_ior (pc := 55) C0 dX8_ofCells_55 ?_
    refine J_istore_n (pc := 56) (lv' := [(2, .int (x2 ||| (0 : Int32))), (3, .int (y1 ||| y0)), (0, .ref (ad 0)), (1, .int x1), (4, .int x4)]) C0 dX8_ofCells_56 rfl (by decide) rfl ?_
    refine J_iinc (pc := 57) (d := 1) (lv' := [(4, .int (x4 + 1)), (2, .int (x2 ||| (0 : Int32))), (3, .int (y1 ||| y0)), (0, .ref (ad 0)), (1, .int x1)]) C0 4 dX8_ofCells_57 rfl (by decide) (by decide) rfl ?_
    refine J_goto (pc := 60) (tgt := 7) C0 dX8_ofCells_60 (by decide) ?_
    refine J_sub (lv' := [(0, .ref (ad 0)), (1, .int x1), (2, .int (x2 ||| (0 : Int32))), (3, .int (y1 ||| y0)), (4, .int (x4 + 1))]) [3, 4, 1, 2, 0] rfl ?_
    exact hk7 (x2 ||| (0 : Int32)) (y1 ||| y0) (x4 + 1)
  · refine J_iconst (pc := 47) (v := 1) C0 dX8_ofCells_47 (by decide) ?_
    refine J_iload (pc := 48) C0 4 dX8_ofCells_48 rfl ?_
    refine J_ishl (pc := 50) C0 dX8_ofCells_50 ?_
    refine J_goto (pc := 51) (tgt := 55) C0 dX8_ofCells_51 (by decide) ?_
    refine J_ior (pc := 55) C0 dX8_ofCells_55 ?_
    refine J_istore_n (pc := 56) (lv' := [(2, .int (x2 ||| ((1 : Int32) <<< (x4 &&& 31)))), (3, .int (y1 ||| y0)), (0, .ref (ad 0)), (1, .int x1), (4, .int x4)]) C0 dX8_ofCells_56 rfl (by decide) rfl ?_
    refine J_iinc (pc := 57) (d := 1) (lv' := [(4, .int (x4 + 1)), (2, .int (x2 ||| ((1 : Int32) <<< (x4 &&& 31)))), (3, .int (y1 ||| y0)), (0, .ref (ad 0)), (1, .int x1)]) C0 4 dX8_ofCells_57 rfl (by decide) (by decide) rfl ?_
    refine J_goto (pc := 60) (tgt := 7) C0 dX8_ofCells_60 (by decide) ?_
    refine J_sub (lv' := [(0, .ref (ad 0)), (1, .int x1), (2, .int (x2 ||| ((1 : Int32) <<< (x4 &&& 31)))), (3, .int (y1 ||| y0)), (4, .int (x4 + 1))]) [3, 4, 1, 2, 0] rfl ?_
    exact hk7 (x2 ||| ((1 : Int32) <<< (x4 &&& 31))) (y1 ||| y0) (x4 + 1)
set_option maxRecDepth 100000 in
set_option maxHeartbeats 4000000 in
theorem j_X8_ofCells_L7 (C0 : Cx D (tyA cI cZ) RX8 cX8_ofCells 5 (some .int) p s m args meth c) (σ : SR) (x1 : Int32) (kx63 : Int32 → Int32 → Option Int32) (hkx63 : ∀ (x2 : Int32) (x3 : Int32), J p l e (Rm 1) s m args below meth c D A (wR ad cI cZ) 5 (fun r => QI D A (wR ad cI cZ) (r, σ)) (kx63 x2 x3) σ [(1, .int x1), (2, .int x2), (3, .int x3)] [] 63) : ∀ (n : Nat) (x2 : Int32) (x3 : Int32) (x4 : Int32), J p l e (Rm 1) s m args below meth c D A (wR ad cI cZ) 5 (fun r => QI D A (wR ad cI cZ) (r, σ)) (f_X8_ofCells_L7 σ x1 kx63 n x2 x3 x4) σ [(0, .ref (ad 0)), (1, .int x1), (2, .int x2), (3, .int x3), (4, .int x4)] [] 7 := by
  intro n
  induction n with
  | zero => intros; exact J_none
  | succ n ih =>
    intro x2 x3 x4
    refine J_eq (f_X8_ofCells_L7_s σ x1 kx63 n x2 x3 x4) ?_
    refine J_iload (pc := 7) C0 4 dX8_ofCells_7 rfl ?_
    refine J_bipush (pc := 9) (v := (nI 16)) C0 dX8_ofCells_9 (by decide) ?_
    refine J_icmp_ge (pc := 11) (tgt := 63) C0 dX8_ofCells_11 (by decide) (fun h_11 => ?_) (fun h_11 => ?_)
    · refine J_sub (lv' := [(1, .int x1), (2, .int x2), (3, .int x3)]) [1, 2, 3] rfl ?_
      exact hkx63 x2 x3
    · refine J_iload_n (pc := 14) C0 3 dX8_ofCells_14 rfl rfl ?_
      refine J_aload_n (pc := 15) C0 0 dX8_ofCells_15 rfl rfl ?_
      refine J_get (pc := 16) (v := .ref (ad 1)) C0 0 wR_o rfl in_X8 0 (by decide) q411 rfl dX8_ofCells_16 ?_
      refine J_iload (pc := 19) C0 4 dX8_ofCells_19 rfl ?_
      refine J_iald (pc := 21) C0 1 0 wR_a1 rfl dX8_ofCells_21 (fun h_21 => ?_)
      refine J_iconst (pc := 22) (v := (-1)) C0 dX8_ofCells_22 (by decide) ?_
      refine J_icmp_ne (pc := 23) (tgt := 33) C0 dX8_ofCells_23 (by decide) (fun h_23 => ?_) (fun h_23 => ?_)
      · refine J_iconst (pc := 33) (v := 0) C0 dX8_ofCells_33 (by decide) ?_
        refine J_sub (lv' := [(0, .ref (ad 0)), (1, .int x1), (2, .int x2), (4, .int x4)]) [0, 1, 2, 4] rfl ?_
        exact j_X8_ofCells_K34 C0 _ σ x1 x2 x4 0 x3 ih
      · refine J_iconst (pc := 26) (v := 1) C0 dX8_ofCells_26 (by decide) ?_
        refine J_iload (pc := 27) C0 4 dX8_ofCells_27 rfl ?_
        refine J_ishl (pc := 29) C0 dX8_ofCells_29 ?_
        refine J_goto (pc := 30) (tgt := 34) C0 dX8_ofCells_30 (by decide) ?_
        refine J_sub (lv' := [(0, .ref (ad 0)), (1, .int x1), (2, .int x2), (4, .int x4)]) [0, 1, 2, 4] rfl ?_
        exact j_X8_ofCells_K34 C0 _ σ x1 x2 x4 ((1 : Int32) <<< (x4 &&& 31)) x3 ih
set_option maxRecDepth 100000 in
set_option maxHeartbeats 4000000 in
theorem c_X8_ofCells {l : Launch} {D : va_G} {cI cZ : ClassId} {A : Nat → Prop} {ad : Nat → Nat} (σ : SR) (x1 : Int32)  (r : Int32) (h : f_X8_ofCells σ x1 = some r) : Met l yX8_ofCells (.code yX8_ofCells cX8_ofCells 5 (some .int) :: wG) (Rm 1) (PreW D (tyA cI cZ) A (wR ad cI cZ) [.ref (ad 0), .int x1] σ) (QI D A (wR ad cI cZ) (r, σ)) 0 0 A := by
  refine met_of (M := f_X8_ofCells σ x1) (Qc := (fun r => QI D A (wR ad cI cZ) (r, σ))) (by decide) (Nat.le_of_ble_eq_true rfl) h (fun p e s m below meth c C0 => ?_)
  generalize hargs : ([.ref (ad 0), .int x1] : List Value).toArray = args at C0 ⊢
  have C0 : Cx D (tyA cI cZ) RX8 cX8_ofCells 5 (some .int) p s m args meth c := C0
  refine J_sub (lv' := [(0, .ref (ad 0)), (1, .int x1)]) [0, 1] rfl ?_
  unfold f_X8_ofCells
  refine J_iconst (pc := 0) (v := 0) C0 dX8_ofCells_0 (by decide) ?_
  refine J_istore_n (pc := 1) (lv' := [(2, .int 0), (0, .ref (ad 0)), (1, .int x1)]) C0 dX8_ofCells_1 rfl (by decide) rfl ?_
  refine J_iconst (pc := 2) (v := 0) C0 dX8_ofCells_2 (by decide) ?_
  refine J_istore_n (pc := 3) (lv' := [(3, .int 0), (2, .int 0), (0, .ref (ad 0)), (1, .int x1)]) C0 dX8_ofCells_3 rfl (by decide) rfl ?_
  refine J_iconst (pc := 4) (v := 0) C0 dX8_ofCells_4 (by decide) ?_
  refine J_istore (pc := 5) (lv' := [(4, .int 0), (3, .int 0), (2, .int 0), (0, .ref (ad 0)), (1, .int x1)]) C0 dX8_ofCells_5 (by decide) rfl ?_
  refine J_sub (lv' := [(0, .ref (ad 0)), (1, .int x1), (2, .int 0), (3, .int 0), (4, .int 0)]) [3, 4, 2, 1, 0] rfl ?_
  refine j_X8_ofCells_L7 C0 σ x1 _ (fun x2_63 x3_63 => ?_) FU 0 0 0
  refine J_iload_n (pc := 63) C0 0 dX8_ofCells_63 rfl rfl ?_
  refine J_iconst (pc := 64) (v := (nI 2)) C0 dX8_ofCells_64 (by decide) ?_
  refine J_icmp_ne (pc := 65) (tgt := 72) C0 dX8_ofCells_65 (by decide) (fun h_65 => ?_) (fun h_65 => ?_)
  · refine J_iload_n (pc := 72) C0 1 dX8_ofCells_72 rfl rfl ?_
    exact J_iretP C0 dX8_ofCells_73
  · refine J_iload_n (pc := 68) C0 2 dX8_ofCells_68 rfl rfl ?_
    refine J_goto (pc := 69) (tgt := 73) C0 dX8_ofCells_69 (by decide) ?_
    exact J_iretP C0 dX8_ofCells_73
end SE

def f_X8_remember_L2 (kx34 : SR → Option SR) : Nat → SR → Int32 → Option SR
  | 0, _, _ => none
  | n + 1, σ, x1 =>
  (if (nI 33) ≤ x1 then (kx34 σ) else (if inb x1 33 = true then (if inb (((nI 33) * (σ.1 9 1)) + x1) 330 = true then (f_X8_remember_L2 kx34 n (rsu σ 1 (ix (((nI 33) * (σ.1 9 1)) + x1)) (σ.1 0 (ix x1))) (x1 + 1)) else none) else none))
theorem f_X8_remember_L2_s (kx34 : SR → Option SR) (n : Nat) (σ : SR) (x1 : Int32) : f_X8_remember_L2 kx34 (n + 1) σ x1 = ((if (nI 33) ≤ x1 then (kx34 σ) else (if inb x1 33 = true then (if inb (((nI 33) * (σ.1 9 1)) + x1) 330 = true then (f_X8_remember_L2 kx34 n (rsu σ 1 (ix (((nI 33) * (σ.1 9 1)) + x1)) (σ.1 0 (ix x1))) (x1 + 1)) else none) else none))) := rfl
def f_X8_remember (σ : SR)  : Option SR :=
  (f_X8_remember_L2 (fun σ_34 => (if (nI 10) ≤ (σ_34.1 9 0) then (some (rsu (rsu σ_34 9 1 (((σ_34.1 9 1) + 1) - ((σ_34.1 9 1) + 1) / (nI 10) * (nI 10))) 9 0 ((σ_34.1 9 0) + 0))) else (some (rsu (rsu σ_34 9 1 (((σ_34.1 9 1) + 1) - ((σ_34.1 9 1) + 1) / (nI 10) * (nI 10))) 9 0 ((σ_34.1 9 0) + 1))))) FU σ 0)
section SE
variable {p : Program} {l : Launch} {e : Env} {s : State} {m : MethodId} {args : Array Value} {below : List Frame} {meth : Method} {c : Code} {D : va_G} {cI cZ : ClassId} {A : Nat → Prop} {ad : Nat → Nat}
set_option maxRecDepth 100000 in
set_option maxHeartbeats 4000000 in
theorem j_X8_remember_L2 (C0 : Cx D (tyA cI cZ) RX8 cX8_remember 2 none p s m args meth c) (kx34 : SR → Option SR) (hkx34 : ∀ (σ : SR), J p l e (Rm 1) s m args below meth c D A (wR ad cI cZ) 2 (QV D A (wR ad cI cZ)) (kx34 σ) σ [(0, .ref (ad 0))] [] 34) : ∀ (n : Nat) (σ : SR) (x1 : Int32), J p l e (Rm 1) s m args below meth c D A (wR ad cI cZ) 2 (QV D A (wR ad cI cZ)) (f_X8_remember_L2 kx34 n σ x1) σ [(0, .ref (ad 0)), (1, .int x1)] [] 2 := by
  intro n
  induction n with
  | zero => intros; exact J_none
  | succ n ih =>
    intro σ x1
    refine J_eq (f_X8_remember_L2_s kx34 n σ x1) ?_
    refine J_iload_n (pc := 2) C0 1 dX8_remember_2 rfl rfl ?_
    refine J_bipush (pc := 3) (v := (nI 33)) C0 dX8_remember_3 (by decide) ?_
    refine J_icmp_ge (pc := 5) (tgt := 34) C0 dX8_remember_5 (by decide) (fun h_5 => ?_) (fun h_5 => ?_)
    · refine J_sub (lv' := [(0, .ref (ad 0))]) [0] rfl ?_
      exact hkx34 σ
    · refine J_aload_n (pc := 8) C0 0 dX8_remember_8 rfl rfl ?_
      refine J_get (pc := 9) (v := .ref (ad 2)) C0 0 wR_o rfl in_X8 3 (by decide) q416 rfl dX8_remember_9 ?_
      refine J_bipush (pc := 12) (v := (nI 33)) C0 dX8_remember_12 (by decide) ?_
      refine J_aload_n (pc := 14) C0 0 dX8_remember_14 rfl rfl ?_
      refine J_get (pc := 15) (v := .int (σ.1 9 1)) C0 0 wR_o rfl in_X8 2 (by decide) q417 rfl dX8_remember_15 ?_
      refine J_imul (pc := 18) C0 dX8_remember_18 ?_
      refine J_iload_n (pc := 19) C0 1 dX8_remember_19 rfl rfl ?_
      refine J_iadd (pc := 20) C0 dX8_remember_20 ?_
      refine J_aload_n (pc := 21) C0 0 dX8_remember_21 rfl rfl ?_
      refine J_get (pc := 22) (v := .ref (ad 1)) C0 0 wR_o rfl in_X8 0 (by decide) q411 rfl dX8_remember_22 ?_
      refine J_iload_n (pc := 25) C0 1 dX8_remember_25 rfl rfl ?_
      refine J_iald (pc := 26) C0 1 0 wR_a1 rfl dX8_remember_26 (fun h_26 => ?_)
      refine J_iast (pc := 27) (σ' := (rsu σ 1 (ix (((nI 33) * (σ.1 9 1)) + x1)) (σ.1 0 (ix x1)))) C0 2 0 wR_a2 rfl wR_s2 dX8_remember_27 (fun h_27 => ?_)
      refine J_iinc (pc := 28) (d := 1) (lv' := [(1, .int (x1 + 1)), (0, .ref (ad 0))]) C0 1 dX8_remember_28 rfl (by decide) (by decide) rfl ?_
      refine J_goto (pc := 31) (tgt := 2) C0 dX8_remember_31 (by decide) ?_
      refine J_sub (lv' := [(0, .ref (ad 0)), (1, .int (x1 + 1))]) [1, 0] rfl ?_
      exact ih (rsu σ 1 (ix (((nI 33) * (σ.1 9 1)) + x1)) (σ.1 0 (ix x1))) (x1 + 1)
set_option maxRecDepth 100000 in
set_option maxHeartbeats 4000000 in
theorem c_X8_remember {l : Launch} {D : va_G} {cI cZ : ClassId} {A : Nat → Prop} {ad : Nat → Nat} (σ : SR)   (r : SR) (h : f_X8_remember σ = some r) : Met l yX8_remember (.code yX8_remember cX8_remember 2 none :: wG) (Rm 1) (PreW D (tyA cI cZ) A (wR ad cI cZ) [.ref (ad 0)] σ) (QV D A (wR ad cI cZ) r) 0 0 A := by
  refine met_of (M := f_X8_remember σ) (Qc := (QV D A (wR ad cI cZ))) (by decide) (Nat.le_of_ble_eq_true rfl) h (fun p e s m below meth c C0 => ?_)
  generalize hargs : ([.ref (ad 0)] : List Value).toArray = args at C0 ⊢
  have C0 : Cx D (tyA cI cZ) RX8 cX8_remember 2 none p s m args meth c := C0
  refine J_sub (lv' := [(0, .ref (ad 0))]) [0] rfl ?_
  unfold f_X8_remember
  refine J_iconst (pc := 0) (v := 0) C0 dX8_remember_0 (by decide) ?_
  refine J_istore_n (pc := 1) (lv' := [(1, .int 0), (0, .ref (ad 0))]) C0 dX8_remember_1 rfl (by decide) rfl ?_
  refine J_sub (lv' := [(0, .ref (ad 0)), (1, .int 0)]) [1, 0] rfl ?_
  refine j_X8_remember_L2 C0 _ (fun σ_34 => ?_) FU σ 0
  refine J_aload_n (pc := 34) C0 0 dX8_remember_34 rfl rfl ?_
  refine J_aload_n (pc := 35) C0 0 dX8_remember_35 rfl rfl ?_
  refine J_get (pc := 36) (v := .int (σ_34.1 9 1)) C0 0 wR_o rfl in_X8 2 (by decide) q417 rfl dX8_remember_36 ?_
  refine J_iconst (pc := 39) (v := 1) C0 dX8_remember_39 (by decide) ?_
  refine J_iadd (pc := 40) C0 dX8_remember_40 ?_
  refine J_bipush (pc := 41) (v := (nI 10)) C0 dX8_remember_41 (by decide) ?_
  refine J_irem (pc := 43) C0 dX8_remember_43 (by decide) ?_
  refine J_put (pc := 44) (σ' := (rsu σ_34 9 1 (((σ_34.1 9 1) + 1) - ((σ_34.1 9 1) + 1) / (nI 10) * (nI 10)))) (v := .int (((σ_34.1 9 1) + 1) - ((σ_34.1 9 1) + 1) / (nI 10) * (nI 10))) (ty := .int) C0 tyX8_ok nmX8 0 wR_o rfl in_X8 2 (by decide) q417 rfl (by decide +kernel) rfl rfl (Nat.le_of_ble_eq_true rfl) wR_p1 dX8_remember_44 ?_
  refine J_aload_n (pc := 47) C0 0 dX8_remember_47 rfl rfl ?_
  refine J_dup (pc := 48) C0 dX8_remember_48 rfl ?_
  refine J_get (pc := 49) (v := .int (σ_34.1 9 0)) C0 0 wR_o rfl in_X8 1 (by decide) q418 rfl dX8_remember_49 ?_
  refine J_aload_n (pc := 52) C0 0 dX8_remember_52 rfl rfl ?_
  refine J_get (pc := 53) (v := .int (σ_34.1 9 0)) C0 0 wR_o rfl in_X8 1 (by decide) q418 rfl dX8_remember_53 ?_
  refine J_bipush (pc := 56) (v := (nI 10)) C0 dX8_remember_56 (by decide) ?_
  refine J_icmp_ge (pc := 58) (tgt := 65) C0 dX8_remember_58 (by decide) (fun h_58 => ?_) (fun h_58 => ?_)
  · refine J_iconst (pc := 65) (v := 0) C0 dX8_remember_65 (by decide) ?_
    refine J_iadd (pc := 66) C0 dX8_remember_66 ?_
    refine J_put (pc := 67) (σ' := (rsu (rsu σ_34 9 1 (((σ_34.1 9 1) + 1) - ((σ_34.1 9 1) + 1) / (nI 10) * (nI 10))) 9 0 ((σ_34.1 9 0) + 0))) (v := .int ((σ_34.1 9 0) + 0)) (ty := .int) C0 tyX8_ok nmX8 0 wR_o rfl in_X8 1 (by decide) q418 rfl (by decide +kernel) rfl rfl (Nat.le_of_ble_eq_true rfl) wR_p0 dX8_remember_67 ?_
    exact J_vret C0 dX8_remember_70
  · refine J_iconst (pc := 61) (v := 1) C0 dX8_remember_61 (by decide) ?_
    refine J_goto (pc := 62) (tgt := 66) C0 dX8_remember_62 (by decide) ?_
    refine J_iadd (pc := 66) C0 dX8_remember_66 ?_
    refine J_put (pc := 67) (σ' := (rsu (rsu σ_34 9 1 (((σ_34.1 9 1) + 1) - ((σ_34.1 9 1) + 1) / (nI 10) * (nI 10))) 9 0 ((σ_34.1 9 0) + 1))) (v := .int ((σ_34.1 9 0) + 1)) (ty := .int) C0 tyX8_ok nmX8 0 wR_o rfl in_X8 1 (by decide) q418 rfl (by decide +kernel) rfl rfl (Nat.le_of_ble_eq_true rfl) wR_p0 dX8_remember_67 ?_
    exact J_vret C0 dX8_remember_70
end SE

def f_X8_undo_L38 : Nat → SR → Int32 → Option (Int32 × SR)
  | 0, _, _ => none
  | n + 1, σ, x1 =>
  (if (nI 33) ≤ x1 then (some ((σ.1 9 0), σ)) else (if inb (((nI 33) * (σ.1 9 1)) + x1) 330 = true then (if inb x1 33 = true then (f_X8_undo_L38 n (rsu σ 0 (ix x1) (σ.1 1 (ix (((nI 33) * (σ.1 9 1)) + x1)))) (x1 + 1)) else none) else none))
theorem f_X8_undo_L38_s (n : Nat) (σ : SR) (x1 : Int32) : f_X8_undo_L38 (n + 1) σ x1 = ((if (nI 33) ≤ x1 then (some ((σ.1 9 0), σ)) else (if inb (((nI 33) * (σ.1 9 1)) + x1) 330 = true then (if inb x1 33 = true then (f_X8_undo_L38 n (rsu σ 0 (ix x1) (σ.1 1 (ix (((nI 33) * (σ.1 9 1)) + x1)))) (x1 + 1)) else none) else none))) := rfl
def f_X8_undo (σ : SR)  : Option (Int32 × SR) :=
  (if (σ.1 9 0) = 0 then (some ((-1000000003), σ)) else (f_X8_undo_L38 FU (rsu (rsu σ 9 1 ((((σ.1 9 1) + (nI 10)) - 1) - (((σ.1 9 1) + (nI 10)) - 1) / (nI 10) * (nI 10))) 9 0 ((σ.1 9 0) - 1)) 0))
section SE
variable {p : Program} {l : Launch} {e : Env} {s : State} {m : MethodId} {args : Array Value} {below : List Frame} {meth : Method} {c : Code} {D : va_G} {cI cZ : ClassId} {A : Nat → Prop} {ad : Nat → Nat}
set_option maxRecDepth 100000 in
set_option maxHeartbeats 4000000 in
theorem j_X8_undo_L38 (C0 : Cx D (tyA cI cZ) RX8 cX8_undo 2 (some .int) p s m args meth c) : ∀ (n : Nat) (σ : SR) (x1 : Int32), J p l e (Rm 1) s m args below meth c D A (wR ad cI cZ) 2 (QI D A (wR ad cI cZ)) (f_X8_undo_L38 n σ x1) σ [(0, .ref (ad 0)), (1, .int x1)] [] 38 := by
  intro n
  induction n with
  | zero => intros; exact J_none
  | succ n ih =>
    intro σ x1
    refine J_eq (f_X8_undo_L38_s  n σ x1) ?_
    refine J_iload_n (pc := 38) C0 1 dX8_undo_38 rfl rfl ?_
    refine J_bipush (pc := 39) (v := (nI 33)) C0 dX8_undo_39 (by decide) ?_
    refine J_icmp_ge (pc := 41) (tgt := 70) C0 dX8_undo_41 (by decide) (fun h_41 => ?_) (fun h_41 => ?_)
    · refine J_aload_n (pc := 70) C0 0 dX8_undo_70 rfl rfl ?_
      refine J_get (pc := 71) (v := .int (σ.1 9 0)) C0 0 wR_o rfl in_X8 1 (by decide) q418 rfl dX8_undo_71 ?_
      exact J_iret C0 dX8_undo_74
    · refine J_aload_n (pc := 44) C0 0 dX8_undo_44 rfl rfl ?_
      refine J_get (pc := 45) (v := .ref (ad 1)) C0 0 wR_o rfl in_X8 0 (by decide) q411 rfl dX8_undo_45 ?_
      refine J_iload_n (pc := 48) C0 1 dX8_undo_48 rfl rfl ?_
      refine J_aload_n (pc := 49) C0 0 dX8_undo_49 rfl rfl ?_
      refine J_get (pc := 50) (v := .ref (ad 2)) C0 0 wR_o rfl in_X8 3 (by decide) q416 rfl dX8_undo_50 ?_
      refine J_bipush (pc := 53) (v := (nI 33)) C0 dX8_undo_53 (by decide) ?_
      refine J_aload_n (pc := 55) C0 0 dX8_undo_55 rfl rfl ?_
      refine J_get (pc := 56) (v := .int (σ.1 9 1)) C0 0 wR_o rfl in_X8 2 (by decide) q417 rfl dX8_undo_56 ?_
      refine J_imul (pc := 59) C0 dX8_undo_59 ?_
      refine J_iload_n (pc := 60) C0 1 dX8_undo_60 rfl rfl ?_
      refine J_iadd (pc := 61) C0 dX8_undo_61 ?_
      refine J_iald (pc := 62) C0 2 0 wR_a2 rfl dX8_undo_62 (fun h_62 => ?_)
      refine J_iast (pc := 63) (σ' := (rsu σ 0 (ix x1) (σ.1 1 (ix (((nI 33) * (σ.1 9 1)) + x1))))) C0 1 0 wR_a1 rfl wR_s1 dX8_undo_63 (fun h_63 => ?_)
      refine J_iinc (pc := 64) (d := 1) (lv' := [(1, .int (x1 + 1)), (0, .ref (ad 0))]) C0 1 dX8_undo_64 rfl (by decide) (by decide) rfl ?_
      refine J_goto (pc := 67) (tgt := 38) C0 dX8_undo_67 (by decide) ?_
      refine J_sub (lv' := [(0, .ref (ad 0)), (1, .int (x1 + 1))]) [1, 0] rfl ?_
      exact ih (rsu σ 0 (ix x1) (σ.1 1 (ix (((nI 33) * (σ.1 9 1)) + x1)))) (x1 + 1)
set_option maxRecDepth 100000 in
set_option maxHeartbeats 4000000 in
theorem c_X8_undo {l : Launch} {D : va_G} {cI cZ : ClassId} {A : Nat → Prop} {ad : Nat → Nat} (σ : SR)   (r : (Int32 × SR)) (h : f_X8_undo σ = some r) : Met l yX8_undo (.code yX8_undo cX8_undo 2 (some .int) :: wG) (Rm 1) (PreW D (tyA cI cZ) A (wR ad cI cZ) [.ref (ad 0)] σ) (QI D A (wR ad cI cZ) r) 0 0 A := by
  refine met_of (M := f_X8_undo σ) (Qc := (QI D A (wR ad cI cZ))) (by decide) (Nat.le_of_ble_eq_true rfl) h (fun p e s m below meth c C0 => ?_)
  generalize hargs : ([.ref (ad 0)] : List Value).toArray = args at C0 ⊢
  have C0 : Cx D (tyA cI cZ) RX8 cX8_undo 2 (some .int) p s m args meth c := C0
  refine J_sub (lv' := [(0, .ref (ad 0))]) [0] rfl ?_
  unfold f_X8_undo
  refine J_aload_n (pc := 0) C0 0 dX8_undo_0 rfl rfl ?_
  refine J_get (pc := 1) (v := .int (σ.1 9 0)) C0 0 wR_o rfl in_X8 1 (by decide) q418 rfl dX8_undo_1 ?_
  refine J_if_ne (pc := 4) (tgt := 10) C0 dX8_undo_4 (by decide) (fun h_4 => ?_) (fun h_4 => ?_)
  · refine J_aload_n (pc := 10) C0 0 dX8_undo_10 rfl rfl ?_
    refine J_aload_n (pc := 11) C0 0 dX8_undo_11 rfl rfl ?_
    refine J_get (pc := 12) (v := .int (σ.1 9 1)) C0 0 wR_o rfl in_X8 2 (by decide) q417 rfl dX8_undo_12 ?_
    refine J_bipush (pc := 15) (v := (nI 10)) C0 dX8_undo_15 (by decide) ?_
    refine J_iadd (pc := 17) C0 dX8_undo_17 ?_
    refine J_iconst (pc := 18) (v := 1) C0 dX8_undo_18 (by decide) ?_
    refine J_isub (pc := 19) C0 dX8_undo_19 ?_
    refine J_bipush (pc := 20) (v := (nI 10)) C0 dX8_undo_20 (by decide) ?_
    refine J_irem (pc := 22) C0 dX8_undo_22 (by decide) ?_
    refine J_put (pc := 23) (σ' := (rsu σ 9 1 ((((σ.1 9 1) + (nI 10)) - 1) - (((σ.1 9 1) + (nI 10)) - 1) / (nI 10) * (nI 10)))) (v := .int ((((σ.1 9 1) + (nI 10)) - 1) - (((σ.1 9 1) + (nI 10)) - 1) / (nI 10) * (nI 10))) (ty := .int) C0 tyX8_ok nmX8 0 wR_o rfl in_X8 2 (by decide) q417 rfl (by decide +kernel) rfl rfl (Nat.le_of_ble_eq_true rfl) wR_p1 dX8_undo_23 ?_
    refine J_aload_n (pc := 26) C0 0 dX8_undo_26 rfl rfl ?_
    refine J_dup (pc := 27) C0 dX8_undo_27 rfl ?_
    refine J_get (pc := 28) (v := .int (σ.1 9 0)) C0 0 wR_o rfl in_X8 1 (by decide) q418 rfl dX8_undo_28 ?_
    refine J_iconst (pc := 31) (v := 1) C0 dX8_undo_31 (by decide) ?_
    refine J_isub (pc := 32) C0 dX8_undo_32 ?_
    refine J_put (pc := 33) (σ' := (rsu (rsu σ 9 1 ((((σ.1 9 1) + (nI 10)) - 1) - (((σ.1 9 1) + (nI 10)) - 1) / (nI 10) * (nI 10))) 9 0 ((σ.1 9 0) - 1))) (v := .int ((σ.1 9 0) - 1)) (ty := .int) C0 tyX8_ok nmX8 0 wR_o rfl in_X8 1 (by decide) q418 rfl (by decide +kernel) rfl rfl (Nat.le_of_ble_eq_true rfl) wR_p0 dX8_undo_33 ?_
    refine J_iconst (pc := 36) (v := 0) C0 dX8_undo_36 (by decide) ?_
    refine J_istore_n (pc := 37) (lv' := [(1, .int 0), (0, .ref (ad 0))]) C0 dX8_undo_37 rfl (by decide) rfl ?_
    refine J_sub (lv' := [(0, .ref (ad 0)), (1, .int 0)]) [1, 0] rfl ?_
    exact j_X8_undo_L38 C0 FU (rsu (rsu σ 9 1 ((((σ.1 9 1) + (nI 10)) - 1) - (((σ.1 9 1) + (nI 10)) - 1) / (nI 10) * (nI 10))) 9 0 ((σ.1 9 0) - 1)) 0
  · refine J_ldc (pc := 7) C0 q419 dX8_undo_7 ?_
    exact J_iret C0 dX8_undo_9
end SE

def f_X8_findCode_L2 (σ : SR) (x1 : Int32) : Nat → Int32 → Option Int32
  | 0, _ => none
  | n + 1, x2 =>
  (if inb (nI 16) 33 = true then (if (σ.1 0 (ix (nI 16))) ≤ x2 then (some (-1)) else ((f_X8_codeAt σ x2).bind fun r15 => (if r15 = x1 then (some x2) else (f_X8_findCode_L2 σ x1 n (x2 + 1))))) else none)
theorem f_X8_findCode_L2_s (σ : SR) (x1 : Int32) (n : Nat) (x2 : Int32) : f_X8_findCode_L2 σ x1 (n + 1) x2 = ((if inb (nI 16) 33 = true then (if (σ.1 0 (ix (nI 16))) ≤ x2 then (some (-1)) else ((f_X8_codeAt σ x2).bind fun r15 => (if r15 = x1 then (some x2) else (f_X8_findCode_L2 σ x1 n (x2 + 1))))) else none)) := rfl
def f_X8_findCode (σ : SR) (x1 : Int32) : Option Int32 :=
  (f_X8_findCode_L2 σ x1 FU 0)
section SE
variable {p : Program} {l : Launch} {e : Env} {s : State} {m : MethodId} {args : Array Value} {below : List Frame} {meth : Method} {c : Code} {D : va_G} {cI cZ : ClassId} {A : Nat → Prop} {ad : Nat → Nat}
set_option maxRecDepth 100000 in
set_option maxHeartbeats 4000000 in
theorem j_X8_findCode_L2 (C0 : Cx D (tyA cI cZ) RX8 cX8_findCode 3 (some .int) p s m args meth c) (σ : SR) (x1 : Int32) : ∀ (n : Nat) (x2 : Int32), J p l e (Rm 2) s m args below meth c D A (wR ad cI cZ) 3 (fun r => QI D A (wR ad cI cZ) (r, σ)) (f_X8_findCode_L2 σ x1 n x2) σ [(0, .ref (ad 0)), (1, .int x1), (2, .int x2)] [] 2 := by
  intro n
  induction n with
  | zero => intros; exact J_none
  | succ n ih =>
    intro x2
    refine J_eq (f_X8_findCode_L2_s σ x1 n x2) ?_
    refine J_iload_n (pc := 2) C0 2 dX8_findCode_2 rfl rfl ?_
    refine J_aload_n (pc := 3) C0 0 dX8_findCode_3 rfl rfl ?_
    refine J_get (pc := 4) (v := .ref (ad 1)) C0 0 wR_o rfl in_X8 0 (by decide) q411 rfl dX8_findCode_4 ?_
    refine J_bipush (pc := 7) (v := (nI 16)) C0 dX8_findCode_7 (by decide) ?_
    refine J_iald (pc := 9) C0 1 0 wR_a1 rfl dX8_findCode_9 (fun h_9 => ?_)
    refine J_icmp_ge (pc := 10) (tgt := 30) C0 dX8_findCode_10 (by decide) (fun h_10 => ?_) (fun h_10 => ?_)
    · refine J_iconst (pc := 30) (v := (-1)) C0 dX8_findCode_30 (by decide) ?_
      exact J_iretP C0 dX8_findCode_31
    · refine J_aload_n (pc := 13) C0 0 dX8_findCode_13 rfl rfl ?_
      refine J_iload_n (pc := 14) C0 2 dX8_findCode_14 rfl rfl ?_
      refine fin_P (fun r_ h_ => run_V (As := [.int x2]) (rest := []) (q0 := 0) C0 (c_X8_codeAt σ x2  r_ h_) v_X8_codeAt q420 wR_o rfl rfl ⟨rfl, rfl⟩ (Rm_ok (by decide) (by decide)) rfl (Nat.le_of_ble_eq_true rfl) dX8_findCode_15) (fun r15 e15 => ?_)
      refine J_iload_n (pc := 18) C0 1 dX8_findCode_18 rfl rfl ?_
      refine J_icmp_ne (pc := 19) (tgt := 24) C0 dX8_findCode_19 (by decide) (fun h_19 => ?_) (fun h_19 => ?_)
      · refine J_iinc (pc := 24) (d := 1) (lv' := [(2, .int (x2 + 1)), (0, .ref (ad 0)), (1, .int x1)]) C0 2 dX8_findCode_24 rfl (by decide) (by decide) rfl ?_
        refine J_goto (pc := 27) (tgt := 2) C0 dX8_findCode_27 (by decide) ?_
        refine J_sub (lv' := [(0, .ref (ad 0)), (1, .int x1), (2, .int (x2 + 1))]) [1, 2, 0] rfl ?_
        exact ih (x2 + 1)
      · refine J_iload_n (pc := 22) C0 2 dX8_findCode_22 rfl rfl ?_
        exact J_iretP C0 dX8_findCode_23
set_option maxRecDepth 100000 in
set_option maxHeartbeats 4000000 in
theorem c_X8_findCode {l : Launch} {D : va_G} {cI cZ : ClassId} {A : Nat → Prop} {ad : Nat → Nat} (σ : SR) (x1 : Int32)  (r : Int32) (h : f_X8_findCode σ x1 = some r) : Met l yX8_findCode (.code yX8_findCode cX8_findCode 3 (some .int) :: wG) (Rm 2) (PreW D (tyA cI cZ) A (wR ad cI cZ) [.ref (ad 0), .int x1] σ) (QI D A (wR ad cI cZ) (r, σ)) 0 0 A := by
  refine met_of (M := f_X8_findCode σ x1) (Qc := (fun r => QI D A (wR ad cI cZ) (r, σ))) (by decide) (Nat.le_of_ble_eq_true rfl) h (fun p e s m below meth c C0 => ?_)
  generalize hargs : ([.ref (ad 0), .int x1] : List Value).toArray = args at C0 ⊢
  have C0 : Cx D (tyA cI cZ) RX8 cX8_findCode 3 (some .int) p s m args meth c := C0
  refine J_sub (lv' := [(0, .ref (ad 0)), (1, .int x1)]) [0, 1] rfl ?_
  unfold f_X8_findCode
  refine J_iconst (pc := 0) (v := 0) C0 dX8_findCode_0 (by decide) ?_
  refine J_istore_n (pc := 1) (lv' := [(2, .int 0), (0, .ref (ad 0)), (1, .int x1)]) C0 dX8_findCode_1 rfl (by decide) rfl ?_
  refine J_sub (lv' := [(0, .ref (ad 0)), (1, .int x1), (2, .int 0)]) [1, 2, 0] rfl ?_
  exact j_X8_findCode_L2 C0 σ x1 FU 0
end SE

def f_X8_goBack_L26 (x1 : Int32) : Nat → SR → Int32 → Option (Int32 × SR)
  | 0, _, _ => none
  | n + 1, σ, x2 =>
  (if (nI 33) ≤ x2 then (if inb (nI 16) 33 = true then (some (((rsu σ 9 0 0).1 0 (ix (nI 16))), (rsu σ 9 0 0))) else none) else (if inb (((nI 33) * x1) + x2) 66 = true then (if inb x2 33 = true then (f_X8_goBack_L26 x1 n (rsu σ 0 (ix x2) (σ.1 3 (ix (((nI 33) * x1) + x2)))) (x2 + 1)) else none) else none))
theorem f_X8_goBack_L26_s (x1 : Int32) (n : Nat) (σ : SR) (x2 : Int32) : f_X8_goBack_L26 x1 (n + 1) σ x2 = ((if (nI 33) ≤ x2 then (if inb (nI 16) 33 = true then (some (((rsu σ 9 0 0).1 0 (ix (nI 16))), (rsu σ 9 0 0))) else none) else (if inb (((nI 33) * x1) + x2) 66 = true then (if inb x2 33 = true then (f_X8_goBack_L26 x1 n (rsu σ 0 (ix x2) (σ.1 3 (ix (((nI 33) * x1) + x2)))) (x2 + 1)) else none) else none))) := rfl
def f_X8_goBack (σ : SR) (x1 : Int32) : Option (Int32 × SR) :=
  ((f_X8_in x1 0 1).bind fun r3 => (if r3 = 0 then (some ((-1000000001), σ)) else (if inb x1 2 = true then (if (σ.1 2 (ix x1)) = 0 then (some ((-1000000003), σ)) else (f_X8_goBack_L26 x1 FU σ 0)) else none)))
section SE
variable {p : Program} {l : Launch} {e : Env} {s : State} {m : MethodId} {args : Array Value} {below : List Frame} {meth : Method} {c : Code} {D : va_G} {cI cZ : ClassId} {A : Nat → Prop} {ad : Nat → Nat}
set_option maxRecDepth 100000 in
set_option maxHeartbeats 4000000 in
theorem j_X8_goBack_L26 (C0 : Cx D (tyA cI cZ) RX8 cX8_goBack 3 (some .int) p s m args meth c) (x1 : Int32) : ∀ (n : Nat) (σ : SR) (x2 : Int32), J p l e (Rm 2) s m args below meth c D A (wR ad cI cZ) 3 (QI D A (wR ad cI cZ)) (f_X8_goBack_L26 x1 n σ x2) σ [(0, .ref (ad 0)), (1, .int x1), (2, .int x2)] [] 26 := by
  intro n
  induction n with
  | zero => intros; exact J_none
  | succ n ih =>
    intro σ x2
    refine J_eq (f_X8_goBack_L26_s x1 n σ x2) ?_
    refine J_iload_n (pc := 26) C0 2 dX8_goBack_26 rfl rfl ?_
    refine J_bipush (pc := 27) (v := (nI 33)) C0 dX8_goBack_27 (by decide) ?_
    refine J_icmp_ge (pc := 29) (tgt := 55) C0 dX8_goBack_29 (by decide) (fun h_29 => ?_) (fun h_29 => ?_)
    · refine J_aload_n (pc := 55) C0 0 dX8_goBack_55 rfl rfl ?_
      refine J_iconst (pc := 56) (v := 0) C0 dX8_goBack_56 (by decide) ?_
      refine J_put (pc := 57) (σ' := (rsu σ 9 0 0)) (v := .int 0) (ty := .int) C0 tyX8_ok nmX8 0 wR_o rfl in_X8 1 (by decide) q418 rfl (by decide +kernel) rfl rfl (Nat.le_of_ble_eq_true rfl) wR_p0 dX8_goBack_57 ?_
      refine J_aload_n (pc := 60) C0 0 dX8_goBack_60 rfl rfl ?_
      refine J_get (pc := 61) (v := .ref (ad 1)) C0 0 wR_o rfl in_X8 0 (by decide) q411 rfl dX8_goBack_61 ?_
      refine J_bipush (pc := 64) (v := (nI 16)) C0 dX8_goBack_64 (by decide) ?_
      refine J_iald (pc := 66) C0 1 0 wR_a1 rfl dX8_goBack_66 (fun h_66 => ?_)
      exact J_iret C0 dX8_goBack_67
    · refine J_aload_n (pc := 32) C0 0 dX8_goBack_32 rfl rfl ?_
      refine J_get (pc := 33) (v := .ref (ad 1)) C0 0 wR_o rfl in_X8 0 (by decide) q411 rfl dX8_goBack_33 ?_
      refine J_iload_n (pc := 36) C0 2 dX8_goBack_36 rfl rfl ?_
      refine J_aload_n (pc := 37) C0 0 dX8_goBack_37 rfl rfl ?_
      refine J_get (pc := 38) (v := .ref (ad 4)) C0 0 wR_o rfl in_X8 5 (by decide) q429 rfl dX8_goBack_38 ?_
      refine J_bipush (pc := 41) (v := (nI 33)) C0 dX8_goBack_41 (by decide) ?_
      refine J_iload_n (pc := 43) C0 1 dX8_goBack_43 rfl rfl ?_
      refine J_imul (pc := 44) C0 dX8_goBack_44 ?_
      refine J_iload_n (pc := 45) C0 2 dX8_goBack_45 rfl rfl ?_
      refine J_iadd (pc := 46) C0 dX8_goBack_46 ?_
      refine J_iald (pc := 47) C0 4 0 wR_a4 rfl dX8_goBack_47 (fun h_47 => ?_)
      refine J_iast (pc := 48) (σ' := (rsu σ 0 (ix x2) (σ.1 3 (ix (((nI 33) * x1) + x2))))) C0 1 0 wR_a1 rfl wR_s1 dX8_goBack_48 (fun h_48 => ?_)
      refine J_iinc (pc := 49) (d := 1) (lv' := [(2, .int (x2 + 1)), (0, .ref (ad 0)), (1, .int x1)]) C0 2 dX8_goBack_49 rfl (by decide) (by decide) rfl ?_
      refine J_goto (pc := 52) (tgt := 26) C0 dX8_goBack_52 (by decide) ?_
      refine J_sub (lv' := [(0, .ref (ad 0)), (1, .int x1), (2, .int (x2 + 1))]) [1, 2, 0] rfl ?_
      exact ih (rsu σ 0 (ix x2) (σ.1 3 (ix (((nI 33) * x1) + x2)))) (x2 + 1)
set_option maxRecDepth 100000 in
set_option maxHeartbeats 4000000 in
theorem c_X8_goBack {l : Launch} {D : va_G} {cI cZ : ClassId} {A : Nat → Prop} {ad : Nat → Nat} (σ : SR) (x1 : Int32)  (r : (Int32 × SR)) (h : f_X8_goBack σ x1 = some r) : Met l yX8_goBack (.code yX8_goBack cX8_goBack 3 (some .int) :: wG) (Rm 2) (PreW D (tyA cI cZ) A (wR ad cI cZ) [.ref (ad 0), .int x1] σ) (QI D A (wR ad cI cZ) r) 0 0 A := by
  refine met_of (M := f_X8_goBack σ x1) (Qc := (QI D A (wR ad cI cZ))) (by decide) (Nat.le_of_ble_eq_true rfl) h (fun p e s m below meth c C0 => ?_)
  generalize hargs : ([.ref (ad 0), .int x1] : List Value).toArray = args at C0 ⊢
  have C0 : Cx D (tyA cI cZ) RX8 cX8_goBack 3 (some .int) p s m args meth c := C0
  refine J_sub (lv' := [(0, .ref (ad 0)), (1, .int x1)]) [0, 1] rfl ?_
  unfold f_X8_goBack
  refine J_iload_n (pc := 0) C0 1 dX8_goBack_0 rfl rfl ?_
  refine J_iconst (pc := 1) (v := 0) C0 dX8_goBack_1 (by decide) ?_
  refine J_iconst (pc := 2) (v := 1) C0 dX8_goBack_2 (by decide) ?_
  refine fin_P (fun r_ h_ => run_S (As := [.int x1, .int 0, .int 1]) (rest := []) C0 (c_X8_in σ x1 0 1  r_ h_) v_X8_in q425 rfl ⟨rfl, rfl⟩ (Rm_ok (by decide) (by decide)) rfl (Nat.le_of_ble_eq_true rfl) dX8_goBack_3) (fun r3 e3 => ?_)
  refine J_if_ne (pc := 6) (tgt := 12) C0 dX8_goBack_6 (by decide) (fun h_6 => ?_) (fun h_6 => ?_)
  · refine J_aload_n (pc := 12) C0 0 dX8_goBack_12 rfl rfl ?_
    refine J_get (pc := 13) (v := .ref (ad 3)) C0 0 wR_o rfl in_X8 4 (by decide) q428 rfl dX8_goBack_13 ?_
    refine J_iload_n (pc := 16) C0 1 dX8_goBack_16 rfl rfl ?_
    refine J_zald (pc := 17) C0 3 1 wR_a3 rfl dX8_goBack_17 (fun h_17 => ?_)
    refine J_if_ne (pc := 18) (tgt := 24) C0 dX8_goBack_18 (by decide) (fun h_18 => ?_) (fun h_18 => ?_)
    · refine J_iconst (pc := 24) (v := 0) C0 dX8_goBack_24 (by decide) ?_
      refine J_istore_n (pc := 25) (lv' := [(2, .int 0), (0, .ref (ad 0)), (1, .int x1)]) C0 dX8_goBack_25 rfl (by decide) rfl ?_
      refine J_sub (lv' := [(0, .ref (ad 0)), (1, .int x1), (2, .int 0)]) [1, 2, 0] rfl ?_
      exact j_X8_goBack_L26 C0 x1 FU σ 0
    · refine J_ldc (pc := 21) C0 q419 dX8_goBack_21 ?_
      exact J_iret C0 dX8_goBack_23
  · refine J_ldc (pc := 9) C0 q430 dX8_goBack_9 ?_
    exact J_iret C0 dX8_goBack_11
end SE

def f_X8_isFull_L4 (σ : SR) (x1 : Int32) : Nat → Int32 → Int32 → Option Int32
  | 0, _, _ => none
  | n + 1, x2, x3 =>
  (if inb x1 8 = true then (if (σ.1 5 (ix x1)) ≤ x3 then (if x2 = 0 ∨ x2 = 1 then some x2 else none) else (if x2 = 0 then (f_X8_isFull_L4 σ x1 n 0 (x3 + 1)) else ((f_X8_cellOf σ x1 x3).bind fun r25 => (if inb r25 33 = true then (if (σ.1 0 (ix r25)) ≤ 0 then (f_X8_isFull_L4 σ x1 n 0 (x3 + 1)) else (f_X8_isFull_L4 σ x1 n 1 (x3 + 1))) else none)))) else none)
theorem f_X8_isFull_L4_s (σ : SR) (x1 : Int32) (n : Nat) (x2 : Int32) (x3 : Int32) : f_X8_isFull_L4 σ x1 (n + 1) x2 x3 = ((if inb x1 8 = true then (if (σ.1 5 (ix x1)) ≤ x3 then (if x2 = 0 ∨ x2 = 1 then some x2 else none) else (if x2 = 0 then (f_X8_isFull_L4 σ x1 n 0 (x3 + 1)) else ((f_X8_cellOf σ x1 x3).bind fun r25 => (if inb r25 33 = true then (if (σ.1 0 (ix r25)) ≤ 0 then (f_X8_isFull_L4 σ x1 n 0 (x3 + 1)) else (f_X8_isFull_L4 σ x1 n 1 (x3 + 1))) else none)))) else none)) := rfl
def f_X8_isFull (σ : SR) (x1 : Int32) : Option Int32 :=
  (f_X8_isFull_L4 σ x1 FU 1 0)
section SE
variable {p : Program} {l : Launch} {e : Env} {s : State} {m : MethodId} {args : Array Value} {below : List Frame} {meth : Method} {c : Code} {D : va_G} {cI cZ : ClassId} {A : Nat → Prop} {ad : Nat → Nat}
set_option maxRecDepth 100000 in
set_option maxHeartbeats 4000000 in
theorem j_X8_isFull_L4 (C0 : Cx D (tyA cI cZ) RX8 cX8_isFull 4 (some .boolean) p s m args meth c) (σ : SR) (x1 : Int32) : ∀ (n : Nat) (x2 : Int32) (x3 : Int32), J p l e (Rm 2) s m args below meth c D A (wR ad cI cZ) 4 (fun r => QI D A (wR ad cI cZ) (r, σ)) (f_X8_isFull_L4 σ x1 n x2 x3) σ [(0, .ref (ad 0)), (1, .int x1), (2, .int x2), (3, .int x3)] [] 4 := by
  intro n
  induction n with
  | zero => intros; exact J_none
  | succ n ih =>
    intro x2 x3
    refine J_eq (f_X8_isFull_L4_s σ x1 n x2 x3) ?_
    refine J_iload_n (pc := 4) C0 3 dX8_isFull_4 rfl rfl ?_
    refine J_aload_n (pc := 5) C0 0 dX8_isFull_5 rfl rfl ?_
    refine J_get (pc := 6) (v := .ref (ad 6)) C0 0 wR_o rfl in_X8 8 (by decide) q412 rfl dX8_isFull_6 ?_
    refine J_iload_n (pc := 9) C0 1 dX8_isFull_9 rfl rfl ?_
    refine J_iald (pc := 10) C0 6 0 wR_a6 rfl dX8_isFull_10 (fun h_10 => ?_)
    refine J_icmp_ge (pc := 11) (tgt := 44) C0 dX8_isFull_11 (by decide) (fun h_11 => ?_) (fun h_11 => ?_)
    · refine J_iload_n (pc := 44) C0 2 dX8_isFull_44 rfl rfl ?_
      exact J_zretP C0 dX8_isFull_45
    · refine J_iload_n (pc := 14) C0 2 dX8_isFull_14 rfl rfl ?_
      refine J_if_eq (pc := 15) (tgt := 36) C0 dX8_isFull_15 (by decide) (fun h_15 => ?_) (fun h_15 => ?_)
      · refine J_iconst (pc := 36) (v := 0) C0 dX8_isFull_36 (by decide) ?_
        refine J_istore_n (pc := 37) (lv' := [(2, .int 0), (0, .ref (ad 0)), (1, .int x1), (3, .int x3)]) C0 dX8_isFull_37 rfl (by decide) rfl ?_
        refine J_iinc (pc := 38) (d := 1) (lv' := [(3, .int (x3 + 1)), (2, .int 0), (0, .ref (ad 0)), (1, .int x1)]) C0 3 dX8_isFull_38 rfl (by decide) (by decide) rfl ?_
        refine J_goto (pc := 41) (tgt := 4) C0 dX8_isFull_41 (by decide) ?_
        refine J_sub (lv' := [(0, .ref (ad 0)), (1, .int x1), (2, .int 0), (3, .int (x3 + 1))]) [2, 3, 1, 0] rfl ?_
        exact ih 0 (x3 + 1)
      · refine J_aload_n (pc := 18) C0 0 dX8_isFull_18 rfl rfl ?_
        refine J_get (pc := 19) (v := .ref (ad 1)) C0 0 wR_o rfl in_X8 0 (by decide) q411 rfl dX8_isFull_19 ?_
        refine J_aload_n (pc := 22) C0 0 dX8_isFull_22 rfl rfl ?_
        refine J_iload_n (pc := 23) C0 1 dX8_isFull_23 rfl rfl ?_
        refine J_iload_n (pc := 24) C0 3 dX8_isFull_24 rfl rfl ?_
        refine fin_P (fun r_ h_ => run_V (As := [.int x1, .int x3]) (rest := [.ref (ad 1)]) (q0 := 0) C0 (c_X8_cellOf σ x1 x3  r_ h_) v_X8_cellOf q431 wR_o rfl rfl ⟨rfl, rfl⟩ (Rm_ok (by decide) (by decide)) rfl (Nat.le_of_ble_eq_true rfl) dX8_isFull_25) (fun r25 e25 => ?_)
        refine J_iald (pc := 28) C0 1 0 wR_a1 rfl dX8_isFull_28 (fun h_28 => ?_)
        refine J_if_le (pc := 29) (tgt := 36) C0 dX8_isFull_29 (by decide) (fun h_29 => ?_) (fun h_29 => ?_)
        · refine J_iconst (pc := 36) (v := 0) C0 dX8_isFull_36 (by decide) ?_
          refine J_istore_n (pc := 37) (lv' := [(2, .int 0), (0, .ref (ad 0)), (1, .int x1), (3, .int x3)]) C0 dX8_isFull_37 rfl (by decide) rfl ?_
          refine J_iinc (pc := 38) (d := 1) (lv' := [(3, .int (x3 + 1)), (2, .int 0), (0, .ref (ad 0)), (1, .int x1)]) C0 3 dX8_isFull_38 rfl (by decide) (by decide) rfl ?_
          refine J_goto (pc := 41) (tgt := 4) C0 dX8_isFull_41 (by decide) ?_
          refine J_sub (lv' := [(0, .ref (ad 0)), (1, .int x1), (2, .int 0), (3, .int (x3 + 1))]) [2, 3, 1, 0] rfl ?_
          exact ih 0 (x3 + 1)
        · refine J_iconst (pc := 32) (v := 1) C0 dX8_isFull_32 (by decide) ?_
          refine J_goto (pc := 33) (tgt := 37) C0 dX8_isFull_33 (by decide) ?_
          refine J_istore_n (pc := 37) (lv' := [(2, .int 1), (0, .ref (ad 0)), (1, .int x1), (3, .int x3)]) C0 dX8_isFull_37 rfl (by decide) rfl ?_
          refine J_iinc (pc := 38) (d := 1) (lv' := [(3, .int (x3 + 1)), (2, .int 1), (0, .ref (ad 0)), (1, .int x1)]) C0 3 dX8_isFull_38 rfl (by decide) (by decide) rfl ?_
          refine J_goto (pc := 41) (tgt := 4) C0 dX8_isFull_41 (by decide) ?_
          refine J_sub (lv' := [(0, .ref (ad 0)), (1, .int x1), (2, .int 1), (3, .int (x3 + 1))]) [2, 3, 1, 0] rfl ?_
          exact ih 1 (x3 + 1)
set_option maxRecDepth 100000 in
set_option maxHeartbeats 4000000 in
theorem c_X8_isFull {l : Launch} {D : va_G} {cI cZ : ClassId} {A : Nat → Prop} {ad : Nat → Nat} (σ : SR) (x1 : Int32)  (r : Int32) (h : f_X8_isFull σ x1 = some r) : Met l yX8_isFull (.code yX8_isFull cX8_isFull 4 (some .boolean) :: wG) (Rm 2) (PreW D (tyA cI cZ) A (wR ad cI cZ) [.ref (ad 0), .int x1] σ) (QI D A (wR ad cI cZ) (r, σ)) 0 0 A := by
  refine met_of (M := f_X8_isFull σ x1) (Qc := (fun r => QI D A (wR ad cI cZ) (r, σ))) (by decide) (Nat.le_of_ble_eq_true rfl) h (fun p e s m below meth c C0 => ?_)
  generalize hargs : ([.ref (ad 0), .int x1] : List Value).toArray = args at C0 ⊢
  have C0 : Cx D (tyA cI cZ) RX8 cX8_isFull 4 (some .boolean) p s m args meth c := C0
  refine J_sub (lv' := [(0, .ref (ad 0)), (1, .int x1)]) [0, 1] rfl ?_
  unfold f_X8_isFull
  refine J_iconst (pc := 0) (v := 1) C0 dX8_isFull_0 (by decide) ?_
  refine J_istore_n (pc := 1) (lv' := [(2, .int 1), (0, .ref (ad 0)), (1, .int x1)]) C0 dX8_isFull_1 rfl (by decide) rfl ?_
  refine J_iconst (pc := 2) (v := 0) C0 dX8_isFull_2 (by decide) ?_
  refine J_istore_n (pc := 3) (lv' := [(3, .int 0), (2, .int 1), (0, .ref (ad 0)), (1, .int x1)]) C0 dX8_isFull_3 rfl (by decide) rfl ?_
  refine J_sub (lv' := [(0, .ref (ad 0)), (1, .int x1), (2, .int 1), (3, .int 0)]) [2, 3, 1, 0] rfl ?_
  exact j_X8_isFull_L4 C0 σ x1 FU 1 0
end SE

def f_X8_isWord (σ : SR) (x1 : Int32) : Option Int32 :=
  (if inb (nI 16) 33 = true then ((f_X8_in x1 0 ((σ.1 0 (ix (nI 16))) - 1)).bind fun r11 => (if r11 = 0 ∨ r11 = 1 then some r11 else none)) else none)
section SE
variable {p : Program} {l : Launch} {e : Env} {s : State} {m : MethodId} {args : Array Value} {below : List Frame} {meth : Method} {c : Code} {D : va_G} {cI cZ : ClassId} {A : Nat → Prop} {ad : Nat → Nat}
set_option maxRecDepth 100000 in
set_option maxHeartbeats 4000000 in
theorem c_X8_isWord {l : Launch} {D : va_G} {cI cZ : ClassId} {A : Nat → Prop} {ad : Nat → Nat} (σ : SR) (x1 : Int32)  (r : Int32) (h : f_X8_isWord σ x1 = some r) : Met l yX8_isWord (.code yX8_isWord cX8_isWord 2 (some .boolean) :: wG) (Rm 2) (PreW D (tyA cI cZ) A (wR ad cI cZ) [.ref (ad 0), .int x1] σ) (QI D A (wR ad cI cZ) (r, σ)) 0 0 A := by
  refine met_of (M := f_X8_isWord σ x1) (Qc := (fun r => QI D A (wR ad cI cZ) (r, σ))) (by decide) (Nat.le_of_ble_eq_true rfl) h (fun p e s m below meth c C0 => ?_)
  generalize hargs : ([.ref (ad 0), .int x1] : List Value).toArray = args at C0 ⊢
  have C0 : Cx D (tyA cI cZ) RX8 cX8_isWord 2 (some .boolean) p s m args meth c := C0
  refine J_sub (lv' := [(0, .ref (ad 0)), (1, .int x1)]) [0, 1] rfl ?_
  unfold f_X8_isWord
  refine J_iload_n (pc := 0) C0 1 dX8_isWord_0 rfl rfl ?_
  refine J_iconst (pc := 1) (v := 0) C0 dX8_isWord_1 (by decide) ?_
  refine J_aload_n (pc := 2) C0 0 dX8_isWord_2 rfl rfl ?_
  refine J_get (pc := 3) (v := .ref (ad 1)) C0 0 wR_o rfl in_X8 0 (by decide) q411 rfl dX8_isWord_3 ?_
  refine J_bipush (pc := 6) (v := (nI 16)) C0 dX8_isWord_6 (by decide) ?_
  refine J_iald (pc := 8) C0 1 0 wR_a1 rfl dX8_isWord_8 (fun h_8 => ?_)
  refine J_iconst (pc := 9) (v := 1) C0 dX8_isWord_9 (by decide) ?_
  refine J_isub (pc := 10) C0 dX8_isWord_10 ?_
  refine fin_P (fun r_ h_ => run_S (As := [.int x1, .int 0, .int ((σ.1 0 (ix (nI 16))) - 1)]) (rest := []) C0 (c_X8_in σ x1 0 ((σ.1 0 (ix (nI 16))) - 1)  r_ h_) v_X8_in q425 rfl ⟨rfl, rfl⟩ (Rm_ok (by decide) (by decide)) rfl (Nat.le_of_ble_eq_true rfl) dX8_isWord_11) (fun r11 e11 => ?_)
  exact J_zretP C0 dX8_isWord_14
end SE

def f_X8_keep_L21 (x1 : Int32) : Nat → SR → Int32 → Option (Int32 × SR)
  | 0, _, _ => none
  | n + 1, σ, x2 =>
  (if (nI 33) ≤ x2 then (if inb (nI 16) 33 = true then (some (((rsu σ 9 0 0).1 0 (ix (nI 16))), (rsu σ 9 0 0))) else none) else (if inb x2 33 = true then (if inb (((nI 33) * x1) + x2) 66 = true then (f_X8_keep_L21 x1 n (rsu σ 3 (ix (((nI 33) * x1) + x2)) (σ.1 0 (ix x2))) (x2 + 1)) else none) else none))
theorem f_X8_keep_L21_s (x1 : Int32) (n : Nat) (σ : SR) (x2 : Int32) : f_X8_keep_L21 x1 (n + 1) σ x2 = ((if (nI 33) ≤ x2 then (if inb (nI 16) 33 = true then (some (((rsu σ 9 0 0).1 0 (ix (nI 16))), (rsu σ 9 0 0))) else none) else (if inb x2 33 = true then (if inb (((nI 33) * x1) + x2) 66 = true then (f_X8_keep_L21 x1 n (rsu σ 3 (ix (((nI 33) * x1) + x2)) (σ.1 0 (ix x2))) (x2 + 1)) else none) else none))) := rfl
def f_X8_keep (σ : SR) (x1 : Int32) : Option (Int32 × SR) :=
  ((f_X8_in x1 0 1).bind fun r3 => (if r3 = 0 then (some ((-1000000001), σ)) else (if inb x1 2 = true then (f_X8_keep_L21 x1 FU (rsu σ 2 (ix x1) (vp_nar .boolean 1)) 0) else none)))
section SE
variable {p : Program} {l : Launch} {e : Env} {s : State} {m : MethodId} {args : Array Value} {below : List Frame} {meth : Method} {c : Code} {D : va_G} {cI cZ : ClassId} {A : Nat → Prop} {ad : Nat → Nat}
set_option maxRecDepth 100000 in
set_option maxHeartbeats 4000000 in
theorem j_X8_keep_L21 (C0 : Cx D (tyA cI cZ) RX8 cX8_keep 3 (some .int) p s m args meth c) (x1 : Int32) : ∀ (n : Nat) (σ : SR) (x2 : Int32), J p l e (Rm 2) s m args below meth c D A (wR ad cI cZ) 3 (QI D A (wR ad cI cZ)) (f_X8_keep_L21 x1 n σ x2) σ [(0, .ref (ad 0)), (1, .int x1), (2, .int x2)] [] 21 := by
  intro n
  induction n with
  | zero => intros; exact J_none
  | succ n ih =>
    intro σ x2
    refine J_eq (f_X8_keep_L21_s x1 n σ x2) ?_
    refine J_iload_n (pc := 21) C0 2 dX8_keep_21 rfl rfl ?_
    refine J_bipush (pc := 22) (v := (nI 33)) C0 dX8_keep_22 (by decide) ?_
    refine J_icmp_ge (pc := 24) (tgt := 50) C0 dX8_keep_24 (by decide) (fun h_24 => ?_) (fun h_24 => ?_)
    · refine J_aload_n (pc := 50) C0 0 dX8_keep_50 rfl rfl ?_
      refine J_iconst (pc := 51) (v := 0) C0 dX8_keep_51 (by decide) ?_
      refine J_put (pc := 52) (σ' := (rsu σ 9 0 0)) (v := .int 0) (ty := .int) C0 tyX8_ok nmX8 0 wR_o rfl in_X8 1 (by decide) q418 rfl (by decide +kernel) rfl rfl (Nat.le_of_ble_eq_true rfl) wR_p0 dX8_keep_52 ?_
      refine J_aload_n (pc := 55) C0 0 dX8_keep_55 rfl rfl ?_
      refine J_get (pc := 56) (v := .ref (ad 1)) C0 0 wR_o rfl in_X8 0 (by decide) q411 rfl dX8_keep_56 ?_
      refine J_bipush (pc := 59) (v := (nI 16)) C0 dX8_keep_59 (by decide) ?_
      refine J_iald (pc := 61) C0 1 0 wR_a1 rfl dX8_keep_61 (fun h_61 => ?_)
      exact J_iret C0 dX8_keep_62
    · refine J_aload_n (pc := 27) C0 0 dX8_keep_27 rfl rfl ?_
      refine J_get (pc := 28) (v := .ref (ad 4)) C0 0 wR_o rfl in_X8 5 (by decide) q429 rfl dX8_keep_28 ?_
      refine J_bipush (pc := 31) (v := (nI 33)) C0 dX8_keep_31 (by decide) ?_
      refine J_iload_n (pc := 33) C0 1 dX8_keep_33 rfl rfl ?_
      refine J_imul (pc := 34) C0 dX8_keep_34 ?_
      refine J_iload_n (pc := 35) C0 2 dX8_keep_35 rfl rfl ?_
      refine J_iadd (pc := 36) C0 dX8_keep_36 ?_
      refine J_aload_n (pc := 37) C0 0 dX8_keep_37 rfl rfl ?_
      refine J_get (pc := 38) (v := .ref (ad 1)) C0 0 wR_o rfl in_X8 0 (by decide) q411 rfl dX8_keep_38 ?_
      refine J_iload_n (pc := 41) C0 2 dX8_keep_41 rfl rfl ?_
      refine J_iald (pc := 42) C0 1 0 wR_a1 rfl dX8_keep_42 (fun h_42 => ?_)
      refine J_iast (pc := 43) (σ' := (rsu σ 3 (ix (((nI 33) * x1) + x2)) (σ.1 0 (ix x2)))) C0 4 0 wR_a4 rfl wR_s4 dX8_keep_43 (fun h_43 => ?_)
      refine J_iinc (pc := 44) (d := 1) (lv' := [(2, .int (x2 + 1)), (0, .ref (ad 0)), (1, .int x1)]) C0 2 dX8_keep_44 rfl (by decide) (by decide) rfl ?_
      refine J_goto (pc := 47) (tgt := 21) C0 dX8_keep_47 (by decide) ?_
      refine J_sub (lv' := [(0, .ref (ad 0)), (1, .int x1), (2, .int (x2 + 1))]) [1, 2, 0] rfl ?_
      exact ih (rsu σ 3 (ix (((nI 33) * x1) + x2)) (σ.1 0 (ix x2))) (x2 + 1)
set_option maxRecDepth 100000 in
set_option maxHeartbeats 4000000 in
theorem c_X8_keep {l : Launch} {D : va_G} {cI cZ : ClassId} {A : Nat → Prop} {ad : Nat → Nat} (σ : SR) (x1 : Int32)  (r : (Int32 × SR)) (h : f_X8_keep σ x1 = some r) : Met l yX8_keep (.code yX8_keep cX8_keep 3 (some .int) :: wG) (Rm 2) (PreW D (tyA cI cZ) A (wR ad cI cZ) [.ref (ad 0), .int x1] σ) (QI D A (wR ad cI cZ) r) 0 0 A := by
  refine met_of (M := f_X8_keep σ x1) (Qc := (QI D A (wR ad cI cZ))) (by decide) (Nat.le_of_ble_eq_true rfl) h (fun p e s m below meth c C0 => ?_)
  generalize hargs : ([.ref (ad 0), .int x1] : List Value).toArray = args at C0 ⊢
  have C0 : Cx D (tyA cI cZ) RX8 cX8_keep 3 (some .int) p s m args meth c := C0
  refine J_sub (lv' := [(0, .ref (ad 0)), (1, .int x1)]) [0, 1] rfl ?_
  unfold f_X8_keep
  refine J_iload_n (pc := 0) C0 1 dX8_keep_0 rfl rfl ?_
  refine J_iconst (pc := 1) (v := 0) C0 dX8_keep_1 (by decide) ?_
  refine J_iconst (pc := 2) (v := 1) C0 dX8_keep_2 (by decide) ?_
  refine fin_P (fun r_ h_ => run_S (As := [.int x1, .int 0, .int 1]) (rest := []) C0 (c_X8_in σ x1 0 1  r_ h_) v_X8_in q425 rfl ⟨rfl, rfl⟩ (Rm_ok (by decide) (by decide)) rfl (Nat.le_of_ble_eq_true rfl) dX8_keep_3) (fun r3 e3 => ?_)
  refine J_if_ne (pc := 6) (tgt := 12) C0 dX8_keep_6 (by decide) (fun h_6 => ?_) (fun h_6 => ?_)
  · refine J_aload_n (pc := 12) C0 0 dX8_keep_12 rfl rfl ?_
    refine J_get (pc := 13) (v := .ref (ad 3)) C0 0 wR_o rfl in_X8 4 (by decide) q428 rfl dX8_keep_13 ?_
    refine J_iload_n (pc := 16) C0 1 dX8_keep_16 rfl rfl ?_
    refine J_iconst (pc := 17) (v := 1) C0 dX8_keep_17 (by decide) ?_
    refine J_zast (pc := 18) (σ' := (rsu σ 2 (ix x1) (vp_nar .boolean 1))) C0 3 1 wR_a3 rfl wR_s3 dX8_keep_18 (fun h_18 => ?_)
    refine J_iconst (pc := 19) (v := 0) C0 dX8_keep_19 (by decide) ?_
    refine J_istore_n (pc := 20) (lv' := [(2, .int 0), (0, .ref (ad 0)), (1, .int x1)]) C0 dX8_keep_20 rfl (by decide) rfl ?_
    refine J_sub (lv' := [(0, .ref (ad 0)), (1, .int x1), (2, .int 0)]) [1, 2, 0] rfl ?_
    exact j_X8_keep_L21 C0 x1 FU (rsu σ 2 (ix x1) (vp_nar .boolean 1)) 0
  · refine J_ldc (pc := 9) C0 q430 dX8_keep_9 ?_
    exact J_iret C0 dX8_keep_11
end SE

def f_X8_laySlots_L7 (kx26 : SR → Option SR) : Nat → SR → Int32 → Option SR
  | 0, _, _ => none
  | n + 1, σ, x1 =>
  (if (nI 4) ≤ x1 then (kx26 σ) else ((f_X8_layLine σ ((nI 4) * x1) 1).bind fun σ17 => (f_X8_laySlots_L7 kx26 n σ17 (x1 + 1))))
theorem f_X8_laySlots_L7_s (kx26 : SR → Option SR) (n : Nat) (σ : SR) (x1 : Int32) : f_X8_laySlots_L7 kx26 (n + 1) σ x1 = ((if (nI 4) ≤ x1 then (kx26 σ) else ((f_X8_layLine σ ((nI 4) * x1) 1).bind fun σ17 => (f_X8_laySlots_L7 kx26 n σ17 (x1 + 1))))) := rfl
def f_X8_laySlots_L28 : Nat → SR → Int32 → Option SR
  | 0, _, _ => none
  | n + 1, σ, x1 =>
  (if (nI 4) ≤ x1 then (some σ) else ((f_X8_layLine σ x1 (nI 4)).bind fun σ36 => (f_X8_laySlots_L28 n σ36 (x1 + 1))))
theorem f_X8_laySlots_L28_s (n : Nat) (σ : SR) (x1 : Int32) : f_X8_laySlots_L28 (n + 1) σ x1 = ((if (nI 4) ≤ x1 then (some σ) else ((f_X8_layLine σ x1 (nI 4)).bind fun σ36 => (f_X8_laySlots_L28 n σ36 (x1 + 1))))) := rfl
def f_X8_laySlots (σ : SR)  : Option SR :=
  (f_X8_laySlots_L7 (fun σ_26 => (f_X8_laySlots_L28 FU σ_26 0)) FU (rsu σ 9 2 0) 0)
section SE
variable {p : Program} {l : Launch} {e : Env} {s : State} {m : MethodId} {args : Array Value} {below : List Frame} {meth : Method} {c : Code} {D : va_G} {cI cZ : ClassId} {A : Nat → Prop} {ad : Nat → Nat}
set_option maxRecDepth 100000 in
set_option maxHeartbeats 4000000 in
theorem j_X8_laySlots_L7 (C0 : Cx D (tyA cI cZ) RX8 cX8_laySlots 2 none p s m args meth c) (kx26 : SR → Option SR) (hkx26 : ∀ (σ : SR), J p l e (Rm 2) s m args below meth c D A (wR ad cI cZ) 2 (QV D A (wR ad cI cZ)) (kx26 σ) σ [(0, .ref (ad 0))] [] 26) : ∀ (n : Nat) (σ : SR) (x1 : Int32), J p l e (Rm 2) s m args below meth c D A (wR ad cI cZ) 2 (QV D A (wR ad cI cZ)) (f_X8_laySlots_L7 kx26 n σ x1) σ [(0, .ref (ad 0)), (1, .int x1)] [] 7 := by
  intro n
  induction n with
  | zero => intros; exact J_none
  | succ n ih =>
    intro σ x1
    refine J_eq (f_X8_laySlots_L7_s kx26 n σ x1) ?_
    refine J_iload_n (pc := 7) C0 1 dX8_laySlots_7 rfl rfl ?_
    refine J_iconst (pc := 8) (v := (nI 4)) C0 dX8_laySlots_8 (by decide) ?_
    refine J_icmp_ge (pc := 9) (tgt := 26) C0 dX8_laySlots_9 (by decide) (fun h_9 => ?_) (fun h_9 => ?_)
    · refine J_sub (lv' := [(0, .ref (ad 0))]) [0] rfl ?_
      exact hkx26 σ
    · refine J_aload_n (pc := 12) C0 0 dX8_laySlots_12 rfl rfl ?_
      refine J_iconst (pc := 13) (v := (nI 4)) C0 dX8_laySlots_13 (by decide) ?_
      refine J_iload_n (pc := 14) C0 1 dX8_laySlots_14 rfl rfl ?_
      refine J_imul (pc := 15) C0 dX8_laySlots_15 ?_
      refine J_iconst (pc := 16) (v := 1) C0 dX8_laySlots_16 (by decide) ?_
      refine fin_V (fun r_ h_ => run_V (As := [.int ((nI 4) * x1), .int 1]) (rest := []) (q0 := 0) C0 (c_X8_layLine σ ((nI 4) * x1) 1  r_ h_) v_X8_layLine q435 wR_o rfl rfl ⟨rfl, rfl⟩ (Rm_ok (by decide) (by decide)) rfl (Nat.le_of_ble_eq_true rfl) dX8_laySlots_17) (fun σ17 e17 => ?_)
      refine J_iinc (pc := 20) (d := 1) (lv' := [(1, .int (x1 + 1)), (0, .ref (ad 0))]) C0 1 dX8_laySlots_20 rfl (by decide) (by decide) rfl ?_
      refine J_goto (pc := 23) (tgt := 7) C0 dX8_laySlots_23 (by decide) ?_
      refine J_sub (lv' := [(0, .ref (ad 0)), (1, .int (x1 + 1))]) [1, 0] rfl ?_
      exact ih σ17 (x1 + 1)
set_option maxRecDepth 100000 in
set_option maxHeartbeats 4000000 in
theorem j_X8_laySlots_L28 (C0 : Cx D (tyA cI cZ) RX8 cX8_laySlots 2 none p s m args meth c) : ∀ (n : Nat) (σ : SR) (x1 : Int32), J p l e (Rm 2) s m args below meth c D A (wR ad cI cZ) 2 (QV D A (wR ad cI cZ)) (f_X8_laySlots_L28 n σ x1) σ [(0, .ref (ad 0)), (1, .int x1)] [] 28 := by
  intro n
  induction n with
  | zero => intros; exact J_none
  | succ n ih =>
    intro σ x1
    refine J_eq (f_X8_laySlots_L28_s  n σ x1) ?_
    refine J_iload_n (pc := 28) C0 1 dX8_laySlots_28 rfl rfl ?_
    refine J_iconst (pc := 29) (v := (nI 4)) C0 dX8_laySlots_29 (by decide) ?_
    refine J_icmp_ge (pc := 30) (tgt := 45) C0 dX8_laySlots_30 (by decide) (fun h_30 => ?_) (fun h_30 => ?_)
    · exact J_vret C0 dX8_laySlots_45
    · refine J_aload_n (pc := 33) C0 0 dX8_laySlots_33 rfl rfl ?_
      refine J_iload_n (pc := 34) C0 1 dX8_laySlots_34 rfl rfl ?_
      refine J_iconst (pc := 35) (v := (nI 4)) C0 dX8_laySlots_35 (by decide) ?_
      refine fin_V (fun r_ h_ => run_V (As := [.int x1, .int (nI 4)]) (rest := []) (q0 := 0) C0 (c_X8_layLine σ x1 (nI 4)  r_ h_) v_X8_layLine q435 wR_o rfl rfl ⟨rfl, rfl⟩ (Rm_ok (by decide) (by decide)) rfl (Nat.le_of_ble_eq_true rfl) dX8_laySlots_36) (fun σ36 e36 => ?_)
      refine J_iinc (pc := 39) (d := 1) (lv' := [(1, .int (x1 + 1)), (0, .ref (ad 0))]) C0 1 dX8_laySlots_39 rfl (by decide) (by decide) rfl ?_
      refine J_goto (pc := 42) (tgt := 28) C0 dX8_laySlots_42 (by decide) ?_
      refine J_sub (lv' := [(0, .ref (ad 0)), (1, .int (x1 + 1))]) [1, 0] rfl ?_
      exact ih σ36 (x1 + 1)
set_option maxRecDepth 100000 in
set_option maxHeartbeats 4000000 in
theorem c_X8_laySlots {l : Launch} {D : va_G} {cI cZ : ClassId} {A : Nat → Prop} {ad : Nat → Nat} (σ : SR)   (r : SR) (h : f_X8_laySlots σ = some r) : Met l yX8_laySlots (.code yX8_laySlots cX8_laySlots 2 none :: wG) (Rm 2) (PreW D (tyA cI cZ) A (wR ad cI cZ) [.ref (ad 0)] σ) (QV D A (wR ad cI cZ) r) 0 0 A := by
  refine met_of (M := f_X8_laySlots σ) (Qc := (QV D A (wR ad cI cZ))) (by decide) (Nat.le_of_ble_eq_true rfl) h (fun p e s m below meth c C0 => ?_)
  generalize hargs : ([.ref (ad 0)] : List Value).toArray = args at C0 ⊢
  have C0 : Cx D (tyA cI cZ) RX8 cX8_laySlots 2 none p s m args meth c := C0
  refine J_sub (lv' := [(0, .ref (ad 0))]) [0] rfl ?_
  unfold f_X8_laySlots
  refine J_aload_n (pc := 0) C0 0 dX8_laySlots_0 rfl rfl ?_
  refine J_iconst (pc := 1) (v := 0) C0 dX8_laySlots_1 (by decide) ?_
  refine J_put (pc := 2) (σ' := (rsu σ 9 2 0)) (v := .int 0) (ty := .int) C0 tyX8_ok nmX8 0 wR_o rfl in_X8 6 (by decide) q395 rfl (by decide +kernel) rfl rfl (Nat.le_of_ble_eq_true rfl) wR_p2 dX8_laySlots_2 ?_
  refine J_iconst (pc := 5) (v := 0) C0 dX8_laySlots_5 (by decide) ?_
  refine J_istore_n (pc := 6) (lv' := [(1, .int 0), (0, .ref (ad 0))]) C0 dX8_laySlots_6 rfl (by decide) rfl ?_
  refine J_sub (lv' := [(0, .ref (ad 0)), (1, .int 0)]) [1, 0] rfl ?_
  refine j_X8_laySlots_L7 C0 _ (fun σ_26 => ?_) FU (rsu σ 9 2 0) 0
  refine J_iconst (pc := 26) (v := 0) C0 dX8_laySlots_26 (by decide) ?_
  refine J_istore_n (pc := 27) (lv' := [(1, .int 0), (0, .ref (ad 0))]) C0 dX8_laySlots_27 rfl (by decide) rfl ?_
  refine J_sub (lv' := [(0, .ref (ad 0)), (1, .int 0)]) [1, 0] rfl ?_
  exact j_X8_laySlots_L28 C0 FU σ_26 0
end SE

def f_X8_letter_K45 (σ : SR) (x1 : Int32) (y0 : Int32) : Option (Int32 × SR) :=
  (if inb x1 33 = true then (if (σ.1 0 (ix x1)) = (-1) then (some ((-1000000003), σ)) else (if (σ.1 0 (ix x1)) = y0 then (some ((-1000000003), σ)) else ((f_X8_remember σ).bind fun σ70 => (if inb x1 33 = true then (if (σ.1 0 (ix x1)) = 0 then (some ((-1), (rsu σ70 0 (ix x1) y0))) else (some (((σ.1 0 (ix x1)) + (nI 96)), (rsu σ70 0 (ix x1) y0)))) else none)))) else none)
def f_X8_letter_K32 (σ : SR) (x1 : Int32) (x2 : Int32) : Option (Int32 × SR) :=
  (if x2 = (-1) then (f_X8_letter_K45 σ x1 0) else (f_X8_letter_K45 σ x1 (x2 - (nI 96))))
def f_X8_letter (σ : SR) (x1 : Int32) (x2 : Int32) : Option (Int32 × SR) :=
  ((f_X8_in x1 0 (nI 15)).bind fun r4 => (if r4 = 0 then (some ((-1000000001), σ)) else (if x2 = (-1) then (f_X8_letter_K32 σ x1 x2) else ((f_X8_in x2 (nI 97) (nI 102)).bind fun r23 => (if r23 = 0 then (some ((-1000000002), σ)) else (f_X8_letter_K32 σ x1 x2))))))
section SE
variable {p : Program} {l : Launch} {e : Env} {s : State} {m : MethodId} {args : Array Value} {below : List Frame} {meth : Method} {c : Code} {D : va_G} {cI cZ : ClassId} {A : Nat → Prop} {ad : Nat → Nat}
set_option maxRecDepth 100000 in
set_option maxHeartbeats 4000000 in
theorem j_X8_letter_K45 (C0 : Cx D (tyA cI cZ) RX8 cX8_letter 5 (some .int) p s m args meth c) (σ : SR) (x1 : Int32) (y0 : Int32) : J p l e (Rm 2) s m args below meth c D A (wR ad cI cZ) 5 (QI D A (wR ad cI cZ)) (f_X8_letter_K45 σ x1 y0) σ [(0, .ref (ad 0)), (1, .int x1)] [.int y0] 45 := by
  unfold f_X8_letter_K45
  refine J_istore_n (pc := 45) (lv' := [(3, .int y0), (0, .ref (ad 0)), (1, .int x1)]) C0 dX8_letter_45 rfl (by decide) rfl ?_
  refine J_aload_n (pc := 46) C0 1 dX8_letter_46 rfl rfl ?_
  refine J_get (pc := 47) (v := .ref (ad 1)) C0 0 wR_o rfl in_X8 0 (by decide) q411 rfl dX8_letter_47 ?_
  refine J_iload_n (pc := 50) C0 2 dX8_letter_50 rfl rfl ?_
  refine J_iald (pc := 51) C0 1 0 wR_a1 rfl dX8_letter_51 (fun h_51 => ?_)
  refine J_istore (pc := 52) (lv' := [(4, .int (σ.1 0 (ix x1))), (3, .int y0), (0, .ref (ad 0)), (1, .int x1)]) C0 dX8_letter_52 (by decide) rfl ?_
  refine J_iload (pc := 54) C0 0 dX8_letter_54 rfl ?_
  refine J_iconst (pc := 56) (v := (-1)) C0 dX8_letter_56 (by decide) ?_
  refine J_icmp_eq (pc := 57) (tgt := 66) C0 dX8_letter_57 (by decide) (fun h_57 => ?_) (fun h_57 => ?_)
  · refine J_ldc (pc := 66) C0 q419 dX8_letter_66 ?_
    exact J_iret C0 dX8_letter_68
  · refine J_iload (pc := 60) C0 0 dX8_letter_60 rfl ?_
    refine J_iload_n (pc := 62) C0 1 dX8_letter_62 rfl rfl ?_
    refine J_icmp_ne (pc := 63) (tgt := 69) C0 dX8_letter_63 (by decide) (fun h_63 => ?_) (fun h_63 => ?_)
    · refine J_aload_n (pc := 69) C0 2 dX8_letter_69 rfl rfl ?_
      refine fin_V (fun r_ h_ => run_V (As := []) (rest := []) (q0 := 0) C0 (c_X8_remember σ   r_ h_) v_X8_remember q439 wR_o rfl rfl ⟨rfl, rfl⟩ (Rm_ok (by decide) (by decide)) rfl (Nat.le_of_ble_eq_true rfl) dX8_letter_70) (fun σ70 e70 => ?_)
      refine J_aload_n (pc := 73) C0 2 dX8_letter_73 rfl rfl ?_
      refine J_get (pc := 74) (v := .ref (ad 1)) C0 0 wR_o rfl in_X8 0 (by decide) q411 rfl dX8_letter_74 ?_
      refine J_iload_n (pc := 77) C0 3 dX8_letter_77 rfl rfl ?_
      refine J_iload_n (pc := 78) C0 1 dX8_letter_78 rfl rfl ?_
      refine J_iast (pc := 79) (σ' := (rsu σ70 0 (ix x1) y0)) C0 1 0 wR_a1 rfl wR_s1 dX8_letter_79 (fun h_79 => ?_)
      refine J_iload (pc := 80) C0 0 dX8_letter_80 rfl ?_
      refine J_if_ne (pc := 82) (tgt := 89) C0 dX8_letter_82 (by decide) (fun h_82 => ?_) (fun h_82 => ?_)
      · refine J_iload (pc := 89) C0 0 dX8_letter_89 rfl ?_
        refine J_bipush (pc := 91) (v := (nI 96)) C0 dX8_letter_91 (by decide) ?_
        refine J_iadd (pc := 93) C0 dX8_letter_93 ?_
        exact J_iret C0 dX8_letter_94
      · refine J_iconst (pc := 85) (v := (-1)) C0 dX8_letter_85 (by decide) ?_
        refine J_goto (pc := 86) (tgt := 94) C0 dX8_letter_86 (by decide) ?_
        exact J_iret C0 dX8_letter_94
    · refine J_ldc (pc := 66) C0 q419 dX8_letter_66 ?_
      exact J_iret C0 dX8_letter_68
set_option maxRecDepth 100000 in
set_option maxHeartbeats 4000000 in
theorem j_X8_letter_K32 (C0 : Cx D (tyA cI cZ) RX8 cX8_letter 5 (some .int) p s m args meth c) (σ : SR) (x1 : Int32) (x2 : Int32) : J p l e (Rm 2) s m args below meth c D A (wR ad cI cZ) 5 (QI D A (wR ad cI cZ)) (f_X8_letter_K32 σ x1 x2) σ [(0, .ref (ad 0)), (1, .int x1), (2, .int x2)] [] 32 := by
  unfold f_X8_letter_K32
  refine J_iload_n (pc := 32) C0 2 dX8_letter_32 rfl rfl ?_
  refine J_iconst (pc := 33) (v := (-1)) C0 dX8_letter_33 (by decide) ?_
  refine J_icmp_ne (pc := 34) (tgt := 41) C0 dX8_letter_34 (by decide) (fun h_34 => ?_) (fun h_34 => ?_)
  · refine J_iload_n (pc := 41) C0 2 dX8_letter_41 rfl rfl ?_
    refine J_bipush (pc := 42) (v := (nI 96)) C0 dX8_letter_42 (by decide) ?_
    refine J_isub (pc := 44) C0 dX8_letter_44 ?_
    refine J_sub (lv' := [(0, .ref (ad 0)), (1, .int x1)]) [0, 1] rfl ?_
    exact j_X8_letter_K45 C0 σ x1 (x2 - (nI 96))
  · refine J_iconst (pc := 37) (v := 0) C0 dX8_letter_37 (by decide) ?_
    refine J_goto (pc := 38) (tgt := 45) C0 dX8_letter_38 (by decide) ?_
    refine J_sub (lv' := [(0, .ref (ad 0)), (1, .int x1)]) [0, 1] rfl ?_
    exact j_X8_letter_K45 C0 σ x1 0
set_option maxRecDepth 100000 in
set_option maxHeartbeats 4000000 in
theorem c_X8_letter {l : Launch} {D : va_G} {cI cZ : ClassId} {A : Nat → Prop} {ad : Nat → Nat} (σ : SR) (x1 : Int32) (x2 : Int32)  (r : (Int32 × SR)) (h : f_X8_letter σ x1 x2 = some r) : Met l yX8_letter (.code yX8_letter cX8_letter 5 (some .int) :: wG) (Rm 2) (PreW D (tyA cI cZ) A (wR ad cI cZ) [.ref (ad 0), .int x1, .int x2] σ) (QI D A (wR ad cI cZ) r) 0 0 A := by
  refine met_of (M := f_X8_letter σ x1 x2) (Qc := (QI D A (wR ad cI cZ))) (by decide) (Nat.le_of_ble_eq_true rfl) h (fun p e s m below meth c C0 => ?_)
  generalize hargs : ([.ref (ad 0), .int x1, .int x2] : List Value).toArray = args at C0 ⊢
  have C0 : Cx D (tyA cI cZ) RX8 cX8_letter 5 (some .int) p s m args meth c := C0
  refine J_sub (lv' := [(0, .ref (ad 0)), (1, .int x1), (2, .int x2)]) [0, 1, 2] rfl ?_
  unfold f_X8_letter
  refine J_iload_n (pc := 0) C0 1 dX8_letter_0 rfl rfl ?_
  refine J_iconst (pc := 1) (v := 0) C0 dX8_letter_1 (by decide) ?_
  refine J_bipush (pc := 2) (v := (nI 15)) C0 dX8_letter_2 (by decide) ?_
  refine fin_P (fun r_ h_ => run_S (As := [.int x1, .int 0, .int (nI 15)]) (rest := []) C0 (c_X8_in σ x1 0 (nI 15)  r_ h_) v_X8_in q425 rfl ⟨rfl, rfl⟩ (Rm_ok (by decide) (by decide)) rfl (Nat.le_of_ble_eq_true rfl) dX8_letter_4) (fun r4 e4 => ?_)
  refine J_if_ne (pc := 7) (tgt := 13) C0 dX8_letter_7 (by decide) (fun h_7 => ?_) (fun h_7 => ?_)
  · refine J_iload_n (pc := 13) C0 2 dX8_letter_13 rfl rfl ?_
    refine J_iconst (pc := 14) (v := (-1)) C0 dX8_letter_14 (by decide) ?_
    refine J_icmp_eq (pc := 15) (tgt := 32) C0 dX8_letter_15 (by decide) (fun h_15 => ?_) (fun h_15 => ?_)
    · refine J_sub (lv' := [(0, .ref (ad 0)), (1, .int x1), (2, .int x2)]) [0, 1, 2] rfl ?_
      exact j_X8_letter_K32 C0 σ x1 x2
    · refine J_iload_n (pc := 18) C0 2 dX8_letter_18 rfl rfl ?_
      refine J_bipush (pc := 19) (v := (nI 97)) C0 dX8_letter_19 (by decide) ?_
      refine J_bipush (pc := 21) (v := (nI 102)) C0 dX8_letter_21 (by decide) ?_
      refine fin_P (fun r_ h_ => run_S (As := [.int x2, .int (nI 97), .int (nI 102)]) (rest := []) C0 (c_X8_in σ x2 (nI 97) (nI 102)  r_ h_) v_X8_in q425 rfl ⟨rfl, rfl⟩ (Rm_ok (by decide) (by decide)) rfl (Nat.le_of_ble_eq_true rfl) dX8_letter_23) (fun r23 e23 => ?_)
      refine J_if_ne (pc := 26) (tgt := 32) C0 dX8_letter_26 (by decide) (fun h_26 => ?_) (fun h_26 => ?_)
      · refine J_sub (lv' := [(0, .ref (ad 0)), (1, .int x1), (2, .int x2)]) [0, 1, 2] rfl ?_
        exact j_X8_letter_K32 C0 σ x1 x2
      · refine J_ldc (pc := 29) C0 q443 dX8_letter_29 ?_
        exact J_iret C0 dX8_letter_31
  · refine J_ldc (pc := 10) C0 q430 dX8_letter_10 ?_
    exact J_iret C0 dX8_letter_12
end SE

def f_X8_letterOf_L6 (x0 : Int32) : Nat → Int32 → Int32 → Option Int32
  | 0, _, _ => none
  | n + 1, x2, x3 =>
  ((f_X8_lengthOf x0).bind fun r8 => (if r8 ≤ x3 then (if x2 = 0 then none else (some ((x0 / x2) - (x0 / x2) / (nI 7) * (nI 7)))) else (f_X8_letterOf_L6 x0 n (x2 * (nI 7)) (x3 + 1))))
theorem f_X8_letterOf_L6_s (x0 : Int32) (n : Nat) (x2 : Int32) (x3 : Int32) : f_X8_letterOf_L6 x0 (n + 1) x2 x3 = (((f_X8_lengthOf x0).bind fun r8 => (if r8 ≤ x3 then (if x2 = 0 then none else (some ((x0 / x2) - (x0 / x2) / (nI 7) * (nI 7)))) else (f_X8_letterOf_L6 x0 n (x2 * (nI 7)) (x3 + 1))))) := rfl
def f_X8_letterOf (x0 : Int32) (x1 : Int32) : Option Int32 :=
  (f_X8_letterOf_L6 x0 FU 1 (x1 + 1))
section SE
variable {p : Program} {l : Launch} {e : Env} {s : State} {m : MethodId} {args : Array Value} {below : List Frame} {meth : Method} {c : Code} {D : va_G} {cI cZ : ClassId} {A : Nat → Prop} {ad : Nat → Nat}
set_option maxRecDepth 100000 in
set_option maxHeartbeats 4000000 in
theorem j_X8_letterOf_L6 (C0 : Cx D (tyA cI cZ) RX8 cX8_letterOf 4 (some .int) p s m args meth c) (σ : SR) (x0 : Int32) : ∀ (n : Nat) (x2 : Int32) (x3 : Int32), J p l e (Rm 2) s m args below meth c D A (wR ad cI cZ) 4 (fun r => QI D A (wR ad cI cZ) (r, σ)) (f_X8_letterOf_L6 x0 n x2 x3) σ [(0, .int x0), (2, .int x2), (3, .int x3)] [] 6 := by
  intro n
  induction n with
  | zero => intros; exact J_none
  | succ n ih =>
    intro x2 x3
    refine J_eq (f_X8_letterOf_L6_s x0 n x2 x3) ?_
    refine J_iload_n (pc := 6) C0 2 dX8_letterOf_6 rfl rfl ?_
    refine J_iload_n (pc := 7) C0 0 dX8_letterOf_7 rfl rfl ?_
    refine fin_P (fun r_ h_ => run_S (As := [.int x0]) (rest := [.int x3]) C0 (c_X8_lengthOf σ x0  r_ h_) v_X8_lengthOf q444 rfl ⟨rfl, rfl⟩ (Rm_ok (by decide) (by decide)) rfl (Nat.le_of_ble_eq_true rfl) dX8_letterOf_8) (fun r8 e8 => ?_)
    refine J_icmp_ge (pc := 11) (tgt := 25) C0 dX8_letterOf_11 (by decide) (fun h_11 => ?_) (fun h_11 => ?_)
    · refine J_iload_n (pc := 25) C0 0 dX8_letterOf_25 rfl rfl ?_
      refine J_iload_n (pc := 26) C0 1 dX8_letterOf_26 rfl rfl ?_
      refine J_idivG (pc := 27) C0 dX8_letterOf_27 (fun h_27 => ?_)
      refine J_bipush (pc := 28) (v := (nI 7)) C0 dX8_letterOf_28 (by decide) ?_
      refine J_irem (pc := 30) C0 dX8_letterOf_30 (by decide) ?_
      exact J_iretP C0 dX8_letterOf_31
    · refine J_iload_n (pc := 14) C0 1 dX8_letterOf_14 rfl rfl ?_
      refine J_bipush (pc := 15) (v := (nI 7)) C0 dX8_letterOf_15 (by decide) ?_
      refine J_imul (pc := 17) C0 dX8_letterOf_17 ?_
      refine J_istore_n (pc := 18) (lv' := [(2, .int (x2 * (nI 7))), (0, .int x0), (3, .int x3)]) C0 dX8_letterOf_18 rfl (by decide) rfl ?_
      refine J_iinc (pc := 19) (d := 1) (lv' := [(3, .int (x3 + 1)), (2, .int (x2 * (nI 7))), (0, .int x0)]) C0 2 dX8_letterOf_19 rfl (by decide) (by decide) rfl ?_
      refine J_goto (pc := 22) (tgt := 6) C0 dX8_letterOf_22 (by decide) ?_
      refine J_sub (lv' := [(0, .int x0), (2, .int (x2 * (nI 7))), (3, .int (x3 + 1))]) [2, 1, 0] rfl ?_
      exact ih (x2 * (nI 7)) (x3 + 1)
set_option maxRecDepth 100000 in
set_option maxHeartbeats 4000000 in
theorem c_X8_letterOf {l : Launch} {D : va_G} {cI cZ : ClassId} {A : Nat → Prop} {ad : Nat → Nat} (σ : SR) (x0 : Int32) (x1 : Int32)  (r : Int32) (h : f_X8_letterOf x0 x1 = some r) : Met l yX8_letterOf (.code yX8_letterOf cX8_letterOf 4 (some .int) :: wG) (Rm 2) (PreW D (tyA cI cZ) A (wR ad cI cZ) [.int x0, .int x1] σ) (QI D A (wR ad cI cZ) (r, σ)) 0 0 A := by
  refine met_of (M := f_X8_letterOf x0 x1) (Qc := (fun r => QI D A (wR ad cI cZ) (r, σ))) (by decide) (Nat.le_of_ble_eq_true rfl) h (fun p e s m below meth c C0 => ?_)
  generalize hargs : ([.int x0, .int x1] : List Value).toArray = args at C0 ⊢
  have C0 : Cx D (tyA cI cZ) RX8 cX8_letterOf 4 (some .int) p s m args meth c := C0
  refine J_sub (lv' := [(0, .int x0), (1, .int x1)]) [0, 1] rfl ?_
  unfold f_X8_letterOf
  refine J_iconst (pc := 0) (v := 1) C0 dX8_letterOf_0 (by decide) ?_
  refine J_istore_n (pc := 1) (lv' := [(2, .int 1), (0, .int x0), (1, .int x1)]) C0 dX8_letterOf_1 rfl (by decide) rfl ?_
  refine J_iload_n (pc := 2) C0 2 dX8_letterOf_2 rfl rfl ?_
  refine J_iconst (pc := 3) (v := 1) C0 dX8_letterOf_3 (by decide) ?_
  refine J_iadd (pc := 4) C0 dX8_letterOf_4 ?_
  refine J_istore_n (pc := 5) (lv' := [(3, .int (x1 + 1)), (2, .int 1), (0, .int x0), (1, .int x1)]) C0 dX8_letterOf_5 rfl (by decide) rfl ?_
  refine J_sub (lv' := [(0, .int x0), (2, .int 1), (3, .int (x1 + 1))]) [2, 1, 0] rfl ?_
  exact j_X8_letterOf_L6 C0 σ x0 FU 1 (x1 + 1)
end SE

def f_X8_lettersOf_L4 (σ : SR) (x1 : Int32) : Nat → Int32 → Int32 → Option Int32
  | 0, _, _ => none
  | n + 1, x2, x3 =>
  (if inb x1 8 = true then (if (σ.1 5 (ix x1)) ≤ x3 then (some x2) else ((f_X8_cellOf σ x1 x3).bind fun r25 => (if inb r25 33 = true then (f_X8_lettersOf_L4 σ x1 n (((nI 7) * x2) + (σ.1 0 (ix r25))) (x3 + 1)) else none))) else none)
theorem f_X8_lettersOf_L4_s (σ : SR) (x1 : Int32) (n : Nat) (x2 : Int32) (x3 : Int32) : f_X8_lettersOf_L4 σ x1 (n + 1) x2 x3 = ((if inb x1 8 = true then (if (σ.1 5 (ix x1)) ≤ x3 then (some x2) else ((f_X8_cellOf σ x1 x3).bind fun r25 => (if inb r25 33 = true then (f_X8_lettersOf_L4 σ x1 n (((nI 7) * x2) + (σ.1 0 (ix r25))) (x3 + 1)) else none))) else none)) := rfl
def f_X8_lettersOf (σ : SR) (x1 : Int32) : Option Int32 :=
  (f_X8_lettersOf_L4 σ x1 FU 0 0)
section SE
variable {p : Program} {l : Launch} {e : Env} {s : State} {m : MethodId} {args : Array Value} {below : List Frame} {meth : Method} {c : Code} {D : va_G} {cI cZ : ClassId} {A : Nat → Prop} {ad : Nat → Nat}
set_option maxRecDepth 100000 in
set_option maxHeartbeats 4000000 in
theorem j_X8_lettersOf_L4 (C0 : Cx D (tyA cI cZ) RX8 cX8_lettersOf 4 (some .int) p s m args meth c) (σ : SR) (x1 : Int32) : ∀ (n : Nat) (x2 : Int32) (x3 : Int32), J p l e (Rm 2) s m args below meth c D A (wR ad cI cZ) 4 (fun r => QI D A (wR ad cI cZ) (r, σ)) (f_X8_lettersOf_L4 σ x1 n x2 x3) σ [(0, .ref (ad 0)), (1, .int x1), (2, .int x2), (3, .int x3)] [] 4 := by
  intro n
  induction n with
  | zero => intros; exact J_none
  | succ n ih =>
    intro x2 x3
    refine J_eq (f_X8_lettersOf_L4_s σ x1 n x2 x3) ?_
    refine J_iload_n (pc := 4) C0 3 dX8_lettersOf_4 rfl rfl ?_
    refine J_aload_n (pc := 5) C0 0 dX8_lettersOf_5 rfl rfl ?_
    refine J_get (pc := 6) (v := .ref (ad 6)) C0 0 wR_o rfl in_X8 8 (by decide) q412 rfl dX8_lettersOf_6 ?_
    refine J_iload_n (pc := 9) C0 1 dX8_lettersOf_9 rfl rfl ?_
    refine J_iald (pc := 10) C0 6 0 wR_a6 rfl dX8_lettersOf_10 (fun h_10 => ?_)
    refine J_icmp_ge (pc := 11) (tgt := 37) C0 dX8_lettersOf_11 (by decide) (fun h_11 => ?_) (fun h_11 => ?_)
    · refine J_iload_n (pc := 37) C0 2 dX8_lettersOf_37 rfl rfl ?_
      exact J_iretP C0 dX8_lettersOf_38
    · refine J_bipush (pc := 14) (v := (nI 7)) C0 dX8_lettersOf_14 (by decide) ?_
      refine J_iload_n (pc := 16) C0 2 dX8_lettersOf_16 rfl rfl ?_
      refine J_imul (pc := 17) C0 dX8_lettersOf_17 ?_
      refine J_aload_n (pc := 18) C0 0 dX8_lettersOf_18 rfl rfl ?_
      refine J_get (pc := 19) (v := .ref (ad 1)) C0 0 wR_o rfl in_X8 0 (by decide) q411 rfl dX8_lettersOf_19 ?_
      refine J_aload_n (pc := 22) C0 0 dX8_lettersOf_22 rfl rfl ?_
      refine J_iload_n (pc := 23) C0 1 dX8_lettersOf_23 rfl rfl ?_
      refine J_iload_n (pc := 24) C0 3 dX8_lettersOf_24 rfl rfl ?_
      refine fin_P (fun r_ h_ => run_V (As := [.int x1, .int x3]) (rest := [.ref (ad 1), .int ((nI 7) * x2)]) (q0 := 0) C0 (c_X8_cellOf σ x1 x3  r_ h_) v_X8_cellOf q431 wR_o rfl rfl ⟨rfl, rfl⟩ (Rm_ok (by decide) (by decide)) rfl (Nat.le_of_ble_eq_true rfl) dX8_lettersOf_25) (fun r25 e25 => ?_)
      refine J_iald (pc := 28) C0 1 0 wR_a1 rfl dX8_lettersOf_28 (fun h_28 => ?_)
      refine J_iadd (pc := 29) C0 dX8_lettersOf_29 ?_
      refine J_istore_n (pc := 30) (lv' := [(2, .int (((nI 7) * x2) + (σ.1 0 (ix r25)))), (0, .ref (ad 0)), (1, .int x1), (3, .int x3)]) C0 dX8_lettersOf_30 rfl (by decide) rfl ?_
      refine J_iinc (pc := 31) (d := 1) (lv' := [(3, .int (x3 + 1)), (2, .int (((nI 7) * x2) + (σ.1 0 (ix r25)))), (0, .ref (ad 0)), (1, .int x1)]) C0 3 dX8_lettersOf_31 rfl (by decide) (by decide) rfl ?_
      refine J_goto (pc := 34) (tgt := 4) C0 dX8_lettersOf_34 (by decide) ?_
      refine J_sub (lv' := [(0, .ref (ad 0)), (1, .int x1), (2, .int (((nI 7) * x2) + (σ.1 0 (ix r25)))), (3, .int (x3 + 1))]) [2, 3, 1, 0] rfl ?_
      exact ih (((nI 7) * x2) + (σ.1 0 (ix r25))) (x3 + 1)
set_option maxRecDepth 100000 in
set_option maxHeartbeats 4000000 in
theorem c_X8_lettersOf {l : Launch} {D : va_G} {cI cZ : ClassId} {A : Nat → Prop} {ad : Nat → Nat} (σ : SR) (x1 : Int32)  (r : Int32) (h : f_X8_lettersOf σ x1 = some r) : Met l yX8_lettersOf (.code yX8_lettersOf cX8_lettersOf 4 (some .int) :: wG) (Rm 2) (PreW D (tyA cI cZ) A (wR ad cI cZ) [.ref (ad 0), .int x1] σ) (QI D A (wR ad cI cZ) (r, σ)) 0 0 A := by
  refine met_of (M := f_X8_lettersOf σ x1) (Qc := (fun r => QI D A (wR ad cI cZ) (r, σ))) (by decide) (Nat.le_of_ble_eq_true rfl) h (fun p e s m below meth c C0 => ?_)
  generalize hargs : ([.ref (ad 0), .int x1] : List Value).toArray = args at C0 ⊢
  have C0 : Cx D (tyA cI cZ) RX8 cX8_lettersOf 4 (some .int) p s m args meth c := C0
  refine J_sub (lv' := [(0, .ref (ad 0)), (1, .int x1)]) [0, 1] rfl ?_
  unfold f_X8_lettersOf
  refine J_iconst (pc := 0) (v := 0) C0 dX8_lettersOf_0 (by decide) ?_
  refine J_istore_n (pc := 1) (lv' := [(2, .int 0), (0, .ref (ad 0)), (1, .int x1)]) C0 dX8_lettersOf_1 rfl (by decide) rfl ?_
  refine J_iconst (pc := 2) (v := 0) C0 dX8_lettersOf_2 (by decide) ?_
  refine J_istore_n (pc := 3) (lv' := [(3, .int 0), (2, .int 0), (0, .ref (ad 0)), (1, .int x1)]) C0 dX8_lettersOf_3 rfl (by decide) rfl ?_
  refine J_sub (lv' := [(0, .ref (ad 0)), (1, .int x1), (2, .int 0), (3, .int 0)]) [2, 3, 1, 0] rfl ?_
  exact j_X8_lettersOf_L4 C0 σ x1 FU 0 0
end SE

def f_X8_nextSlot_L5 (σ : SR) (x2 : Int32) (x3 : Int32) (kx37 : Int32 → Option Int32) : Nat → Int32 → Option Int32
  | 0, _ => none
  | n + 1, x4 =>
  (if x4 < 0 then (kx37 x4) else (if (σ.1 9 2) ≤ x4 then (kx37 x4) else ((f_X8_has x2 x4).bind fun r22 => (if r22 = 0 then (f_X8_nextSlot_L5 σ x2 x3 kx37 n (x4 + x3)) else (kx37 x4)))))
theorem f_X8_nextSlot_L5_s (σ : SR) (x2 : Int32) (x3 : Int32) (kx37 : Int32 → Option Int32) (n : Nat) (x4 : Int32) : f_X8_nextSlot_L5 σ x2 x3 kx37 (n + 1) x4 = ((if x4 < 0 then (kx37 x4) else (if (σ.1 9 2) ≤ x4 then (kx37 x4) else ((f_X8_has x2 x4).bind fun r22 => (if r22 = 0 then (f_X8_nextSlot_L5 σ x2 x3 kx37 n (x4 + x3)) else (kx37 x4)))))) := rfl
def f_X8_nextSlot (σ : SR) (x1 : Int32) (x2 : Int32) (x3 : Int32) : Option Int32 :=
  (f_X8_nextSlot_L5 σ x2 x3 (fun x4_37 => (some x4_37)) FU (x1 + x3))
section SE
variable {p : Program} {l : Launch} {e : Env} {s : State} {m : MethodId} {args : Array Value} {below : List Frame} {meth : Method} {c : Code} {D : va_G} {cI cZ : ClassId} {A : Nat → Prop} {ad : Nat → Nat}
set_option maxRecDepth 100000 in
set_option maxHeartbeats 4000000 in
theorem j_X8_nextSlot_L5 (C0 : Cx D (tyA cI cZ) RX8 cX8_nextSlot 5 (some .int) p s m args meth c) (σ : SR) (x2 : Int32) (x3 : Int32) (kx37 : Int32 → Option Int32) (hkx37 : ∀ (x4 : Int32), J p l e (Rm 2) s m args below meth c D A (wR ad cI cZ) 5 (fun r => QI D A (wR ad cI cZ) (r, σ)) (kx37 x4) σ [(4, .int x4)] [] 37) : ∀ (n : Nat) (x4 : Int32), J p l e (Rm 2) s m args below meth c D A (wR ad cI cZ) 5 (fun r => QI D A (wR ad cI cZ) (r, σ)) (f_X8_nextSlot_L5 σ x2 x3 kx37 n x4) σ [(0, .ref (ad 0)), (2, .int x2), (3, .int x3), (4, .int x4)] [] 5 := by
  intro n
  induction n with
  | zero => intros; exact J_none
  | succ n ih =>
    intro x4
    refine J_eq (f_X8_nextSlot_L5_s σ x2 x3 kx37 n x4) ?_
    refine J_iload (pc := 5) C0 3 dX8_nextSlot_5 rfl ?_
    refine J_if_lt (pc := 7) (tgt := 37) C0 dX8_nextSlot_7 (by decide) (fun h_7 => ?_) (fun h_7 => ?_)
    · refine J_sub (lv' := [(4, .int x4)]) [3] rfl ?_
      exact hkx37 x4
    · refine J_iload (pc := 10) C0 3 dX8_nextSlot_10 rfl ?_
      refine J_aload_n (pc := 12) C0 0 dX8_nextSlot_12 rfl rfl ?_
      refine J_get (pc := 13) (v := .int (σ.1 9 2)) C0 0 wR_o rfl in_X8 6 (by decide) q395 rfl dX8_nextSlot_13 ?_
      refine J_icmp_ge (pc := 16) (tgt := 37) C0 dX8_nextSlot_16 (by decide) (fun h_16 => ?_) (fun h_16 => ?_)
      · refine J_sub (lv' := [(4, .int x4)]) [3] rfl ?_
        exact hkx37 x4
      · refine J_iload_n (pc := 19) C0 1 dX8_nextSlot_19 rfl rfl ?_
        refine J_iload (pc := 20) C0 3 dX8_nextSlot_20 rfl ?_
        refine fin_P (fun r_ h_ => run_S (As := [.int x2, .int x4]) (rest := []) C0 (c_X8_has σ x2 x4  r_ h_) v_X8_has q447 rfl ⟨rfl, rfl⟩ (Rm_ok (by decide) (by decide)) rfl (Nat.le_of_ble_eq_true rfl) dX8_nextSlot_22) (fun r22 e22 => ?_)
        refine J_if_ne (pc := 25) (tgt := 37) C0 dX8_nextSlot_25 (by decide) (fun h_25 => ?_) (fun h_25 => ?_)
        · refine J_sub (lv' := [(4, .int x4)]) [3] rfl ?_
          exact hkx37 x4
        · refine J_iload (pc := 28) C0 3 dX8_nextSlot_28 rfl ?_
          refine J_iload_n (pc := 30) C0 2 dX8_nextSlot_30 rfl rfl ?_
          refine J_iadd (pc := 31) C0 dX8_nextSlot_31 ?_
          refine J_istore (pc := 32) (lv' := [(4, .int (x4 + x3)), (0, .ref (ad 0)), (2, .int x2), (3, .int x3)]) C0 dX8_nextSlot_32 (by decide) rfl ?_
          refine J_goto (pc := 34) (tgt := 5) C0 dX8_nextSlot_34 (by decide) ?_
          refine J_sub (lv' := [(0, .ref (ad 0)), (2, .int x2), (3, .int x3), (4, .int (x4 + x3))]) [1, 2, 3, 0] rfl ?_
          exact ih (x4 + x3)
set_option maxRecDepth 100000 in
set_option maxHeartbeats 4000000 in
theorem c_X8_nextSlot {l : Launch} {D : va_G} {cI cZ : ClassId} {A : Nat → Prop} {ad : Nat → Nat} (σ : SR) (x1 : Int32) (x2 : Int32) (x3 : Int32)  (r : Int32) (h : f_X8_nextSlot σ x1 x2 x3 = some r) : Met l yX8_nextSlot (.code yX8_nextSlot cX8_nextSlot 5 (some .int) :: wG) (Rm 2) (PreW D (tyA cI cZ) A (wR ad cI cZ) [.ref (ad 0), .int x1, .int x2, .int x3] σ) (QI D A (wR ad cI cZ) (r, σ)) 0 0 A := by
  refine met_of (M := f_X8_nextSlot σ x1 x2 x3) (Qc := (fun r => QI D A (wR ad cI cZ) (r, σ))) (by decide) (Nat.le_of_ble_eq_true rfl) h (fun p e s m below meth c C0 => ?_)
  generalize hargs : ([.ref (ad 0), .int x1, .int x2, .int x3] : List Value).toArray = args at C0 ⊢
  have C0 : Cx D (tyA cI cZ) RX8 cX8_nextSlot 5 (some .int) p s m args meth c := C0
  refine J_sub (lv' := [(0, .ref (ad 0)), (1, .int x1), (2, .int x2), (3, .int x3)]) [0, 1, 2, 3] rfl ?_
  unfold f_X8_nextSlot
  refine J_iload_n (pc := 0) C0 1 dX8_nextSlot_0 rfl rfl ?_
  refine J_iload_n (pc := 1) C0 3 dX8_nextSlot_1 rfl rfl ?_
  refine J_iadd (pc := 2) C0 dX8_nextSlot_2 ?_
  refine J_istore (pc := 3) (lv' := [(4, .int (x1 + x3)), (0, .ref (ad 0)), (1, .int x1), (2, .int x2), (3, .int x3)]) C0 dX8_nextSlot_3 (by decide) rfl ?_
  refine J_sub (lv' := [(0, .ref (ad 0)), (2, .int x2), (3, .int x3), (4, .int (x1 + x3))]) [1, 3, 4, 0] rfl ?_
  refine j_X8_nextSlot_L5 C0 σ x2 x3 _ (fun x4_37 => ?_) FU (x1 + x3)
  refine J_iload (pc := 37) C0 0 dX8_nextSlot_37 rfl ?_
  exact J_iretP C0 dX8_nextSlot_39
end SE

def f_X8_placeIn_L2 (σ : SR) (x1 : Int32) (x2 : Int32) : Nat → Int32 → Option Int32
  | 0, _ => none
  | n + 1, x3 =>
  (if inb x1 8 = true then (if (σ.1 5 (ix x1)) ≤ x3 then (some (-1)) else ((f_X8_cellOf σ x1 x3).bind fun r15 => (if r15 = x2 then (some x3) else (f_X8_placeIn_L2 σ x1 x2 n (x3 + 1))))) else none)
theorem f_X8_placeIn_L2_s (σ : SR) (x1 : Int32) (x2 : Int32) (n : Nat) (x3 : Int32) : f_X8_placeIn_L2 σ x1 x2 (n + 1) x3 = ((if inb x1 8 = true then (if (σ.1 5 (ix x1)) ≤ x3 then (some (-1)) else ((f_X8_cellOf σ x1 x3).bind fun r15 => (if r15 = x2 then (some x3) else (f_X8_placeIn_L2 σ x1 x2 n (x3 + 1))))) else none)) := rfl
def f_X8_placeIn (σ : SR) (x1 : Int32) (x2 : Int32) : Option Int32 :=
  (f_X8_placeIn_L2 σ x1 x2 FU 0)
section SE
variable {p : Program} {l : Launch} {e : Env} {s : State} {m : MethodId} {args : Array Value} {below : List Frame} {meth : Method} {c : Code} {D : va_G} {cI cZ : ClassId} {A : Nat → Prop} {ad : Nat → Nat}
set_option maxRecDepth 100000 in
set_option maxHeartbeats 4000000 in
theorem j_X8_placeIn_L2 (C0 : Cx D (tyA cI cZ) RX8 cX8_placeIn 4 (some .int) p s m args meth c) (σ : SR) (x1 : Int32) (x2 : Int32) : ∀ (n : Nat) (x3 : Int32), J p l e (Rm 2) s m args below meth c D A (wR ad cI cZ) 4 (fun r => QI D A (wR ad cI cZ) (r, σ)) (f_X8_placeIn_L2 σ x1 x2 n x3) σ [(0, .ref (ad 0)), (1, .int x1), (2, .int x2), (3, .int x3)] [] 2 := by
  intro n
  induction n with
  | zero => intros; exact J_none
  | succ n ih =>
    intro x3
    refine J_eq (f_X8_placeIn_L2_s σ x1 x2 n x3) ?_
    refine J_iload_n (pc := 2) C0 3 dX8_placeIn_2 rfl rfl ?_
    refine J_aload_n (pc := 3) C0 0 dX8_placeIn_3 rfl rfl ?_
    refine J_get (pc := 4) (v := .ref (ad 6)) C0 0 wR_o rfl in_X8 8 (by decide) q412 rfl dX8_placeIn_4 ?_
    refine J_iload_n (pc := 7) C0 1 dX8_placeIn_7 rfl rfl ?_
    refine J_iald (pc := 8) C0 6 0 wR_a6 rfl dX8_placeIn_8 (fun h_8 => ?_)
    refine J_icmp_ge (pc := 9) (tgt := 30) C0 dX8_placeIn_9 (by decide) (fun h_9 => ?_) (fun h_9 => ?_)
    · refine J_iconst (pc := 30) (v := (-1)) C0 dX8_placeIn_30 (by decide) ?_
      exact J_iretP C0 dX8_placeIn_31
    · refine J_aload_n (pc := 12) C0 0 dX8_placeIn_12 rfl rfl ?_
      refine J_iload_n (pc := 13) C0 1 dX8_placeIn_13 rfl rfl ?_
      refine J_iload_n (pc := 14) C0 3 dX8_placeIn_14 rfl rfl ?_
      refine fin_P (fun r_ h_ => run_V (As := [.int x1, .int x3]) (rest := []) (q0 := 0) C0 (c_X8_cellOf σ x1 x3  r_ h_) v_X8_cellOf q431 wR_o rfl rfl ⟨rfl, rfl⟩ (Rm_ok (by decide) (by decide)) rfl (Nat.le_of_ble_eq_true rfl) dX8_placeIn_15) (fun r15 e15 => ?_)
      refine J_iload_n (pc := 18) C0 2 dX8_placeIn_18 rfl rfl ?_
      refine J_icmp_ne (pc := 19) (tgt := 24) C0 dX8_placeIn_19 (by decide) (fun h_19 => ?_) (fun h_19 => ?_)
      · refine J_iinc (pc := 24) (d := 1) (lv' := [(3, .int (x3 + 1)), (0, .ref (ad 0)), (1, .int x1), (2, .int x2)]) C0 3 dX8_placeIn_24 rfl (by decide) (by decide) rfl ?_
        refine J_goto (pc := 27) (tgt := 2) C0 dX8_placeIn_27 (by decide) ?_
        refine J_sub (lv' := [(0, .ref (ad 0)), (1, .int x1), (2, .int x2), (3, .int (x3 + 1))]) [1, 2, 3, 0] rfl ?_
        exact ih (x3 + 1)
      · refine J_iload_n (pc := 22) C0 3 dX8_placeIn_22 rfl rfl ?_
        exact J_iretP C0 dX8_placeIn_23
set_option maxRecDepth 100000 in
set_option maxHeartbeats 4000000 in
theorem c_X8_placeIn {l : Launch} {D : va_G} {cI cZ : ClassId} {A : Nat → Prop} {ad : Nat → Nat} (σ : SR) (x1 : Int32) (x2 : Int32)  (r : Int32) (h : f_X8_placeIn σ x1 x2 = some r) : Met l yX8_placeIn (.code yX8_placeIn cX8_placeIn 4 (some .int) :: wG) (Rm 2) (PreW D (tyA cI cZ) A (wR ad cI cZ) [.ref (ad 0), .int x1, .int x2] σ) (QI D A (wR ad cI cZ) (r, σ)) 0 0 A := by
  refine met_of (M := f_X8_placeIn σ x1 x2) (Qc := (fun r => QI D A (wR ad cI cZ) (r, σ))) (by decide) (Nat.le_of_ble_eq_true rfl) h (fun p e s m below meth c C0 => ?_)
  generalize hargs : ([.ref (ad 0), .int x1, .int x2] : List Value).toArray = args at C0 ⊢
  have C0 : Cx D (tyA cI cZ) RX8 cX8_placeIn 4 (some .int) p s m args meth c := C0
  refine J_sub (lv' := [(0, .ref (ad 0)), (1, .int x1), (2, .int x2)]) [0, 1, 2] rfl ?_
  unfold f_X8_placeIn
  refine J_iconst (pc := 0) (v := 0) C0 dX8_placeIn_0 (by decide) ?_
  refine J_istore_n (pc := 1) (lv' := [(3, .int 0), (0, .ref (ad 0)), (1, .int x1), (2, .int x2)]) C0 dX8_placeIn_1 rfl (by decide) rfl ?_
  refine J_sub (lv' := [(0, .ref (ad 0)), (1, .int x1), (2, .int x2), (3, .int 0)]) [1, 2, 3, 0] rfl ?_
  exact j_X8_placeIn_L2 C0 σ x1 x2 FU 0
end SE

def f_X8_wipe_K29 (k8 : SR → Int32 → Int32 → Option (Int32 × SR)) (σ : SR) (x2 : Int32) (y0 : Int32) (y1 : Int32) : Option (Int32 × SR) :=
  (if inb x2 33 = true then (if (σ.1 0 (ix x2)) ≤ 0 then (if inb x2 33 = true then (if inb x2 33 = true then (k8 (rsu σ 0 (ix x2) (σ.1 0 (ix x2))) (y1 + y0) (x2 + 1)) else none) else none) else (if inb x2 33 = true then (k8 (rsu σ 0 (ix x2) 0) (y1 + y0) (x2 + 1)) else none)) else none)
def f_X8_wipe_L8 : Nat → SR → Int32 → Int32 → Option (Int32 × SR)
  | 0, _, _, _ => none
  | n + 1, σ, x1, x2 =>
  (if (nI 16) ≤ x2 then (some (x1, σ)) else (if inb x2 33 = true then (if (σ.1 0 (ix x2)) ≤ 0 then (f_X8_wipe_K29 (f_X8_wipe_L8 n) σ x2 0 x1) else (f_X8_wipe_K29 (f_X8_wipe_L8 n) σ x2 1 x1)) else none))
theorem f_X8_wipe_L8_s (n : Nat) (σ : SR) (x1 : Int32) (x2 : Int32) : f_X8_wipe_L8 (n + 1) σ x1 x2 = ((if (nI 16) ≤ x2 then (some (x1, σ)) else (if inb x2 33 = true then (if (σ.1 0 (ix x2)) ≤ 0 then (f_X8_wipe_K29 (f_X8_wipe_L8 n) σ x2 0 x1) else (f_X8_wipe_K29 (f_X8_wipe_L8 n) σ x2 1 x1)) else none))) := rfl
def f_X8_wipe (σ : SR)  : Option (Int32 × SR) :=
  ((f_X8_remember σ).bind fun σ1 => (f_X8_wipe_L8 FU σ1 0 0))
section SE
variable {p : Program} {l : Launch} {e : Env} {s : State} {m : MethodId} {args : Array Value} {below : List Frame} {meth : Method} {c : Code} {D : va_G} {cI cZ : ClassId} {A : Nat → Prop} {ad : Nat → Nat}
set_option maxRecDepth 100000 in
set_option maxHeartbeats 4000000 in
theorem j_X8_wipe_K29 (C0 : Cx D (tyA cI cZ) RX8 cX8_wipe 3 (some .int) p s m args meth c) (k8 : SR → Int32 → Int32 → Option (Int32 × SR)) (σ : SR) (x2 : Int32) (y0 : Int32) (y1 : Int32) (hk8 : ∀ (σ : SR) (x1 : Int32) (x2 : Int32), J p l e (Rm 2) s m args below meth c D A (wR ad cI cZ) 3 (QI D A (wR ad cI cZ)) (k8 σ x1 x2) σ [(0, .ref (ad 0)), (1, .int x1), (2, .int x2)] [] 8) : J p l e (Rm 2) s m args below meth c D A (wR ad cI cZ) 3 (QI D A (wR ad cI cZ)) (f_X8_wipe_K29 k8 σ x2 y0 y1) σ [(0, .ref (ad 0)), (2, .int x2)] [.int y0, .int y1] 29 := by
  unfold f_X8_wipe_K29
  refine J_iadd (pc := 29) C0 dX8_wipe_29 ?_
  refine J_istore_n (pc := 30) (lv' := [(1, .int (y1 + y0)), (0, .ref (ad 0)), (2, .int x2)]) C0 dX8_wipe_30 rfl (by decide) rfl ?_
  refine J_aload_n (pc := 31) C0 1 dX8_wipe_31 rfl rfl ?_
  refine J_get (pc := 32) (v := .ref (ad 1)) C0 0 wR_o rfl in_X8 0 (by decide) q411 rfl dX8_wipe_32 ?_
  refine J_iload_n (pc := 35) C0 2 dX8_wipe_35 rfl rfl ?_
  refine J_aload_n (pc := 36) C0 1 dX8_wipe_36 rfl rfl ?_
  refine J_get (pc := 37) (v := .ref (ad 1)) C0 0 wR_o rfl in_X8 0 (by decide) q411 rfl dX8_wipe_37 ?_
  refine J_iload_n (pc := 40) C0 2 dX8_wipe_40 rfl rfl ?_
  refine J_iald (pc := 41) C0 1 0 wR_a1 rfl dX8_wipe_41 (fun h_41 => ?_)
  refine J_if_le (pc := 42) (tgt := 49) C0 dX8_wipe_42 (by decide) (fun h_42 => ?_) (fun h_42 => ?_)
  · refine J_aload_n (pc := 49) C0 1 dX8_wipe_49 rfl rfl ?_
    refine J_get (pc := 50) (v := .ref (ad 1)) C0 0 wR_o rfl in_X8 0 (by decide) q411 rfl dX8_wipe_50 ?_
    refine J_iload_n (pc := 53) C0 2 dX8_wipe_53 rfl rfl ?_
    refine J_iald (pc := 54) C0 1 0 wR_a1 rfl dX8_wipe_54 (fun h_54 => ?_)
    refine J_iast (pc := 55) (σ' := (rsu σ 0 (ix x2) (σ.1 0 (ix x2)))) C0 1 0 wR_a1 rfl wR_s1 dX8_wipe_55 (fun h_55 => ?_)
    refine J_iinc (pc := 56) (d := 1) (lv' := [(2, .int (x2 + 1)), (1, .int (y1 + y0)), (0, .ref (ad 0))]) C0 2 dX8_wipe_56 rfl (by decide) (by decide) rfl ?_
    refine J_goto (pc := 59) (tgt := 8) C0 dX8_wipe_59 (by decide) ?_
    refine J_sub (lv' := [(0, .ref (ad 0)), (1, .int (y1 + y0)), (2, .int (x2 + 1))]) [2, 1, 0] rfl ?_
    exact hk8 (rsu σ 0 (ix x2) (σ.1 0 (ix x2))) (y1 + y0) (x2 + 1)
  · refine J_iconst (pc := 45) (v := 0) C0 dX8_wipe_45 (by decide) ?_
    refine J_goto (pc := 46) (tgt := 55) C0 dX8_wipe_46 (by decide) ?_
    refine J_iast (pc := 55) (σ' := (rsu σ 0 (ix x2) 0)) C0 1 0 wR_a1 rfl wR_s1 dX8_wipe_55 (fun h_55 => ?_)
    refine J_iinc (pc := 56) (d := 1) (lv' := [(2, .int (x2 + 1)), (1, .int (y1 + y0)), (0, .ref (ad 0))]) C0 2 dX8_wipe_56 rfl (by decide) (by decide) rfl ?_
    refine J_goto (pc := 59) (tgt := 8) C0 dX8_wipe_59 (by decide) ?_
    refine J_sub (lv' := [(0, .ref (ad 0)), (1, .int (y1 + y0)), (2, .int (x2 + 1))]) [2, 1, 0] rfl ?_
    exact hk8 (rsu σ 0 (ix x2) 0) (y1 + y0) (x2 + 1)
set_option maxRecDepth 100000 in
set_option maxHeartbeats 4000000 in
theorem j_X8_wipe_L8 (C0 : Cx D (tyA cI cZ) RX8 cX8_wipe 3 (some .int) p s m args meth c) : ∀ (n : Nat) (σ : SR) (x1 : Int32) (x2 : Int32), J p l e (Rm 2) s m args below meth c D A (wR ad cI cZ) 3 (QI D A (wR ad cI cZ)) (f_X8_wipe_L8 n σ x1 x2) σ [(0, .ref (ad 0)), (1, .int x1), (2, .int x2)] [] 8 := by
  intro n
  induction n with
  | zero => intros; exact J_none
  | succ n ih =>
    intro σ x1 x2
    refine J_eq (f_X8_wipe_L8_s  n σ x1 x2) ?_
    refine J_iload_n (pc := 8) C0 2 dX8_wipe_8 rfl rfl ?_
    refine J_bipush (pc := 9) (v := (nI 16)) C0 dX8_wipe_9 (by decide) ?_
    refine J_icmp_ge (pc := 11) (tgt := 62) C0 dX8_wipe_11 (by decide) (fun h_11 => ?_) (fun h_11 => ?_)
    · refine J_iload_n (pc := 62) C0 1 dX8_wipe_62 rfl rfl ?_
      exact J_iret C0 dX8_wipe_63
    · refine J_iload_n (pc := 14) C0 1 dX8_wipe_14 rfl rfl ?_
      refine J_aload_n (pc := 15) C0 0 dX8_wipe_15 rfl rfl ?_
      refine J_get (pc := 16) (v := .ref (ad 1)) C0 0 wR_o rfl in_X8 0 (by decide) q411 rfl dX8_wipe_16 ?_
      refine J_iload_n (pc := 19) C0 2 dX8_wipe_19 rfl rfl ?_
      refine J_iald (pc := 20) C0 1 0 wR_a1 rfl dX8_wipe_20 (fun h_20 => ?_)
      refine J_if_le (pc := 21) (tgt := 28) C0 dX8_wipe_21 (by decide) (fun h_21 => ?_) (fun h_21 => ?_)
      · refine J_iconst (pc := 28) (v := 0) C0 dX8_wipe_28 (by decide) ?_
        refine J_sub (lv' := [(0, .ref (ad 0)), (2, .int x2)]) [0, 2] rfl ?_
        exact j_X8_wipe_K29 C0 _ σ x2 0 x1 ih
      · refine J_iconst (pc := 24) (v := 1) C0 dX8_wipe_24 (by decide) ?_
        refine J_goto (pc := 25) (tgt := 29) C0 dX8_wipe_25 (by decide) ?_
        refine J_sub (lv' := [(0, .ref (ad 0)), (2, .int x2)]) [0, 2] rfl ?_
        exact j_X8_wipe_K29 C0 _ σ x2 1 x1 ih
set_option maxRecDepth 100000 in
set_option maxHeartbeats 4000000 in
theorem c_X8_wipe {l : Launch} {D : va_G} {cI cZ : ClassId} {A : Nat → Prop} {ad : Nat → Nat} (σ : SR)   (r : (Int32 × SR)) (h : f_X8_wipe σ = some r) : Met l yX8_wipe (.code yX8_wipe cX8_wipe 3 (some .int) :: wG) (Rm 2) (PreW D (tyA cI cZ) A (wR ad cI cZ) [.ref (ad 0)] σ) (QI D A (wR ad cI cZ) r) 0 0 A := by
  refine met_of (M := f_X8_wipe σ) (Qc := (QI D A (wR ad cI cZ))) (by decide) (Nat.le_of_ble_eq_true rfl) h (fun p e s m below meth c C0 => ?_)
  generalize hargs : ([.ref (ad 0)] : List Value).toArray = args at C0 ⊢
  have C0 : Cx D (tyA cI cZ) RX8 cX8_wipe 3 (some .int) p s m args meth c := C0
  refine J_sub (lv' := [(0, .ref (ad 0))]) [0] rfl ?_
  unfold f_X8_wipe
  refine J_aload_n (pc := 0) C0 0 dX8_wipe_0 rfl rfl ?_
  refine fin_V (fun r_ h_ => run_V (As := []) (rest := []) (q0 := 0) C0 (c_X8_remember σ   r_ h_) v_X8_remember q439 wR_o rfl rfl ⟨rfl, rfl⟩ (Rm_ok (by decide) (by decide)) rfl (Nat.le_of_ble_eq_true rfl) dX8_wipe_1) (fun σ1 e1 => ?_)
  refine J_iconst (pc := 4) (v := 0) C0 dX8_wipe_4 (by decide) ?_
  refine J_istore_n (pc := 5) (lv' := [(1, .int 0), (0, .ref (ad 0))]) C0 dX8_wipe_5 rfl (by decide) rfl ?_
  refine J_iconst (pc := 6) (v := 0) C0 dX8_wipe_6 (by decide) ?_
  refine J_istore_n (pc := 7) (lv' := [(2, .int 0), (1, .int 0), (0, .ref (ad 0))]) C0 dX8_wipe_7 rfl (by decide) rfl ?_
  refine J_sub (lv' := [(0, .ref (ad 0)), (1, .int 0), (2, .int 0)]) [2, 1, 0] rfl ?_
  exact j_X8_wipe_L8 C0 FU σ1 0 0
end SE

def f_X8_changed (σ : SR)  : Option (Int32 × SR) :=
  ((f_X8_laySlots σ).bind fun σ1 => (some ((σ1.1 9 2), σ1)))
section SE
variable {p : Program} {l : Launch} {e : Env} {s : State} {m : MethodId} {args : Array Value} {below : List Frame} {meth : Method} {c : Code} {D : va_G} {cI cZ : ClassId} {A : Nat → Prop} {ad : Nat → Nat}
set_option maxRecDepth 100000 in
set_option maxHeartbeats 4000000 in
theorem c_X8_changed {l : Launch} {D : va_G} {cI cZ : ClassId} {A : Nat → Prop} {ad : Nat → Nat} (σ : SR)   (r : (Int32 × SR)) (h : f_X8_changed σ = some r) : Met l yX8_changed (.code yX8_changed cX8_changed 1 (some .int) :: wG) (Rm 3) (PreW D (tyA cI cZ) A (wR ad cI cZ) [.ref (ad 0)] σ) (QI D A (wR ad cI cZ) r) 0 0 A := by
  refine met_of (M := f_X8_changed σ) (Qc := (QI D A (wR ad cI cZ))) (by decide) (Nat.le_of_ble_eq_true rfl) h (fun p e s m below meth c C0 => ?_)
  generalize hargs : ([.ref (ad 0)] : List Value).toArray = args at C0 ⊢
  have C0 : Cx D (tyA cI cZ) RX8 cX8_changed 1 (some .int) p s m args meth c := C0
  refine J_sub (lv' := [(0, .ref (ad 0))]) [0] rfl ?_
  unfold f_X8_changed
  refine J_aload_n (pc := 0) C0 0 dX8_changed_0 rfl rfl ?_
  refine fin_V (fun r_ h_ => run_V (As := []) (rest := []) (q0 := 0) C0 (c_X8_laySlots σ   r_ h_) v_X8_laySlots q450 wR_o rfl rfl ⟨rfl, rfl⟩ (Rm_ok (by decide) (by decide)) rfl (Nat.le_of_ble_eq_true rfl) dX8_changed_1) (fun σ1 e1 => ?_)
  refine J_aload_n (pc := 4) C0 0 dX8_changed_4 rfl rfl ?_
  refine J_get (pc := 5) (v := .int (σ1.1 9 2)) C0 0 wR_o rfl in_X8 6 (by decide) q395 rfl dX8_changed_5 ?_
  exact J_iret C0 dX8_changed_8
end SE

def f_X8_common_L2 (σ : SR) (x1 : Int32) (x2 : Int32) (kx45 : Option Int32) : Nat → Int32 → Option Int32
  | 0, _ => none
  | n + 1, x3 =>
  (if inb x1 8 = true then (if (σ.1 5 (ix x1)) ≤ x3 then kx45 else (if x1 = x2 then kx45 else ((f_X8_cellOf σ x1 x3).bind fun r22 => ((f_X8_placeIn σ x2 r22).bind fun r25 => (if r25 = (-1) then (f_X8_common_L2 σ x1 x2 kx45 n (x3 + 1)) else ((f_X8_cellOf σ x1 x3).bind fun r35 => (some r35))))))) else none)
theorem f_X8_common_L2_s (σ : SR) (x1 : Int32) (x2 : Int32) (kx45 : Option Int32) (n : Nat) (x3 : Int32) : f_X8_common_L2 σ x1 x2 kx45 (n + 1) x3 = ((if inb x1 8 = true then (if (σ.1 5 (ix x1)) ≤ x3 then kx45 else (if x1 = x2 then kx45 else ((f_X8_cellOf σ x1 x3).bind fun r22 => ((f_X8_placeIn σ x2 r22).bind fun r25 => (if r25 = (-1) then (f_X8_common_L2 σ x1 x2 kx45 n (x3 + 1)) else ((f_X8_cellOf σ x1 x3).bind fun r35 => (some r35))))))) else none)) := rfl
def f_X8_common (σ : SR) (x1 : Int32) (x2 : Int32) : Option Int32 :=
  (f_X8_common_L2 σ x1 x2 ((some (-1))) FU 0)
section SE
variable {p : Program} {l : Launch} {e : Env} {s : State} {m : MethodId} {args : Array Value} {below : List Frame} {meth : Method} {c : Code} {D : va_G} {cI cZ : ClassId} {A : Nat → Prop} {ad : Nat → Nat}
set_option maxRecDepth 100000 in
set_option maxHeartbeats 4000000 in
theorem j_X8_common_L2 (C0 : Cx D (tyA cI cZ) RX8 cX8_common 4 (some .int) p s m args meth c) (σ : SR) (x1 : Int32) (x2 : Int32) (kx45 : Option Int32) (hkx45 : J p l e (Rm 3) s m args below meth c D A (wR ad cI cZ) 4 (fun r => QI D A (wR ad cI cZ) (r, σ)) kx45 σ [] [] 45) : ∀ (n : Nat) (x3 : Int32), J p l e (Rm 3) s m args below meth c D A (wR ad cI cZ) 4 (fun r => QI D A (wR ad cI cZ) (r, σ)) (f_X8_common_L2 σ x1 x2 kx45 n x3) σ [(0, .ref (ad 0)), (1, .int x1), (2, .int x2), (3, .int x3)] [] 2 := by
  intro n
  induction n with
  | zero => intros; exact J_none
  | succ n ih =>
    intro x3
    refine J_eq (f_X8_common_L2_s σ x1 x2 kx45 n x3) ?_
    refine J_iload_n (pc := 2) C0 3 dX8_common_2 rfl rfl ?_
    refine J_aload_n (pc := 3) C0 0 dX8_common_3 rfl rfl ?_
    refine J_get (pc := 4) (v := .ref (ad 6)) C0 0 wR_o rfl in_X8 8 (by decide) q412 rfl dX8_common_4 ?_
    refine J_iload_n (pc := 7) C0 1 dX8_common_7 rfl rfl ?_
    refine J_iald (pc := 8) C0 6 0 wR_a6 rfl dX8_common_8 (fun h_8 => ?_)
    refine J_icmp_ge (pc := 9) (tgt := 45) C0 dX8_common_9 (by decide) (fun h_9 => ?_) (fun h_9 => ?_)
    · refine J_sub (lv' := []) [] rfl ?_
      exact hkx45
    · refine J_iload_n (pc := 12) C0 1 dX8_common_12 rfl rfl ?_
      refine J_iload_n (pc := 13) C0 2 dX8_common_13 rfl rfl ?_
      refine J_icmp_eq (pc := 14) (tgt := 45) C0 dX8_common_14 (by decide) (fun h_14 => ?_) (fun h_14 => ?_)
      · refine J_sub (lv' := []) [] rfl ?_
        exact hkx45
      · refine J_aload_n (pc := 17) C0 0 dX8_common_17 rfl rfl ?_
        refine J_iload_n (pc := 18) C0 2 dX8_common_18 rfl rfl ?_
        refine J_aload_n (pc := 19) C0 0 dX8_common_19 rfl rfl ?_
        refine J_iload_n (pc := 20) C0 1 dX8_common_20 rfl rfl ?_
        refine J_iload_n (pc := 21) C0 3 dX8_common_21 rfl rfl ?_
        refine fin_P (fun r_ h_ => run_V (As := [.int x1, .int x3]) (rest := [.int x2, .ref (ad 0)]) (q0 := 0) C0 (c_X8_cellOf σ x1 x3  r_ h_) v_X8_cellOf q431 wR_o rfl rfl ⟨rfl, rfl⟩ (Rm_ok (by decide) (by decide)) rfl (Nat.le_of_ble_eq_true rfl) dX8_common_22) (fun r22 e22 => ?_)
        refine fin_P (fun r_ h_ => run_V (As := [.int x2, .int r22]) (rest := []) (q0 := 0) C0 (c_X8_placeIn σ x2 r22  r_ h_) v_X8_placeIn q454 wR_o rfl rfl ⟨rfl, rfl⟩ (Rm_ok (by decide) (by decide)) rfl (Nat.le_of_ble_eq_true rfl) dX8_common_25) (fun r25 e25 => ?_)
        refine J_iconst (pc := 28) (v := (-1)) C0 dX8_common_28 (by decide) ?_
        refine J_icmp_eq (pc := 29) (tgt := 39) C0 dX8_common_29 (by decide) (fun h_29 => ?_) (fun h_29 => ?_)
        · refine J_iinc (pc := 39) (d := 1) (lv' := [(3, .int (x3 + 1)), (0, .ref (ad 0)), (1, .int x1), (2, .int x2)]) C0 3 dX8_common_39 rfl (by decide) (by decide) rfl ?_
          refine J_goto (pc := 42) (tgt := 2) C0 dX8_common_42 (by decide) ?_
          refine J_sub (lv' := [(0, .ref (ad 0)), (1, .int x1), (2, .int x2), (3, .int (x3 + 1))]) [1, 2, 3, 0] rfl ?_
          exact ih (x3 + 1)
        · refine J_aload_n (pc := 32) C0 0 dX8_common_32 rfl rfl ?_
          refine J_iload_n (pc := 33) C0 1 dX8_common_33 rfl rfl ?_
          refine J_iload_n (pc := 34) C0 3 dX8_common_34 rfl rfl ?_
          refine fin_P (fun r_ h_ => run_V (As := [.int x1, .int x3]) (rest := []) (q0 := 0) C0 (c_X8_cellOf σ x1 x3  r_ h_) v_X8_cellOf q431 wR_o rfl rfl ⟨rfl, rfl⟩ (Rm_ok (by decide) (by decide)) rfl (Nat.le_of_ble_eq_true rfl) dX8_common_35) (fun r35 e35 => ?_)
          exact J_iretP C0 dX8_common_38
set_option maxRecDepth 100000 in
set_option maxHeartbeats 4000000 in
theorem c_X8_common {l : Launch} {D : va_G} {cI cZ : ClassId} {A : Nat → Prop} {ad : Nat → Nat} (σ : SR) (x1 : Int32) (x2 : Int32)  (r : Int32) (h : f_X8_common σ x1 x2 = some r) : Met l yX8_common (.code yX8_common cX8_common 4 (some .int) :: wG) (Rm 3) (PreW D (tyA cI cZ) A (wR ad cI cZ) [.ref (ad 0), .int x1, .int x2] σ) (QI D A (wR ad cI cZ) (r, σ)) 0 0 A := by
  refine met_of (M := f_X8_common σ x1 x2) (Qc := (fun r => QI D A (wR ad cI cZ) (r, σ))) (by decide) (Nat.le_of_ble_eq_true rfl) h (fun p e s m below meth c C0 => ?_)
  generalize hargs : ([.ref (ad 0), .int x1, .int x2] : List Value).toArray = args at C0 ⊢
  have C0 : Cx D (tyA cI cZ) RX8 cX8_common 4 (some .int) p s m args meth c := C0
  refine J_sub (lv' := [(0, .ref (ad 0)), (1, .int x1), (2, .int x2)]) [0, 1, 2] rfl ?_
  unfold f_X8_common
  refine J_iconst (pc := 0) (v := 0) C0 dX8_common_0 (by decide) ?_
  refine J_istore_n (pc := 1) (lv' := [(3, .int 0), (0, .ref (ad 0)), (1, .int x1), (2, .int x2)]) C0 dX8_common_1 rfl (by decide) rfl ?_
  refine J_sub (lv' := [(0, .ref (ad 0)), (1, .int x1), (2, .int x2), (3, .int 0)]) [1, 2, 3, 0] rfl ?_
  refine j_X8_common_L2 C0 σ x1 x2 _ ?_ FU 0
  refine J_iconst (pc := 45) (v := (-1)) C0 dX8_common_45 (by decide) ?_
  exact J_iretP C0 dX8_common_46
end SE
