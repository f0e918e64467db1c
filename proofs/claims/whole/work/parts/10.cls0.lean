def f_J6_bitCount_0f7a4 (x0 : Int32) : Option Int32 :=
  (some ((((((((x0 - ((ushr x0 (1 : Int32)) &&& (1431655765 : Int32))) &&& (858993459 : Int32)) + ((ushr (x0 - ((ushr x0 (1 : Int32)) &&& (1431655765 : Int32))) (nI 2)) &&& (858993459 : Int32))) + (ushr (((x0 - ((ushr x0 (1 : Int32)) &&& (1431655765 : Int32))) &&& (858993459 : Int32)) + ((ushr (x0 - ((ushr x0 (1 : Int32)) &&& (1431655765 : Int32))) (nI 2)) &&& (858993459 : Int32))) (nI 4))) &&& (252645135 : Int32)) + (ushr (((((x0 - ((ushr x0 (1 : Int32)) &&& (1431655765 : Int32))) &&& (858993459 : Int32)) + ((ushr (x0 - ((ushr x0 (1 : Int32)) &&& (1431655765 : Int32))) (nI 2)) &&& (858993459 : Int32))) + (ushr (((x0 - ((ushr x0 (1 : Int32)) &&& (1431655765 : Int32))) &&& (858993459 : Int32)) + ((ushr (x0 - ((ushr x0 (1 : Int32)) &&& (1431655765 : Int32))) (nI 2)) &&& (858993459 : Int32))) (nI 4))) &&& (252645135 : Int32)) (nI 8))) + (ushr ((((((x0 - ((ushr x0 (1 : Int32)) &&& (1431655765 : Int32))) &&& (858993459 : Int32)) + ((ushr (x0 - ((ushr x0 (1 : Int32)) &&& (1431655765 : Int32))) (nI 2)) &&& (858993459 : Int32))) + (ushr (((x0 - ((ushr x0 (1 : Int32)) &&& (1431655765 : Int32))) &&& (858993459 : Int32)) + ((ushr (x0 - ((ushr x0 (1 : Int32)) &&& (1431655765 : Int32))) (nI 2)) &&& (858993459 : Int32))) (nI 4))) &&& (252645135 : Int32)) + (ushr (((((x0 - ((ushr x0 (1 : Int32)) &&& (1431655765 : Int32))) &&& (858993459 : Int32)) + ((ushr (x0 - ((ushr x0 (1 : Int32)) &&& (1431655765 : Int32))) (nI 2)) &&& (858993459 : Int32))) + (ushr (((x0 - ((ushr x0 (1 : Int32)) &&& (1431655765 : Int32))) &&& (858993459 : Int32)) + ((ushr (x0 - ((ushr x0 (1 : Int32)) &&& (1431655765 : Int32))) (nI 2)) &&& (858993459 : Int32))) (nI 4))) &&& (252645135 : Int32)) (nI 8))) (nI 16))) &&& (nI 63)))
section SE
variable {p : Program} {l : Launch} {e : Env} {s : State} {m : MethodId} {args : Array Value} {below : List Frame} {meth : Method} {c : Code} {D : va_G} {cI cZ : ClassId} {A : Nat → Prop} {ad : Nat → Nat}
set_option maxRecDepth 100000 in
set_option maxHeartbeats 4000000 in
theorem c_J6_bitCount_0f7a4 {l : Launch} {D : va_G} {cI cZ : ClassId} {A : Nat → Prop} {ad : Nat → Nat} (σ : SC) (x0 : Int32)  (r : Int32) (h : f_J6_bitCount_0f7a4 x0 = some r) : Met l yJ6_bitCount_0f7a4 (.code yJ6_bitCount_0f7a4 cJ6_bitCount_0f7a4 1 (some .int) :: wG) (Rm 1) (PreW D (tyA cI cZ) A (wC ad cI) [.int x0] σ) (QI D A (wC ad cI) (r, σ)) 0 0 A := by
  refine met_of (M := f_J6_bitCount_0f7a4 x0) (Qc := (fun r => QI D A (wC ad cI) (r, σ))) (by decide) (Nat.le_of_ble_eq_true rfl) h (fun p e s m below meth c C0 => ?_)
  generalize hargs : ([.int x0] : List Value).toArray = args at C0 ⊢
  have C0 : Cx D (tyA cI cZ) RJ6 cJ6_bitCount_0f7a4 1 (some .int) p s m args meth c := C0
  refine J_sub (lv' := [(0, .int x0)]) [0] rfl ?_
  unfold f_J6_bitCount_0f7a4
  refine J_iload_n (pc := 0) C0 0 dJ6_bitCount_0f7a4_0 rfl rfl ?_
  refine J_iload_n (pc := 1) C0 0 dJ6_bitCount_0f7a4_1 rfl rfl ?_
  refine J_iconst (pc := 2) (v := 1) C0 dJ6_bitCount_0f7a4_2 (by decide) ?_
  refine J_iushr (pc := 3) C0 dJ6_bitCount_0f7a4_3 ?_
  refine J_ldcw (pc := 4) C0 q2 dJ6_bitCount_0f7a4_4 ?_
  refine J_iand (pc := 7) C0 dJ6_bitCount_0f7a4_7 ?_
  refine J_isub (pc := 8) C0 dJ6_bitCount_0f7a4_8 ?_
  refine J_istore_n (pc := 9) (lv' := [(0, .int (x0 - ((ushr x0 (1 : Int32)) &&& (1431655765 : Int32))))]) C0 dJ6_bitCount_0f7a4_9 rfl (by decide) rfl ?_
  refine J_iload_n (pc := 10) C0 0 dJ6_bitCount_0f7a4_10 rfl rfl ?_
  refine J_ldcw (pc := 11) C0 q3 dJ6_bitCount_0f7a4_11 ?_
  refine J_iand (pc := 14) C0 dJ6_bitCount_0f7a4_14 ?_
  refine J_iload_n (pc := 15) C0 0 dJ6_bitCount_0f7a4_15 rfl rfl ?_
  refine J_iconst (pc := 16) (v := (nI 2)) C0 dJ6_bitCount_0f7a4_16 (by decide) ?_
  refine J_iushr (pc := 17) C0 dJ6_bitCount_0f7a4_17 ?_
  refine J_ldcw (pc := 18) C0 q3 dJ6_bitCount_0f7a4_18 ?_
  refine J_iand (pc := 21) C0 dJ6_bitCount_0f7a4_21 ?_
  refine J_iadd (pc := 22) C0 dJ6_bitCount_0f7a4_22 ?_
  refine J_istore_n (pc := 23) (lv' := [(0, .int (((x0 - ((ushr x0 (1 : Int32)) &&& (1431655765 : Int32))) &&& (858993459 : Int32)) + ((ushr (x0 - ((ushr x0 (1 : Int32)) &&& (1431655765 : Int32))) (nI 2)) &&& (858993459 : Int32))))]) C0 dJ6_bitCount_0f7a4_23 rfl (by decide) rfl ?_
  refine J_iload_n (pc := 24) C0 0 dJ6_bitCount_0f7a4_24 rfl rfl ?_
  refine J_iload_n (pc := 25) C0 0 dJ6_bitCount_0f7a4_25 rfl rfl ?_
  refine J_iconst (pc := 26) (v := (nI 4)) C0 dJ6_bitCount_0f7a4_26 (by decide) ?_
  refine J_iushr (pc := 27) C0 dJ6_bitCount_0f7a4_27 ?_
  refine J_iadd (pc := 28) C0 dJ6_bitCount_0f7a4_28 ?_
  refine J_ldcw (pc := 29) C0 q4 dJ6_bitCount_0f7a4_29 ?_
  refine J_iand (pc := 32) C0 dJ6_bitCount_0f7a4_32 ?_
  refine J_istore_n (pc := 33) (lv' := [(0, .int (((((x0 - ((ushr x0 (1 : Int32)) &&& (1431655765 : Int32))) &&& (858993459 : Int32)) + ((ushr (x0 - ((ushr x0 (1 : Int32)) &&& (1431655765 : Int32))) (nI 2)) &&& (858993459 : Int32))) + (ushr (((x0 - ((ushr x0 (1 : Int32)) &&& (1431655765 : Int32))) &&& (858993459 : Int32)) + ((ushr (x0 - ((ushr x0 (1 : Int32)) &&& (1431655765 : Int32))) (nI 2)) &&& (858993459 : Int32))) (nI 4))) &&& (252645135 : Int32)))]) C0 dJ6_bitCount_0f7a4_33 rfl (by decide) rfl ?_
  refine J_iload_n (pc := 34) C0 0 dJ6_bitCount_0f7a4_34 rfl rfl ?_
  refine J_iload_n (pc := 35) C0 0 dJ6_bitCount_0f7a4_35 rfl rfl ?_
  refine J_bipush (pc := 36) (v := (nI 8)) C0 dJ6_bitCount_0f7a4_36 (by decide) ?_
  refine J_iushr (pc := 38) C0 dJ6_bitCount_0f7a4_38 ?_
  refine J_iadd (pc := 39) C0 dJ6_bitCount_0f7a4_39 ?_
  refine J_istore_n (pc := 40) (lv' := [(0, .int ((((((x0 - ((ushr x0 (1 : Int32)) &&& (1431655765 : Int32))) &&& (858993459 : Int32)) + ((ushr (x0 - ((ushr x0 (1 : Int32)) &&& (1431655765 : Int32))) (nI 2)) &&& (858993459 : Int32))) + (ushr (((x0 - ((ushr x0 (1 : Int32)) &&& (1431655765 : Int32))) &&& (858993459 : Int32)) + ((ushr (x0 - ((ushr x0 (1 : Int32)) &&& (1431655765 : Int32))) (nI 2)) &&& (858993459 : Int32))) (nI 4))) &&& (252645135 : Int32)) + (ushr (((((x0 - ((ushr x0 (1 : Int32)) &&& (1431655765 : Int32))) &&& (858993459 : Int32)) + ((ushr (x0 - ((ushr x0 (1 : Int32)) &&& (1431655765 : Int32))) (nI 2)) &&& (858993459 : Int32))) + (ushr (((x0 - ((ushr x0 (1 : Int32)) &&& (1431655765 : Int32))) &&& (858993459 : Int32)) + ((ushr (x0 - ((ushr x0 (1 : Int32)) &&& (1431655765 : Int32))) (nI 2)) &&& (858993459 : Int32))) (nI 4))) &&& (252645135 : Int32)) (nI 8))))]) C0 dJ6_bitCount_0f7a4_40 rfl (by decide) rfl ?_
  refine J_iload_n (pc := 41) C0 0 dJ6_bitCount_0f7a4_41 rfl rfl ?_
  refine J_iload_n (pc := 42) C0 0 dJ6_bitCount_0f7a4_42 rfl rfl ?_
  refine J_bipush (pc := 43) (v := (nI 16)) C0 dJ6_bitCount_0f7a4_43 (by decide) ?_
  refine J_iushr (pc := 45) C0 dJ6_bitCount_0f7a4_45 ?_
  refine J_iadd (pc := 46) C0 dJ6_bitCount_0f7a4_46 ?_
  refine J_istore_n (pc := 47) (lv' := [(0, .int (((((((x0 - ((ushr x0 (1 : Int32)) &&& (1431655765 : Int32))) &&& (858993459 : Int32)) + ((ushr (x0 - ((ushr x0 (1 : Int32)) &&& (1431655765 : Int32))) (nI 2)) &&& (858993459 : Int32))) + (ushr (((x0 - ((ushr x0 (1 : Int32)) &&& (1431655765 : Int32))) &&& (858993459 : Int32)) + ((ushr (x0 - ((ushr x0 (1 : Int32)) &&& (1431655765 : Int32))) (nI 2)) &&& (858993459 : Int32))) (nI 4))) &&& (252645135 : Int32)) + (ushr (((((x0 - ((ushr x0 (1 : Int32)) &&& (1431655765 : Int32))) &&& (858993459 : Int32)) + ((ushr (x0 - ((ushr x0 (1 : Int32)) &&& (1431655765 : Int32))) (nI 2)) &&& (858993459 : Int32))) + (ushr (((x0 - ((ushr x0 (1 : Int32)) &&& (1431655765 : Int32))) &&& (858993459 : Int32)) + ((ushr (x0 - ((ushr x0 (1 : Int32)) &&& (1431655765 : Int32))) (nI 2)) &&& (858993459 : Int32))) (nI 4))) &&& (252645135 : Int32)) (nI 8))) + (ushr ((((((x0 - ((ushr x0 (1 : Int32)) &&& (1431655765 : Int32))) &&& (858993459 : Int32)) + ((ushr (x0 - ((ushr x0 (1 : Int32)) &&& (1431655765 : Int32))) (nI 2)) &&& (858993459 : Int32))) + (ushr (((x0 - ((ushr x0 (1 : Int32)) &&& (1431655765 : Int32))) &&& (858993459 : Int32)) + ((ushr (x0 - ((ushr x0 (1 : Int32)) &&& (1431655765 : Int32))) (nI 2)) &&& (858993459 : Int32))) (nI 4))) &&& (252645135 : Int32)) + (ushr (((((x0 - ((ushr x0 (1 : Int32)) &&& (1431655765 : Int32))) &&& (858993459 : Int32)) + ((ushr (x0 - ((ushr x0 (1 : Int32)) &&& (1431655765 : Int32))) (nI 2)) &&& (858993459 : Int32))) + (ushr (((x0 - ((ushr x0 (1 : Int32)) &&& (1431655765 : Int32))) &&& (858993459 : Int32)) + ((ushr (x0 - ((ushr x0 (1 : Int32)) &&& (1431655765 : Int32))) (nI 2)) &&& (858993459 : Int32))) (nI 4))) &&& (252645135 : Int32)) (nI 8))) (nI 16))))]) C0 dJ6_bitCount_0f7a4_47 rfl (by decide) rfl ?_
  refine J_iload_n (pc := 48) C0 0 dJ6_bitCount_0f7a4_48 rfl rfl ?_
  refine J_bipush (pc := 49) (v := (nI 63)) C0 dJ6_bitCount_0f7a4_49 (by decide) ?_
  refine J_iand (pc := 51) C0 dJ6_bitCount_0f7a4_51 ?_
  exact J_iretP C0 dJ6_bitCount_0f7a4_52
end SE

def f_X6_isDown (σ : SC) (x1 : Int32) : Option Int32 :=
  (if x1 < (σ 17 2) then (some 0) else (some 1))
section SE
variable {p : Program} {l : Launch} {e : Env} {s : State} {m : MethodId} {args : Array Value} {below : List Frame} {meth : Method} {c : Code} {D : va_G} {cI cZ : ClassId} {A : Nat → Prop} {ad : Nat → Nat}
set_option maxRecDepth 100000 in
set_option maxHeartbeats 4000000 in
theorem c_X6_isDown {l : Launch} {D : va_G} {cI cZ : ClassId} {A : Nat → Prop} {ad : Nat → Nat} (σ : SC) (x1 : Int32)  (r : Int32) (h : f_X6_isDown σ x1 = some r) : Met l yX6_isDown (.code yX6_isDown cX6_isDown 2 (some .boolean) :: wG) (Rm 1) (PreW D (tyA cI cZ) A (wC ad cI) [.ref (ad 36), .int x1] σ) (QI D A (wC ad cI) (r, σ)) 0 0 A := by
  refine met_of (M := f_X6_isDown σ x1) (Qc := (fun r => QI D A (wC ad cI) (r, σ))) (by decide) (Nat.le_of_ble_eq_true rfl) h (fun p e s m below meth c C0 => ?_)
  generalize hargs : ([.ref (ad 36), .int x1] : List Value).toArray = args at C0 ⊢
  have C0 : Cx D (tyA cI cZ) RX6 cX6_isDown 2 (some .boolean) p s m args meth c := C0
  refine J_sub (lv' := [(0, .ref (ad 36)), (1, .int x1)]) [0, 1] rfl ?_
  unfold f_X6_isDown
  refine J_iload_n (pc := 0) C0 1 dX6_isDown_0 rfl rfl ?_
  refine J_aload_n (pc := 1) C0 0 dX6_isDown_1 rfl rfl ?_
  refine J_get (pc := 2) (v := .int (σ 17 2)) C0 36 wC_o36 rfl in_X6 7 (by decide) q5 rfl dX6_isDown_2 ?_
  refine J_icmp_lt (pc := 5) (tgt := 12) C0 dX6_isDown_5 (by decide) (fun h_5 => ?_) (fun h_5 => ?_)
  · refine J_iconst (pc := 12) (v := 0) C0 dX6_isDown_12 (by decide) ?_
    exact J_zretP0 (Or.inl rfl) C0 dX6_isDown_13
  · refine J_iconst (pc := 8) (v := 1) C0 dX6_isDown_8 (by decide) ?_
    refine J_goto (pc := 9) (tgt := 13) C0 dX6_isDown_9 (by decide) ?_
    exact J_zretP0 (Or.inr rfl) C0 dX6_isDown_13
end SE

def f_X7_isCell (x0 : Int32) : Option Int32 :=
  (if x0 < 0 then (some 0) else (if (nI 16) ≤ x0 then (some 0) else (some 1)))
section SE
variable {p : Program} {l : Launch} {e : Env} {s : State} {m : MethodId} {args : Array Value} {below : List Frame} {meth : Method} {c : Code} {D : va_G} {cI cZ : ClassId} {A : Nat → Prop} {ad : Nat → Nat}
set_option maxRecDepth 100000 in
set_option maxHeartbeats 4000000 in
theorem c_X7_isCell {l : Launch} {D : va_G} {cI cZ : ClassId} {A : Nat → Prop} {ad : Nat → Nat} (σ : SC) (x0 : Int32)  (r : Int32) (h : f_X7_isCell x0 = some r) : Met l yX7_isCell (.code yX7_isCell cX7_isCell 1 (some .boolean) :: wG) (Rm 1) (PreW D (tyA cI cZ) A (wC ad cI) [.int x0] σ) (QI D A (wC ad cI) (r, σ)) 0 0 A := by
  refine met_of (M := f_X7_isCell x0) (Qc := (fun r => QI D A (wC ad cI) (r, σ))) (by decide) (Nat.le_of_ble_eq_true rfl) h (fun p e s m below meth c C0 => ?_)
  generalize hargs : ([.int x0] : List Value).toArray = args at C0 ⊢
  have C0 : Cx D (tyA cI cZ) RX7 cX7_isCell 1 (some .boolean) p s m args meth c := C0
  refine J_sub (lv' := [(0, .int x0)]) [0] rfl ?_
  unfold f_X7_isCell
  refine J_iload_n (pc := 0) C0 0 dX7_isCell_0 rfl rfl ?_
  refine J_if_lt (pc := 1) (tgt := 14) C0 dX7_isCell_1 (by decide) (fun h_1 => ?_) (fun h_1 => ?_)
  · refine J_iconst (pc := 14) (v := 0) C0 dX7_isCell_14 (by decide) ?_
    exact J_zretP0 (Or.inl rfl) C0 dX7_isCell_15
  · refine J_iload_n (pc := 4) C0 0 dX7_isCell_4 rfl rfl ?_
    refine J_bipush (pc := 5) (v := (nI 16)) C0 dX7_isCell_5 (by decide) ?_
    refine J_icmp_ge (pc := 7) (tgt := 14) C0 dX7_isCell_7 (by decide) (fun h_7 => ?_) (fun h_7 => ?_)
    · refine J_iconst (pc := 14) (v := 0) C0 dX7_isCell_14 (by decide) ?_
      exact J_zretP0 (Or.inl rfl) C0 dX7_isCell_15
    · refine J_iconst (pc := 10) (v := 1) C0 dX7_isCell_10 (by decide) ?_
      refine J_goto (pc := 11) (tgt := 15) C0 dX7_isCell_11 (by decide) ?_
      exact J_zretP0 (Or.inr rfl) C0 dX7_isCell_15
end SE

def f_X7_isImage (x0 : Int32) : Option Int32 :=
  (if x0 < 0 then (some 0) else (if (nI 2) ≤ x0 then (some 0) else (some 1)))
section SE
variable {p : Program} {l : Launch} {e : Env} {s : State} {m : MethodId} {args : Array Value} {below : List Frame} {meth : Method} {c : Code} {D : va_G} {cI cZ : ClassId} {A : Nat → Prop} {ad : Nat → Nat}
set_option maxRecDepth 100000 in
set_option maxHeartbeats 4000000 in
theorem c_X7_isImage {l : Launch} {D : va_G} {cI cZ : ClassId} {A : Nat → Prop} {ad : Nat → Nat} (σ : SC) (x0 : Int32)  (r : Int32) (h : f_X7_isImage x0 = some r) : Met l yX7_isImage (.code yX7_isImage cX7_isImage 1 (some .boolean) :: wG) (Rm 1) (PreW D (tyA cI cZ) A (wC ad cI) [.int x0] σ) (QI D A (wC ad cI) (r, σ)) 0 0 A := by
  refine met_of (M := f_X7_isImage x0) (Qc := (fun r => QI D A (wC ad cI) (r, σ))) (by decide) (Nat.le_of_ble_eq_true rfl) h (fun p e s m below meth c C0 => ?_)
  generalize hargs : ([.int x0] : List Value).toArray = args at C0 ⊢
  have C0 : Cx D (tyA cI cZ) RX7 cX7_isImage 1 (some .boolean) p s m args meth c := C0
  refine J_sub (lv' := [(0, .int x0)]) [0] rfl ?_
  unfold f_X7_isImage
  refine J_iload_n (pc := 0) C0 0 dX7_isImage_0 rfl rfl ?_
  refine J_if_lt (pc := 1) (tgt := 13) C0 dX7_isImage_1 (by decide) (fun h_1 => ?_) (fun h_1 => ?_)
  · refine J_iconst (pc := 13) (v := 0) C0 dX7_isImage_13 (by decide) ?_
    exact J_zretP0 (Or.inl rfl) C0 dX7_isImage_14
  · refine J_iload_n (pc := 4) C0 0 dX7_isImage_4 rfl rfl ?_
    refine J_iconst (pc := 5) (v := (nI 2)) C0 dX7_isImage_5 (by decide) ?_
    refine J_icmp_ge (pc := 6) (tgt := 13) C0 dX7_isImage_6 (by decide) (fun h_6 => ?_) (fun h_6 => ?_)
    · refine J_iconst (pc := 13) (v := 0) C0 dX7_isImage_13 (by decide) ?_
      exact J_zretP0 (Or.inl rfl) C0 dX7_isImage_14
    · refine J_iconst (pc := 9) (v := 1) C0 dX7_isImage_9 (by decide) ?_
      refine J_goto (pc := 10) (tgt := 14) C0 dX7_isImage_10 (by decide) ?_
      exact J_zretP0 (Or.inr rfl) C0 dX7_isImage_14
end SE

def f_X7_isLetter (x0 : Int32) : Option Int32 :=
  (if x0 < (nI 97) then (some 0) else (if (nI 103) ≤ x0 then (some 0) else (some 1)))
section SE
variable {p : Program} {l : Launch} {e : Env} {s : State} {m : MethodId} {args : Array Value} {below : List Frame} {meth : Method} {c : Code} {D : va_G} {cI cZ : ClassId} {A : Nat → Prop} {ad : Nat → Nat}
set_option maxRecDepth 100000 in
set_option maxHeartbeats 4000000 in
theorem c_X7_isLetter {l : Launch} {D : va_G} {cI cZ : ClassId} {A : Nat → Prop} {ad : Nat → Nat} (σ : SC) (x0 : Int32)  (r : Int32) (h : f_X7_isLetter x0 = some r) : Met l yX7_isLetter (.code yX7_isLetter cX7_isLetter 1 (some .boolean) :: wG) (Rm 1) (PreW D (tyA cI cZ) A (wC ad cI) [.int x0] σ) (QI D A (wC ad cI) (r, σ)) 0 0 A := by
  refine met_of (M := f_X7_isLetter x0) (Qc := (fun r => QI D A (wC ad cI) (r, σ))) (by decide) (Nat.le_of_ble_eq_true rfl) h (fun p e s m below meth c C0 => ?_)
  generalize hargs : ([.int x0] : List Value).toArray = args at C0 ⊢
  have C0 : Cx D (tyA cI cZ) RX7 cX7_isLetter 1 (some .boolean) p s m args meth c := C0
  refine J_sub (lv' := [(0, .int x0)]) [0] rfl ?_
  unfold f_X7_isLetter
  refine J_iload_n (pc := 0) C0 0 dX7_isLetter_0 rfl rfl ?_
  refine J_bipush (pc := 1) (v := (nI 97)) C0 dX7_isLetter_1 (by decide) ?_
  refine J_icmp_lt (pc := 3) (tgt := 16) C0 dX7_isLetter_3 (by decide) (fun h_3 => ?_) (fun h_3 => ?_)
  · refine J_iconst (pc := 16) (v := 0) C0 dX7_isLetter_16 (by decide) ?_
    exact J_zretP0 (Or.inl rfl) C0 dX7_isLetter_17
  · refine J_iload_n (pc := 6) C0 0 dX7_isLetter_6 rfl rfl ?_
    refine J_bipush (pc := 7) (v := (nI 103)) C0 dX7_isLetter_7 (by decide) ?_
    refine J_icmp_ge (pc := 9) (tgt := 16) C0 dX7_isLetter_9 (by decide) (fun h_9 => ?_) (fun h_9 => ?_)
    · refine J_iconst (pc := 16) (v := 0) C0 dX7_isLetter_16 (by decide) ?_
      exact J_zretP0 (Or.inl rfl) C0 dX7_isLetter_17
    · refine J_iconst (pc := 12) (v := 1) C0 dX7_isLetter_12 (by decide) ?_
      refine J_goto (pc := 13) (tgt := 17) C0 dX7_isLetter_13 (by decide) ?_
      exact J_zretP0 (Or.inr rfl) C0 dX7_isLetter_17
end SE

def f_X7_isSlot (σ : SC) (x1 : Int32) : Option Int32 :=
  (if x1 < 0 then (some 0) else (if (σ 17 1) ≤ x1 then (some 0) else (some 1)))
section SE
variable {p : Program} {l : Launch} {e : Env} {s : State} {m : MethodId} {args : Array Value} {below : List Frame} {meth : Method} {c : Code} {D : va_G} {cI cZ : ClassId} {A : Nat → Prop} {ad : Nat → Nat}
set_option maxRecDepth 100000 in
set_option maxHeartbeats 4000000 in
theorem c_X7_isSlot {l : Launch} {D : va_G} {cI cZ : ClassId} {A : Nat → Prop} {ad : Nat → Nat} (σ : SC) (x1 : Int32)  (r : Int32) (h : f_X7_isSlot σ x1 = some r) : Met l yX7_isSlot (.code yX7_isSlot cX7_isSlot 2 (some .boolean) :: wG) (Rm 1) (PreW D (tyA cI cZ) A (wC ad cI) [.ref (ad 34), .int x1] σ) (QI D A (wC ad cI) (r, σ)) 0 0 A := by
  refine met_of (M := f_X7_isSlot σ x1) (Qc := (fun r => QI D A (wC ad cI) (r, σ))) (by decide) (Nat.le_of_ble_eq_true rfl) h (fun p e s m below meth c C0 => ?_)
  generalize hargs : ([.ref (ad 34), .int x1] : List Value).toArray = args at C0 ⊢
  have C0 : Cx D (tyA cI cZ) RX7 cX7_isSlot 2 (some .boolean) p s m args meth c := C0
  refine J_sub (lv' := [(0, .ref (ad 34)), (1, .int x1)]) [0, 1] rfl ?_
  unfold f_X7_isSlot
  refine J_iload_n (pc := 0) C0 1 dX7_isSlot_0 rfl rfl ?_
  refine J_if_lt (pc := 1) (tgt := 19) C0 dX7_isSlot_1 (by decide) (fun h_1 => ?_) (fun h_1 => ?_)
  · refine J_iconst (pc := 19) (v := 0) C0 dX7_isSlot_19 (by decide) ?_
    exact J_zretP0 (Or.inl rfl) C0 dX7_isSlot_20
  · refine J_iload_n (pc := 4) C0 1 dX7_isSlot_4 rfl rfl ?_
    refine J_aload_n (pc := 5) C0 0 dX7_isSlot_5 rfl rfl ?_
    refine J_get (pc := 6) (v := .ref (ad 36)) C0 34 wC_o34 rfl in_X7 1 (by decide) q15 rfl dX7_isSlot_6 ?_
    refine J_getN (pc := 9) (v := .int (σ 17 1)) C0 36 wC_o36 rfl in_X6 6 (by decide) q22 rfl dX7_isSlot_9 ?_
    refine J_icmp_ge (pc := 12) (tgt := 19) C0 dX7_isSlot_12 (by decide) (fun h_12 => ?_) (fun h_12 => ?_)
    · refine J_iconst (pc := 19) (v := 0) C0 dX7_isSlot_19 (by decide) ?_
      exact J_zretP0 (Or.inl rfl) C0 dX7_isSlot_20
    · refine J_iconst (pc := 15) (v := 1) C0 dX7_isSlot_15 (by decide) ?_
      refine J_goto (pc := 16) (tgt := 20) C0 dX7_isSlot_16 (by decide) ?_
      exact J_zretP0 (Or.inr rfl) C0 dX7_isSlot_20
end SE

def f_X7_isWord (σ : SC) (x1 : Int32) : Option Int32 :=
  (if x1 < 0 then (some 0) else (if (σ 17 0) ≤ x1 then (some 0) else (some 1)))
section SE
variable {p : Program} {l : Launch} {e : Env} {s : State} {m : MethodId} {args : Array Value} {below : List Frame} {meth : Method} {c : Code} {D : va_G} {cI cZ : ClassId} {A : Nat → Prop} {ad : Nat → Nat}
set_option maxRecDepth 100000 in
set_option maxHeartbeats 4000000 in
theorem c_X7_isWord {l : Launch} {D : va_G} {cI cZ : ClassId} {A : Nat → Prop} {ad : Nat → Nat} (σ : SC) (x1 : Int32)  (r : Int32) (h : f_X7_isWord σ x1 = some r) : Met l yX7_isWord (.code yX7_isWord cX7_isWord 2 (some .boolean) :: wG) (Rm 1) (PreW D (tyA cI cZ) A (wC ad cI) [.ref (ad 34), .int x1] σ) (QI D A (wC ad cI) (r, σ)) 0 0 A := by
  refine met_of (M := f_X7_isWord σ x1) (Qc := (fun r => QI D A (wC ad cI) (r, σ))) (by decide) (Nat.le_of_ble_eq_true rfl) h (fun p e s m below meth c C0 => ?_)
  generalize hargs : ([.ref (ad 34), .int x1] : List Value).toArray = args at C0 ⊢
  have C0 : Cx D (tyA cI cZ) RX7 cX7_isWord 2 (some .boolean) p s m args meth c := C0
  refine J_sub (lv' := [(0, .ref (ad 34)), (1, .int x1)]) [0, 1] rfl ?_
  unfold f_X7_isWord
  refine J_iload_n (pc := 0) C0 1 dX7_isWord_0 rfl rfl ?_
  refine J_if_lt (pc := 1) (tgt := 19) C0 dX7_isWord_1 (by decide) (fun h_1 => ?_) (fun h_1 => ?_)
  · refine J_iconst (pc := 19) (v := 0) C0 dX7_isWord_19 (by decide) ?_
    exact J_zretP0 (Or.inl rfl) C0 dX7_isWord_20
  · refine J_iload_n (pc := 4) C0 1 dX7_isWord_4 rfl rfl ?_
    refine J_aload_n (pc := 5) C0 0 dX7_isWord_5 rfl rfl ?_
    refine J_get (pc := 6) (v := .ref (ad 35)) C0 34 wC_o34 rfl in_X7 0 (by decide) q23 rfl dX7_isWord_6 ?_
    refine J_getN (pc := 9) (v := .int (σ 17 0)) C0 35 wC_o35 rfl in_X0 2 (by decide) q24 rfl dX7_isWord_9 ?_
    refine J_icmp_ge (pc := 12) (tgt := 19) C0 dX7_isWord_12 (by decide) (fun h_12 => ?_) (fun h_12 => ?_)
    · refine J_iconst (pc := 19) (v := 0) C0 dX7_isWord_19 (by decide) ?_
      exact J_zretP0 (Or.inl rfl) C0 dX7_isWord_20
    · refine J_iconst (pc := 15) (v := 1) C0 dX7_isWord_15 (by decide) ?_
      refine J_goto (pc := 16) (tgt := 20) C0 dX7_isWord_16 (by decide) ?_
      exact J_zretP0 (Or.inr rfl) C0 dX7_isWord_20
end SE

def f_X7_lengthOf_L21 (kx53 : Int32 → Option Int32) : Nat → Int32 → Int32 → Int32 → Option Int32
  | 0, _, _, _ => none
  | n + 1, x1, x2, x3 =>
  (if (nI 4) ≤ x3 then (kx53 x2) else (if x1 ≤ 0 then (kx53 x2) else (if (x1 - x1 / (nI 7) * (nI 7)) = 0 then (some 0) else (f_X7_lengthOf_L21 kx53 n (x1 / (nI 7)) (x2 + 1) (x3 + 1)))))
theorem f_X7_lengthOf_L21_s (kx53 : Int32 → Option Int32) (n : Nat) (x1 : Int32) (x2 : Int32) (x3 : Int32) : f_X7_lengthOf_L21 kx53 (n + 1) x1 x2 x3 = ((if (nI 4) ≤ x3 then (kx53 x2) else (if x1 ≤ 0 then (kx53 x2) else (if (x1 - x1 / (nI 7) * (nI 7)) = 0 then (some 0) else (f_X7_lengthOf_L21 kx53 n (x1 / (nI 7)) (x2 + 1) (x3 + 1)))))) := rfl
def f_X7_lengthOf (x0 : Int32) : Option Int32 :=
  (if x0 < (nI 8) then (some 0) else (if x0 ≤ (nI 2400) then (f_X7_lengthOf_L21 (fun x2_53 => (some x2_53)) FU x0 0 0) else (some 0)))
section SE
variable {p : Program} {l : Launch} {e : Env} {s : State} {m : MethodId} {args : Array Value} {below : List Frame} {meth : Method} {c : Code} {D : va_G} {cI cZ : ClassId} {A : Nat → Prop} {ad : Nat → Nat}
set_option maxRecDepth 100000 in
set_option maxHeartbeats 4000000 in
theorem j_X7_lengthOf_L21 (C0 : Cx D (tyA cI cZ) RX7 cX7_lengthOf 4 (some .int) p s m args meth c) (σ : SC) (kx53 : Int32 → Option Int32) (hkx53 : ∀ (x2 : Int32), J p l e (Rm 1) s m args below meth c D A (wC ad cI) 4 (fun r => QI D A (wC ad cI) (r, σ)) (kx53 x2) σ [(2, .int x2)] [] 53) : ∀ (n : Nat) (x1 : Int32) (x2 : Int32) (x3 : Int32), J p l e (Rm 1) s m args below meth c D A (wC ad cI) 4 (fun r => QI D A (wC ad cI) (r, σ)) (f_X7_lengthOf_L21 kx53 n x1 x2 x3) σ [(1, .int x1), (2, .int x2), (3, .int x3)] [] 21 := by
  intro n
  induction n with
  | zero => intros; exact J_none
  | succ n ih =>
    intro x1 x2 x3
    refine J_eq (f_X7_lengthOf_L21_s kx53 n x1 x2 x3) ?_
    refine J_iload_n (pc := 21) C0 2 dX7_lengthOf_21 rfl rfl ?_
    refine J_iconst (pc := 22) (v := (nI 4)) C0 dX7_lengthOf_22 (by decide) ?_
    refine J_icmp_ge (pc := 23) (tgt := 53) C0 dX7_lengthOf_23 (by decide) (fun h_23 => ?_) (fun h_23 => ?_)
    · refine J_sub (lv' := [(2, .int x2)]) [1] rfl ?_
      exact hkx53 x2
    · refine J_iload_n (pc := 26) C0 0 dX7_lengthOf_26 rfl rfl ?_
      refine J_if_le (pc := 27) (tgt := 53) C0 dX7_lengthOf_27 (by decide) (fun h_27 => ?_) (fun h_27 => ?_)
      · refine J_sub (lv' := [(2, .int x2)]) [1] rfl ?_
        exact hkx53 x2
      · refine J_iload_n (pc := 30) C0 0 dX7_lengthOf_30 rfl rfl ?_
        refine J_bipush (pc := 31) (v := (nI 7)) C0 dX7_lengthOf_31 (by decide) ?_
        refine J_irem (pc := 33) C0 dX7_lengthOf_33 (by decide) ?_
        refine J_if_ne (pc := 34) (tgt := 39) C0 dX7_lengthOf_34 (by decide) (fun h_34 => ?_) (fun h_34 => ?_)
        · refine J_iload_n (pc := 39) C0 0 dX7_lengthOf_39 rfl rfl ?_
          refine J_bipush (pc := 40) (v := (nI 7)) C0 dX7_lengthOf_40 (by decide) ?_
          refine J_idiv (pc := 42) C0 dX7_lengthOf_42 (by decide) ?_
          refine J_istore_n (pc := 43) (lv' := [(1, .int (x1 / (nI 7))), (2, .int x2), (3, .int x3)]) C0 dX7_lengthOf_43 rfl (by decide) rfl ?_
          refine J_iinc (pc := 44) (d := 1) (lv' := [(2, .int (x2 + 1)), (1, .int (x1 / (nI 7))), (3, .int x3)]) C0 1 dX7_lengthOf_44 rfl (by decide) (by decide) rfl ?_
          refine J_iinc (pc := 47) (d := 1) (lv' := [(3, .int (x3 + 1)), (2, .int (x2 + 1)), (1, .int (x1 / (nI 7)))]) C0 2 dX7_lengthOf_47 rfl (by decide) (by decide) rfl ?_
          refine J_goto (pc := 50) (tgt := 21) C0 dX7_lengthOf_50 (by decide) ?_
          refine J_sub (lv' := [(1, .int (x1 / (nI 7))), (2, .int (x2 + 1)), (3, .int (x3 + 1))]) [2, 1, 0] rfl ?_
          exact ih (x1 / (nI 7)) (x2 + 1) (x3 + 1)
        · refine J_iconst (pc := 37) (v := 0) C0 dX7_lengthOf_37 (by decide) ?_
          exact J_iretP C0 dX7_lengthOf_38
set_option maxRecDepth 100000 in
set_option maxHeartbeats 4000000 in
theorem c_X7_lengthOf {l : Launch} {D : va_G} {cI cZ : ClassId} {A : Nat → Prop} {ad : Nat → Nat} (σ : SC) (x0 : Int32)  (r : Int32) (h : f_X7_lengthOf x0 = some r) : Met l yX7_lengthOf (.code yX7_lengthOf cX7_lengthOf 4 (some .int) :: wG) (Rm 1) (PreW D (tyA cI cZ) A (wC ad cI) [.int x0] σ) (QI D A (wC ad cI) (r, σ)) 0 0 A := by
  refine met_of (M := f_X7_lengthOf x0) (Qc := (fun r => QI D A (wC ad cI) (r, σ))) (by decide) (Nat.le_of_ble_eq_true rfl) h (fun p e s m below meth c C0 => ?_)
  generalize hargs : ([.int x0] : List Value).toArray = args at C0 ⊢
  have C0 : Cx D (tyA cI cZ) RX7 cX7_lengthOf 4 (some .int) p s m args meth c := C0
  refine J_sub (lv' := [(0, .int x0)]) [0] rfl ?_
  unfold f_X7_lengthOf
  refine J_iload_n (pc := 0) C0 0 dX7_lengthOf_0 rfl rfl ?_
  refine J_bipush (pc := 1) (v := (nI 8)) C0 dX7_lengthOf_1 (by decide) ?_
  refine J_icmp_lt (pc := 3) (tgt := 13) C0 dX7_lengthOf_3 (by decide) (fun h_3 => ?_) (fun h_3 => ?_)
  · refine J_iconst (pc := 13) (v := 0) C0 dX7_lengthOf_13 (by decide) ?_
    exact J_iretP C0 dX7_lengthOf_14
  · refine J_iload_n (pc := 6) C0 0 dX7_lengthOf_6 rfl rfl ?_
    refine J_sipush (pc := 7) (v := (nI 2400)) C0 dX7_lengthOf_7 (by decide) ?_
    refine J_icmp_le (pc := 10) (tgt := 15) C0 dX7_lengthOf_10 (by decide) (fun h_10 => ?_) (fun h_10 => ?_)
    · refine J_iload_n (pc := 15) C0 0 dX7_lengthOf_15 rfl rfl ?_
      refine J_istore_n (pc := 16) (lv' := [(1, .int x0), (0, .int x0)]) C0 dX7_lengthOf_16 rfl (by decide) rfl ?_
      refine J_iconst (pc := 17) (v := 0) C0 dX7_lengthOf_17 (by decide) ?_
      refine J_istore_n (pc := 18) (lv' := [(2, .int 0), (1, .int x0), (0, .int x0)]) C0 dX7_lengthOf_18 rfl (by decide) rfl ?_
      refine J_iconst (pc := 19) (v := 0) C0 dX7_lengthOf_19 (by decide) ?_
      refine J_istore_n (pc := 20) (lv' := [(3, .int 0), (2, .int 0), (1, .int x0), (0, .int x0)]) C0 dX7_lengthOf_20 rfl (by decide) rfl ?_
      refine J_sub (lv' := [(1, .int x0), (2, .int 0), (3, .int 0)]) [2, 1, 0] rfl ?_
      refine j_X7_lengthOf_L21 C0 σ _ (fun x2_53 => ?_) FU x0 0 0
      refine J_iload_n (pc := 53) C0 0 dX7_lengthOf_53 rfl rfl ?_
      exact J_iretP C0 dX7_lengthOf_54
    · refine J_iconst (pc := 13) (v := 0) C0 dX7_lengthOf_13 (by decide) ?_
      exact J_iretP C0 dX7_lengthOf_14
end SE

def f_X7_nextLot (z0 : Int64) : Option Int64 :=
  (some ((z0 * 16807) - (z0 * 16807) / 2147483647 * 2147483647))
section SE
variable {p : Program} {l : Launch} {e : Env} {s : State} {m : MethodId} {args : Array Value} {below : List Frame} {meth : Method} {c : Code} {D : va_G} {cI cZ : ClassId} {A : Nat → Prop} {ad : Nat → Nat}
set_option maxRecDepth 100000 in
set_option maxHeartbeats 4000000 in
theorem c_X7_nextLot {l : Launch} {D : va_G} {cI cZ : ClassId} {A : Nat → Prop} {ad : Nat → Nat} (σ : SC) (z0 : Int64)  (r : Int64) (h : f_X7_nextLot z0 = some r) : Met l yX7_nextLot (.code yX7_nextLot cX7_nextLot 2 (some .long) :: wG) (Rm 1) (PreW D (tyA cI cZ) A (wC ad cI) [.long z0] σ) (QL D A (wC ad cI) (r, σ)) 0 0 A := by
  refine met_of (M := f_X7_nextLot z0) (Qc := (fun r => QL D A (wC ad cI) (r, σ))) (by decide) (Nat.le_of_ble_eq_true rfl) h (fun p e s m below meth c C0 => ?_)
  generalize hargs : ([.long z0] : List Value).toArray = args at C0 ⊢
  have C0 : Cx D (tyA cI cZ) RX7 cX7_nextLot 2 (some .long) p s m args meth c := C0
  refine J_sub (lv' := [(0, .long z0)]) [0] rfl ?_
  unfold f_X7_nextLot
  refine J_lload_n (pc := 0) C0 0 dX7_nextLot_0 rfl rfl ?_
  refine J_ldc2 (pc := 1) C0 q28 dX7_nextLot_1 ?_
  refine J_lmul (pc := 4) C0 dX7_nextLot_4 ?_
  refine J_ldc2 (pc := 5) C0 q29 dX7_nextLot_5 ?_
  refine J_lrem (pc := 8) C0 dX7_nextLot_8 (by decide) ?_
  exact J_lretP C0 dX7_nextLot_9
end SE

def f_X0_append (σ : SC) (x1 : Int32) : Option SC :=
  (if (nI 16) ≤ (σ 17 0) then (some σ) else (some (su (wr σ 1 (σ 17 0) x1) 17 0 (((wr σ 1 (σ 17 0) x1) 17 0) + 1))))
section SE
variable {p : Program} {l : Launch} {e : Env} {s : State} {m : MethodId} {args : Array Value} {below : List Frame} {meth : Method} {c : Code} {D : va_G} {cI cZ : ClassId} {A : Nat → Prop} {ad : Nat → Nat}
set_option maxRecDepth 100000 in
set_option maxHeartbeats 4000000 in
theorem c_X0_append {l : Launch} {D : va_G} {cI cZ : ClassId} {A : Nat → Prop} {ad : Nat → Nat} (σ : SC) (x1 : Int32)  (r : SC) (h : f_X0_append σ x1 = some r) : Met l yX0_append (.code yX0_append cX0_append 2 none :: wG) (Rm 2) (PreW D (tyA cI cZ) A (wC ad cI) [.ref (ad 35), .int x1] σ) (QV D A (wC ad cI) r) 0 0 A := by
  refine met_of (M := f_X0_append σ x1) (Qc := (QV D A (wC ad cI))) (by decide) (Nat.le_of_ble_eq_true rfl) h (fun p e s m below meth c C0 => ?_)
  generalize hargs : ([.ref (ad 35), .int x1] : List Value).toArray = args at C0 ⊢
  have C0 : Cx D (tyA cI cZ) RX0 cX0_append 2 none p s m args meth c := C0
  refine J_sub (lv' := [(0, .ref (ad 35)), (1, .int x1)]) [0, 1] rfl ?_
  unfold f_X0_append
  refine J_aload_n (pc := 0) C0 0 dX0_append_0 rfl rfl ?_
  refine J_get (pc := 1) (v := .int (σ 17 0)) C0 35 wC_o35 rfl in_X0 2 (by decide) q30 rfl dX0_append_1 ?_
  refine J_bipush (pc := 4) (v := (nI 16)) C0 dX0_append_4 (by decide) ?_
  refine J_icmp_ge (pc := 6) (tgt := 31) C0 dX0_append_6 (by decide) (fun h_6 => ?_) (fun h_6 => ?_)
  · exact J_vret C0 dX0_append_31
  · refine J_aload_n (pc := 9) C0 0 dX0_append_9 rfl rfl ?_
    refine J_get (pc := 10) (v := .ref (ad 1)) C0 35 wC_o35 rfl in_X0 1 (by decide) q31 rfl dX0_append_10 ?_
    refine J_aload_n (pc := 13) C0 0 dX0_append_13 rfl rfl ?_
    refine J_get (pc := 14) (v := .int (σ 17 0)) C0 35 wC_o35 rfl in_X0 2 (by decide) q30 rfl dX0_append_14 ?_
    refine J_iload_n (pc := 17) C0 1 dX0_append_17 rfl rfl ?_
    refine fin_TV (run_V (As := [.int (σ 17 0), .int x1]) (rest := []) (q0 := 1) C0 (cT_X5_set σ 1 (σ 17 0) x1 (by decide)) v_X5_set q32 (wC_row (by decide)) rfl rfl ⟨rfl, rfl⟩ (Rm_ok (by decide) (by decide)) rfl (Nat.le_of_ble_eq_true rfl) dX0_append_18) ?_
    refine J_aload_n (pc := 21) C0 0 dX0_append_21 rfl rfl ?_
    refine J_dup (pc := 22) C0 dX0_append_22 rfl ?_
    refine J_get (pc := 23) (v := .int ((wr σ 1 (σ 17 0) x1) 17 0)) C0 35 wC_o35 rfl in_X0 2 (by decide) q30 rfl dX0_append_23 ?_
    refine J_iconst (pc := 26) (v := 1) C0 dX0_append_26 (by decide) ?_
    refine J_iadd (pc := 27) C0 dX0_append_27 ?_
    refine J_put (pc := 28) (σ' := (su (wr σ 1 (σ 17 0) x1) 17 0 (((wr σ 1 (σ 17 0) x1) 17 0) + 1))) (v := .int (((wr σ 1 (σ 17 0) x1) 17 0) + 1)) (ty := .int) C0 tyX0_ok nmX0 35 wC_o35 rfl in_X0 2 (by decide) q30 rfl (by decide +kernel) rfl rfl (Nat.le_of_ble_eq_true rfl) wC_p0 dX0_append_28 ?_
    exact J_vret C0 dX0_append_31
end SE

def f_X0_blockedCells_L4 (σ : SC) : Nat → Int32 → Int32 → Option Int32
  | 0, _, _ => none
  | n + 1, x1, x2 =>
  (if (nI 16) ≤ x2 then (some x1) else (if (rd σ 0 x2) = (-1) then (f_X0_blockedCells_L4 σ n (x1 ||| ((1 : Int32) <<< (x2 &&& 31))) (x2 + 1)) else (f_X0_blockedCells_L4 σ n x1 (x2 + 1))))
theorem f_X0_blockedCells_L4_s (σ : SC) (n : Nat) (x1 : Int32) (x2 : Int32) : f_X0_blockedCells_L4 σ (n + 1) x1 x2 = ((if (nI 16) ≤ x2 then (some x1) else (if (rd σ 0 x2) = (-1) then (f_X0_blockedCells_L4 σ n (x1 ||| ((1 : Int32) <<< (x2 &&& 31))) (x2 + 1)) else (f_X0_blockedCells_L4 σ n x1 (x2 + 1))))) := rfl
def f_X0_blockedCells (σ : SC)  : Option Int32 :=
  (f_X0_blockedCells_L4 σ FU 0 0)
section SE
variable {p : Program} {l : Launch} {e : Env} {s : State} {m : MethodId} {args : Array Value} {below : List Frame} {meth : Method} {c : Code} {D : va_G} {cI cZ : ClassId} {A : Nat → Prop} {ad : Nat → Nat}
set_option maxRecDepth 100000 in
set_option maxHeartbeats 4000000 in
theorem j_X0_blockedCells_L4 (C0 : Cx D (tyA cI cZ) RX0 cX0_blockedCells 3 (some .int) p s m args meth c) (σ : SC) : ∀ (n : Nat) (x1 : Int32) (x2 : Int32), J p l e (Rm 2) s m args below meth c D A (wC ad cI) 3 (fun r => QI D A (wC ad cI) (r, σ)) (f_X0_blockedCells_L4 σ n x1 x2) σ [(0, .ref (ad 35)), (1, .int x1), (2, .int x2)] [] 4 := by
  intro n
  induction n with
  | zero => intros; exact J_none
  | succ n ih =>
    intro x1 x2
    refine J_eq (f_X0_blockedCells_L4_s σ n x1 x2) ?_
    refine J_iload_n (pc := 4) C0 2 dX0_blockedCells_4 rfl rfl ?_
    refine J_bipush (pc := 5) (v := (nI 16)) C0 dX0_blockedCells_5 (by decide) ?_
    refine J_icmp_ge (pc := 7) (tgt := 34) C0 dX0_blockedCells_7 (by decide) (fun h_7 => ?_) (fun h_7 => ?_)
    · refine J_iload_n (pc := 34) C0 1 dX0_blockedCells_34 rfl rfl ?_
      exact J_iretP C0 dX0_blockedCells_35
    · refine J_aload_n (pc := 10) C0 0 dX0_blockedCells_10 rfl rfl ?_
      refine J_get (pc := 11) (v := .ref (ad 0)) C0 35 wC_o35 rfl in_X0 0 (by decide) q37 rfl dX0_blockedCells_11 ?_
      refine J_iload_n (pc := 14) C0 2 dX0_blockedCells_14 rfl rfl ?_
      refine fin_T (run_V (As := [.int x2]) (rest := []) (q0 := 0) C0 (cT_X5_get σ 0 x2 (by decide)) v_X5_get q38 (wC_row (by decide)) rfl rfl ⟨rfl, rfl⟩ (Rm_ok (by decide) (by decide)) rfl (Nat.le_of_ble_eq_true rfl) dX0_blockedCells_15) ?_
      refine J_iconst (pc := 18) (v := (-1)) C0 dX0_blockedCells_18 (by decide) ?_
      refine J_icmp_ne (pc := 19) (tgt := 28) C0 dX0_blockedCells_19 (by decide) (fun h_19 => ?_) (fun h_19 => ?_)
      · refine J_iinc (pc := 28) (d := 1) (lv' := [(2, .int (x2 + 1)), (0, .ref (ad 35)), (1, .int x1)]) C0 2 dX0_blockedCells_28 rfl (by decide) (by decide) rfl ?_
        refine J_goto (pc := 31) (tgt := 4) C0 dX0_blockedCells_31 (by decide) ?_
        refine J_sub (lv' := [(0, .ref (ad 35)), (1, .int x1), (2, .int (x2 + 1))]) [1, 2, 0] rfl ?_
        exact ih x1 (x2 + 1)
      · refine J_iload_n (pc := 22) C0 1 dX0_blockedCells_22 rfl rfl ?_
        refine J_iconst (pc := 23) (v := 1) C0 dX0_blockedCells_23 (by decide) ?_
        refine J_iload_n (pc := 24) C0 2 dX0_blockedCells_24 rfl rfl ?_
        refine J_ishl (pc := 25) C0 dX0_blockedCells_25 ?_
        refine J_ior (pc := 26) C0 dX0_blockedCells_26 ?_
        refine J_istore_n (pc := 27) (lv' := [(1, .int (x1 ||| ((1 : Int32) <<< (x2 &&& 31)))), (0, .ref (ad 35)), (2, .int x2)]) C0 dX0_blockedCells_27 rfl (by decide) rfl ?_
        refine J_iinc (pc := 28) (d := 1) (lv' := [(2, .int (x2 + 1)), (1, .int (x1 ||| ((1 : Int32) <<< (x2 &&& 31)))), (0, .ref (ad 35))]) C0 2 dX0_blockedCells_28 rfl (by decide) (by decide) rfl ?_
        refine J_goto (pc := 31) (tgt := 4) C0 dX0_blockedCells_31 (by decide) ?_
        refine J_sub (lv' := [(0, .ref (ad 35)), (1, .int (x1 ||| ((1 : Int32) <<< (x2 &&& 31)))), (2, .int (x2 + 1))]) [2, 1, 0] rfl ?_
        exact ih (x1 ||| ((1 : Int32) <<< (x2 &&& 31))) (x2 + 1)
set_option maxRecDepth 100000 in
set_option maxHeartbeats 4000000 in
theorem c_X0_blockedCells {l : Launch} {D : va_G} {cI cZ : ClassId} {A : Nat → Prop} {ad : Nat → Nat} (σ : SC)   (r : Int32) (h : f_X0_blockedCells σ = some r) : Met l yX0_blockedCells (.code yX0_blockedCells cX0_blockedCells 3 (some .int) :: wG) (Rm 2) (PreW D (tyA cI cZ) A (wC ad cI) [.ref (ad 35)] σ) (QI D A (wC ad cI) (r, σ)) 0 0 A := by
  refine met_of (M := f_X0_blockedCells σ) (Qc := (fun r => QI D A (wC ad cI) (r, σ))) (by decide) (Nat.le_of_ble_eq_true rfl) h (fun p e s m below meth c C0 => ?_)
  generalize hargs : ([.ref (ad 35)] : List Value).toArray = args at C0 ⊢
  have C0 : Cx D (tyA cI cZ) RX0 cX0_blockedCells 3 (some .int) p s m args meth c := C0
  refine J_sub (lv' := [(0, .ref (ad 35))]) [0] rfl ?_
  unfold f_X0_blockedCells
  refine J_iconst (pc := 0) (v := 0) C0 dX0_blockedCells_0 (by decide) ?_
  refine J_istore_n (pc := 1) (lv' := [(1, .int 0), (0, .ref (ad 35))]) C0 dX0_blockedCells_1 rfl (by decide) rfl ?_
  refine J_iconst (pc := 2) (v := 0) C0 dX0_blockedCells_2 (by decide) ?_
  refine J_istore_n (pc := 3) (lv' := [(2, .int 0), (1, .int 0), (0, .ref (ad 35))]) C0 dX0_blockedCells_3 rfl (by decide) rfl ?_
  refine J_sub (lv' := [(0, .ref (ad 35)), (1, .int 0), (2, .int 0)]) [2, 1, 0] rfl ?_
  exact j_X0_blockedCells_L4 C0 σ FU 0 0
end SE

def f_X0_clearLetters_L4 : Nat → SC → Int32 → Int32 → Option (Int32 × SC)
  | 0, _, _, _ => none
  | n + 1, σ, x1, x2 =>
  (if (nI 16) ≤ x2 then (some (x1, σ)) else (if (rd σ 0 x2) < (nI 97) then (f_X0_clearLetters_L4 n σ x1 (x2 + 1)) else (f_X0_clearLetters_L4 n (wr σ 0 x2 0) (x1 + 1) (x2 + 1))))
theorem f_X0_clearLetters_L4_s (n : Nat) (σ : SC) (x1 : Int32) (x2 : Int32) : f_X0_clearLetters_L4 (n + 1) σ x1 x2 = ((if (nI 16) ≤ x2 then (some (x1, σ)) else (if (rd σ 0 x2) < (nI 97) then (f_X0_clearLetters_L4 n σ x1 (x2 + 1)) else (f_X0_clearLetters_L4 n (wr σ 0 x2 0) (x1 + 1) (x2 + 1))))) := rfl
def f_X0_clearLetters (σ : SC)  : Option (Int32 × SC) :=
  (f_X0_clearLetters_L4 FU σ 0 0)
section SE
variable {p : Program} {l : Launch} {e : Env} {s : State} {m : MethodId} {args : Array Value} {below : List Frame} {meth : Method} {c : Code} {D : va_G} {cI cZ : ClassId} {A : Nat → Prop} {ad : Nat → Nat}
set_option maxRecDepth 100000 in
set_option maxHeartbeats 4000000 in
theorem j_X0_clearLetters_L4 (C0 : Cx D (tyA cI cZ) RX0 cX0_clearLetters 3 (some .int) p s m args meth c) : ∀ (n : Nat) (σ : SC) (x1 : Int32) (x2 : Int32), J p l e (Rm 2) s m args below meth c D A (wC ad cI) 3 (QI D A (wC ad cI)) (f_X0_clearLetters_L4 n σ x1 x2) σ [(0, .ref (ad 35)), (1, .int x1), (2, .int x2)] [] 4 := by
  intro n
  induction n with
  | zero => intros; exact J_none
  | succ n ih =>
    intro σ x1 x2
    refine J_eq (f_X0_clearLetters_L4_s  n σ x1 x2) ?_
    refine J_iload_n (pc := 4) C0 2 dX0_clearLetters_4 rfl rfl ?_
    refine J_bipush (pc := 5) (v := (nI 16)) C0 dX0_clearLetters_5 (by decide) ?_
    refine J_icmp_ge (pc := 7) (tgt := 41) C0 dX0_clearLetters_7 (by decide) (fun h_7 => ?_) (fun h_7 => ?_)
    · refine J_iload_n (pc := 41) C0 1 dX0_clearLetters_41 rfl rfl ?_
      exact J_iret C0 dX0_clearLetters_42
    · refine J_aload_n (pc := 10) C0 0 dX0_clearLetters_10 rfl rfl ?_
      refine J_get (pc := 11) (v := .ref (ad 0)) C0 35 wC_o35 rfl in_X0 0 (by decide) q37 rfl dX0_clearLetters_11 ?_
      refine J_iload_n (pc := 14) C0 2 dX0_clearLetters_14 rfl rfl ?_
      refine fin_T (run_V (As := [.int x2]) (rest := []) (q0 := 0) C0 (cT_X5_get σ 0 x2 (by decide)) v_X5_get q38 (wC_row (by decide)) rfl rfl ⟨rfl, rfl⟩ (Rm_ok (by decide) (by decide)) rfl (Nat.le_of_ble_eq_true rfl) dX0_clearLetters_15) ?_
      refine J_bipush (pc := 18) (v := (nI 97)) C0 dX0_clearLetters_18 (by decide) ?_
      refine J_icmp_lt (pc := 20) (tgt := 35) C0 dX0_clearLetters_20 (by decide) (fun h_20 => ?_) (fun h_20 => ?_)
      · refine J_iinc (pc := 35) (d := 1) (lv' := [(2, .int (x2 + 1)), (0, .ref (ad 35)), (1, .int x1)]) C0 2 dX0_clearLetters_35 rfl (by decide) (by decide) rfl ?_
        refine J_goto (pc := 38) (tgt := 4) C0 dX0_clearLetters_38 (by decide) ?_
        refine J_sub (lv' := [(0, .ref (ad 35)), (1, .int x1), (2, .int (x2 + 1))]) [1, 2, 0] rfl ?_
        exact ih σ x1 (x2 + 1)
      · refine J_aload_n (pc := 23) C0 0 dX0_clearLetters_23 rfl rfl ?_
        refine J_get (pc := 24) (v := .ref (ad 0)) C0 35 wC_o35 rfl in_X0 0 (by decide) q37 rfl dX0_clearLetters_24 ?_
        refine J_iload_n (pc := 27) C0 2 dX0_clearLetters_27 rfl rfl ?_
        refine J_iconst (pc := 28) (v := 0) C0 dX0_clearLetters_28 (by decide) ?_
        refine fin_TV (run_V (As := [.int x2, .int 0]) (rest := []) (q0 := 0) C0 (cT_X5_set σ 0 x2 0 (by decide)) v_X5_set q32 (wC_row (by decide)) rfl rfl ⟨rfl, rfl⟩ (Rm_ok (by decide) (by decide)) rfl (Nat.le_of_ble_eq_true rfl) dX0_clearLetters_29) ?_
        refine J_iinc (pc := 32) (d := 1) (lv' := [(1, .int (x1 + 1)), (0, .ref (ad 35)), (2, .int x2)]) C0 1 dX0_clearLetters_32 rfl (by decide) (by decide) rfl ?_
        refine J_iinc (pc := 35) (d := 1) (lv' := [(2, .int (x2 + 1)), (1, .int (x1 + 1)), (0, .ref (ad 35))]) C0 2 dX0_clearLetters_35 rfl (by decide) (by decide) rfl ?_
        refine J_goto (pc := 38) (tgt := 4) C0 dX0_clearLetters_38 (by decide) ?_
        refine J_sub (lv' := [(0, .ref (ad 35)), (1, .int (x1 + 1)), (2, .int (x2 + 1))]) [2, 1, 0] rfl ?_
        exact ih (wr σ 0 x2 0) (x1 + 1) (x2 + 1)
set_option maxRecDepth 100000 in
set_option maxHeartbeats 4000000 in
theorem c_X0_clearLetters {l : Launch} {D : va_G} {cI cZ : ClassId} {A : Nat → Prop} {ad : Nat → Nat} (σ : SC)   (r : (Int32 × SC)) (h : f_X0_clearLetters σ = some r) : Met l yX0_clearLetters (.code yX0_clearLetters cX0_clearLetters 3 (some .int) :: wG) (Rm 2) (PreW D (tyA cI cZ) A (wC ad cI) [.ref (ad 35)] σ) (QI D A (wC ad cI) r) 0 0 A := by
  refine met_of (M := f_X0_clearLetters σ) (Qc := (QI D A (wC ad cI))) (by decide) (Nat.le_of_ble_eq_true rfl) h (fun p e s m below meth c C0 => ?_)
  generalize hargs : ([.ref (ad 35)] : List Value).toArray = args at C0 ⊢
  have C0 : Cx D (tyA cI cZ) RX0 cX0_clearLetters 3 (some .int) p s m args meth c := C0
  refine J_sub (lv' := [(0, .ref (ad 35))]) [0] rfl ?_
  unfold f_X0_clearLetters
  refine J_iconst (pc := 0) (v := 0) C0 dX0_clearLetters_0 (by decide) ?_
  refine J_istore_n (pc := 1) (lv' := [(1, .int 0), (0, .ref (ad 35))]) C0 dX0_clearLetters_1 rfl (by decide) rfl ?_
  refine J_iconst (pc := 2) (v := 0) C0 dX0_clearLetters_2 (by decide) ?_
  refine J_istore_n (pc := 3) (lv' := [(2, .int 0), (1, .int 0), (0, .ref (ad 35))]) C0 dX0_clearLetters_3 rfl (by decide) rfl ?_
  refine J_sub (lv' := [(0, .ref (ad 35)), (1, .int 0), (2, .int 0)]) [2, 1, 0] rfl ?_
  exact j_X0_clearLetters_L4 C0 FU σ 0 0
end SE

def f_X0_letteredCells_L4 (σ : SC) : Nat → Int32 → Int32 → Option Int32
  | 0, _, _ => none
  | n + 1, x1, x2 =>
  (if (nI 16) ≤ x2 then (some x1) else (if (rd σ 0 x2) < (nI 97) then (f_X0_letteredCells_L4 σ n x1 (x2 + 1)) else (f_X0_letteredCells_L4 σ n (x1 ||| ((1 : Int32) <<< (x2 &&& 31))) (x2 + 1))))
theorem f_X0_letteredCells_L4_s (σ : SC) (n : Nat) (x1 : Int32) (x2 : Int32) : f_X0_letteredCells_L4 σ (n + 1) x1 x2 = ((if (nI 16) ≤ x2 then (some x1) else (if (rd σ 0 x2) < (nI 97) then (f_X0_letteredCells_L4 σ n x1 (x2 + 1)) else (f_X0_letteredCells_L4 σ n (x1 ||| ((1 : Int32) <<< (x2 &&& 31))) (x2 + 1))))) := rfl
def f_X0_letteredCells (σ : SC)  : Option Int32 :=
  (f_X0_letteredCells_L4 σ FU 0 0)
section SE
variable {p : Program} {l : Launch} {e : Env} {s : State} {m : MethodId} {args : Array Value} {below : List Frame} {meth : Method} {c : Code} {D : va_G} {cI cZ : ClassId} {A : Nat → Prop} {ad : Nat → Nat}
set_option maxRecDepth 100000 in
set_option maxHeartbeats 4000000 in
theorem j_X0_letteredCells_L4 (C0 : Cx D (tyA cI cZ) RX0 cX0_letteredCells 3 (some .int) p s m args meth c) (σ : SC) : ∀ (n : Nat) (x1 : Int32) (x2 : Int32), J p l e (Rm 2) s m args below meth c D A (wC ad cI) 3 (fun r => QI D A (wC ad cI) (r, σ)) (f_X0_letteredCells_L4 σ n x1 x2) σ [(0, .ref (ad 35)), (1, .int x1), (2, .int x2)] [] 4 := by
  intro n
  induction n with
  | zero => intros; exact J_none
  | succ n ih =>
    intro x1 x2
    refine J_eq (f_X0_letteredCells_L4_s σ n x1 x2) ?_
    refine J_iload_n (pc := 4) C0 2 dX0_letteredCells_4 rfl rfl ?_
    refine J_bipush (pc := 5) (v := (nI 16)) C0 dX0_letteredCells_5 (by decide) ?_
    refine J_icmp_ge (pc := 7) (tgt := 35) C0 dX0_letteredCells_7 (by decide) (fun h_7 => ?_) (fun h_7 => ?_)
    · refine J_iload_n (pc := 35) C0 1 dX0_letteredCells_35 rfl rfl ?_
      exact J_iretP C0 dX0_letteredCells_36
    · refine J_aload_n (pc := 10) C0 0 dX0_letteredCells_10 rfl rfl ?_
      refine J_get (pc := 11) (v := .ref (ad 0)) C0 35 wC_o35 rfl in_X0 0 (by decide) q37 rfl dX0_letteredCells_11 ?_
      refine J_iload_n (pc := 14) C0 2 dX0_letteredCells_14 rfl rfl ?_
      refine fin_T (run_V (As := [.int x2]) (rest := []) (q0 := 0) C0 (cT_X5_get σ 0 x2 (by decide)) v_X5_get q38 (wC_row (by decide)) rfl rfl ⟨rfl, rfl⟩ (Rm_ok (by decide) (by decide)) rfl (Nat.le_of_ble_eq_true rfl) dX0_letteredCells_15) ?_
      refine J_bipush (pc := 18) (v := (nI 97)) C0 dX0_letteredCells_18 (by decide) ?_
      refine J_icmp_lt (pc := 20) (tgt := 29) C0 dX0_letteredCells_20 (by decide) (fun h_20 => ?_) (fun h_20 => ?_)
      · refine J_iinc (pc := 29) (d := 1) (lv' := [(2, .int (x2 + 1)), (0, .ref (ad 35)), (1, .int x1)]) C0 2 dX0_letteredCells_29 rfl (by decide) (by decide) rfl ?_
        refine J_goto (pc := 32) (tgt := 4) C0 dX0_letteredCells_32 (by decide) ?_
        refine J_sub (lv' := [(0, .ref (ad 35)), (1, .int x1), (2, .int (x2 + 1))]) [1, 2, 0] rfl ?_
        exact ih x1 (x2 + 1)
      · refine J_iload_n (pc := 23) C0 1 dX0_letteredCells_23 rfl rfl ?_
        refine J_iconst (pc := 24) (v := 1) C0 dX0_letteredCells_24 (by decide) ?_
        refine J_iload_n (pc := 25) C0 2 dX0_letteredCells_25 rfl rfl ?_
        refine J_ishl (pc := 26) C0 dX0_letteredCells_26 ?_
        refine J_ior (pc := 27) C0 dX0_letteredCells_27 ?_
        refine J_istore_n (pc := 28) (lv' := [(1, .int (x1 ||| ((1 : Int32) <<< (x2 &&& 31)))), (0, .ref (ad 35)), (2, .int x2)]) C0 dX0_letteredCells_28 rfl (by decide) rfl ?_
        refine J_iinc (pc := 29) (d := 1) (lv' := [(2, .int (x2 + 1)), (1, .int (x1 ||| ((1 : Int32) <<< (x2 &&& 31)))), (0, .ref (ad 35))]) C0 2 dX0_letteredCells_29 rfl (by decide) (by decide) rfl ?_
        refine J_goto (pc := 32) (tgt := 4) C0 dX0_letteredCells_32 (by decide) ?_
        refine J_sub (lv' := [(0, .ref (ad 35)), (1, .int (x1 ||| ((1 : Int32) <<< (x2 &&& 31)))), (2, .int (x2 + 1))]) [2, 1, 0] rfl ?_
        exact ih (x1 ||| ((1 : Int32) <<< (x2 &&& 31))) (x2 + 1)
set_option maxRecDepth 100000 in
set_option maxHeartbeats 4000000 in
theorem c_X0_letteredCells {l : Launch} {D : va_G} {cI cZ : ClassId} {A : Nat → Prop} {ad : Nat → Nat} (σ : SC)   (r : Int32) (h : f_X0_letteredCells σ = some r) : Met l yX0_letteredCells (.code yX0_letteredCells cX0_letteredCells 3 (some .int) :: wG) (Rm 2) (PreW D (tyA cI cZ) A (wC ad cI) [.ref (ad 35)] σ) (QI D A (wC ad cI) (r, σ)) 0 0 A := by
  refine met_of (M := f_X0_letteredCells σ) (Qc := (fun r => QI D A (wC ad cI) (r, σ))) (by decide) (Nat.le_of_ble_eq_true rfl) h (fun p e s m below meth c C0 => ?_)
  generalize hargs : ([.ref (ad 35)] : List Value).toArray = args at C0 ⊢
  have C0 : Cx D (tyA cI cZ) RX0 cX0_letteredCells 3 (some .int) p s m args meth c := C0
  refine J_sub (lv' := [(0, .ref (ad 35))]) [0] rfl ?_
  unfold f_X0_letteredCells
  refine J_iconst (pc := 0) (v := 0) C0 dX0_letteredCells_0 (by decide) ?_
  refine J_istore_n (pc := 1) (lv' := [(1, .int 0), (0, .ref (ad 35))]) C0 dX0_letteredCells_1 rfl (by decide) rfl ?_
  refine J_iconst (pc := 2) (v := 0) C0 dX0_letteredCells_2 (by decide) ?_
  refine J_istore_n (pc := 3) (lv' := [(2, .int 0), (1, .int 0), (0, .ref (ad 35))]) C0 dX0_letteredCells_3 rfl (by decide) rfl ?_
  refine J_sub (lv' := [(0, .ref (ad 35)), (1, .int 0), (2, .int 0)]) [2, 1, 0] rfl ?_
  exact j_X0_letteredCells_L4 C0 σ FU 0 0
end SE

def f_X0_numberOf_L2 (σ : SC) (x1 : Int32) : Nat → Int32 → Option Int32
  | 0, _ => none
  | n + 1, x2 =>
  (if (σ 17 0) ≤ x2 then (some (-1)) else (if (rd σ 1 x2) = x1 then (some x2) else (f_X0_numberOf_L2 σ x1 n (x2 + 1))))
theorem f_X0_numberOf_L2_s (σ : SC) (x1 : Int32) (n : Nat) (x2 : Int32) : f_X0_numberOf_L2 σ x1 (n + 1) x2 = ((if (σ 17 0) ≤ x2 then (some (-1)) else (if (rd σ 1 x2) = x1 then (some x2) else (f_X0_numberOf_L2 σ x1 n (x2 + 1))))) := rfl
def f_X0_numberOf (σ : SC) (x1 : Int32) : Option Int32 :=
  (f_X0_numberOf_L2 σ x1 FU 0)
section SE
variable {p : Program} {l : Launch} {e : Env} {s : State} {m : MethodId} {args : Array Value} {below : List Frame} {meth : Method} {c : Code} {D : va_G} {cI cZ : ClassId} {A : Nat → Prop} {ad : Nat → Nat}
set_option maxRecDepth 100000 in
set_option maxHeartbeats 4000000 in
theorem j_X0_numberOf_L2 (C0 : Cx D (tyA cI cZ) RX0 cX0_numberOf 3 (some .int) p s m args meth c) (σ : SC) (x1 : Int32) : ∀ (n : Nat) (x2 : Int32), J p l e (Rm 2) s m args below meth c D A (wC ad cI) 3 (fun r => QI D A (wC ad cI) (r, σ)) (f_X0_numberOf_L2 σ x1 n x2) σ [(0, .ref (ad 35)), (1, .int x1), (2, .int x2)] [] 2 := by
  intro n
  induction n with
  | zero => intros; exact J_none
  | succ n ih =>
    intro x2
    refine J_eq (f_X0_numberOf_L2_s σ x1 n x2) ?_
    refine J_iload_n (pc := 2) C0 2 dX0_numberOf_2 rfl rfl ?_
    refine J_aload_n (pc := 3) C0 0 dX0_numberOf_3 rfl rfl ?_
    refine J_get (pc := 4) (v := .int (σ 17 0)) C0 35 wC_o35 rfl in_X0 2 (by decide) q30 rfl dX0_numberOf_4 ?_
    refine J_icmp_ge (pc := 7) (tgt := 30) C0 dX0_numberOf_7 (by decide) (fun h_7 => ?_) (fun h_7 => ?_)
    · refine J_iconst (pc := 30) (v := (-1)) C0 dX0_numberOf_30 (by decide) ?_
      exact J_iretP C0 dX0_numberOf_31
    · refine J_aload_n (pc := 10) C0 0 dX0_numberOf_10 rfl rfl ?_
      refine J_get (pc := 11) (v := .ref (ad 1)) C0 35 wC_o35 rfl in_X0 1 (by decide) q31 rfl dX0_numberOf_11 ?_
      refine J_iload_n (pc := 14) C0 2 dX0_numberOf_14 rfl rfl ?_
      refine fin_T (run_V (As := [.int x2]) (rest := []) (q0 := 1) C0 (cT_X5_get σ 1 x2 (by decide)) v_X5_get q38 (wC_row (by decide)) rfl rfl ⟨rfl, rfl⟩ (Rm_ok (by decide) (by decide)) rfl (Nat.le_of_ble_eq_true rfl) dX0_numberOf_15) ?_
      refine J_iload_n (pc := 18) C0 1 dX0_numberOf_18 rfl rfl ?_
      refine J_icmp_ne (pc := 19) (tgt := 24) C0 dX0_numberOf_19 (by decide) (fun h_19 => ?_) (fun h_19 => ?_)
      · refine J_iinc (pc := 24) (d := 1) (lv' := [(2, .int (x2 + 1)), (0, .ref (ad 35)), (1, .int x1)]) C0 2 dX0_numberOf_24 rfl (by decide) (by decide) rfl ?_
        refine J_goto (pc := 27) (tgt := 2) C0 dX0_numberOf_27 (by decide) ?_
        refine J_sub (lv' := [(0, .ref (ad 35)), (1, .int x1), (2, .int (x2 + 1))]) [1, 2, 0] rfl ?_
        exact ih (x2 + 1)
      · refine J_iload_n (pc := 22) C0 2 dX0_numberOf_22 rfl rfl ?_
        exact J_iretP C0 dX0_numberOf_23
set_option maxRecDepth 100000 in
set_option maxHeartbeats 4000000 in
theorem c_X0_numberOf {l : Launch} {D : va_G} {cI cZ : ClassId} {A : Nat → Prop} {ad : Nat → Nat} (σ : SC) (x1 : Int32)  (r : Int32) (h : f_X0_numberOf σ x1 = some r) : Met l yX0_numberOf (.code yX0_numberOf cX0_numberOf 3 (some .int) :: wG) (Rm 2) (PreW D (tyA cI cZ) A (wC ad cI) [.ref (ad 35), .int x1] σ) (QI D A (wC ad cI) (r, σ)) 0 0 A := by
  refine met_of (M := f_X0_numberOf σ x1) (Qc := (fun r => QI D A (wC ad cI) (r, σ))) (by decide) (Nat.le_of_ble_eq_true rfl) h (fun p e s m below meth c C0 => ?_)
  generalize hargs : ([.ref (ad 35), .int x1] : List Value).toArray = args at C0 ⊢
  have C0 : Cx D (tyA cI cZ) RX0 cX0_numberOf 3 (some .int) p s m args meth c := C0
  refine J_sub (lv' := [(0, .ref (ad 35)), (1, .int x1)]) [0, 1] rfl ?_
  unfold f_X0_numberOf
  refine J_iconst (pc := 0) (v := 0) C0 dX0_numberOf_0 (by decide) ?_
  refine J_istore_n (pc := 1) (lv' := [(2, .int 0), (0, .ref (ad 35)), (1, .int x1)]) C0 dX0_numberOf_1 rfl (by decide) rfl ?_
  refine J_sub (lv' := [(0, .ref (ad 35)), (1, .int x1), (2, .int 0)]) [1, 2, 0] rfl ?_
  exact j_X0_numberOf_L2 C0 σ x1 FU 0
end SE

def f_X0_swapRowsAndColumns_L9 (x1 : Int32) (kx70 : SC → Option SC) : Nat → SC → Int32 → Option SC
  | 0, _, _ => none
  | n + 1, σ, x2 =>
  (if x1 ≤ x2 then (kx70 σ) else (f_X0_swapRowsAndColumns_L9 x1 kx70 n (wr (wr σ 0 ((x1 * (nI 4)) + x2) (rd σ 0 ((x2 * (nI 4)) + x1))) 0 ((x2 * (nI 4)) + x1) (rd σ 0 ((x1 * (nI 4)) + x2))) (x2 + 1)))
theorem f_X0_swapRowsAndColumns_L9_s (x1 : Int32) (kx70 : SC → Option SC) (n : Nat) (σ : SC) (x2 : Int32) : f_X0_swapRowsAndColumns_L9 x1 kx70 (n + 1) σ x2 = ((if x1 ≤ x2 then (kx70 σ) else (f_X0_swapRowsAndColumns_L9 x1 kx70 n (wr (wr σ 0 ((x1 * (nI 4)) + x2) (rd σ 0 ((x2 * (nI 4)) + x1))) 0 ((x2 * (nI 4)) + x1) (rd σ 0 ((x1 * (nI 4)) + x2))) (x2 + 1)))) := rfl
def f_X0_swapRowsAndColumns_L2 : Nat → SC → Int32 → Option SC
  | 0, _, _ => none
  | n + 1, σ, x1 =>
  (if (nI 4) ≤ x1 then (some σ) else (f_X0_swapRowsAndColumns_L9 x1 (fun σ_70 => (f_X0_swapRowsAndColumns_L2 n σ_70 (x1 + 1))) FU σ 0))
theorem f_X0_swapRowsAndColumns_L2_s (n : Nat) (σ : SC) (x1 : Int32) : f_X0_swapRowsAndColumns_L2 (n + 1) σ x1 = ((if (nI 4) ≤ x1 then (some σ) else (f_X0_swapRowsAndColumns_L9 x1 (fun σ_70 => (f_X0_swapRowsAndColumns_L2 n σ_70 (x1 + 1))) FU σ 0))) := rfl
def f_X0_swapRowsAndColumns (σ : SC)  : Option SC :=
  (f_X0_swapRowsAndColumns_L2 FU σ 0)
section SE
variable {p : Program} {l : Launch} {e : Env} {s : State} {m : MethodId} {args : Array Value} {below : List Frame} {meth : Method} {c : Code} {D : va_G} {cI cZ : ClassId} {A : Nat → Prop} {ad : Nat → Nat}
set_option maxRecDepth 100000 in
set_option maxHeartbeats 4000000 in
theorem j_X0_swapRowsAndColumns_L9 (C0 : Cx D (tyA cI cZ) RX0 cX0_swapRowsAndColumns 4 none p s m args meth c) (x1 : Int32) (kx70 : SC → Option SC) (hkx70 : ∀ (σ : SC), J p l e (Rm 2) s m args below meth c D A (wC ad cI) 4 (QV D A (wC ad cI)) (kx70 σ) σ [(0, .ref (ad 35)), (1, .int x1)] [] 70) : ∀ (n : Nat) (σ : SC) (x2 : Int32), J p l e (Rm 2) s m args below meth c D A (wC ad cI) 4 (QV D A (wC ad cI)) (f_X0_swapRowsAndColumns_L9 x1 kx70 n σ x2) σ [(0, .ref (ad 35)), (1, .int x1), (2, .int x2)] [] 9 := by
  intro n
  induction n with
  | zero => intros; exact J_none
  | succ n ih =>
    intro σ x2
    refine J_eq (f_X0_swapRowsAndColumns_L9_s x1 kx70 n σ x2) ?_
    refine J_iload_n (pc := 9) C0 2 dX0_swapRowsAndColumns_9 rfl rfl ?_
    refine J_iload_n (pc := 10) C0 1 dX0_swapRowsAndColumns_10 rfl rfl ?_
    refine J_icmp_ge (pc := 11) (tgt := 70) C0 dX0_swapRowsAndColumns_11 (by decide) (fun h_11 => ?_) (fun h_11 => ?_)
    · refine J_sub (lv' := [(0, .ref (ad 35)), (1, .int x1)]) [0, 1] rfl ?_
      exact hkx70 σ
    · refine J_aload_n (pc := 14) C0 0 dX0_swapRowsAndColumns_14 rfl rfl ?_
      refine J_get (pc := 15) (v := .ref (ad 0)) C0 35 wC_o35 rfl in_X0 0 (by decide) q37 rfl dX0_swapRowsAndColumns_15 ?_
      refine J_iload_n (pc := 18) C0 1 dX0_swapRowsAndColumns_18 rfl rfl ?_
      refine J_iconst (pc := 19) (v := (nI 4)) C0 dX0_swapRowsAndColumns_19 (by decide) ?_
      refine J_imul (pc := 20) C0 dX0_swapRowsAndColumns_20 ?_
      refine J_iload_n (pc := 21) C0 2 dX0_swapRowsAndColumns_21 rfl rfl ?_
      refine J_iadd (pc := 22) C0 dX0_swapRowsAndColumns_22 ?_
      refine fin_T (run_V (As := [.int ((x1 * (nI 4)) + x2)]) (rest := []) (q0 := 0) C0 (cT_X5_get σ 0 ((x1 * (nI 4)) + x2) (by decide)) v_X5_get q38 (wC_row (by decide)) rfl rfl ⟨rfl, rfl⟩ (Rm_ok (by decide) (by decide)) rfl (Nat.le_of_ble_eq_true rfl) dX0_swapRowsAndColumns_23) ?_
      refine J_istore_n (pc := 26) (lv' := [(3, .int (rd σ 0 ((x1 * (nI 4)) + x2))), (0, .ref (ad 35)), (1, .int x1), (2, .int x2)]) C0 dX0_swapRowsAndColumns_26 rfl (by decide) rfl ?_
      refine J_aload_n (pc := 27) C0 1 dX0_swapRowsAndColumns_27 rfl rfl ?_
      refine J_get (pc := 28) (v := .ref (ad 0)) C0 35 wC_o35 rfl in_X0 0 (by decide) q37 rfl dX0_swapRowsAndColumns_28 ?_
      refine J_iload_n (pc := 31) C0 2 dX0_swapRowsAndColumns_31 rfl rfl ?_
      refine J_iconst (pc := 32) (v := (nI 4)) C0 dX0_swapRowsAndColumns_32 (by decide) ?_
      refine J_imul (pc := 33) C0 dX0_swapRowsAndColumns_33 ?_
      refine J_iload_n (pc := 34) C0 3 dX0_swapRowsAndColumns_34 rfl rfl ?_
      refine J_iadd (pc := 35) C0 dX0_swapRowsAndColumns_35 ?_
      refine J_aload_n (pc := 36) C0 1 dX0_swapRowsAndColumns_36 rfl rfl ?_
      refine J_get (pc := 37) (v := .ref (ad 0)) C0 35 wC_o35 rfl in_X0 0 (by decide) q37 rfl dX0_swapRowsAndColumns_37 ?_
      refine J_iload_n (pc := 40) C0 3 dX0_swapRowsAndColumns_40 rfl rfl ?_
      refine J_iconst (pc := 41) (v := (nI 4)) C0 dX0_swapRowsAndColumns_41 (by decide) ?_
      refine J_imul (pc := 42) C0 dX0_swapRowsAndColumns_42 ?_
      refine J_iload_n (pc := 43) C0 2 dX0_swapRowsAndColumns_43 rfl rfl ?_
      refine J_iadd (pc := 44) C0 dX0_swapRowsAndColumns_44 ?_
      refine fin_T (run_V (As := [.int ((x2 * (nI 4)) + x1)]) (rest := [.int ((x1 * (nI 4)) + x2), .ref (ad 0)]) (q0 := 0) C0 (cT_X5_get σ 0 ((x2 * (nI 4)) + x1) (by decide)) v_X5_get q38 (wC_row (by decide)) rfl rfl ⟨rfl, rfl⟩ (Rm_ok (by decide) (by decide)) rfl (Nat.le_of_ble_eq_true rfl) dX0_swapRowsAndColumns_45) ?_
      refine fin_TV (run_V (As := [.int ((x1 * (nI 4)) + x2), .int (rd σ 0 ((x2 * (nI 4)) + x1))]) (rest := []) (q0 := 0) C0 (cT_X5_set σ 0 ((x1 * (nI 4)) + x2) (rd σ 0 ((x2 * (nI 4)) + x1)) (by decide)) v_X5_set q32 (wC_row (by decide)) rfl rfl ⟨rfl, rfl⟩ (Rm_ok (by decide) (by decide)) rfl (Nat.le_of_ble_eq_true rfl) dX0_swapRowsAndColumns_48) ?_
      refine J_aload_n (pc := 51) C0 1 dX0_swapRowsAndColumns_51 rfl rfl ?_
      refine J_get (pc := 52) (v := .ref (ad 0)) C0 35 wC_o35 rfl in_X0 0 (by decide) q37 rfl dX0_swapRowsAndColumns_52 ?_
      refine J_iload_n (pc := 55) C0 3 dX0_swapRowsAndColumns_55 rfl rfl ?_
      refine J_iconst (pc := 56) (v := (nI 4)) C0 dX0_swapRowsAndColumns_56 (by decide) ?_
      refine J_imul (pc := 57) C0 dX0_swapRowsAndColumns_57 ?_
      refine J_iload_n (pc := 58) C0 2 dX0_swapRowsAndColumns_58 rfl rfl ?_
      refine J_iadd (pc := 59) C0 dX0_swapRowsAndColumns_59 ?_
      refine J_iload_n (pc := 60) C0 0 dX0_swapRowsAndColumns_60 rfl rfl ?_
      refine fin_TV (run_V (As := [.int ((x2 * (nI 4)) + x1), .int (rd σ 0 ((x1 * (nI 4)) + x2))]) (rest := []) (q0 := 0) C0 (cT_X5_set (wr σ 0 ((x1 * (nI 4)) + x2) (rd σ 0 ((x2 * (nI 4)) + x1))) 0 ((x2 * (nI 4)) + x1) (rd σ 0 ((x1 * (nI 4)) + x2)) (by decide)) v_X5_set q32 (wC_row (by decide)) rfl rfl ⟨rfl, rfl⟩ (Rm_ok (by decide) (by decide)) rfl (Nat.le_of_ble_eq_true rfl) dX0_swapRowsAndColumns_61) ?_
      refine J_iinc (pc := 64) (d := 1) (lv' := [(2, .int (x2 + 1)), (3, .int (rd σ 0 ((x1 * (nI 4)) + x2))), (0, .ref (ad 35)), (1, .int x1)]) C0 3 dX0_swapRowsAndColumns_64 rfl (by decide) (by decide) rfl ?_
      refine J_goto (pc := 67) (tgt := 9) C0 dX0_swapRowsAndColumns_67 (by decide) ?_
      refine J_sub (lv' := [(0, .ref (ad 35)), (1, .int x1), (2, .int (x2 + 1))]) [2, 3, 0] rfl ?_
      exact ih (wr (wr σ 0 ((x1 * (nI 4)) + x2) (rd σ 0 ((x2 * (nI 4)) + x1))) 0 ((x2 * (nI 4)) + x1) (rd σ 0 ((x1 * (nI 4)) + x2))) (x2 + 1)
set_option maxRecDepth 100000 in
set_option maxHeartbeats 4000000 in
theorem j_X0_swapRowsAndColumns_L2 (C0 : Cx D (tyA cI cZ) RX0 cX0_swapRowsAndColumns 4 none p s m args meth c) : ∀ (n : Nat) (σ : SC) (x1 : Int32), J p l e (Rm 2) s m args below meth c D A (wC ad cI) 4 (QV D A (wC ad cI)) (f_X0_swapRowsAndColumns_L2 n σ x1) σ [(0, .ref (ad 35)), (1, .int x1)] [] 2 := by
  intro n
  induction n with
  | zero => intros; exact J_none
  | succ n ih =>
    intro σ x1
    refine J_eq (f_X0_swapRowsAndColumns_L2_s  n σ x1) ?_
    refine J_iload_n (pc := 2) C0 1 dX0_swapRowsAndColumns_2 rfl rfl ?_
    refine J_iconst (pc := 3) (v := (nI 4)) C0 dX0_swapRowsAndColumns_3 (by decide) ?_
    refine J_icmp_ge (pc := 4) (tgt := 76) C0 dX0_swapRowsAndColumns_4 (by decide) (fun h_4 => ?_) (fun h_4 => ?_)
    · exact J_vret C0 dX0_swapRowsAndColumns_76
    · refine J_iconst (pc := 7) (v := 0) C0 dX0_swapRowsAndColumns_7 (by decide) ?_
      refine J_istore_n (pc := 8) (lv' := [(2, .int 0), (0, .ref (ad 35)), (1, .int x1)]) C0 dX0_swapRowsAndColumns_8 rfl (by decide) rfl ?_
      refine J_sub (lv' := [(0, .ref (ad 35)), (1, .int x1), (2, .int 0)]) [1, 2, 0] rfl ?_
      refine j_X0_swapRowsAndColumns_L9 C0 x1 _ (fun σ_70 => ?_) FU σ 0
      refine J_iinc (pc := 70) (d := 1) (lv' := [(1, .int (x1 + 1)), (0, .ref (ad 35))]) C0 1 dX0_swapRowsAndColumns_70 rfl (by decide) (by decide) rfl ?_
      refine J_goto (pc := 73) (tgt := 2) C0 dX0_swapRowsAndColumns_73 (by decide) ?_
      refine J_sub (lv' := [(0, .ref (ad 35)), (1, .int (x1 + 1))]) [1, 0] rfl ?_
      exact ih σ_70 (x1 + 1)
set_option maxRecDepth 100000 in
set_option maxHeartbeats 4000000 in
theorem c_X0_swapRowsAndColumns {l : Launch} {D : va_G} {cI cZ : ClassId} {A : Nat → Prop} {ad : Nat → Nat} (σ : SC)   (r : SC) (h : f_X0_swapRowsAndColumns σ = some r) : Met l yX0_swapRowsAndColumns (.code yX0_swapRowsAndColumns cX0_swapRowsAndColumns 4 none :: wG) (Rm 2) (PreW D (tyA cI cZ) A (wC ad cI) [.ref (ad 35)] σ) (QV D A (wC ad cI) r) 0 0 A := by
  refine met_of (M := f_X0_swapRowsAndColumns σ) (Qc := (QV D A (wC ad cI))) (by decide) (Nat.le_of_ble_eq_true rfl) h (fun p e s m below meth c C0 => ?_)
  generalize hargs : ([.ref (ad 35)] : List Value).toArray = args at C0 ⊢
  have C0 : Cx D (tyA cI cZ) RX0 cX0_swapRowsAndColumns 4 none p s m args meth c := C0
  refine J_sub (lv' := [(0, .ref (ad 35))]) [0] rfl ?_
  unfold f_X0_swapRowsAndColumns
  refine J_iconst (pc := 0) (v := 0) C0 dX0_swapRowsAndColumns_0 (by decide) ?_
  refine J_istore_n (pc := 1) (lv' := [(1, .int 0), (0, .ref (ad 35))]) C0 dX0_swapRowsAndColumns_1 rfl (by decide) rfl ?_
  refine J_sub (lv' := [(0, .ref (ad 35)), (1, .int 0)]) [1, 0] rfl ?_
  exact j_X0_swapRowsAndColumns_L2 C0 FU σ 0
end SE

def f_X0_takeOut_L2 : Nat → SC → Int32 → Option SC
  | 0, _, _ => none
  | n + 1, σ, x2 =>
  (if ((σ 17 0) - 1) ≤ x2 then (some (su σ 17 0 ((σ 17 0) - 1))) else (f_X0_takeOut_L2 n (wr σ 1 x2 (rd σ 1 (x2 + 1))) (x2 + 1)))
theorem f_X0_takeOut_L2_s (n : Nat) (σ : SC) (x2 : Int32) : f_X0_takeOut_L2 (n + 1) σ x2 = ((if ((σ 17 0) - 1) ≤ x2 then (some (su σ 17 0 ((σ 17 0) - 1))) else (f_X0_takeOut_L2 n (wr σ 1 x2 (rd σ 1 (x2 + 1))) (x2 + 1)))) := rfl
def f_X0_takeOut (σ : SC) (x1 : Int32) : Option SC :=
  (f_X0_takeOut_L2 FU σ x1)
section SE
variable {p : Program} {l : Launch} {e : Env} {s : State} {m : MethodId} {args : Array Value} {below : List Frame} {meth : Method} {c : Code} {D : va_G} {cI cZ : ClassId} {A : Nat → Prop} {ad : Nat → Nat}
set_option maxRecDepth 100000 in
set_option maxHeartbeats 4000000 in
theorem j_X0_takeOut_L2 (C0 : Cx D (tyA cI cZ) RX0 cX0_takeOut 3 none p s m args meth c) : ∀ (n : Nat) (σ : SC) (x2 : Int32), J p l e (Rm 2) s m args below meth c D A (wC ad cI) 3 (QV D A (wC ad cI)) (f_X0_takeOut_L2 n σ x2) σ [(0, .ref (ad 35)), (2, .int x2)] [] 2 := by
  intro n
  induction n with
  | zero => intros; exact J_none
  | succ n ih =>
    intro σ x2
    refine J_eq (f_X0_takeOut_L2_s  n σ x2) ?_
    refine J_iload_n (pc := 2) C0 1 dX0_takeOut_2 rfl rfl ?_
    refine J_aload_n (pc := 3) C0 0 dX0_takeOut_3 rfl rfl ?_
    refine J_get (pc := 4) (v := .int (σ 17 0)) C0 35 wC_o35 rfl in_X0 2 (by decide) q30 rfl dX0_takeOut_4 ?_
    refine J_iconst (pc := 7) (v := 1) C0 dX0_takeOut_7 (by decide) ?_
    refine J_isub (pc := 8) C0 dX0_takeOut_8 ?_
    refine J_icmp_ge (pc := 9) (tgt := 36) C0 dX0_takeOut_9 (by decide) (fun h_9 => ?_) (fun h_9 => ?_)
    · refine J_aload_n (pc := 36) C0 0 dX0_takeOut_36 rfl rfl ?_
      refine J_dup (pc := 37) C0 dX0_takeOut_37 rfl ?_
      refine J_get (pc := 38) (v := .int (σ 17 0)) C0 35 wC_o35 rfl in_X0 2 (by decide) q30 rfl dX0_takeOut_38 ?_
      refine J_iconst (pc := 41) (v := 1) C0 dX0_takeOut_41 (by decide) ?_
      refine J_isub (pc := 42) C0 dX0_takeOut_42 ?_
      refine J_put (pc := 43) (σ' := (su σ 17 0 ((σ 17 0) - 1))) (v := .int ((σ 17 0) - 1)) (ty := .int) C0 tyX0_ok nmX0 35 wC_o35 rfl in_X0 2 (by decide) q30 rfl (by decide +kernel) rfl rfl (Nat.le_of_ble_eq_true rfl) wC_p0 dX0_takeOut_43 ?_
      exact J_vret C0 dX0_takeOut_46
    · refine J_aload_n (pc := 12) C0 0 dX0_takeOut_12 rfl rfl ?_
      refine J_get (pc := 13) (v := .ref (ad 1)) C0 35 wC_o35 rfl in_X0 1 (by decide) q31 rfl dX0_takeOut_13 ?_
      refine J_iload_n (pc := 16) C0 1 dX0_takeOut_16 rfl rfl ?_
      refine J_aload_n (pc := 17) C0 0 dX0_takeOut_17 rfl rfl ?_
      refine J_get (pc := 18) (v := .ref (ad 1)) C0 35 wC_o35 rfl in_X0 1 (by decide) q31 rfl dX0_takeOut_18 ?_
      refine J_iload_n (pc := 21) C0 1 dX0_takeOut_21 rfl rfl ?_
      refine J_iconst (pc := 22) (v := 1) C0 dX0_takeOut_22 (by decide) ?_
      refine J_iadd (pc := 23) C0 dX0_takeOut_23 ?_
      refine fin_T (run_V (As := [.int (x2 + 1)]) (rest := [.int x2, .ref (ad 1)]) (q0 := 1) C0 (cT_X5_get σ 1 (x2 + 1) (by decide)) v_X5_get q38 (wC_row (by decide)) rfl rfl ⟨rfl, rfl⟩ (Rm_ok (by decide) (by decide)) rfl (Nat.le_of_ble_eq_true rfl) dX0_takeOut_24) ?_
      refine fin_TV (run_V (As := [.int x2, .int (rd σ 1 (x2 + 1))]) (rest := []) (q0 := 1) C0 (cT_X5_set σ 1 x2 (rd σ 1 (x2 + 1)) (by decide)) v_X5_set q32 (wC_row (by decide)) rfl rfl ⟨rfl, rfl⟩ (Rm_ok (by decide) (by decide)) rfl (Nat.le_of_ble_eq_true rfl) dX0_takeOut_27) ?_
      refine J_iinc (pc := 30) (d := 1) (lv' := [(2, .int (x2 + 1)), (0, .ref (ad 35))]) C0 1 dX0_takeOut_30 rfl (by decide) (by decide) rfl ?_
      refine J_goto (pc := 33) (tgt := 2) C0 dX0_takeOut_33 (by decide) ?_
      refine J_sub (lv' := [(0, .ref (ad 35)), (2, .int (x2 + 1))]) [1, 0] rfl ?_
      exact ih (wr σ 1 x2 (rd σ 1 (x2 + 1))) (x2 + 1)
set_option maxRecDepth 100000 in
set_option maxHeartbeats 4000000 in
theorem c_X0_takeOut {l : Launch} {D : va_G} {cI cZ : ClassId} {A : Nat → Prop} {ad : Nat → Nat} (σ : SC) (x1 : Int32)  (r : SC) (h : f_X0_takeOut σ x1 = some r) : Met l yX0_takeOut (.code yX0_takeOut cX0_takeOut 3 none :: wG) (Rm 2) (PreW D (tyA cI cZ) A (wC ad cI) [.ref (ad 35), .int x1] σ) (QV D A (wC ad cI) r) 0 0 A := by
  refine met_of (M := f_X0_takeOut σ x1) (Qc := (QV D A (wC ad cI))) (by decide) (Nat.le_of_ble_eq_true rfl) h (fun p e s m below meth c C0 => ?_)
  generalize hargs : ([.ref (ad 35), .int x1] : List Value).toArray = args at C0 ⊢
  have C0 : Cx D (tyA cI cZ) RX0 cX0_takeOut 3 none p s m args meth c := C0
  refine J_sub (lv' := [(0, .ref (ad 35)), (1, .int x1)]) [0, 1] rfl ?_
  unfold f_X0_takeOut
  refine J_iload_n (pc := 0) C0 1 dX0_takeOut_0 rfl rfl ?_
  refine J_istore_n (pc := 1) (lv' := [(2, .int x1), (0, .ref (ad 35)), (1, .int x1)]) C0 dX0_takeOut_1 rfl (by decide) rfl ?_
  refine J_sub (lv' := [(0, .ref (ad 35)), (2, .int x1)]) [1, 0] rfl ?_
  exact j_X0_takeOut_L2 C0 FU σ x1
end SE

def f_X1_besides (σ : SC) (x1 : Int32) (x2 : Int32) (x3 : Int32) : Option Int32 :=
  (if (rd σ 5 ((x1 * (nI 8)) + x3)) = (-1) then (some ((65535 : Int32) &&& (((1 : Int32) <<< (x2 &&& 31)) ^^^ (-1 : Int32)))) else (some (((65535 : Int32) &&& (((1 : Int32) <<< (x2 &&& 31)) ^^^ (-1 : Int32))) &&& (rd σ 9 (((rd σ 5 ((x3 * (nI 8)) + x1)) * (nI 6)) + (rd σ 10 ((x2 * (nI 4)) + (rd σ 5 ((x1 * (nI 8)) + x3)))))))))
section SE
variable {p : Program} {l : Launch} {e : Env} {s : State} {m : MethodId} {args : Array Value} {below : List Frame} {meth : Method} {c : Code} {D : va_G} {cI cZ : ClassId} {A : Nat → Prop} {ad : Nat → Nat}
set_option maxRecDepth 100000 in
set_option maxHeartbeats 4000000 in
theorem c_X1_besides {l : Launch} {D : va_G} {cI cZ : ClassId} {A : Nat → Prop} {ad : Nat → Nat} (σ : SC) (x1 : Int32) (x2 : Int32) (x3 : Int32)  (r : Int32) (h : f_X1_besides σ x1 x2 x3 = some r) : Met l yX1_besides (.code yX1_besides cX1_besides 8 (some .int) :: wG) (Rm 2) (PreW D (tyA cI cZ) A (wC ad cI) [.ref (ad 38), .int x1, .int x2, .int x3] σ) (QI D A (wC ad cI) (r, σ)) 0 0 A := by
  refine met_of (M := f_X1_besides σ x1 x2 x3) (Qc := (fun r => QI D A (wC ad cI) (r, σ))) (by decide) (Nat.le_of_ble_eq_true rfl) h (fun p e s m below meth c C0 => ?_)
  generalize hargs : ([.ref (ad 38), .int x1, .int x2, .int x3] : List Value).toArray = args at C0 ⊢
  have C0 : Cx D (tyA cI cZ) RX1 cX1_besides 8 (some .int) p s m args meth c := C0
  refine J_sub (lv' := [(0, .ref (ad 38)), (1, .int x1), (2, .int x2), (3, .int x3)]) [0, 1, 2, 3] rfl ?_
  unfold f_X1_besides
  refine J_ldc (pc := 0) C0 q42 dX1_besides_0 ?_
  refine J_iconst (pc := 2) (v := 1) C0 dX1_besides_2 (by decide) ?_
  refine J_iload_n (pc := 3) C0 2 dX1_besides_3 rfl rfl ?_
  refine J_ishl (pc := 4) C0 dX1_besides_4 ?_
  refine J_iconst (pc := 5) (v := (-1)) C0 dX1_besides_5 (by decide) ?_
  refine J_ixor (pc := 6) C0 dX1_besides_6 ?_
  refine J_iand (pc := 7) C0 dX1_besides_7 ?_
  refine J_istore (pc := 8) (lv' := [(4, .int ((65535 : Int32) &&& (((1 : Int32) <<< (x2 &&& 31)) ^^^ (-1 : Int32)))), (0, .ref (ad 38)), (1, .int x1), (2, .int x2), (3, .int x3)]) C0 dX1_besides_8 (by decide) rfl ?_
  refine J_aload_n (pc := 10) C0 1 dX1_besides_10 rfl rfl ?_
  refine J_get (pc := 11) (v := .ref (ad 36)) C0 38 wC_o38 rfl in_X1 0 (by decide) q43 rfl dX1_besides_11 ?_
  refine J_getN (pc := 14) (v := .ref (ad 5)) C0 36 wC_o36 rfl in_X6 3 (by decide) q48 rfl dX1_besides_14 ?_
  refine J_iload_n (pc := 17) C0 2 dX1_besides_17 rfl rfl ?_
  refine J_bipush (pc := 18) (v := (nI 8)) C0 dX1_besides_18 (by decide) ?_
  refine J_imul (pc := 20) C0 dX1_besides_20 ?_
  refine J_iload_n (pc := 21) C0 4 dX1_besides_21 rfl rfl ?_
  refine J_iadd (pc := 22) C0 dX1_besides_22 ?_
  refine fin_T (run_V (As := [.int ((x1 * (nI 8)) + x3)]) (rest := []) (q0 := 5) C0 (cT_X5_get σ 5 ((x1 * (nI 8)) + x3) (by decide)) v_X5_get q49 (wC_row (by decide)) rfl rfl ⟨rfl, rfl⟩ (Rm_ok (by decide) (by decide)) rfl (Nat.le_of_ble_eq_true rfl) dX1_besides_23) ?_
  refine J_istore (pc := 26) (lv' := [(5, .int (rd σ 5 ((x1 * (nI 8)) + x3))), (4, .int ((65535 : Int32) &&& (((1 : Int32) <<< (x2 &&& 31)) ^^^ (-1 : Int32)))), (0, .ref (ad 38)), (1, .int x1), (2, .int x2), (3, .int x3)]) C0 dX1_besides_26 (by decide) rfl ?_
  refine J_iload (pc := 28) C0 0 dX1_besides_28 rfl ?_
  refine J_iconst (pc := 30) (v := (-1)) C0 dX1_besides_30 (by decide) ?_
  refine J_icmp_ne (pc := 31) (tgt := 37) C0 dX1_besides_31 (by decide) (fun h_31 => ?_) (fun h_31 => ?_)
  · refine J_aload_n (pc := 37) C0 2 dX1_besides_37 rfl rfl ?_
    refine J_get (pc := 38) (v := .ref (ad 36)) C0 38 wC_o38 rfl in_X1 0 (by decide) q43 rfl dX1_besides_38 ?_
    refine J_getN (pc := 41) (v := .ref (ad 5)) C0 36 wC_o36 rfl in_X6 3 (by decide) q48 rfl dX1_besides_41 ?_
    refine J_iload_n (pc := 44) C0 5 dX1_besides_44 rfl rfl ?_
    refine J_bipush (pc := 45) (v := (nI 8)) C0 dX1_besides_45 (by decide) ?_
    refine J_imul (pc := 47) C0 dX1_besides_47 ?_
    refine J_iload_n (pc := 48) C0 3 dX1_besides_48 rfl rfl ?_
    refine J_iadd (pc := 49) C0 dX1_besides_49 ?_
    refine fin_T (run_V (As := [.int ((x3 * (nI 8)) + x1)]) (rest := []) (q0 := 5) C0 (cT_X5_get σ 5 ((x3 * (nI 8)) + x1) (by decide)) v_X5_get q49 (wC_row (by decide)) rfl rfl ⟨rfl, rfl⟩ (Rm_ok (by decide) (by decide)) rfl (Nat.le_of_ble_eq_true rfl) dX1_besides_50) ?_
    refine J_istore (pc := 53) (lv' := [(6, .int (rd σ 5 ((x3 * (nI 8)) + x1))), (5, .int (rd σ 5 ((x1 * (nI 8)) + x3))), (4, .int ((65535 : Int32) &&& (((1 : Int32) <<< (x2 &&& 31)) ^^^ (-1 : Int32)))), (0, .ref (ad 38)), (1, .int x1), (2, .int x2), (3, .int x3)]) C0 dX1_besides_53 (by decide) rfl ?_
    refine J_aload_n (pc := 55) C0 3 dX1_besides_55 rfl rfl ?_
    refine J_get (pc := 56) (v := .ref (ad 37)) C0 38 wC_o38 rfl in_X1 1 (by decide) q50 rfl dX1_besides_56 ?_
    refine J_getN (pc := 59) (v := .ref (ad 10)) C0 37 wC_o37 rfl in_X3 2 (by decide) q51 rfl dX1_besides_59 ?_
    refine J_iload_n (pc := 62) C0 5 dX1_besides_62 rfl rfl ?_
    refine J_iconst (pc := 63) (v := (nI 4)) C0 dX1_besides_63 (by decide) ?_
    refine J_imul (pc := 64) C0 dX1_besides_64 ?_
    refine J_iload (pc := 65) C0 1 dX1_besides_65 rfl ?_
    refine J_iadd (pc := 67) C0 dX1_besides_67 ?_
    refine fin_T (run_V (As := [.int ((x2 * (nI 4)) + (rd σ 5 ((x1 * (nI 8)) + x3)))]) (rest := []) (q0 := 10) C0 (cT_X5_get σ 10 ((x2 * (nI 4)) + (rd σ 5 ((x1 * (nI 8)) + x3))) (by decide)) v_X5_get q49 (wC_row (by decide)) rfl rfl ⟨rfl, rfl⟩ (Rm_ok (by decide) (by decide)) rfl (Nat.le_of_ble_eq_true rfl) dX1_besides_68) ?_
    refine J_istore (pc := 71) (lv' := [(7, .int (rd σ 10 ((x2 * (nI 4)) + (rd σ 5 ((x1 * (nI 8)) + x3))))), (6, .int (rd σ 5 ((x3 * (nI 8)) + x1))), (5, .int (rd σ 5 ((x1 * (nI 8)) + x3))), (4, .int ((65535 : Int32) &&& (((1 : Int32) <<< (x2 &&& 31)) ^^^ (-1 : Int32)))), (0, .ref (ad 38)), (1, .int x1), (2, .int x2), (3, .int x3)]) C0 dX1_besides_71 (by decide) rfl ?_
    refine J_iload (pc := 73) C0 3 dX1_besides_73 rfl ?_
    refine J_aload_n (pc := 75) C0 4 dX1_besides_75 rfl rfl ?_
    refine J_get (pc := 76) (v := .ref (ad 37)) C0 38 wC_o38 rfl in_X1 1 (by decide) q50 rfl dX1_besides_76 ?_
    refine J_getN (pc := 79) (v := .ref (ad 9)) C0 37 wC_o37 rfl in_X3 1 (by decide) q55 rfl dX1_besides_79 ?_
    refine J_iload (pc := 82) C0 1 dX1_besides_82 rfl ?_
    refine J_bipush (pc := 84) (v := (nI 6)) C0 dX1_besides_84 (by decide) ?_
    refine J_imul (pc := 86) C0 dX1_besides_86 ?_
    refine J_iload (pc := 87) C0 0 dX1_besides_87 rfl ?_
    refine J_iadd (pc := 89) C0 dX1_besides_89 ?_
    refine fin_T (run_V (As := [.int (((rd σ 5 ((x3 * (nI 8)) + x1)) * (nI 6)) + (rd σ 10 ((x2 * (nI 4)) + (rd σ 5 ((x1 * (nI 8)) + x3)))))]) (rest := [.int ((65535 : Int32) &&& (((1 : Int32) <<< (x2 &&& 31)) ^^^ (-1 : Int32)))]) (q0 := 9) C0 (cT_X5_get σ 9 (((rd σ 5 ((x3 * (nI 8)) + x1)) * (nI 6)) + (rd σ 10 ((x2 * (nI 4)) + (rd σ 5 ((x1 * (nI 8)) + x3))))) (by decide)) v_X5_get q49 (wC_row (by decide)) rfl rfl ⟨rfl, rfl⟩ (Rm_ok (by decide) (by decide)) rfl (Nat.le_of_ble_eq_true rfl) dX1_besides_90) ?_
    refine J_iand (pc := 93) C0 dX1_besides_93 ?_
    exact J_iretP C0 dX1_besides_94
  · refine J_iload (pc := 34) C0 1 dX1_besides_34 rfl ?_
    exact J_iretP C0 dX1_besides_36
end SE

def f_X1_slotsWith_L5 (r2 : Nat) (σ : SC) (x1 : Int32) : Nat → Int32 → Int32 → Option Int32
  | 0, _, _ => none
  | n + 1, x3, x4 =>
  (if (σ 17 1) ≤ x4 then (some x3) else (if (cn (rd σ r2 x4) x1) = 0 then (f_X1_slotsWith_L5 r2 σ x1 n x3 (x4 + 1)) else (f_X1_slotsWith_L5 r2 σ x1 n (x3 ||| ((1 : Int32) <<< (x4 &&& 31))) (x4 + 1))))
theorem f_X1_slotsWith_L5_s (r2 : Nat) (σ : SC) (x1 : Int32) (n : Nat) (x3 : Int32) (x4 : Int32) : f_X1_slotsWith_L5 r2 σ x1 (n + 1) x3 x4 = ((if (σ 17 1) ≤ x4 then (some x3) else (if (cn (rd σ r2 x4) x1) = 0 then (f_X1_slotsWith_L5 r2 σ x1 n x3 (x4 + 1)) else (f_X1_slotsWith_L5 r2 σ x1 n (x3 ||| ((1 : Int32) <<< (x4 &&& 31))) (x4 + 1))))) := rfl
def f_X1_slotsWith (σ : SC) (x1 : Int32) (r2 : Nat) : Option Int32 :=
  (f_X1_slotsWith_L5 r2 σ x1 FU 0 0)
section SE
variable {p : Program} {l : Launch} {e : Env} {s : State} {m : MethodId} {args : Array Value} {below : List Frame} {meth : Method} {c : Code} {D : va_G} {cI cZ : ClassId} {A : Nat → Prop} {ad : Nat → Nat}
set_option maxRecDepth 100000 in
set_option maxHeartbeats 4000000 in
theorem j_X1_slotsWith_L5 (C0 : Cx D (tyA cI cZ) RX1 cX1_slotsWith 5 (some .int) p s m args meth c) {r2 : Nat} (σ : SC) (x1 : Int32) (hr2 : r2 < 17) : ∀ (n : Nat) (x3 : Int32) (x4 : Int32), J p l e (Rm 2) s m args below meth c D A (wC ad cI) 5 (fun r => QI D A (wC ad cI) (r, σ)) (f_X1_slotsWith_L5 r2 σ x1 n x3 x4) σ [(0, .ref (ad 38)), (1, .int x1), (2, .ref (ad r2)), (3, .int x3), (4, .int x4)] [] 5 := by
  intro n
  induction n with
  | zero => intros; exact J_none
  | succ n ih =>
    intro x3 x4
    refine J_eq (f_X1_slotsWith_L5_s r2 σ x1 n x3 x4) ?_
    refine J_iload (pc := 5) C0 4 dX1_slotsWith_5 rfl ?_
    refine J_aload_n (pc := 7) C0 0 dX1_slotsWith_7 rfl rfl ?_
    refine J_get (pc := 8) (v := .ref (ad 36)) C0 38 wC_o38 rfl in_X1 0 (by decide) q43 rfl dX1_slotsWith_8 ?_
    refine J_getN (pc := 11) (v := .int (σ 17 1)) C0 36 wC_o36 rfl in_X6 6 (by decide) q56 rfl dX1_slotsWith_11 ?_
    refine J_icmp_ge (pc := 14) (tgt := 43) C0 dX1_slotsWith_14 (by decide) (fun h_14 => ?_) (fun h_14 => ?_)
    · refine J_iload_n (pc := 43) C0 3 dX1_slotsWith_43 rfl rfl ?_
      exact J_iretP C0 dX1_slotsWith_44
    · refine J_aload_n (pc := 17) C0 2 dX1_slotsWith_17 rfl rfl ?_
      refine J_iload (pc := 18) C0 4 dX1_slotsWith_18 rfl ?_
      refine fin_T (run_V (As := [.int x4]) (rest := []) (q0 := r2) C0 (cT_X5_get σ r2 x4 hr2) v_X5_get q49 (wC_row hr2) rfl rfl ⟨rfl, rfl⟩ (Rm_ok (by decide) (by decide)) rfl (Nat.le_of_ble_eq_true rfl) dX1_slotsWith_20) ?_
      refine J_iload_n (pc := 23) C0 1 dX1_slotsWith_23 rfl rfl ?_
      refine fin_T (run_SN (As := [.int (rd σ r2 x4), .int x1]) (rest := []) C0 (cT_X7_contains σ (rd σ r2 x4) x1 ) v_X7_contains q57 rfl ⟨rfl, rfl⟩ (Rm_ok (by decide) (by decide)) rfl (Nat.le_of_ble_eq_true rfl) dX1_slotsWith_24) ?_
      refine J_if_eq (pc := 27) (tgt := 37) C0 dX1_slotsWith_27 (by decide) (fun h_27 => ?_) (fun h_27 => ?_)
      · refine J_iinc (pc := 37) (d := 1) (lv' := [(4, .int (x4 + 1)), (0, .ref (ad 38)), (1, .int x1), (2, .ref (ad r2)), (3, .int x3)]) C0 4 dX1_slotsWith_37 rfl (by decide) (by decide) rfl ?_
        refine J_goto (pc := 40) (tgt := 5) C0 dX1_slotsWith_40 (by decide) ?_
        refine J_sub (lv' := [(0, .ref (ad 38)), (1, .int x1), (2, .ref (ad r2)), (3, .int x3), (4, .int (x4 + 1))]) [1, 2, 3, 4, 0] rfl ?_
        exact ih x3 (x4 + 1)
      · refine J_iload_n (pc := 30) C0 3 dX1_slotsWith_30 rfl rfl ?_
        refine J_iconst (pc := 31) (v := 1) C0 dX1_slotsWith_31 (by decide) ?_
        refine J_iload (pc := 32) C0 4 dX1_slotsWith_32 rfl ?_
        refine J_ishl (pc := 34) C0 dX1_slotsWith_34 ?_
        refine J_ior (pc := 35) C0 dX1_slotsWith_35 ?_
        refine J_istore_n (pc := 36) (lv' := [(3, .int (x3 ||| ((1 : Int32) <<< (x4 &&& 31)))), (0, .ref (ad 38)), (1, .int x1), (2, .ref (ad r2)), (4, .int x4)]) C0 dX1_slotsWith_36 rfl (by decide) rfl ?_
        refine J_iinc (pc := 37) (d := 1) (lv' := [(4, .int (x4 + 1)), (3, .int (x3 ||| ((1 : Int32) <<< (x4 &&& 31)))), (0, .ref (ad 38)), (1, .int x1), (2, .ref (ad r2))]) C0 4 dX1_slotsWith_37 rfl (by decide) (by decide) rfl ?_
        refine J_goto (pc := 40) (tgt := 5) C0 dX1_slotsWith_40 (by decide) ?_
        refine J_sub (lv' := [(0, .ref (ad 38)), (1, .int x1), (2, .ref (ad r2)), (3, .int (x3 ||| ((1 : Int32) <<< (x4 &&& 31)))), (4, .int (x4 + 1))]) [2, 3, 4, 1, 0] rfl ?_
        exact ih (x3 ||| ((1 : Int32) <<< (x4 &&& 31))) (x4 + 1)
set_option maxRecDepth 100000 in
set_option maxHeartbeats 4000000 in
theorem c_X1_slotsWith {l : Launch} {D : va_G} {cI cZ : ClassId} {A : Nat → Prop} {ad : Nat → Nat} (σ : SC) (x1 : Int32) (r2 : Nat) (hr2 : r2 < 17) (r : Int32) (h : f_X1_slotsWith σ x1 r2 = some r) : Met l yX1_slotsWith (.code yX1_slotsWith cX1_slotsWith 5 (some .int) :: wG) (Rm 2) (PreW D (tyA cI cZ) A (wC ad cI) [.ref (ad 38), .int x1, .ref (ad r2)] σ) (QI D A (wC ad cI) (r, σ)) 0 0 A := by
  refine met_of (M := f_X1_slotsWith σ x1 r2) (Qc := (fun r => QI D A (wC ad cI) (r, σ))) (by decide) (Nat.le_of_ble_eq_true rfl) h (fun p e s m below meth c C0 => ?_)
  generalize hargs : ([.ref (ad 38), .int x1, .ref (ad r2)] : List Value).toArray = args at C0 ⊢
  have C0 : Cx D (tyA cI cZ) RX1 cX1_slotsWith 5 (some .int) p s m args meth c := C0
  refine J_sub (lv' := [(0, .ref (ad 38)), (1, .int x1), (2, .ref (ad r2))]) [0, 1, 2] rfl ?_
  unfold f_X1_slotsWith
  refine J_iconst (pc := 0) (v := 0) C0 dX1_slotsWith_0 (by decide) ?_
  refine J_istore_n (pc := 1) (lv' := [(3, .int 0), (0, .ref (ad 38)), (1, .int x1), (2, .ref (ad r2))]) C0 dX1_slotsWith_1 rfl (by decide) rfl ?_
  refine J_iconst (pc := 2) (v := 0) C0 dX1_slotsWith_2 (by decide) ?_
  refine J_istore (pc := 3) (lv' := [(4, .int 0), (3, .int 0), (0, .ref (ad 38)), (1, .int x1), (2, .ref (ad r2))]) C0 dX1_slotsWith_3 (by decide) rfl ?_
  refine J_sub (lv' := [(0, .ref (ad 38)), (1, .int x1), (2, .ref (ad r2)), (3, .int 0), (4, .int 0)]) [2, 3, 4, 1, 0] rfl ?_
  exact j_X1_slotsWith_L5 C0 σ x1 hr2 FU 0 0
end SE

def f_X2_begin_L7 (r2 : Nat) (x1 : Int32) : Nat → SC → Int32 → Option SC
  | 0, _, _ => none
  | n + 1, σ, x3 =>
  (if (σ 17 1) ≤ x3 then (some σ) else (if (cn x1 x3) = 0 then (f_X2_begin_L7 r2 x1 n σ (x3 + 1)) else (f_X2_begin_L7 r2 x1 n (su (wr (wr σ 13 (σ 17 4) x3) 14 ((wr σ 13 (σ 17 4) x3) 17 4) (rd (wr σ 13 (σ 17 4) x3) r2 x3)) 17 4 (((wr (wr σ 13 (σ 17 4) x3) 14 ((wr σ 13 (σ 17 4) x3) 17 4) (rd (wr σ 13 (σ 17 4) x3) r2 x3)) 17 4) + 1)) (x3 + 1))))
theorem f_X2_begin_L7_s (r2 : Nat) (x1 : Int32) (n : Nat) (σ : SC) (x3 : Int32) : f_X2_begin_L7 r2 x1 (n + 1) σ x3 = ((if (σ 17 1) ≤ x3 then (some σ) else (if (cn x1 x3) = 0 then (f_X2_begin_L7 r2 x1 n σ (x3 + 1)) else (f_X2_begin_L7 r2 x1 n (su (wr (wr σ 13 (σ 17 4) x3) 14 ((wr σ 13 (σ 17 4) x3) 17 4) (rd (wr σ 13 (σ 17 4) x3) r2 x3)) 17 4 (((wr (wr σ 13 (σ 17 4) x3) 14 ((wr σ 13 (σ 17 4) x3) 17 4) (rd (wr σ 13 (σ 17 4) x3) r2 x3)) 17 4) + 1)) (x3 + 1))))) := rfl
def f_X2_begin (σ : SC) (x1 : Int32) (r2 : Nat) : Option SC :=
  (f_X2_begin_L7 r2 x1 FU (su σ 17 4 0) 0)
section SE
variable {p : Program} {l : Launch} {e : Env} {s : State} {m : MethodId} {args : Array Value} {below : List Frame} {meth : Method} {c : Code} {D : va_G} {cI cZ : ClassId} {A : Nat → Prop} {ad : Nat → Nat}
set_option maxRecDepth 100000 in
set_option maxHeartbeats 4000000 in
theorem j_X2_begin_L7 (C0 : Cx D (tyA cI cZ) RX2 cX2_begin 4 none p s m args meth c) {r2 : Nat} (x1 : Int32) (hr2 : r2 < 17) : ∀ (n : Nat) (σ : SC) (x3 : Int32), J p l e (Rm 2) s m args below meth c D A (wC ad cI) 4 (QV D A (wC ad cI)) (f_X2_begin_L7 r2 x1 n σ x3) σ [(0, .ref (ad 39)), (1, .int x1), (2, .ref (ad r2)), (3, .int x3)] [] 7 := by
  intro n
  induction n with
  | zero => intros; exact J_none
  | succ n ih =>
    intro σ x3
    refine J_eq (f_X2_begin_L7_s r2 x1 n σ x3) ?_
    refine J_iload_n (pc := 7) C0 3 dX2_begin_7 rfl rfl ?_
    refine J_aload_n (pc := 8) C0 0 dX2_begin_8 rfl rfl ?_
    refine J_get (pc := 9) (v := .ref (ad 36)) C0 39 wC_o39 rfl in_X2 0 (by decide) q68 rfl dX2_begin_9 ?_
    refine J_getN (pc := 12) (v := .int (σ 17 1)) C0 36 wC_o36 rfl in_X6 6 (by decide) q69 rfl dX2_begin_12 ?_
    refine J_icmp_ge (pc := 15) (tgt := 70) C0 dX2_begin_15 (by decide) (fun h_15 => ?_) (fun h_15 => ?_)
    · exact J_vret C0 dX2_begin_70
    · refine J_iload_n (pc := 18) C0 1 dX2_begin_18 rfl rfl ?_
      refine J_iload_n (pc := 19) C0 3 dX2_begin_19 rfl rfl ?_
      refine fin_T (run_SN (As := [.int x1, .int x3]) (rest := []) C0 (cT_X7_contains σ x1 x3 ) v_X7_contains q70 rfl ⟨rfl, rfl⟩ (Rm_ok (by decide) (by decide)) rfl (Nat.le_of_ble_eq_true rfl) dX2_begin_20) ?_
      refine J_if_eq (pc := 23) (tgt := 64) C0 dX2_begin_23 (by decide) (fun h_23 => ?_) (fun h_23 => ?_)
      · refine J_iinc (pc := 64) (d := 1) (lv' := [(3, .int (x3 + 1)), (0, .ref (ad 39)), (1, .int x1), (2, .ref (ad r2))]) C0 3 dX2_begin_64 rfl (by decide) (by decide) rfl ?_
        refine J_goto (pc := 67) (tgt := 7) C0 dX2_begin_67 (by decide) ?_
        refine J_sub (lv' := [(0, .ref (ad 39)), (1, .int x1), (2, .ref (ad r2)), (3, .int (x3 + 1))]) [1, 2, 3, 0] rfl ?_
        exact ih σ (x3 + 1)
      · refine J_aload_n (pc := 26) C0 0 dX2_begin_26 rfl rfl ?_
        refine J_get (pc := 27) (v := .ref (ad 13)) C0 39 wC_o39 rfl in_X2 2 (by decide) q71 rfl dX2_begin_27 ?_
        refine J_aload_n (pc := 30) C0 0 dX2_begin_30 rfl rfl ?_
        refine J_get (pc := 31) (v := .int (σ 17 4)) C0 39 wC_o39 rfl in_X2 3 (by decide) q61 rfl dX2_begin_31 ?_
        refine J_iload_n (pc := 34) C0 3 dX2_begin_34 rfl rfl ?_
        refine fin_TV (run_V (As := [.int (σ 17 4), .int x3]) (rest := []) (q0 := 13) C0 (cT_X5_set σ 13 (σ 17 4) x3 (by decide)) v_X5_set q72 (wC_row (by decide)) rfl rfl ⟨rfl, rfl⟩ (Rm_ok (by decide) (by decide)) rfl (Nat.le_of_ble_eq_true rfl) dX2_begin_35) ?_
        refine J_aload_n (pc := 38) C0 0 dX2_begin_38 rfl rfl ?_
        refine J_get (pc := 39) (v := .ref (ad 14)) C0 39 wC_o39 rfl in_X2 4 (by decide) q73 rfl dX2_begin_39 ?_
        refine J_aload_n (pc := 42) C0 0 dX2_begin_42 rfl rfl ?_
        refine J_get (pc := 43) (v := .int ((wr σ 13 (σ 17 4) x3) 17 4)) C0 39 wC_o39 rfl in_X2 3 (by decide) q61 rfl dX2_begin_43 ?_
        refine J_aload_n (pc := 46) C0 2 dX2_begin_46 rfl rfl ?_
        refine J_iload_n (pc := 47) C0 3 dX2_begin_47 rfl rfl ?_
        refine fin_T (run_V (As := [.int x3]) (rest := [.int ((wr σ 13 (σ 17 4) x3) 17 4), .ref (ad 14)]) (q0 := r2) C0 (cT_X5_get (wr σ 13 (σ 17 4) x3) r2 x3 hr2) v_X5_get q74 (wC_row hr2) rfl rfl ⟨rfl, rfl⟩ (Rm_ok (by decide) (by decide)) rfl (Nat.le_of_ble_eq_true rfl) dX2_begin_48) ?_
        refine fin_TV (run_V (As := [.int ((wr σ 13 (σ 17 4) x3) 17 4), .int (rd (wr σ 13 (σ 17 4) x3) r2 x3)]) (rest := []) (q0 := 14) C0 (cT_X5_set (wr σ 13 (σ 17 4) x3) 14 ((wr σ 13 (σ 17 4) x3) 17 4) (rd (wr σ 13 (σ 17 4) x3) r2 x3) (by decide)) v_X5_set q72 (wC_row (by decide)) rfl rfl ⟨rfl, rfl⟩ (Rm_ok (by decide) (by decide)) rfl (Nat.le_of_ble_eq_true rfl) dX2_begin_51) ?_
        refine J_aload_n (pc := 54) C0 0 dX2_begin_54 rfl rfl ?_
        refine J_dup (pc := 55) C0 dX2_begin_55 rfl ?_
        refine J_get (pc := 56) (v := .int ((wr (wr σ 13 (σ 17 4) x3) 14 ((wr σ 13 (σ 17 4) x3) 17 4) (rd (wr σ 13 (σ 17 4) x3) r2 x3)) 17 4)) C0 39 wC_o39 rfl in_X2 3 (by decide) q61 rfl dX2_begin_56 ?_
        refine J_iconst (pc := 59) (v := 1) C0 dX2_begin_59 (by decide) ?_
        refine J_iadd (pc := 60) C0 dX2_begin_60 ?_
        refine J_put (pc := 61) (σ' := (su (wr (wr σ 13 (σ 17 4) x3) 14 ((wr σ 13 (σ 17 4) x3) 17 4) (rd (wr σ 13 (σ 17 4) x3) r2 x3)) 17 4 (((wr (wr σ 13 (σ 17 4) x3) 14 ((wr σ 13 (σ 17 4) x3) 17 4) (rd (wr σ 13 (σ 17 4) x3) r2 x3)) 17 4) + 1))) (v := .int (((wr (wr σ 13 (σ 17 4) x3) 14 ((wr σ 13 (σ 17 4) x3) 17 4) (rd (wr σ 13 (σ 17 4) x3) r2 x3)) 17 4) + 1)) (ty := .int) C0 tyX2_ok nmX2 39 wC_o39 rfl in_X2 3 (by decide) q61 rfl (by decide +kernel) rfl rfl (Nat.le_of_ble_eq_true rfl) wC_p4 dX2_begin_61 ?_
        refine J_iinc (pc := 64) (d := 1) (lv' := [(3, .int (x3 + 1)), (0, .ref (ad 39)), (1, .int x1), (2, .ref (ad r2))]) C0 3 dX2_begin_64 rfl (by decide) (by decide) rfl ?_
        refine J_goto (pc := 67) (tgt := 7) C0 dX2_begin_67 (by decide) ?_
        refine J_sub (lv' := [(0, .ref (ad 39)), (1, .int x1), (2, .ref (ad r2)), (3, .int (x3 + 1))]) [1, 2, 3, 0] rfl ?_
        exact ih (su (wr (wr σ 13 (σ 17 4) x3) 14 ((wr σ 13 (σ 17 4) x3) 17 4) (rd (wr σ 13 (σ 17 4) x3) r2 x3)) 17 4 (((wr (wr σ 13 (σ 17 4) x3) 14 ((wr σ 13 (σ 17 4) x3) 17 4) (rd (wr σ 13 (σ 17 4) x3) r2 x3)) 17 4) + 1)) (x3 + 1)
set_option maxRecDepth 100000 in
set_option maxHeartbeats 4000000 in
theorem c_X2_begin {l : Launch} {D : va_G} {cI cZ : ClassId} {A : Nat → Prop} {ad : Nat → Nat} (σ : SC) (x1 : Int32) (r2 : Nat) (hr2 : r2 < 17) (r : SC) (h : f_X2_begin σ x1 r2 = some r) : Met l yX2_begin (.code yX2_begin cX2_begin 4 none :: wG) (Rm 2) (PreW D (tyA cI cZ) A (wC ad cI) [.ref (ad 39), .int x1, .ref (ad r2)] σ) (QV D A (wC ad cI) r) 0 0 A := by
  refine met_of (M := f_X2_begin σ x1 r2) (Qc := (QV D A (wC ad cI))) (by decide) (Nat.le_of_ble_eq_true rfl) h (fun p e s m below meth c C0 => ?_)
  generalize hargs : ([.ref (ad 39), .int x1, .ref (ad r2)] : List Value).toArray = args at C0 ⊢
  have C0 : Cx D (tyA cI cZ) RX2 cX2_begin 4 none p s m args meth c := C0
  refine J_sub (lv' := [(0, .ref (ad 39)), (1, .int x1), (2, .ref (ad r2))]) [0, 1, 2] rfl ?_
  unfold f_X2_begin
  refine J_aload_n (pc := 0) C0 0 dX2_begin_0 rfl rfl ?_
  refine J_iconst (pc := 1) (v := 0) C0 dX2_begin_1 (by decide) ?_
  refine J_put (pc := 2) (σ' := (su σ 17 4 0)) (v := .int 0) (ty := .int) C0 tyX2_ok nmX2 39 wC_o39 rfl in_X2 3 (by decide) q61 rfl (by decide +kernel) rfl rfl (Nat.le_of_ble_eq_true rfl) wC_p4 dX2_begin_2 ?_
  refine J_iconst (pc := 5) (v := 0) C0 dX2_begin_5 (by decide) ?_
  refine J_istore_n (pc := 6) (lv' := [(3, .int 0), (0, .ref (ad 39)), (1, .int x1), (2, .ref (ad r2))]) C0 dX2_begin_6 rfl (by decide) rfl ?_
  refine J_sub (lv' := [(0, .ref (ad 39)), (1, .int x1), (2, .ref (ad r2)), (3, .int 0)]) [1, 2, 3, 0] rfl ?_
  exact j_X2_begin_L7 C0 x1 hr2 FU (su σ 17 4 0) 0
end SE

def f_X3_letterOf (σ : SC) (x1 : Int32) (x2 : Int32) : Option Int32 :=
  (some (rd σ 10 ((x1 * (nI 4)) + x2)))
section SE
variable {p : Program} {l : Launch} {e : Env} {s : State} {m : MethodId} {args : Array Value} {below : List Frame} {meth : Method} {c : Code} {D : va_G} {cI cZ : ClassId} {A : Nat → Prop} {ad : Nat → Nat}
set_option maxRecDepth 100000 in
set_option maxHeartbeats 4000000 in
theorem c_X3_letterOf {l : Launch} {D : va_G} {cI cZ : ClassId} {A : Nat → Prop} {ad : Nat → Nat} (σ : SC) (x1 : Int32) (x2 : Int32)  (r : Int32) (h : f_X3_letterOf σ x1 x2 = some r) : Met l yX3_letterOf (.code yX3_letterOf cX3_letterOf 3 (some .int) :: wG) (Rm 2) (PreW D (tyA cI cZ) A (wC ad cI) [.ref (ad 37), .int x1, .int x2] σ) (QI D A (wC ad cI) (r, σ)) 0 0 A := by
  refine met_of (M := f_X3_letterOf σ x1 x2) (Qc := (fun r => QI D A (wC ad cI) (r, σ))) (by decide) (Nat.le_of_ble_eq_true rfl) h (fun p e s m below meth c C0 => ?_)
  generalize hargs : ([.ref (ad 37), .int x1, .int x2] : List Value).toArray = args at C0 ⊢
  have C0 : Cx D (tyA cI cZ) RX3 cX3_letterOf 3 (some .int) p s m args meth c := C0
  refine J_sub (lv' := [(0, .ref (ad 37)), (1, .int x1), (2, .int x2)]) [0, 1, 2] rfl ?_
  unfold f_X3_letterOf
  refine J_aload_n (pc := 0) C0 0 dX3_letterOf_0 rfl rfl ?_
  refine J_get (pc := 1) (v := .ref (ad 10)) C0 37 wC_o37 rfl in_X3 2 (by decide) q75 rfl dX3_letterOf_1 ?_
  refine J_iload_n (pc := 4) C0 1 dX3_letterOf_4 rfl rfl ?_
  refine J_iconst (pc := 5) (v := (nI 4)) C0 dX3_letterOf_5 (by decide) ?_
  refine J_imul (pc := 6) C0 dX3_letterOf_6 ?_
  refine J_iload_n (pc := 7) C0 2 dX3_letterOf_7 rfl rfl ?_
  refine J_iadd (pc := 8) C0 dX3_letterOf_8 ?_
  refine fin_T (run_V (As := [.int ((x1 * (nI 4)) + x2)]) (rest := []) (q0 := 10) C0 (cT_X5_get σ 10 ((x1 * (nI 4)) + x2) (by decide)) v_X5_get q76 (wC_row (by decide)) rfl rfl ⟨rfl, rfl⟩ (Rm_ok (by decide) (by decide)) rfl (Nat.le_of_ble_eq_true rfl) dX3_letterOf_9) ?_
  exact J_iretP C0 dX3_letterOf_12
end SE

def f_X3_wordsHaving (σ : SC) (x1 : Int32) (x2 : Int32) : Option Int32 :=
  (some (rd σ 9 ((x1 * (nI 6)) + x2)))
section SE
variable {p : Program} {l : Launch} {e : Env} {s : State} {m : MethodId} {args : Array Value} {below : List Frame} {meth : Method} {c : Code} {D : va_G} {cI cZ : ClassId} {A : Nat → Prop} {ad : Nat → Nat}
set_option maxRecDepth 100000 in
set_option maxHeartbeats 4000000 in
theorem c_X3_wordsHaving {l : Launch} {D : va_G} {cI cZ : ClassId} {A : Nat → Prop} {ad : Nat → Nat} (σ : SC) (x1 : Int32) (x2 : Int32)  (r : Int32) (h : f_X3_wordsHaving σ x1 x2 = some r) : Met l yX3_wordsHaving (.code yX3_wordsHaving cX3_wordsHaving 3 (some .int) :: wG) (Rm 2) (PreW D (tyA cI cZ) A (wC ad cI) [.ref (ad 37), .int x1, .int x2] σ) (QI D A (wC ad cI) (r, σ)) 0 0 A := by
  refine met_of (M := f_X3_wordsHaving σ x1 x2) (Qc := (fun r => QI D A (wC ad cI) (r, σ))) (by decide) (Nat.le_of_ble_eq_true rfl) h (fun p e s m below meth c C0 => ?_)
  generalize hargs : ([.ref (ad 37), .int x1, .int x2] : List Value).toArray = args at C0 ⊢
  have C0 : Cx D (tyA cI cZ) RX3 cX3_wordsHaving 3 (some .int) p s m args meth c := C0
  refine J_sub (lv' := [(0, .ref (ad 37)), (1, .int x1), (2, .int x2)]) [0, 1, 2] rfl ?_
  unfold f_X3_wordsHaving
  refine J_aload_n (pc := 0) C0 0 dX3_wordsHaving_0 rfl rfl ?_
  refine J_get (pc := 1) (v := .ref (ad 9)) C0 37 wC_o37 rfl in_X3 1 (by decide) q77 rfl dX3_wordsHaving_1 ?_
  refine J_iload_n (pc := 4) C0 1 dX3_wordsHaving_4 rfl rfl ?_
  refine J_bipush (pc := 5) (v := (nI 6)) C0 dX3_wordsHaving_5 (by decide) ?_
  refine J_imul (pc := 7) C0 dX3_wordsHaving_7 ?_
  refine J_iload_n (pc := 8) C0 2 dX3_wordsHaving_8 rfl rfl ?_
  refine J_iadd (pc := 9) C0 dX3_wordsHaving_9 ?_
  refine fin_T (run_V (As := [.int ((x1 * (nI 6)) + x2)]) (rest := []) (q0 := 9) C0 (cT_X5_get σ 9 ((x1 * (nI 6)) + x2) (by decide)) v_X5_get q76 (wC_row (by decide)) rfl rfl ⟨rfl, rfl⟩ (Rm_ok (by decide) (by decide)) rfl (Nat.le_of_ble_eq_true rfl) dX3_wordsHaving_10) ?_
  exact J_iretP C0 dX3_wordsHaving_13
end SE

def f_X4_load_L8 (x3 : Int32) (kx41 : SC → Option SC) : Nat → SC → Int32 → Option SC
  | 0, _, _ => none
  | n + 1, σ, x4 =>
  (if (nI 16) ≤ x4 then (kx41 σ) else (f_X4_load_L8 x3 kx41 n (wr σ 0 x4 (rd σ 16 (x3 + x4))) (x4 + 1)))
theorem f_X4_load_L8_s (x3 : Int32) (kx41 : SC → Option SC) (n : Nat) (σ : SC) (x4 : Int32) : f_X4_load_L8 x3 kx41 (n + 1) σ x4 = ((if (nI 16) ≤ x4 then (kx41 σ) else (f_X4_load_L8 x3 kx41 n (wr σ 0 x4 (rd σ 16 (x3 + x4))) (x4 + 1)))) := rfl
def f_X4_load_L44 (x3 : Int32) : Nat → SC → Int32 → Option SC
  | 0, _, _ => none
  | n + 1, σ, x4 =>
  (if (nI 16) ≤ x4 then (some (su σ 17 0 (rd σ 16 ((x3 + (nI 16)) + (nI 16))))) else (f_X4_load_L44 x3 n (wr σ 1 x4 (rd σ 16 ((x3 + (nI 16)) + x4))) (x4 + 1)))
theorem f_X4_load_L44_s (x3 : Int32) (n : Nat) (σ : SC) (x4 : Int32) : f_X4_load_L44 x3 (n + 1) σ x4 = ((if (nI 16) ≤ x4 then (some (su σ 17 0 (rd σ 16 ((x3 + (nI 16)) + (nI 16))))) else (f_X4_load_L44 x3 n (wr σ 1 x4 (rd σ 16 ((x3 + (nI 16)) + x4))) (x4 + 1)))) := rfl
def f_X4_load (σ : SC) (x1 : Int32) : Option SC :=
  (f_X4_load_L8 (x1 * (nI 33)) (fun σ_41 => (f_X4_load_L44 (x1 * (nI 33)) FU σ_41 0)) FU σ 0)
section SE
variable {p : Program} {l : Launch} {e : Env} {s : State} {m : MethodId} {args : Array Value} {below : List Frame} {meth : Method} {c : Code} {D : va_G} {cI cZ : ClassId} {A : Nat → Prop} {ad : Nat → Nat}
set_option maxRecDepth 100000 in
set_option maxHeartbeats 4000000 in
theorem j_X4_load_L8 (C0 : Cx D (tyA cI cZ) RX4 cX4_load 5 none p s m args meth c) (x3 : Int32) (kx41 : SC → Option SC) (hkx41 : ∀ (σ : SC), J p l e (Rm 2) s m args below meth c D A (wC ad cI) 5 (QV D A (wC ad cI)) (kx41 σ) σ [(0, .ref (ad 40)), (2, .ref (ad 35)), (3, .int x3)] [] 41) : ∀ (n : Nat) (σ : SC) (x4 : Int32), J p l e (Rm 2) s m args below meth c D A (wC ad cI) 5 (QV D A (wC ad cI)) (f_X4_load_L8 x3 kx41 n σ x4) σ [(0, .ref (ad 40)), (2, .ref (ad 35)), (3, .int x3), (4, .int x4)] [] 8 := by
  intro n
  induction n with
  | zero => intros; exact J_none
  | succ n ih =>
    intro σ x4
    refine J_eq (f_X4_load_L8_s x3 kx41 n σ x4) ?_
    refine J_iload (pc := 8) C0 3 dX4_load_8 rfl ?_
    refine J_bipush (pc := 10) (v := (nI 16)) C0 dX4_load_10 (by decide) ?_
    refine J_icmp_ge (pc := 12) (tgt := 41) C0 dX4_load_12 (by decide) (fun h_12 => ?_) (fun h_12 => ?_)
    · refine J_sub (lv' := [(0, .ref (ad 40)), (2, .ref (ad 35)), (3, .int x3)]) [0, 1, 2] rfl ?_
      exact hkx41 σ
    · refine J_aload_n (pc := 15) C0 1 dX4_load_15 rfl rfl ?_
      refine J_getN (pc := 16) (v := .ref (ad 0)) C0 35 wC_o35 rfl in_X0 0 (by decide) q78 rfl dX4_load_16 ?_
      refine J_iload (pc := 19) C0 3 dX4_load_19 rfl ?_
      refine J_aload_n (pc := 21) C0 0 dX4_load_21 rfl rfl ?_
      refine J_get (pc := 22) (v := .ref (ad 16)) C0 40 wC_o40 rfl in_X4 0 (by decide) q79 rfl dX4_load_22 ?_
      refine J_iload_n (pc := 25) C0 2 dX4_load_25 rfl rfl ?_
      refine J_iload (pc := 26) C0 3 dX4_load_26 rfl ?_
      refine J_iadd (pc := 28) C0 dX4_load_28 ?_
      refine fin_T (run_V (As := [.int (x3 + x4)]) (rest := [.int x4, .ref (ad 0)]) (q0 := 16) C0 (cT_X5_get σ 16 (x3 + x4) (by decide)) v_X5_get q84 (wC_row (by decide)) rfl rfl ⟨rfl, rfl⟩ (Rm_ok (by decide) (by decide)) rfl (Nat.le_of_ble_eq_true rfl) dX4_load_29) ?_
      refine fin_TV (run_V (As := [.int x4, .int (rd σ 16 (x3 + x4))]) (rest := []) (q0 := 0) C0 (cT_X5_set σ 0 x4 (rd σ 16 (x3 + x4)) (by decide)) v_X5_set q85 (wC_row (by decide)) rfl rfl ⟨rfl, rfl⟩ (Rm_ok (by decide) (by decide)) rfl (Nat.le_of_ble_eq_true rfl) dX4_load_32) ?_
      refine J_iinc (pc := 35) (d := 1) (lv' := [(4, .int (x4 + 1)), (0, .ref (ad 40)), (2, .ref (ad 35)), (3, .int x3)]) C0 3 dX4_load_35 rfl (by decide) (by decide) rfl ?_
      refine J_goto (pc := 38) (tgt := 8) C0 dX4_load_38 (by decide) ?_
      refine J_sub (lv' := [(0, .ref (ad 40)), (2, .ref (ad 35)), (3, .int x3), (4, .int (x4 + 1))]) [1, 2, 3, 0] rfl ?_
      exact ih (wr σ 0 x4 (rd σ 16 (x3 + x4))) (x4 + 1)
set_option maxRecDepth 100000 in
set_option maxHeartbeats 4000000 in
theorem j_X4_load_L44 (C0 : Cx D (tyA cI cZ) RX4 cX4_load 5 none p s m args meth c) (x3 : Int32) : ∀ (n : Nat) (σ : SC) (x4 : Int32), J p l e (Rm 2) s m args below meth c D A (wC ad cI) 5 (QV D A (wC ad cI)) (f_X4_load_L44 x3 n σ x4) σ [(0, .ref (ad 40)), (2, .ref (ad 35)), (3, .int x3), (4, .int x4)] [] 44 := by
  intro n
  induction n with
  | zero => intros; exact J_none
  | succ n ih =>
    intro σ x4
    refine J_eq (f_X4_load_L44_s x3 n σ x4) ?_
    refine J_iload (pc := 44) C0 3 dX4_load_44 rfl ?_
    refine J_bipush (pc := 46) (v := (nI 16)) C0 dX4_load_46 (by decide) ?_
    refine J_icmp_ge (pc := 48) (tgt := 80) C0 dX4_load_48 (by decide) (fun h_48 => ?_) (fun h_48 => ?_)
    · refine J_aload_n (pc := 80) C0 1 dX4_load_80 rfl rfl ?_
      refine J_aload_n (pc := 81) C0 0 dX4_load_81 rfl rfl ?_
      refine J_get (pc := 82) (v := .ref (ad 16)) C0 40 wC_o40 rfl in_X4 0 (by decide) q79 rfl dX4_load_82 ?_
      refine J_iload_n (pc := 85) C0 2 dX4_load_85 rfl rfl ?_
      refine J_bipush (pc := 86) (v := (nI 16)) C0 dX4_load_86 (by decide) ?_
      refine J_iadd (pc := 88) C0 dX4_load_88 ?_
      refine J_bipush (pc := 89) (v := (nI 16)) C0 dX4_load_89 (by decide) ?_
      refine J_iadd (pc := 91) C0 dX4_load_91 ?_
      refine fin_T (run_V (As := [.int ((x3 + (nI 16)) + (nI 16))]) (rest := [.ref (ad 35)]) (q0 := 16) C0 (cT_X5_get σ 16 ((x3 + (nI 16)) + (nI 16)) (by decide)) v_X5_get q84 (wC_row (by decide)) rfl rfl ⟨rfl, rfl⟩ (Rm_ok (by decide) (by decide)) rfl (Nat.le_of_ble_eq_true rfl) dX4_load_92) ?_
      refine J_putN (pc := 95) (σ' := (su σ 17 0 (rd σ 16 ((x3 + (nI 16)) + (nI 16))))) (v := .int (rd σ 16 ((x3 + (nI 16)) + (nI 16)))) (ty := .int) C0 tyX0_ok nmX0 35 wC_o35 rfl in_X0 2 (by decide) q86 rfl (by decide +kernel) rfl rfl (Nat.le_of_ble_eq_true rfl) wC_p0 dX4_load_95 ?_
      exact J_vret C0 dX4_load_98
    · refine J_aload_n (pc := 51) C0 1 dX4_load_51 rfl rfl ?_
      refine J_getN (pc := 52) (v := .ref (ad 1)) C0 35 wC_o35 rfl in_X0 1 (by decide) q87 rfl dX4_load_52 ?_
      refine J_iload (pc := 55) C0 3 dX4_load_55 rfl ?_
      refine J_aload_n (pc := 57) C0 0 dX4_load_57 rfl rfl ?_
      refine J_get (pc := 58) (v := .ref (ad 16)) C0 40 wC_o40 rfl in_X4 0 (by decide) q79 rfl dX4_load_58 ?_
      refine J_iload_n (pc := 61) C0 2 dX4_load_61 rfl rfl ?_
      refine J_bipush (pc := 62) (v := (nI 16)) C0 dX4_load_62 (by decide) ?_
      refine J_iadd (pc := 64) C0 dX4_load_64 ?_
      refine J_iload (pc := 65) C0 3 dX4_load_65 rfl ?_
      refine J_iadd (pc := 67) C0 dX4_load_67 ?_
      refine fin_T (run_V (As := [.int ((x3 + (nI 16)) + x4)]) (rest := [.int x4, .ref (ad 1)]) (q0 := 16) C0 (cT_X5_get σ 16 ((x3 + (nI 16)) + x4) (by decide)) v_X5_get q84 (wC_row (by decide)) rfl rfl ⟨rfl, rfl⟩ (Rm_ok (by decide) (by decide)) rfl (Nat.le_of_ble_eq_true rfl) dX4_load_68) ?_
      refine fin_TV (run_V (As := [.int x4, .int (rd σ 16 ((x3 + (nI 16)) + x4))]) (rest := []) (q0 := 1) C0 (cT_X5_set σ 1 x4 (rd σ 16 ((x3 + (nI 16)) + x4)) (by decide)) v_X5_set q85 (wC_row (by decide)) rfl rfl ⟨rfl, rfl⟩ (Rm_ok (by decide) (by decide)) rfl (Nat.le_of_ble_eq_true rfl) dX4_load_71) ?_
      refine J_iinc (pc := 74) (d := 1) (lv' := [(4, .int (x4 + 1)), (0, .ref (ad 40)), (2, .ref (ad 35)), (3, .int x3)]) C0 3 dX4_load_74 rfl (by decide) (by decide) rfl ?_
      refine J_goto (pc := 77) (tgt := 44) C0 dX4_load_77 (by decide) ?_
      refine J_sub (lv' := [(0, .ref (ad 40)), (2, .ref (ad 35)), (3, .int x3), (4, .int (x4 + 1))]) [1, 2, 3, 0] rfl ?_
      exact ih (wr σ 1 x4 (rd σ 16 ((x3 + (nI 16)) + x4))) (x4 + 1)
set_option maxRecDepth 100000 in
set_option maxHeartbeats 4000000 in
theorem c_X4_load {l : Launch} {D : va_G} {cI cZ : ClassId} {A : Nat → Prop} {ad : Nat → Nat} (σ : SC) (x1 : Int32)  (r : SC) (h : f_X4_load σ x1 = some r) : Met l yX4_load (.code yX4_load cX4_load 5 none :: wG) (Rm 2) (PreW D (tyA cI cZ) A (wC ad cI) [.ref (ad 40), .int x1, .ref (ad 35)] σ) (QV D A (wC ad cI) r) 0 0 A := by
  refine met_of (M := f_X4_load σ x1) (Qc := (QV D A (wC ad cI))) (by decide) (Nat.le_of_ble_eq_true rfl) h (fun p e s m below meth c C0 => ?_)
  generalize hargs : ([.ref (ad 40), .int x1, .ref (ad 35)] : List Value).toArray = args at C0 ⊢
  have C0 : Cx D (tyA cI cZ) RX4 cX4_load 5 none p s m args meth c := C0
  refine J_sub (lv' := [(0, .ref (ad 40)), (1, .int x1), (2, .ref (ad 35))]) [0, 1, 2] rfl ?_
  unfold f_X4_load
  refine J_iload_n (pc := 0) C0 1 dX4_load_0 rfl rfl ?_
  refine J_bipush (pc := 1) (v := (nI 33)) C0 dX4_load_1 (by decide) ?_
  refine J_imul (pc := 3) C0 dX4_load_3 ?_
  refine J_istore_n (pc := 4) (lv' := [(3, .int (x1 * (nI 33))), (0, .ref (ad 40)), (1, .int x1), (2, .ref (ad 35))]) C0 dX4_load_4 rfl (by decide) rfl ?_
  refine J_iconst (pc := 5) (v := 0) C0 dX4_load_5 (by decide) ?_
  refine J_istore (pc := 6) (lv' := [(4, .int 0), (3, .int (x1 * (nI 33))), (0, .ref (ad 40)), (1, .int x1), (2, .ref (ad 35))]) C0 dX4_load_6 (by decide) rfl ?_
  refine J_sub (lv' := [(0, .ref (ad 40)), (2, .ref (ad 35)), (3, .int (x1 * (nI 33))), (4, .int 0)]) [2, 4, 1, 0] rfl ?_
  refine j_X4_load_L8 C0 (x1 * (nI 33)) _ (fun σ_41 => ?_) FU σ 0
  refine J_iconst (pc := 41) (v := 0) C0 dX4_load_41 (by decide) ?_
  refine J_istore (pc := 42) (lv' := [(4, .int 0), (0, .ref (ad 40)), (2, .ref (ad 35)), (3, .int (x1 * (nI 33)))]) C0 dX4_load_42 (by decide) rfl ?_
  refine J_sub (lv' := [(0, .ref (ad 40)), (2, .ref (ad 35)), (3, .int (x1 * (nI 33))), (4, .int 0)]) [1, 2, 3, 0] rfl ?_
  exact j_X4_load_L44 C0 (x1 * (nI 33)) FU σ_41 0
end SE

def f_X4_save_L8 (x3 : Int32) (kx41 : SC → Option SC) : Nat → SC → Int32 → Option SC
  | 0, _, _ => none
  | n + 1, σ, x4 =>
  (if (nI 16) ≤ x4 then (kx41 σ) else (f_X4_save_L8 x3 kx41 n (wr σ 16 (x3 + x4) (rd σ 0 x4)) (x4 + 1)))
theorem f_X4_save_L8_s (x3 : Int32) (kx41 : SC → Option SC) (n : Nat) (σ : SC) (x4 : Int32) : f_X4_save_L8 x3 kx41 (n + 1) σ x4 = ((if (nI 16) ≤ x4 then (kx41 σ) else (f_X4_save_L8 x3 kx41 n (wr σ 16 (x3 + x4) (rd σ 0 x4)) (x4 + 1)))) := rfl
def f_X4_save_L44 (x3 : Int32) : Nat → SC → Int32 → Option SC
  | 0, _, _ => none
  | n + 1, σ, x4 =>
  (if (nI 16) ≤ x4 then (some (wr σ 16 ((x3 + (nI 16)) + (nI 16)) (σ 17 0))) else (f_X4_save_L44 x3 n (wr σ 16 ((x3 + (nI 16)) + x4) (rd σ 1 x4)) (x4 + 1)))
theorem f_X4_save_L44_s (x3 : Int32) (n : Nat) (σ : SC) (x4 : Int32) : f_X4_save_L44 x3 (n + 1) σ x4 = ((if (nI 16) ≤ x4 then (some (wr σ 16 ((x3 + (nI 16)) + (nI 16)) (σ 17 0))) else (f_X4_save_L44 x3 n (wr σ 16 ((x3 + (nI 16)) + x4) (rd σ 1 x4)) (x4 + 1)))) := rfl
def f_X4_save (σ : SC) (x1 : Int32) : Option SC :=
  (f_X4_save_L8 (x1 * (nI 33)) (fun σ_41 => (f_X4_save_L44 (x1 * (nI 33)) FU σ_41 0)) FU σ 0)
section SE
variable {p : Program} {l : Launch} {e : Env} {s : State} {m : MethodId} {args : Array Value} {below : List Frame} {meth : Method} {c : Code} {D : va_G} {cI cZ : ClassId} {A : Nat → Prop} {ad : Nat → Nat}
set_option maxRecDepth 100000 in
set_option maxHeartbeats 4000000 in
theorem j_X4_save_L8 (C0 : Cx D (tyA cI cZ) RX4 cX4_save 5 none p s m args meth c) (x3 : Int32) (kx41 : SC → Option SC) (hkx41 : ∀ (σ : SC), J p l e (Rm 2) s m args below meth c D A (wC ad cI) 5 (QV D A (wC ad cI)) (kx41 σ) σ [(0, .ref (ad 40)), (2, .ref (ad 35)), (3, .int x3)] [] 41) : ∀ (n : Nat) (σ : SC) (x4 : Int32), J p l e (Rm 2) s m args below meth c D A (wC ad cI) 5 (QV D A (wC ad cI)) (f_X4_save_L8 x3 kx41 n σ x4) σ [(0, .ref (ad 40)), (2, .ref (ad 35)), (3, .int x3), (4, .int x4)] [] 8 := by
  intro n
  induction n with
  | zero => intros; exact J_none
  | succ n ih =>
    intro σ x4
    refine J_eq (f_X4_save_L8_s x3 kx41 n σ x4) ?_
    refine J_iload (pc := 8) C0 3 dX4_save_8 rfl ?_
    refine J_bipush (pc := 10) (v := (nI 16)) C0 dX4_save_10 (by decide) ?_
    refine J_icmp_ge (pc := 12) (tgt := 41) C0 dX4_save_12 (by decide) (fun h_12 => ?_) (fun h_12 => ?_)
    · refine J_sub (lv' := [(0, .ref (ad 40)), (2, .ref (ad 35)), (3, .int x3)]) [0, 1, 2] rfl ?_
      exact hkx41 σ
    · refine J_aload_n (pc := 15) C0 0 dX4_save_15 rfl rfl ?_
      refine J_get (pc := 16) (v := .ref (ad 16)) C0 40 wC_o40 rfl in_X4 0 (by decide) q79 rfl dX4_save_16 ?_
      refine J_iload_n (pc := 19) C0 2 dX4_save_19 rfl rfl ?_
      refine J_iload (pc := 20) C0 3 dX4_save_20 rfl ?_
      refine J_iadd (pc := 22) C0 dX4_save_22 ?_
      refine J_aload_n (pc := 23) C0 1 dX4_save_23 rfl rfl ?_
      refine J_getN (pc := 24) (v := .ref (ad 0)) C0 35 wC_o35 rfl in_X0 0 (by decide) q78 rfl dX4_save_24 ?_
      refine J_iload (pc := 27) C0 3 dX4_save_27 rfl ?_
      refine fin_T (run_V (As := [.int x4]) (rest := [.int (x3 + x4), .ref (ad 16)]) (q0 := 0) C0 (cT_X5_get σ 0 x4 (by decide)) v_X5_get q84 (wC_row (by decide)) rfl rfl ⟨rfl, rfl⟩ (Rm_ok (by decide) (by decide)) rfl (Nat.le_of_ble_eq_true rfl) dX4_save_29) ?_
      refine fin_TV (run_V (As := [.int (x3 + x4), .int (rd σ 0 x4)]) (rest := []) (q0 := 16) C0 (cT_X5_set σ 16 (x3 + x4) (rd σ 0 x4) (by decide)) v_X5_set q85 (wC_row (by decide)) rfl rfl ⟨rfl, rfl⟩ (Rm_ok (by decide) (by decide)) rfl (Nat.le_of_ble_eq_true rfl) dX4_save_32) ?_
      refine J_iinc (pc := 35) (d := 1) (lv' := [(4, .int (x4 + 1)), (0, .ref (ad 40)), (2, .ref (ad 35)), (3, .int x3)]) C0 3 dX4_save_35 rfl (by decide) (by decide) rfl ?_
      refine J_goto (pc := 38) (tgt := 8) C0 dX4_save_38 (by decide) ?_
      refine J_sub (lv' := [(0, .ref (ad 40)), (2, .ref (ad 35)), (3, .int x3), (4, .int (x4 + 1))]) [1, 2, 3, 0] rfl ?_
      exact ih (wr σ 16 (x3 + x4) (rd σ 0 x4)) (x4 + 1)
set_option maxRecDepth 100000 in
set_option maxHeartbeats 4000000 in
theorem j_X4_save_L44 (C0 : Cx D (tyA cI cZ) RX4 cX4_save 5 none p s m args meth c) (x3 : Int32) : ∀ (n : Nat) (σ : SC) (x4 : Int32), J p l e (Rm 2) s m args below meth c D A (wC ad cI) 5 (QV D A (wC ad cI)) (f_X4_save_L44 x3 n σ x4) σ [(0, .ref (ad 40)), (2, .ref (ad 35)), (3, .int x3), (4, .int x4)] [] 44 := by
  intro n
  induction n with
  | zero => intros; exact J_none
  | succ n ih =>
    intro σ x4
    refine J_eq (f_X4_save_L44_s x3 n σ x4) ?_
    refine J_iload (pc := 44) C0 3 dX4_save_44 rfl ?_
    refine J_bipush (pc := 46) (v := (nI 16)) C0 dX4_save_46 (by decide) ?_
    refine J_icmp_ge (pc := 48) (tgt := 80) C0 dX4_save_48 (by decide) (fun h_48 => ?_) (fun h_48 => ?_)
    · refine J_aload_n (pc := 80) C0 0 dX4_save_80 rfl rfl ?_
      refine J_get (pc := 81) (v := .ref (ad 16)) C0 40 wC_o40 rfl in_X4 0 (by decide) q79 rfl dX4_save_81 ?_
      refine J_iload_n (pc := 84) C0 2 dX4_save_84 rfl rfl ?_
      refine J_bipush (pc := 85) (v := (nI 16)) C0 dX4_save_85 (by decide) ?_
      refine J_iadd (pc := 87) C0 dX4_save_87 ?_
      refine J_bipush (pc := 88) (v := (nI 16)) C0 dX4_save_88 (by decide) ?_
      refine J_iadd (pc := 90) C0 dX4_save_90 ?_
      refine J_aload_n (pc := 91) C0 1 dX4_save_91 rfl rfl ?_
      refine J_getN (pc := 92) (v := .int (σ 17 0)) C0 35 wC_o35 rfl in_X0 2 (by decide) q86 rfl dX4_save_92 ?_
      refine fin_TV (run_V (As := [.int ((x3 + (nI 16)) + (nI 16)), .int (σ 17 0)]) (rest := []) (q0 := 16) C0 (cT_X5_set σ 16 ((x3 + (nI 16)) + (nI 16)) (σ 17 0) (by decide)) v_X5_set q85 (wC_row (by decide)) rfl rfl ⟨rfl, rfl⟩ (Rm_ok (by decide) (by decide)) rfl (Nat.le_of_ble_eq_true rfl) dX4_save_95) ?_
      exact J_vret C0 dX4_save_98
    · refine J_aload_n (pc := 51) C0 0 dX4_save_51 rfl rfl ?_
      refine J_get (pc := 52) (v := .ref (ad 16)) C0 40 wC_o40 rfl in_X4 0 (by decide) q79 rfl dX4_save_52 ?_
      refine J_iload_n (pc := 55) C0 2 dX4_save_55 rfl rfl ?_
      refine J_bipush (pc := 56) (v := (nI 16)) C0 dX4_save_56 (by decide) ?_
      refine J_iadd (pc := 58) C0 dX4_save_58 ?_
      refine J_iload (pc := 59) C0 3 dX4_save_59 rfl ?_
      refine J_iadd (pc := 61) C0 dX4_save_61 ?_
      refine J_aload_n (pc := 62) C0 1 dX4_save_62 rfl rfl ?_
      refine J_getN (pc := 63) (v := .ref (ad 1)) C0 35 wC_o35 rfl in_X0 1 (by decide) q87 rfl dX4_save_63 ?_
      refine J_iload (pc := 66) C0 3 dX4_save_66 rfl ?_
      refine fin_T (run_V (As := [.int x4]) (rest := [.int ((x3 + (nI 16)) + x4), .ref (ad 16)]) (q0 := 1) C0 (cT_X5_get σ 1 x4 (by decide)) v_X5_get q84 (wC_row (by decide)) rfl rfl ⟨rfl, rfl⟩ (Rm_ok (by decide) (by decide)) rfl (Nat.le_of_ble_eq_true rfl) dX4_save_68) ?_
      refine fin_TV (run_V (As := [.int ((x3 + (nI 16)) + x4), .int (rd σ 1 x4)]) (rest := []) (q0 := 16) C0 (cT_X5_set σ 16 ((x3 + (nI 16)) + x4) (rd σ 1 x4) (by decide)) v_X5_set q85 (wC_row (by decide)) rfl rfl ⟨rfl, rfl⟩ (Rm_ok (by decide) (by decide)) rfl (Nat.le_of_ble_eq_true rfl) dX4_save_71) ?_
      refine J_iinc (pc := 74) (d := 1) (lv' := [(4, .int (x4 + 1)), (0, .ref (ad 40)), (2, .ref (ad 35)), (3, .int x3)]) C0 3 dX4_save_74 rfl (by decide) (by decide) rfl ?_
      refine J_goto (pc := 77) (tgt := 44) C0 dX4_save_77 (by decide) ?_
      refine J_sub (lv' := [(0, .ref (ad 40)), (2, .ref (ad 35)), (3, .int x3), (4, .int (x4 + 1))]) [1, 2, 3, 0] rfl ?_
      exact ih (wr σ 16 ((x3 + (nI 16)) + x4) (rd σ 1 x4)) (x4 + 1)
set_option maxRecDepth 100000 in
set_option maxHeartbeats 4000000 in
theorem c_X4_save {l : Launch} {D : va_G} {cI cZ : ClassId} {A : Nat → Prop} {ad : Nat → Nat} (σ : SC) (x1 : Int32)  (r : SC) (h : f_X4_save σ x1 = some r) : Met l yX4_save (.code yX4_save cX4_save 5 none :: wG) (Rm 2) (PreW D (tyA cI cZ) A (wC ad cI) [.ref (ad 40), .int x1, .ref (ad 35)] σ) (QV D A (wC ad cI) r) 0 0 A := by
  refine met_of (M := f_X4_save σ x1) (Qc := (QV D A (wC ad cI))) (by decide) (Nat.le_of_ble_eq_true rfl) h (fun p e s m below meth c C0 => ?_)
  generalize hargs : ([.ref (ad 40), .int x1, .ref (ad 35)] : List Value).toArray = args at C0 ⊢
  have C0 : Cx D (tyA cI cZ) RX4 cX4_save 5 none p s m args meth c := C0
  refine J_sub (lv' := [(0, .ref (ad 40)), (1, .int x1), (2, .ref (ad 35))]) [0, 1, 2] rfl ?_
  unfold f_X4_save
  refine J_iload_n (pc := 0) C0 1 dX4_save_0 rfl rfl ?_
  refine J_bipush (pc := 1) (v := (nI 33)) C0 dX4_save_1 (by decide) ?_
  refine J_imul (pc := 3) C0 dX4_save_3 ?_
  refine J_istore_n (pc := 4) (lv' := [(3, .int (x1 * (nI 33))), (0, .ref (ad 40)), (1, .int x1), (2, .ref (ad 35))]) C0 dX4_save_4 rfl (by decide) rfl ?_
  refine J_iconst (pc := 5) (v := 0) C0 dX4_save_5 (by decide) ?_
  refine J_istore (pc := 6) (lv' := [(4, .int 0), (3, .int (x1 * (nI 33))), (0, .ref (ad 40)), (1, .int x1), (2, .ref (ad 35))]) C0 dX4_save_6 (by decide) rfl ?_
  refine J_sub (lv' := [(0, .ref (ad 40)), (2, .ref (ad 35)), (3, .int (x1 * (nI 33))), (4, .int 0)]) [2, 4, 1, 0] rfl ?_
  refine j_X4_save_L8 C0 (x1 * (nI 33)) _ (fun σ_41 => ?_) FU σ 0
  refine J_iconst (pc := 41) (v := 0) C0 dX4_save_41 (by decide) ?_
  refine J_istore (pc := 42) (lv' := [(4, .int 0), (0, .ref (ad 40)), (2, .ref (ad 35)), (3, .int (x1 * (nI 33)))]) C0 dX4_save_42 (by decide) rfl ?_
  refine J_sub (lv' := [(0, .ref (ad 40)), (2, .ref (ad 35)), (3, .int (x1 * (nI 33))), (4, .int 0)]) [1, 2, 3, 0] rfl ?_
  exact j_X4_save_L44 C0 (x1 * (nI 33)) FU σ_41 0
end SE

def f_X6_addSlot_L42 (r4 : Nat) (x1 : Int32) (x2 : Int32) (x3 : Int32) : Nat → SC → Int32 → Option SC
  | 0, _, _ => none
  | n + 1, σ, x5 =>
  (if x2 ≤ x5 then (some (su σ 17 1 ((σ 17 1) + 1))) else (f_X6_addSlot_L42 r4 x1 x2 x3 n (wr σ r4 (x1 + (x5 * x3)) (σ 17 1)) (x5 + 1)))
theorem f_X6_addSlot_L42_s (r4 : Nat) (x1 : Int32) (x2 : Int32) (x3 : Int32) (n : Nat) (σ : SC) (x5 : Int32) : f_X6_addSlot_L42 r4 x1 x2 x3 (n + 1) σ x5 = ((if x2 ≤ x5 then (some (su σ 17 1 ((σ 17 1) + 1))) else (f_X6_addSlot_L42 r4 x1 x2 x3 n (wr σ r4 (x1 + (x5 * x3)) (σ 17 1)) (x5 + 1)))) := rfl
def f_X6_addSlot (σ : SC) (x1 : Int32) (x2 : Int32) (x3 : Int32) (r4 : Nat) : Option SC :=
  (if x2 < (nI 2) then (some σ) else (if (σ 17 1) < (nI 8) then (f_X6_addSlot_L42 r4 x1 x2 x3 FU (wr (wr σ 2 (σ 17 1) x1) 3 ((wr σ 2 (σ 17 1) x1) 17 1) x2) 0) else (some σ)))
section SE
variable {p : Program} {l : Launch} {e : Env} {s : State} {m : MethodId} {args : Array Value} {below : List Frame} {meth : Method} {c : Code} {D : va_G} {cI cZ : ClassId} {A : Nat → Prop} {ad : Nat → Nat}
set_option maxRecDepth 100000 in
set_option maxHeartbeats 4000000 in
theorem j_X6_addSlot_L42 (C0 : Cx D (tyA cI cZ) RX6 cX6_addSlot 6 none p s m args meth c) {r4 : Nat} (x1 : Int32) (x2 : Int32) (x3 : Int32) (hr4 : r4 < 17) : ∀ (n : Nat) (σ : SC) (x5 : Int32), J p l e (Rm 2) s m args below meth c D A (wC ad cI) 6 (QV D A (wC ad cI)) (f_X6_addSlot_L42 r4 x1 x2 x3 n σ x5) σ [(0, .ref (ad 36)), (1, .int x1), (2, .int x2), (3, .int x3), (4, .ref (ad r4)), (5, .int x5)] [] 42 := by
  intro n
  induction n with
  | zero => intros; exact J_none
  | succ n ih =>
    intro σ x5
    refine J_eq (f_X6_addSlot_L42_s r4 x1 x2 x3 n σ x5) ?_
    refine J_iload (pc := 42) C0 5 dX6_addSlot_42 rfl ?_
    refine J_iload_n (pc := 44) C0 2 dX6_addSlot_44 rfl rfl ?_
    refine J_icmp_ge (pc := 45) (tgt := 69) C0 dX6_addSlot_45 (by decide) (fun h_45 => ?_) (fun h_45 => ?_)
    · refine J_aload_n (pc := 69) C0 0 dX6_addSlot_69 rfl rfl ?_
      refine J_dup (pc := 70) C0 dX6_addSlot_70 rfl ?_
      refine J_get (pc := 71) (v := .int (σ 17 1)) C0 36 wC_o36 rfl in_X6 6 (by decide) q88 rfl dX6_addSlot_71 ?_
      refine J_iconst (pc := 74) (v := 1) C0 dX6_addSlot_74 (by decide) ?_
      refine J_iadd (pc := 75) C0 dX6_addSlot_75 ?_
      refine J_put (pc := 76) (σ' := (su σ 17 1 ((σ 17 1) + 1))) (v := .int ((σ 17 1) + 1)) (ty := .int) C0 tyX6_ok nmX6 36 wC_o36 rfl in_X6 6 (by decide) q88 rfl (by decide +kernel) rfl rfl (Nat.le_of_ble_eq_true rfl) wC_p1 dX6_addSlot_76 ?_
      exact J_vret C0 dX6_addSlot_79
    · refine J_aload (pc := 48) C0 4 dX6_addSlot_48 rfl ?_
      refine J_iload_n (pc := 50) C0 1 dX6_addSlot_50 rfl rfl ?_
      refine J_iload (pc := 51) C0 5 dX6_addSlot_51 rfl ?_
      refine J_iload_n (pc := 53) C0 3 dX6_addSlot_53 rfl rfl ?_
      refine J_imul (pc := 54) C0 dX6_addSlot_54 ?_
      refine J_iadd (pc := 55) C0 dX6_addSlot_55 ?_
      refine J_aload_n (pc := 56) C0 0 dX6_addSlot_56 rfl rfl ?_
      refine J_get (pc := 57) (v := .int (σ 17 1)) C0 36 wC_o36 rfl in_X6 6 (by decide) q88 rfl dX6_addSlot_57 ?_
      refine fin_TV (run_V (As := [.int (x1 + (x5 * x3)), .int (σ 17 1)]) (rest := []) (q0 := r4) C0 (cT_X5_set σ r4 (x1 + (x5 * x3)) (σ 17 1) hr4) v_X5_set q90 (wC_row hr4) rfl rfl ⟨rfl, rfl⟩ (Rm_ok (by decide) (by decide)) rfl (Nat.le_of_ble_eq_true rfl) dX6_addSlot_60) ?_
      refine J_iinc (pc := 63) (d := 1) (lv' := [(5, .int (x5 + 1)), (0, .ref (ad 36)), (1, .int x1), (2, .int x2), (3, .int x3), (4, .ref (ad r4))]) C0 5 dX6_addSlot_63 rfl (by decide) (by decide) rfl ?_
      refine J_goto (pc := 66) (tgt := 42) C0 dX6_addSlot_66 (by decide) ?_
      refine J_sub (lv' := [(0, .ref (ad 36)), (1, .int x1), (2, .int x2), (3, .int x3), (4, .ref (ad r4)), (5, .int (x5 + 1))]) [1, 2, 3, 4, 5, 0] rfl ?_
      exact ih (wr σ r4 (x1 + (x5 * x3)) (σ 17 1)) (x5 + 1)
set_option maxRecDepth 100000 in
set_option maxHeartbeats 4000000 in
theorem c_X6_addSlot {l : Launch} {D : va_G} {cI cZ : ClassId} {A : Nat → Prop} {ad : Nat → Nat} (σ : SC) (x1 : Int32) (x2 : Int32) (x3 : Int32) (r4 : Nat) (hr4 : r4 < 17) (r : SC) (h : f_X6_addSlot σ x1 x2 x3 r4 = some r) : Met l yX6_addSlot (.code yX6_addSlot cX6_addSlot 6 none :: wG) (Rm 2) (PreW D (tyA cI cZ) A (wC ad cI) [.ref (ad 36), .int x1, .int x2, .int x3, .ref (ad r4)] σ) (QV D A (wC ad cI) r) 0 0 A := by
  refine met_of (M := f_X6_addSlot σ x1 x2 x3 r4) (Qc := (QV D A (wC ad cI))) (by decide) (Nat.le_of_ble_eq_true rfl) h (fun p e s m below meth c C0 => ?_)
  generalize hargs : ([.ref (ad 36), .int x1, .int x2, .int x3, .ref (ad r4)] : List Value).toArray = args at C0 ⊢
  have C0 : Cx D (tyA cI cZ) RX6 cX6_addSlot 6 none p s m args meth c := C0
  refine J_sub (lv' := [(0, .ref (ad 36)), (1, .int x1), (2, .int x2), (3, .int x3), (4, .ref (ad r4))]) [0, 1, 2, 3, 4] rfl ?_
  unfold f_X6_addSlot
  refine J_iload_n (pc := 0) C0 2 dX6_addSlot_0 rfl rfl ?_
  refine J_iconst (pc := 1) (v := (nI 2)) C0 dX6_addSlot_1 (by decide) ?_
  refine J_icmp_lt (pc := 2) (tgt := 14) C0 dX6_addSlot_2 (by decide) (fun h_2 => ?_) (fun h_2 => ?_)
  · exact J_vret C0 dX6_addSlot_14
  · refine J_aload_n (pc := 5) C0 0 dX6_addSlot_5 rfl rfl ?_
    refine J_get (pc := 6) (v := .int (σ 17 1)) C0 36 wC_o36 rfl in_X6 6 (by decide) q88 rfl dX6_addSlot_6 ?_
    refine J_bipush (pc := 9) (v := (nI 8)) C0 dX6_addSlot_9 (by decide) ?_
    refine J_icmp_lt (pc := 11) (tgt := 15) C0 dX6_addSlot_11 (by decide) (fun h_11 => ?_) (fun h_11 => ?_)
    · refine J_aload_n (pc := 15) C0 0 dX6_addSlot_15 rfl rfl ?_
      refine J_get (pc := 16) (v := .ref (ad 2)) C0 36 wC_o36 rfl in_X6 0 (by decide) q89 rfl dX6_addSlot_16 ?_
      refine J_aload_n (pc := 19) C0 0 dX6_addSlot_19 rfl rfl ?_
      refine J_get (pc := 20) (v := .int (σ 17 1)) C0 36 wC_o36 rfl in_X6 6 (by decide) q88 rfl dX6_addSlot_20 ?_
      refine J_iload_n (pc := 23) C0 1 dX6_addSlot_23 rfl rfl ?_
      refine fin_TV (run_V (As := [.int (σ 17 1), .int x1]) (rest := []) (q0 := 2) C0 (cT_X5_set σ 2 (σ 17 1) x1 (by decide)) v_X5_set q90 (wC_row (by decide)) rfl rfl ⟨rfl, rfl⟩ (Rm_ok (by decide) (by decide)) rfl (Nat.le_of_ble_eq_true rfl) dX6_addSlot_24) ?_
      refine J_aload_n (pc := 27) C0 0 dX6_addSlot_27 rfl rfl ?_
      refine J_get (pc := 28) (v := .ref (ad 3)) C0 36 wC_o36 rfl in_X6 1 (by decide) q91 rfl dX6_addSlot_28 ?_
      refine J_aload_n (pc := 31) C0 0 dX6_addSlot_31 rfl rfl ?_
      refine J_get (pc := 32) (v := .int ((wr σ 2 (σ 17 1) x1) 17 1)) C0 36 wC_o36 rfl in_X6 6 (by decide) q88 rfl dX6_addSlot_32 ?_
      refine J_iload_n (pc := 35) C0 2 dX6_addSlot_35 rfl rfl ?_
      refine fin_TV (run_V (As := [.int ((wr σ 2 (σ 17 1) x1) 17 1), .int x2]) (rest := []) (q0 := 3) C0 (cT_X5_set (wr σ 2 (σ 17 1) x1) 3 ((wr σ 2 (σ 17 1) x1) 17 1) x2 (by decide)) v_X5_set q90 (wC_row (by decide)) rfl rfl ⟨rfl, rfl⟩ (Rm_ok (by decide) (by decide)) rfl (Nat.le_of_ble_eq_true rfl) dX6_addSlot_36) ?_
      refine J_iconst (pc := 39) (v := 0) C0 dX6_addSlot_39 (by decide) ?_
      refine J_istore (pc := 40) (lv' := [(5, .int 0), (0, .ref (ad 36)), (1, .int x1), (2, .int x2), (3, .int x3), (4, .ref (ad r4))]) C0 dX6_addSlot_40 (by decide) rfl ?_
      refine J_sub (lv' := [(0, .ref (ad 36)), (1, .int x1), (2, .int x2), (3, .int x3), (4, .ref (ad r4)), (5, .int 0)]) [1, 2, 3, 4, 5, 0] rfl ?_
      exact j_X6_addSlot_L42 C0 x1 x2 x3 hr4 FU (wr (wr σ 2 (σ 17 1) x1) 3 ((wr σ 2 (σ 17 1) x1) 17 1) x2) 0
    · exact J_vret C0 dX6_addSlot_14
end SE

def f_X6_cellAt (σ : SC) (x1 : Int32) (x2 : Int32) : Option Int32 :=
  ((f_X6_isDown σ x1).bind fun r11 => (if r11 = 0 then (some ((rd σ 2 x1) + (x2 * 1))) else (some ((rd σ 2 x1) + (x2 * (nI 4))))))
section SE
variable {p : Program} {l : Launch} {e : Env} {s : State} {m : MethodId} {args : Array Value} {below : List Frame} {meth : Method} {c : Code} {D : va_G} {cI cZ : ClassId} {A : Nat → Prop} {ad : Nat → Nat}
set_option maxRecDepth 100000 in
set_option maxHeartbeats 4000000 in
theorem c_X6_cellAt {l : Launch} {D : va_G} {cI cZ : ClassId} {A : Nat → Prop} {ad : Nat → Nat} (σ : SC) (x1 : Int32) (x2 : Int32)  (r : Int32) (h : f_X6_cellAt σ x1 x2 = some r) : Met l yX6_cellAt (.code yX6_cellAt cX6_cellAt 3 (some .int) :: wG) (Rm 2) (PreW D (tyA cI cZ) A (wC ad cI) [.ref (ad 36), .int x1, .int x2] σ) (QI D A (wC ad cI) (r, σ)) 0 0 A := by
  refine met_of (M := f_X6_cellAt σ x1 x2) (Qc := (fun r => QI D A (wC ad cI) (r, σ))) (by decide) (Nat.le_of_ble_eq_true rfl) h (fun p e s m below meth c C0 => ?_)
  generalize hargs : ([.ref (ad 36), .int x1, .int x2] : List Value).toArray = args at C0 ⊢
  have C0 : Cx D (tyA cI cZ) RX6 cX6_cellAt 3 (some .int) p s m args meth c := C0
  refine J_sub (lv' := [(0, .ref (ad 36)), (1, .int x1), (2, .int x2)]) [0, 1, 2] rfl ?_
  unfold f_X6_cellAt
  refine J_aload_n (pc := 0) C0 0 dX6_cellAt_0 rfl rfl ?_
  refine J_get (pc := 1) (v := .ref (ad 2)) C0 36 wC_o36 rfl in_X6 0 (by decide) q89 rfl dX6_cellAt_1 ?_
  refine J_iload_n (pc := 4) C0 1 dX6_cellAt_4 rfl rfl ?_
  refine fin_T (run_V (As := [.int x1]) (rest := []) (q0 := 2) C0 (cT_X5_get σ 2 x1 (by decide)) v_X5_get q92 (wC_row (by decide)) rfl rfl ⟨rfl, rfl⟩ (Rm_ok (by decide) (by decide)) rfl (Nat.le_of_ble_eq_true rfl) dX6_cellAt_5) ?_
  refine J_iload_n (pc := 8) C0 2 dX6_cellAt_8 rfl rfl ?_
  refine J_aload_n (pc := 9) C0 0 dX6_cellAt_9 rfl rfl ?_
  refine J_iload_n (pc := 10) C0 1 dX6_cellAt_10 rfl rfl ?_
  refine fin_P (fun r_ h_ => run_V (As := [.int x1]) (rest := [.int x2, .int (rd σ 2 x1)]) (q0 := 36) C0 (c_X6_isDown σ x1  r_ h_) v_X6_isDown q93 wC_o36 rfl rfl ⟨rfl, rfl⟩ (Rm_ok (by decide) (by decide)) rfl (Nat.le_of_ble_eq_true rfl) dX6_cellAt_11) (fun r11 e11 => ?_)
  refine J_if_eq (pc := 14) (tgt := 21) C0 dX6_cellAt_14 (by decide) (fun h_14 => ?_) (fun h_14 => ?_)
  · refine J_iconst (pc := 21) (v := 1) C0 dX6_cellAt_21 (by decide) ?_
    refine J_imul (pc := 22) C0 dX6_cellAt_22 ?_
    refine J_iadd (pc := 23) C0 dX6_cellAt_23 ?_
    exact J_iretP C0 dX6_cellAt_24
  · refine J_iconst (pc := 17) (v := (nI 4)) C0 dX6_cellAt_17 (by decide) ?_
    refine J_goto (pc := 18) (tgt := 22) C0 dX6_cellAt_18 (by decide) ?_
    refine J_imul (pc := 22) C0 dX6_cellAt_22 ?_
    refine J_iadd (pc := 23) C0 dX6_cellAt_23 ?_
    exact J_iretP C0 dX6_cellAt_24
end SE

def f_X6_placeOf (σ : SC) (x1 : Int32) (x2 : Int32) : Option Int32 :=
  ((f_X6_isDown σ x2).bind fun r13 => (if r13 = 0 then (some (x1 - (rd σ 2 x2))) else (some ((x1 - (rd σ 2 x2)) / (nI 4)))))
section SE
variable {p : Program} {l : Launch} {e : Env} {s : State} {m : MethodId} {args : Array Value} {below : List Frame} {meth : Method} {c : Code} {D : va_G} {cI cZ : ClassId} {A : Nat → Prop} {ad : Nat → Nat}
set_option maxRecDepth 100000 in
set_option maxHeartbeats 4000000 in
theorem c_X6_placeOf {l : Launch} {D : va_G} {cI cZ : ClassId} {A : Nat → Prop} {ad : Nat → Nat} (σ : SC) (x1 : Int32) (x2 : Int32)  (r : Int32) (h : f_X6_placeOf σ x1 x2 = some r) : Met l yX6_placeOf (.code yX6_placeOf cX6_placeOf 4 (some .int) :: wG) (Rm 2) (PreW D (tyA cI cZ) A (wC ad cI) [.ref (ad 36), .int x1, .int x2] σ) (QI D A (wC ad cI) (r, σ)) 0 0 A := by
  refine met_of (M := f_X6_placeOf σ x1 x2) (Qc := (fun r => QI D A (wC ad cI) (r, σ))) (by decide) (Nat.le_of_ble_eq_true rfl) h (fun p e s m below meth c C0 => ?_)
  generalize hargs : ([.ref (ad 36), .int x1, .int x2] : List Value).toArray = args at C0 ⊢
  have C0 : Cx D (tyA cI cZ) RX6 cX6_placeOf 4 (some .int) p s m args meth c := C0
  refine J_sub (lv' := [(0, .ref (ad 36)), (1, .int x1), (2, .int x2)]) [0, 1, 2] rfl ?_
  unfold f_X6_placeOf
  refine J_iload_n (pc := 0) C0 1 dX6_placeOf_0 rfl rfl ?_
  refine J_aload_n (pc := 1) C0 0 dX6_placeOf_1 rfl rfl ?_
  refine J_get (pc := 2) (v := .ref (ad 2)) C0 36 wC_o36 rfl in_X6 0 (by decide) q89 rfl dX6_placeOf_2 ?_
  refine J_iload_n (pc := 5) C0 2 dX6_placeOf_5 rfl rfl ?_
  refine fin_T (run_V (As := [.int x2]) (rest := [.int x1]) (q0 := 2) C0 (cT_X5_get σ 2 x2 (by decide)) v_X5_get q92 (wC_row (by decide)) rfl rfl ⟨rfl, rfl⟩ (Rm_ok (by decide) (by decide)) rfl (Nat.le_of_ble_eq_true rfl) dX6_placeOf_6) ?_
  refine J_isub (pc := 9) C0 dX6_placeOf_9 ?_
  refine J_istore_n (pc := 10) (lv' := [(3, .int (x1 - (rd σ 2 x2))), (0, .ref (ad 36)), (1, .int x1), (2, .int x2)]) C0 dX6_placeOf_10 rfl (by decide) rfl ?_
  refine J_aload_n (pc := 11) C0 1 dX6_placeOf_11 rfl rfl ?_
  refine J_iload_n (pc := 12) C0 3 dX6_placeOf_12 rfl rfl ?_
  refine fin_P (fun r_ h_ => run_V (As := [.int x2]) (rest := []) (q0 := 36) C0 (c_X6_isDown σ x2  r_ h_) v_X6_isDown q93 wC_o36 rfl rfl ⟨rfl, rfl⟩ (Rm_ok (by decide) (by decide)) rfl (Nat.le_of_ble_eq_true rfl) dX6_placeOf_13) (fun r13 e13 => ?_)
  refine J_if_eq (pc := 16) (tgt := 25) C0 dX6_placeOf_16 (by decide) (fun h_16 => ?_) (fun h_16 => ?_)
  · refine J_iload_n (pc := 25) C0 0 dX6_placeOf_25 rfl rfl ?_
    exact J_iretP C0 dX6_placeOf_26
  · refine J_iload_n (pc := 19) C0 0 dX6_placeOf_19 rfl rfl ?_
    refine J_iconst (pc := 20) (v := (nI 4)) C0 dX6_placeOf_20 (by decide) ?_
    refine J_idiv (pc := 21) C0 dX6_placeOf_21 (by decide) ?_
    refine J_goto (pc := 22) (tgt := 26) C0 dX6_placeOf_22 (by decide) ?_
    exact J_iretP C0 dX6_placeOf_26
end SE

def f_X7_emptySlots_L4 (σ : SC) : Nat → Int32 → Int32 → Option Int32
  | 0, _, _ => none
  | n + 1, x1, x2 =>
  (if (σ 17 1) ≤ x2 then (some x1) else (if (rd σ 12 x2) = 0 then (f_X7_emptySlots_L4 σ n (x1 ||| ((1 : Int32) <<< (x2 &&& 31))) (x2 + 1)) else (f_X7_emptySlots_L4 σ n x1 (x2 + 1))))
theorem f_X7_emptySlots_L4_s (σ : SC) (n : Nat) (x1 : Int32) (x2 : Int32) : f_X7_emptySlots_L4 σ (n + 1) x1 x2 = ((if (σ 17 1) ≤ x2 then (some x1) else (if (rd σ 12 x2) = 0 then (f_X7_emptySlots_L4 σ n (x1 ||| ((1 : Int32) <<< (x2 &&& 31))) (x2 + 1)) else (f_X7_emptySlots_L4 σ n x1 (x2 + 1))))) := rfl
def f_X7_emptySlots (σ : SC)  : Option Int32 :=
  (f_X7_emptySlots_L4 σ FU 0 0)
section SE
variable {p : Program} {l : Launch} {e : Env} {s : State} {m : MethodId} {args : Array Value} {below : List Frame} {meth : Method} {c : Code} {D : va_G} {cI cZ : ClassId} {A : Nat → Prop} {ad : Nat → Nat}
set_option maxRecDepth 100000 in
set_option maxHeartbeats 4000000 in
theorem j_X7_emptySlots_L4 (C0 : Cx D (tyA cI cZ) RX7 cX7_emptySlots 3 (some .int) p s m args meth c) (σ : SC) : ∀ (n : Nat) (x1 : Int32) (x2 : Int32), J p l e (Rm 2) s m args below meth c D A (wC ad cI) 3 (fun r => QI D A (wC ad cI) (r, σ)) (f_X7_emptySlots_L4 σ n x1 x2) σ [(0, .ref (ad 34)), (1, .int x1), (2, .int x2)] [] 4 := by
  intro n
  induction n with
  | zero => intros; exact J_none
  | succ n ih =>
    intro x1 x2
    refine J_eq (f_X7_emptySlots_L4_s σ n x1 x2) ?_
    refine J_iload_n (pc := 4) C0 2 dX7_emptySlots_4 rfl rfl ?_
    refine J_aload_n (pc := 5) C0 0 dX7_emptySlots_5 rfl rfl ?_
    refine J_get (pc := 6) (v := .ref (ad 36)) C0 34 wC_o34 rfl in_X7 1 (by decide) q15 rfl dX7_emptySlots_6 ?_
    refine J_getN (pc := 9) (v := .int (σ 17 1)) C0 36 wC_o36 rfl in_X6 6 (by decide) q22 rfl dX7_emptySlots_9 ?_
    refine J_icmp_ge (pc := 12) (tgt := 41) C0 dX7_emptySlots_12 (by decide) (fun h_12 => ?_) (fun h_12 => ?_)
    · refine J_iload_n (pc := 41) C0 1 dX7_emptySlots_41 rfl rfl ?_
      exact J_iretP C0 dX7_emptySlots_42
    · refine J_aload_n (pc := 15) C0 0 dX7_emptySlots_15 rfl rfl ?_
      refine J_get (pc := 16) (v := .ref (ad 38)) C0 34 wC_o34 rfl in_X7 3 (by decide) q98 rfl dX7_emptySlots_16 ?_
      refine J_getN (pc := 19) (v := .ref (ad 12)) C0 38 wC_o38 rfl in_X1 3 (by decide) q99 rfl dX7_emptySlots_19 ?_
      refine J_iload_n (pc := 22) C0 2 dX7_emptySlots_22 rfl rfl ?_
      refine fin_T (run_V (As := [.int x2]) (rest := []) (q0 := 12) C0 (cT_X5_get σ 12 x2 (by decide)) v_X5_get q100 (wC_row (by decide)) rfl rfl ⟨rfl, rfl⟩ (Rm_ok (by decide) (by decide)) rfl (Nat.le_of_ble_eq_true rfl) dX7_emptySlots_23) ?_
      refine J_if_ne (pc := 26) (tgt := 35) C0 dX7_emptySlots_26 (by decide) (fun h_26 => ?_) (fun h_26 => ?_)
      · refine J_iinc (pc := 35) (d := 1) (lv' := [(2, .int (x2 + 1)), (0, .ref (ad 34)), (1, .int x1)]) C0 2 dX7_emptySlots_35 rfl (by decide) (by decide) rfl ?_
        refine J_goto (pc := 38) (tgt := 4) C0 dX7_emptySlots_38 (by decide) ?_
        refine J_sub (lv' := [(0, .ref (ad 34)), (1, .int x1), (2, .int (x2 + 1))]) [1, 2, 0] rfl ?_
        exact ih x1 (x2 + 1)
      · refine J_iload_n (pc := 29) C0 1 dX7_emptySlots_29 rfl rfl ?_
        refine J_iconst (pc := 30) (v := 1) C0 dX7_emptySlots_30 (by decide) ?_
        refine J_iload_n (pc := 31) C0 2 dX7_emptySlots_31 rfl rfl ?_
        refine J_ishl (pc := 32) C0 dX7_emptySlots_32 ?_
        refine J_ior (pc := 33) C0 dX7_emptySlots_33 ?_
        refine J_istore_n (pc := 34) (lv' := [(1, .int (x1 ||| ((1 : Int32) <<< (x2 &&& 31)))), (0, .ref (ad 34)), (2, .int x2)]) C0 dX7_emptySlots_34 rfl (by decide) rfl ?_
        refine J_iinc (pc := 35) (d := 1) (lv' := [(2, .int (x2 + 1)), (1, .int (x1 ||| ((1 : Int32) <<< (x2 &&& 31)))), (0, .ref (ad 34))]) C0 2 dX7_emptySlots_35 rfl (by decide) (by decide) rfl ?_
        refine J_goto (pc := 38) (tgt := 4) C0 dX7_emptySlots_38 (by decide) ?_
        refine J_sub (lv' := [(0, .ref (ad 34)), (1, .int (x1 ||| ((1 : Int32) <<< (x2 &&& 31)))), (2, .int (x2 + 1))]) [2, 1, 0] rfl ?_
        exact ih (x1 ||| ((1 : Int32) <<< (x2 &&& 31))) (x2 + 1)
set_option maxRecDepth 100000 in
set_option maxHeartbeats 4000000 in
theorem c_X7_emptySlots {l : Launch} {D : va_G} {cI cZ : ClassId} {A : Nat → Prop} {ad : Nat → Nat} (σ : SC)   (r : Int32) (h : f_X7_emptySlots σ = some r) : Met l yX7_emptySlots (.code yX7_emptySlots cX7_emptySlots 3 (some .int) :: wG) (Rm 2) (PreW D (tyA cI cZ) A (wC ad cI) [.ref (ad 34)] σ) (QI D A (wC ad cI) (r, σ)) 0 0 A := by
  refine met_of (M := f_X7_emptySlots σ) (Qc := (fun r => QI D A (wC ad cI) (r, σ))) (by decide) (Nat.le_of_ble_eq_true rfl) h (fun p e s m below meth c C0 => ?_)
  generalize hargs : ([.ref (ad 34)] : List Value).toArray = args at C0 ⊢
  have C0 : Cx D (tyA cI cZ) RX7 cX7_emptySlots 3 (some .int) p s m args meth c := C0
  refine J_sub (lv' := [(0, .ref (ad 34))]) [0] rfl ?_
  unfold f_X7_emptySlots
  refine J_iconst (pc := 0) (v := 0) C0 dX7_emptySlots_0 (by decide) ?_
  refine J_istore_n (pc := 1) (lv' := [(1, .int 0), (0, .ref (ad 34))]) C0 dX7_emptySlots_1 rfl (by decide) rfl ?_
  refine J_iconst (pc := 2) (v := 0) C0 dX7_emptySlots_2 (by decide) ?_
  refine J_istore_n (pc := 3) (lv' := [(2, .int 0), (1, .int 0), (0, .ref (ad 34))]) C0 dX7_emptySlots_3 rfl (by decide) rfl ?_
  refine J_sub (lv' := [(0, .ref (ad 34)), (1, .int 0), (2, .int 0)]) [2, 1, 0] rfl ?_
  exact j_X7_emptySlots_L4 C0 σ FU 0 0
end SE

def f_X7_isHarder (σ : SC) (x1 : Int32) (x2 : Int32) : Option Int32 :=
  ((f_J6_bitCount_0f7a4 (rd σ 12 x1)).bind fun r11 => ((f_J6_bitCount_0f7a4 (rd σ 12 x2)).bind fun r26 => (if r11 = r26 then ((f_J6_bitCount_0f7a4 (rd σ 4 x1)).bind fun r60 => ((f_J6_bitCount_0f7a4 (rd σ 4 x2)).bind fun r74 => (if r60 ≤ r74 then (some 0) else (some 1)))) else (if r26 ≤ r11 then (some 0) else (some 1)))))
section SE
variable {p : Program} {l : Launch} {e : Env} {s : State} {m : MethodId} {args : Array Value} {below : List Frame} {meth : Method} {c : Code} {D : va_G} {cI cZ : ClassId} {A : Nat → Prop} {ad : Nat → Nat}
set_option maxRecDepth 100000 in
set_option maxHeartbeats 4000000 in
theorem c_X7_isHarder {l : Launch} {D : va_G} {cI cZ : ClassId} {A : Nat → Prop} {ad : Nat → Nat} (σ : SC) (x1 : Int32) (x2 : Int32)  (r : Int32) (h : f_X7_isHarder σ x1 x2 = some r) : Met l yX7_isHarder (.code yX7_isHarder cX7_isHarder 5 (some .boolean) :: wG) (Rm 2) (PreW D (tyA cI cZ) A (wC ad cI) [.ref (ad 34), .int x1, .int x2] σ) (QI D A (wC ad cI) (r, σ)) 0 0 A := by
  refine met_of (M := f_X7_isHarder σ x1 x2) (Qc := (fun r => QI D A (wC ad cI) (r, σ))) (by decide) (Nat.le_of_ble_eq_true rfl) h (fun p e s m below meth c C0 => ?_)
  generalize hargs : ([.ref (ad 34), .int x1, .int x2] : List Value).toArray = args at C0 ⊢
  have C0 : Cx D (tyA cI cZ) RX7 cX7_isHarder 5 (some .boolean) p s m args meth c := C0
  refine J_sub (lv' := [(0, .ref (ad 34)), (1, .int x1), (2, .int x2)]) [0, 1, 2] rfl ?_
  unfold f_X7_isHarder
  refine J_aload_n (pc := 0) C0 0 dX7_isHarder_0 rfl rfl ?_
  refine J_get (pc := 1) (v := .ref (ad 38)) C0 34 wC_o34 rfl in_X7 3 (by decide) q98 rfl dX7_isHarder_1 ?_
  refine J_getN (pc := 4) (v := .ref (ad 12)) C0 38 wC_o38 rfl in_X1 3 (by decide) q99 rfl dX7_isHarder_4 ?_
  refine J_iload_n (pc := 7) C0 1 dX7_isHarder_7 rfl rfl ?_
  refine fin_T (run_V (As := [.int x1]) (rest := []) (q0 := 12) C0 (cT_X5_get σ 12 x1 (by decide)) v_X5_get q100 (wC_row (by decide)) rfl rfl ⟨rfl, rfl⟩ (Rm_ok (by decide) (by decide)) rfl (Nat.le_of_ble_eq_true rfl) dX7_isHarder_8) ?_
  refine fin_P (fun r_ h_ => run_S (As := [.int (rd σ 12 x1)]) (rest := []) C0 (c_J6_bitCount_0f7a4 σ (rd σ 12 x1)  r_ h_) v_J6_bitCount_0f7a4 q101 rfl ⟨rfl, rfl⟩ (Rm_ok (by decide) (by decide)) rfl (Nat.le_of_ble_eq_true rfl) dX7_isHarder_11) (fun r11 e11 => ?_)
  refine J_istore_n (pc := 14) (lv' := [(3, .int r11), (0, .ref (ad 34)), (1, .int x1), (2, .int x2)]) C0 dX7_isHarder_14 rfl (by decide) rfl ?_
  refine J_aload_n (pc := 15) C0 1 dX7_isHarder_15 rfl rfl ?_
  refine J_get (pc := 16) (v := .ref (ad 38)) C0 34 wC_o34 rfl in_X7 3 (by decide) q98 rfl dX7_isHarder_16 ?_
  refine J_getN (pc := 19) (v := .ref (ad 12)) C0 38 wC_o38 rfl in_X1 3 (by decide) q99 rfl dX7_isHarder_19 ?_
  refine J_iload_n (pc := 22) C0 3 dX7_isHarder_22 rfl rfl ?_
  refine fin_T (run_V (As := [.int x2]) (rest := []) (q0 := 12) C0 (cT_X5_get σ 12 x2 (by decide)) v_X5_get q100 (wC_row (by decide)) rfl rfl ⟨rfl, rfl⟩ (Rm_ok (by decide) (by decide)) rfl (Nat.le_of_ble_eq_true rfl) dX7_isHarder_23) ?_
  refine fin_P (fun r_ h_ => run_S (As := [.int (rd σ 12 x2)]) (rest := []) C0 (c_J6_bitCount_0f7a4 σ (rd σ 12 x2)  r_ h_) v_J6_bitCount_0f7a4 q101 rfl ⟨rfl, rfl⟩ (Rm_ok (by decide) (by decide)) rfl (Nat.le_of_ble_eq_true rfl) dX7_isHarder_26) (fun r26 e26 => ?_)
  refine J_istore (pc := 29) (lv' := [(4, .int r26), (3, .int r11), (0, .ref (ad 34)), (1, .int x1), (2, .int x2)]) C0 dX7_isHarder_29 (by decide) rfl ?_
  refine J_iload_n (pc := 31) C0 1 dX7_isHarder_31 rfl rfl ?_
  refine J_iload (pc := 32) C0 0 dX7_isHarder_32 rfl ?_
  refine J_icmp_eq (pc := 34) (tgt := 49) C0 dX7_isHarder_34 (by decide) (fun h_34 => ?_) (fun h_34 => ?_)
  · refine J_aload_n (pc := 49) C0 2 dX7_isHarder_49 rfl rfl ?_
    refine J_get (pc := 50) (v := .ref (ad 36)) C0 34 wC_o34 rfl in_X7 1 (by decide) q15 rfl dX7_isHarder_50 ?_
    refine J_getN (pc := 53) (v := .ref (ad 4)) C0 36 wC_o36 rfl in_X6 2 (by decide) q105 rfl dX7_isHarder_53 ?_
    refine J_iload_n (pc := 56) C0 3 dX7_isHarder_56 rfl rfl ?_
    refine fin_T (run_V (As := [.int x1]) (rest := []) (q0 := 4) C0 (cT_X5_get σ 4 x1 (by decide)) v_X5_get q100 (wC_row (by decide)) rfl rfl ⟨rfl, rfl⟩ (Rm_ok (by decide) (by decide)) rfl (Nat.le_of_ble_eq_true rfl) dX7_isHarder_57) ?_
    refine fin_P (fun r_ h_ => run_S (As := [.int (rd σ 4 x1)]) (rest := []) C0 (c_J6_bitCount_0f7a4 σ (rd σ 4 x1)  r_ h_) v_J6_bitCount_0f7a4 q101 rfl ⟨rfl, rfl⟩ (Rm_ok (by decide) (by decide)) rfl (Nat.le_of_ble_eq_true rfl) dX7_isHarder_60) (fun r60 e60 => ?_)
    refine J_aload_n (pc := 63) C0 2 dX7_isHarder_63 rfl rfl ?_
    refine J_get (pc := 64) (v := .ref (ad 36)) C0 34 wC_o34 rfl in_X7 1 (by decide) q15 rfl dX7_isHarder_64 ?_
    refine J_getN (pc := 67) (v := .ref (ad 4)) C0 36 wC_o36 rfl in_X6 2 (by decide) q105 rfl dX7_isHarder_67 ?_
    refine J_iload_n (pc := 70) C0 4 dX7_isHarder_70 rfl rfl ?_
    refine fin_T (run_V (As := [.int x2]) (rest := [.int r60]) (q0 := 4) C0 (cT_X5_get σ 4 x2 (by decide)) v_X5_get q100 (wC_row (by decide)) rfl rfl ⟨rfl, rfl⟩ (Rm_ok (by decide) (by decide)) rfl (Nat.le_of_ble_eq_true rfl) dX7_isHarder_71) ?_
    refine fin_P (fun r_ h_ => run_S (As := [.int (rd σ 4 x2)]) (rest := [.int r60]) C0 (c_J6_bitCount_0f7a4 σ (rd σ 4 x2)  r_ h_) v_J6_bitCount_0f7a4 q101 rfl ⟨rfl, rfl⟩ (Rm_ok (by decide) (by decide)) rfl (Nat.le_of_ble_eq_true rfl) dX7_isHarder_74) (fun r74 e74 => ?_)
    refine J_icmp_le (pc := 77) (tgt := 84) C0 dX7_isHarder_77 (by decide) (fun h_77 => ?_) (fun h_77 => ?_)
    · refine J_iconst (pc := 84) (v := 0) C0 dX7_isHarder_84 (by decide) ?_
      exact J_zretP0 (Or.inl rfl) C0 dX7_isHarder_85
    · refine J_iconst (pc := 80) (v := 1) C0 dX7_isHarder_80 (by decide) ?_
      refine J_goto (pc := 81) (tgt := 85) C0 dX7_isHarder_81 (by decide) ?_
      exact J_zretP0 (Or.inr rfl) C0 dX7_isHarder_85
  · refine J_iload_n (pc := 37) C0 1 dX7_isHarder_37 rfl rfl ?_
    refine J_iload (pc := 38) C0 0 dX7_isHarder_38 rfl ?_
    refine J_icmp_ge (pc := 40) (tgt := 47) C0 dX7_isHarder_40 (by decide) (fun h_40 => ?_) (fun h_40 => ?_)
    · refine J_iconst (pc := 47) (v := 0) C0 dX7_isHarder_47 (by decide) ?_
      exact J_zretP0 (Or.inl rfl) C0 dX7_isHarder_48
    · refine J_iconst (pc := 43) (v := 1) C0 dX7_isHarder_43 (by decide) ?_
      refine J_goto (pc := 44) (tgt := 48) C0 dX7_isHarder_44 (by decide) ?_
      exact J_zretP0 (Or.inr rfl) C0 dX7_isHarder_48
end SE
