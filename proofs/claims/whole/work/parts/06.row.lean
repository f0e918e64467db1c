def f_X5_get (σ : SC) (r0 : Nat) (x1 : Int32) : Option Int32 :=
  (if x1 < 0 then (some 0) else (if (nI (lnC r0)) ≤ x1 then (some 0) else (if inb x1 (lnC r0) = true then (some (σ r0 (ix x1))) else none)))
section SE
variable {p : Program} {l : Launch} {e : Env} {s : State} {m : MethodId} {args : Array Value} {below : List Frame} {meth : Method} {c : Code} {D : va_G} {cI cZ : ClassId} {A : Nat → Prop} {ad : Nat → Nat}
set_option maxRecDepth 100000 in
set_option maxHeartbeats 4000000 in
theorem c_X5_get {l : Launch} {D : va_G} {cI cZ : ClassId} {A : Nat → Prop} {ad : Nat → Nat} (σ : SC) (r0 : Nat) (x1 : Int32) (hr0 : r0 < 17) (r : Int32) (h : f_X5_get σ r0 x1 = some r) : Met l yX5_get (.code yX5_get cX5_get 2 (some .int) :: wG) (Rm 1) (PreW D (tyA cI cZ) A (wC ad cI) [.ref (ad r0), .int x1] σ) (QI D A (wC ad cI) (r, σ)) 0 0 A := by
  refine met_of (M := f_X5_get σ r0 x1) (Qc := (fun r => QI D A (wC ad cI) (r, σ))) (by decide) (Nat.le_of_ble_eq_true rfl) h (fun p e s m below meth c C0 => ?_)
  generalize hargs : ([.ref (ad r0), .int x1] : List Value).toArray = args at C0 ⊢
  have C0 : Cx D (tyA cI cZ) RX5 cX5_get 2 (some .int) p s m args meth c := C0
  refine J_sub (lv' := [(0, .ref (ad r0)), (1, .int x1)]) [0, 1] rfl ?_
  unfold f_X5_get
  refine J_iload_n (pc := 0) C0 1 dX5_get_0 rfl rfl ?_
  refine J_if_lt (pc := 1) (tgt := 22) C0 dX5_get_1 (by decide) (fun h_1 => ?_) (fun h_1 => ?_)
  · refine J_iconst (pc := 22) (v := 0) C0 dX5_get_22 (by decide) ?_
    exact J_iretP C0 dX5_get_23
  · refine J_iload_n (pc := 4) C0 1 dX5_get_4 rfl rfl ?_
    refine J_aload_n (pc := 5) C0 0 dX5_get_5 rfl rfl ?_
    refine J_get (pc := 6) (v := .ref (ad (17 + r0))) C0 r0 (wC_row hr0) rfl in_X5 0 (by decide) q0 rfl dX5_get_6 ?_
    refine J_alen (pc := 9) C0 (17 + r0) 0 (wC_arr hr0) rfl dX5_get_9 ?_
    refine J_icmp_ge (pc := 10) (tgt := 22) C0 dX5_get_10 (by decide) (fun h_10 => ?_) (fun h_10 => ?_)
    · refine J_iconst (pc := 22) (v := 0) C0 dX5_get_22 (by decide) ?_
      exact J_iretP C0 dX5_get_23
    · refine J_aload_n (pc := 13) C0 0 dX5_get_13 rfl rfl ?_
      refine J_get (pc := 14) (v := .ref (ad (17 + r0))) C0 r0 (wC_row hr0) rfl in_X5 0 (by decide) q0 rfl dX5_get_14 ?_
      refine J_iload_n (pc := 17) C0 1 dX5_get_17 rfl rfl ?_
      refine J_iald (pc := 18) C0 (17 + r0) 0 (wC_arr hr0) rfl dX5_get_18 (fun h_18 => ?_)
      refine J_goto (pc := 19) (tgt := 23) C0 dX5_get_19 (by decide) ?_
      exact J_iretP C0 dX5_get_23
end SE

def f_X5_set (σ : SC) (r0 : Nat) (x1 : Int32) (x2 : Int32) : Option SC :=
  (if x1 < 0 then (some σ) else (if (nI (lnC r0)) ≤ x1 then (some σ) else (if inb x1 (lnC r0) = true then (some (su σ r0 (ix x1) x2)) else none)))
section SE
variable {p : Program} {l : Launch} {e : Env} {s : State} {m : MethodId} {args : Array Value} {below : List Frame} {meth : Method} {c : Code} {D : va_G} {cI cZ : ClassId} {A : Nat → Prop} {ad : Nat → Nat}
set_option maxRecDepth 100000 in
set_option maxHeartbeats 4000000 in
theorem c_X5_set {l : Launch} {D : va_G} {cI cZ : ClassId} {A : Nat → Prop} {ad : Nat → Nat} (σ : SC) (r0 : Nat) (x1 : Int32) (x2 : Int32) (hr0 : r0 < 17) (r : SC) (h : f_X5_set σ r0 x1 x2 = some r) : Met l yX5_set (.code yX5_set cX5_set 3 none :: wG) (Rm 1) (PreW D (tyA cI cZ) A (wC ad cI) [.ref (ad r0), .int x1, .int x2] σ) (QV D A (wC ad cI) r) 0 0 A := by
  refine met_of (M := f_X5_set σ r0 x1 x2) (Qc := (QV D A (wC ad cI))) (by decide) (Nat.le_of_ble_eq_true rfl) h (fun p e s m below meth c C0 => ?_)
  generalize hargs : ([.ref (ad r0), .int x1, .int x2] : List Value).toArray = args at C0 ⊢
  have C0 : Cx D (tyA cI cZ) RX5 cX5_set 3 none p s m args meth c := C0
  refine J_sub (lv' := [(0, .ref (ad r0)), (1, .int x1), (2, .int x2)]) [0, 1, 2] rfl ?_
  unfold f_X5_set
  refine J_iload_n (pc := 0) C0 1 dX5_set_0 rfl rfl ?_
  refine J_if_lt (pc := 1) (tgt := 20) C0 dX5_set_1 (by decide) (fun h_1 => ?_) (fun h_1 => ?_)
  · exact J_vret C0 dX5_set_20
  · refine J_iload_n (pc := 4) C0 1 dX5_set_4 rfl rfl ?_
    refine J_aload_n (pc := 5) C0 0 dX5_set_5 rfl rfl ?_
    refine J_get (pc := 6) (v := .ref (ad (17 + r0))) C0 r0 (wC_row hr0) rfl in_X5 0 (by decide) q0 rfl dX5_set_6 ?_
    refine J_alen (pc := 9) C0 (17 + r0) 0 (wC_arr hr0) rfl dX5_set_9 ?_
    refine J_icmp_ge (pc := 10) (tgt := 20) C0 dX5_set_10 (by decide) (fun h_10 => ?_) (fun h_10 => ?_)
    · exact J_vret C0 dX5_set_20
    · refine J_aload_n (pc := 13) C0 0 dX5_set_13 rfl rfl ?_
      refine J_get (pc := 14) (v := .ref (ad (17 + r0))) C0 r0 (wC_row hr0) rfl in_X5 0 (by decide) q0 rfl dX5_set_14 ?_
      refine J_iload_n (pc := 17) C0 1 dX5_set_17 rfl rfl ?_
      refine J_iload_n (pc := 18) C0 2 dX5_set_18 rfl rfl ?_
      refine J_iast (pc := 19) (σ' := (su σ r0 (ix x1) x2)) C0 (17 + r0) 0 (wC_arr hr0) rfl (wC_set hr0) dX5_set_19 (fun h_19 => ?_)
      exact J_vret C0 dX5_set_20
end SE

def f_X5_fill_L2 (r0 : Nat) (x1 : Int32) : Nat → SC → Int32 → Option SC
  | 0, _, _ => none
  | n + 1, σ, x2 =>
  (if (nI (lnC r0)) ≤ x2 then (some σ) else (if inb x2 (lnC r0) = true then (f_X5_fill_L2 r0 x1 n (su σ r0 (ix x2) x1) (x2 + 1)) else none))
theorem f_X5_fill_L2_s (r0 : Nat) (x1 : Int32) (n : Nat) (σ : SC) (x2 : Int32) : f_X5_fill_L2 r0 x1 (n + 1) σ x2 = ((if (nI (lnC r0)) ≤ x2 then (some σ) else (if inb x2 (lnC r0) = true then (f_X5_fill_L2 r0 x1 n (su σ r0 (ix x2) x1) (x2 + 1)) else none))) := rfl
def f_X5_fill (σ : SC) (r0 : Nat) (x1 : Int32) : Option SC :=
  (f_X5_fill_L2 r0 x1 FU σ 0)
section SE
variable {p : Program} {l : Launch} {e : Env} {s : State} {m : MethodId} {args : Array Value} {below : List Frame} {meth : Method} {c : Code} {D : va_G} {cI cZ : ClassId} {A : Nat → Prop} {ad : Nat → Nat}
set_option maxRecDepth 100000 in
set_option maxHeartbeats 4000000 in
theorem j_X5_fill_L2 (C0 : Cx D (tyA cI cZ) RX5 cX5_fill 3 none p s m args meth c) {r0 : Nat} (x1 : Int32) (hr0 : r0 < 17) : ∀ (n : Nat) (σ : SC) (x2 : Int32), J p l e (Rm 1) s m args below meth c D A (wC ad cI) 3 (QV D A (wC ad cI)) (f_X5_fill_L2 r0 x1 n σ x2) σ [(0, .ref (ad r0)), (1, .int x1), (2, .int x2)] [] 2 := by
  intro n
  induction n with
  | zero => intros; exact J_none
  | succ n ih =>
    intro σ x2
    refine J_eq (f_X5_fill_L2_s r0 x1 n σ x2) ?_
    refine J_iload_n (pc := 2) C0 2 dX5_fill_2 rfl rfl ?_
    refine J_aload_n (pc := 3) C0 0 dX5_fill_3 rfl rfl ?_
    refine J_get (pc := 4) (v := .ref (ad (17 + r0))) C0 r0 (wC_row hr0) rfl in_X5 0 (by decide) q0 rfl dX5_fill_4 ?_
    refine J_alen (pc := 7) C0 (17 + r0) 0 (wC_arr hr0) rfl dX5_fill_7 ?_
    refine J_icmp_ge (pc := 8) (tgt := 24) C0 dX5_fill_8 (by decide) (fun h_8 => ?_) (fun h_8 => ?_)
    · exact J_vret C0 dX5_fill_24
    · refine J_aload_n (pc := 11) C0 0 dX5_fill_11 rfl rfl ?_
      refine J_get (pc := 12) (v := .ref (ad (17 + r0))) C0 r0 (wC_row hr0) rfl in_X5 0 (by decide) q0 rfl dX5_fill_12 ?_
      refine J_iload_n (pc := 15) C0 2 dX5_fill_15 rfl rfl ?_
      refine J_iload_n (pc := 16) C0 1 dX5_fill_16 rfl rfl ?_
      refine J_iast (pc := 17) (σ' := (su σ r0 (ix x2) x1)) C0 (17 + r0) 0 (wC_arr hr0) rfl (wC_set hr0) dX5_fill_17 (fun h_17 => ?_)
      refine J_iinc (pc := 18) (d := 1) (lv' := [(2, .int (x2 + 1)), (0, .ref (ad r0)), (1, .int x1)]) C0 2 dX5_fill_18 rfl (by decide) (by decide) rfl ?_
      refine J_goto (pc := 21) (tgt := 2) C0 dX5_fill_21 (by decide) ?_
      refine J_sub (lv' := [(0, .ref (ad r0)), (1, .int x1), (2, .int (x2 + 1))]) [1, 2, 0] rfl ?_
      exact ih (su σ r0 (ix x2) x1) (x2 + 1)
set_option maxRecDepth 100000 in
set_option maxHeartbeats 4000000 in
theorem c_X5_fill {l : Launch} {D : va_G} {cI cZ : ClassId} {A : Nat → Prop} {ad : Nat → Nat} (σ : SC) (r0 : Nat) (x1 : Int32) (hr0 : r0 < 17) (r : SC) (h : f_X5_fill σ r0 x1 = some r) : Met l yX5_fill (.code yX5_fill cX5_fill 3 none :: wG) (Rm 1) (PreW D (tyA cI cZ) A (wC ad cI) [.ref (ad r0), .int x1] σ) (QV D A (wC ad cI) r) 0 0 A := by
  refine met_of (M := f_X5_fill σ r0 x1) (Qc := (QV D A (wC ad cI))) (by decide) (Nat.le_of_ble_eq_true rfl) h (fun p e s m below meth c C0 => ?_)
  generalize hargs : ([.ref (ad r0), .int x1] : List Value).toArray = args at C0 ⊢
  have C0 : Cx D (tyA cI cZ) RX5 cX5_fill 3 none p s m args meth c := C0
  refine J_sub (lv' := [(0, .ref (ad r0)), (1, .int x1)]) [0, 1] rfl ?_
  unfold f_X5_fill
  refine J_iconst (pc := 0) (v := 0) C0 dX5_fill_0 (by decide) ?_
  refine J_istore_n (pc := 1) (lv' := [(2, .int 0), (0, .ref (ad r0)), (1, .int x1)]) C0 dX5_fill_1 rfl (by decide) rfl ?_
  refine J_sub (lv' := [(0, .ref (ad r0)), (1, .int x1), (2, .int 0)]) [1, 2, 0] rfl ?_
  exact j_X5_fill_L2 C0 x1 hr0 FU σ 0
end SE

def f_X7_contains (x0 : Int32) (x1 : Int32) : Option Int32 :=
  (if ((x0 >>> (x1 &&& 31)) &&& (1 : Int32)) = 1 then (some 1) else (some 0))
section SE
variable {p : Program} {l : Launch} {e : Env} {s : State} {m : MethodId} {args : Array Value} {below : List Frame} {meth : Method} {c : Code} {D : va_G} {cI cZ : ClassId} {A : Nat → Prop} {ad : Nat → Nat}
set_option maxRecDepth 100000 in
set_option maxHeartbeats 4000000 in
theorem c_X7_contains {l : Launch} {D : va_G} {cI cZ : ClassId} {A : Nat → Prop} {ad : Nat → Nat} (σ : SC) (x0 : Int32) (x1 : Int32)  (r : Int32) (h : f_X7_contains x0 x1 = some r) : Met l yX7_contains (.code yX7_contains cX7_contains 2 (some .boolean) :: wG) (Rm 1) (PreW D (tyA cI cZ) A (wC ad cI) [.int x0, .int x1] σ) (QI D A (wC ad cI) (r, σ)) 0 0 A := by
  refine met_of (M := f_X7_contains x0 x1) (Qc := (fun r => QI D A (wC ad cI) (r, σ))) (by decide) (Nat.le_of_ble_eq_true rfl) h (fun p e s m below meth c C0 => ?_)
  generalize hargs : ([.int x0, .int x1] : List Value).toArray = args at C0 ⊢
  have C0 : Cx D (tyA cI cZ) RX7 cX7_contains 2 (some .boolean) p s m args meth c := C0
  refine J_sub (lv' := [(0, .int x0), (1, .int x1)]) [0, 1] rfl ?_
  unfold f_X7_contains
  refine J_iload_n (pc := 0) C0 0 dX7_contains_0 rfl rfl ?_
  refine J_iload_n (pc := 1) C0 1 dX7_contains_1 rfl rfl ?_
  refine J_ishr (pc := 2) C0 dX7_contains_2 ?_
  refine J_iconst (pc := 3) (v := 1) C0 dX7_contains_3 (by decide) ?_
  refine J_iand (pc := 4) C0 dX7_contains_4 ?_
  refine J_iconst (pc := 5) (v := 1) C0 dX7_contains_5 (by decide) ?_
  refine J_icmp_ne (pc := 6) (tgt := 13) C0 dX7_contains_6 (by decide) (fun h_6 => ?_) (fun h_6 => ?_)
  · refine J_iconst (pc := 13) (v := 0) C0 dX7_contains_13 (by decide) ?_
    exact J_zretP0 (Or.inl rfl) C0 dX7_contains_14
  · refine J_iconst (pc := 9) (v := 1) C0 dX7_contains_9 (by decide) ?_
    refine J_goto (pc := 10) (tgt := 14) C0 dX7_contains_10 (by decide) ?_
    exact J_zretP0 (Or.inr rfl) C0 dX7_contains_14
end SE
