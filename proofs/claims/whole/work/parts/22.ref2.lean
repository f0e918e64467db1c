def f_X8_turn_L13 (x1 : Int32) (kx66 : SR → Option (Int32 × SR)) : Nat → SR → Int32 → Option (Int32 × SR)
  | 0, _, _ => none
  | n + 1, σ, x2 =>
  (if x1 ≤ x2 then (kx66 σ) else (if inb (((nI 4) * x1) + x2) 33 = true then (if inb (((nI 4) * x2) + x1) 33 = true then (if inb (((nI 4) * x1) + x2) 33 = true then (if inb (((nI 4) * x2) + x1) 33 = true then (f_X8_turn_L13 x1 kx66 n (rsu (rsu σ 0 (ix (((nI 4) * x1) + x2)) (σ.1 0 (ix (((nI 4) * x2) + x1)))) 0 (ix (((nI 4) * x2) + x1)) (σ.1 0 (ix (((nI 4) * x1) + x2)))) (x2 + 1)) else none) else none) else none) else none))
theorem f_X8_turn_L13_s (x1 : Int32) (kx66 : SR → Option (Int32 × SR)) (n : Nat) (σ : SR) (x2 : Int32) : f_X8_turn_L13 x1 kx66 (n + 1) σ x2 = ((if x1 ≤ x2 then (kx66 σ) else (if inb (((nI 4) * x1) + x2) 33 = true then (if inb (((nI 4) * x2) + x1) 33 = true then (if inb (((nI 4) * x1) + x2) 33 = true then (if inb (((nI 4) * x2) + x1) 33 = true then (f_X8_turn_L13 x1 kx66 n (rsu (rsu σ 0 (ix (((nI 4) * x1) + x2)) (σ.1 0 (ix (((nI 4) * x2) + x1)))) 0 (ix (((nI 4) * x2) + x1)) (σ.1 0 (ix (((nI 4) * x1) + x2)))) (x2 + 1)) else none) else none) else none) else none))) := rfl
def f_X8_turn_L6 : Nat → SR → Int32 → Option (Int32 × SR)
  | 0, _, _ => none
  | n + 1, σ, x1 =>
  (if (nI 4) ≤ x1 then (bnd (f_X8_changed σ) fun r73 σ73 => (some (r73, σ73))) else (f_X8_turn_L13 x1 (fun σ_66 => (f_X8_turn_L6 n σ_66 (x1 + 1))) FU σ 0))
theorem f_X8_turn_L6_s (n : Nat) (σ : SR) (x1 : Int32) : f_X8_turn_L6 (n + 1) σ x1 = ((if (nI 4) ≤ x1 then (bnd (f_X8_changed σ) fun r73 σ73 => (some (r73, σ73))) else (f_X8_turn_L13 x1 (fun σ_66 => (f_X8_turn_L6 n σ_66 (x1 + 1))) FU σ 0))) := rfl
def f_X8_turn (σ : SR)  : Option (Int32 × SR) :=
  ((f_X8_remember σ).bind fun σ1 => (f_X8_turn_L6 FU σ1 0))
section SE
variable {p : Program} {l : Launch} {e : Env} {s : State} {m : MethodId} {args : Array Value} {below : List Frame} {meth : Method} {c : Code} {D : va_G} {cI cZ : ClassId} {A : Nat → Prop} {ad : Nat → Nat}
set_option maxRecDepth 100000 in
set_option maxHeartbeats 4000000 in
theorem j_X8_turn_L13 (C0 : Cx D (tyA cI cZ) RX8 cX8_turn 4 (some .int) p s m args meth c) (x1 : Int32) (kx66 : SR → Option (Int32 × SR)) (hkx66 : ∀ (σ : SR), J p l e (Rm 4) s m args below meth c D A (wR ad cI cZ) 4 (QI D A (wR ad cI cZ)) (kx66 σ) σ [(0, .ref (ad 0)), (1, .int x1)] [] 66) : ∀ (n : Nat) (σ : SR) (x2 : Int32), J p l e (Rm 4) s m args below meth c D A (wR ad cI cZ) 4 (QI D A (wR ad cI cZ)) (f_X8_turn_L13 x1 kx66 n σ x2) σ [(0, .ref (ad 0)), (1, .int x1), (2, .int x2)] [] 13 := by
  intro n
  induction n with
  | zero => intros; exact J_none
  | succ n ih =>
    intro σ x2
    refine J_eq (f_X8_turn_L13_s x1 kx66 n σ x2) ?_
    refine J_iload_n (pc := 13) C0 2 dX8_turn_13 rfl rfl ?_
    refine J_iload_n (pc := 14) C0 1 dX8_turn_14 rfl rfl ?_
    refine J_icmp_ge (pc := 15) (tgt := 66) C0 dX8_turn_15 (by decide) (fun h_15 => ?_) (fun h_15 => ?_)
    · refine J_sub (lv' := [(0, .ref (ad 0)), (1, .int x1)]) [0, 1] rfl ?_
      exact hkx66 σ
    · refine J_aload_n (pc := 18) C0 0 dX8_turn_18 rfl rfl ?_
      refine J_get (pc := 19) (v := .ref (ad 1)) C0 0 wR_o rfl in_X8 0 (by decide) q411 rfl dX8_turn_19 ?_
      refine J_iconst (pc := 22) (v := (nI 4)) C0 dX8_turn_22 (by decide) ?_
      refine J_iload_n (pc := 23) C0 1 dX8_turn_23 rfl rfl ?_
      refine J_imul (pc := 24) C0 dX8_turn_24 ?_
      refine J_iload_n (pc := 25) C0 2 dX8_turn_25 rfl rfl ?_
      refine J_iadd (pc := 26) C0 dX8_turn_26 ?_
      refine J_iald (pc := 27) C0 1 0 wR_a1 rfl dX8_turn_27 (fun h_27 => ?_)
      refine J_istore_n (pc := 28) (lv' := [(3, .int (σ.1 0 (ix (((nI 4) * x1) + x2)))), (0, .ref (ad 0)), (1, .int x1), (2, .int x2)]) C0 dX8_turn_28 rfl (by decide) rfl ?_
      refine J_aload_n (pc := 29) C0 1 dX8_turn_29 rfl rfl ?_
      refine J_get (pc := 30) (v := .ref (ad 1)) C0 0 wR_o rfl in_X8 0 (by decide) q411 rfl dX8_turn_30 ?_
      refine J_iconst (pc := 33) (v := (nI 4)) C0 dX8_turn_33 (by decide) ?_
      refine J_iload_n (pc := 34) C0 2 dX8_turn_34 rfl rfl ?_
      refine J_imul (pc := 35) C0 dX8_turn_35 ?_
      refine J_iload_n (pc := 36) C0 3 dX8_turn_36 rfl rfl ?_
      refine J_iadd (pc := 37) C0 dX8_turn_37 ?_
      refine J_aload_n (pc := 38) C0 1 dX8_turn_38 rfl rfl ?_
      refine J_get (pc := 39) (v := .ref (ad 1)) C0 0 wR_o rfl in_X8 0 (by decide) q411 rfl dX8_turn_39 ?_
      refine J_iconst (pc := 42) (v := (nI 4)) C0 dX8_turn_42 (by decide) ?_
      refine J_iload_n (pc := 43) C0 3 dX8_turn_43 rfl rfl ?_
      refine J_imul (pc := 44) C0 dX8_turn_44 ?_
      refine J_iload_n (pc := 45) C0 2 dX8_turn_45 rfl rfl ?_
      refine J_iadd (pc := 46) C0 dX8_turn_46 ?_
      refine J_iald (pc := 47) C0 1 0 wR_a1 rfl dX8_turn_47 (fun h_47 => ?_)
      refine J_iast (pc := 48) (σ' := (rsu σ 0 (ix (((nI 4) * x1) + x2)) (σ.1 0 (ix (((nI 4) * x2) + x1))))) C0 1 0 wR_a1 rfl wR_s1 dX8_turn_48 (fun h_48 => ?_)
      refine J_aload_n (pc := 49) C0 1 dX8_turn_49 rfl rfl ?_
      refine J_get (pc := 50) (v := .ref (ad 1)) C0 0 wR_o rfl in_X8 0 (by decide) q411 rfl dX8_turn_50 ?_
      refine J_iconst (pc := 53) (v := (nI 4)) C0 dX8_turn_53 (by decide) ?_
      refine J_iload_n (pc := 54) C0 3 dX8_turn_54 rfl rfl ?_
      refine J_imul (pc := 55) C0 dX8_turn_55 ?_
      refine J_iload_n (pc := 56) C0 2 dX8_turn_56 rfl rfl ?_
      refine J_iadd (pc := 57) C0 dX8_turn_57 ?_
      refine J_iload_n (pc := 58) C0 0 dX8_turn_58 rfl rfl ?_
      refine J_iast (pc := 59) (σ' := (rsu (rsu σ 0 (ix (((nI 4) * x1) + x2)) (σ.1 0 (ix (((nI 4) * x2) + x1)))) 0 (ix (((nI 4) * x2) + x1)) (σ.1 0 (ix (((nI 4) * x1) + x2))))) C0 1 0 wR_a1 rfl wR_s1 dX8_turn_59 (fun h_59 => ?_)
      refine J_iinc (pc := 60) (d := 1) (lv' := [(2, .int (x2 + 1)), (3, .int (σ.1 0 (ix (((nI 4) * x1) + x2)))), (0, .ref (ad 0)), (1, .int x1)]) C0 3 dX8_turn_60 rfl (by decide) (by decide) rfl ?_
      refine J_goto (pc := 63) (tgt := 13) C0 dX8_turn_63 (by decide) ?_
      refine J_sub (lv' := [(0, .ref (ad 0)), (1, .int x1), (2, .int (x2 + 1))]) [2, 3, 0] rfl ?_
      exact ih (rsu (rsu σ 0 (ix (((nI 4) * x1) + x2)) (σ.1 0 (ix (((nI 4) * x2) + x1)))) 0 (ix (((nI 4) * x2) + x1)) (σ.1 0 (ix (((nI 4) * x1) + x2)))) (x2 + 1)
set_option maxRecDepth 100000 in
set_option maxHeartbeats 4000000 in
theorem j_X8_turn_L6 (C0 : Cx D (tyA cI cZ) RX8 cX8_turn 4 (some .int) p s m args meth c) : ∀ (n : Nat) (σ : SR) (x1 : Int32), J p l e (Rm 4) s m args below meth c D A (wR ad cI cZ) 4 (QI D A (wR ad cI cZ)) (f_X8_turn_L6 n σ x1) σ [(0, .ref (ad 0)), (1, .int x1)] [] 6 := by
  intro n
  induction n with
  | zero => intros; exact J_none
  | succ n ih =>
    intro σ x1
    refine J_eq (f_X8_turn_L6_s  n σ x1) ?_
    refine J_iload_n (pc := 6) C0 1 dX8_turn_6 rfl rfl ?_
    refine J_iconst (pc := 7) (v := (nI 4)) C0 dX8_turn_7 (by decide) ?_
    refine J_icmp_ge (pc := 8) (tgt := 72) C0 dX8_turn_8 (by decide) (fun h_8 => ?_) (fun h_8 => ?_)
    · refine J_aload_n (pc := 72) C0 0 dX8_turn_72 rfl rfl ?_
      refine fin_I (fun r_ h_ => run_V (As := []) (rest := []) (q0 := 0) C0 (c_X8_changed σ   r_ h_) v_X8_changed q486 wR_o rfl rfl ⟨rfl, rfl⟩ (Rm_ok (by decide) (by decide)) rfl (Nat.le_of_ble_eq_true rfl) dX8_turn_73) (fun r73 σ73 e73 => ?_)
      exact J_iret C0 dX8_turn_76
    · refine J_iconst (pc := 11) (v := 0) C0 dX8_turn_11 (by decide) ?_
      refine J_istore_n (pc := 12) (lv' := [(2, .int 0), (0, .ref (ad 0)), (1, .int x1)]) C0 dX8_turn_12 rfl (by decide) rfl ?_
      refine J_sub (lv' := [(0, .ref (ad 0)), (1, .int x1), (2, .int 0)]) [1, 2, 0] rfl ?_
      refine j_X8_turn_L13 C0 x1 _ (fun σ_66 => ?_) FU σ 0
      refine J_iinc (pc := 66) (d := 1) (lv' := [(1, .int (x1 + 1)), (0, .ref (ad 0))]) C0 1 dX8_turn_66 rfl (by decide) (by decide) rfl ?_
      refine J_goto (pc := 69) (tgt := 6) C0 dX8_turn_69 (by decide) ?_
      refine J_sub (lv' := [(0, .ref (ad 0)), (1, .int (x1 + 1))]) [1, 0] rfl ?_
      exact ih σ_66 (x1 + 1)
set_option maxRecDepth 100000 in
set_option maxHeartbeats 4000000 in
theorem c_X8_turn {l : Launch} {D : va_G} {cI cZ : ClassId} {A : Nat → Prop} {ad : Nat → Nat} (σ : SR)   (r : (Int32 × SR)) (h : f_X8_turn σ = some r) : Met l yX8_turn (.code yX8_turn cX8_turn 4 (some .int) :: wG) (Rm 4) (PreW D (tyA cI cZ) A (wR ad cI cZ) [.ref (ad 0)] σ) (QI D A (wR ad cI cZ) r) 0 0 A := by
  refine met_of (M := f_X8_turn σ) (Qc := (QI D A (wR ad cI cZ))) (by decide) (Nat.le_of_ble_eq_true rfl) h (fun p e s m below meth c C0 => ?_)
  generalize hargs : ([.ref (ad 0)] : List Value).toArray = args at C0 ⊢
  have C0 : Cx D (tyA cI cZ) RX8 cX8_turn 4 (some .int) p s m args meth c := C0
  refine J_sub (lv' := [(0, .ref (ad 0))]) [0] rfl ?_
  unfold f_X8_turn
  refine J_aload_n (pc := 0) C0 0 dX8_turn_0 rfl rfl ?_
  refine fin_V (fun r_ h_ => run_V (As := []) (rest := []) (q0 := 0) C0 (c_X8_remember σ   r_ h_) v_X8_remember q439 wR_o rfl rfl ⟨rfl, rfl⟩ (Rm_ok (by decide) (by decide)) rfl (Nat.le_of_ble_eq_true rfl) dX8_turn_1) (fun σ1 e1 => ?_)
  refine J_iconst (pc := 4) (v := 0) C0 dX8_turn_4 (by decide) ?_
  refine J_istore_n (pc := 5) (lv' := [(1, .int 0), (0, .ref (ad 0))]) C0 dX8_turn_5 rfl (by decide) rfl ?_
  refine J_sub (lv' := [(0, .ref (ad 0)), (1, .int 0)]) [1, 0] rfl ?_
  exact j_X8_turn_L6 C0 FU σ1 0
end SE

def f_X8_fillings_K95 (k31 : SR → Int32 → Int32 → Option (Int32 × SR)) (σ : SR) (x1 : Int32) (x2 : Int32) (x3 : Int32) (x4 : Int32) (x5 : Int32) (x6 : Int32) : Option (Int32 × SR) :=
  (if inb x6 8 = true then ((f_X8_goes σ x6 (σ.1 8 (ix x6)) x1).bind fun r106 => (if r106 = 0 then (k31 σ x5 x6) else ((f_X8_nextSlot σ x6 x1 1).bind fun r117 => (if r117 < (σ.1 9 2) then (if inb r117 8 = true then (k31 (rsu σ 8 (ix r117) (-1)) x5 r117) else none) else (if (x5 + 1) = x2 then (some ((x5 + 1), σ)) else (k31 σ (x5 + 1) x6)))))) else none)
def f_X8_fillings_L31 (x1 : Int32) (x2 : Int32) (x3 : Int32) (x4 : Int32) : Nat → SR → Int32 → Int32 → Option (Int32 × SR)
  | 0, _, _, _ => none
  | n + 1, σ, x5, x6 =>
  (if x6 < 0 then (some (x5, σ)) else (if inb x6 8 = true then (if inb x6 8 = true then (if inb x6 8 = true then (if inb (nI 16) 33 = true then (if ((rsu σ 8 (ix x6) ((σ.1 8 (ix x6)) + 1)).1 8 (ix x6)) < ((rsu σ 8 (ix x6) ((σ.1 8 (ix x6)) + 1)).1 0 (ix (nI 16))) then (if x6 = x3 then (if inb x6 8 = true then (if ((rsu σ 8 (ix x6) ((σ.1 8 (ix x6)) + 1)).1 8 (ix x6)) = x4 then (f_X8_fillings_K95 (f_X8_fillings_L31 x1 x2 x3 x4 n) (rsu σ 8 (ix x6) ((σ.1 8 (ix x6)) + 1)) x1 x2 x3 x4 x5 x6) else (f_X8_fillings_L31 x1 x2 x3 x4 n (rsu σ 8 (ix x6) ((σ.1 8 (ix x6)) + 1)) x5 x6)) else none) else (f_X8_fillings_K95 (f_X8_fillings_L31 x1 x2 x3 x4 n) (rsu σ 8 (ix x6) ((σ.1 8 (ix x6)) + 1)) x1 x2 x3 x4 x5 x6)) else ((f_X8_nextSlot (rsu σ 8 (ix x6) ((σ.1 8 (ix x6)) + 1)) x6 x1 (-1)).bind fun r69 => (f_X8_fillings_L31 x1 x2 x3 x4 n (rsu σ 8 (ix x6) ((σ.1 8 (ix x6)) + 1)) x5 r69))) else none) else none) else none) else none))
theorem f_X8_fillings_L31_s (x1 : Int32) (x2 : Int32) (x3 : Int32) (x4 : Int32) (n : Nat) (σ : SR) (x5 : Int32) (x6 : Int32) : f_X8_fillings_L31 x1 x2 x3 x4 (n + 1) σ x5 x6 = ((if x6 < 0 then (some (x5, σ)) else (if inb x6 8 = true then (if inb x6 8 = true then (if inb x6 8 = true then (if inb (nI 16) 33 = true then (if ((rsu σ 8 (ix x6) ((σ.1 8 (ix x6)) + 1)).1 8 (ix x6)) < ((rsu σ 8 (ix x6) ((σ.1 8 (ix x6)) + 1)).1 0 (ix (nI 16))) then (if x6 = x3 then (if inb x6 8 = true then (if ((rsu σ 8 (ix x6) ((σ.1 8 (ix x6)) + 1)).1 8 (ix x6)) = x4 then (f_X8_fillings_K95 (f_X8_fillings_L31 x1 x2 x3 x4 n) (rsu σ 8 (ix x6) ((σ.1 8 (ix x6)) + 1)) x1 x2 x3 x4 x5 x6) else (f_X8_fillings_L31 x1 x2 x3 x4 n (rsu σ 8 (ix x6) ((σ.1 8 (ix x6)) + 1)) x5 x6)) else none) else (f_X8_fillings_K95 (f_X8_fillings_L31 x1 x2 x3 x4 n) (rsu σ 8 (ix x6) ((σ.1 8 (ix x6)) + 1)) x1 x2 x3 x4 x5 x6)) else ((f_X8_nextSlot (rsu σ 8 (ix x6) ((σ.1 8 (ix x6)) + 1)) x6 x1 (-1)).bind fun r69 => (f_X8_fillings_L31 x1 x2 x3 x4 n (rsu σ 8 (ix x6) ((σ.1 8 (ix x6)) + 1)) x5 r69))) else none) else none) else none) else none))) := rfl
def f_X8_fillings (σ : SR) (x1 : Int32) (x2 : Int32) (x3 : Int32) (x4 : Int32) : Option (Int32 × SR) :=
  ((f_X8_nextSlot σ (-1) x1 1).bind fun r7 => (if r7 < (σ.1 9 2) then (if inb r7 8 = true then (f_X8_fillings_L31 x1 x2 x3 x4 FU (rsu σ 8 (ix r7) (-1)) 0 r7) else none) else (some (1, σ))))
section SE
variable {p : Program} {l : Launch} {e : Env} {s : State} {m : MethodId} {args : Array Value} {below : List Frame} {meth : Method} {c : Code} {D : va_G} {cI cZ : ClassId} {A : Nat → Prop} {ad : Nat → Nat}
set_option maxRecDepth 100000 in
set_option maxHeartbeats 4000000 in
theorem j_X8_fillings_K95 (C0 : Cx D (tyA cI cZ) RX8 cX8_fillings 8 (some .int) p s m args meth c) (k31 : SR → Int32 → Int32 → Option (Int32 × SR)) (σ : SR) (x1 : Int32) (x2 : Int32) (x3 : Int32) (x4 : Int32) (x5 : Int32) (x6 : Int32) (hk31 : ∀ (σ : SR) (x5 : Int32) (x6 : Int32), J p l e (Rm 5) s m args below meth c D A (wR ad cI cZ) 8 (QI D A (wR ad cI cZ)) (k31 σ x5 x6) σ [(0, .ref (ad 0)), (1, .int x1), (2, .int x2), (3, .int x3), (4, .int x4), (5, .int x5), (6, .int x6)] [] 31) : J p l e (Rm 5) s m args below meth c D A (wR ad cI cZ) 8 (QI D A (wR ad cI cZ)) (f_X8_fillings_K95 k31 σ x1 x2 x3 x4 x5 x6) σ [(0, .ref (ad 0)), (1, .int x1), (2, .int x2), (3, .int x3), (4, .int x4), (5, .int x5), (6, .int x6)] [] 95 := by
  unfold f_X8_fillings_K95
  refine J_aload_n (pc := 95) C0 0 dX8_fillings_95 rfl rfl ?_
  refine J_iload (pc := 96) C0 6 dX8_fillings_96 rfl ?_
  refine J_aload_n (pc := 98) C0 0 dX8_fillings_98 rfl rfl ?_
  refine J_get (pc := 99) (v := .ref (ad 9)) C0 0 wR_o rfl in_X8 12 (by decide) q498 rfl dX8_fillings_99 ?_
  refine J_iload (pc := 102) C0 6 dX8_fillings_102 rfl ?_
  refine J_iald (pc := 104) C0 9 0 wR_a9 rfl dX8_fillings_104 (fun h_104 => ?_)
  refine J_iload_n (pc := 105) C0 1 dX8_fillings_105 rfl rfl ?_
  refine fin_P (fun r_ h_ => run_V (As := [.int x6, .int (σ.1 8 (ix x6)), .int x1]) (rest := []) (q0 := 0) C0 (c_X8_goes σ x6 (σ.1 8 (ix x6)) x1  r_ h_) v_X8_goes q512 wR_o rfl rfl ⟨rfl, rfl⟩ (Rm_ok (by decide) (by decide)) rfl (Nat.le_of_ble_eq_true rfl) dX8_fillings_106) (fun r106 e106 => ?_)
  refine J_if_eq (pc := 109) (tgt := 31) C0 dX8_fillings_109 (by decide) (fun h_109 => ?_) (fun h_109 => ?_)
  · refine J_sub (lv' := [(0, .ref (ad 0)), (1, .int x1), (2, .int x2), (3, .int x3), (4, .int x4), (5, .int x5), (6, .int x6)]) [0, 1, 2, 3, 4, 5, 6] rfl ?_
    exact hk31 σ x5 x6
  · refine J_aload_n (pc := 112) C0 0 dX8_fillings_112 rfl rfl ?_
    refine J_iload (pc := 113) C0 6 dX8_fillings_113 rfl ?_
    refine J_iload_n (pc := 115) C0 1 dX8_fillings_115 rfl rfl ?_
    refine J_iconst (pc := 116) (v := 1) C0 dX8_fillings_116 (by decide) ?_
    refine fin_P (fun r_ h_ => run_V (As := [.int x6, .int x1, .int 1]) (rest := []) (q0 := 0) C0 (c_X8_nextSlot σ x6 x1 1  r_ h_) v_X8_nextSlot q508 wR_o rfl rfl ⟨rfl, rfl⟩ (Rm_ok (by decide) (by decide)) rfl (Nat.le_of_ble_eq_true rfl) dX8_fillings_117) (fun r117 e117 => ?_)
    refine J_istore (pc := 120) (lv' := [(7, .int r117), (0, .ref (ad 0)), (1, .int x1), (2, .int x2), (3, .int x3), (4, .int x4), (5, .int x5), (6, .int x6)]) C0 dX8_fillings_120 (by decide) rfl ?_
    refine J_iload (pc := 122) C0 0 dX8_fillings_122 rfl ?_
    refine J_aload_n (pc := 124) C0 1 dX8_fillings_124 rfl rfl ?_
    refine J_get (pc := 125) (v := .int (σ.1 9 2)) C0 0 wR_o rfl in_X8 6 (by decide) q395 rfl dX8_fillings_125 ?_
    refine J_icmp_lt (pc := 128) (tgt := 143) C0 dX8_fillings_128 (by decide) (fun h_128 => ?_) (fun h_128 => ?_)
    · refine J_iload (pc := 143) C0 0 dX8_fillings_143 rfl ?_
      refine J_istore (pc := 145) (lv' := [(6, .int r117), (7, .int r117), (0, .ref (ad 0)), (1, .int x1), (2, .int x2), (3, .int x3), (4, .int x4), (5, .int x5)]) C0 dX8_fillings_145 (by decide) rfl ?_
      refine J_aload_n (pc := 147) C0 2 dX8_fillings_147 rfl rfl ?_
      refine J_get (pc := 148) (v := .ref (ad 9)) C0 0 wR_o rfl in_X8 12 (by decide) q498 rfl dX8_fillings_148 ?_
      refine J_iload (pc := 151) C0 0 dX8_fillings_151 rfl ?_
      refine J_iconst (pc := 153) (v := (-1)) C0 dX8_fillings_153 (by decide) ?_
      refine J_iast (pc := 154) (σ' := (rsu σ 8 (ix r117) (-1))) C0 9 0 wR_a9 rfl wR_s9 dX8_fillings_154 (fun h_154 => ?_)
      refine J_goto (pc := 155) (tgt := 31) C0 dX8_fillings_155 (by decide) ?_
      refine J_sub (lv' := [(0, .ref (ad 0)), (1, .int x1), (2, .int x2), (3, .int x3), (4, .int x4), (5, .int x5), (6, .int r117)]) [2, 3, 4, 5, 6, 7, 0] rfl ?_
      exact hk31 (rsu σ 8 (ix r117) (-1)) x5 r117
    · refine J_iinc (pc := 131) (d := 1) (lv' := [(5, .int (x5 + 1)), (7, .int r117), (0, .ref (ad 0)), (1, .int x1), (2, .int x2), (3, .int x3), (4, .int x4), (6, .int x6)]) C0 6 dX8_fillings_131 rfl (by decide) (by decide) rfl ?_
      refine J_iload (pc := 134) C0 0 dX8_fillings_134 rfl ?_
      refine J_iload_n (pc := 136) C0 4 dX8_fillings_136 rfl rfl ?_
      refine J_icmp_ne (pc := 137) (tgt := 155) C0 dX8_fillings_137 (by decide) (fun h_137 => ?_) (fun h_137 => ?_)
      · refine J_goto (pc := 155) (tgt := 31) C0 dX8_fillings_155 (by decide) ?_
        refine J_sub (lv' := [(0, .ref (ad 0)), (1, .int x1), (2, .int x2), (3, .int x3), (4, .int x4), (5, .int (x5 + 1)), (6, .int x6)]) [2, 3, 4, 5, 6, 0, 7] rfl ?_
        exact hk31 σ (x5 + 1) x6
      · refine J_iload (pc := 140) C0 0 dX8_fillings_140 rfl ?_
        exact J_iret C0 dX8_fillings_142
set_option maxRecDepth 100000 in
set_option maxHeartbeats 4000000 in
theorem j_X8_fillings_L31 (C0 : Cx D (tyA cI cZ) RX8 cX8_fillings 8 (some .int) p s m args meth c) (x1 : Int32) (x2 : Int32) (x3 : Int32) (x4 : Int32) : ∀ (n : Nat) (σ : SR) (x5 : Int32) (x6 : Int32), J p l e (Rm 5) s m args below meth c D A (wR ad cI cZ) 8 (QI D A (wR ad cI cZ)) (f_X8_fillings_L31 x1 x2 x3 x4 n σ x5 x6) σ [(0, .ref (ad 0)), (1, .int x1), (2, .int x2), (3, .int x3), (4, .int x4), (5, .int x5), (6, .int x6)] [] 31 := by
  intro n
  induction n with
  | zero => intros; exact J_none
  | succ n ih =>
    intro σ x5 x6
    refine J_eq (f_X8_fillings_L31_s x1 x2 x3 x4 n σ x5 x6) ?_
    refine J_iload (pc := 31) C0 6 dX8_fillings_31 rfl ?_
    refine J_if_lt (pc := 33) (tgt := 158) C0 dX8_fillings_33 (by decide) (fun h_33 => ?_) (fun h_33 => ?_)
    · refine J_iload (pc := 158) C0 5 dX8_fillings_158 rfl ?_
      exact J_iret C0 dX8_fillings_160
    · refine J_aload_n (pc := 36) C0 0 dX8_fillings_36 rfl rfl ?_
      refine J_get (pc := 37) (v := .ref (ad 9)) C0 0 wR_o rfl in_X8 12 (by decide) q498 rfl dX8_fillings_37 ?_
      refine J_iload (pc := 40) C0 6 dX8_fillings_40 rfl ?_
      refine J_dup2 (pc := 42) C0 dX8_fillings_42 rfl rfl ?_
      refine J_iald (pc := 43) C0 9 0 wR_a9 rfl dX8_fillings_43 (fun h_43 => ?_)
      refine J_iconst (pc := 44) (v := 1) C0 dX8_fillings_44 (by decide) ?_
      refine J_iadd (pc := 45) C0 dX8_fillings_45 ?_
      refine J_iast (pc := 46) (σ' := (rsu σ 8 (ix x6) ((σ.1 8 (ix x6)) + 1))) C0 9 0 wR_a9 rfl wR_s9 dX8_fillings_46 (fun h_46 => ?_)
      refine J_aload_n (pc := 47) C0 0 dX8_fillings_47 rfl rfl ?_
      refine J_get (pc := 48) (v := .ref (ad 9)) C0 0 wR_o rfl in_X8 12 (by decide) q498 rfl dX8_fillings_48 ?_
      refine J_iload (pc := 51) C0 6 dX8_fillings_51 rfl ?_
      refine J_iald (pc := 53) C0 9 0 wR_a9 rfl dX8_fillings_53 (fun h_53 => ?_)
      refine J_aload_n (pc := 54) C0 0 dX8_fillings_54 rfl rfl ?_
      refine J_get (pc := 55) (v := .ref (ad 1)) C0 0 wR_o rfl in_X8 0 (by decide) q411 rfl dX8_fillings_55 ?_
      refine J_bipush (pc := 58) (v := (nI 16)) C0 dX8_fillings_58 (by decide) ?_
      refine J_iald (pc := 60) C0 1 0 wR_a1 rfl dX8_fillings_60 (fun h_60 => ?_)
      refine J_icmp_lt (pc := 61) (tgt := 77) C0 dX8_fillings_61 (by decide) (fun h_61 => ?_) (fun h_61 => ?_)
      · refine J_iload (pc := 77) C0 6 dX8_fillings_77 rfl ?_
        refine J_iload_n (pc := 79) C0 3 dX8_fillings_79 rfl rfl ?_
        refine J_icmp_ne (pc := 80) (tgt := 95) C0 dX8_fillings_80 (by decide) (fun h_80 => ?_) (fun h_80 => ?_)
        · refine J_sub (lv' := [(0, .ref (ad 0)), (1, .int x1), (2, .int x2), (3, .int x3), (4, .int x4), (5, .int x5), (6, .int x6)]) [0, 1, 2, 3, 4, 5, 6] rfl ?_
          exact j_X8_fillings_K95 C0 _ (rsu σ 8 (ix x6) ((σ.1 8 (ix x6)) + 1)) x1 x2 x3 x4 x5 x6 ih
        · refine J_aload_n (pc := 83) C0 0 dX8_fillings_83 rfl rfl ?_
          refine J_get (pc := 84) (v := .ref (ad 9)) C0 0 wR_o rfl in_X8 12 (by decide) q498 rfl dX8_fillings_84 ?_
          refine J_iload (pc := 87) C0 6 dX8_fillings_87 rfl ?_
          refine J_iald (pc := 89) C0 9 0 wR_a9 rfl dX8_fillings_89 (fun h_89 => ?_)
          refine J_iload (pc := 90) C0 4 dX8_fillings_90 rfl ?_
          refine J_icmp_ne (pc := 92) (tgt := 31) C0 dX8_fillings_92 (by decide) (fun h_92 => ?_) (fun h_92 => ?_)
          · refine J_sub (lv' := [(0, .ref (ad 0)), (1, .int x1), (2, .int x2), (3, .int x3), (4, .int x4), (5, .int x5), (6, .int x6)]) [0, 1, 2, 3, 4, 5, 6] rfl ?_
            exact ih (rsu σ 8 (ix x6) ((σ.1 8 (ix x6)) + 1)) x5 x6
          · refine J_sub (lv' := [(0, .ref (ad 0)), (1, .int x1), (2, .int x2), (3, .int x3), (4, .int x4), (5, .int x5), (6, .int x6)]) [0, 1, 2, 3, 4, 5, 6] rfl ?_
            exact j_X8_fillings_K95 C0 _ (rsu σ 8 (ix x6) ((σ.1 8 (ix x6)) + 1)) x1 x2 x3 x4 x5 x6 ih
      · refine J_aload_n (pc := 64) C0 0 dX8_fillings_64 rfl rfl ?_
        refine J_iload (pc := 65) C0 6 dX8_fillings_65 rfl ?_
        refine J_iload_n (pc := 67) C0 1 dX8_fillings_67 rfl rfl ?_
        refine J_iconst (pc := 68) (v := (-1)) C0 dX8_fillings_68 (by decide) ?_
        refine fin_P (fun r_ h_ => run_V (As := [.int x6, .int x1, .int (-1)]) (rest := []) (q0 := 0) C0 (c_X8_nextSlot (rsu σ 8 (ix x6) ((σ.1 8 (ix x6)) + 1)) x6 x1 (-1)  r_ h_) v_X8_nextSlot q508 wR_o rfl rfl ⟨rfl, rfl⟩ (Rm_ok (by decide) (by decide)) rfl (Nat.le_of_ble_eq_true rfl) dX8_fillings_69) (fun r69 e69 => ?_)
        refine J_istore (pc := 72) (lv' := [(6, .int r69), (0, .ref (ad 0)), (1, .int x1), (2, .int x2), (3, .int x3), (4, .int x4), (5, .int x5)]) C0 dX8_fillings_72 (by decide) rfl ?_
        refine J_goto (pc := 74) (tgt := 31) C0 dX8_fillings_74 (by decide) ?_
        refine J_sub (lv' := [(0, .ref (ad 0)), (1, .int x1), (2, .int x2), (3, .int x3), (4, .int x4), (5, .int x5), (6, .int r69)]) [1, 2, 3, 4, 5, 6, 0] rfl ?_
        exact ih (rsu σ 8 (ix x6) ((σ.1 8 (ix x6)) + 1)) x5 r69
set_option maxRecDepth 100000 in
set_option maxHeartbeats 4000000 in
theorem c_X8_fillings {l : Launch} {D : va_G} {cI cZ : ClassId} {A : Nat → Prop} {ad : Nat → Nat} (σ : SR) (x1 : Int32) (x2 : Int32) (x3 : Int32) (x4 : Int32)  (r : (Int32 × SR)) (h : f_X8_fillings σ x1 x2 x3 x4 = some r) : Met l yX8_fillings (.code yX8_fillings cX8_fillings 8 (some .int) :: wG) (Rm 5) (PreW D (tyA cI cZ) A (wR ad cI cZ) [.ref (ad 0), .int x1, .int x2, .int x3, .int x4] σ) (QI D A (wR ad cI cZ) r) 0 0 A := by
  refine met_of (M := f_X8_fillings σ x1 x2 x3 x4) (Qc := (QI D A (wR ad cI cZ))) (by decide) (Nat.le_of_ble_eq_true rfl) h (fun p e s m below meth c C0 => ?_)
  generalize hargs : ([.ref (ad 0), .int x1, .int x2, .int x3, .int x4] : List Value).toArray = args at C0 ⊢
  have C0 : Cx D (tyA cI cZ) RX8 cX8_fillings 8 (some .int) p s m args meth c := C0
  refine J_sub (lv' := [(0, .ref (ad 0)), (1, .int x1), (2, .int x2), (3, .int x3), (4, .int x4)]) [0, 1, 2, 3, 4] rfl ?_
  unfold f_X8_fillings
  refine J_iconst (pc := 0) (v := 0) C0 dX8_fillings_0 (by decide) ?_
  refine J_istore (pc := 1) (lv' := [(5, .int 0), (0, .ref (ad 0)), (1, .int x1), (2, .int x2), (3, .int x3), (4, .int x4)]) C0 dX8_fillings_1 (by decide) rfl ?_
  refine J_aload_n (pc := 3) C0 1 dX8_fillings_3 rfl rfl ?_
  refine J_iconst (pc := 4) (v := (-1)) C0 dX8_fillings_4 (by decide) ?_
  refine J_iload_n (pc := 5) C0 2 dX8_fillings_5 rfl rfl ?_
  refine J_iconst (pc := 6) (v := 1) C0 dX8_fillings_6 (by decide) ?_
  refine fin_P (fun r_ h_ => run_V (As := [.int (-1), .int x1, .int 1]) (rest := []) (q0 := 0) C0 (c_X8_nextSlot σ (-1) x1 1  r_ h_) v_X8_nextSlot q508 wR_o rfl rfl ⟨rfl, rfl⟩ (Rm_ok (by decide) (by decide)) rfl (Nat.le_of_ble_eq_true rfl) dX8_fillings_7) (fun r7 e7 => ?_)
  refine J_istore (pc := 10) (lv' := [(6, .int r7), (5, .int 0), (0, .ref (ad 0)), (1, .int x1), (2, .int x2), (3, .int x3), (4, .int x4)]) C0 dX8_fillings_10 (by decide) rfl ?_
  refine J_iload (pc := 12) C0 0 dX8_fillings_12 rfl ?_
  refine J_aload_n (pc := 14) C0 2 dX8_fillings_14 rfl rfl ?_
  refine J_get (pc := 15) (v := .int (σ.1 9 2)) C0 0 wR_o rfl in_X8 6 (by decide) q395 rfl dX8_fillings_15 ?_
  refine J_icmp_lt (pc := 18) (tgt := 23) C0 dX8_fillings_18 (by decide) (fun h_18 => ?_) (fun h_18 => ?_)
  · refine J_aload_n (pc := 23) C0 2 dX8_fillings_23 rfl rfl ?_
    refine J_get (pc := 24) (v := .ref (ad 9)) C0 0 wR_o rfl in_X8 12 (by decide) q498 rfl dX8_fillings_24 ?_
    refine J_iload (pc := 27) C0 0 dX8_fillings_27 rfl ?_
    refine J_iconst (pc := 29) (v := (-1)) C0 dX8_fillings_29 (by decide) ?_
    refine J_iast (pc := 30) (σ' := (rsu σ 8 (ix r7) (-1))) C0 9 0 wR_a9 rfl wR_s9 dX8_fillings_30 (fun h_30 => ?_)
    refine J_sub (lv' := [(0, .ref (ad 0)), (1, .int x1), (2, .int x2), (3, .int x3), (4, .int x4), (5, .int 0), (6, .int r7)]) [2, 3, 4, 5, 6, 1, 0] rfl ?_
    exact j_X8_fillings_L31 C0 x1 x2 x3 x4 FU (rsu σ 8 (ix r7) (-1)) 0 r7
  · refine J_iconst (pc := 21) (v := 1) C0 dX8_fillings_21 (by decide) ?_
    exact J_iret C0 dX8_fillings_22
end SE

def f_X8_stays_L2 (σ : SR) (x1 : Int32) (x2 : Int32) : Nat → Int32 → Option Int32
  | 0, _ => none
  | n + 1, x3 =>
  (if (σ.1 9 2) ≤ x3 then (some 1) else ((f_X8_common σ x2 x3).bind fun r13 => (if r13 = (-1) then (f_X8_stays_L2 σ x1 x2 n (x3 + 1)) else ((f_X8_letterIn σ x1 x2 r13).bind fun r33 => ((f_X8_goesWith σ x3 r13 r33 x1).bind fun r37 => (if r37 = 0 then (some 0) else (f_X8_stays_L2 σ x1 x2 n (x3 + 1))))))))
theorem f_X8_stays_L2_s (σ : SR) (x1 : Int32) (x2 : Int32) (n : Nat) (x3 : Int32) : f_X8_stays_L2 σ x1 x2 (n + 1) x3 = ((if (σ.1 9 2) ≤ x3 then (some 1) else ((f_X8_common σ x2 x3).bind fun r13 => (if r13 = (-1) then (f_X8_stays_L2 σ x1 x2 n (x3 + 1)) else ((f_X8_letterIn σ x1 x2 r13).bind fun r33 => ((f_X8_goesWith σ x3 r13 r33 x1).bind fun r37 => (if r37 = 0 then (some 0) else (f_X8_stays_L2 σ x1 x2 n (x3 + 1))))))))) := rfl
def f_X8_stays (σ : SR) (x1 : Int32) (x2 : Int32) : Option Int32 :=
  (f_X8_stays_L2 σ x1 x2 FU 0)
section SE
variable {p : Program} {l : Launch} {e : Env} {s : State} {m : MethodId} {args : Array Value} {below : List Frame} {meth : Method} {c : Code} {D : va_G} {cI cZ : ClassId} {A : Nat → Prop} {ad : Nat → Nat}
set_option maxRecDepth 100000 in
set_option maxHeartbeats 4000000 in
theorem j_X8_stays_L2 (C0 : Cx D (tyA cI cZ) RX8 cX8_stays 5 (some .boolean) p s m args meth c) (σ : SR) (x1 : Int32) (x2 : Int32) : ∀ (n : Nat) (x3 : Int32), J p l e (Rm 5) s m args below meth c D A (wR ad cI cZ) 5 (fun r => QI D A (wR ad cI cZ) (r, σ)) (f_X8_stays_L2 σ x1 x2 n x3) σ [(0, .ref (ad 0)), (1, .int x1), (2, .int x2), (3, .int x3)] [] 2 := by
  intro n
  induction n with
  | zero => intros; exact J_none
  | succ n ih =>
    intro x3
    refine J_eq (f_X8_stays_L2_s σ x1 x2 n x3) ?_
    refine J_iload_n (pc := 2) C0 3 dX8_stays_2 rfl rfl ?_
    refine J_aload_n (pc := 3) C0 0 dX8_stays_3 rfl rfl ?_
    refine J_get (pc := 4) (v := .int (σ.1 9 2)) C0 0 wR_o rfl in_X8 6 (by decide) q395 rfl dX8_stays_4 ?_
    refine J_icmp_ge (pc := 7) (tgt := 51) C0 dX8_stays_7 (by decide) (fun h_7 => ?_) (fun h_7 => ?_)
    · refine J_iconst (pc := 51) (v := 1) C0 dX8_stays_51 (by decide) ?_
      exact J_zretP0 (Or.inr rfl) C0 dX8_stays_52
    · refine J_aload_n (pc := 10) C0 0 dX8_stays_10 rfl rfl ?_
      refine J_iload_n (pc := 11) C0 2 dX8_stays_11 rfl rfl ?_
      refine J_iload_n (pc := 12) C0 3 dX8_stays_12 rfl rfl ?_
      refine fin_P (fun r_ h_ => run_V (As := [.int x2, .int x3]) (rest := []) (q0 := 0) C0 (c_X8_common σ x2 x3  r_ h_) v_X8_common q490 wR_o rfl rfl ⟨rfl, rfl⟩ (Rm_ok (by decide) (by decide)) rfl (Nat.le_of_ble_eq_true rfl) dX8_stays_13) (fun r13 e13 => ?_)
      refine J_istore (pc := 16) (lv' := [(4, .int r13), (0, .ref (ad 0)), (1, .int x1), (2, .int x2), (3, .int x3)]) C0 dX8_stays_16 (by decide) rfl ?_
      refine J_iload (pc := 18) C0 0 dX8_stays_18 rfl ?_
      refine J_iconst (pc := 20) (v := (-1)) C0 dX8_stays_20 (by decide) ?_
      refine J_icmp_eq (pc := 21) (tgt := 45) C0 dX8_stays_21 (by decide) (fun h_21 => ?_) (fun h_21 => ?_)
      · refine J_iinc (pc := 45) (d := 1) (lv' := [(3, .int (x3 + 1)), (4, .int r13), (0, .ref (ad 0)), (1, .int x1), (2, .int x2)]) C0 4 dX8_stays_45 rfl (by decide) (by decide) rfl ?_
        refine J_goto (pc := 48) (tgt := 2) C0 dX8_stays_48 (by decide) ?_
        refine J_sub (lv' := [(0, .ref (ad 0)), (1, .int x1), (2, .int x2), (3, .int (x3 + 1))]) [2, 3, 4, 0] rfl ?_
        exact ih (x3 + 1)
      · refine J_aload_n (pc := 24) C0 1 dX8_stays_24 rfl rfl ?_
        refine J_iload_n (pc := 25) C0 4 dX8_stays_25 rfl rfl ?_
        refine J_iload (pc := 26) C0 0 dX8_stays_26 rfl ?_
        refine J_aload_n (pc := 28) C0 1 dX8_stays_28 rfl rfl ?_
        refine J_iload_n (pc := 29) C0 2 dX8_stays_29 rfl rfl ?_
        refine J_iload_n (pc := 30) C0 3 dX8_stays_30 rfl rfl ?_
        refine J_iload (pc := 31) C0 0 dX8_stays_31 rfl ?_
        refine fin_P (fun r_ h_ => run_V (As := [.int x1, .int x2, .int r13]) (rest := [.int r13, .int x3, .ref (ad 0)]) (q0 := 0) C0 (c_X8_letterIn σ x1 x2 r13  r_ h_) v_X8_letterIn q499 wR_o rfl rfl ⟨rfl, rfl⟩ (Rm_ok (by decide) (by decide)) rfl (Nat.le_of_ble_eq_true rfl) dX8_stays_33) (fun r33 e33 => ?_)
        refine J_iload_n (pc := 36) C0 2 dX8_stays_36 rfl rfl ?_
        refine fin_P (fun r_ h_ => run_V (As := [.int x3, .int r13, .int r33, .int x1]) (rest := []) (q0 := 0) C0 (c_X8_goesWith σ x3 r13 r33 x1  r_ h_) v_X8_goesWith q516 wR_o rfl rfl ⟨rfl, rfl⟩ (Rm_ok (by decide) (by decide)) rfl (Nat.le_of_ble_eq_true rfl) dX8_stays_37) (fun r37 e37 => ?_)
        refine J_if_ne (pc := 40) (tgt := 45) C0 dX8_stays_40 (by decide) (fun h_40 => ?_) (fun h_40 => ?_)
        · refine J_iinc (pc := 45) (d := 1) (lv' := [(3, .int (x3 + 1)), (4, .int r13), (0, .ref (ad 0)), (1, .int x1), (2, .int x2)]) C0 4 dX8_stays_45 rfl (by decide) (by decide) rfl ?_
          refine J_goto (pc := 48) (tgt := 2) C0 dX8_stays_48 (by decide) ?_
          refine J_sub (lv' := [(0, .ref (ad 0)), (1, .int x1), (2, .int x2), (3, .int (x3 + 1))]) [2, 3, 4, 0] rfl ?_
          exact ih (x3 + 1)
        · refine J_iconst (pc := 43) (v := 0) C0 dX8_stays_43 (by decide) ?_
          exact J_zretP0 (Or.inl rfl) C0 dX8_stays_44
set_option maxRecDepth 100000 in
set_option maxHeartbeats 4000000 in
theorem c_X8_stays {l : Launch} {D : va_G} {cI cZ : ClassId} {A : Nat → Prop} {ad : Nat → Nat} (σ : SR) (x1 : Int32) (x2 : Int32)  (r : Int32) (h : f_X8_stays σ x1 x2 = some r) : Met l yX8_stays (.code yX8_stays cX8_stays 5 (some .boolean) :: wG) (Rm 5) (PreW D (tyA cI cZ) A (wR ad cI cZ) [.ref (ad 0), .int x1, .int x2] σ) (QI D A (wR ad cI cZ) (r, σ)) 0 0 A := by
  refine met_of (M := f_X8_stays σ x1 x2) (Qc := (fun r => QI D A (wR ad cI cZ) (r, σ))) (by decide) (Nat.le_of_ble_eq_true rfl) h (fun p e s m below meth c C0 => ?_)
  generalize hargs : ([.ref (ad 0), .int x1, .int x2] : List Value).toArray = args at C0 ⊢
  have C0 : Cx D (tyA cI cZ) RX8 cX8_stays 5 (some .boolean) p s m args meth c := C0
  refine J_sub (lv' := [(0, .ref (ad 0)), (1, .int x1), (2, .int x2)]) [0, 1, 2] rfl ?_
  unfold f_X8_stays
  refine J_iconst (pc := 0) (v := 0) C0 dX8_stays_0 (by decide) ?_
  refine J_istore_n (pc := 1) (lv' := [(3, .int 0), (0, .ref (ad 0)), (1, .int x1), (2, .int x2)]) C0 dX8_stays_1 rfl (by decide) rfl ?_
  refine J_sub (lv' := [(0, .ref (ad 0)), (1, .int x1), (2, .int x2), (3, .int 0)]) [1, 2, 3, 0] rfl ?_
  exact j_X8_stays_L2 C0 σ x1 x2 FU 0
end SE

def f_X8_knot_K42 (k19 : SR → Int32 → Int32 → Option (Int32 × SR)) (σ : SR) (x1 : Int32) (x2 : Int32) : Option (Int32 × SR) :=
  (bnd (f_X8_fillings σ x2 1 (-1) 0) fun r47 σ47 => (if r47 = 0 then (k19 σ47 x2 (x2 + 1)) else (k19 σ47 x1 (x2 + 1))))
def f_X8_knot_L19 : Nat → SR → Int32 → Int32 → Option (Int32 × SR)
  | 0, _, _, _ => none
  | n + 1, σ, x1, x2 =>
  ((f_X8_all σ).bind fun r21 => (if r21 < x2 then (some (x1, σ)) else (if x1 = 0 then (f_X8_knot_K42 (f_X8_knot_L19 n) σ x1 x2) else ((f_X8_bits x2).bind fun r32 => ((f_X8_bits x1).bind fun r36 => (if r36 ≤ r32 then (f_X8_knot_L19 n σ x1 (x2 + 1)) else (f_X8_knot_K42 (f_X8_knot_L19 n) σ x1 x2)))))))
theorem f_X8_knot_L19_s (n : Nat) (σ : SR) (x1 : Int32) (x2 : Int32) : f_X8_knot_L19 (n + 1) σ x1 x2 = (((f_X8_all σ).bind fun r21 => (if r21 < x2 then (some (x1, σ)) else (if x1 = 0 then (f_X8_knot_K42 (f_X8_knot_L19 n) σ x1 x2) else ((f_X8_bits x2).bind fun r32 => ((f_X8_bits x1).bind fun r36 => (if r36 ≤ r32 then (f_X8_knot_L19 n σ x1 (x2 + 1)) else (f_X8_knot_K42 (f_X8_knot_L19 n) σ x1 x2)))))))) := rfl
def f_X8_knot (σ : SR)  : Option (Int32 × SR) :=
  ((f_X8_laySlots σ).bind fun σ1 => (if (σ1.1 9 2) ≤ (nI 6) then (f_X8_knot_L19 FU σ1 0 1) else (some ((-1), σ1))))
section SE
variable {p : Program} {l : Launch} {e : Env} {s : State} {m : MethodId} {args : Array Value} {below : List Frame} {meth : Method} {c : Code} {D : va_G} {cI cZ : ClassId} {A : Nat → Prop} {ad : Nat → Nat}
set_option maxRecDepth 100000 in
set_option maxHeartbeats 4000000 in
theorem j_X8_knot_K42 (C0 : Cx D (tyA cI cZ) RX8 cX8_knot 3 (some .int) p s m args meth c) (k19 : SR → Int32 → Int32 → Option (Int32 × SR)) (σ : SR) (x1 : Int32) (x2 : Int32) (hk19 : ∀ (σ : SR) (x1 : Int32) (x2 : Int32), J p l e (Rm 6) s m args below meth c D A (wR ad cI cZ) 3 (QI D A (wR ad cI cZ)) (k19 σ x1 x2) σ [(0, .ref (ad 0)), (1, .int x1), (2, .int x2)] [] 19) : J p l e (Rm 6) s m args below meth c D A (wR ad cI cZ) 3 (QI D A (wR ad cI cZ)) (f_X8_knot_K42 k19 σ x1 x2) σ [(0, .ref (ad 0)), (1, .int x1), (2, .int x2)] [] 42 := by
  unfold f_X8_knot_K42
  refine J_aload_n (pc := 42) C0 0 dX8_knot_42 rfl rfl ?_
  refine J_iload_n (pc := 43) C0 2 dX8_knot_43 rfl rfl ?_
  refine J_iconst (pc := 44) (v := 1) C0 dX8_knot_44 (by decide) ?_
  refine J_iconst (pc := 45) (v := (-1)) C0 dX8_knot_45 (by decide) ?_
  refine J_iconst (pc := 46) (v := 0) C0 dX8_knot_46 (by decide) ?_
  refine fin_I (fun r_ h_ => run_V (As := [.int x2, .int 1, .int (-1), .int 0]) (rest := []) (q0 := 0) C0 (c_X8_fillings σ x2 1 (-1) 0  r_ h_) v_X8_fillings q524 wR_o rfl rfl ⟨rfl, rfl⟩ (Rm_ok (by decide) (by decide)) rfl (Nat.le_of_ble_eq_true rfl) dX8_knot_47) (fun r47 σ47 e47 => ?_)
  refine J_if_ne (pc := 50) (tgt := 55) C0 dX8_knot_50 (by decide) (fun h_50 => ?_) (fun h_50 => ?_)
  · refine J_iinc (pc := 55) (d := 1) (lv' := [(2, .int (x2 + 1)), (0, .ref (ad 0)), (1, .int x1)]) C0 2 dX8_knot_55 rfl (by decide) (by decide) rfl ?_
    refine J_goto (pc := 58) (tgt := 19) C0 dX8_knot_58 (by decide) ?_
    refine J_sub (lv' := [(0, .ref (ad 0)), (1, .int x1), (2, .int (x2 + 1))]) [1, 2, 0] rfl ?_
    exact hk19 σ47 x1 (x2 + 1)
  · refine J_iload_n (pc := 53) C0 2 dX8_knot_53 rfl rfl ?_
    refine J_istore_n (pc := 54) (lv' := [(1, .int x2), (0, .ref (ad 0)), (2, .int x2)]) C0 dX8_knot_54 rfl (by decide) rfl ?_
    refine J_iinc (pc := 55) (d := 1) (lv' := [(2, .int (x2 + 1)), (1, .int x2), (0, .ref (ad 0))]) C0 2 dX8_knot_55 rfl (by decide) (by decide) rfl ?_
    refine J_goto (pc := 58) (tgt := 19) C0 dX8_knot_58 (by decide) ?_
    refine J_sub (lv' := [(0, .ref (ad 0)), (1, .int x2), (2, .int (x2 + 1))]) [2, 1, 0] rfl ?_
    exact hk19 σ47 x2 (x2 + 1)
set_option maxRecDepth 100000 in
set_option maxHeartbeats 4000000 in
theorem j_X8_knot_L19 (C0 : Cx D (tyA cI cZ) RX8 cX8_knot 3 (some .int) p s m args meth c) : ∀ (n : Nat) (σ : SR) (x1 : Int32) (x2 : Int32), J p l e (Rm 6) s m args below meth c D A (wR ad cI cZ) 3 (QI D A (wR ad cI cZ)) (f_X8_knot_L19 n σ x1 x2) σ [(0, .ref (ad 0)), (1, .int x1), (2, .int x2)] [] 19 := by
  intro n
  induction n with
  | zero => intros; exact J_none
  | succ n ih =>
    intro σ x1 x2
    refine J_eq (f_X8_knot_L19_s  n σ x1 x2) ?_
    refine J_iload_n (pc := 19) C0 2 dX8_knot_19 rfl rfl ?_
    refine J_aload_n (pc := 20) C0 0 dX8_knot_20 rfl rfl ?_
    refine fin_P (fun r_ h_ => run_V (As := []) (rest := [.int x2]) (q0 := 0) C0 (c_X8_all σ   r_ h_) v_X8_all q520 wR_o rfl rfl ⟨rfl, rfl⟩ (Rm_ok (by decide) (by decide)) rfl (Nat.le_of_ble_eq_true rfl) dX8_knot_21) (fun r21 e21 => ?_)
    refine J_icmp_gt (pc := 24) (tgt := 61) C0 dX8_knot_24 (by decide) (fun h_24 => ?_) (fun h_24 => ?_)
    · refine J_iload_n (pc := 61) C0 1 dX8_knot_61 rfl rfl ?_
      exact J_iret C0 dX8_knot_62
    · refine J_iload_n (pc := 27) C0 1 dX8_knot_27 rfl rfl ?_
      refine J_if_eq (pc := 28) (tgt := 42) C0 dX8_knot_28 (by decide) (fun h_28 => ?_) (fun h_28 => ?_)
      · refine J_sub (lv' := [(0, .ref (ad 0)), (1, .int x1), (2, .int x2)]) [0, 1, 2] rfl ?_
        exact j_X8_knot_K42 C0 _ σ x1 x2 ih
      · refine J_iload_n (pc := 31) C0 2 dX8_knot_31 rfl rfl ?_
        refine fin_P (fun r_ h_ => run_S (As := [.int x2]) (rest := []) C0 (c_X8_bits σ x2  r_ h_) v_X8_bits q528 rfl ⟨rfl, rfl⟩ (Rm_ok (by decide) (by decide)) rfl (Nat.le_of_ble_eq_true rfl) dX8_knot_32) (fun r32 e32 => ?_)
        refine J_iload_n (pc := 35) C0 1 dX8_knot_35 rfl rfl ?_
        refine fin_P (fun r_ h_ => run_S (As := [.int x1]) (rest := [.int r32]) C0 (c_X8_bits σ x1  r_ h_) v_X8_bits q528 rfl ⟨rfl, rfl⟩ (Rm_ok (by decide) (by decide)) rfl (Nat.le_of_ble_eq_true rfl) dX8_knot_36) (fun r36 e36 => ?_)
        refine J_icmp_ge (pc := 39) (tgt := 55) C0 dX8_knot_39 (by decide) (fun h_39 => ?_) (fun h_39 => ?_)
        · refine J_iinc (pc := 55) (d := 1) (lv' := [(2, .int (x2 + 1)), (0, .ref (ad 0)), (1, .int x1)]) C0 2 dX8_knot_55 rfl (by decide) (by decide) rfl ?_
          refine J_goto (pc := 58) (tgt := 19) C0 dX8_knot_58 (by decide) ?_
          refine J_sub (lv' := [(0, .ref (ad 0)), (1, .int x1), (2, .int (x2 + 1))]) [1, 2, 0] rfl ?_
          exact ih σ x1 (x2 + 1)
        · refine J_sub (lv' := [(0, .ref (ad 0)), (1, .int x1), (2, .int x2)]) [0, 1, 2] rfl ?_
          exact j_X8_knot_K42 C0 _ σ x1 x2 ih
set_option maxRecDepth 100000 in
set_option maxHeartbeats 4000000 in
theorem c_X8_knot {l : Launch} {D : va_G} {cI cZ : ClassId} {A : Nat → Prop} {ad : Nat → Nat} (σ : SR)   (r : (Int32 × SR)) (h : f_X8_knot σ = some r) : Met l yX8_knot (.code yX8_knot cX8_knot 3 (some .int) :: wG) (Rm 6) (PreW D (tyA cI cZ) A (wR ad cI cZ) [.ref (ad 0)] σ) (QI D A (wR ad cI cZ) r) 0 0 A := by
  refine met_of (M := f_X8_knot σ) (Qc := (QI D A (wR ad cI cZ))) (by decide) (Nat.le_of_ble_eq_true rfl) h (fun p e s m below meth c C0 => ?_)
  generalize hargs : ([.ref (ad 0)] : List Value).toArray = args at C0 ⊢
  have C0 : Cx D (tyA cI cZ) RX8 cX8_knot 3 (some .int) p s m args meth c := C0
  refine J_sub (lv' := [(0, .ref (ad 0))]) [0] rfl ?_
  unfold f_X8_knot
  refine J_aload_n (pc := 0) C0 0 dX8_knot_0 rfl rfl ?_
  refine fin_V (fun r_ h_ => run_V (As := []) (rest := []) (q0 := 0) C0 (c_X8_laySlots σ   r_ h_) v_X8_laySlots q450 wR_o rfl rfl ⟨rfl, rfl⟩ (Rm_ok (by decide) (by decide)) rfl (Nat.le_of_ble_eq_true rfl) dX8_knot_1) (fun σ1 e1 => ?_)
  refine J_aload_n (pc := 4) C0 0 dX8_knot_4 rfl rfl ?_
  refine J_get (pc := 5) (v := .int (σ1.1 9 2)) C0 0 wR_o rfl in_X8 6 (by decide) q395 rfl dX8_knot_5 ?_
  refine J_bipush (pc := 8) (v := (nI 6)) C0 dX8_knot_8 (by decide) ?_
  refine J_icmp_le (pc := 10) (tgt := 15) C0 dX8_knot_10 (by decide) (fun h_10 => ?_) (fun h_10 => ?_)
  · refine J_iconst (pc := 15) (v := 0) C0 dX8_knot_15 (by decide) ?_
    refine J_istore_n (pc := 16) (lv' := [(1, .int 0), (0, .ref (ad 0))]) C0 dX8_knot_16 rfl (by decide) rfl ?_
    refine J_iconst (pc := 17) (v := 1) C0 dX8_knot_17 (by decide) ?_
    refine J_istore_n (pc := 18) (lv' := [(2, .int 1), (1, .int 0), (0, .ref (ad 0))]) C0 dX8_knot_18 rfl (by decide) rfl ?_
    refine J_sub (lv' := [(0, .ref (ad 0)), (1, .int 0), (2, .int 1)]) [2, 1, 0] rfl ?_
    exact j_X8_knot_L19 C0 FU σ1 0 1
  · refine J_iconst (pc := 13) (v := (-1)) C0 dX8_knot_13 (by decide) ?_
    exact J_iret C0 dX8_knot_14
end SE

def f_X8_layLeft_L23 (x1 : Int32) (kx65 : SR → Option SR) : Nat → SR → Int32 → Option SR
  | 0, _, _ => none
  | n + 1, σ, x2 =>
  (if inb (nI 16) 33 = true then (if (σ.1 0 (ix (nI 16))) ≤ x2 then (kx65 σ) else (if inb x1 8 = true then ((f_X8_fits σ x2 x1).bind fun r44 => (if r44 = 0 then (if inb x1 8 = true then (f_X8_layLeft_L23 x1 kx65 n (rsu σ 7 (ix x1) ((σ.1 7 (ix x1)) ||| (0 : Int32))) (x2 + 1)) else none) else (if inb x1 8 = true then (f_X8_layLeft_L23 x1 kx65 n (rsu σ 7 (ix x1) ((σ.1 7 (ix x1)) ||| ((1 : Int32) <<< (x2 &&& 31)))) (x2 + 1)) else none))) else none)) else none)
theorem f_X8_layLeft_L23_s (x1 : Int32) (kx65 : SR → Option SR) (n : Nat) (σ : SR) (x2 : Int32) : f_X8_layLeft_L23 x1 kx65 (n + 1) σ x2 = ((if inb (nI 16) 33 = true then (if (σ.1 0 (ix (nI 16))) ≤ x2 then (kx65 σ) else (if inb x1 8 = true then ((f_X8_fits σ x2 x1).bind fun r44 => (if r44 = 0 then (if inb x1 8 = true then (f_X8_layLeft_L23 x1 kx65 n (rsu σ 7 (ix x1) ((σ.1 7 (ix x1)) ||| (0 : Int32))) (x2 + 1)) else none) else (if inb x1 8 = true then (f_X8_layLeft_L23 x1 kx65 n (rsu σ 7 (ix x1) ((σ.1 7 (ix x1)) ||| ((1 : Int32) <<< (x2 &&& 31)))) (x2 + 1)) else none))) else none)) else none)) := rfl
def f_X8_layLeft_L6 (kx71 : SR → Option SR) : Nat → SR → Int32 → Option SR
  | 0, _, _ => none
  | n + 1, σ, x1 =>
  (if (σ.1 9 2) ≤ x1 then (kx71 σ) else (if inb x1 8 = true then (f_X8_layLeft_L23 x1 (fun σ_65 => (f_X8_layLeft_L6 kx71 n σ_65 (x1 + 1))) FU (rsu σ 7 (ix x1) 0) 0) else none))
theorem f_X8_layLeft_L6_s (kx71 : SR → Option SR) (n : Nat) (σ : SR) (x1 : Int32) : f_X8_layLeft_L6 kx71 (n + 1) σ x1 = ((if (σ.1 9 2) ≤ x1 then (kx71 σ) else (if inb x1 8 = true then (f_X8_layLeft_L23 x1 (fun σ_65 => (f_X8_layLeft_L6 kx71 n σ_65 (x1 + 1))) FU (rsu σ 7 (ix x1) 0) 0) else none))) := rfl
def f_X8_layLeft_L91 (x2 : Int32) (kx146 : SR → Int32 → Option SR) : Nat → SR → Int32 → Int32 → Option SR
  | 0, _, _, _ => none
  | n + 1, σ, x1, x3 =>
  (if inb (nI 16) 33 = true then (if (σ.1 0 (ix (nI 16))) ≤ x3 then (kx146 σ x1) else (if inb x2 8 = true then ((f_X8_has (σ.1 7 (ix x2)) x3).bind fun r109 => (if r109 = 0 then (f_X8_layLeft_L91 x2 kx146 n σ x1 (x3 + 1)) else ((f_X8_stays σ x3 x2).bind fun r118 => (if r118 = 0 then (if inb x2 8 = true then (if inb x2 8 = true then (f_X8_layLeft_L91 x2 kx146 n (rsu σ 7 (ix x2) ((σ.1 7 (ix x2)) &&& (((1 : Int32) <<< (x3 &&& 31)) ^^^ (-1 : Int32)))) 1 (x3 + 1)) else none) else none) else (f_X8_layLeft_L91 x2 kx146 n σ x1 (x3 + 1)))))) else none)) else none)
theorem f_X8_layLeft_L91_s (x2 : Int32) (kx146 : SR → Int32 → Option SR) (n : Nat) (σ : SR) (x1 : Int32) (x3 : Int32) : f_X8_layLeft_L91 x2 kx146 (n + 1) σ x1 x3 = ((if inb (nI 16) 33 = true then (if (σ.1 0 (ix (nI 16))) ≤ x3 then (kx146 σ x1) else (if inb x2 8 = true then ((f_X8_has (σ.1 7 (ix x2)) x3).bind fun r109 => (if r109 = 0 then (f_X8_layLeft_L91 x2 kx146 n σ x1 (x3 + 1)) else ((f_X8_stays σ x3 x2).bind fun r118 => (if r118 = 0 then (if inb x2 8 = true then (if inb x2 8 = true then (f_X8_layLeft_L91 x2 kx146 n (rsu σ 7 (ix x2) ((σ.1 7 (ix x2)) &&& (((1 : Int32) <<< (x3 &&& 31)) ^^^ (-1 : Int32)))) 1 (x3 + 1)) else none) else none) else (f_X8_layLeft_L91 x2 kx146 n σ x1 (x3 + 1)))))) else none)) else none)) := rfl
def f_X8_layLeft_L81 (kx152 : SR → Int32 → Option SR) : Nat → SR → Int32 → Int32 → Option SR
  | 0, _, _, _ => none
  | n + 1, σ, x1, x2 =>
  (if (σ.1 9 2) ≤ x2 then (kx152 σ x1) else (f_X8_layLeft_L91 x2 (fun σ_146 x1_146 => (f_X8_layLeft_L81 kx152 n σ_146 x1_146 (x2 + 1))) FU σ x1 0))
theorem f_X8_layLeft_L81_s (kx152 : SR → Int32 → Option SR) (n : Nat) (σ : SR) (x1 : Int32) (x2 : Int32) : f_X8_layLeft_L81 kx152 (n + 1) σ x1 x2 = ((if (σ.1 9 2) ≤ x2 then (kx152 σ x1) else (f_X8_layLeft_L91 x2 (fun σ_146 x1_146 => (f_X8_layLeft_L81 kx152 n σ_146 x1_146 (x2 + 1))) FU σ x1 0))) := rfl
def f_X8_layLeft_L73 : Nat → SR → Int32 → Option SR
  | 0, _, _ => none
  | n + 1, σ, x1 =>
  (if x1 = 0 then (some σ) else (f_X8_layLeft_L81 (fun σ_152 x1_152 => (f_X8_layLeft_L73 n σ_152 x1_152)) FU σ 0 0))
theorem f_X8_layLeft_L73_s (n : Nat) (σ : SR) (x1 : Int32) : f_X8_layLeft_L73 (n + 1) σ x1 = ((if x1 = 0 then (some σ) else (f_X8_layLeft_L81 (fun σ_152 x1_152 => (f_X8_layLeft_L73 n σ_152 x1_152)) FU σ 0 0))) := rfl
def f_X8_layLeft (σ : SR)  : Option SR :=
  ((f_X8_laySlots σ).bind fun σ1 => (f_X8_layLeft_L6 (fun σ_71 => (f_X8_layLeft_L73 FU σ_71 1)) FU σ1 0))
section SE
variable {p : Program} {l : Launch} {e : Env} {s : State} {m : MethodId} {args : Array Value} {below : List Frame} {meth : Method} {c : Code} {D : va_G} {cI cZ : ClassId} {A : Nat → Prop} {ad : Nat → Nat}
set_option maxRecDepth 100000 in
set_option maxHeartbeats 4000000 in
theorem j_X8_layLeft_L23 (C0 : Cx D (tyA cI cZ) RX8 cX8_layLeft 4 none p s m args meth c) (x1 : Int32) (kx65 : SR → Option SR) (hkx65 : ∀ (σ : SR), J p l e (Rm 6) s m args below meth c D A (wR ad cI cZ) 4 (QV D A (wR ad cI cZ)) (kx65 σ) σ [(0, .ref (ad 0)), (1, .int x1)] [] 65) : ∀ (n : Nat) (σ : SR) (x2 : Int32), J p l e (Rm 6) s m args below meth c D A (wR ad cI cZ) 4 (QV D A (wR ad cI cZ)) (f_X8_layLeft_L23 x1 kx65 n σ x2) σ [(0, .ref (ad 0)), (1, .int x1), (2, .int x2)] [] 23 := by
  intro n
  induction n with
  | zero => intros; exact J_none
  | succ n ih =>
    intro σ x2
    refine J_eq (f_X8_layLeft_L23_s x1 kx65 n σ x2) ?_
    refine J_iload_n (pc := 23) C0 2 dX8_layLeft_23 rfl rfl ?_
    refine J_aload_n (pc := 24) C0 0 dX8_layLeft_24 rfl rfl ?_
    refine J_get (pc := 25) (v := .ref (ad 1)) C0 0 wR_o rfl in_X8 0 (by decide) q411 rfl dX8_layLeft_25 ?_
    refine J_bipush (pc := 28) (v := (nI 16)) C0 dX8_layLeft_28 (by decide) ?_
    refine J_iald (pc := 30) C0 1 0 wR_a1 rfl dX8_layLeft_30 (fun h_30 => ?_)
    refine J_icmp_ge (pc := 31) (tgt := 65) C0 dX8_layLeft_31 (by decide) (fun h_31 => ?_) (fun h_31 => ?_)
    · refine J_sub (lv' := [(0, .ref (ad 0)), (1, .int x1)]) [0, 1] rfl ?_
      exact hkx65 σ
    · refine J_aload_n (pc := 34) C0 0 dX8_layLeft_34 rfl rfl ?_
      refine J_get (pc := 35) (v := .ref (ad 8)) C0 0 wR_o rfl in_X8 11 (by decide) q503 rfl dX8_layLeft_35 ?_
      refine J_iload_n (pc := 38) C0 1 dX8_layLeft_38 rfl rfl ?_
      refine J_dup2 (pc := 39) C0 dX8_layLeft_39 rfl rfl ?_
      refine J_iald (pc := 40) C0 8 0 wR_a8 rfl dX8_layLeft_40 (fun h_40 => ?_)
      refine J_aload_n (pc := 41) C0 0 dX8_layLeft_41 rfl rfl ?_
      refine J_iload_n (pc := 42) C0 2 dX8_layLeft_42 rfl rfl ?_
      refine J_iload_n (pc := 43) C0 1 dX8_layLeft_43 rfl rfl ?_
      refine fin_P (fun r_ h_ => run_V (As := [.int x2, .int x1]) (rest := [.int (σ.1 7 (ix x1)), .int x1, .ref (ad 8)]) (q0 := 0) C0 (c_X8_fits σ x2 x1  r_ h_) v_X8_fits q494 wR_o rfl rfl ⟨rfl, rfl⟩ (Rm_ok (by decide) (by decide)) rfl (Nat.le_of_ble_eq_true rfl) dX8_layLeft_44) (fun r44 e44 => ?_)
      refine J_if_eq (pc := 47) (tgt := 56) C0 dX8_layLeft_47 (by decide) (fun h_47 => ?_) (fun h_47 => ?_)
      · refine J_iconst (pc := 56) (v := 0) C0 dX8_layLeft_56 (by decide) ?_
        refine J_ior (pc := 57) C0 dX8_layLeft_57 ?_
        refine J_iast (pc := 58) (σ' := (rsu σ 7 (ix x1) ((σ.1 7 (ix x1)) ||| (0 : Int32)))) C0 8 0 wR_a8 rfl wR_s8 dX8_layLeft_58 (fun h_58 => ?_)
        refine J_iinc (pc := 59) (d := 1) (lv' := [(2, .int (x2 + 1)), (0, .ref (ad 0)), (1, .int x1)]) C0 2 dX8_layLeft_59 rfl (by decide) (by decide) rfl ?_
        refine J_goto (pc := 62) (tgt := 23) C0 dX8_layLeft_62 (by decide) ?_
        refine J_sub (lv' := [(0, .ref (ad 0)), (1, .int x1), (2, .int (x2 + 1))]) [1, 2, 0] rfl ?_
        exact ih (rsu σ 7 (ix x1) ((σ.1 7 (ix x1)) ||| (0 : Int32))) (x2 + 1)
      · refine J_iconst (pc := 50) (v := 1) C0 dX8_layLeft_50 (by decide) ?_
        refine J_iload_n (pc := 51) C0 2 dX8_layLeft_51 rfl rfl ?_
        refine J_ishl (pc := 52) C0 dX8_layLeft_52 ?_
        refine J_goto (pc := 53) (tgt := 57) C0 dX8_layLeft_53 (by decide) ?_
        refine J_ior (pc := 57) C0 dX8_layLeft_57 ?_
        refine J_iast (pc := 58) (σ' := (rsu σ 7 (ix x1) ((σ.1 7 (ix x1)) ||| ((1 : Int32) <<< (x2 &&& 31))))) C0 8 0 wR_a8 rfl wR_s8 dX8_layLeft_58 (fun h_58 => ?_)
        refine J_iinc (pc := 59) (d := 1) (lv' := [(2, .int (x2 + 1)), (0, .ref (ad 0)), (1, .int x1)]) C0 2 dX8_layLeft_59 rfl (by decide) (by decide) rfl ?_
        refine J_goto (pc := 62) (tgt := 23) C0 dX8_layLeft_62 (by decide) ?_
        refine J_sub (lv' := [(0, .ref (ad 0)), (1, .int x1), (2, .int (x2 + 1))]) [1, 2, 0] rfl ?_
        exact ih (rsu σ 7 (ix x1) ((σ.1 7 (ix x1)) ||| ((1 : Int32) <<< (x2 &&& 31)))) (x2 + 1)
set_option maxRecDepth 100000 in
set_option maxHeartbeats 4000000 in
theorem j_X8_layLeft_L6 (C0 : Cx D (tyA cI cZ) RX8 cX8_layLeft 4 none p s m args meth c) (kx71 : SR → Option SR) (hkx71 : ∀ (σ : SR), J p l e (Rm 6) s m args below meth c D A (wR ad cI cZ) 4 (QV D A (wR ad cI cZ)) (kx71 σ) σ [(0, .ref (ad 0))] [] 71) : ∀ (n : Nat) (σ : SR) (x1 : Int32), J p l e (Rm 6) s m args below meth c D A (wR ad cI cZ) 4 (QV D A (wR ad cI cZ)) (f_X8_layLeft_L6 kx71 n σ x1) σ [(0, .ref (ad 0)), (1, .int x1)] [] 6 := by
  intro n
  induction n with
  | zero => intros; exact J_none
  | succ n ih =>
    intro σ x1
    refine J_eq (f_X8_layLeft_L6_s kx71 n σ x1) ?_
    refine J_iload_n (pc := 6) C0 1 dX8_layLeft_6 rfl rfl ?_
    refine J_aload_n (pc := 7) C0 0 dX8_layLeft_7 rfl rfl ?_
    refine J_get (pc := 8) (v := .int (σ.1 9 2)) C0 0 wR_o rfl in_X8 6 (by decide) q395 rfl dX8_layLeft_8 ?_
    refine J_icmp_ge (pc := 11) (tgt := 71) C0 dX8_layLeft_11 (by decide) (fun h_11 => ?_) (fun h_11 => ?_)
    · refine J_sub (lv' := [(0, .ref (ad 0))]) [0] rfl ?_
      exact hkx71 σ
    · refine J_aload_n (pc := 14) C0 0 dX8_layLeft_14 rfl rfl ?_
      refine J_get (pc := 15) (v := .ref (ad 8)) C0 0 wR_o rfl in_X8 11 (by decide) q503 rfl dX8_layLeft_15 ?_
      refine J_iload_n (pc := 18) C0 1 dX8_layLeft_18 rfl rfl ?_
      refine J_iconst (pc := 19) (v := 0) C0 dX8_layLeft_19 (by decide) ?_
      refine J_iast (pc := 20) (σ' := (rsu σ 7 (ix x1) 0)) C0 8 0 wR_a8 rfl wR_s8 dX8_layLeft_20 (fun h_20 => ?_)
      refine J_iconst (pc := 21) (v := 0) C0 dX8_layLeft_21 (by decide) ?_
      refine J_istore_n (pc := 22) (lv' := [(2, .int 0), (0, .ref (ad 0)), (1, .int x1)]) C0 dX8_layLeft_22 rfl (by decide) rfl ?_
      refine J_sub (lv' := [(0, .ref (ad 0)), (1, .int x1), (2, .int 0)]) [1, 2, 0] rfl ?_
      refine j_X8_layLeft_L23 C0 x1 _ (fun σ_65 => ?_) FU (rsu σ 7 (ix x1) 0) 0
      refine J_iinc (pc := 65) (d := 1) (lv' := [(1, .int (x1 + 1)), (0, .ref (ad 0))]) C0 1 dX8_layLeft_65 rfl (by decide) (by decide) rfl ?_
      refine J_goto (pc := 68) (tgt := 6) C0 dX8_layLeft_68 (by decide) ?_
      refine J_sub (lv' := [(0, .ref (ad 0)), (1, .int (x1 + 1))]) [1, 0] rfl ?_
      exact ih σ_65 (x1 + 1)
set_option maxRecDepth 100000 in
set_option maxHeartbeats 4000000 in
theorem j_X8_layLeft_L91 (C0 : Cx D (tyA cI cZ) RX8 cX8_layLeft 4 none p s m args meth c) (x2 : Int32) (kx146 : SR → Int32 → Option SR) (hkx146 : ∀ (σ : SR) (x1 : Int32), J p l e (Rm 6) s m args below meth c D A (wR ad cI cZ) 4 (QV D A (wR ad cI cZ)) (kx146 σ x1) σ [(0, .ref (ad 0)), (1, .int x1), (2, .int x2)] [] 146) : ∀ (n : Nat) (σ : SR) (x1 : Int32) (x3 : Int32), J p l e (Rm 6) s m args below meth c D A (wR ad cI cZ) 4 (QV D A (wR ad cI cZ)) (f_X8_layLeft_L91 x2 kx146 n σ x1 x3) σ [(0, .ref (ad 0)), (1, .int x1), (2, .int x2), (3, .int x3)] [] 91 := by
  intro n
  induction n with
  | zero => intros; exact J_none
  | succ n ih =>
    intro σ x1 x3
    refine J_eq (f_X8_layLeft_L91_s x2 kx146 n σ x1 x3) ?_
    refine J_iload_n (pc := 91) C0 3 dX8_layLeft_91 rfl rfl ?_
    refine J_aload_n (pc := 92) C0 0 dX8_layLeft_92 rfl rfl ?_
    refine J_get (pc := 93) (v := .ref (ad 1)) C0 0 wR_o rfl in_X8 0 (by decide) q411 rfl dX8_layLeft_93 ?_
    refine J_bipush (pc := 96) (v := (nI 16)) C0 dX8_layLeft_96 (by decide) ?_
    refine J_iald (pc := 98) C0 1 0 wR_a1 rfl dX8_layLeft_98 (fun h_98 => ?_)
    refine J_icmp_ge (pc := 99) (tgt := 146) C0 dX8_layLeft_99 (by decide) (fun h_99 => ?_) (fun h_99 => ?_)
    · refine J_sub (lv' := [(0, .ref (ad 0)), (1, .int x1), (2, .int x2)]) [0, 1, 2] rfl ?_
      exact hkx146 σ x1
    · refine J_aload_n (pc := 102) C0 0 dX8_layLeft_102 rfl rfl ?_
      refine J_get (pc := 103) (v := .ref (ad 8)) C0 0 wR_o rfl in_X8 11 (by decide) q503 rfl dX8_layLeft_103 ?_
      refine J_iload_n (pc := 106) C0 2 dX8_layLeft_106 rfl rfl ?_
      refine J_iald (pc := 107) C0 8 0 wR_a8 rfl dX8_layLeft_107 (fun h_107 => ?_)
      refine J_iload_n (pc := 108) C0 3 dX8_layLeft_108 rfl rfl ?_
      refine fin_P (fun r_ h_ => run_S (As := [.int (σ.1 7 (ix x2)), .int x3]) (rest := []) C0 (c_X8_has σ (σ.1 7 (ix x2)) x3  r_ h_) v_X8_has q447 rfl ⟨rfl, rfl⟩ (Rm_ok (by decide) (by decide)) rfl (Nat.le_of_ble_eq_true rfl) dX8_layLeft_109) (fun r109 e109 => ?_)
      refine J_if_eq (pc := 112) (tgt := 140) C0 dX8_layLeft_112 (by decide) (fun h_112 => ?_) (fun h_112 => ?_)
      · refine J_iinc (pc := 140) (d := 1) (lv' := [(3, .int (x3 + 1)), (0, .ref (ad 0)), (1, .int x1), (2, .int x2)]) C0 3 dX8_layLeft_140 rfl (by decide) (by decide) rfl ?_
        refine J_goto (pc := 143) (tgt := 91) C0 dX8_layLeft_143 (by decide) ?_
        refine J_sub (lv' := [(0, .ref (ad 0)), (1, .int x1), (2, .int x2), (3, .int (x3 + 1))]) [1, 2, 3, 0] rfl ?_
        exact ih σ x1 (x3 + 1)
      · refine J_aload_n (pc := 115) C0 0 dX8_layLeft_115 rfl rfl ?_
        refine J_iload_n (pc := 116) C0 3 dX8_layLeft_116 rfl rfl ?_
        refine J_iload_n (pc := 117) C0 2 dX8_layLeft_117 rfl rfl ?_
        refine fin_P (fun r_ h_ => run_V (As := [.int x3, .int x2]) (rest := []) (q0 := 0) C0 (c_X8_stays σ x3 x2  r_ h_) v_X8_stays q531 wR_o rfl rfl ⟨rfl, rfl⟩ (Rm_ok (by decide) (by decide)) rfl (Nat.le_of_ble_eq_true rfl) dX8_layLeft_118) (fun r118 e118 => ?_)
        refine J_if_ne (pc := 121) (tgt := 140) C0 dX8_layLeft_121 (by decide) (fun h_121 => ?_) (fun h_121 => ?_)
        · refine J_iinc (pc := 140) (d := 1) (lv' := [(3, .int (x3 + 1)), (0, .ref (ad 0)), (1, .int x1), (2, .int x2)]) C0 3 dX8_layLeft_140 rfl (by decide) (by decide) rfl ?_
          refine J_goto (pc := 143) (tgt := 91) C0 dX8_layLeft_143 (by decide) ?_
          refine J_sub (lv' := [(0, .ref (ad 0)), (1, .int x1), (2, .int x2), (3, .int (x3 + 1))]) [1, 2, 3, 0] rfl ?_
          exact ih σ x1 (x3 + 1)
        · refine J_aload_n (pc := 124) C0 0 dX8_layLeft_124 rfl rfl ?_
          refine J_get (pc := 125) (v := .ref (ad 8)) C0 0 wR_o rfl in_X8 11 (by decide) q503 rfl dX8_layLeft_125 ?_
          refine J_iload_n (pc := 128) C0 2 dX8_layLeft_128 rfl rfl ?_
          refine J_dup2 (pc := 129) C0 dX8_layLeft_129 rfl rfl ?_
          refine J_iald (pc := 130) C0 8 0 wR_a8 rfl dX8_layLeft_130 (fun h_130 => ?_)
          refine J_iconst (pc := 131) (v := 1) C0 dX8_layLeft_131 (by decide) ?_
          refine J_iload_n (pc := 132) C0 3 dX8_layLeft_132 rfl rfl ?_
          refine J_ishl (pc := 133) C0 dX8_layLeft_133 ?_
          refine J_iconst (pc := 134) (v := (-1)) C0 dX8_layLeft_134 (by decide) ?_
          refine J_ixor (pc := 135) C0 dX8_layLeft_135 ?_
          refine J_iand (pc := 136) C0 dX8_layLeft_136 ?_
          refine J_iast (pc := 137) (σ' := (rsu σ 7 (ix x2) ((σ.1 7 (ix x2)) &&& (((1 : Int32) <<< (x3 &&& 31)) ^^^ (-1 : Int32))))) C0 8 0 wR_a8 rfl wR_s8 dX8_layLeft_137 (fun h_137 => ?_)
          refine J_iconst (pc := 138) (v := 1) C0 dX8_layLeft_138 (by decide) ?_
          refine J_istore_n (pc := 139) (lv' := [(1, .int 1), (0, .ref (ad 0)), (2, .int x2), (3, .int x3)]) C0 dX8_layLeft_139 rfl (by decide) rfl ?_
          refine J_iinc (pc := 140) (d := 1) (lv' := [(3, .int (x3 + 1)), (1, .int 1), (0, .ref (ad 0)), (2, .int x2)]) C0 3 dX8_layLeft_140 rfl (by decide) (by decide) rfl ?_
          refine J_goto (pc := 143) (tgt := 91) C0 dX8_layLeft_143 (by decide) ?_
          refine J_sub (lv' := [(0, .ref (ad 0)), (1, .int 1), (2, .int x2), (3, .int (x3 + 1))]) [2, 1, 3, 0] rfl ?_
          exact ih (rsu σ 7 (ix x2) ((σ.1 7 (ix x2)) &&& (((1 : Int32) <<< (x3 &&& 31)) ^^^ (-1 : Int32)))) 1 (x3 + 1)
set_option maxRecDepth 100000 in
set_option maxHeartbeats 4000000 in
theorem j_X8_layLeft_L81 (C0 : Cx D (tyA cI cZ) RX8 cX8_layLeft 4 none p s m args meth c) (kx152 : SR → Int32 → Option SR) (hkx152 : ∀ (σ : SR) (x1 : Int32), J p l e (Rm 6) s m args below meth c D A (wR ad cI cZ) 4 (QV D A (wR ad cI cZ)) (kx152 σ x1) σ [(0, .ref (ad 0)), (1, .int x1)] [] 152) : ∀ (n : Nat) (σ : SR) (x1 : Int32) (x2 : Int32), J p l e (Rm 6) s m args below meth c D A (wR ad cI cZ) 4 (QV D A (wR ad cI cZ)) (f_X8_layLeft_L81 kx152 n σ x1 x2) σ [(0, .ref (ad 0)), (1, .int x1), (2, .int x2)] [] 81 := by
  intro n
  induction n with
  | zero => intros; exact J_none
  | succ n ih =>
    intro σ x1 x2
    refine J_eq (f_X8_layLeft_L81_s kx152 n σ x1 x2) ?_
    refine J_iload_n (pc := 81) C0 2 dX8_layLeft_81 rfl rfl ?_
    refine J_aload_n (pc := 82) C0 0 dX8_layLeft_82 rfl rfl ?_
    refine J_get (pc := 83) (v := .int (σ.1 9 2)) C0 0 wR_o rfl in_X8 6 (by decide) q395 rfl dX8_layLeft_83 ?_
    refine J_icmp_ge (pc := 86) (tgt := 152) C0 dX8_layLeft_86 (by decide) (fun h_86 => ?_) (fun h_86 => ?_)
    · refine J_sub (lv' := [(0, .ref (ad 0)), (1, .int x1)]) [0, 1] rfl ?_
      exact hkx152 σ x1
    · refine J_iconst (pc := 89) (v := 0) C0 dX8_layLeft_89 (by decide) ?_
      refine J_istore_n (pc := 90) (lv' := [(3, .int 0), (0, .ref (ad 0)), (1, .int x1), (2, .int x2)]) C0 dX8_layLeft_90 rfl (by decide) rfl ?_
      refine J_sub (lv' := [(0, .ref (ad 0)), (1, .int x1), (2, .int x2), (3, .int 0)]) [1, 2, 3, 0] rfl ?_
      refine j_X8_layLeft_L91 C0 x2 _ (fun σ_146 x1_146 => ?_) FU σ x1 0
      refine J_iinc (pc := 146) (d := 1) (lv' := [(2, .int (x2 + 1)), (0, .ref (ad 0)), (1, .int x1_146)]) C0 2 dX8_layLeft_146 rfl (by decide) (by decide) rfl ?_
      refine J_goto (pc := 149) (tgt := 81) C0 dX8_layLeft_149 (by decide) ?_
      refine J_sub (lv' := [(0, .ref (ad 0)), (1, .int x1_146), (2, .int (x2 + 1))]) [1, 2, 0] rfl ?_
      exact ih σ_146 x1_146 (x2 + 1)
set_option maxRecDepth 100000 in
set_option maxHeartbeats 4000000 in
theorem j_X8_layLeft_L73 (C0 : Cx D (tyA cI cZ) RX8 cX8_layLeft 4 none p s m args meth c) : ∀ (n : Nat) (σ : SR) (x1 : Int32), J p l e (Rm 6) s m args below meth c D A (wR ad cI cZ) 4 (QV D A (wR ad cI cZ)) (f_X8_layLeft_L73 n σ x1) σ [(0, .ref (ad 0)), (1, .int x1)] [] 73 := by
  intro n
  induction n with
  | zero => intros; exact J_none
  | succ n ih =>
    intro σ x1
    refine J_eq (f_X8_layLeft_L73_s  n σ x1) ?_
    refine J_iload_n (pc := 73) C0 1 dX8_layLeft_73 rfl rfl ?_
    refine J_if_eq (pc := 74) (tgt := 155) C0 dX8_layLeft_74 (by decide) (fun h_74 => ?_) (fun h_74 => ?_)
    · exact J_vret C0 dX8_layLeft_155
    · refine J_iconst (pc := 77) (v := 0) C0 dX8_layLeft_77 (by decide) ?_
      refine J_istore_n (pc := 78) (lv' := [(1, .int 0), (0, .ref (ad 0))]) C0 dX8_layLeft_78 rfl (by decide) rfl ?_
      refine J_iconst (pc := 79) (v := 0) C0 dX8_layLeft_79 (by decide) ?_
      refine J_istore_n (pc := 80) (lv' := [(2, .int 0), (1, .int 0), (0, .ref (ad 0))]) C0 dX8_layLeft_80 rfl (by decide) rfl ?_
      refine J_sub (lv' := [(0, .ref (ad 0)), (1, .int 0), (2, .int 0)]) [2, 1, 0] rfl ?_
      refine j_X8_layLeft_L81 C0 _ (fun σ_152 x1_152 => ?_) FU σ 0 0
      refine J_goto (pc := 152) (tgt := 73) C0 dX8_layLeft_152 (by decide) ?_
      refine J_sub (lv' := [(0, .ref (ad 0)), (1, .int x1_152)]) [0, 1] rfl ?_
      exact ih σ_152 x1_152
set_option maxRecDepth 100000 in
set_option maxHeartbeats 4000000 in
theorem c_X8_layLeft {l : Launch} {D : va_G} {cI cZ : ClassId} {A : Nat → Prop} {ad : Nat → Nat} (σ : SR)   (r : SR) (h : f_X8_layLeft σ = some r) : Met l yX8_layLeft (.code yX8_layLeft cX8_layLeft 4 none :: wG) (Rm 6) (PreW D (tyA cI cZ) A (wR ad cI cZ) [.ref (ad 0)] σ) (QV D A (wR ad cI cZ) r) 0 0 A := by
  refine met_of (M := f_X8_layLeft σ) (Qc := (QV D A (wR ad cI cZ))) (by decide) (Nat.le_of_ble_eq_true rfl) h (fun p e s m below meth c C0 => ?_)
  generalize hargs : ([.ref (ad 0)] : List Value).toArray = args at C0 ⊢
  have C0 : Cx D (tyA cI cZ) RX8 cX8_layLeft 4 none p s m args meth c := C0
  refine J_sub (lv' := [(0, .ref (ad 0))]) [0] rfl ?_
  unfold f_X8_layLeft
  refine J_aload_n (pc := 0) C0 0 dX8_layLeft_0 rfl rfl ?_
  refine fin_V (fun r_ h_ => run_V (As := []) (rest := []) (q0 := 0) C0 (c_X8_laySlots σ   r_ h_) v_X8_laySlots q450 wR_o rfl rfl ⟨rfl, rfl⟩ (Rm_ok (by decide) (by decide)) rfl (Nat.le_of_ble_eq_true rfl) dX8_layLeft_1) (fun σ1 e1 => ?_)
  refine J_iconst (pc := 4) (v := 0) C0 dX8_layLeft_4 (by decide) ?_
  refine J_istore_n (pc := 5) (lv' := [(1, .int 0), (0, .ref (ad 0))]) C0 dX8_layLeft_5 rfl (by decide) rfl ?_
  refine J_sub (lv' := [(0, .ref (ad 0)), (1, .int 0)]) [1, 0] rfl ?_
  refine j_X8_layLeft_L6 C0 _ (fun σ_71 => ?_) FU σ1 0
  refine J_iconst (pc := 71) (v := 1) C0 dX8_layLeft_71 (by decide) ?_
  refine J_istore_n (pc := 72) (lv' := [(1, .int 1), (0, .ref (ad 0))]) C0 dX8_layLeft_72 rfl (by decide) rfl ?_
  refine J_sub (lv' := [(0, .ref (ad 0)), (1, .int 1)]) [1, 0] rfl ?_
  exact j_X8_layLeft_L73 C0 FU σ_71 1
end SE

def f_X8_with (σ : SR) (x1 : Int32) (x2 : Int32) : Option (Int32 × SR) :=
  (bnd (f_X8_isSlot σ x1) fun r2 σ2 => (if r2 = 0 then (some ((-1000000001), σ2)) else ((f_X8_isWord σ2 x2).bind fun r10 => (if r10 = 0 then (some ((-1000000001), σ2)) else ((f_X8_all σ2).bind fun r21 => (bnd (f_X8_fillings σ2 r21 (nI 999) x1 x2) fun r29 σ29 => (some (r29, σ29))))))))
section SE
variable {p : Program} {l : Launch} {e : Env} {s : State} {m : MethodId} {args : Array Value} {below : List Frame} {meth : Method} {c : Code} {D : va_G} {cI cZ : ClassId} {A : Nat → Prop} {ad : Nat → Nat}
set_option maxRecDepth 100000 in
set_option maxHeartbeats 4000000 in
theorem c_X8_with {l : Launch} {D : va_G} {cI cZ : ClassId} {A : Nat → Prop} {ad : Nat → Nat} (σ : SR) (x1 : Int32) (x2 : Int32)  (r : (Int32 × SR)) (h : f_X8_with σ x1 x2 = some r) : Met l yX8_with (.code yX8_with cX8_with 3 (some .int) :: wG) (Rm 6) (PreW D (tyA cI cZ) A (wR ad cI cZ) [.ref (ad 0), .int x1, .int x2] σ) (QI D A (wR ad cI cZ) r) 0 0 A := by
  refine met_of (M := f_X8_with σ x1 x2) (Qc := (QI D A (wR ad cI cZ))) (by decide) (Nat.le_of_ble_eq_true rfl) h (fun p e s m below meth c C0 => ?_)
  generalize hargs : ([.ref (ad 0), .int x1, .int x2] : List Value).toArray = args at C0 ⊢
  have C0 : Cx D (tyA cI cZ) RX8 cX8_with 3 (some .int) p s m args meth c := C0
  refine J_sub (lv' := [(0, .ref (ad 0)), (1, .int x1), (2, .int x2)]) [0, 1, 2] rfl ?_
  unfold f_X8_with
  refine J_aload_n (pc := 0) C0 0 dX8_with_0 rfl rfl ?_
  refine J_iload_n (pc := 1) C0 1 dX8_with_1 rfl rfl ?_
  refine fin_I (fun r_ h_ => run_V (As := [.int x1]) (rest := []) (q0 := 0) C0 (c_X8_isSlot σ x1  r_ h_) v_X8_isSlot q504 wR_o rfl rfl ⟨rfl, rfl⟩ (Rm_ok (by decide) (by decide)) rfl (Nat.le_of_ble_eq_true rfl) dX8_with_2) (fun r2 σ2 e2 => ?_)
  refine J_if_eq (pc := 5) (tgt := 16) C0 dX8_with_5 (by decide) (fun h_5 => ?_) (fun h_5 => ?_)
  · refine J_ldc (pc := 16) C0 q430 dX8_with_16 ?_
    exact J_iret C0 dX8_with_18
  · refine J_aload_n (pc := 8) C0 0 dX8_with_8 rfl rfl ?_
    refine J_iload_n (pc := 9) C0 2 dX8_with_9 rfl rfl ?_
    refine fin_P (fun r_ h_ => run_V (As := [.int x2]) (rest := []) (q0 := 0) C0 (c_X8_isWord σ2 x2  r_ h_) v_X8_isWord q470 wR_o rfl rfl ⟨rfl, rfl⟩ (Rm_ok (by decide) (by decide)) rfl (Nat.le_of_ble_eq_true rfl) dX8_with_10) (fun r10 e10 => ?_)
    refine J_if_ne (pc := 13) (tgt := 19) C0 dX8_with_13 (by decide) (fun h_13 => ?_) (fun h_13 => ?_)
    · refine J_aload_n (pc := 19) C0 0 dX8_with_19 rfl rfl ?_
      refine J_aload_n (pc := 20) C0 0 dX8_with_20 rfl rfl ?_
      refine fin_P (fun r_ h_ => run_V (As := []) (rest := [.ref (ad 0)]) (q0 := 0) C0 (c_X8_all σ2   r_ h_) v_X8_all q520 wR_o rfl rfl ⟨rfl, rfl⟩ (Rm_ok (by decide) (by decide)) rfl (Nat.le_of_ble_eq_true rfl) dX8_with_21) (fun r21 e21 => ?_)
      refine J_sipush (pc := 24) (v := (nI 999)) C0 dX8_with_24 (by decide) ?_
      refine J_iload_n (pc := 27) C0 1 dX8_with_27 rfl rfl ?_
      refine J_iload_n (pc := 28) C0 2 dX8_with_28 rfl rfl ?_
      refine fin_I (fun r_ h_ => run_V (As := [.int r21, .int (nI 999), .int x1, .int x2]) (rest := []) (q0 := 0) C0 (c_X8_fillings σ2 r21 (nI 999) x1 x2  r_ h_) v_X8_fillings q524 wR_o rfl rfl ⟨rfl, rfl⟩ (Rm_ok (by decide) (by decide)) rfl (Nat.le_of_ble_eq_true rfl) dX8_with_29) (fun r29 σ29 e29 => ?_)
      exact J_iret C0 dX8_with_32
    · refine J_ldc (pc := 16) C0 q430 dX8_with_16 ?_
      exact J_iret C0 dX8_with_18
end SE

def f_X8_canBe_L50 (x1 : Int32) (x2 : Int32) (x4 : Int32) (kx105 : SR → Int32 → Option (Int32 × SR)) : Nat → SR → Int32 → Int32 → Option (Int32 × SR)
  | 0, _, _, _ => none
  | n + 1, σ, x5, x6 =>
  (if inb (nI 16) 33 = true then (if (σ.1 0 (ix (nI 16))) ≤ x6 then (kx105 σ x5) else (if inb x4 8 = true then ((f_X8_has (σ.1 7 (ix x4)) x6).bind fun r73 => (if r73 = 0 then (f_X8_canBe_L50 x1 x2 x4 kx105 n σ (x5 ||| (0 : Int32)) (x6 + 1)) else ((f_X8_letterIn σ x6 x4 x1).bind fun r86 => (f_X8_canBe_L50 x1 x2 x4 kx105 n σ (x5 ||| ((1 : Int32) <<< ((r86 - 1) &&& 31))) (x6 + 1))))) else none)) else none)
theorem f_X8_canBe_L50_s (x1 : Int32) (x2 : Int32) (x4 : Int32) (kx105 : SR → Int32 → Option (Int32 × SR)) (n : Nat) (σ : SR) (x5 : Int32) (x6 : Int32) : f_X8_canBe_L50 x1 x2 x4 kx105 (n + 1) σ x5 x6 = ((if inb (nI 16) 33 = true then (if (σ.1 0 (ix (nI 16))) ≤ x6 then (kx105 σ x5) else (if inb x4 8 = true then ((f_X8_has (σ.1 7 (ix x4)) x6).bind fun r73 => (if r73 = 0 then (f_X8_canBe_L50 x1 x2 x4 kx105 n σ (x5 ||| (0 : Int32)) (x6 + 1)) else ((f_X8_letterIn σ x6 x4 x1).bind fun r86 => (f_X8_canBe_L50 x1 x2 x4 kx105 n σ (x5 ||| ((1 : Int32) <<< ((r86 - 1) &&& 31))) (x6 + 1))))) else none)) else none)) := rfl
def f_X8_canBe_L24 (x1 : Int32) (kx118 : SR → Int32 → Int32 → Option (Int32 × SR)) : Nat → SR → Int32 → Int32 → Int32 → Option (Int32 × SR)
  | 0, _, _, _, _ => none
  | n + 1, σ, x2, x3, x4 =>
  (if (σ.1 9 2) ≤ x4 then (kx118 σ x2 x3) else ((f_X8_placeIn σ x4 x1).bind fun r37 => (if r37 = (-1) then (f_X8_canBe_L24 x1 kx118 n σ x2 x3 (x4 + 1)) else (f_X8_canBe_L50 x1 x2 x4 (fun σ_105 x5_105 => (f_X8_canBe_L24 x1 kx118 n σ_105 (x2 &&& x5_105) 0 (x4 + 1))) FU σ 0 0))))
theorem f_X8_canBe_L24_s (x1 : Int32) (kx118 : SR → Int32 → Int32 → Option (Int32 × SR)) (n : Nat) (σ : SR) (x2 : Int32) (x3 : Int32) (x4 : Int32) : f_X8_canBe_L24 x1 kx118 (n + 1) σ x2 x3 x4 = ((if (σ.1 9 2) ≤ x4 then (kx118 σ x2 x3) else ((f_X8_placeIn σ x4 x1).bind fun r37 => (if r37 = (-1) then (f_X8_canBe_L24 x1 kx118 n σ x2 x3 (x4 + 1)) else (f_X8_canBe_L50 x1 x2 x4 (fun σ_105 x5_105 => (f_X8_canBe_L24 x1 kx118 n σ_105 (x2 &&& x5_105) 0 (x4 + 1))) FU σ 0 0))))) := rfl
def f_X8_canBe (σ : SR) (x1 : Int32) : Option (Int32 × SR) :=
  (if inb x1 33 = true then (if (σ.1 0 (ix x1)) = (-1) then (some (0, σ)) else ((f_X8_layLeft σ).bind fun σ13 => (f_X8_canBe_L24 x1 (fun σ_118 x2_118 x3_118 => (if x3_118 = 0 then (some (x2_118, σ_118)) else (if inb x1 33 = true then (if (σ_118.1 0 (ix x1)) ≤ 0 then (some (x2_118, σ_118)) else (if inb x1 33 = true then (some (((1 : Int32) <<< (((σ_118.1 0 (ix x1)) - 1) &&& 31)), σ_118)) else none)) else none))) FU σ13 (nI 63) 1 0))) else none)
section SE
variable {p : Program} {l : Launch} {e : Env} {s : State} {m : MethodId} {args : Array Value} {below : List Frame} {meth : Method} {c : Code} {D : va_G} {cI cZ : ClassId} {A : Nat → Prop} {ad : Nat → Nat}
set_option maxRecDepth 100000 in
set_option maxHeartbeats 4000000 in
theorem j_X8_canBe_L50 (C0 : Cx D (tyA cI cZ) RX8 cX8_canBe 7 (some .int) p s m args meth c) (x1 : Int32) (x2 : Int32) (x4 : Int32) (kx105 : SR → Int32 → Option (Int32 × SR)) (hkx105 : ∀ (σ : SR) (x5 : Int32), J p l e (Rm 7) s m args below meth c D A (wR ad cI cZ) 7 (QI D A (wR ad cI cZ)) (kx105 σ x5) σ [(0, .ref (ad 0)), (1, .int x1), (2, .int x2), (4, .int x4), (5, .int x5)] [] 105) : ∀ (n : Nat) (σ : SR) (x5 : Int32) (x6 : Int32), J p l e (Rm 7) s m args below meth c D A (wR ad cI cZ) 7 (QI D A (wR ad cI cZ)) (f_X8_canBe_L50 x1 x2 x4 kx105 n σ x5 x6) σ [(0, .ref (ad 0)), (1, .int x1), (2, .int x2), (4, .int x4), (5, .int x5), (6, .int x6)] [] 50 := by
  intro n
  induction n with
  | zero => intros; exact J_none
  | succ n ih =>
    intro σ x5 x6
    refine J_eq (f_X8_canBe_L50_s x1 x2 x4 kx105 n σ x5 x6) ?_
    refine J_iload (pc := 50) C0 5 dX8_canBe_50 rfl ?_
    refine J_aload_n (pc := 52) C0 0 dX8_canBe_52 rfl rfl ?_
    refine J_get (pc := 53) (v := .ref (ad 1)) C0 0 wR_o rfl in_X8 0 (by decide) q411 rfl dX8_canBe_53 ?_
    refine J_bipush (pc := 56) (v := (nI 16)) C0 dX8_canBe_56 (by decide) ?_
    refine J_iald (pc := 58) C0 1 0 wR_a1 rfl dX8_canBe_58 (fun h_58 => ?_)
    refine J_icmp_ge (pc := 59) (tgt := 105) C0 dX8_canBe_59 (by decide) (fun h_59 => ?_) (fun h_59 => ?_)
    · refine J_sub (lv' := [(0, .ref (ad 0)), (1, .int x1), (2, .int x2), (4, .int x4), (5, .int x5)]) [0, 1, 2, 3, 4] rfl ?_
      exact hkx105 σ x5
    · refine J_iload (pc := 62) C0 4 dX8_canBe_62 rfl ?_
      refine J_aload_n (pc := 64) C0 0 dX8_canBe_64 rfl rfl ?_
      refine J_get (pc := 65) (v := .ref (ad 8)) C0 0 wR_o rfl in_X8 11 (by decide) q503 rfl dX8_canBe_65 ?_
      refine J_iload (pc := 68) C0 3 dX8_canBe_68 rfl ?_
      refine J_iald (pc := 70) C0 8 0 wR_a8 rfl dX8_canBe_70 (fun h_70 => ?_)
      refine J_iload (pc := 71) C0 5 dX8_canBe_71 rfl ?_
      refine fin_P (fun r_ h_ => run_S (As := [.int (σ.1 7 (ix x4)), .int x6]) (rest := [.int x5]) C0 (c_X8_has σ (σ.1 7 (ix x4)) x6  r_ h_) v_X8_has q447 rfl ⟨rfl, rfl⟩ (Rm_ok (by decide) (by decide)) rfl (Nat.le_of_ble_eq_true rfl) dX8_canBe_73) (fun r73 e73 => ?_)
      refine J_if_eq (pc := 76) (tgt := 95) C0 dX8_canBe_76 (by decide) (fun h_76 => ?_) (fun h_76 => ?_)
      · refine J_iconst (pc := 95) (v := 0) C0 dX8_canBe_95 (by decide) ?_
        refine J_ior (pc := 96) C0 dX8_canBe_96 ?_
        refine J_istore (pc := 97) (lv' := [(5, .int (x5 ||| (0 : Int32))), (0, .ref (ad 0)), (1, .int x1), (2, .int x2), (4, .int x4), (6, .int x6)]) C0 dX8_canBe_97 (by decide) rfl ?_
        refine J_iinc (pc := 99) (d := 1) (lv' := [(6, .int (x6 + 1)), (5, .int (x5 ||| (0 : Int32))), (0, .ref (ad 0)), (1, .int x1), (2, .int x2), (4, .int x4)]) C0 5 dX8_canBe_99 rfl (by decide) (by decide) rfl ?_
        refine J_goto (pc := 102) (tgt := 50) C0 dX8_canBe_102 (by decide) ?_
        refine J_sub (lv' := [(0, .ref (ad 0)), (1, .int x1), (2, .int x2), (4, .int x4), (5, .int (x5 ||| (0 : Int32))), (6, .int (x6 + 1))]) [2, 3, 4, 5, 1, 0] rfl ?_
        exact ih σ (x5 ||| (0 : Int32)) (x6 + 1)
      · refine J_iconst (pc := 79) (v := 1) C0 dX8_canBe_79 (by decide) ?_
        refine J_aload_n (pc := 80) C0 0 dX8_canBe_80 rfl rfl ?_
        refine J_iload (pc := 81) C0 5 dX8_canBe_81 rfl ?_
        refine J_iload (pc := 83) C0 3 dX8_canBe_83 rfl ?_
        refine J_iload_n (pc := 85) C0 1 dX8_canBe_85 rfl rfl ?_
        refine fin_P (fun r_ h_ => run_V (As := [.int x6, .int x4, .int x1]) (rest := [.int 1, .int x5]) (q0 := 0) C0 (c_X8_letterIn σ x6 x4 x1  r_ h_) v_X8_letterIn q499 wR_o rfl rfl ⟨rfl, rfl⟩ (Rm_ok (by decide) (by decide)) rfl (Nat.le_of_ble_eq_true rfl) dX8_canBe_86) (fun r86 e86 => ?_)
        refine J_iconst (pc := 89) (v := 1) C0 dX8_canBe_89 (by decide) ?_
        refine J_isub (pc := 90) C0 dX8_canBe_90 ?_
        refine J_ishl (pc := 91) C0 dX8_canBe_91 ?_
        refine J_goto (pc := 92) (tgt := 96) C0 dX8_canBe_92 (by decide) ?_
        refine J_ior (pc := 96) C0 dX8_canBe_96 ?_
        refine J_istore (pc := 97) (lv' := [(5, .int (x5 ||| ((1 : Int32) <<< ((r86 - 1) &&& 31)))), (0, .ref (ad 0)), (1, .int x1), (2, .int x2), (4, .int x4), (6, .int x6)]) C0 dX8_canBe_97 (by decide) rfl ?_
        refine J_iinc (pc := 99) (d := 1) (lv' := [(6, .int (x6 + 1)), (5, .int (x5 ||| ((1 : Int32) <<< ((r86 - 1) &&& 31)))), (0, .ref (ad 0)), (1, .int x1), (2, .int x2), (4, .int x4)]) C0 5 dX8_canBe_99 rfl (by decide) (by decide) rfl ?_
        refine J_goto (pc := 102) (tgt := 50) C0 dX8_canBe_102 (by decide) ?_
        refine J_sub (lv' := [(0, .ref (ad 0)), (1, .int x1), (2, .int x2), (4, .int x4), (5, .int (x5 ||| ((1 : Int32) <<< ((r86 - 1) &&& 31)))), (6, .int (x6 + 1))]) [2, 3, 4, 5, 1, 0] rfl ?_
        exact ih σ (x5 ||| ((1 : Int32) <<< ((r86 - 1) &&& 31))) (x6 + 1)
set_option maxRecDepth 100000 in
set_option maxHeartbeats 4000000 in
theorem j_X8_canBe_L24 (C0 : Cx D (tyA cI cZ) RX8 cX8_canBe 7 (some .int) p s m args meth c) (x1 : Int32) (kx118 : SR → Int32 → Int32 → Option (Int32 × SR)) (hkx118 : ∀ (σ : SR) (x2 : Int32) (x3 : Int32), J p l e (Rm 7) s m args below meth c D A (wR ad cI cZ) 7 (QI D A (wR ad cI cZ)) (kx118 σ x2 x3) σ [(0, .ref (ad 0)), (1, .int x1), (2, .int x2), (3, .int x3)] [] 118) : ∀ (n : Nat) (σ : SR) (x2 : Int32) (x3 : Int32) (x4 : Int32), J p l e (Rm 7) s m args below meth c D A (wR ad cI cZ) 7 (QI D A (wR ad cI cZ)) (f_X8_canBe_L24 x1 kx118 n σ x2 x3 x4) σ [(0, .ref (ad 0)), (1, .int x1), (2, .int x2), (3, .int x3), (4, .int x4)] [] 24 := by
  intro n
  induction n with
  | zero => intros; exact J_none
  | succ n ih =>
    intro σ x2 x3 x4
    refine J_eq (f_X8_canBe_L24_s x1 kx118 n σ x2 x3 x4) ?_
    refine J_iload (pc := 24) C0 4 dX8_canBe_24 rfl ?_
    refine J_aload_n (pc := 26) C0 0 dX8_canBe_26 rfl rfl ?_
    refine J_get (pc := 27) (v := .int (σ.1 9 2)) C0 0 wR_o rfl in_X8 6 (by decide) q395 rfl dX8_canBe_27 ?_
    refine J_icmp_ge (pc := 30) (tgt := 118) C0 dX8_canBe_30 (by decide) (fun h_30 => ?_) (fun h_30 => ?_)
    · refine J_sub (lv' := [(0, .ref (ad 0)), (1, .int x1), (2, .int x2), (3, .int x3)]) [0, 1, 2, 3] rfl ?_
      exact hkx118 σ x2 x3
    · refine J_aload_n (pc := 33) C0 0 dX8_canBe_33 rfl rfl ?_
      refine J_iload (pc := 34) C0 4 dX8_canBe_34 rfl ?_
      refine J_iload_n (pc := 36) C0 1 dX8_canBe_36 rfl rfl ?_
      refine fin_P (fun r_ h_ => run_V (As := [.int x4, .int x1]) (rest := []) (q0 := 0) C0 (c_X8_placeIn σ x4 x1  r_ h_) v_X8_placeIn q454 wR_o rfl rfl ⟨rfl, rfl⟩ (Rm_ok (by decide) (by decide)) rfl (Nat.le_of_ble_eq_true rfl) dX8_canBe_37) (fun r37 e37 => ?_)
      refine J_iconst (pc := 40) (v := (-1)) C0 dX8_canBe_40 (by decide) ?_
      refine J_icmp_eq (pc := 41) (tgt := 112) C0 dX8_canBe_41 (by decide) (fun h_41 => ?_) (fun h_41 => ?_)
      · refine J_iinc (pc := 112) (d := 1) (lv' := [(4, .int (x4 + 1)), (0, .ref (ad 0)), (1, .int x1), (2, .int x2), (3, .int x3)]) C0 4 dX8_canBe_112 rfl (by decide) (by decide) rfl ?_
        refine J_goto (pc := 115) (tgt := 24) C0 dX8_canBe_115 (by decide) ?_
        refine J_sub (lv' := [(0, .ref (ad 0)), (1, .int x1), (2, .int x2), (3, .int x3), (4, .int (x4 + 1))]) [1, 2, 3, 4, 0] rfl ?_
        exact ih σ x2 x3 (x4 + 1)
      · refine J_iconst (pc := 44) (v := 0) C0 dX8_canBe_44 (by decide) ?_
        refine J_istore (pc := 45) (lv' := [(5, .int 0), (0, .ref (ad 0)), (1, .int x1), (2, .int x2), (3, .int x3), (4, .int x4)]) C0 dX8_canBe_45 (by decide) rfl ?_
        refine J_iconst (pc := 47) (v := 0) C0 dX8_canBe_47 (by decide) ?_
        refine J_istore (pc := 48) (lv' := [(6, .int 0), (5, .int 0), (0, .ref (ad 0)), (1, .int x1), (2, .int x2), (3, .int x3), (4, .int x4)]) C0 dX8_canBe_48 (by decide) rfl ?_
        refine J_sub (lv' := [(0, .ref (ad 0)), (1, .int x1), (2, .int x2), (4, .int x4), (5, .int 0), (6, .int 0)]) [2, 3, 4, 6, 1, 0] rfl ?_
        refine j_X8_canBe_L50 C0 x1 x2 x4 _ (fun σ_105 x5_105 => ?_) FU σ 0 0
        refine J_iload_n (pc := 105) C0 2 dX8_canBe_105 rfl rfl ?_
        refine J_iload (pc := 106) C0 4 dX8_canBe_106 rfl ?_
        refine J_iand (pc := 108) C0 dX8_canBe_108 ?_
        refine J_istore_n (pc := 109) (lv' := [(2, .int (x2 &&& x5_105)), (0, .ref (ad 0)), (1, .int x1), (4, .int x4), (5, .int x5_105)]) C0 dX8_canBe_109 rfl (by decide) rfl ?_
        refine J_iconst (pc := 110) (v := 0) C0 dX8_canBe_110 (by decide) ?_
        refine J_istore_n (pc := 111) (lv' := [(3, .int 0), (2, .int (x2 &&& x5_105)), (0, .ref (ad 0)), (1, .int x1), (4, .int x4), (5, .int x5_105)]) C0 dX8_canBe_111 rfl (by decide) rfl ?_
        refine J_iinc (pc := 112) (d := 1) (lv' := [(4, .int (x4 + 1)), (3, .int 0), (2, .int (x2 &&& x5_105)), (0, .ref (ad 0)), (1, .int x1), (5, .int x5_105)]) C0 4 dX8_canBe_112 rfl (by decide) (by decide) rfl ?_
        refine J_goto (pc := 115) (tgt := 24) C0 dX8_canBe_115 (by decide) ?_
        refine J_sub (lv' := [(0, .ref (ad 0)), (1, .int x1), (2, .int (x2 &&& x5_105)), (3, .int 0), (4, .int (x4 + 1))]) [3, 4, 2, 1, 0] rfl ?_
        exact ih σ_105 (x2 &&& x5_105) 0 (x4 + 1)
set_option maxRecDepth 100000 in
set_option maxHeartbeats 4000000 in
theorem c_X8_canBe {l : Launch} {D : va_G} {cI cZ : ClassId} {A : Nat → Prop} {ad : Nat → Nat} (σ : SR) (x1 : Int32)  (r : (Int32 × SR)) (h : f_X8_canBe σ x1 = some r) : Met l yX8_canBe (.code yX8_canBe cX8_canBe 7 (some .int) :: wG) (Rm 7) (PreW D (tyA cI cZ) A (wR ad cI cZ) [.ref (ad 0), .int x1] σ) (QI D A (wR ad cI cZ) r) 0 0 A := by
  refine met_of (M := f_X8_canBe σ x1) (Qc := (QI D A (wR ad cI cZ))) (by decide) (Nat.le_of_ble_eq_true rfl) h (fun p e s m below meth c C0 => ?_)
  generalize hargs : ([.ref (ad 0), .int x1] : List Value).toArray = args at C0 ⊢
  have C0 : Cx D (tyA cI cZ) RX8 cX8_canBe 7 (some .int) p s m args meth c := C0
  refine J_sub (lv' := [(0, .ref (ad 0)), (1, .int x1)]) [0, 1] rfl ?_
  unfold f_X8_canBe
  refine J_aload_n (pc := 0) C0 0 dX8_canBe_0 rfl rfl ?_
  refine J_get (pc := 1) (v := .ref (ad 1)) C0 0 wR_o rfl in_X8 0 (by decide) q411 rfl dX8_canBe_1 ?_
  refine J_iload_n (pc := 4) C0 1 dX8_canBe_4 rfl rfl ?_
  refine J_iald (pc := 5) C0 1 0 wR_a1 rfl dX8_canBe_5 (fun h_5 => ?_)
  refine J_iconst (pc := 6) (v := (-1)) C0 dX8_canBe_6 (by decide) ?_
  refine J_icmp_ne (pc := 7) (tgt := 12) C0 dX8_canBe_7 (by decide) (fun h_7 => ?_) (fun h_7 => ?_)
  · refine J_aload_n (pc := 12) C0 0 dX8_canBe_12 rfl rfl ?_
    refine fin_V (fun r_ h_ => run_V (As := []) (rest := []) (q0 := 0) C0 (c_X8_layLeft σ   r_ h_) v_X8_layLeft q535 wR_o rfl rfl ⟨rfl, rfl⟩ (Rm_ok (by decide) (by decide)) rfl (Nat.le_of_ble_eq_true rfl) dX8_canBe_13) (fun σ13 e13 => ?_)
    refine J_bipush (pc := 16) (v := (nI 63)) C0 dX8_canBe_16 (by decide) ?_
    refine J_istore_n (pc := 18) (lv' := [(2, .int (nI 63)), (0, .ref (ad 0)), (1, .int x1)]) C0 dX8_canBe_18 rfl (by decide) rfl ?_
    refine J_iconst (pc := 19) (v := 1) C0 dX8_canBe_19 (by decide) ?_
    refine J_istore_n (pc := 20) (lv' := [(3, .int 1), (2, .int (nI 63)), (0, .ref (ad 0)), (1, .int x1)]) C0 dX8_canBe_20 rfl (by decide) rfl ?_
    refine J_iconst (pc := 21) (v := 0) C0 dX8_canBe_21 (by decide) ?_
    refine J_istore (pc := 22) (lv' := [(4, .int 0), (3, .int 1), (2, .int (nI 63)), (0, .ref (ad 0)), (1, .int x1)]) C0 dX8_canBe_22 (by decide) rfl ?_
    refine J_sub (lv' := [(0, .ref (ad 0)), (1, .int x1), (2, .int (nI 63)), (3, .int 1), (4, .int 0)]) [3, 4, 2, 1, 0] rfl ?_
    refine j_X8_canBe_L24 C0 x1 _ (fun σ_118 x2_118 x3_118 => ?_) FU σ13 (nI 63) 1 0
    refine J_iload_n (pc := 118) C0 3 dX8_canBe_118 rfl rfl ?_
    refine J_if_eq (pc := 119) (tgt := 144) C0 dX8_canBe_119 (by decide) (fun h_119 => ?_) (fun h_119 => ?_)
    · refine J_iload_n (pc := 144) C0 2 dX8_canBe_144 rfl rfl ?_
      exact J_iret C0 dX8_canBe_145
    · refine J_aload_n (pc := 122) C0 0 dX8_canBe_122 rfl rfl ?_
      refine J_get (pc := 123) (v := .ref (ad 1)) C0 0 wR_o rfl in_X8 0 (by decide) q411 rfl dX8_canBe_123 ?_
      refine J_iload_n (pc := 126) C0 1 dX8_canBe_126 rfl rfl ?_
      refine J_iald (pc := 127) C0 1 0 wR_a1 rfl dX8_canBe_127 (fun h_127 => ?_)
      refine J_if_le (pc := 128) (tgt := 144) C0 dX8_canBe_128 (by decide) (fun h_128 => ?_) (fun h_128 => ?_)
      · refine J_iload_n (pc := 144) C0 2 dX8_canBe_144 rfl rfl ?_
        exact J_iret C0 dX8_canBe_145
      · refine J_iconst (pc := 131) (v := 1) C0 dX8_canBe_131 (by decide) ?_
        refine J_aload_n (pc := 132) C0 0 dX8_canBe_132 rfl rfl ?_
        refine J_get (pc := 133) (v := .ref (ad 1)) C0 0 wR_o rfl in_X8 0 (by decide) q411 rfl dX8_canBe_133 ?_
        refine J_iload_n (pc := 136) C0 1 dX8_canBe_136 rfl rfl ?_
        refine J_iald (pc := 137) C0 1 0 wR_a1 rfl dX8_canBe_137 (fun h_137 => ?_)
        refine J_iconst (pc := 138) (v := 1) C0 dX8_canBe_138 (by decide) ?_
        refine J_isub (pc := 139) C0 dX8_canBe_139 ?_
        refine J_ishl (pc := 140) C0 dX8_canBe_140 ?_
        refine J_goto (pc := 141) (tgt := 145) C0 dX8_canBe_141 (by decide) ?_
        exact J_iret C0 dX8_canBe_145
  · refine J_iconst (pc := 10) (v := 0) C0 dX8_canBe_10 (by decide) ?_
    exact J_iret C0 dX8_canBe_11
end SE

def f_X8_hardest_K78 (k8 : SR → Int32 → Int32 → Option (Int32 × SR)) (σ : SR) (x1 : Int32) (x2 : Int32) (y0 : Int32) : Option (Int32 × SR) :=
  (if 0 ≤ y0 then (k8 σ x1 (x2 + 1)) else (k8 σ x2 (x2 + 1)))
def f_X8_hardest_K52 (k8 : SR → Int32 → Int32 → Option (Int32 × SR)) (σ : SR) (x1 : Int32) (x2 : Int32) (y0 : Int32) : Option (Int32 × SR) :=
  (if y0 = 0 then ((f_X8_crossed σ x1).bind fun r59 => ((f_X8_bits r59).bind fun r62 => ((f_X8_crossed σ x2).bind fun r67 => ((f_X8_bits r67).bind fun r70 => (f_X8_hardest_K78 k8 σ x1 x2 (r62 - r70)))))) else (f_X8_hardest_K78 k8 σ x1 x2 y0))
def f_X8_hardest_L8 : Nat → SR → Int32 → Int32 → Option (Int32 × SR)
  | 0, _, _, _ => none
  | n + 1, σ, x1, x2 =>
  (if (σ.1 9 2) ≤ x2 then (some (x1, σ)) else ((f_X8_isFull σ x2).bind fun r18 => (if r18 = 0 then (if x1 = (-1) then (f_X8_hardest_K52 (f_X8_hardest_L8 n) σ x1 x2 (-1)) else (if inb x2 8 = true then ((f_X8_bits (σ.1 7 (ix x2))).bind fun r39 => (if inb x1 8 = true then ((f_X8_bits (σ.1 7 (ix x1))).bind fun r48 => (f_X8_hardest_K52 (f_X8_hardest_L8 n) σ x1 x2 (r39 - r48))) else none)) else none)) else (f_X8_hardest_L8 n σ x1 (x2 + 1)))))
theorem f_X8_hardest_L8_s (n : Nat) (σ : SR) (x1 : Int32) (x2 : Int32) : f_X8_hardest_L8 (n + 1) σ x1 x2 = ((if (σ.1 9 2) ≤ x2 then (some (x1, σ)) else ((f_X8_isFull σ x2).bind fun r18 => (if r18 = 0 then (if x1 = (-1) then (f_X8_hardest_K52 (f_X8_hardest_L8 n) σ x1 x2 (-1)) else (if inb x2 8 = true then ((f_X8_bits (σ.1 7 (ix x2))).bind fun r39 => (if inb x1 8 = true then ((f_X8_bits (σ.1 7 (ix x1))).bind fun r48 => (f_X8_hardest_K52 (f_X8_hardest_L8 n) σ x1 x2 (r39 - r48))) else none)) else none)) else (f_X8_hardest_L8 n σ x1 (x2 + 1)))))) := rfl
def f_X8_hardest (σ : SR)  : Option (Int32 × SR) :=
  ((f_X8_layLeft σ).bind fun σ1 => (f_X8_hardest_L8 FU σ1 (-1) 0))
section SE
variable {p : Program} {l : Launch} {e : Env} {s : State} {m : MethodId} {args : Array Value} {below : List Frame} {meth : Method} {c : Code} {D : va_G} {cI cZ : ClassId} {A : Nat → Prop} {ad : Nat → Nat}
set_option maxRecDepth 100000 in
set_option maxHeartbeats 4000000 in
theorem j_X8_hardest_K78 (C0 : Cx D (tyA cI cZ) RX8 cX8_hardest 4 (some .int) p s m args meth c) (k8 : SR → Int32 → Int32 → Option (Int32 × SR)) (σ : SR) (x1 : Int32) (x2 : Int32) (y0 : Int32) (hk8 : ∀ (σ : SR) (x1 : Int32) (x2 : Int32), J p l e (Rm 7) s m args below meth c D A (wR ad cI cZ) 4 (QI D A (wR ad cI cZ)) (k8 σ x1 x2) σ [(0, .ref (ad 0)), (1, .int x1), (2, .int x2)] [] 8) : J p l e (Rm 7) s m args below meth c D A (wR ad cI cZ) 4 (QI D A (wR ad cI cZ)) (f_X8_hardest_K78 k8 σ x1 x2 y0) σ [(0, .ref (ad 0)), (1, .int x1), (2, .int x2)] [.int y0] 78 := by
  unfold f_X8_hardest_K78
  refine J_istore_n (pc := 78) (lv' := [(3, .int y0), (0, .ref (ad 0)), (1, .int x1), (2, .int x2)]) C0 dX8_hardest_78 rfl (by decide) rfl ?_
  refine J_iload_n (pc := 79) C0 0 dX8_hardest_79 rfl rfl ?_
  refine J_if_ge (pc := 80) (tgt := 87) C0 dX8_hardest_80 (by decide) (fun h_80 => ?_) (fun h_80 => ?_)
  · refine J_iload_n (pc := 87) C0 2 dX8_hardest_87 rfl rfl ?_
    refine J_istore_n (pc := 88) (lv' := [(1, .int x1), (3, .int y0), (0, .ref (ad 0)), (2, .int x2)]) C0 dX8_hardest_88 rfl (by decide) rfl ?_
    refine J_iinc (pc := 89) (d := 1) (lv' := [(2, .int (x2 + 1)), (1, .int x1), (3, .int y0), (0, .ref (ad 0))]) C0 3 dX8_hardest_89 rfl (by decide) (by decide) rfl ?_
    refine J_goto (pc := 92) (tgt := 8) C0 dX8_hardest_92 (by decide) ?_
    refine J_sub (lv' := [(0, .ref (ad 0)), (1, .int x1), (2, .int (x2 + 1))]) [3, 1, 0] rfl ?_
    exact hk8 σ x1 (x2 + 1)
  · refine J_iload_n (pc := 83) C0 3 dX8_hardest_83 rfl rfl ?_
    refine J_goto (pc := 84) (tgt := 88) C0 dX8_hardest_84 (by decide) ?_
    refine J_istore_n (pc := 88) (lv' := [(1, .int x2), (3, .int y0), (0, .ref (ad 0)), (2, .int x2)]) C0 dX8_hardest_88 rfl (by decide) rfl ?_
    refine J_iinc (pc := 89) (d := 1) (lv' := [(2, .int (x2 + 1)), (1, .int x2), (3, .int y0), (0, .ref (ad 0))]) C0 3 dX8_hardest_89 rfl (by decide) (by decide) rfl ?_
    refine J_goto (pc := 92) (tgt := 8) C0 dX8_hardest_92 (by decide) ?_
    refine J_sub (lv' := [(0, .ref (ad 0)), (1, .int x2), (2, .int (x2 + 1))]) [3, 1, 0] rfl ?_
    exact hk8 σ x2 (x2 + 1)
set_option maxRecDepth 100000 in
set_option maxHeartbeats 4000000 in
theorem j_X8_hardest_K52 (C0 : Cx D (tyA cI cZ) RX8 cX8_hardest 4 (some .int) p s m args meth c) (k8 : SR → Int32 → Int32 → Option (Int32 × SR)) (σ : SR) (x1 : Int32) (x2 : Int32) (y0 : Int32) (hk8 : ∀ (σ : SR) (x1 : Int32) (x2 : Int32), J p l e (Rm 7) s m args below meth c D A (wR ad cI cZ) 4 (QI D A (wR ad cI cZ)) (k8 σ x1 x2) σ [(0, .ref (ad 0)), (1, .int x1), (2, .int x2)] [] 8) : J p l e (Rm 7) s m args below meth c D A (wR ad cI cZ) 4 (QI D A (wR ad cI cZ)) (f_X8_hardest_K52 k8 σ x1 x2 y0) σ [(0, .ref (ad 0)), (1, .int x1), (2, .int x2)] [.int y0] 52 := by
  unfold f_X8_hardest_K52
  refine J_istore_n (pc := 52) (lv' := [(3, .int y0), (0, .ref (ad 0)), (1, .int x1), (2, .int x2)]) C0 dX8_hardest_52 rfl (by decide) rfl ?_
  refine J_iload_n (pc := 53) C0 0 dX8_hardest_53 rfl rfl ?_
  refine J_if_ne (pc := 54) (tgt := 77) C0 dX8_hardest_54 (by decide) (fun h_54 => ?_) (fun h_54 => ?_)
  · refine J_iload_n (pc := 77) C0 0 dX8_hardest_77 rfl rfl ?_
    refine J_sub (lv' := [(0, .ref (ad 0)), (1, .int x1), (2, .int x2)]) [1, 2, 3] rfl ?_
    exact j_X8_hardest_K78 C0 _ σ x1 x2 y0 hk8
  · refine J_aload_n (pc := 57) C0 1 dX8_hardest_57 rfl rfl ?_
    refine J_iload_n (pc := 58) C0 2 dX8_hardest_58 rfl rfl ?_
    refine fin_P (fun r_ h_ => run_V (As := [.int x1]) (rest := []) (q0 := 0) C0 (c_X8_crossed σ x1  r_ h_) v_X8_crossed q539 wR_o rfl rfl ⟨rfl, rfl⟩ (Rm_ok (by decide) (by decide)) rfl (Nat.le_of_ble_eq_true rfl) dX8_hardest_59) (fun r59 e59 => ?_)
    refine fin_P (fun r_ h_ => run_S (As := [.int r59]) (rest := []) C0 (c_X8_bits σ r59  r_ h_) v_X8_bits q528 rfl ⟨rfl, rfl⟩ (Rm_ok (by decide) (by decide)) rfl (Nat.le_of_ble_eq_true rfl) dX8_hardest_62) (fun r62 e62 => ?_)
    refine J_aload_n (pc := 65) C0 1 dX8_hardest_65 rfl rfl ?_
    refine J_iload_n (pc := 66) C0 3 dX8_hardest_66 rfl rfl ?_
    refine fin_P (fun r_ h_ => run_V (As := [.int x2]) (rest := [.int r62]) (q0 := 0) C0 (c_X8_crossed σ x2  r_ h_) v_X8_crossed q539 wR_o rfl rfl ⟨rfl, rfl⟩ (Rm_ok (by decide) (by decide)) rfl (Nat.le_of_ble_eq_true rfl) dX8_hardest_67) (fun r67 e67 => ?_)
    refine fin_P (fun r_ h_ => run_S (As := [.int r67]) (rest := [.int r62]) C0 (c_X8_bits σ r67  r_ h_) v_X8_bits q528 rfl ⟨rfl, rfl⟩ (Rm_ok (by decide) (by decide)) rfl (Nat.le_of_ble_eq_true rfl) dX8_hardest_70) (fun r70 e70 => ?_)
    refine J_isub (pc := 73) C0 dX8_hardest_73 ?_
    refine J_goto (pc := 74) (tgt := 78) C0 dX8_hardest_74 (by decide) ?_
    refine J_sub (lv' := [(0, .ref (ad 0)), (1, .int x1), (2, .int x2)]) [1, 2, 3] rfl ?_
    exact j_X8_hardest_K78 C0 _ σ x1 x2 (r62 - r70) hk8
set_option maxRecDepth 100000 in
set_option maxHeartbeats 4000000 in
theorem j_X8_hardest_L8 (C0 : Cx D (tyA cI cZ) RX8 cX8_hardest 4 (some .int) p s m args meth c) : ∀ (n : Nat) (σ : SR) (x1 : Int32) (x2 : Int32), J p l e (Rm 7) s m args below meth c D A (wR ad cI cZ) 4 (QI D A (wR ad cI cZ)) (f_X8_hardest_L8 n σ x1 x2) σ [(0, .ref (ad 0)), (1, .int x1), (2, .int x2)] [] 8 := by
  intro n
  induction n with
  | zero => intros; exact J_none
  | succ n ih =>
    intro σ x1 x2
    refine J_eq (f_X8_hardest_L8_s  n σ x1 x2) ?_
    refine J_iload_n (pc := 8) C0 2 dX8_hardest_8 rfl rfl ?_
    refine J_aload_n (pc := 9) C0 0 dX8_hardest_9 rfl rfl ?_
    refine J_get (pc := 10) (v := .int (σ.1 9 2)) C0 0 wR_o rfl in_X8 6 (by decide) q395 rfl dX8_hardest_10 ?_
    refine J_icmp_ge (pc := 13) (tgt := 95) C0 dX8_hardest_13 (by decide) (fun h_13 => ?_) (fun h_13 => ?_)
    · refine J_iload_n (pc := 95) C0 1 dX8_hardest_95 rfl rfl ?_
      exact J_iret C0 dX8_hardest_96
    · refine J_aload_n (pc := 16) C0 0 dX8_hardest_16 rfl rfl ?_
      refine J_iload_n (pc := 17) C0 2 dX8_hardest_17 rfl rfl ?_
      refine fin_P (fun r_ h_ => run_V (As := [.int x2]) (rest := []) (q0 := 0) C0 (c_X8_isFull σ x2  r_ h_) v_X8_isFull q474 wR_o rfl rfl ⟨rfl, rfl⟩ (Rm_ok (by decide) (by decide)) rfl (Nat.le_of_ble_eq_true rfl) dX8_hardest_18) (fun r18 e18 => ?_)
      refine J_if_ne (pc := 21) (tgt := 89) C0 dX8_hardest_21 (by decide) (fun h_21 => ?_) (fun h_21 => ?_)
      · refine J_iinc (pc := 89) (d := 1) (lv' := [(2, .int (x2 + 1)), (0, .ref (ad 0)), (1, .int x1)]) C0 2 dX8_hardest_89 rfl (by decide) (by decide) rfl ?_
        refine J_goto (pc := 92) (tgt := 8) C0 dX8_hardest_92 (by decide) ?_
        refine J_sub (lv' := [(0, .ref (ad 0)), (1, .int x1), (2, .int (x2 + 1))]) [1, 2, 0] rfl ?_
        exact ih σ x1 (x2 + 1)
      · refine J_iload_n (pc := 24) C0 1 dX8_hardest_24 rfl rfl ?_
        refine J_iconst (pc := 25) (v := (-1)) C0 dX8_hardest_25 (by decide) ?_
        refine J_icmp_ne (pc := 26) (tgt := 33) C0 dX8_hardest_26 (by decide) (fun h_26 => ?_) (fun h_26 => ?_)
        · refine J_aload_n (pc := 33) C0 0 dX8_hardest_33 rfl rfl ?_
          refine J_get (pc := 34) (v := .ref (ad 8)) C0 0 wR_o rfl in_X8 11 (by decide) q503 rfl dX8_hardest_34 ?_
          refine J_iload_n (pc := 37) C0 2 dX8_hardest_37 rfl rfl ?_
          refine J_iald (pc := 38) C0 8 0 wR_a8 rfl dX8_hardest_38 (fun h_38 => ?_)
          refine fin_P (fun r_ h_ => run_S (As := [.int (σ.1 7 (ix x2))]) (rest := []) C0 (c_X8_bits σ (σ.1 7 (ix x2))  r_ h_) v_X8_bits q528 rfl ⟨rfl, rfl⟩ (Rm_ok (by decide) (by decide)) rfl (Nat.le_of_ble_eq_true rfl) dX8_hardest_39) (fun r39 e39 => ?_)
          refine J_aload_n (pc := 42) C0 0 dX8_hardest_42 rfl rfl ?_
          refine J_get (pc := 43) (v := .ref (ad 8)) C0 0 wR_o rfl in_X8 11 (by decide) q503 rfl dX8_hardest_43 ?_
          refine J_iload_n (pc := 46) C0 1 dX8_hardest_46 rfl rfl ?_
          refine J_iald (pc := 47) C0 8 0 wR_a8 rfl dX8_hardest_47 (fun h_47 => ?_)
          refine fin_P (fun r_ h_ => run_S (As := [.int (σ.1 7 (ix x1))]) (rest := [.int r39]) C0 (c_X8_bits σ (σ.1 7 (ix x1))  r_ h_) v_X8_bits q528 rfl ⟨rfl, rfl⟩ (Rm_ok (by decide) (by decide)) rfl (Nat.le_of_ble_eq_true rfl) dX8_hardest_48) (fun r48 e48 => ?_)
          refine J_isub (pc := 51) C0 dX8_hardest_51 ?_
          refine J_sub (lv' := [(0, .ref (ad 0)), (1, .int x1), (2, .int x2)]) [0, 1, 2] rfl ?_
          exact j_X8_hardest_K52 C0 _ σ x1 x2 (r39 - r48) ih
        · refine J_iconst (pc := 29) (v := (-1)) C0 dX8_hardest_29 (by decide) ?_
          refine J_goto (pc := 30) (tgt := 52) C0 dX8_hardest_30 (by decide) ?_
          refine J_sub (lv' := [(0, .ref (ad 0)), (1, .int x1), (2, .int x2)]) [0, 1, 2] rfl ?_
          exact j_X8_hardest_K52 C0 _ σ x1 x2 (-1) ih
set_option maxRecDepth 100000 in
set_option maxHeartbeats 4000000 in
theorem c_X8_hardest {l : Launch} {D : va_G} {cI cZ : ClassId} {A : Nat → Prop} {ad : Nat → Nat} (σ : SR)   (r : (Int32 × SR)) (h : f_X8_hardest σ = some r) : Met l yX8_hardest (.code yX8_hardest cX8_hardest 4 (some .int) :: wG) (Rm 7) (PreW D (tyA cI cZ) A (wR ad cI cZ) [.ref (ad 0)] σ) (QI D A (wR ad cI cZ) r) 0 0 A := by
  refine met_of (M := f_X8_hardest σ) (Qc := (QI D A (wR ad cI cZ))) (by decide) (Nat.le_of_ble_eq_true rfl) h (fun p e s m below meth c C0 => ?_)
  generalize hargs : ([.ref (ad 0)] : List Value).toArray = args at C0 ⊢
  have C0 : Cx D (tyA cI cZ) RX8 cX8_hardest 4 (some .int) p s m args meth c := C0
  refine J_sub (lv' := [(0, .ref (ad 0))]) [0] rfl ?_
  unfold f_X8_hardest
  refine J_aload_n (pc := 0) C0 0 dX8_hardest_0 rfl rfl ?_
  refine fin_V (fun r_ h_ => run_V (As := []) (rest := []) (q0 := 0) C0 (c_X8_layLeft σ   r_ h_) v_X8_layLeft q535 wR_o rfl rfl ⟨rfl, rfl⟩ (Rm_ok (by decide) (by decide)) rfl (Nat.le_of_ble_eq_true rfl) dX8_hardest_1) (fun σ1 e1 => ?_)
  refine J_iconst (pc := 4) (v := (-1)) C0 dX8_hardest_4 (by decide) ?_
  refine J_istore_n (pc := 5) (lv' := [(1, .int (-1)), (0, .ref (ad 0))]) C0 dX8_hardest_5 rfl (by decide) rfl ?_
  refine J_iconst (pc := 6) (v := 0) C0 dX8_hardest_6 (by decide) ?_
  refine J_istore_n (pc := 7) (lv' := [(2, .int 0), (1, .int (-1)), (0, .ref (ad 0))]) C0 dX8_hardest_7 rfl (by decide) rfl ?_
  refine J_sub (lv' := [(0, .ref (ad 0)), (1, .int (-1)), (2, .int 0)]) [2, 1, 0] rfl ?_
  exact j_X8_hardest_L8 C0 FU σ1 (-1) 0
end SE

def f_X8_ofSlots_K53 (k14 : SR → Int32 → Int32 → Int32 → Int32 → Option (Int32 × SR)) (σ : SR) (x1 : Int32) (x2 : Int32) (x4 : Int32) (x5 : Int32) (y0 : Int32) (y1 : Int32) : Option (Int32 × SR) :=
  (if inb x5 8 = true then (if (σ.1 7 (ix x5)) = 0 then (k14 σ x2 (y1 ||| y0) (x4 ||| ((1 : Int32) <<< (x5 &&& 31))) (x5 + 1)) else (k14 σ x2 (y1 ||| y0) (x4 ||| (0 : Int32)) (x5 + 1))) else none)
def f_X8_ofSlots_L14 (x1 : Int32) (kx84 : SR → Int32 → Int32 → Int32 → Option (Int32 × SR)) : Nat → SR → Int32 → Int32 → Int32 → Int32 → Option (Int32 × SR)
  | 0, _, _, _, _, _ => none
  | n + 1, σ, x2, x3, x4, x5 =>
  (if (σ.1 9 2) ≤ x5 then (kx84 σ x2 x3 x4) else ((f_X8_crossed σ x5).bind fun r27 => ((f_X8_bits r27).bind fun r30 => ((f_X8_isFull σ x5).bind fun r39 => (if r39 = 0 then (f_X8_ofSlots_K53 (f_X8_ofSlots_L14 x1 kx84 n) σ x1 (x2 + r30) x4 x5 0 x3) else (f_X8_ofSlots_K53 (f_X8_ofSlots_L14 x1 kx84 n) σ x1 (x2 + r30) x4 x5 ((1 : Int32) <<< (x5 &&& 31)) x3))))))
theorem f_X8_ofSlots_L14_s (x1 : Int32) (kx84 : SR → Int32 → Int32 → Int32 → Option (Int32 × SR)) (n : Nat) (σ : SR) (x2 : Int32) (x3 : Int32) (x4 : Int32) (x5 : Int32) : f_X8_ofSlots_L14 x1 kx84 (n + 1) σ x2 x3 x4 x5 = ((if (σ.1 9 2) ≤ x5 then (kx84 σ x2 x3 x4) else ((f_X8_crossed σ x5).bind fun r27 => ((f_X8_bits r27).bind fun r30 => ((f_X8_isFull σ x5).bind fun r39 => (if r39 = 0 then (f_X8_ofSlots_K53 (f_X8_ofSlots_L14 x1 kx84 n) σ x1 (x2 + r30) x4 x5 0 x3) else (f_X8_ofSlots_K53 (f_X8_ofSlots_L14 x1 kx84 n) σ x1 (x2 + r30) x4 x5 ((1 : Int32) <<< (x5 &&& 31)) x3))))))) := rfl
def f_X8_ofSlots (σ : SR) (x1 : Int32) : Option (Int32 × SR) :=
  ((f_X8_layLeft σ).bind fun σ1 => (f_X8_ofSlots_L14 x1 (fun σ_84 x2_84 x3_84 x4_84 => (if x1 = (nI 4) then (some ((x2_84 / (nI 2)), σ_84)) else (if x1 = (nI 5) then (some (x3_84, σ_84)) else (some (x4_84, σ_84))))) FU σ1 0 0 0 0))
section SE
variable {p : Program} {l : Launch} {e : Env} {s : State} {m : MethodId} {args : Array Value} {below : List Frame} {meth : Method} {c : Code} {D : va_G} {cI cZ : ClassId} {A : Nat → Prop} {ad : Nat → Nat}
set_option maxRecDepth 100000 in
set_option maxHeartbeats 4000000 in
theorem j_X8_ofSlots_K53 (C0 : Cx D (tyA cI cZ) RX8 cX8_ofSlots 6 (some .int) p s m args meth c) (k14 : SR → Int32 → Int32 → Int32 → Int32 → Option (Int32 × SR)) (σ : SR) (x1 : Int32) (x2 : Int32) (x4 : Int32) (x5 : Int32) (y0 : Int32) (y1 : Int32) (hk14 : ∀ (σ : SR) (x2 : Int32) (x3 : Int32) (x4 : Int32) (x5 : Int32), J p l e (Rm 7) s m args below meth c D A (wR ad cI cZ) 6 (QI D A (wR ad cI cZ)) (k14 σ x2 x3 x4 x5) σ [(0, .ref (ad 0)), (1, .int x1), (2, .int x2), (3, .int x3), (4, .int x4), (5, .int x5)] [] 14) : J p l e (Rm 7) s m args below meth c D A (wR ad cI cZ) 6 (QI D A (wR ad cI cZ)) (f_X8_ofSlots_K53 k14 σ x1 x2 x4 x5 y0 y1) σ [(0, .ref (ad 0)), (1, .int x1), (2, .int x2), (4, .int x4), (5, .int x5)] [.int y0, .int y1] 53 := by
  unfold f_X8_ofSlots_K53
  refine J_ior (pc := 53) C0 dX8_ofSlots_53 ?_
  refine J_istore_n (pc := 54) (lv' := [(3, .int (y1 ||| y0)), (0, .ref (ad 0)), (1, .int x1), (2, .int x2), (4, .int x4), (5, .int x5)]) C0 dX8_ofSlots_54 rfl (by decide) rfl ?_
  refine J_iload (pc := 55) C0 4 dX8_ofSlots_55 rfl ?_
  refine J_aload_n (pc := 57) C0 1 dX8_ofSlots_57 rfl rfl ?_
  refine J_get (pc := 58) (v := .ref (ad 8)) C0 0 wR_o rfl in_X8 11 (by decide) q503 rfl dX8_ofSlots_58 ?_
  refine J_iload (pc := 61) C0 5 dX8_ofSlots_61 rfl ?_
  refine J_iald (pc := 63) C0 8 0 wR_a8 rfl dX8_ofSlots_63 (fun h_63 => ?_)
  refine J_if_ne (pc := 64) (tgt := 74) C0 dX8_ofSlots_64 (by decide) (fun h_64 => ?_) (fun h_64 => ?_)
  · refine J_iconst (pc := 74) (v := 0) C0 dX8_ofSlots_74 (by decide) ?_
    refine J_ior (pc := 75) C0 dX8_ofSlots_75 ?_
    refine J_istore (pc := 76) (lv' := [(4, .int (x4 ||| (0 : Int32))), (3, .int (y1 ||| y0)), (0, .ref (ad 0)), (1, .int x1), (2, .int x2), (5, .int x5)]) C0 dX8_ofSlots_76 (by decide) rfl ?_
    refine J_iinc (pc := 78) (d := 1) (lv' := [(5, .int (x5 + 1)), (4, .int (x4 ||| (0 : Int32))), (3, .int (y1 ||| y0)), (0, .ref (ad 0)), (1, .int x1), (2, .int x2)]) C0 5 dX8_ofSlots_78 rfl (by decide) (by decide) rfl ?_
    refine J_goto (pc := 81) (tgt := 14) C0 dX8_ofSlots_81 (by decide) ?_
    refine J_sub (lv' := [(0, .ref (ad 0)), (1, .int x1), (2, .int x2), (3, .int (y1 ||| y0)), (4, .int (x4 ||| (0 : Int32))), (5, .int (x5 + 1))]) [3, 4, 5, 2, 1, 0] rfl ?_
    exact hk14 σ x2 (y1 ||| y0) (x4 ||| (0 : Int32)) (x5 + 1)
  · refine J_iconst (pc := 67) (v := 1) C0 dX8_ofSlots_67 (by decide) ?_
    refine J_iload (pc := 68) C0 5 dX8_ofSlots_68 rfl ?_
    refine J_ishl (pc := 70) C0 dX8_ofSlots_70 ?_
    refine J_goto (pc := 71) (tgt := 75) C0 dX8_ofSlots_71 (by decide) ?_
    refine J_ior (pc := 75) C0 dX8_ofSlots_75 ?_
    refine J_istore (pc := 76) (lv' := [(4, .int (x4 ||| ((1 : Int32) <<< (x5 &&& 31)))), (3, .int (y1 ||| y0)), (0, .ref (ad 0)), (1, .int x1), (2, .int x2), (5, .int x5)]) C0 dX8_ofSlots_76 (by decide) rfl ?_
    refine J_iinc (pc := 78) (d := 1) (lv' := [(5, .int (x5 + 1)), (4, .int (x4 ||| ((1 : Int32) <<< (x5 &&& 31)))), (3, .int (y1 ||| y0)), (0, .ref (ad 0)), (1, .int x1), (2, .int x2)]) C0 5 dX8_ofSlots_78 rfl (by decide) (by decide) rfl ?_
    refine J_goto (pc := 81) (tgt := 14) C0 dX8_ofSlots_81 (by decide) ?_
    refine J_sub (lv' := [(0, .ref (ad 0)), (1, .int x1), (2, .int x2), (3, .int (y1 ||| y0)), (4, .int (x4 ||| ((1 : Int32) <<< (x5 &&& 31)))), (5, .int (x5 + 1))]) [3, 4, 5, 2, 1, 0] rfl ?_
    exact hk14 σ x2 (y1 ||| y0) (x4 ||| ((1 : Int32) <<< (x5 &&& 31))) (x5 + 1)
set_option maxRecDepth 100000 in
set_option maxHeartbeats 4000000 in
theorem j_X8_ofSlots_L14 (C0 : Cx D (tyA cI cZ) RX8 cX8_ofSlots 6 (some .int) p s m args meth c) (x1 : Int32) (kx84 : SR → Int32 → Int32 → Int32 → Option (Int32 × SR)) (hkx84 : ∀ (σ : SR) (x2 : Int32) (x3 : Int32) (x4 : Int32), J p l e (Rm 7) s m args below meth c D A (wR ad cI cZ) 6 (QI D A (wR ad cI cZ)) (kx84 σ x2 x3 x4) σ [(1, .int x1), (2, .int x2), (3, .int x3), (4, .int x4)] [] 84) : ∀ (n : Nat) (σ : SR) (x2 : Int32) (x3 : Int32) (x4 : Int32) (x5 : Int32), J p l e (Rm 7) s m args below meth c D A (wR ad cI cZ) 6 (QI D A (wR ad cI cZ)) (f_X8_ofSlots_L14 x1 kx84 n σ x2 x3 x4 x5) σ [(0, .ref (ad 0)), (1, .int x1), (2, .int x2), (3, .int x3), (4, .int x4), (5, .int x5)] [] 14 := by
  intro n
  induction n with
  | zero => intros; exact J_none
  | succ n ih =>
    intro σ x2 x3 x4 x5
    refine J_eq (f_X8_ofSlots_L14_s x1 kx84 n σ x2 x3 x4 x5) ?_
    refine J_iload (pc := 14) C0 5 dX8_ofSlots_14 rfl ?_
    refine J_aload_n (pc := 16) C0 0 dX8_ofSlots_16 rfl rfl ?_
    refine J_get (pc := 17) (v := .int (σ.1 9 2)) C0 0 wR_o rfl in_X8 6 (by decide) q395 rfl dX8_ofSlots_17 ?_
    refine J_icmp_ge (pc := 20) (tgt := 84) C0 dX8_ofSlots_20 (by decide) (fun h_20 => ?_) (fun h_20 => ?_)
    · refine J_sub (lv' := [(1, .int x1), (2, .int x2), (3, .int x3), (4, .int x4)]) [1, 2, 3, 4] rfl ?_
      exact hkx84 σ x2 x3 x4
    · refine J_iload_n (pc := 23) C0 2 dX8_ofSlots_23 rfl rfl ?_
      refine J_aload_n (pc := 24) C0 0 dX8_ofSlots_24 rfl rfl ?_
      refine J_iload (pc := 25) C0 5 dX8_ofSlots_25 rfl ?_
      refine fin_P (fun r_ h_ => run_V (As := [.int x5]) (rest := [.int x2]) (q0 := 0) C0 (c_X8_crossed σ x5  r_ h_) v_X8_crossed q539 wR_o rfl rfl ⟨rfl, rfl⟩ (Rm_ok (by decide) (by decide)) rfl (Nat.le_of_ble_eq_true rfl) dX8_ofSlots_27) (fun r27 e27 => ?_)
      refine fin_P (fun r_ h_ => run_S (As := [.int r27]) (rest := [.int x2]) C0 (c_X8_bits σ r27  r_ h_) v_X8_bits q528 rfl ⟨rfl, rfl⟩ (Rm_ok (by decide) (by decide)) rfl (Nat.le_of_ble_eq_true rfl) dX8_ofSlots_30) (fun r30 e30 => ?_)
      refine J_iadd (pc := 33) C0 dX8_ofSlots_33 ?_
      refine J_istore_n (pc := 34) (lv' := [(2, .int (x2 + r30)), (0, .ref (ad 0)), (1, .int x1), (3, .int x3), (4, .int x4), (5, .int x5)]) C0 dX8_ofSlots_34 rfl (by decide) rfl ?_
      refine J_iload_n (pc := 35) C0 3 dX8_ofSlots_35 rfl rfl ?_
      refine J_aload_n (pc := 36) C0 1 dX8_ofSlots_36 rfl rfl ?_
      refine J_iload (pc := 37) C0 5 dX8_ofSlots_37 rfl ?_
      refine fin_P (fun r_ h_ => run_V (As := [.int x5]) (rest := [.int x3]) (q0 := 0) C0 (c_X8_isFull σ x5  r_ h_) v_X8_isFull q474 wR_o rfl rfl ⟨rfl, rfl⟩ (Rm_ok (by decide) (by decide)) rfl (Nat.le_of_ble_eq_true rfl) dX8_ofSlots_39) (fun r39 e39 => ?_)
      refine J_if_eq (pc := 42) (tgt := 52) C0 dX8_ofSlots_42 (by decide) (fun h_42 => ?_) (fun h_42 => ?_)
      · refine J_iconst (pc := 52) (v := 0) C0 dX8_ofSlots_52 (by decide) ?_
        refine J_sub (lv' := [(0, .ref (ad 0)), (1, .int x1), (2, .int (x2 + r30)), (4, .int x4), (5, .int x5)]) [1, 2, 0, 4, 5] rfl ?_
        exact j_X8_ofSlots_K53 C0 _ σ x1 (x2 + r30) x4 x5 0 x3 ih
      · refine J_iconst (pc := 45) (v := 1) C0 dX8_ofSlots_45 (by decide) ?_
        refine J_iload (pc := 46) C0 5 dX8_ofSlots_46 rfl ?_
        refine J_ishl (pc := 48) C0 dX8_ofSlots_48 ?_
        refine J_goto (pc := 49) (tgt := 53) C0 dX8_ofSlots_49 (by decide) ?_
        refine J_sub (lv' := [(0, .ref (ad 0)), (1, .int x1), (2, .int (x2 + r30)), (4, .int x4), (5, .int x5)]) [1, 2, 0, 4, 5] rfl ?_
        exact j_X8_ofSlots_K53 C0 _ σ x1 (x2 + r30) x4 x5 ((1 : Int32) <<< (x5 &&& 31)) x3 ih
set_option maxRecDepth 100000 in
set_option maxHeartbeats 4000000 in
theorem c_X8_ofSlots {l : Launch} {D : va_G} {cI cZ : ClassId} {A : Nat → Prop} {ad : Nat → Nat} (σ : SR) (x1 : Int32)  (r : (Int32 × SR)) (h : f_X8_ofSlots σ x1 = some r) : Met l yX8_ofSlots (.code yX8_ofSlots cX8_ofSlots 6 (some .int) :: wG) (Rm 7) (PreW D (tyA cI cZ) A (wR ad cI cZ) [.ref (ad 0), .int x1] σ) (QI D A (wR ad cI cZ) r) 0 0 A := by
  refine met_of (M := f_X8_ofSlots σ x1) (Qc := (QI D A (wR ad cI cZ))) (by decide) (Nat.le_of_ble_eq_true rfl) h (fun p e s m below meth c C0 => ?_)
  generalize hargs : ([.ref (ad 0), .int x1] : List Value).toArray = args at C0 ⊢
  have C0 : Cx D (tyA cI cZ) RX8 cX8_ofSlots 6 (some .int) p s m args meth c := C0
  refine J_sub (lv' := [(0, .ref (ad 0)), (1, .int x1)]) [0, 1] rfl ?_
  unfold f_X8_ofSlots
  refine J_aload_n (pc := 0) C0 0 dX8_ofSlots_0 rfl rfl ?_
  refine fin_V (fun r_ h_ => run_V (As := []) (rest := []) (q0 := 0) C0 (c_X8_layLeft σ   r_ h_) v_X8_layLeft q535 wR_o rfl rfl ⟨rfl, rfl⟩ (Rm_ok (by decide) (by decide)) rfl (Nat.le_of_ble_eq_true rfl) dX8_ofSlots_1) (fun σ1 e1 => ?_)
  refine J_iconst (pc := 4) (v := 0) C0 dX8_ofSlots_4 (by decide) ?_
  refine J_istore_n (pc := 5) (lv' := [(2, .int 0), (0, .ref (ad 0)), (1, .int x1)]) C0 dX8_ofSlots_5 rfl (by decide) rfl ?_
  refine J_iconst (pc := 6) (v := 0) C0 dX8_ofSlots_6 (by decide) ?_
  refine J_istore_n (pc := 7) (lv' := [(3, .int 0), (2, .int 0), (0, .ref (ad 0)), (1, .int x1)]) C0 dX8_ofSlots_7 rfl (by decide) rfl ?_
  refine J_iconst (pc := 8) (v := 0) C0 dX8_ofSlots_8 (by decide) ?_
  refine J_istore (pc := 9) (lv' := [(4, .int 0), (3, .int 0), (2, .int 0), (0, .ref (ad 0)), (1, .int x1)]) C0 dX8_ofSlots_9 (by decide) rfl ?_
  refine J_iconst (pc := 11) (v := 0) C0 dX8_ofSlots_11 (by decide) ?_
  refine J_istore (pc := 12) (lv' := [(5, .int 0), (4, .int 0), (3, .int 0), (2, .int 0), (0, .ref (ad 0)), (1, .int x1)]) C0 dX8_ofSlots_12 (by decide) rfl ?_
  refine J_sub (lv' := [(0, .ref (ad 0)), (1, .int x1), (2, .int 0), (3, .int 0), (4, .int 0), (5, .int 0)]) [4, 5, 3, 2, 1, 0] rfl ?_
  refine j_X8_ofSlots_L14 C0 x1 _ (fun σ_84 x2_84 x3_84 x4_84 => ?_) FU σ1 0 0 0 0
  refine J_iload_n (pc := 84) C0 0 dX8_ofSlots_84 rfl rfl ?_
  refine J_iconst (pc := 85) (v := (nI 4)) C0 dX8_ofSlots_85 (by decide) ?_
  refine J_icmp_ne (pc := 86) (tgt := 95) C0 dX8_ofSlots_86 (by decide) (fun h_86 => ?_) (fun h_86 => ?_)
  · refine J_iload_n (pc := 95) C0 0 dX8_ofSlots_95 rfl rfl ?_
    refine J_iconst (pc := 96) (v := (nI 5)) C0 dX8_ofSlots_96 (by decide) ?_
    refine J_icmp_ne (pc := 97) (tgt := 104) C0 dX8_ofSlots_97 (by decide) (fun h_97 => ?_) (fun h_97 => ?_)
    · refine J_iload (pc := 104) C0 3 dX8_ofSlots_104 rfl ?_
      exact J_iret C0 dX8_ofSlots_106
    · refine J_iload_n (pc := 100) C0 2 dX8_ofSlots_100 rfl rfl ?_
      refine J_goto (pc := 101) (tgt := 106) C0 dX8_ofSlots_101 (by decide) ?_
      exact J_iret C0 dX8_ofSlots_106
  · refine J_iload_n (pc := 89) C0 1 dX8_ofSlots_89 rfl rfl ?_
    refine J_iconst (pc := 90) (v := (nI 2)) C0 dX8_ofSlots_90 (by decide) ?_
    refine J_idiv (pc := 91) C0 dX8_ofSlots_91 (by decide) ?_
    refine J_goto (pc := 92) (tgt := 106) C0 dX8_ofSlots_92 (by decide) ?_
    exact J_iret C0 dX8_ofSlots_106
end SE

def f_X8_ofWord_K67 (k20 : SR → Int32 → Int32 → Int32 → Int32 → Option (Int32 × SR)) (σ : SR) (x1 : Int32) (x2 : Int32) (x3 : Int32) (x5 : Int32) (x6 : Int32) (y0 : Int32) (y1 : Int32) : Option (Int32 × SR) :=
  ((f_X8_isFull σ x6).bind fun r73 => (if r73 = 0 then (k20 σ x3 (y1 ||| y0) x5 (x6 + (-1))) else ((f_X8_lettersOf σ x6).bind fun r82 => ((f_X8_codeAt σ x1).bind fun r87 => (if r82 = r87 then (k20 σ x3 (y1 ||| y0) x6 (x6 + (-1))) else (k20 σ x3 (y1 ||| y0) x5 (x6 + (-1))))))))
def f_X8_ofWord_K41 (k20 : SR → Int32 → Int32 → Int32 → Int32 → Option (Int32 × SR)) (σ : SR) (x1 : Int32) (x2 : Int32) (x4 : Int32) (x5 : Int32) (x6 : Int32) (y0 : Int32) (y1 : Int32) : Option (Int32 × SR) :=
  (if inb x6 8 = true then ((f_X8_has (σ.1 7 (ix x6)) x1).bind fun r53 => (if r53 = 0 then (f_X8_ofWord_K67 k20 σ x1 x2 (y1 + y0) x5 x6 0 x4) else (f_X8_ofWord_K67 k20 σ x1 x2 (y1 + y0) x5 x6 ((1 : Int32) <<< (x6 &&& 31)) x4))) else none)
def f_X8_ofWord_L20 (x1 : Int32) (x2 : Int32) (kx108 : SR → Int32 → Int32 → Int32 → Option (Int32 × SR)) : Nat → SR → Int32 → Int32 → Int32 → Int32 → Option (Int32 × SR)
  | 0, _, _, _, _, _ => none
  | n + 1, σ, x3, x4, x5, x6 =>
  (if x6 < 0 then (kx108 σ x3 x4 x5) else ((f_X8_fits σ x1 x6).bind fun r30 => (if r30 = 0 then (f_X8_ofWord_K41 (f_X8_ofWord_L20 x1 x2 kx108 n) σ x1 x2 x4 x5 x6 0 x3) else (f_X8_ofWord_K41 (f_X8_ofWord_L20 x1 x2 kx108 n) σ x1 x2 x4 x5 x6 1 x3))))
theorem f_X8_ofWord_L20_s (x1 : Int32) (x2 : Int32) (kx108 : SR → Int32 → Int32 → Int32 → Option (Int32 × SR)) (n : Nat) (σ : SR) (x3 : Int32) (x4 : Int32) (x5 : Int32) (x6 : Int32) : f_X8_ofWord_L20 x1 x2 kx108 (n + 1) σ x3 x4 x5 x6 = ((if x6 < 0 then (kx108 σ x3 x4 x5) else ((f_X8_fits σ x1 x6).bind fun r30 => (if r30 = 0 then (f_X8_ofWord_K41 (f_X8_ofWord_L20 x1 x2 kx108 n) σ x1 x2 x4 x5 x6 0 x3) else (f_X8_ofWord_K41 (f_X8_ofWord_L20 x1 x2 kx108 n) σ x1 x2 x4 x5 x6 1 x3))))) := rfl
def f_X8_ofWord (σ : SR) (x1 : Int32) (x2 : Int32) : Option (Int32 × SR) :=
  ((f_X8_layLeft σ).bind fun σ1 => (f_X8_ofWord_L20 x1 x2 (fun σ_108 x3_108 x4_108 x5_108 => (if x2 = (nI 2) then (some (x3_108, σ_108)) else (if x2 = (nI 3) then (some (x4_108, σ_108)) else (some (x5_108, σ_108))))) FU σ1 0 0 (-1) ((σ1.1 9 2) - 1)))
section SE
variable {p : Program} {l : Launch} {e : Env} {s : State} {m : MethodId} {args : Array Value} {below : List Frame} {meth : Method} {c : Code} {D : va_G} {cI cZ : ClassId} {A : Nat → Prop} {ad : Nat → Nat}
set_option maxRecDepth 100000 in
set_option maxHeartbeats 4000000 in
theorem j_X8_ofWord_K67 (C0 : Cx D (tyA cI cZ) RX8 cX8_ofWord 7 (some .int) p s m args meth c) (k20 : SR → Int32 → Int32 → Int32 → Int32 → Option (Int32 × SR)) (σ : SR) (x1 : Int32) (x2 : Int32) (x3 : Int32) (x5 : Int32) (x6 : Int32) (y0 : Int32) (y1 : Int32) (hk20 : ∀ (σ : SR) (x3 : Int32) (x4 : Int32) (x5 : Int32) (x6 : Int32), J p l e (Rm 7) s m args below meth c D A (wR ad cI cZ) 7 (QI D A (wR ad cI cZ)) (k20 σ x3 x4 x5 x6) σ [(0, .ref (ad 0)), (1, .int x1), (2, .int x2), (3, .int x3), (4, .int x4), (5, .int x5), (6, .int x6)] [] 20) : J p l e (Rm 7) s m args below meth c D A (wR ad cI cZ) 7 (QI D A (wR ad cI cZ)) (f_X8_ofWord_K67 k20 σ x1 x2 x3 x5 x6 y0 y1) σ [(0, .ref (ad 0)), (1, .int x1), (2, .int x2), (3, .int x3), (5, .int x5), (6, .int x6)] [.int y0, .int y1] 67 := by
  unfold f_X8_ofWord_K67
  refine J_ior (pc := 67) C0 dX8_ofWord_67 ?_
  refine J_istore (pc := 68) (lv' := [(4, .int (y1 ||| y0)), (0, .ref (ad 0)), (1, .int x1), (2, .int x2), (3, .int x3), (5, .int x5), (6, .int x6)]) C0 dX8_ofWord_68 (by decide) rfl ?_
  refine J_aload_n (pc := 70) C0 1 dX8_ofWord_70 rfl rfl ?_
  refine J_iload (pc := 71) C0 6 dX8_ofWord_71 rfl ?_
  refine fin_P (fun r_ h_ => run_V (As := [.int x6]) (rest := []) (q0 := 0) C0 (c_X8_isFull σ x6  r_ h_) v_X8_isFull q474 wR_o rfl rfl ⟨rfl, rfl⟩ (Rm_ok (by decide) (by decide)) rfl (Nat.le_of_ble_eq_true rfl) dX8_ofWord_73) (fun r73 e73 => ?_)
  refine J_if_eq (pc := 76) (tgt := 98) C0 dX8_ofWord_76 (by decide) (fun h_76 => ?_) (fun h_76 => ?_)
  · refine J_iload (pc := 98) C0 5 dX8_ofWord_98 rfl ?_
    refine J_istore (pc := 100) (lv' := [(5, .int x5), (4, .int (y1 ||| y0)), (0, .ref (ad 0)), (1, .int x1), (2, .int x2), (3, .int x3), (6, .int x6)]) C0 dX8_ofWord_100 (by decide) rfl ?_
    refine J_iinc (pc := 102) (d := (-1)) (lv' := [(6, .int (x6 + (-1))), (5, .int x5), (4, .int (y1 ||| y0)), (0, .ref (ad 0)), (1, .int x1), (2, .int x2), (3, .int x3)]) C0 6 dX8_ofWord_102 rfl (by decide) (by decide) rfl ?_
    refine J_goto (pc := 105) (tgt := 20) C0 dX8_ofWord_105 (by decide) ?_
    refine J_sub (lv' := [(0, .ref (ad 0)), (1, .int x1), (2, .int x2), (3, .int x3), (4, .int (y1 ||| y0)), (5, .int x5), (6, .int (x6 + (-1)))]) [3, 4, 5, 6, 2, 1, 0] rfl ?_
    exact hk20 σ x3 (y1 ||| y0) x5 (x6 + (-1))
  · refine J_aload_n (pc := 79) C0 1 dX8_ofWord_79 rfl rfl ?_
    refine J_iload (pc := 80) C0 6 dX8_ofWord_80 rfl ?_
    refine fin_P (fun r_ h_ => run_V (As := [.int x6]) (rest := []) (q0 := 0) C0 (c_X8_lettersOf σ x6  r_ h_) v_X8_lettersOf q478 wR_o rfl rfl ⟨rfl, rfl⟩ (Rm_ok (by decide) (by decide)) rfl (Nat.le_of_ble_eq_true rfl) dX8_ofWord_82) (fun r82 e82 => ?_)
    refine J_aload_n (pc := 85) C0 1 dX8_ofWord_85 rfl rfl ?_
    refine J_iload_n (pc := 86) C0 2 dX8_ofWord_86 rfl rfl ?_
    refine fin_P (fun r_ h_ => run_V (As := [.int x1]) (rest := [.int r82]) (q0 := 0) C0 (c_X8_codeAt σ x1  r_ h_) v_X8_codeAt q420 wR_o rfl rfl ⟨rfl, rfl⟩ (Rm_ok (by decide) (by decide)) rfl (Nat.le_of_ble_eq_true rfl) dX8_ofWord_87) (fun r87 e87 => ?_)
    refine J_icmp_ne (pc := 90) (tgt := 98) C0 dX8_ofWord_90 (by decide) (fun h_90 => ?_) (fun h_90 => ?_)
    · refine J_iload (pc := 98) C0 5 dX8_ofWord_98 rfl ?_
      refine J_istore (pc := 100) (lv' := [(5, .int x5), (4, .int (y1 ||| y0)), (0, .ref (ad 0)), (1, .int x1), (2, .int x2), (3, .int x3), (6, .int x6)]) C0 dX8_ofWord_100 (by decide) rfl ?_
      refine J_iinc (pc := 102) (d := (-1)) (lv' := [(6, .int (x6 + (-1))), (5, .int x5), (4, .int (y1 ||| y0)), (0, .ref (ad 0)), (1, .int x1), (2, .int x2), (3, .int x3)]) C0 6 dX8_ofWord_102 rfl (by decide) (by decide) rfl ?_
      refine J_goto (pc := 105) (tgt := 20) C0 dX8_ofWord_105 (by decide) ?_
      refine J_sub (lv' := [(0, .ref (ad 0)), (1, .int x1), (2, .int x2), (3, .int x3), (4, .int (y1 ||| y0)), (5, .int x5), (6, .int (x6 + (-1)))]) [3, 4, 5, 6, 2, 1, 0] rfl ?_
      exact hk20 σ x3 (y1 ||| y0) x5 (x6 + (-1))
    · refine J_iload (pc := 93) C0 6 dX8_ofWord_93 rfl ?_
      refine J_goto (pc := 95) (tgt := 100) C0 dX8_ofWord_95 (by decide) ?_
      refine J_istore (pc := 100) (lv' := [(5, .int x6), (4, .int (y1 ||| y0)), (0, .ref (ad 0)), (1, .int x1), (2, .int x2), (3, .int x3), (6, .int x6)]) C0 dX8_ofWord_100 (by decide) rfl ?_
      refine J_iinc (pc := 102) (d := (-1)) (lv' := [(6, .int (x6 + (-1))), (5, .int x6), (4, .int (y1 ||| y0)), (0, .ref (ad 0)), (1, .int x1), (2, .int x2), (3, .int x3)]) C0 6 dX8_ofWord_102 rfl (by decide) (by decide) rfl ?_
      refine J_goto (pc := 105) (tgt := 20) C0 dX8_ofWord_105 (by decide) ?_
      refine J_sub (lv' := [(0, .ref (ad 0)), (1, .int x1), (2, .int x2), (3, .int x3), (4, .int (y1 ||| y0)), (5, .int x6), (6, .int (x6 + (-1)))]) [3, 4, 5, 6, 2, 1, 0] rfl ?_
      exact hk20 σ x3 (y1 ||| y0) x6 (x6 + (-1))
set_option maxRecDepth 100000 in
set_option maxHeartbeats 4000000 in
theorem j_X8_ofWord_K41 (C0 : Cx D (tyA cI cZ) RX8 cX8_ofWord 7 (some .int) p s m args meth c) (k20 : SR → Int32 → Int32 → Int32 → Int32 → Option (Int32 × SR)) (σ : SR) (x1 : Int32) (x2 : Int32) (x4 : Int32) (x5 : Int32) (x6 : Int32) (y0 : Int32) (y1 : Int32) (hk20 : ∀ (σ : SR) (x3 : Int32) (x4 : Int32) (x5 : Int32) (x6 : Int32), J p l e (Rm 7) s m args below meth c D A (wR ad cI cZ) 7 (QI D A (wR ad cI cZ)) (k20 σ x3 x4 x5 x6) σ [(0, .ref (ad 0)), (1, .int x1), (2, .int x2), (3, .int x3), (4, .int x4), (5, .int x5), (6, .int x6)] [] 20) : J p l e (Rm 7) s m args below meth c D A (wR ad cI cZ) 7 (QI D A (wR ad cI cZ)) (f_X8_ofWord_K41 k20 σ x1 x2 x4 x5 x6 y0 y1) σ [(0, .ref (ad 0)), (1, .int x1), (2, .int x2), (4, .int x4), (5, .int x5), (6, .int x6)] [.int y0, .int y1] 41 := by
  unfold f_X8_ofWord_K41
  refine J_iadd (pc := 41) C0 dX8_ofWord_41 ?_
  refine J_istore_n (pc := 42) (lv' := [(3, .int (y1 + y0)), (0, .ref (ad 0)), (1, .int x1), (2, .int x2), (4, .int x4), (5, .int x5), (6, .int x6)]) C0 dX8_ofWord_42 rfl (by decide) rfl ?_
  refine J_iload (pc := 43) C0 4 dX8_ofWord_43 rfl ?_
  refine J_aload_n (pc := 45) C0 1 dX8_ofWord_45 rfl rfl ?_
  refine J_get (pc := 46) (v := .ref (ad 8)) C0 0 wR_o rfl in_X8 11 (by decide) q503 rfl dX8_ofWord_46 ?_
  refine J_iload (pc := 49) C0 6 dX8_ofWord_49 rfl ?_
  refine J_iald (pc := 51) C0 8 0 wR_a8 rfl dX8_ofWord_51 (fun h_51 => ?_)
  refine J_iload_n (pc := 52) C0 2 dX8_ofWord_52 rfl rfl ?_
  refine fin_P (fun r_ h_ => run_S (As := [.int (σ.1 7 (ix x6)), .int x1]) (rest := [.int x4]) C0 (c_X8_has σ (σ.1 7 (ix x6)) x1  r_ h_) v_X8_has q447 rfl ⟨rfl, rfl⟩ (Rm_ok (by decide) (by decide)) rfl (Nat.le_of_ble_eq_true rfl) dX8_ofWord_53) (fun r53 e53 => ?_)
  refine J_if_eq (pc := 56) (tgt := 66) C0 dX8_ofWord_56 (by decide) (fun h_56 => ?_) (fun h_56 => ?_)
  · refine J_iconst (pc := 66) (v := 0) C0 dX8_ofWord_66 (by decide) ?_
    refine J_sub (lv' := [(0, .ref (ad 0)), (1, .int x1), (2, .int x2), (3, .int (y1 + y0)), (5, .int x5), (6, .int x6)]) [1, 2, 3, 0, 5, 6] rfl ?_
    exact j_X8_ofWord_K67 C0 _ σ x1 x2 (y1 + y0) x5 x6 0 x4 hk20
  · refine J_iconst (pc := 59) (v := 1) C0 dX8_ofWord_59 (by decide) ?_
    refine J_iload (pc := 60) C0 6 dX8_ofWord_60 rfl ?_
    refine J_ishl (pc := 62) C0 dX8_ofWord_62 ?_
    refine J_goto (pc := 63) (tgt := 67) C0 dX8_ofWord_63 (by decide) ?_
    refine J_sub (lv' := [(0, .ref (ad 0)), (1, .int x1), (2, .int x2), (3, .int (y1 + y0)), (5, .int x5), (6, .int x6)]) [1, 2, 3, 0, 5, 6] rfl ?_
    exact j_X8_ofWord_K67 C0 _ σ x1 x2 (y1 + y0) x5 x6 ((1 : Int32) <<< (x6 &&& 31)) x4 hk20
set_option maxRecDepth 100000 in
set_option maxHeartbeats 4000000 in
theorem j_X8_ofWord_L20 (C0 : Cx D (tyA cI cZ) RX8 cX8_ofWord 7 (some .int) p s m args meth c) (x1 : Int32) (x2 : Int32) (kx108 : SR → Int32 → Int32 → Int32 → Option (Int32 × SR)) (hkx108 : ∀ (σ : SR) (x3 : Int32) (x4 : Int32) (x5 : Int32), J p l e (Rm 7) s m args below meth c D A (wR ad cI cZ) 7 (QI D A (wR ad cI cZ)) (kx108 σ x3 x4 x5) σ [(2, .int x2), (3, .int x3), (4, .int x4), (5, .int x5)] [] 108) : ∀ (n : Nat) (σ : SR) (x3 : Int32) (x4 : Int32) (x5 : Int32) (x6 : Int32), J p l e (Rm 7) s m args below meth c D A (wR ad cI cZ) 7 (QI D A (wR ad cI cZ)) (f_X8_ofWord_L20 x1 x2 kx108 n σ x3 x4 x5 x6) σ [(0, .ref (ad 0)), (1, .int x1), (2, .int x2), (3, .int x3), (4, .int x4), (5, .int x5), (6, .int x6)] [] 20 := by
  intro n
  induction n with
  | zero => intros; exact J_none
  | succ n ih =>
    intro σ x3 x4 x5 x6
    refine J_eq (f_X8_ofWord_L20_s x1 x2 kx108 n σ x3 x4 x5 x6) ?_
    refine J_iload (pc := 20) C0 6 dX8_ofWord_20 rfl ?_
    refine J_if_lt (pc := 22) (tgt := 108) C0 dX8_ofWord_22 (by decide) (fun h_22 => ?_) (fun h_22 => ?_)
    · refine J_sub (lv' := [(2, .int x2), (3, .int x3), (4, .int x4), (5, .int x5)]) [2, 3, 4, 5] rfl ?_
      exact hkx108 σ x3 x4 x5
    · refine J_iload_n (pc := 25) C0 3 dX8_ofWord_25 rfl rfl ?_
      refine J_aload_n (pc := 26) C0 0 dX8_ofWord_26 rfl rfl ?_
      refine J_iload_n (pc := 27) C0 1 dX8_ofWord_27 rfl rfl ?_
      refine J_iload (pc := 28) C0 6 dX8_ofWord_28 rfl ?_
      refine fin_P (fun r_ h_ => run_V (As := [.int x1, .int x6]) (rest := [.int x3]) (q0 := 0) C0 (c_X8_fits σ x1 x6  r_ h_) v_X8_fits q494 wR_o rfl rfl ⟨rfl, rfl⟩ (Rm_ok (by decide) (by decide)) rfl (Nat.le_of_ble_eq_true rfl) dX8_ofWord_30) (fun r30 e30 => ?_)
      refine J_if_eq (pc := 33) (tgt := 40) C0 dX8_ofWord_33 (by decide) (fun h_33 => ?_) (fun h_33 => ?_)
      · refine J_iconst (pc := 40) (v := 0) C0 dX8_ofWord_40 (by decide) ?_
        refine J_sub (lv' := [(0, .ref (ad 0)), (1, .int x1), (2, .int x2), (4, .int x4), (5, .int x5), (6, .int x6)]) [0, 1, 2, 4, 5, 6] rfl ?_
        exact j_X8_ofWord_K41 C0 _ σ x1 x2 x4 x5 x6 0 x3 ih
      · refine J_iconst (pc := 36) (v := 1) C0 dX8_ofWord_36 (by decide) ?_
        refine J_goto (pc := 37) (tgt := 41) C0 dX8_ofWord_37 (by decide) ?_
        refine J_sub (lv' := [(0, .ref (ad 0)), (1, .int x1), (2, .int x2), (4, .int x4), (5, .int x5), (6, .int x6)]) [0, 1, 2, 4, 5, 6] rfl ?_
        exact j_X8_ofWord_K41 C0 _ σ x1 x2 x4 x5 x6 1 x3 ih
set_option maxRecDepth 100000 in
set_option maxHeartbeats 4000000 in
theorem c_X8_ofWord {l : Launch} {D : va_G} {cI cZ : ClassId} {A : Nat → Prop} {ad : Nat → Nat} (σ : SR) (x1 : Int32) (x2 : Int32)  (r : (Int32 × SR)) (h : f_X8_ofWord σ x1 x2 = some r) : Met l yX8_ofWord (.code yX8_ofWord cX8_ofWord 7 (some .int) :: wG) (Rm 7) (PreW D (tyA cI cZ) A (wR ad cI cZ) [.ref (ad 0), .int x1, .int x2] σ) (QI D A (wR ad cI cZ) r) 0 0 A := by
  refine met_of (M := f_X8_ofWord σ x1 x2) (Qc := (QI D A (wR ad cI cZ))) (by decide) (Nat.le_of_ble_eq_true rfl) h (fun p e s m below meth c C0 => ?_)
  generalize hargs : ([.ref (ad 0), .int x1, .int x2] : List Value).toArray = args at C0 ⊢
  have C0 : Cx D (tyA cI cZ) RX8 cX8_ofWord 7 (some .int) p s m args meth c := C0
  refine J_sub (lv' := [(0, .ref (ad 0)), (1, .int x1), (2, .int x2)]) [0, 1, 2] rfl ?_
  unfold f_X8_ofWord
  refine J_aload_n (pc := 0) C0 0 dX8_ofWord_0 rfl rfl ?_
  refine fin_V (fun r_ h_ => run_V (As := []) (rest := []) (q0 := 0) C0 (c_X8_layLeft σ   r_ h_) v_X8_layLeft q535 wR_o rfl rfl ⟨rfl, rfl⟩ (Rm_ok (by decide) (by decide)) rfl (Nat.le_of_ble_eq_true rfl) dX8_ofWord_1) (fun σ1 e1 => ?_)
  refine J_iconst (pc := 4) (v := 0) C0 dX8_ofWord_4 (by decide) ?_
  refine J_istore_n (pc := 5) (lv' := [(3, .int 0), (0, .ref (ad 0)), (1, .int x1), (2, .int x2)]) C0 dX8_ofWord_5 rfl (by decide) rfl ?_
  refine J_iconst (pc := 6) (v := 0) C0 dX8_ofWord_6 (by decide) ?_
  refine J_istore (pc := 7) (lv' := [(4, .int 0), (3, .int 0), (0, .ref (ad 0)), (1, .int x1), (2, .int x2)]) C0 dX8_ofWord_7 (by decide) rfl ?_
  refine J_iconst (pc := 9) (v := (-1)) C0 dX8_ofWord_9 (by decide) ?_
  refine J_istore (pc := 10) (lv' := [(5, .int (-1)), (4, .int 0), (3, .int 0), (0, .ref (ad 0)), (1, .int x1), (2, .int x2)]) C0 dX8_ofWord_10 (by decide) rfl ?_
  refine J_aload_n (pc := 12) C0 3 dX8_ofWord_12 rfl rfl ?_
  refine J_get (pc := 13) (v := .int (σ1.1 9 2)) C0 0 wR_o rfl in_X8 6 (by decide) q395 rfl dX8_ofWord_13 ?_
  refine J_iconst (pc := 16) (v := 1) C0 dX8_ofWord_16 (by decide) ?_
  refine J_isub (pc := 17) C0 dX8_ofWord_17 ?_
  refine J_istore (pc := 18) (lv' := [(6, .int ((σ1.1 9 2) - 1)), (5, .int (-1)), (4, .int 0), (3, .int 0), (0, .ref (ad 0)), (1, .int x1), (2, .int x2)]) C0 dX8_ofWord_18 (by decide) rfl ?_
  refine J_sub (lv' := [(0, .ref (ad 0)), (1, .int x1), (2, .int x2), (3, .int 0), (4, .int 0), (5, .int (-1)), (6, .int ((σ1.1 9 2) - 1))]) [4, 5, 6, 3, 2, 1, 0] rfl ?_
  refine j_X8_ofWord_L20 C0 x1 x2 _ (fun σ_108 x3_108 x4_108 x5_108 => ?_) FU σ1 0 0 (-1) ((σ1.1 9 2) - 1)
  refine J_iload_n (pc := 108) C0 0 dX8_ofWord_108 rfl rfl ?_
  refine J_iconst (pc := 109) (v := (nI 2)) C0 dX8_ofWord_109 (by decide) ?_
  refine J_icmp_ne (pc := 110) (tgt := 117) C0 dX8_ofWord_110 (by decide) (fun h_110 => ?_) (fun h_110 => ?_)
  · refine J_iload_n (pc := 117) C0 0 dX8_ofWord_117 rfl rfl ?_
    refine J_iconst (pc := 118) (v := (nI 3)) C0 dX8_ofWord_118 (by decide) ?_
    refine J_icmp_ne (pc := 119) (tgt := 127) C0 dX8_ofWord_119 (by decide) (fun h_119 => ?_) (fun h_119 => ?_)
    · refine J_iload (pc := 127) C0 3 dX8_ofWord_127 rfl ?_
      exact J_iret C0 dX8_ofWord_129
    · refine J_iload (pc := 122) C0 2 dX8_ofWord_122 rfl ?_
      refine J_goto (pc := 124) (tgt := 129) C0 dX8_ofWord_124 (by decide) ?_
      exact J_iret C0 dX8_ofWord_129
  · refine J_iload_n (pc := 113) C0 1 dX8_ofWord_113 rfl rfl ?_
    refine J_goto (pc := 114) (tgt := 129) C0 dX8_ofWord_114 (by decide) ?_
    exact J_iret C0 dX8_ofWord_129
end SE

def f_X8_slot (σ : SR) (x1 : Int32) (x2 : Int32) : Option (Int32 × SR) :=
  (bnd (f_X8_isSlot σ x1) fun r2 σ2 => (if r2 = 0 then (some ((-1000000001), σ2)) else (if x2 = 0 then (if inb x1 8 = true then (some ((σ2.1 4 (ix x1)), σ2)) else none) else (if x2 = 1 then (if inb x1 8 = true then (some ((σ2.1 5 (ix x1)), σ2)) else none) else (if x2 = (nI 2) then (if inb x1 8 = true then (if (σ2.1 6 (ix x1)) = (nI 4) then (some (1, σ2)) else (some (0, σ2))) else none) else (if x2 = (nI 3) then ((f_X8_crossed σ2 x1).bind fun r92 => (some (r92, σ2))) else (if x2 = (nI 4) then ((f_X8_fittingWords σ2 x1).bind fun r98 => (some (r98, σ2))) else (if x2 = (nI 5) then ((f_X8_layLeft σ2).bind fun σ103 => (if inb x1 8 = true then (some ((σ103.1 7 (ix x1)), σ103)) else none)) else (if x2 = (nI 6) then ((f_X8_isFull σ2 x1).bind fun r115 => (if r115 = 0 then (some ((-1), σ2)) else ((f_X8_lettersOf σ2 x1).bind fun r124 => ((f_X8_findCode σ2 r124).bind fun r127 => (some (r127, σ2)))))) else (if x2 = (nI 7) then ((f_X8_all σ2).bind fun r137 => (bnd (f_X8_fillings σ2 r137 1 (-1) 0) fun r143 σ143 => (if r143 ≤ 0 then (some ((-1), σ143)) else (if inb x1 8 = true then (some ((σ143.1 8 (ix x1)), σ143)) else none)))) else (some ((-1000000002), σ2))))))))))))
section SE
variable {p : Program} {l : Launch} {e : Env} {s : State} {m : MethodId} {args : Array Value} {below : List Frame} {meth : Method} {c : Code} {D : va_G} {cI cZ : ClassId} {A : Nat → Prop} {ad : Nat → Nat}
set_option maxRecDepth 100000 in
set_option maxHeartbeats 4000000 in
theorem c_X8_slot {l : Launch} {D : va_G} {cI cZ : ClassId} {A : Nat → Prop} {ad : Nat → Nat} (σ : SR) (x1 : Int32) (x2 : Int32)  (r : (Int32 × SR)) (h : f_X8_slot σ x1 x2 = some r) : Met l yX8_slot (.code yX8_slot cX8_slot 3 (some .int) :: wG) (Rm 7) (PreW D (tyA cI cZ) A (wR ad cI cZ) [.ref (ad 0), .int x1, .int x2] σ) (QI D A (wR ad cI cZ) r) 0 0 A := by
  refine met_of (M := f_X8_slot σ x1 x2) (Qc := (QI D A (wR ad cI cZ))) (by decide) (Nat.le_of_ble_eq_true rfl) h (fun p e s m below meth c C0 => ?_)
  generalize hargs : ([.ref (ad 0), .int x1, .int x2] : List Value).toArray = args at C0 ⊢
  have C0 : Cx D (tyA cI cZ) RX8 cX8_slot 3 (some .int) p s m args meth c := C0
  refine J_sub (lv' := [(0, .ref (ad 0)), (1, .int x1), (2, .int x2)]) [0, 1, 2] rfl ?_
  unfold f_X8_slot
  refine J_aload_n (pc := 0) C0 0 dX8_slot_0 rfl rfl ?_
  refine J_iload_n (pc := 1) C0 1 dX8_slot_1 rfl rfl ?_
  refine fin_I (fun r_ h_ => run_V (As := [.int x1]) (rest := []) (q0 := 0) C0 (c_X8_isSlot σ x1  r_ h_) v_X8_isSlot q504 wR_o rfl rfl ⟨rfl, rfl⟩ (Rm_ok (by decide) (by decide)) rfl (Nat.le_of_ble_eq_true rfl) dX8_slot_2) (fun r2 σ2 e2 => ?_)
  refine J_if_ne (pc := 5) (tgt := 11) C0 dX8_slot_5 (by decide) (fun h_5 => ?_) (fun h_5 => ?_)
  · refine J_iload_n (pc := 11) C0 2 dX8_slot_11 rfl rfl ?_
    refine J_if (fun h_12_0 => ?_) (fun h_12_0 => ?_)
    · refine J_tblIn (pc := 12) (tgt := 60) C0 dX8_slot_12 h_12_0 (by decide) (by decide) rfl (by decide) ?_
      refine J_aload_n (pc := 60) C0 0 dX8_slot_60 rfl rfl ?_
      refine J_get (pc := 61) (v := .ref (ad 5)) C0 0 wR_o rfl in_X8 7 (by decide) q409 rfl dX8_slot_61 ?_
      refine J_iload_n (pc := 64) C0 1 dX8_slot_64 rfl rfl ?_
      refine J_iald (pc := 65) C0 5 0 wR_a5 rfl dX8_slot_65 (fun h_65 => ?_)
      exact J_iret C0 dX8_slot_66
    refine J_if (fun h_12_1 => ?_) (fun h_12_1 => ?_)
    · refine J_tblIn (pc := 12) (tgt := 67) C0 dX8_slot_12 h_12_1 (by decide) (by decide) rfl (by decide) ?_
      refine J_aload_n (pc := 67) C0 0 dX8_slot_67 rfl rfl ?_
      refine J_get (pc := 68) (v := .ref (ad 6)) C0 0 wR_o rfl in_X8 8 (by decide) q412 rfl dX8_slot_68 ?_
      refine J_iload_n (pc := 71) C0 1 dX8_slot_71 rfl rfl ?_
      refine J_iald (pc := 72) C0 6 0 wR_a6 rfl dX8_slot_72 (fun h_72 => ?_)
      exact J_iret C0 dX8_slot_73
    refine J_if (fun h_12_2 => ?_) (fun h_12_2 => ?_)
    · refine J_tblIn (pc := 12) (tgt := 74) C0 dX8_slot_12 h_12_2 (by decide) (by decide) rfl (by decide) ?_
      refine J_aload_n (pc := 74) C0 0 dX8_slot_74 rfl rfl ?_
      refine J_get (pc := 75) (v := .ref (ad 7)) C0 0 wR_o rfl in_X8 9 (by decide) q410 rfl dX8_slot_75 ?_
      refine J_iload_n (pc := 78) C0 1 dX8_slot_78 rfl rfl ?_
      refine J_iald (pc := 79) C0 7 0 wR_a7 rfl dX8_slot_79 (fun h_79 => ?_)
      refine J_iconst (pc := 80) (v := (nI 4)) C0 dX8_slot_80 (by decide) ?_
      refine J_icmp_ne (pc := 81) (tgt := 88) C0 dX8_slot_81 (by decide) (fun h_81 => ?_) (fun h_81 => ?_)
      · refine J_iconst (pc := 88) (v := 0) C0 dX8_slot_88 (by decide) ?_
        exact J_iret C0 dX8_slot_89
      · refine J_iconst (pc := 84) (v := 1) C0 dX8_slot_84 (by decide) ?_
        refine J_goto (pc := 85) (tgt := 89) C0 dX8_slot_85 (by decide) ?_
        exact J_iret C0 dX8_slot_89
    refine J_if (fun h_12_3 => ?_) (fun h_12_3 => ?_)
    · refine J_tblIn (pc := 12) (tgt := 90) C0 dX8_slot_12 h_12_3 (by decide) (by decide) rfl (by decide) ?_
      refine J_aload_n (pc := 90) C0 0 dX8_slot_90 rfl rfl ?_
      refine J_iload_n (pc := 91) C0 1 dX8_slot_91 rfl rfl ?_
      refine fin_P (fun r_ h_ => run_V (As := [.int x1]) (rest := []) (q0 := 0) C0 (c_X8_crossed σ2 x1  r_ h_) v_X8_crossed q539 wR_o rfl rfl ⟨rfl, rfl⟩ (Rm_ok (by decide) (by decide)) rfl (Nat.le_of_ble_eq_true rfl) dX8_slot_92) (fun r92 e92 => ?_)
      exact J_iret C0 dX8_slot_95
    refine J_if (fun h_12_4 => ?_) (fun h_12_4 => ?_)
    · refine J_tblIn (pc := 12) (tgt := 96) C0 dX8_slot_12 h_12_4 (by decide) (by decide) rfl (by decide) ?_
      refine J_aload_n (pc := 96) C0 0 dX8_slot_96 rfl rfl ?_
      refine J_iload_n (pc := 97) C0 1 dX8_slot_97 rfl rfl ?_
      refine fin_P (fun r_ h_ => run_V (As := [.int x1]) (rest := []) (q0 := 0) C0 (c_X8_fittingWords σ2 x1  r_ h_) v_X8_fittingWords q543 wR_o rfl rfl ⟨rfl, rfl⟩ (Rm_ok (by decide) (by decide)) rfl (Nat.le_of_ble_eq_true rfl) dX8_slot_98) (fun r98 e98 => ?_)
      exact J_iret C0 dX8_slot_101
    refine J_if (fun h_12_5 => ?_) (fun h_12_5 => ?_)
    · refine J_tblIn (pc := 12) (tgt := 102) C0 dX8_slot_12 h_12_5 (by decide) (by decide) rfl (by decide) ?_
      refine J_aload_n (pc := 102) C0 0 dX8_slot_102 rfl rfl ?_
      refine fin_V (fun r_ h_ => run_V (As := []) (rest := []) (q0 := 0) C0 (c_X8_layLeft σ2   r_ h_) v_X8_layLeft q535 wR_o rfl rfl ⟨rfl, rfl⟩ (Rm_ok (by decide) (by decide)) rfl (Nat.le_of_ble_eq_true rfl) dX8_slot_103) (fun σ103 e103 => ?_)
      refine J_aload_n (pc := 106) C0 0 dX8_slot_106 rfl rfl ?_
      refine J_get (pc := 107) (v := .ref (ad 8)) C0 0 wR_o rfl in_X8 11 (by decide) q503 rfl dX8_slot_107 ?_
      refine J_iload_n (pc := 110) C0 1 dX8_slot_110 rfl rfl ?_
      refine J_iald (pc := 111) C0 8 0 wR_a8 rfl dX8_slot_111 (fun h_111 => ?_)
      exact J_iret C0 dX8_slot_112
    refine J_if (fun h_12_6 => ?_) (fun h_12_6 => ?_)
    · refine J_tblIn (pc := 12) (tgt := 113) C0 dX8_slot_12 h_12_6 (by decide) (by decide) rfl (by decide) ?_
      refine J_aload_n (pc := 113) C0 0 dX8_slot_113 rfl rfl ?_
      refine J_iload_n (pc := 114) C0 1 dX8_slot_114 rfl rfl ?_
      refine fin_P (fun r_ h_ => run_V (As := [.int x1]) (rest := []) (q0 := 0) C0 (c_X8_isFull σ2 x1  r_ h_) v_X8_isFull q474 wR_o rfl rfl ⟨rfl, rfl⟩ (Rm_ok (by decide) (by decide)) rfl (Nat.le_of_ble_eq_true rfl) dX8_slot_115) (fun r115 e115 => ?_)
      refine J_if_eq (pc := 118) (tgt := 133) C0 dX8_slot_118 (by decide) (fun h_118 => ?_) (fun h_118 => ?_)
      · refine J_iconst (pc := 133) (v := (-1)) C0 dX8_slot_133 (by decide) ?_
        exact J_iret C0 dX8_slot_134
      · refine J_aload_n (pc := 121) C0 0 dX8_slot_121 rfl rfl ?_
        refine J_aload_n (pc := 122) C0 0 dX8_slot_122 rfl rfl ?_
        refine J_iload_n (pc := 123) C0 1 dX8_slot_123 rfl rfl ?_
        refine fin_P (fun r_ h_ => run_V (As := [.int x1]) (rest := [.ref (ad 0)]) (q0 := 0) C0 (c_X8_lettersOf σ2 x1  r_ h_) v_X8_lettersOf q478 wR_o rfl rfl ⟨rfl, rfl⟩ (Rm_ok (by decide) (by decide)) rfl (Nat.le_of_ble_eq_true rfl) dX8_slot_124) (fun r124 e124 => ?_)
        refine fin_P (fun r_ h_ => run_V (As := [.int r124]) (rest := []) (q0 := 0) C0 (c_X8_findCode σ2 r124  r_ h_) v_X8_findCode q463 wR_o rfl rfl ⟨rfl, rfl⟩ (Rm_ok (by decide) (by decide)) rfl (Nat.le_of_ble_eq_true rfl) dX8_slot_127) (fun r127 e127 => ?_)
        refine J_goto (pc := 130) (tgt := 134) C0 dX8_slot_130 (by decide) ?_
        exact J_iret C0 dX8_slot_134
    refine J_if (fun h_12_7 => ?_) (fun h_12_7 => ?_)
    · refine J_tblIn (pc := 12) (tgt := 135) C0 dX8_slot_12 h_12_7 (by decide) (by decide) rfl (by decide) ?_
      refine J_aload_n (pc := 135) C0 0 dX8_slot_135 rfl rfl ?_
      refine J_aload_n (pc := 136) C0 0 dX8_slot_136 rfl rfl ?_
      refine fin_P (fun r_ h_ => run_V (As := []) (rest := [.ref (ad 0)]) (q0 := 0) C0 (c_X8_all σ2   r_ h_) v_X8_all q520 wR_o rfl rfl ⟨rfl, rfl⟩ (Rm_ok (by decide) (by decide)) rfl (Nat.le_of_ble_eq_true rfl) dX8_slot_137) (fun r137 e137 => ?_)
      refine J_iconst (pc := 140) (v := 1) C0 dX8_slot_140 (by decide) ?_
      refine J_iconst (pc := 141) (v := (-1)) C0 dX8_slot_141 (by decide) ?_
      refine J_iconst (pc := 142) (v := 0) C0 dX8_slot_142 (by decide) ?_
      refine fin_I (fun r_ h_ => run_V (As := [.int r137, .int 1, .int (-1), .int 0]) (rest := []) (q0 := 0) C0 (c_X8_fillings σ2 r137 1 (-1) 0  r_ h_) v_X8_fillings q524 wR_o rfl rfl ⟨rfl, rfl⟩ (Rm_ok (by decide) (by decide)) rfl (Nat.le_of_ble_eq_true rfl) dX8_slot_143) (fun r143 σ143 e143 => ?_)
      refine J_if_le (pc := 146) (tgt := 158) C0 dX8_slot_146 (by decide) (fun h_146 => ?_) (fun h_146 => ?_)
      · refine J_iconst (pc := 158) (v := (-1)) C0 dX8_slot_158 (by decide) ?_
        exact J_iret C0 dX8_slot_159
      · refine J_aload_n (pc := 149) C0 0 dX8_slot_149 rfl rfl ?_
        refine J_get (pc := 150) (v := .ref (ad 9)) C0 0 wR_o rfl in_X8 12 (by decide) q498 rfl dX8_slot_150 ?_
        refine J_iload_n (pc := 153) C0 1 dX8_slot_153 rfl rfl ?_
        refine J_iald (pc := 154) C0 9 0 wR_a9 rfl dX8_slot_154 (fun h_154 => ?_)
        refine J_goto (pc := 155) (tgt := 159) C0 dX8_slot_155 (by decide) ?_
        exact J_iret C0 dX8_slot_159
    have t_12_0 := ne_toInt h_12_0 (k := 0) (by decide)
    have t_12_1 := ne_toInt h_12_1 (k := 1) (by decide)
    have t_12_2 := ne_toInt h_12_2 (k := 2) (by decide)
    have t_12_3 := ne_toInt h_12_3 (k := 3) (by decide)
    have t_12_4 := ne_toInt h_12_4 (k := 4) (by decide)
    have t_12_5 := ne_toInt h_12_5 (k := 5) (by decide)
    have t_12_6 := ne_toInt h_12_6 (k := 6) (by decide)
    have t_12_7 := ne_toInt h_12_7 (k := 7) (by decide)
    refine J_tblOut (pc := 12) (tgt := 160) C0 dX8_slot_12 (by omega) (by decide) ?_
    refine J_ldc (pc := 160) C0 q443 dX8_slot_160 ?_
    exact J_iret C0 dX8_slot_162
  · refine J_ldc (pc := 8) C0 q430 dX8_slot_8 ?_
    exact J_iret C0 dX8_slot_10
end SE
