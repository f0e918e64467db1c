def f_X8_cell_L74 (x1 : Int32) (x2 : Int32) : Nat → SR → Int32 → Option (Int32 × SR)
  | 0, _, _ => none
  | n + 1, σ, x3 =>
  (if (σ.1 9 2) ≤ x3 then (some ((-1), σ)) else ((f_X8_placeIn σ x3 x1).bind fun r85 => (if r85 = (-1) then (f_X8_cell_L74 x1 x2 n σ (x3 + 1)) else (if inb x3 8 = true then (if x2 = 1 then (if (σ.1 6 (ix x3)) = 1 then (some (x3, σ)) else (f_X8_cell_L74 x1 x2 n σ (x3 + 1))) else (if (σ.1 6 (ix x3)) = (nI 4) then (some (x3, σ)) else (f_X8_cell_L74 x1 x2 n σ (x3 + 1)))) else none))))
theorem f_X8_cell_L74_s (x1 : Int32) (x2 : Int32) (n : Nat) (σ : SR) (x3 : Int32) : f_X8_cell_L74 x1 x2 (n + 1) σ x3 = ((if (σ.1 9 2) ≤ x3 then (some ((-1), σ)) else ((f_X8_placeIn σ x3 x1).bind fun r85 => (if r85 = (-1) then (f_X8_cell_L74 x1 x2 n σ (x3 + 1)) else (if inb x3 8 = true then (if x2 = 1 then (if (σ.1 6 (ix x3)) = 1 then (some (x3, σ)) else (f_X8_cell_L74 x1 x2 n σ (x3 + 1))) else (if (σ.1 6 (ix x3)) = (nI 4) then (some (x3, σ)) else (f_X8_cell_L74 x1 x2 n σ (x3 + 1)))) else none))))) := rfl
def f_X8_cell (σ : SR) (x1 : Int32) (x2 : Int32) : Option (Int32 × SR) :=
  ((f_X8_in x1 0 (nI 15)).bind fun r4 => (if r4 = 0 then (some ((-1000000001), σ)) else ((f_X8_in x2 0 (nI 3)).bind fun r16 => (if r16 = 0 then (some ((-1000000002), σ)) else (if x2 = 0 then (if inb x1 33 = true then (if (σ.1 0 (ix x1)) ≤ 0 then (if inb x1 33 = true then (some ((σ.1 0 (ix x1)), σ)) else none) else (if inb x1 33 = true then (some (((σ.1 0 (ix x1)) + (nI 96)), σ)) else none)) else none) else (if x2 = (nI 3) then (bnd (f_X8_canBe σ x1) fun r64 σ64 => (some (r64, σ64))) else ((f_X8_laySlots σ).bind fun σ69 => (f_X8_cell_L74 x1 x2 FU σ69 0))))))))
section SE
variable {p : Program} {l : Launch} {e : Env} {s : State} {m : MethodId} {args : Array Value} {below : List Frame} {meth : Method} {c : Code} {D : va_G} {cI cZ : ClassId} {A : Nat → Prop} {ad : Nat → Nat}
set_option maxRecDepth 100000 in
set_option maxHeartbeats 4000000 in
theorem j_X8_cell_L74 (C0 : Cx D (tyA cI cZ) RX8 cX8_cell 4 (some .int) p s m args meth c) (x1 : Int32) (x2 : Int32) : ∀ (n : Nat) (σ : SR) (x3 : Int32), J p l e (Rm 8) s m args below meth c D A (wR ad cI cZ) 4 (QI D A (wR ad cI cZ)) (f_X8_cell_L74 x1 x2 n σ x3) σ [(0, .ref (ad 0)), (1, .int x1), (2, .int x2), (3, .int x3)] [] 74 := by
  intro n
  induction n with
  | zero => intros; exact J_none
  | succ n ih =>
    intro σ x3
    refine J_eq (f_X8_cell_L74_s x1 x2 n σ x3) ?_
    refine J_iload_n (pc := 74) C0 3 dX8_cell_74 rfl rfl ?_
    refine J_aload_n (pc := 75) C0 0 dX8_cell_75 rfl rfl ?_
    refine J_get (pc := 76) (v := .int (σ.1 9 2)) C0 0 wR_o rfl in_X8 6 (by decide) q395 rfl dX8_cell_76 ?_
    refine J_icmp_ge (pc := 79) (tgt := 119) C0 dX8_cell_79 (by decide) (fun h_79 => ?_) (fun h_79 => ?_)
    · refine J_iconst (pc := 119) (v := (-1)) C0 dX8_cell_119 (by decide) ?_
      exact J_iret C0 dX8_cell_120
    · refine J_aload_n (pc := 82) C0 0 dX8_cell_82 rfl rfl ?_
      refine J_iload_n (pc := 83) C0 3 dX8_cell_83 rfl rfl ?_
      refine J_iload_n (pc := 84) C0 1 dX8_cell_84 rfl rfl ?_
      refine fin_P (fun r_ h_ => run_V (As := [.int x3, .int x1]) (rest := []) (q0 := 0) C0 (c_X8_placeIn σ x3 x1  r_ h_) v_X8_placeIn q454 wR_o rfl rfl ⟨rfl, rfl⟩ (Rm_ok (by decide) (by decide)) rfl (Nat.le_of_ble_eq_true rfl) dX8_cell_85) (fun r85 e85 => ?_)
      refine J_iconst (pc := 88) (v := (-1)) C0 dX8_cell_88 (by decide) ?_
      refine J_icmp_eq (pc := 89) (tgt := 113) C0 dX8_cell_89 (by decide) (fun h_89 => ?_) (fun h_89 => ?_)
      · refine J_iinc (pc := 113) (d := 1) (lv' := [(3, .int (x3 + 1)), (0, .ref (ad 0)), (1, .int x1), (2, .int x2)]) C0 3 dX8_cell_113 rfl (by decide) (by decide) rfl ?_
        refine J_goto (pc := 116) (tgt := 74) C0 dX8_cell_116 (by decide) ?_
        refine J_sub (lv' := [(0, .ref (ad 0)), (1, .int x1), (2, .int x2), (3, .int (x3 + 1))]) [1, 2, 3, 0] rfl ?_
        exact ih σ (x3 + 1)
      · refine J_aload_n (pc := 92) C0 0 dX8_cell_92 rfl rfl ?_
        refine J_get (pc := 93) (v := .ref (ad 7)) C0 0 wR_o rfl in_X8 9 (by decide) q410 rfl dX8_cell_93 ?_
        refine J_iload_n (pc := 96) C0 3 dX8_cell_96 rfl rfl ?_
        refine J_iald (pc := 97) C0 7 0 wR_a7 rfl dX8_cell_97 (fun h_97 => ?_)
        refine J_iload_n (pc := 98) C0 2 dX8_cell_98 rfl rfl ?_
        refine J_iconst (pc := 99) (v := 1) C0 dX8_cell_99 (by decide) ?_
        refine J_icmp_ne (pc := 100) (tgt := 107) C0 dX8_cell_100 (by decide) (fun h_100 => ?_) (fun h_100 => ?_)
        · refine J_iconst (pc := 107) (v := (nI 4)) C0 dX8_cell_107 (by decide) ?_
          refine J_icmp_ne (pc := 108) (tgt := 113) C0 dX8_cell_108 (by decide) (fun h_108 => ?_) (fun h_108 => ?_)
          · refine J_iinc (pc := 113) (d := 1) (lv' := [(3, .int (x3 + 1)), (0, .ref (ad 0)), (1, .int x1), (2, .int x2)]) C0 3 dX8_cell_113 rfl (by decide) (by decide) rfl ?_
            refine J_goto (pc := 116) (tgt := 74) C0 dX8_cell_116 (by decide) ?_
            refine J_sub (lv' := [(0, .ref (ad 0)), (1, .int x1), (2, .int x2), (3, .int (x3 + 1))]) [1, 2, 3, 0] rfl ?_
            exact ih σ (x3 + 1)
          · refine J_iload_n (pc := 111) C0 3 dX8_cell_111 rfl rfl ?_
            exact J_iret C0 dX8_cell_112
        · refine J_iconst (pc := 103) (v := 1) C0 dX8_cell_103 (by decide) ?_
          refine J_goto (pc := 104) (tgt := 108) C0 dX8_cell_104 (by decide) ?_
          refine J_icmp_ne (pc := 108) (tgt := 113) C0 dX8_cell_108 (by decide) (fun h_108 => ?_) (fun h_108 => ?_)
          · refine J_iinc (pc := 113) (d := 1) (lv' := [(3, .int (x3 + 1)), (0, .ref (ad 0)), (1, .int x1), (2, .int x2)]) C0 3 dX8_cell_113 rfl (by decide) (by decide) rfl ?_
            refine J_goto (pc := 116) (tgt := 74) C0 dX8_cell_116 (by decide) ?_
            refine J_sub (lv' := [(0, .ref (ad 0)), (1, .int x1), (2, .int x2), (3, .int (x3 + 1))]) [1, 2, 3, 0] rfl ?_
            exact ih σ (x3 + 1)
          · refine J_iload_n (pc := 111) C0 3 dX8_cell_111 rfl rfl ?_
            exact J_iret C0 dX8_cell_112
set_option maxRecDepth 100000 in
set_option maxHeartbeats 4000000 in
theorem c_X8_cell {l : Launch} {D : va_G} {cI cZ : ClassId} {A : Nat → Prop} {ad : Nat → Nat} (σ : SR) (x1 : Int32) (x2 : Int32)  (r : (Int32 × SR)) (h : f_X8_cell σ x1 x2 = some r) : Met l yX8_cell (.code yX8_cell cX8_cell 4 (some .int) :: wG) (Rm 8) (PreW D (tyA cI cZ) A (wR ad cI cZ) [.ref (ad 0), .int x1, .int x2] σ) (QI D A (wR ad cI cZ) r) 0 0 A := by
  refine met_of (M := f_X8_cell σ x1 x2) (Qc := (QI D A (wR ad cI cZ))) (by decide) (Nat.le_of_ble_eq_true rfl) h (fun p e s m below meth c C0 => ?_)
  generalize hargs : ([.ref (ad 0), .int x1, .int x2] : List Value).toArray = args at C0 ⊢
  have C0 : Cx D (tyA cI cZ) RX8 cX8_cell 4 (some .int) p s m args meth c := C0
  refine J_sub (lv' := [(0, .ref (ad 0)), (1, .int x1), (2, .int x2)]) [0, 1, 2] rfl ?_
  unfold f_X8_cell
  refine J_iload_n (pc := 0) C0 1 dX8_cell_0 rfl rfl ?_
  refine J_iconst (pc := 1) (v := 0) C0 dX8_cell_1 (by decide) ?_
  refine J_bipush (pc := 2) (v := (nI 15)) C0 dX8_cell_2 (by decide) ?_
  refine fin_P (fun r_ h_ => run_S (As := [.int x1, .int 0, .int (nI 15)]) (rest := []) C0 (c_X8_in σ x1 0 (nI 15)  r_ h_) v_X8_in q425 rfl ⟨rfl, rfl⟩ (Rm_ok (by decide) (by decide)) rfl (Nat.le_of_ble_eq_true rfl) dX8_cell_4) (fun r4 e4 => ?_)
  refine J_if_ne (pc := 7) (tgt := 13) C0 dX8_cell_7 (by decide) (fun h_7 => ?_) (fun h_7 => ?_)
  · refine J_iload_n (pc := 13) C0 2 dX8_cell_13 rfl rfl ?_
    refine J_iconst (pc := 14) (v := 0) C0 dX8_cell_14 (by decide) ?_
    refine J_iconst (pc := 15) (v := (nI 3)) C0 dX8_cell_15 (by decide) ?_
    refine fin_P (fun r_ h_ => run_S (As := [.int x2, .int 0, .int (nI 3)]) (rest := []) C0 (c_X8_in σ x2 0 (nI 3)  r_ h_) v_X8_in q425 rfl ⟨rfl, rfl⟩ (Rm_ok (by decide) (by decide)) rfl (Nat.le_of_ble_eq_true rfl) dX8_cell_16) (fun r16 e16 => ?_)
    refine J_if_ne (pc := 19) (tgt := 25) C0 dX8_cell_19 (by decide) (fun h_19 => ?_) (fun h_19 => ?_)
    · refine J_iload_n (pc := 25) C0 2 dX8_cell_25 rfl rfl ?_
      refine J_if_ne (pc := 26) (tgt := 57) C0 dX8_cell_26 (by decide) (fun h_26 => ?_) (fun h_26 => ?_)
      · refine J_iload_n (pc := 57) C0 2 dX8_cell_57 rfl rfl ?_
        refine J_iconst (pc := 58) (v := (nI 3)) C0 dX8_cell_58 (by decide) ?_
        refine J_icmp_ne (pc := 59) (tgt := 68) C0 dX8_cell_59 (by decide) (fun h_59 => ?_) (fun h_59 => ?_)
        · refine J_aload_n (pc := 68) C0 0 dX8_cell_68 rfl rfl ?_
          refine fin_V (fun r_ h_ => run_V (As := []) (rest := []) (q0 := 0) C0 (c_X8_laySlots σ   r_ h_) v_X8_laySlots q450 wR_o rfl rfl ⟨rfl, rfl⟩ (Rm_ok (by decide) (by decide)) rfl (Nat.le_of_ble_eq_true rfl) dX8_cell_69) (fun σ69 e69 => ?_)
          refine J_iconst (pc := 72) (v := 0) C0 dX8_cell_72 (by decide) ?_
          refine J_istore_n (pc := 73) (lv' := [(3, .int 0), (0, .ref (ad 0)), (1, .int x1), (2, .int x2)]) C0 dX8_cell_73 rfl (by decide) rfl ?_
          refine J_sub (lv' := [(0, .ref (ad 0)), (1, .int x1), (2, .int x2), (3, .int 0)]) [1, 2, 3, 0] rfl ?_
          exact j_X8_cell_L74 C0 x1 x2 FU σ69 0
        · refine J_aload_n (pc := 62) C0 0 dX8_cell_62 rfl rfl ?_
          refine J_iload_n (pc := 63) C0 1 dX8_cell_63 rfl rfl ?_
          refine fin_I (fun r_ h_ => run_V (As := [.int x1]) (rest := []) (q0 := 0) C0 (c_X8_canBe σ x1  r_ h_) v_X8_canBe q547 wR_o rfl rfl ⟨rfl, rfl⟩ (Rm_ok (by decide) (by decide)) rfl (Nat.le_of_ble_eq_true rfl) dX8_cell_64) (fun r64 σ64 e64 => ?_)
          exact J_iret C0 dX8_cell_67
      · refine J_aload_n (pc := 29) C0 0 dX8_cell_29 rfl rfl ?_
        refine J_get (pc := 30) (v := .ref (ad 1)) C0 0 wR_o rfl in_X8 0 (by decide) q411 rfl dX8_cell_30 ?_
        refine J_iload_n (pc := 33) C0 1 dX8_cell_33 rfl rfl ?_
        refine J_iald (pc := 34) C0 1 0 wR_a1 rfl dX8_cell_34 (fun h_34 => ?_)
        refine J_if_le (pc := 35) (tgt := 50) C0 dX8_cell_35 (by decide) (fun h_35 => ?_) (fun h_35 => ?_)
        · refine J_aload_n (pc := 50) C0 0 dX8_cell_50 rfl rfl ?_
          refine J_get (pc := 51) (v := .ref (ad 1)) C0 0 wR_o rfl in_X8 0 (by decide) q411 rfl dX8_cell_51 ?_
          refine J_iload_n (pc := 54) C0 1 dX8_cell_54 rfl rfl ?_
          refine J_iald (pc := 55) C0 1 0 wR_a1 rfl dX8_cell_55 (fun h_55 => ?_)
          exact J_iret C0 dX8_cell_56
        · refine J_aload_n (pc := 38) C0 0 dX8_cell_38 rfl rfl ?_
          refine J_get (pc := 39) (v := .ref (ad 1)) C0 0 wR_o rfl in_X8 0 (by decide) q411 rfl dX8_cell_39 ?_
          refine J_iload_n (pc := 42) C0 1 dX8_cell_42 rfl rfl ?_
          refine J_iald (pc := 43) C0 1 0 wR_a1 rfl dX8_cell_43 (fun h_43 => ?_)
          refine J_bipush (pc := 44) (v := (nI 96)) C0 dX8_cell_44 (by decide) ?_
          refine J_iadd (pc := 46) C0 dX8_cell_46 ?_
          refine J_goto (pc := 47) (tgt := 56) C0 dX8_cell_47 (by decide) ?_
          exact J_iret C0 dX8_cell_56
    · refine J_ldc (pc := 22) C0 q443 dX8_cell_22 ?_
      exact J_iret C0 dX8_cell_24
  · refine J_ldc (pc := 10) C0 q430 dX8_cell_10 ?_
    exact J_iret C0 dX8_cell_12
end SE

def f_X8_told (σ : SR) (x1 : Int32) : Option (Int32 × SR) :=
  ((f_X8_laySlots σ).bind fun σ1 => (if x1 = 0 then (some ((σ1.1 9 2), σ1)) else (if x1 = 1 then (if inb (nI 16) 33 = true then (some ((σ1.1 0 (ix (nI 16))), σ1)) else none) else (if x1 = (nI 2) then ((f_X8_ofCells σ1 x1).bind fun r83 => (some (r83, σ1))) else (if x1 = (nI 3) then ((f_X8_ofCells σ1 x1).bind fun r83 => (some (r83, σ1))) else (if x1 = (nI 4) then (bnd (f_X8_ofSlots σ1 x1) fun r89 σ89 => (some (r89, σ89))) else (if x1 = (nI 5) then (bnd (f_X8_ofSlots σ1 x1) fun r89 σ89 => (some (r89, σ89))) else (if x1 = (nI 6) then (bnd (f_X8_wrong σ1) fun r94 σ94 => (some (r94, σ94))) else (if x1 = (nI 7) then (bnd (f_X8_hardest σ1) fun r99 σ99 => (some (r99, σ99))) else (if x1 = (nI 8) then ((f_X8_all σ1).bind fun r105 => (bnd (f_X8_fillings σ1 r105 (nI 999) (-1) 0) fun r113 σ113 => (some (r113, σ113)))) else (if x1 = (nI 9) then (bnd (f_X8_knot σ1) fun r118 σ118 => (some (r118, σ118))) else (if x1 = (nI 10) then (bnd (f_X8_ofSlots σ1 x1) fun r89 σ89 => (some (r89, σ89))) else (if x1 = (nI 11) then (some ((σ1.1 9 0), σ1)) else (some ((-1000000002), σ1)))))))))))))))
section SE
variable {p : Program} {l : Launch} {e : Env} {s : State} {m : MethodId} {args : Array Value} {below : List Frame} {meth : Method} {c : Code} {D : va_G} {cI cZ : ClassId} {A : Nat → Prop} {ad : Nat → Nat}
set_option maxRecDepth 100000 in
set_option maxHeartbeats 4000000 in
theorem c_X8_told {l : Launch} {D : va_G} {cI cZ : ClassId} {A : Nat → Prop} {ad : Nat → Nat} (σ : SR) (x1 : Int32)  (r : (Int32 × SR)) (h : f_X8_told σ x1 = some r) : Met l yX8_told (.code yX8_told cX8_told 2 (some .int) :: wG) (Rm 8) (PreW D (tyA cI cZ) A (wR ad cI cZ) [.ref (ad 0), .int x1] σ) (QI D A (wR ad cI cZ) r) 0 0 A := by
  refine met_of (M := f_X8_told σ x1) (Qc := (QI D A (wR ad cI cZ))) (by decide) (Nat.le_of_ble_eq_true rfl) h (fun p e s m below meth c C0 => ?_)
  generalize hargs : ([.ref (ad 0), .int x1] : List Value).toArray = args at C0 ⊢
  have C0 : Cx D (tyA cI cZ) RX8 cX8_told 2 (some .int) p s m args meth c := C0
  refine J_sub (lv' := [(0, .ref (ad 0)), (1, .int x1)]) [0, 1] rfl ?_
  unfold f_X8_told
  refine J_aload_n (pc := 0) C0 0 dX8_told_0 rfl rfl ?_
  refine fin_V (fun r_ h_ => run_V (As := []) (rest := []) (q0 := 0) C0 (c_X8_laySlots σ   r_ h_) v_X8_laySlots q450 wR_o rfl rfl ⟨rfl, rfl⟩ (Rm_ok (by decide) (by decide)) rfl (Nat.le_of_ble_eq_true rfl) dX8_told_1) (fun σ1 e1 => ?_)
  refine J_iload_n (pc := 4) C0 1 dX8_told_4 rfl rfl ?_
  refine J_if (fun h_5_0 => ?_) (fun h_5_0 => ?_)
  · refine J_tblIn (pc := 5) (tgt := 68) C0 dX8_told_5 h_5_0 (by decide) (by decide) rfl (by decide) ?_
    refine J_aload_n (pc := 68) C0 0 dX8_told_68 rfl rfl ?_
    refine J_get (pc := 69) (v := .int (σ1.1 9 2)) C0 0 wR_o rfl in_X8 6 (by decide) q395 rfl dX8_told_69 ?_
    exact J_iret C0 dX8_told_72
  refine J_if (fun h_5_1 => ?_) (fun h_5_1 => ?_)
  · refine J_tblIn (pc := 5) (tgt := 73) C0 dX8_told_5 h_5_1 (by decide) (by decide) rfl (by decide) ?_
    refine J_aload_n (pc := 73) C0 0 dX8_told_73 rfl rfl ?_
    refine J_get (pc := 74) (v := .ref (ad 1)) C0 0 wR_o rfl in_X8 0 (by decide) q411 rfl dX8_told_74 ?_
    refine J_bipush (pc := 77) (v := (nI 16)) C0 dX8_told_77 (by decide) ?_
    refine J_iald (pc := 79) C0 1 0 wR_a1 rfl dX8_told_79 (fun h_79 => ?_)
    exact J_iret C0 dX8_told_80
  refine J_if (fun h_5_2 => ?_) (fun h_5_2 => ?_)
  · refine J_tblIn (pc := 5) (tgt := 81) C0 dX8_told_5 h_5_2 (by decide) (by decide) rfl (by decide) ?_
    refine J_aload_n (pc := 81) C0 0 dX8_told_81 rfl rfl ?_
    refine J_iload_n (pc := 82) C0 1 dX8_told_82 rfl rfl ?_
    refine fin_P (fun r_ h_ => run_V (As := [.int x1]) (rest := []) (q0 := 0) C0 (c_X8_ofCells σ1 x1  r_ h_) v_X8_ofCells q551 wR_o rfl rfl ⟨rfl, rfl⟩ (Rm_ok (by decide) (by decide)) rfl (Nat.le_of_ble_eq_true rfl) dX8_told_83) (fun r83 e83 => ?_)
    exact J_iret C0 dX8_told_86
  refine J_if (fun h_5_3 => ?_) (fun h_5_3 => ?_)
  · refine J_tblIn (pc := 5) (tgt := 81) C0 dX8_told_5 h_5_3 (by decide) (by decide) rfl (by decide) ?_
    refine J_aload_n (pc := 81) C0 0 dX8_told_81 rfl rfl ?_
    refine J_iload_n (pc := 82) C0 1 dX8_told_82 rfl rfl ?_
    refine fin_P (fun r_ h_ => run_V (As := [.int x1]) (rest := []) (q0 := 0) C0 (c_X8_ofCells σ1 x1  r_ h_) v_X8_ofCells q551 wR_o rfl rfl ⟨rfl, rfl⟩ (Rm_ok (by decide) (by decide)) rfl (Nat.le_of_ble_eq_true rfl) dX8_told_83) (fun r83 e83 => ?_)
    exact J_iret C0 dX8_told_86
  refine J_if (fun h_5_4 => ?_) (fun h_5_4 => ?_)
  · refine J_tblIn (pc := 5) (tgt := 87) C0 dX8_told_5 h_5_4 (by decide) (by decide) rfl (by decide) ?_
    refine J_aload_n (pc := 87) C0 0 dX8_told_87 rfl rfl ?_
    refine J_iload_n (pc := 88) C0 1 dX8_told_88 rfl rfl ?_
    refine fin_I (fun r_ h_ => run_V (As := [.int x1]) (rest := []) (q0 := 0) C0 (c_X8_ofSlots σ1 x1  r_ h_) v_X8_ofSlots q555 wR_o rfl rfl ⟨rfl, rfl⟩ (Rm_ok (by decide) (by decide)) rfl (Nat.le_of_ble_eq_true rfl) dX8_told_89) (fun r89 σ89 e89 => ?_)
    exact J_iret C0 dX8_told_92
  refine J_if (fun h_5_5 => ?_) (fun h_5_5 => ?_)
  · refine J_tblIn (pc := 5) (tgt := 87) C0 dX8_told_5 h_5_5 (by decide) (by decide) rfl (by decide) ?_
    refine J_aload_n (pc := 87) C0 0 dX8_told_87 rfl rfl ?_
    refine J_iload_n (pc := 88) C0 1 dX8_told_88 rfl rfl ?_
    refine fin_I (fun r_ h_ => run_V (As := [.int x1]) (rest := []) (q0 := 0) C0 (c_X8_ofSlots σ1 x1  r_ h_) v_X8_ofSlots q555 wR_o rfl rfl ⟨rfl, rfl⟩ (Rm_ok (by decide) (by decide)) rfl (Nat.le_of_ble_eq_true rfl) dX8_told_89) (fun r89 σ89 e89 => ?_)
    exact J_iret C0 dX8_told_92
  refine J_if (fun h_5_6 => ?_) (fun h_5_6 => ?_)
  · refine J_tblIn (pc := 5) (tgt := 93) C0 dX8_told_5 h_5_6 (by decide) (by decide) rfl (by decide) ?_
    refine J_aload_n (pc := 93) C0 0 dX8_told_93 rfl rfl ?_
    refine fin_I (fun r_ h_ => run_V (As := []) (rest := []) (q0 := 0) C0 (c_X8_wrong σ1   r_ h_) v_X8_wrong q559 wR_o rfl rfl ⟨rfl, rfl⟩ (Rm_ok (by decide) (by decide)) rfl (Nat.le_of_ble_eq_true rfl) dX8_told_94) (fun r94 σ94 e94 => ?_)
    exact J_iret C0 dX8_told_97
  refine J_if (fun h_5_7 => ?_) (fun h_5_7 => ?_)
  · refine J_tblIn (pc := 5) (tgt := 98) C0 dX8_told_5 h_5_7 (by decide) (by decide) rfl (by decide) ?_
    refine J_aload_n (pc := 98) C0 0 dX8_told_98 rfl rfl ?_
    refine fin_I (fun r_ h_ => run_V (As := []) (rest := []) (q0 := 0) C0 (c_X8_hardest σ1   r_ h_) v_X8_hardest q563 wR_o rfl rfl ⟨rfl, rfl⟩ (Rm_ok (by decide) (by decide)) rfl (Nat.le_of_ble_eq_true rfl) dX8_told_99) (fun r99 σ99 e99 => ?_)
    exact J_iret C0 dX8_told_102
  refine J_if (fun h_5_8 => ?_) (fun h_5_8 => ?_)
  · refine J_tblIn (pc := 5) (tgt := 103) C0 dX8_told_5 h_5_8 (by decide) (by decide) rfl (by decide) ?_
    refine J_aload_n (pc := 103) C0 0 dX8_told_103 rfl rfl ?_
    refine J_aload_n (pc := 104) C0 0 dX8_told_104 rfl rfl ?_
    refine fin_P (fun r_ h_ => run_V (As := []) (rest := [.ref (ad 0)]) (q0 := 0) C0 (c_X8_all σ1   r_ h_) v_X8_all q520 wR_o rfl rfl ⟨rfl, rfl⟩ (Rm_ok (by decide) (by decide)) rfl (Nat.le_of_ble_eq_true rfl) dX8_told_105) (fun r105 e105 => ?_)
    refine J_sipush (pc := 108) (v := (nI 999)) C0 dX8_told_108 (by decide) ?_
    refine J_iconst (pc := 111) (v := (-1)) C0 dX8_told_111 (by decide) ?_
    refine J_iconst (pc := 112) (v := 0) C0 dX8_told_112 (by decide) ?_
    refine fin_I (fun r_ h_ => run_V (As := [.int r105, .int (nI 999), .int (-1), .int 0]) (rest := []) (q0 := 0) C0 (c_X8_fillings σ1 r105 (nI 999) (-1) 0  r_ h_) v_X8_fillings q524 wR_o rfl rfl ⟨rfl, rfl⟩ (Rm_ok (by decide) (by decide)) rfl (Nat.le_of_ble_eq_true rfl) dX8_told_113) (fun r113 σ113 e113 => ?_)
    exact J_iret C0 dX8_told_116
  refine J_if (fun h_5_9 => ?_) (fun h_5_9 => ?_)
  · refine J_tblIn (pc := 5) (tgt := 117) C0 dX8_told_5 h_5_9 (by decide) (by decide) rfl (by decide) ?_
    refine J_aload_n (pc := 117) C0 0 dX8_told_117 rfl rfl ?_
    refine fin_I (fun r_ h_ => run_V (As := []) (rest := []) (q0 := 0) C0 (c_X8_knot σ1   r_ h_) v_X8_knot q567 wR_o rfl rfl ⟨rfl, rfl⟩ (Rm_ok (by decide) (by decide)) rfl (Nat.le_of_ble_eq_true rfl) dX8_told_118) (fun r118 σ118 e118 => ?_)
    exact J_iret C0 dX8_told_121
  refine J_if (fun h_5_10 => ?_) (fun h_5_10 => ?_)
  · refine J_tblIn (pc := 5) (tgt := 87) C0 dX8_told_5 h_5_10 (by decide) (by decide) rfl (by decide) ?_
    refine J_aload_n (pc := 87) C0 0 dX8_told_87 rfl rfl ?_
    refine J_iload_n (pc := 88) C0 1 dX8_told_88 rfl rfl ?_
    refine fin_I (fun r_ h_ => run_V (As := [.int x1]) (rest := []) (q0 := 0) C0 (c_X8_ofSlots σ1 x1  r_ h_) v_X8_ofSlots q555 wR_o rfl rfl ⟨rfl, rfl⟩ (Rm_ok (by decide) (by decide)) rfl (Nat.le_of_ble_eq_true rfl) dX8_told_89) (fun r89 σ89 e89 => ?_)
    exact J_iret C0 dX8_told_92
  refine J_if (fun h_5_11 => ?_) (fun h_5_11 => ?_)
  · refine J_tblIn (pc := 5) (tgt := 122) C0 dX8_told_5 h_5_11 (by decide) (by decide) rfl (by decide) ?_
    refine J_aload_n (pc := 122) C0 0 dX8_told_122 rfl rfl ?_
    refine J_get (pc := 123) (v := .int (σ1.1 9 0)) C0 0 wR_o rfl in_X8 1 (by decide) q418 rfl dX8_told_123 ?_
    exact J_iret C0 dX8_told_126
  have t_5_0 := ne_toInt h_5_0 (k := 0) (by decide)
  have t_5_1 := ne_toInt h_5_1 (k := 1) (by decide)
  have t_5_2 := ne_toInt h_5_2 (k := 2) (by decide)
  have t_5_3 := ne_toInt h_5_3 (k := 3) (by decide)
  have t_5_4 := ne_toInt h_5_4 (k := 4) (by decide)
  have t_5_5 := ne_toInt h_5_5 (k := 5) (by decide)
  have t_5_6 := ne_toInt h_5_6 (k := 6) (by decide)
  have t_5_7 := ne_toInt h_5_7 (k := 7) (by decide)
  have t_5_8 := ne_toInt h_5_8 (k := 8) (by decide)
  have t_5_9 := ne_toInt h_5_9 (k := 9) (by decide)
  have t_5_10 := ne_toInt h_5_10 (k := 10) (by decide)
  have t_5_11 := ne_toInt h_5_11 (k := 11) (by decide)
  refine J_tblOut (pc := 5) (tgt := 127) C0 dX8_told_5 (by omega) (by decide) ?_
  refine J_ldc (pc := 127) C0 q443 dX8_told_127 ?_
  exact J_iret C0 dX8_told_129
end SE

def f_X8_word (σ : SR) (x1 : Int32) (x2 : Int32) : Option (Int32 × SR) :=
  ((f_X8_isWord σ x1).bind fun r2 => (if r2 = 0 then (some ((-1000000001), σ)) else ((f_X8_in x2 0 (nI 4)).bind fun r14 => (if r14 = 0 then (some ((-1000000002), σ)) else (if x2 = 0 then ((f_X8_codeAt σ x1).bind fun r29 => (some (r29, σ))) else (if x2 = 1 then ((f_X8_codeAt σ x1).bind fun r42 => ((f_X8_lengthOf r42).bind fun r45 => (some (r45, σ)))) else (bnd (f_X8_ofWord σ x1 x2) fun r54 σ54 => (some (r54, σ54)))))))))
section SE
variable {p : Program} {l : Launch} {e : Env} {s : State} {m : MethodId} {args : Array Value} {below : List Frame} {meth : Method} {c : Code} {D : va_G} {cI cZ : ClassId} {A : Nat → Prop} {ad : Nat → Nat}
set_option maxRecDepth 100000 in
set_option maxHeartbeats 4000000 in
theorem c_X8_word {l : Launch} {D : va_G} {cI cZ : ClassId} {A : Nat → Prop} {ad : Nat → Nat} (σ : SR) (x1 : Int32) (x2 : Int32)  (r : (Int32 × SR)) (h : f_X8_word σ x1 x2 = some r) : Met l yX8_word (.code yX8_word cX8_word 3 (some .int) :: wG) (Rm 8) (PreW D (tyA cI cZ) A (wR ad cI cZ) [.ref (ad 0), .int x1, .int x2] σ) (QI D A (wR ad cI cZ) r) 0 0 A := by
  refine met_of (M := f_X8_word σ x1 x2) (Qc := (QI D A (wR ad cI cZ))) (by decide) (Nat.le_of_ble_eq_true rfl) h (fun p e s m below meth c C0 => ?_)
  generalize hargs : ([.ref (ad 0), .int x1, .int x2] : List Value).toArray = args at C0 ⊢
  have C0 : Cx D (tyA cI cZ) RX8 cX8_word 3 (some .int) p s m args meth c := C0
  refine J_sub (lv' := [(0, .ref (ad 0)), (1, .int x1), (2, .int x2)]) [0, 1, 2] rfl ?_
  unfold f_X8_word
  refine J_aload_n (pc := 0) C0 0 dX8_word_0 rfl rfl ?_
  refine J_iload_n (pc := 1) C0 1 dX8_word_1 rfl rfl ?_
  refine fin_P (fun r_ h_ => run_V (As := [.int x1]) (rest := []) (q0 := 0) C0 (c_X8_isWord σ x1  r_ h_) v_X8_isWord q470 wR_o rfl rfl ⟨rfl, rfl⟩ (Rm_ok (by decide) (by decide)) rfl (Nat.le_of_ble_eq_true rfl) dX8_word_2) (fun r2 e2 => ?_)
  refine J_if_ne (pc := 5) (tgt := 11) C0 dX8_word_5 (by decide) (fun h_5 => ?_) (fun h_5 => ?_)
  · refine J_iload_n (pc := 11) C0 2 dX8_word_11 rfl rfl ?_
    refine J_iconst (pc := 12) (v := 0) C0 dX8_word_12 (by decide) ?_
    refine J_iconst (pc := 13) (v := (nI 4)) C0 dX8_word_13 (by decide) ?_
    refine fin_P (fun r_ h_ => run_S (As := [.int x2, .int 0, .int (nI 4)]) (rest := []) C0 (c_X8_in σ x2 0 (nI 4)  r_ h_) v_X8_in q425 rfl ⟨rfl, rfl⟩ (Rm_ok (by decide) (by decide)) rfl (Nat.le_of_ble_eq_true rfl) dX8_word_14) (fun r14 e14 => ?_)
    refine J_if_ne (pc := 17) (tgt := 23) C0 dX8_word_17 (by decide) (fun h_17 => ?_) (fun h_17 => ?_)
    · refine J_iload_n (pc := 23) C0 2 dX8_word_23 rfl rfl ?_
      refine J_if_ne (pc := 24) (tgt := 35) C0 dX8_word_24 (by decide) (fun h_24 => ?_) (fun h_24 => ?_)
      · refine J_iload_n (pc := 35) C0 2 dX8_word_35 rfl rfl ?_
        refine J_iconst (pc := 36) (v := 1) C0 dX8_word_36 (by decide) ?_
        refine J_icmp_ne (pc := 37) (tgt := 51) C0 dX8_word_37 (by decide) (fun h_37 => ?_) (fun h_37 => ?_)
        · refine J_aload_n (pc := 51) C0 0 dX8_word_51 rfl rfl ?_
          refine J_iload_n (pc := 52) C0 1 dX8_word_52 rfl rfl ?_
          refine J_iload_n (pc := 53) C0 2 dX8_word_53 rfl rfl ?_
          refine fin_I (fun r_ h_ => run_V (As := [.int x1, .int x2]) (rest := []) (q0 := 0) C0 (c_X8_ofWord σ x1 x2  r_ h_) v_X8_ofWord q571 wR_o rfl rfl ⟨rfl, rfl⟩ (Rm_ok (by decide) (by decide)) rfl (Nat.le_of_ble_eq_true rfl) dX8_word_54) (fun r54 σ54 e54 => ?_)
          exact J_iret C0 dX8_word_57
        · refine J_aload_n (pc := 40) C0 0 dX8_word_40 rfl rfl ?_
          refine J_iload_n (pc := 41) C0 1 dX8_word_41 rfl rfl ?_
          refine fin_P (fun r_ h_ => run_V (As := [.int x1]) (rest := []) (q0 := 0) C0 (c_X8_codeAt σ x1  r_ h_) v_X8_codeAt q420 wR_o rfl rfl ⟨rfl, rfl⟩ (Rm_ok (by decide) (by decide)) rfl (Nat.le_of_ble_eq_true rfl) dX8_word_42) (fun r42 e42 => ?_)
          refine fin_P (fun r_ h_ => run_S (As := [.int r42]) (rest := []) C0 (c_X8_lengthOf σ r42  r_ h_) v_X8_lengthOf q444 rfl ⟨rfl, rfl⟩ (Rm_ok (by decide) (by decide)) rfl (Nat.le_of_ble_eq_true rfl) dX8_word_45) (fun r45 e45 => ?_)
          refine J_goto (pc := 48) (tgt := 57) C0 dX8_word_48 (by decide) ?_
          exact J_iret C0 dX8_word_57
      · refine J_aload_n (pc := 27) C0 0 dX8_word_27 rfl rfl ?_
        refine J_iload_n (pc := 28) C0 1 dX8_word_28 rfl rfl ?_
        refine fin_P (fun r_ h_ => run_V (As := [.int x1]) (rest := []) (q0 := 0) C0 (c_X8_codeAt σ x1  r_ h_) v_X8_codeAt q420 wR_o rfl rfl ⟨rfl, rfl⟩ (Rm_ok (by decide) (by decide)) rfl (Nat.le_of_ble_eq_true rfl) dX8_word_29) (fun r29 e29 => ?_)
        refine J_goto (pc := 32) (tgt := 57) C0 dX8_word_32 (by decide) ?_
        exact J_iret C0 dX8_word_57
    · refine J_ldc (pc := 20) C0 q443 dX8_word_20 ?_
      exact J_iret C0 dX8_word_22
  · refine J_ldc (pc := 8) C0 q430 dX8_word_8 ?_
    exact J_iret C0 dX8_word_10
end SE
