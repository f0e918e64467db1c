def f_X1_canBeCrossed_L2 (σ : SC) (x1 : Int32) (x2 : Int32) : Nat → Int32 → Option Int32
  | 0, _ => none
  | n + 1, x3 =>
  (if (σ 17 1) ≤ x3 then (some 1) else (if (cn (rd σ 4 x1) x3) = 0 then (f_X1_canBeCrossed_L2 σ x1 x2 n (x3 + 1)) else ((f_X1_besides σ x1 x2 x3).bind fun r43 => (if ((rd σ 12 x3) &&& r43) = 0 then (some 0) else (f_X1_canBeCrossed_L2 σ x1 x2 n (x3 + 1))))))
theorem f_X1_canBeCrossed_L2_s (σ : SC) (x1 : Int32) (x2 : Int32) (n : Nat) (x3 : Int32) : f_X1_canBeCrossed_L2 σ x1 x2 (n + 1) x3 = ((if (σ 17 1) ≤ x3 then (some 1) else (if (cn (rd σ 4 x1) x3) = 0 then (f_X1_canBeCrossed_L2 σ x1 x2 n (x3 + 1)) else ((f_X1_besides σ x1 x2 x3).bind fun r43 => (if ((rd σ 12 x3) &&& r43) = 0 then (some 0) else (f_X1_canBeCrossed_L2 σ x1 x2 n (x3 + 1))))))) := rfl
def f_X1_canBeCrossed (σ : SC) (x1 : Int32) (x2 : Int32) : Option Int32 :=
  (f_X1_canBeCrossed_L2 σ x1 x2 FU 0)
section SE
variable {p : Program} {l : Launch} {e : Env} {s : State} {m : MethodId} {args : Array Value} {below : List Frame} {meth : Method} {c : Code} {D : va_G} {cI cZ : ClassId} {A : Nat → Prop} {ad : Nat → Nat}
set_option maxRecDepth 100000 in
set_option maxHeartbeats 4000000 in
theorem j_X1_canBeCrossed_L2 (C0 : Cx D (tyA cI cZ) RX1 cX1_canBeCrossed 4 (some .boolean) p s m args meth c) (σ : SC) (x1 : Int32) (x2 : Int32) : ∀ (n : Nat) (x3 : Int32), J p l e (Rm 3) s m args below meth c D A (wC ad cI) 4 (fun r => QI D A (wC ad cI) (r, σ)) (f_X1_canBeCrossed_L2 σ x1 x2 n x3) σ [(0, .ref (ad 38)), (1, .int x1), (2, .int x2), (3, .int x3)] [] 2 := by
  intro n
  induction n with
  | zero => intros; exact J_none
  | succ n ih =>
    intro x3
    refine J_eq (f_X1_canBeCrossed_L2_s σ x1 x2 n x3) ?_
    refine J_iload_n (pc := 2) C0 3 dX1_canBeCrossed_2 rfl rfl ?_
    refine J_aload_n (pc := 3) C0 0 dX1_canBeCrossed_3 rfl rfl ?_
    refine J_get (pc := 4) (v := .ref (ad 36)) C0 38 wC_o38 rfl in_X1 0 (by decide) q43 rfl dX1_canBeCrossed_4 ?_
    refine J_getN (pc := 7) (v := .int (σ 17 1)) C0 36 wC_o36 rfl in_X6 6 (by decide) q56 rfl dX1_canBeCrossed_7 ?_
    refine J_icmp_ge (pc := 10) (tgt := 58) C0 dX1_canBeCrossed_10 (by decide) (fun h_10 => ?_) (fun h_10 => ?_)
    · refine J_iconst (pc := 58) (v := 1) C0 dX1_canBeCrossed_58 (by decide) ?_
      exact J_zretP0 (Or.inr rfl) C0 dX1_canBeCrossed_59
    · refine J_aload_n (pc := 13) C0 0 dX1_canBeCrossed_13 rfl rfl ?_
      refine J_get (pc := 14) (v := .ref (ad 36)) C0 38 wC_o38 rfl in_X1 0 (by decide) q43 rfl dX1_canBeCrossed_14 ?_
      refine J_getN (pc := 17) (v := .ref (ad 4)) C0 36 wC_o36 rfl in_X6 2 (by decide) q106 rfl dX1_canBeCrossed_17 ?_
      refine J_iload_n (pc := 20) C0 1 dX1_canBeCrossed_20 rfl rfl ?_
      refine fin_T (run_V (As := [.int x1]) (rest := []) (q0 := 4) C0 (cT_X5_get σ 4 x1 (by decide)) v_X5_get q49 (wC_row (by decide)) rfl rfl ⟨rfl, rfl⟩ (Rm_ok (by decide) (by decide)) rfl (Nat.le_of_ble_eq_true rfl) dX1_canBeCrossed_21) ?_
      refine J_iload_n (pc := 24) C0 3 dX1_canBeCrossed_24 rfl rfl ?_
      refine fin_T (run_SN (As := [.int (rd σ 4 x1), .int x3]) (rest := []) C0 (cT_X7_contains σ (rd σ 4 x1) x3 ) v_X7_contains q57 rfl ⟨rfl, rfl⟩ (Rm_ok (by decide) (by decide)) rfl (Nat.le_of_ble_eq_true rfl) dX1_canBeCrossed_25) ?_
      refine J_if_eq (pc := 28) (tgt := 52) C0 dX1_canBeCrossed_28 (by decide) (fun h_28 => ?_) (fun h_28 => ?_)
      · refine J_iinc (pc := 52) (d := 1) (lv' := [(3, .int (x3 + 1)), (0, .ref (ad 38)), (1, .int x1), (2, .int x2)]) C0 3 dX1_canBeCrossed_52 rfl (by decide) (by decide) rfl ?_
        refine J_goto (pc := 55) (tgt := 2) C0 dX1_canBeCrossed_55 (by decide) ?_
        refine J_sub (lv' := [(0, .ref (ad 38)), (1, .int x1), (2, .int x2), (3, .int (x3 + 1))]) [1, 2, 3, 0] rfl ?_
        exact ih (x3 + 1)
      · refine J_aload_n (pc := 31) C0 0 dX1_canBeCrossed_31 rfl rfl ?_
        refine J_get (pc := 32) (v := .ref (ad 12)) C0 38 wC_o38 rfl in_X1 3 (by decide) q107 rfl dX1_canBeCrossed_32 ?_
        refine J_iload_n (pc := 35) C0 3 dX1_canBeCrossed_35 rfl rfl ?_
        refine fin_T (run_V (As := [.int x3]) (rest := []) (q0 := 12) C0 (cT_X5_get σ 12 x3 (by decide)) v_X5_get q49 (wC_row (by decide)) rfl rfl ⟨rfl, rfl⟩ (Rm_ok (by decide) (by decide)) rfl (Nat.le_of_ble_eq_true rfl) dX1_canBeCrossed_36) ?_
        refine J_aload_n (pc := 39) C0 0 dX1_canBeCrossed_39 rfl rfl ?_
        refine J_iload_n (pc := 40) C0 1 dX1_canBeCrossed_40 rfl rfl ?_
        refine J_iload_n (pc := 41) C0 2 dX1_canBeCrossed_41 rfl rfl ?_
        refine J_iload_n (pc := 42) C0 3 dX1_canBeCrossed_42 rfl rfl ?_
        refine fin_P (fun r_ h_ => run_V (As := [.int x1, .int x2, .int x3]) (rest := [.int (rd σ 12 x3)]) (q0 := 38) C0 (c_X1_besides σ x1 x2 x3  r_ h_) v_X1_besides q108 wC_o38 rfl rfl ⟨rfl, rfl⟩ (Rm_ok (by decide) (by decide)) rfl (Nat.le_of_ble_eq_true rfl) dX1_canBeCrossed_43) (fun r43 e43 => ?_)
        refine J_iand (pc := 46) C0 dX1_canBeCrossed_46 ?_
        refine J_if_ne (pc := 47) (tgt := 52) C0 dX1_canBeCrossed_47 (by decide) (fun h_47 => ?_) (fun h_47 => ?_)
        · refine J_iinc (pc := 52) (d := 1) (lv' := [(3, .int (x3 + 1)), (0, .ref (ad 38)), (1, .int x1), (2, .int x2)]) C0 3 dX1_canBeCrossed_52 rfl (by decide) (by decide) rfl ?_
          refine J_goto (pc := 55) (tgt := 2) C0 dX1_canBeCrossed_55 (by decide) ?_
          refine J_sub (lv' := [(0, .ref (ad 38)), (1, .int x1), (2, .int x2), (3, .int (x3 + 1))]) [1, 2, 3, 0] rfl ?_
          exact ih (x3 + 1)
        · refine J_iconst (pc := 50) (v := 0) C0 dX1_canBeCrossed_50 (by decide) ?_
          exact J_zretP0 (Or.inl rfl) C0 dX1_canBeCrossed_51
set_option maxRecDepth 100000 in
set_option maxHeartbeats 4000000 in
theorem c_X1_canBeCrossed {l : Launch} {D : va_G} {cI cZ : ClassId} {A : Nat → Prop} {ad : Nat → Nat} (σ : SC) (x1 : Int32) (x2 : Int32)  (r : Int32) (h : f_X1_canBeCrossed σ x1 x2 = some r) : Met l yX1_canBeCrossed (.code yX1_canBeCrossed cX1_canBeCrossed 4 (some .boolean) :: wG) (Rm 3) (PreW D (tyA cI cZ) A (wC ad cI) [.ref (ad 38), .int x1, .int x2] σ) (QI D A (wC ad cI) (r, σ)) 0 0 A := by
  refine met_of (M := f_X1_canBeCrossed σ x1 x2) (Qc := (fun r => QI D A (wC ad cI) (r, σ))) (by decide) (Nat.le_of_ble_eq_true rfl) h (fun p e s m below meth c C0 => ?_)
  generalize hargs : ([.ref (ad 38), .int x1, .int x2] : List Value).toArray = args at C0 ⊢
  have C0 : Cx D (tyA cI cZ) RX1 cX1_canBeCrossed 4 (some .boolean) p s m args meth c := C0
  refine J_sub (lv' := [(0, .ref (ad 38)), (1, .int x1), (2, .int x2)]) [0, 1, 2] rfl ?_
  unfold f_X1_canBeCrossed
  refine J_iconst (pc := 0) (v := 0) C0 dX1_canBeCrossed_0 (by decide) ?_
  refine J_istore_n (pc := 1) (lv' := [(3, .int 0), (0, .ref (ad 38)), (1, .int x1), (2, .int x2)]) C0 dX1_canBeCrossed_1 rfl (by decide) rfl ?_
  refine J_sub (lv' := [(0, .ref (ad 38)), (1, .int x1), (2, .int x2), (3, .int 0)]) [1, 2, 3, 0] rfl ?_
  exact j_X1_canBeCrossed_L2 C0 σ x1 x2 FU 0
end SE

def f_X1_wordsThatFit_L25 (σ : SC) (x1 : Int32) : Nat → Int32 → Int32 → Option Int32
  | 0, _, _ => none
  | n + 1, x3, x4 =>
  (if (rd σ 3 x1) ≤ x4 then (some x3) else ((f_X6_cellAt σ x1 x4).bind fun r52 => (if (rd σ 0 r52) < (nI 97) then (f_X1_wordsThatFit_L25 σ x1 n x3 (x4 + 1)) else ((f_X3_wordsHaving σ x4 ((rd σ 0 r52) - (nI 97))).bind fun r79 => (f_X1_wordsThatFit_L25 σ x1 n (x3 &&& r79) (x4 + 1))))))
theorem f_X1_wordsThatFit_L25_s (σ : SC) (x1 : Int32) (n : Nat) (x3 : Int32) (x4 : Int32) : f_X1_wordsThatFit_L25 σ x1 (n + 1) x3 x4 = ((if (rd σ 3 x1) ≤ x4 then (some x3) else ((f_X6_cellAt σ x1 x4).bind fun r52 => (if (rd σ 0 r52) < (nI 97) then (f_X1_wordsThatFit_L25 σ x1 n x3 (x4 + 1)) else ((f_X3_wordsHaving σ x4 ((rd σ 0 r52) - (nI 97))).bind fun r79 => (f_X1_wordsThatFit_L25 σ x1 n (x3 &&& r79) (x4 + 1))))))) := rfl
def f_X1_wordsThatFit (σ : SC) (x1 : Int32) : Option Int32 :=
  (f_X1_wordsThatFit_L25 σ x1 FU (rd σ 8 (rd σ 3 x1)) 0)
section SE
variable {p : Program} {l : Launch} {e : Env} {s : State} {m : MethodId} {args : Array Value} {below : List Frame} {meth : Method} {c : Code} {D : va_G} {cI cZ : ClassId} {A : Nat → Prop} {ad : Nat → Nat}
set_option maxRecDepth 100000 in
set_option maxHeartbeats 4000000 in
theorem j_X1_wordsThatFit_L25 (C0 : Cx D (tyA cI cZ) RX1 cX1_wordsThatFit 6 (some .int) p s m args meth c) (σ : SC) (x1 : Int32) : ∀ (n : Nat) (x3 : Int32) (x4 : Int32), J p l e (Rm 3) s m args below meth c D A (wC ad cI) 6 (fun r => QI D A (wC ad cI) (r, σ)) (f_X1_wordsThatFit_L25 σ x1 n x3 x4) σ [(0, .ref (ad 38)), (1, .int x1), (2, .ref (ad 35)), (3, .int x3), (4, .int x4)] [] 25 := by
  intro n
  induction n with
  | zero => intros; exact J_none
  | succ n ih =>
    intro x3 x4
    refine J_eq (f_X1_wordsThatFit_L25_s σ x1 n x3 x4) ?_
    refine J_iload (pc := 25) C0 4 dX1_wordsThatFit_25 rfl ?_
    refine J_aload_n (pc := 27) C0 0 dX1_wordsThatFit_27 rfl rfl ?_
    refine J_get (pc := 28) (v := .ref (ad 36)) C0 38 wC_o38 rfl in_X1 0 (by decide) q43 rfl dX1_wordsThatFit_28 ?_
    refine J_getN (pc := 31) (v := .ref (ad 3)) C0 36 wC_o36 rfl in_X6 1 (by decide) q114 rfl dX1_wordsThatFit_31 ?_
    refine J_iload_n (pc := 34) C0 1 dX1_wordsThatFit_34 rfl rfl ?_
    refine fin_T (run_V (As := [.int x1]) (rest := [.int x4]) (q0 := 3) C0 (cT_X5_get σ 3 x1 (by decide)) v_X5_get q49 (wC_row (by decide)) rfl rfl ⟨rfl, rfl⟩ (Rm_ok (by decide) (by decide)) rfl (Nat.le_of_ble_eq_true rfl) dX1_wordsThatFit_35) ?_
    refine J_icmp_ge (pc := 38) (tgt := 90) C0 dX1_wordsThatFit_38 (by decide) (fun h_38 => ?_) (fun h_38 => ?_)
    · refine J_iload_n (pc := 90) C0 3 dX1_wordsThatFit_90 rfl rfl ?_
      exact J_iretP C0 dX1_wordsThatFit_91
    · refine J_aload_n (pc := 41) C0 2 dX1_wordsThatFit_41 rfl rfl ?_
      refine J_getN (pc := 42) (v := .ref (ad 0)) C0 35 wC_o35 rfl in_X0 0 (by decide) q115 rfl dX1_wordsThatFit_42 ?_
      refine J_aload_n (pc := 45) C0 0 dX1_wordsThatFit_45 rfl rfl ?_
      refine J_get (pc := 46) (v := .ref (ad 36)) C0 38 wC_o38 rfl in_X1 0 (by decide) q43 rfl dX1_wordsThatFit_46 ?_
      refine J_iload_n (pc := 49) C0 1 dX1_wordsThatFit_49 rfl rfl ?_
      refine J_iload (pc := 50) C0 4 dX1_wordsThatFit_50 rfl ?_
      refine fin_P (fun r_ h_ => run_V (As := [.int x1, .int x4]) (rest := [.ref (ad 0)]) (q0 := 36) C0 (c_X6_cellAt σ x1 x4  r_ h_) v_X6_cellAt q116 wC_o36 rfl rfl ⟨rfl, rfl⟩ (Rm_ok (by decide) (by decide)) rfl (Nat.le_of_ble_eq_true rfl) dX1_wordsThatFit_52) (fun r52 e52 => ?_)
      refine fin_T (run_V (As := [.int r52]) (rest := []) (q0 := 0) C0 (cT_X5_get σ 0 r52 (by decide)) v_X5_get q49 (wC_row (by decide)) rfl rfl ⟨rfl, rfl⟩ (Rm_ok (by decide) (by decide)) rfl (Nat.le_of_ble_eq_true rfl) dX1_wordsThatFit_55) ?_
      refine J_istore (pc := 58) (lv' := [(5, .int (rd σ 0 r52)), (0, .ref (ad 38)), (1, .int x1), (2, .ref (ad 35)), (3, .int x3), (4, .int x4)]) C0 dX1_wordsThatFit_58 (by decide) rfl ?_
      refine J_iload (pc := 60) C0 0 dX1_wordsThatFit_60 rfl ?_
      refine J_bipush (pc := 62) (v := (nI 97)) C0 dX1_wordsThatFit_62 (by decide) ?_
      refine J_icmp_lt (pc := 64) (tgt := 84) C0 dX1_wordsThatFit_64 (by decide) (fun h_64 => ?_) (fun h_64 => ?_)
      · refine J_iinc (pc := 84) (d := 1) (lv' := [(4, .int (x4 + 1)), (5, .int (rd σ 0 r52)), (0, .ref (ad 38)), (1, .int x1), (2, .ref (ad 35)), (3, .int x3)]) C0 5 dX1_wordsThatFit_84 rfl (by decide) (by decide) rfl ?_
        refine J_goto (pc := 87) (tgt := 25) C0 dX1_wordsThatFit_87 (by decide) ?_
        refine J_sub (lv' := [(0, .ref (ad 38)), (1, .int x1), (2, .ref (ad 35)), (3, .int x3), (4, .int (x4 + 1))]) [2, 3, 4, 5, 0] rfl ?_
        exact ih x3 (x4 + 1)
      · refine J_iload_n (pc := 67) C0 4 dX1_wordsThatFit_67 rfl rfl ?_
        refine J_aload_n (pc := 68) C0 1 dX1_wordsThatFit_68 rfl rfl ?_
        refine J_get (pc := 69) (v := .ref (ad 37)) C0 38 wC_o38 rfl in_X1 1 (by decide) q50 rfl dX1_wordsThatFit_69 ?_
        refine J_iload (pc := 72) C0 5 dX1_wordsThatFit_72 rfl ?_
        refine J_iload (pc := 74) C0 0 dX1_wordsThatFit_74 rfl ?_
        refine J_bipush (pc := 76) (v := (nI 97)) C0 dX1_wordsThatFit_76 (by decide) ?_
        refine J_isub (pc := 78) C0 dX1_wordsThatFit_78 ?_
        refine fin_P (fun r_ h_ => run_V (As := [.int x4, .int ((rd σ 0 r52) - (nI 97))]) (rest := [.int x3]) (q0 := 37) C0 (c_X3_wordsHaving σ x4 ((rd σ 0 r52) - (nI 97))  r_ h_) v_X3_wordsHaving q120 wC_o37 rfl rfl ⟨rfl, rfl⟩ (Rm_ok (by decide) (by decide)) rfl (Nat.le_of_ble_eq_true rfl) dX1_wordsThatFit_79) (fun r79 e79 => ?_)
        refine J_iand (pc := 82) C0 dX1_wordsThatFit_82 ?_
        refine J_istore_n (pc := 83) (lv' := [(3, .int (x3 &&& r79)), (5, .int (rd σ 0 r52)), (0, .ref (ad 38)), (1, .int x1), (2, .ref (ad 35)), (4, .int x4)]) C0 dX1_wordsThatFit_83 rfl (by decide) rfl ?_
        refine J_iinc (pc := 84) (d := 1) (lv' := [(4, .int (x4 + 1)), (3, .int (x3 &&& r79)), (5, .int (rd σ 0 r52)), (0, .ref (ad 38)), (1, .int x1), (2, .ref (ad 35))]) C0 5 dX1_wordsThatFit_84 rfl (by decide) (by decide) rfl ?_
        refine J_goto (pc := 87) (tgt := 25) C0 dX1_wordsThatFit_87 (by decide) ?_
        refine J_sub (lv' := [(0, .ref (ad 38)), (1, .int x1), (2, .ref (ad 35)), (3, .int (x3 &&& r79)), (4, .int (x4 + 1))]) [3, 4, 5, 1, 0] rfl ?_
        exact ih (x3 &&& r79) (x4 + 1)
set_option maxRecDepth 100000 in
set_option maxHeartbeats 4000000 in
theorem c_X1_wordsThatFit {l : Launch} {D : va_G} {cI cZ : ClassId} {A : Nat → Prop} {ad : Nat → Nat} (σ : SC) (x1 : Int32)  (r : Int32) (h : f_X1_wordsThatFit σ x1 = some r) : Met l yX1_wordsThatFit (.code yX1_wordsThatFit cX1_wordsThatFit 6 (some .int) :: wG) (Rm 3) (PreW D (tyA cI cZ) A (wC ad cI) [.ref (ad 38), .int x1, .ref (ad 35)] σ) (QI D A (wC ad cI) (r, σ)) 0 0 A := by
  refine met_of (M := f_X1_wordsThatFit σ x1) (Qc := (fun r => QI D A (wC ad cI) (r, σ))) (by decide) (Nat.le_of_ble_eq_true rfl) h (fun p e s m below meth c C0 => ?_)
  generalize hargs : ([.ref (ad 38), .int x1, .ref (ad 35)] : List Value).toArray = args at C0 ⊢
  have C0 : Cx D (tyA cI cZ) RX1 cX1_wordsThatFit 6 (some .int) p s m args meth c := C0
  refine J_sub (lv' := [(0, .ref (ad 38)), (1, .int x1), (2, .ref (ad 35))]) [0, 1, 2] rfl ?_
  unfold f_X1_wordsThatFit
  refine J_aload_n (pc := 0) C0 0 dX1_wordsThatFit_0 rfl rfl ?_
  refine J_get (pc := 1) (v := .ref (ad 37)) C0 38 wC_o38 rfl in_X1 1 (by decide) q50 rfl dX1_wordsThatFit_1 ?_
  refine J_getN (pc := 4) (v := .ref (ad 8)) C0 37 wC_o37 rfl in_X3 0 (by decide) q113 rfl dX1_wordsThatFit_4 ?_
  refine J_aload_n (pc := 7) C0 0 dX1_wordsThatFit_7 rfl rfl ?_
  refine J_get (pc := 8) (v := .ref (ad 36)) C0 38 wC_o38 rfl in_X1 0 (by decide) q43 rfl dX1_wordsThatFit_8 ?_
  refine J_getN (pc := 11) (v := .ref (ad 3)) C0 36 wC_o36 rfl in_X6 1 (by decide) q114 rfl dX1_wordsThatFit_11 ?_
  refine J_iload_n (pc := 14) C0 1 dX1_wordsThatFit_14 rfl rfl ?_
  refine fin_T (run_V (As := [.int x1]) (rest := [.ref (ad 8)]) (q0 := 3) C0 (cT_X5_get σ 3 x1 (by decide)) v_X5_get q49 (wC_row (by decide)) rfl rfl ⟨rfl, rfl⟩ (Rm_ok (by decide) (by decide)) rfl (Nat.le_of_ble_eq_true rfl) dX1_wordsThatFit_15) ?_
  refine fin_T (run_V (As := [.int (rd σ 3 x1)]) (rest := []) (q0 := 8) C0 (cT_X5_get σ 8 (rd σ 3 x1) (by decide)) v_X5_get q49 (wC_row (by decide)) rfl rfl ⟨rfl, rfl⟩ (Rm_ok (by decide) (by decide)) rfl (Nat.le_of_ble_eq_true rfl) dX1_wordsThatFit_18) ?_
  refine J_istore_n (pc := 21) (lv' := [(3, .int (rd σ 8 (rd σ 3 x1))), (0, .ref (ad 38)), (1, .int x1), (2, .ref (ad 35))]) C0 dX1_wordsThatFit_21 rfl (by decide) rfl ?_
  refine J_iconst (pc := 22) (v := 0) C0 dX1_wordsThatFit_22 (by decide) ?_
  refine J_istore (pc := 23) (lv' := [(4, .int 0), (3, .int (rd σ 8 (rd σ 3 x1))), (0, .ref (ad 38)), (1, .int x1), (2, .ref (ad 35))]) C0 dX1_wordsThatFit_23 (by decide) rfl ?_
  refine J_sub (lv' := [(0, .ref (ad 38)), (1, .int x1), (2, .ref (ad 35)), (3, .int (rd σ 8 (rd σ 3 x1))), (4, .int 0)]) [2, 3, 4, 1, 0] rfl ?_
  exact j_X1_wordsThatFit_L25 C0 σ x1 FU (rd σ 8 (rd σ 3 x1)) 0
end SE

def f_X2_choose_L23 (x1 : Int32) (x2 : Int32) (x3 : Int32) : Nat → SC → Int32 → Option (Int32 × SC)
  | 0, _, _ => none
  | n + 1, σ, x4 =>
  (if (σ 17 4) ≤ x4 then (some (1, σ)) else ((f_X1_besides σ x3 x2 (rd σ 13 x4)).bind fun r61 => (if ((rd σ 14 ((x1 * (nI 8)) + x4)) &&& r61) = 0 then (some (0, σ)) else (f_X2_choose_L23 x1 x2 x3 n (wr σ 14 (((x1 + 1) * (nI 8)) + x4) ((rd σ 14 ((x1 * (nI 8)) + x4)) &&& r61)) (x4 + 1)))))
theorem f_X2_choose_L23_s (x1 : Int32) (x2 : Int32) (x3 : Int32) (n : Nat) (σ : SC) (x4 : Int32) : f_X2_choose_L23 x1 x2 x3 (n + 1) σ x4 = ((if (σ 17 4) ≤ x4 then (some (1, σ)) else ((f_X1_besides σ x3 x2 (rd σ 13 x4)).bind fun r61 => (if ((rd σ 14 ((x1 * (nI 8)) + x4)) &&& r61) = 0 then (some (0, σ)) else (f_X2_choose_L23 x1 x2 x3 n (wr σ 14 (((x1 + 1) * (nI 8)) + x4) ((rd σ 14 ((x1 * (nI 8)) + x4)) &&& r61)) (x4 + 1)))))) := rfl
def f_X2_choose (σ : SC) (x1 : Int32) (x2 : Int32) : Option (Int32 × SC) :=
  (f_X2_choose_L23 x1 x2 (rd σ 13 x1) FU (wr σ 15 x1 x2) (x1 + 1))
section SE
variable {p : Program} {l : Launch} {e : Env} {s : State} {m : MethodId} {args : Array Value} {below : List Frame} {meth : Method} {c : Code} {D : va_G} {cI cZ : ClassId} {A : Nat → Prop} {ad : Nat → Nat}
set_option maxRecDepth 100000 in
set_option maxHeartbeats 4000000 in
theorem j_X2_choose_L23 (C0 : Cx D (tyA cI cZ) RX2 cX2_choose 6 (some .boolean) p s m args meth c) (x1 : Int32) (x2 : Int32) (x3 : Int32) : ∀ (n : Nat) (σ : SC) (x4 : Int32), J p l e (Rm 3) s m args below meth c D A (wC ad cI) 6 (QI D A (wC ad cI)) (f_X2_choose_L23 x1 x2 x3 n σ x4) σ [(0, .ref (ad 39)), (1, .int x1), (2, .int x2), (3, .int x3), (4, .int x4)] [] 23 := by
  intro n
  induction n with
  | zero => intros; exact J_none
  | succ n ih =>
    intro σ x4
    refine J_eq (f_X2_choose_L23_s x1 x2 x3 n σ x4) ?_
    refine J_iload (pc := 23) C0 4 dX2_choose_23 rfl ?_
    refine J_aload_n (pc := 25) C0 0 dX2_choose_25 rfl rfl ?_
    refine J_get (pc := 26) (v := .int (σ 17 4)) C0 39 wC_o39 rfl in_X2 3 (by decide) q61 rfl dX2_choose_26 ?_
    refine J_icmp_ge (pc := 29) (tgt := 98) C0 dX2_choose_29 (by decide) (fun h_29 => ?_) (fun h_29 => ?_)
    · refine J_iconst (pc := 98) (v := 1) C0 dX2_choose_98 (by decide) ?_
      exact J_zret0 (Or.inr rfl) C0 dX2_choose_99
    · refine J_aload_n (pc := 32) C0 0 dX2_choose_32 rfl rfl ?_
      refine J_get (pc := 33) (v := .ref (ad 14)) C0 39 wC_o39 rfl in_X2 4 (by decide) q73 rfl dX2_choose_33 ?_
      refine J_iload_n (pc := 36) C0 1 dX2_choose_36 rfl rfl ?_
      refine J_bipush (pc := 37) (v := (nI 8)) C0 dX2_choose_37 (by decide) ?_
      refine J_imul (pc := 39) C0 dX2_choose_39 ?_
      refine J_iload (pc := 40) C0 4 dX2_choose_40 rfl ?_
      refine J_iadd (pc := 42) C0 dX2_choose_42 ?_
      refine fin_T (run_V (As := [.int ((x1 * (nI 8)) + x4)]) (rest := []) (q0 := 14) C0 (cT_X5_get σ 14 ((x1 * (nI 8)) + x4) (by decide)) v_X5_get q74 (wC_row (by decide)) rfl rfl ⟨rfl, rfl⟩ (Rm_ok (by decide) (by decide)) rfl (Nat.le_of_ble_eq_true rfl) dX2_choose_43) ?_
      refine J_aload_n (pc := 46) C0 0 dX2_choose_46 rfl rfl ?_
      refine J_get (pc := 47) (v := .ref (ad 38)) C0 39 wC_o39 rfl in_X2 1 (by decide) q126 rfl dX2_choose_47 ?_
      refine J_iload_n (pc := 50) C0 3 dX2_choose_50 rfl rfl ?_
      refine J_iload_n (pc := 51) C0 2 dX2_choose_51 rfl rfl ?_
      refine J_aload_n (pc := 52) C0 0 dX2_choose_52 rfl rfl ?_
      refine J_get (pc := 53) (v := .ref (ad 13)) C0 39 wC_o39 rfl in_X2 2 (by decide) q71 rfl dX2_choose_53 ?_
      refine J_iload (pc := 56) C0 4 dX2_choose_56 rfl ?_
      refine fin_T (run_V (As := [.int x4]) (rest := [.int x2, .int x3, .ref (ad 38), .int (rd σ 14 ((x1 * (nI 8)) + x4))]) (q0 := 13) C0 (cT_X5_get σ 13 x4 (by decide)) v_X5_get q74 (wC_row (by decide)) rfl rfl ⟨rfl, rfl⟩ (Rm_ok (by decide) (by decide)) rfl (Nat.le_of_ble_eq_true rfl) dX2_choose_58) ?_
      refine fin_P (fun r_ h_ => run_V (As := [.int x3, .int x2, .int (rd σ 13 x4)]) (rest := [.int (rd σ 14 ((x1 * (nI 8)) + x4))]) (q0 := 38) C0 (c_X1_besides σ x3 x2 (rd σ 13 x4)  r_ h_) v_X1_besides q127 wC_o38 rfl rfl ⟨rfl, rfl⟩ (Rm_ok (by decide) (by decide)) rfl (Nat.le_of_ble_eq_true rfl) dX2_choose_61) (fun r61 e61 => ?_)
      refine J_iand (pc := 64) C0 dX2_choose_64 ?_
      refine J_istore (pc := 65) (lv' := [(5, .int ((rd σ 14 ((x1 * (nI 8)) + x4)) &&& r61)), (0, .ref (ad 39)), (1, .int x1), (2, .int x2), (3, .int x3), (4, .int x4)]) C0 dX2_choose_65 (by decide) rfl ?_
      refine J_iload (pc := 67) C0 0 dX2_choose_67 rfl ?_
      refine J_if_ne (pc := 69) (tgt := 74) C0 dX2_choose_69 (by decide) (fun h_69 => ?_) (fun h_69 => ?_)
      · refine J_aload_n (pc := 74) C0 1 dX2_choose_74 rfl rfl ?_
        refine J_get (pc := 75) (v := .ref (ad 14)) C0 39 wC_o39 rfl in_X2 4 (by decide) q73 rfl dX2_choose_75 ?_
        refine J_iload_n (pc := 78) C0 2 dX2_choose_78 rfl rfl ?_
        refine J_iconst (pc := 79) (v := 1) C0 dX2_choose_79 (by decide) ?_
        refine J_iadd (pc := 80) C0 dX2_choose_80 ?_
        refine J_bipush (pc := 81) (v := (nI 8)) C0 dX2_choose_81 (by decide) ?_
        refine J_imul (pc := 83) C0 dX2_choose_83 ?_
        refine J_iload (pc := 84) C0 5 dX2_choose_84 rfl ?_
        refine J_iadd (pc := 86) C0 dX2_choose_86 ?_
        refine J_iload (pc := 87) C0 0 dX2_choose_87 rfl ?_
        refine fin_TV (run_V (As := [.int (((x1 + 1) * (nI 8)) + x4), .int ((rd σ 14 ((x1 * (nI 8)) + x4)) &&& r61)]) (rest := []) (q0 := 14) C0 (cT_X5_set σ 14 (((x1 + 1) * (nI 8)) + x4) ((rd σ 14 ((x1 * (nI 8)) + x4)) &&& r61) (by decide)) v_X5_set q72 (wC_row (by decide)) rfl rfl ⟨rfl, rfl⟩ (Rm_ok (by decide) (by decide)) rfl (Nat.le_of_ble_eq_true rfl) dX2_choose_89) ?_
        refine J_iinc (pc := 92) (d := 1) (lv' := [(4, .int (x4 + 1)), (5, .int ((rd σ 14 ((x1 * (nI 8)) + x4)) &&& r61)), (0, .ref (ad 39)), (1, .int x1), (2, .int x2), (3, .int x3)]) C0 5 dX2_choose_92 rfl (by decide) (by decide) rfl ?_
        refine J_goto (pc := 95) (tgt := 23) C0 dX2_choose_95 (by decide) ?_
        refine J_sub (lv' := [(0, .ref (ad 39)), (1, .int x1), (2, .int x2), (3, .int x3), (4, .int (x4 + 1))]) [2, 3, 4, 5, 0] rfl ?_
        exact ih (wr σ 14 (((x1 + 1) * (nI 8)) + x4) ((rd σ 14 ((x1 * (nI 8)) + x4)) &&& r61)) (x4 + 1)
      · refine J_iconst (pc := 72) (v := 0) C0 dX2_choose_72 (by decide) ?_
        exact J_zret0 (Or.inl rfl) C0 dX2_choose_73
set_option maxRecDepth 100000 in
set_option maxHeartbeats 4000000 in
theorem c_X2_choose {l : Launch} {D : va_G} {cI cZ : ClassId} {A : Nat → Prop} {ad : Nat → Nat} (σ : SC) (x1 : Int32) (x2 : Int32)  (r : (Int32 × SC)) (h : f_X2_choose σ x1 x2 = some r) : Met l yX2_choose (.code yX2_choose cX2_choose 6 (some .boolean) :: wG) (Rm 3) (PreW D (tyA cI cZ) A (wC ad cI) [.ref (ad 39), .int x1, .int x2] σ) (QI D A (wC ad cI) r) 0 0 A := by
  refine met_of (M := f_X2_choose σ x1 x2) (Qc := (QI D A (wC ad cI))) (by decide) (Nat.le_of_ble_eq_true rfl) h (fun p e s m below meth c C0 => ?_)
  generalize hargs : ([.ref (ad 39), .int x1, .int x2] : List Value).toArray = args at C0 ⊢
  have C0 : Cx D (tyA cI cZ) RX2 cX2_choose 6 (some .boolean) p s m args meth c := C0
  refine J_sub (lv' := [(0, .ref (ad 39)), (1, .int x1), (2, .int x2)]) [0, 1, 2] rfl ?_
  unfold f_X2_choose
  refine J_aload_n (pc := 0) C0 0 dX2_choose_0 rfl rfl ?_
  refine J_get (pc := 1) (v := .ref (ad 13)) C0 39 wC_o39 rfl in_X2 2 (by decide) q71 rfl dX2_choose_1 ?_
  refine J_iload_n (pc := 4) C0 1 dX2_choose_4 rfl rfl ?_
  refine fin_T (run_V (As := [.int x1]) (rest := []) (q0 := 13) C0 (cT_X5_get σ 13 x1 (by decide)) v_X5_get q74 (wC_row (by decide)) rfl rfl ⟨rfl, rfl⟩ (Rm_ok (by decide) (by decide)) rfl (Nat.le_of_ble_eq_true rfl) dX2_choose_5) ?_
  refine J_istore_n (pc := 8) (lv' := [(3, .int (rd σ 13 x1)), (0, .ref (ad 39)), (1, .int x1), (2, .int x2)]) C0 dX2_choose_8 rfl (by decide) rfl ?_
  refine J_aload_n (pc := 9) C0 1 dX2_choose_9 rfl rfl ?_
  refine J_get (pc := 10) (v := .ref (ad 15)) C0 39 wC_o39 rfl in_X2 5 (by decide) q125 rfl dX2_choose_10 ?_
  refine J_iload_n (pc := 13) C0 2 dX2_choose_13 rfl rfl ?_
  refine J_iload_n (pc := 14) C0 3 dX2_choose_14 rfl rfl ?_
  refine fin_TV (run_V (As := [.int x1, .int x2]) (rest := []) (q0 := 15) C0 (cT_X5_set σ 15 x1 x2 (by decide)) v_X5_set q72 (wC_row (by decide)) rfl rfl ⟨rfl, rfl⟩ (Rm_ok (by decide) (by decide)) rfl (Nat.le_of_ble_eq_true rfl) dX2_choose_15) ?_
  refine J_iload_n (pc := 18) C0 2 dX2_choose_18 rfl rfl ?_
  refine J_iconst (pc := 19) (v := 1) C0 dX2_choose_19 (by decide) ?_
  refine J_iadd (pc := 20) C0 dX2_choose_20 ?_
  refine J_istore (pc := 21) (lv' := [(4, .int (x1 + 1)), (3, .int (rd σ 13 x1)), (0, .ref (ad 39)), (1, .int x1), (2, .int x2)]) C0 dX2_choose_21 (by decide) rfl ?_
  refine J_sub (lv' := [(0, .ref (ad 39)), (1, .int x1), (2, .int x2), (3, .int (rd σ 13 x1)), (4, .int (x1 + 1))]) [2, 3, 4, 1, 0] rfl ?_
  exact j_X2_choose_L23 C0 x1 x2 (rd σ 13 x1) FU (wr σ 15 x1 x2) (x1 + 1)
end SE

def f_X3_readWord_L39 (x1 : Int32) (x3 : Int32) : Nat → SC → Int32 → Int32 → Option SC
  | 0, _, _, _ => none
  | n + 1, σ, x5, x6 =>
  (if x6 < 0 then (some σ) else ((f_X3_wordsHaving (wr σ 10 ((x1 * (nI 4)) + x6) ((x5 - x5 / (nI 7) * (nI 7)) - 1)) x6 ((x5 - x5 / (nI 7) * (nI 7)) - 1)).bind fun r85 => (f_X3_readWord_L39 x1 x3 n (wr (wr σ 10 ((x1 * (nI 4)) + x6) ((x5 - x5 / (nI 7) * (nI 7)) - 1)) 9 ((x6 * (nI 6)) + ((x5 - x5 / (nI 7) * (nI 7)) - 1)) (r85 ||| x3)) (x5 / (nI 7)) (x6 + (-1)))))
theorem f_X3_readWord_L39_s (x1 : Int32) (x3 : Int32) (n : Nat) (σ : SC) (x5 : Int32) (x6 : Int32) : f_X3_readWord_L39 x1 x3 (n + 1) σ x5 x6 = ((if x6 < 0 then (some σ) else ((f_X3_wordsHaving (wr σ 10 ((x1 * (nI 4)) + x6) ((x5 - x5 / (nI 7) * (nI 7)) - 1)) x6 ((x5 - x5 / (nI 7) * (nI 7)) - 1)).bind fun r85 => (f_X3_readWord_L39 x1 x3 n (wr (wr σ 10 ((x1 * (nI 4)) + x6) ((x5 - x5 / (nI 7) * (nI 7)) - 1)) 9 ((x6 * (nI 6)) + ((x5 - x5 / (nI 7) * (nI 7)) - 1)) (r85 ||| x3)) (x5 / (nI 7)) (x6 + (-1)))))) := rfl
def f_X3_readWord (σ : SC) (x1 : Int32) (x2 : Int32) : Option SC :=
  ((f_X7_lengthOf x2).bind fun r5 => (f_X3_readWord_L39 x1 ((1 : Int32) <<< (x1 &&& 31)) FU (wr σ 8 r5 ((rd σ 8 r5) ||| ((1 : Int32) <<< (x1 &&& 31)))) x2 (r5 - 1)))
section SE
variable {p : Program} {l : Launch} {e : Env} {s : State} {m : MethodId} {args : Array Value} {below : List Frame} {meth : Method} {c : Code} {D : va_G} {cI cZ : ClassId} {A : Nat → Prop} {ad : Nat → Nat}
set_option maxRecDepth 100000 in
set_option maxHeartbeats 4000000 in
theorem j_X3_readWord_L39 (C0 : Cx D (tyA cI cZ) RX3 cX3_readWord 8 none p s m args meth c) (x1 : Int32) (x3 : Int32) : ∀ (n : Nat) (σ : SC) (x5 : Int32) (x6 : Int32), J p l e (Rm 3) s m args below meth c D A (wC ad cI) 8 (QV D A (wC ad cI)) (f_X3_readWord_L39 x1 x3 n σ x5 x6) σ [(0, .ref (ad 37)), (1, .int x1), (3, .int x3), (5, .int x5), (6, .int x6)] [] 39 := by
  intro n
  induction n with
  | zero => intros; exact J_none
  | succ n ih =>
    intro σ x5 x6
    refine J_eq (f_X3_readWord_L39_s x1 x3 n σ x5 x6) ?_
    refine J_iload (pc := 39) C0 4 dX3_readWord_39 rfl ?_
    refine J_if_lt (pc := 41) (tgt := 106) C0 dX3_readWord_41 (by decide) (fun h_41 => ?_) (fun h_41 => ?_)
    · exact J_vret C0 dX3_readWord_106
    · refine J_iload (pc := 44) C0 3 dX3_readWord_44 rfl ?_
      refine J_bipush (pc := 46) (v := (nI 7)) C0 dX3_readWord_46 (by decide) ?_
      refine J_irem (pc := 48) C0 dX3_readWord_48 (by decide) ?_
      refine J_iconst (pc := 49) (v := 1) C0 dX3_readWord_49 (by decide) ?_
      refine J_isub (pc := 50) C0 dX3_readWord_50 ?_
      refine J_istore (pc := 51) (lv' := [(7, .int ((x5 - x5 / (nI 7) * (nI 7)) - 1)), (0, .ref (ad 37)), (1, .int x1), (3, .int x3), (5, .int x5), (6, .int x6)]) C0 dX3_readWord_51 (by decide) rfl ?_
      refine J_aload_n (pc := 53) C0 1 dX3_readWord_53 rfl rfl ?_
      refine J_get (pc := 54) (v := .ref (ad 10)) C0 37 wC_o37 rfl in_X3 2 (by decide) q75 rfl dX3_readWord_54 ?_
      refine J_iload_n (pc := 57) C0 2 dX3_readWord_57 rfl rfl ?_
      refine J_iconst (pc := 58) (v := (nI 4)) C0 dX3_readWord_58 (by decide) ?_
      refine J_imul (pc := 59) C0 dX3_readWord_59 ?_
      refine J_iload (pc := 60) C0 5 dX3_readWord_60 rfl ?_
      refine J_iadd (pc := 62) C0 dX3_readWord_62 ?_
      refine J_iload (pc := 63) C0 0 dX3_readWord_63 rfl ?_
      refine fin_TV (run_V (As := [.int ((x1 * (nI 4)) + x6), .int ((x5 - x5 / (nI 7) * (nI 7)) - 1)]) (rest := []) (q0 := 10) C0 (cT_X5_set σ 10 ((x1 * (nI 4)) + x6) ((x5 - x5 / (nI 7) * (nI 7)) - 1) (by decide)) v_X5_set q132 (wC_row (by decide)) rfl rfl ⟨rfl, rfl⟩ (Rm_ok (by decide) (by decide)) rfl (Nat.le_of_ble_eq_true rfl) dX3_readWord_65) ?_
      refine J_aload_n (pc := 68) C0 1 dX3_readWord_68 rfl rfl ?_
      refine J_get (pc := 69) (v := .ref (ad 9)) C0 37 wC_o37 rfl in_X3 1 (by decide) q77 rfl dX3_readWord_69 ?_
      refine J_iload (pc := 72) C0 5 dX3_readWord_72 rfl ?_
      refine J_bipush (pc := 74) (v := (nI 6)) C0 dX3_readWord_74 (by decide) ?_
      refine J_imul (pc := 76) C0 dX3_readWord_76 ?_
      refine J_iload (pc := 77) C0 0 dX3_readWord_77 rfl ?_
      refine J_iadd (pc := 79) C0 dX3_readWord_79 ?_
      refine J_aload_n (pc := 80) C0 1 dX3_readWord_80 rfl rfl ?_
      refine J_iload (pc := 81) C0 5 dX3_readWord_81 rfl ?_
      refine J_iload (pc := 83) C0 0 dX3_readWord_83 rfl ?_
      refine fin_P (fun r_ h_ => run_V (As := [.int x6, .int ((x5 - x5 / (nI 7) * (nI 7)) - 1)]) (rest := [.int ((x6 * (nI 6)) + ((x5 - x5 / (nI 7) * (nI 7)) - 1)), .ref (ad 9)]) (q0 := 37) C0 (c_X3_wordsHaving (wr σ 10 ((x1 * (nI 4)) + x6) ((x5 - x5 / (nI 7) * (nI 7)) - 1)) x6 ((x5 - x5 / (nI 7) * (nI 7)) - 1)  r_ h_) v_X3_wordsHaving q133 wC_o37 rfl rfl ⟨rfl, rfl⟩ (Rm_ok (by decide) (by decide)) rfl (Nat.le_of_ble_eq_true rfl) dX3_readWord_85) (fun r85 e85 => ?_)
      refine J_iload_n (pc := 88) C0 3 dX3_readWord_88 rfl rfl ?_
      refine J_ior (pc := 89) C0 dX3_readWord_89 ?_
      refine fin_TV (run_V (As := [.int ((x6 * (nI 6)) + ((x5 - x5 / (nI 7) * (nI 7)) - 1)), .int (r85 ||| x3)]) (rest := []) (q0 := 9) C0 (cT_X5_set (wr σ 10 ((x1 * (nI 4)) + x6) ((x5 - x5 / (nI 7) * (nI 7)) - 1)) 9 ((x6 * (nI 6)) + ((x5 - x5 / (nI 7) * (nI 7)) - 1)) (r85 ||| x3) (by decide)) v_X5_set q132 (wC_row (by decide)) rfl rfl ⟨rfl, rfl⟩ (Rm_ok (by decide) (by decide)) rfl (Nat.le_of_ble_eq_true rfl) dX3_readWord_90) ?_
      refine J_iload (pc := 93) C0 4 dX3_readWord_93 rfl ?_
      refine J_bipush (pc := 95) (v := (nI 7)) C0 dX3_readWord_95 (by decide) ?_
      refine J_idiv (pc := 97) C0 dX3_readWord_97 (by decide) ?_
      refine J_istore (pc := 98) (lv' := [(5, .int (x5 / (nI 7))), (7, .int ((x5 - x5 / (nI 7) * (nI 7)) - 1)), (0, .ref (ad 37)), (1, .int x1), (3, .int x3), (6, .int x6)]) C0 dX3_readWord_98 (by decide) rfl ?_
      refine J_iinc (pc := 100) (d := (-1)) (lv' := [(6, .int (x6 + (-1))), (5, .int (x5 / (nI 7))), (7, .int ((x5 - x5 / (nI 7) * (nI 7)) - 1)), (0, .ref (ad 37)), (1, .int x1), (3, .int x3)]) C0 5 dX3_readWord_100 rfl (by decide) (by decide) rfl ?_
      refine J_goto (pc := 103) (tgt := 39) C0 dX3_readWord_103 (by decide) ?_
      refine J_sub (lv' := [(0, .ref (ad 37)), (1, .int x1), (3, .int x3), (5, .int (x5 / (nI 7))), (6, .int (x6 + (-1)))]) [3, 4, 5, 1, 0] rfl ?_
      exact ih (wr (wr σ 10 ((x1 * (nI 4)) + x6) ((x5 - x5 / (nI 7) * (nI 7)) - 1)) 9 ((x6 * (nI 6)) + ((x5 - x5 / (nI 7) * (nI 7)) - 1)) (r85 ||| x3)) (x5 / (nI 7)) (x6 + (-1))
set_option maxRecDepth 100000 in
set_option maxHeartbeats 4000000 in
theorem c_X3_readWord {l : Launch} {D : va_G} {cI cZ : ClassId} {A : Nat → Prop} {ad : Nat → Nat} (σ : SC) (x1 : Int32) (x2 : Int32)  (r : SC) (h : f_X3_readWord σ x1 x2 = some r) : Met l yX3_readWord (.code yX3_readWord cX3_readWord 8 none :: wG) (Rm 3) (PreW D (tyA cI cZ) A (wC ad cI) [.ref (ad 37), .int x1, .int x2] σ) (QV D A (wC ad cI) r) 0 0 A := by
  refine met_of (M := f_X3_readWord σ x1 x2) (Qc := (QV D A (wC ad cI))) (by decide) (Nat.le_of_ble_eq_true rfl) h (fun p e s m below meth c C0 => ?_)
  generalize hargs : ([.ref (ad 37), .int x1, .int x2] : List Value).toArray = args at C0 ⊢
  have C0 : Cx D (tyA cI cZ) RX3 cX3_readWord 8 none p s m args meth c := C0
  refine J_sub (lv' := [(0, .ref (ad 37)), (1, .int x1), (2, .int x2)]) [0, 1, 2] rfl ?_
  unfold f_X3_readWord
  refine J_iconst (pc := 0) (v := 1) C0 dX3_readWord_0 (by decide) ?_
  refine J_iload_n (pc := 1) C0 1 dX3_readWord_1 rfl rfl ?_
  refine J_ishl (pc := 2) C0 dX3_readWord_2 ?_
  refine J_istore_n (pc := 3) (lv' := [(3, .int ((1 : Int32) <<< (x1 &&& 31))), (0, .ref (ad 37)), (1, .int x1), (2, .int x2)]) C0 dX3_readWord_3 rfl (by decide) rfl ?_
  refine J_iload_n (pc := 4) C0 3 dX3_readWord_4 rfl rfl ?_
  refine fin_P (fun r_ h_ => run_SN (As := [.int x2]) (rest := []) C0 (c_X7_lengthOf σ x2  r_ h_) v_X7_lengthOf q128 rfl ⟨rfl, rfl⟩ (Rm_ok (by decide) (by decide)) rfl (Nat.le_of_ble_eq_true rfl) dX3_readWord_5) (fun r5 e5 => ?_)
  refine J_istore (pc := 8) (lv' := [(4, .int r5), (3, .int ((1 : Int32) <<< (x1 &&& 31))), (0, .ref (ad 37)), (1, .int x1), (2, .int x2)]) C0 dX3_readWord_8 (by decide) rfl ?_
  refine J_aload_n (pc := 10) C0 2 dX3_readWord_10 rfl rfl ?_
  refine J_get (pc := 11) (v := .ref (ad 8)) C0 37 wC_o37 rfl in_X3 0 (by decide) q131 rfl dX3_readWord_11 ?_
  refine J_iload (pc := 14) C0 0 dX3_readWord_14 rfl ?_
  refine J_aload_n (pc := 16) C0 2 dX3_readWord_16 rfl rfl ?_
  refine J_get (pc := 17) (v := .ref (ad 8)) C0 37 wC_o37 rfl in_X3 0 (by decide) q131 rfl dX3_readWord_17 ?_
  refine J_iload (pc := 20) C0 0 dX3_readWord_20 rfl ?_
  refine fin_T (run_V (As := [.int r5]) (rest := [.int r5, .ref (ad 8)]) (q0 := 8) C0 (cT_X5_get σ 8 r5 (by decide)) v_X5_get q76 (wC_row (by decide)) rfl rfl ⟨rfl, rfl⟩ (Rm_ok (by decide) (by decide)) rfl (Nat.le_of_ble_eq_true rfl) dX3_readWord_22) ?_
  refine J_iload_n (pc := 25) C0 1 dX3_readWord_25 rfl rfl ?_
  refine J_ior (pc := 26) C0 dX3_readWord_26 ?_
  refine fin_TV (run_V (As := [.int r5, .int ((rd σ 8 r5) ||| ((1 : Int32) <<< (x1 &&& 31)))]) (rest := []) (q0 := 8) C0 (cT_X5_set σ 8 r5 ((rd σ 8 r5) ||| ((1 : Int32) <<< (x1 &&& 31))) (by decide)) v_X5_set q132 (wC_row (by decide)) rfl rfl ⟨rfl, rfl⟩ (Rm_ok (by decide) (by decide)) rfl (Nat.le_of_ble_eq_true rfl) dX3_readWord_27) ?_
  refine J_iload_n (pc := 30) C0 4 dX3_readWord_30 rfl rfl ?_
  refine J_istore (pc := 31) (lv' := [(5, .int x2), (4, .int r5), (3, .int ((1 : Int32) <<< (x1 &&& 31))), (0, .ref (ad 37)), (1, .int x1), (2, .int x2)]) C0 dX3_readWord_31 (by decide) rfl ?_
  refine J_iload (pc := 33) C0 1 dX3_readWord_33 rfl ?_
  refine J_iconst (pc := 35) (v := 1) C0 dX3_readWord_35 (by decide) ?_
  refine J_isub (pc := 36) C0 dX3_readWord_36 ?_
  refine J_istore (pc := 37) (lv' := [(6, .int (r5 - 1)), (5, .int x2), (4, .int r5), (3, .int ((1 : Int32) <<< (x1 &&& 31))), (0, .ref (ad 37)), (1, .int x1), (2, .int x2)]) C0 dX3_readWord_37 (by decide) rfl ?_
  refine J_sub (lv' := [(0, .ref (ad 37)), (1, .int x1), (3, .int ((1 : Int32) <<< (x1 &&& 31))), (5, .int x2), (6, .int (r5 - 1))]) [4, 5, 3, 1, 0] rfl ?_
  exact j_X3_readWord_L39 C0 x1 ((1 : Int32) <<< (x1 &&& 31)) FU (wr σ 8 r5 ((rd σ 8 r5) ||| ((1 : Int32) <<< (x1 &&& 31)))) x2 (r5 - 1)
end SE

def f_X4_bringImage (σ : SC) (x1 : Int32) : Option SC :=
  ((f_X4_load σ ((nI 10) + x1)).bind fun σ6 => (some (su σ6 17 6 0)))
section SE
variable {p : Program} {l : Launch} {e : Env} {s : State} {m : MethodId} {args : Array Value} {below : List Frame} {meth : Method} {c : Code} {D : va_G} {cI cZ : ClassId} {A : Nat → Prop} {ad : Nat → Nat}
set_option maxRecDepth 100000 in
set_option maxHeartbeats 4000000 in
theorem c_X4_bringImage {l : Launch} {D : va_G} {cI cZ : ClassId} {A : Nat → Prop} {ad : Nat → Nat} (σ : SC) (x1 : Int32)  (r : SC) (h : f_X4_bringImage σ x1 = some r) : Met l yX4_bringImage (.code yX4_bringImage cX4_bringImage 3 none :: wG) (Rm 3) (PreW D (tyA cI cZ) A (wC ad cI) [.ref (ad 40), .int x1, .ref (ad 35)] σ) (QV D A (wC ad cI) r) 0 0 A := by
  refine met_of (M := f_X4_bringImage σ x1) (Qc := (QV D A (wC ad cI))) (by decide) (Nat.le_of_ble_eq_true rfl) h (fun p e s m below meth c C0 => ?_)
  generalize hargs : ([.ref (ad 40), .int x1, .ref (ad 35)] : List Value).toArray = args at C0 ⊢
  have C0 : Cx D (tyA cI cZ) RX4 cX4_bringImage 3 none p s m args meth c := C0
  refine J_sub (lv' := [(0, .ref (ad 40)), (1, .int x1), (2, .ref (ad 35))]) [0, 1, 2] rfl ?_
  unfold f_X4_bringImage
  refine J_aload_n (pc := 0) C0 0 dX4_bringImage_0 rfl rfl ?_
  refine J_bipush (pc := 1) (v := (nI 10)) C0 dX4_bringImage_1 (by decide) ?_
  refine J_iload_n (pc := 3) C0 1 dX4_bringImage_3 rfl rfl ?_
  refine J_iadd (pc := 4) C0 dX4_bringImage_4 ?_
  refine J_aload_n (pc := 5) C0 2 dX4_bringImage_5 rfl rfl ?_
  refine fin_V (fun r_ h_ => run_V (As := [.int ((nI 10) + x1), .ref (ad 35)]) (rest := []) (q0 := 40) C0 (c_X4_load σ ((nI 10) + x1)  r_ h_) v_X4_load q134 wC_o40 rfl rfl ⟨rfl, rfl⟩ (Rm_ok (by decide) (by decide)) rfl (Nat.le_of_ble_eq_true rfl) dX4_bringImage_6) (fun σ6 e6 => ?_)
  refine J_aload_n (pc := 9) C0 0 dX4_bringImage_9 rfl rfl ?_
  refine J_iconst (pc := 10) (v := 0) C0 dX4_bringImage_10 (by decide) ?_
  refine J_put (pc := 11) (σ' := (su σ6 17 6 0)) (v := .int 0) (ty := .int) C0 tyX4_ok nmX4 40 wC_o40 rfl in_X4 2 (by decide) q139 rfl (by decide +kernel) rfl rfl (Nat.le_of_ble_eq_true rfl) wC_p6 dX4_bringImage_11 ?_
  exact J_vret C0 dX4_bringImage_14
end SE

def f_X4_keepImage (σ : SC) (x1 : Int32) : Option SC :=
  ((f_X4_save σ ((nI 10) + x1)).bind fun σ6 => (some (su (su σ6 17 7 ((σ6 17 7) ||| ((1 : Int32) <<< (x1 &&& 31)))) 17 6 0)))
section SE
variable {p : Program} {l : Launch} {e : Env} {s : State} {m : MethodId} {args : Array Value} {below : List Frame} {meth : Method} {c : Code} {D : va_G} {cI cZ : ClassId} {A : Nat → Prop} {ad : Nat → Nat}
set_option maxRecDepth 100000 in
set_option maxHeartbeats 4000000 in
theorem c_X4_keepImage {l : Launch} {D : va_G} {cI cZ : ClassId} {A : Nat → Prop} {ad : Nat → Nat} (σ : SC) (x1 : Int32)  (r : SC) (h : f_X4_keepImage σ x1 = some r) : Met l yX4_keepImage (.code yX4_keepImage cX4_keepImage 3 none :: wG) (Rm 3) (PreW D (tyA cI cZ) A (wC ad cI) [.ref (ad 40), .int x1, .ref (ad 35)] σ) (QV D A (wC ad cI) r) 0 0 A := by
  refine met_of (M := f_X4_keepImage σ x1) (Qc := (QV D A (wC ad cI))) (by decide) (Nat.le_of_ble_eq_true rfl) h (fun p e s m below meth c C0 => ?_)
  generalize hargs : ([.ref (ad 40), .int x1, .ref (ad 35)] : List Value).toArray = args at C0 ⊢
  have C0 : Cx D (tyA cI cZ) RX4 cX4_keepImage 3 none p s m args meth c := C0
  refine J_sub (lv' := [(0, .ref (ad 40)), (1, .int x1), (2, .ref (ad 35))]) [0, 1, 2] rfl ?_
  unfold f_X4_keepImage
  refine J_aload_n (pc := 0) C0 0 dX4_keepImage_0 rfl rfl ?_
  refine J_bipush (pc := 1) (v := (nI 10)) C0 dX4_keepImage_1 (by decide) ?_
  refine J_iload_n (pc := 3) C0 1 dX4_keepImage_3 rfl rfl ?_
  refine J_iadd (pc := 4) C0 dX4_keepImage_4 ?_
  refine J_aload_n (pc := 5) C0 2 dX4_keepImage_5 rfl rfl ?_
  refine fin_V (fun r_ h_ => run_V (As := [.int ((nI 10) + x1), .ref (ad 35)]) (rest := []) (q0 := 40) C0 (c_X4_save σ ((nI 10) + x1)  r_ h_) v_X4_save q140 wC_o40 rfl rfl ⟨rfl, rfl⟩ (Rm_ok (by decide) (by decide)) rfl (Nat.le_of_ble_eq_true rfl) dX4_keepImage_6) (fun σ6 e6 => ?_)
  refine J_aload_n (pc := 9) C0 0 dX4_keepImage_9 rfl rfl ?_
  refine J_dup (pc := 10) C0 dX4_keepImage_10 rfl ?_
  refine J_get (pc := 11) (v := .int (σ6 17 7)) C0 40 wC_o40 rfl in_X4 3 (by decide) q144 rfl dX4_keepImage_11 ?_
  refine J_iconst (pc := 14) (v := 1) C0 dX4_keepImage_14 (by decide) ?_
  refine J_iload_n (pc := 15) C0 1 dX4_keepImage_15 rfl rfl ?_
  refine J_ishl (pc := 16) C0 dX4_keepImage_16 ?_
  refine J_ior (pc := 17) C0 dX4_keepImage_17 ?_
  refine J_put (pc := 18) (σ' := (su σ6 17 7 ((σ6 17 7) ||| ((1 : Int32) <<< (x1 &&& 31))))) (v := .int ((σ6 17 7) ||| ((1 : Int32) <<< (x1 &&& 31)))) (ty := .int) C0 tyX4_ok nmX4 40 wC_o40 rfl in_X4 3 (by decide) q144 rfl (by decide +kernel) rfl rfl (Nat.le_of_ble_eq_true rfl) wC_p7 dX4_keepImage_18 ?_
  refine J_aload_n (pc := 21) C0 0 dX4_keepImage_21 rfl rfl ?_
  refine J_iconst (pc := 22) (v := 0) C0 dX4_keepImage_22 (by decide) ?_
  refine J_put (pc := 23) (σ' := (su (su σ6 17 7 ((σ6 17 7) ||| ((1 : Int32) <<< (x1 &&& 31)))) 17 6 0)) (v := .int 0) (ty := .int) C0 tyX4_ok nmX4 40 wC_o40 rfl in_X4 2 (by decide) q139 rfl (by decide +kernel) rfl rfl (Nat.le_of_ble_eq_true rfl) wC_p6 dX4_keepImage_23 ?_
  exact J_vret C0 dX4_keepImage_26
end SE

def f_X4_note (σ : SC)  : Option SC :=
  ((f_X4_save σ (σ 17 5)).bind fun σ6 => (some (su (su σ6 17 5 (((σ6 17 5) + 1) - ((σ6 17 5) + 1) / (nI 10) * (nI 10))) 17 6 (if (nI 10) < ((σ6 17 6) + 1) then (nI 10) else ((σ6 17 6) + 1)))))
section SE
variable {p : Program} {l : Launch} {e : Env} {s : State} {m : MethodId} {args : Array Value} {below : List Frame} {meth : Method} {c : Code} {D : va_G} {cI cZ : ClassId} {A : Nat → Prop} {ad : Nat → Nat}
set_option maxRecDepth 100000 in
set_option maxHeartbeats 4000000 in
theorem c_X4_note {l : Launch} {D : va_G} {cI cZ : ClassId} {A : Nat → Prop} {ad : Nat → Nat} (σ : SC)   (r : SC) (h : f_X4_note σ = some r) : Met l yX4_note (.code yX4_note cX4_note 2 none :: wG) (Rm 3) (PreW D (tyA cI cZ) A (wC ad cI) [.ref (ad 40), .ref (ad 35)] σ) (QV D A (wC ad cI) r) 0 0 A := by
  refine met_of (M := f_X4_note σ) (Qc := (QV D A (wC ad cI))) (by decide) (Nat.le_of_ble_eq_true rfl) h (fun p e s m below meth c C0 => ?_)
  generalize hargs : ([.ref (ad 40), .ref (ad 35)] : List Value).toArray = args at C0 ⊢
  have C0 : Cx D (tyA cI cZ) RX4 cX4_note 2 none p s m args meth c := C0
  refine J_sub (lv' := [(0, .ref (ad 40)), (1, .ref (ad 35))]) [0, 1] rfl ?_
  unfold f_X4_note
  refine J_aload_n (pc := 0) C0 0 dX4_note_0 rfl rfl ?_
  refine J_aload_n (pc := 1) C0 0 dX4_note_1 rfl rfl ?_
  refine J_get (pc := 2) (v := .int (σ 17 5)) C0 40 wC_o40 rfl in_X4 1 (by decide) q145 rfl dX4_note_2 ?_
  refine J_aload_n (pc := 5) C0 1 dX4_note_5 rfl rfl ?_
  refine fin_V (fun r_ h_ => run_V (As := [.int (σ 17 5), .ref (ad 35)]) (rest := []) (q0 := 40) C0 (c_X4_save σ (σ 17 5)  r_ h_) v_X4_save q140 wC_o40 rfl rfl ⟨rfl, rfl⟩ (Rm_ok (by decide) (by decide)) rfl (Nat.le_of_ble_eq_true rfl) dX4_note_6) (fun σ6 e6 => ?_)
  refine J_aload_n (pc := 9) C0 0 dX4_note_9 rfl rfl ?_
  refine J_aload_n (pc := 10) C0 0 dX4_note_10 rfl rfl ?_
  refine J_get (pc := 11) (v := .int (σ6 17 5)) C0 40 wC_o40 rfl in_X4 1 (by decide) q145 rfl dX4_note_11 ?_
  refine J_iconst (pc := 14) (v := 1) C0 dX4_note_14 (by decide) ?_
  refine J_iadd (pc := 15) C0 dX4_note_15 ?_
  refine J_bipush (pc := 16) (v := (nI 10)) C0 dX4_note_16 (by decide) ?_
  refine J_irem (pc := 18) C0 dX4_note_18 (by decide) ?_
  refine J_put (pc := 19) (σ' := (su σ6 17 5 (((σ6 17 5) + 1) - ((σ6 17 5) + 1) / (nI 10) * (nI 10)))) (v := .int (((σ6 17 5) + 1) - ((σ6 17 5) + 1) / (nI 10) * (nI 10))) (ty := .int) C0 tyX4_ok nmX4 40 wC_o40 rfl in_X4 1 (by decide) q145 rfl (by decide +kernel) rfl rfl (Nat.le_of_ble_eq_true rfl) wC_p5 dX4_note_19 ?_
  refine J_aload_n (pc := 22) C0 0 dX4_note_22 rfl rfl ?_
  refine J_aload_n (pc := 23) C0 0 dX4_note_23 rfl rfl ?_
  refine J_get (pc := 24) (v := .int (σ6 17 6)) C0 40 wC_o40 rfl in_X4 2 (by decide) q139 rfl dX4_note_24 ?_
  refine J_iconst (pc := 27) (v := 1) C0 dX4_note_27 (by decide) ?_
  refine J_iadd (pc := 28) C0 dX4_note_28 ?_
  refine J_bipush (pc := 29) (v := (nI 10)) C0 dX4_note_29 (by decide) ?_
  refine J_mmin (pc := 31) C0 q146 q147 q148 q149 (by decide) (Nat.le_of_ble_eq_true rfl) dX4_note_31 ?_
  refine J_put (pc := 34) (σ' := (su (su σ6 17 5 (((σ6 17 5) + 1) - ((σ6 17 5) + 1) / (nI 10) * (nI 10))) 17 6 (if (nI 10) < ((σ6 17 6) + 1) then (nI 10) else ((σ6 17 6) + 1)))) (v := .int (if (nI 10) < ((σ6 17 6) + 1) then (nI 10) else ((σ6 17 6) + 1))) (ty := .int) C0 tyX4_ok nmX4 40 wC_o40 rfl in_X4 2 (by decide) q139 rfl (by decide +kernel) rfl rfl (Nat.le_of_ble_eq_true rfl) wC_p6 dX4_note_34 ?_
  exact J_vret C0 dX4_note_37
end SE

def f_X4_stepBack (σ : SC)  : Option SC :=
  ((f_X4_load (su (su σ 17 5 ((((σ 17 5) + (nI 10)) - 1) - (((σ 17 5) + (nI 10)) - 1) / (nI 10) * (nI 10))) 17 6 ((σ 17 6) - 1)) ((((σ 17 5) + (nI 10)) - 1) - (((σ 17 5) + (nI 10)) - 1) / (nI 10) * (nI 10))).bind fun σ32 => (some σ32))
section SE
variable {p : Program} {l : Launch} {e : Env} {s : State} {m : MethodId} {args : Array Value} {below : List Frame} {meth : Method} {c : Code} {D : va_G} {cI cZ : ClassId} {A : Nat → Prop} {ad : Nat → Nat}
set_option maxRecDepth 100000 in
set_option maxHeartbeats 4000000 in
theorem c_X4_stepBack {l : Launch} {D : va_G} {cI cZ : ClassId} {A : Nat → Prop} {ad : Nat → Nat} (σ : SC)   (r : SC) (h : f_X4_stepBack σ = some r) : Met l yX4_stepBack (.code yX4_stepBack cX4_stepBack 2 none :: wG) (Rm 3) (PreW D (tyA cI cZ) A (wC ad cI) [.ref (ad 40), .ref (ad 35)] σ) (QV D A (wC ad cI) r) 0 0 A := by
  refine met_of (M := f_X4_stepBack σ) (Qc := (QV D A (wC ad cI))) (by decide) (Nat.le_of_ble_eq_true rfl) h (fun p e s m below meth c C0 => ?_)
  generalize hargs : ([.ref (ad 40), .ref (ad 35)] : List Value).toArray = args at C0 ⊢
  have C0 : Cx D (tyA cI cZ) RX4 cX4_stepBack 2 none p s m args meth c := C0
  refine J_sub (lv' := [(0, .ref (ad 40)), (1, .ref (ad 35))]) [0, 1] rfl ?_
  unfold f_X4_stepBack
  refine J_aload_n (pc := 0) C0 0 dX4_stepBack_0 rfl rfl ?_
  refine J_aload_n (pc := 1) C0 0 dX4_stepBack_1 rfl rfl ?_
  refine J_get (pc := 2) (v := .int (σ 17 5)) C0 40 wC_o40 rfl in_X4 1 (by decide) q145 rfl dX4_stepBack_2 ?_
  refine J_bipush (pc := 5) (v := (nI 10)) C0 dX4_stepBack_5 (by decide) ?_
  refine J_iadd (pc := 7) C0 dX4_stepBack_7 ?_
  refine J_iconst (pc := 8) (v := 1) C0 dX4_stepBack_8 (by decide) ?_
  refine J_isub (pc := 9) C0 dX4_stepBack_9 ?_
  refine J_bipush (pc := 10) (v := (nI 10)) C0 dX4_stepBack_10 (by decide) ?_
  refine J_irem (pc := 12) C0 dX4_stepBack_12 (by decide) ?_
  refine J_put (pc := 13) (σ' := (su σ 17 5 ((((σ 17 5) + (nI 10)) - 1) - (((σ 17 5) + (nI 10)) - 1) / (nI 10) * (nI 10)))) (v := .int ((((σ 17 5) + (nI 10)) - 1) - (((σ 17 5) + (nI 10)) - 1) / (nI 10) * (nI 10))) (ty := .int) C0 tyX4_ok nmX4 40 wC_o40 rfl in_X4 1 (by decide) q145 rfl (by decide +kernel) rfl rfl (Nat.le_of_ble_eq_true rfl) wC_p5 dX4_stepBack_13 ?_
  refine J_aload_n (pc := 16) C0 0 dX4_stepBack_16 rfl rfl ?_
  refine J_dup (pc := 17) C0 dX4_stepBack_17 rfl ?_
  refine J_get (pc := 18) (v := .int (σ 17 6)) C0 40 wC_o40 rfl in_X4 2 (by decide) q139 rfl dX4_stepBack_18 ?_
  refine J_iconst (pc := 21) (v := 1) C0 dX4_stepBack_21 (by decide) ?_
  refine J_isub (pc := 22) C0 dX4_stepBack_22 ?_
  refine J_put (pc := 23) (σ' := (su (su σ 17 5 ((((σ 17 5) + (nI 10)) - 1) - (((σ 17 5) + (nI 10)) - 1) / (nI 10) * (nI 10))) 17 6 ((σ 17 6) - 1))) (v := .int ((σ 17 6) - 1)) (ty := .int) C0 tyX4_ok nmX4 40 wC_o40 rfl in_X4 2 (by decide) q139 rfl (by decide +kernel) rfl rfl (Nat.le_of_ble_eq_true rfl) wC_p6 dX4_stepBack_23 ?_
  refine J_aload_n (pc := 26) C0 0 dX4_stepBack_26 rfl rfl ?_
  refine J_aload_n (pc := 27) C0 0 dX4_stepBack_27 rfl rfl ?_
  refine J_get (pc := 28) (v := .int ((((σ 17 5) + (nI 10)) - 1) - (((σ 17 5) + (nI 10)) - 1) / (nI 10) * (nI 10))) C0 40 wC_o40 rfl in_X4 1 (by decide) q145 rfl dX4_stepBack_28 ?_
  refine J_aload_n (pc := 31) C0 1 dX4_stepBack_31 rfl rfl ?_
  refine fin_V (fun r_ h_ => run_V (As := [.int ((((σ 17 5) + (nI 10)) - 1) - (((σ 17 5) + (nI 10)) - 1) / (nI 10) * (nI 10)), .ref (ad 35)]) (rest := []) (q0 := 40) C0 (c_X4_load (su (su σ 17 5 ((((σ 17 5) + (nI 10)) - 1) - (((σ 17 5) + (nI 10)) - 1) / (nI 10) * (nI 10))) 17 6 ((σ 17 6) - 1)) ((((σ 17 5) + (nI 10)) - 1) - (((σ 17 5) + (nI 10)) - 1) / (nI 10) * (nI 10))  r_ h_) v_X4_load q134 wC_o40 rfl rfl ⟨rfl, rfl⟩ (Rm_ok (by decide) (by decide)) rfl (Nat.le_of_ble_eq_true rfl) dX4_stepBack_32) (fun σ32 e32 => ?_)
  exact J_vret C0 dX4_stepBack_35
end SE

def f_X6_codeIn_L5 (σ : SC) (x1 : Int32) : Nat → Int32 → Int32 → Option Int32
  | 0, _, _ => none
  | n + 1, x3, x4 =>
  (if (rd σ 3 x1) ≤ x4 then (some x3) else ((f_X6_cellAt σ x1 x4).bind fun r26 => (if (nI 97) ≤ (rd σ 0 r26) then (f_X6_codeIn_L5 σ x1 n ((((x3 * (nI 7)) + (rd σ 0 r26)) - (nI 97)) + 1) (x4 + 1)) else (some 0))))
theorem f_X6_codeIn_L5_s (σ : SC) (x1 : Int32) (n : Nat) (x3 : Int32) (x4 : Int32) : f_X6_codeIn_L5 σ x1 (n + 1) x3 x4 = ((if (rd σ 3 x1) ≤ x4 then (some x3) else ((f_X6_cellAt σ x1 x4).bind fun r26 => (if (nI 97) ≤ (rd σ 0 r26) then (f_X6_codeIn_L5 σ x1 n ((((x3 * (nI 7)) + (rd σ 0 r26)) - (nI 97)) + 1) (x4 + 1)) else (some 0))))) := rfl
def f_X6_codeIn (σ : SC) (x1 : Int32) : Option Int32 :=
  (f_X6_codeIn_L5 σ x1 FU 0 0)
section SE
variable {p : Program} {l : Launch} {e : Env} {s : State} {m : MethodId} {args : Array Value} {below : List Frame} {meth : Method} {c : Code} {D : va_G} {cI cZ : ClassId} {A : Nat → Prop} {ad : Nat → Nat}
set_option maxRecDepth 100000 in
set_option maxHeartbeats 4000000 in
theorem j_X6_codeIn_L5 (C0 : Cx D (tyA cI cZ) RX6 cX6_codeIn 6 (some .int) p s m args meth c) (σ : SC) (x1 : Int32) : ∀ (n : Nat) (x3 : Int32) (x4 : Int32), J p l e (Rm 3) s m args below meth c D A (wC ad cI) 6 (fun r => QI D A (wC ad cI) (r, σ)) (f_X6_codeIn_L5 σ x1 n x3 x4) σ [(0, .ref (ad 36)), (1, .int x1), (2, .ref (ad 35)), (3, .int x3), (4, .int x4)] [] 5 := by
  intro n
  induction n with
  | zero => intros; exact J_none
  | succ n ih =>
    intro x3 x4
    refine J_eq (f_X6_codeIn_L5_s σ x1 n x3 x4) ?_
    refine J_iload (pc := 5) C0 4 dX6_codeIn_5 rfl ?_
    refine J_aload_n (pc := 7) C0 0 dX6_codeIn_7 rfl rfl ?_
    refine J_get (pc := 8) (v := .ref (ad 3)) C0 36 wC_o36 rfl in_X6 1 (by decide) q91 rfl dX6_codeIn_8 ?_
    refine J_iload_n (pc := 11) C0 1 dX6_codeIn_11 rfl rfl ?_
    refine fin_T (run_V (As := [.int x1]) (rest := [.int x4]) (q0 := 3) C0 (cT_X5_get σ 3 x1 (by decide)) v_X5_get q92 (wC_row (by decide)) rfl rfl ⟨rfl, rfl⟩ (Rm_ok (by decide) (by decide)) rfl (Nat.le_of_ble_eq_true rfl) dX6_codeIn_12) ?_
    refine J_icmp_ge (pc := 15) (tgt := 62) C0 dX6_codeIn_15 (by decide) (fun h_15 => ?_) (fun h_15 => ?_)
    · refine J_iload_n (pc := 62) C0 3 dX6_codeIn_62 rfl rfl ?_
      exact J_iretP C0 dX6_codeIn_63
    · refine J_aload_n (pc := 18) C0 2 dX6_codeIn_18 rfl rfl ?_
      refine J_getN (pc := 19) (v := .ref (ad 0)) C0 35 wC_o35 rfl in_X0 0 (by decide) q150 rfl dX6_codeIn_19 ?_
      refine J_aload_n (pc := 22) C0 0 dX6_codeIn_22 rfl rfl ?_
      refine J_iload_n (pc := 23) C0 1 dX6_codeIn_23 rfl rfl ?_
      refine J_iload (pc := 24) C0 4 dX6_codeIn_24 rfl ?_
      refine fin_P (fun r_ h_ => run_V (As := [.int x1, .int x4]) (rest := [.ref (ad 0)]) (q0 := 36) C0 (c_X6_cellAt σ x1 x4  r_ h_) v_X6_cellAt q151 wC_o36 rfl rfl ⟨rfl, rfl⟩ (Rm_ok (by decide) (by decide)) rfl (Nat.le_of_ble_eq_true rfl) dX6_codeIn_26) (fun r26 e26 => ?_)
      refine fin_T (run_V (As := [.int r26]) (rest := []) (q0 := 0) C0 (cT_X5_get σ 0 r26 (by decide)) v_X5_get q92 (wC_row (by decide)) rfl rfl ⟨rfl, rfl⟩ (Rm_ok (by decide) (by decide)) rfl (Nat.le_of_ble_eq_true rfl) dX6_codeIn_29) ?_
      refine J_istore (pc := 32) (lv' := [(5, .int (rd σ 0 r26)), (0, .ref (ad 36)), (1, .int x1), (2, .ref (ad 35)), (3, .int x3), (4, .int x4)]) C0 dX6_codeIn_32 (by decide) rfl ?_
      refine J_iload (pc := 34) C0 0 dX6_codeIn_34 rfl ?_
      refine J_bipush (pc := 36) (v := (nI 97)) C0 dX6_codeIn_36 (by decide) ?_
      refine J_icmp_ge (pc := 38) (tgt := 43) C0 dX6_codeIn_38 (by decide) (fun h_38 => ?_) (fun h_38 => ?_)
      · refine J_iload_n (pc := 43) C0 4 dX6_codeIn_43 rfl rfl ?_
        refine J_bipush (pc := 44) (v := (nI 7)) C0 dX6_codeIn_44 (by decide) ?_
        refine J_imul (pc := 46) C0 dX6_codeIn_46 ?_
        refine J_iload (pc := 47) C0 0 dX6_codeIn_47 rfl ?_
        refine J_iadd (pc := 49) C0 dX6_codeIn_49 ?_
        refine J_bipush (pc := 50) (v := (nI 97)) C0 dX6_codeIn_50 (by decide) ?_
        refine J_isub (pc := 52) C0 dX6_codeIn_52 ?_
        refine J_iconst (pc := 53) (v := 1) C0 dX6_codeIn_53 (by decide) ?_
        refine J_iadd (pc := 54) C0 dX6_codeIn_54 ?_
        refine J_istore_n (pc := 55) (lv' := [(3, .int ((((x3 * (nI 7)) + (rd σ 0 r26)) - (nI 97)) + 1)), (5, .int (rd σ 0 r26)), (0, .ref (ad 36)), (1, .int x1), (2, .ref (ad 35)), (4, .int x4)]) C0 dX6_codeIn_55 rfl (by decide) rfl ?_
        refine J_iinc (pc := 56) (d := 1) (lv' := [(4, .int (x4 + 1)), (3, .int ((((x3 * (nI 7)) + (rd σ 0 r26)) - (nI 97)) + 1)), (5, .int (rd σ 0 r26)), (0, .ref (ad 36)), (1, .int x1), (2, .ref (ad 35))]) C0 5 dX6_codeIn_56 rfl (by decide) (by decide) rfl ?_
        refine J_goto (pc := 59) (tgt := 5) C0 dX6_codeIn_59 (by decide) ?_
        refine J_sub (lv' := [(0, .ref (ad 36)), (1, .int x1), (2, .ref (ad 35)), (3, .int ((((x3 * (nI 7)) + (rd σ 0 r26)) - (nI 97)) + 1)), (4, .int (x4 + 1))]) [3, 4, 5, 1, 0] rfl ?_
        exact ih ((((x3 * (nI 7)) + (rd σ 0 r26)) - (nI 97)) + 1) (x4 + 1)
      · refine J_iconst (pc := 41) (v := 0) C0 dX6_codeIn_41 (by decide) ?_
        exact J_iretP C0 dX6_codeIn_42
set_option maxRecDepth 100000 in
set_option maxHeartbeats 4000000 in
theorem c_X6_codeIn {l : Launch} {D : va_G} {cI cZ : ClassId} {A : Nat → Prop} {ad : Nat → Nat} (σ : SC) (x1 : Int32)  (r : Int32) (h : f_X6_codeIn σ x1 = some r) : Met l yX6_codeIn (.code yX6_codeIn cX6_codeIn 6 (some .int) :: wG) (Rm 3) (PreW D (tyA cI cZ) A (wC ad cI) [.ref (ad 36), .int x1, .ref (ad 35)] σ) (QI D A (wC ad cI) (r, σ)) 0 0 A := by
  refine met_of (M := f_X6_codeIn σ x1) (Qc := (fun r => QI D A (wC ad cI) (r, σ))) (by decide) (Nat.le_of_ble_eq_true rfl) h (fun p e s m below meth c C0 => ?_)
  generalize hargs : ([.ref (ad 36), .int x1, .ref (ad 35)] : List Value).toArray = args at C0 ⊢
  have C0 : Cx D (tyA cI cZ) RX6 cX6_codeIn 6 (some .int) p s m args meth c := C0
  refine J_sub (lv' := [(0, .ref (ad 36)), (1, .int x1), (2, .ref (ad 35))]) [0, 1, 2] rfl ?_
  unfold f_X6_codeIn
  refine J_iconst (pc := 0) (v := 0) C0 dX6_codeIn_0 (by decide) ?_
  refine J_istore_n (pc := 1) (lv' := [(3, .int 0), (0, .ref (ad 36)), (1, .int x1), (2, .ref (ad 35))]) C0 dX6_codeIn_1 rfl (by decide) rfl ?_
  refine J_iconst (pc := 2) (v := 0) C0 dX6_codeIn_2 (by decide) ?_
  refine J_istore (pc := 3) (lv' := [(4, .int 0), (3, .int 0), (0, .ref (ad 36)), (1, .int x1), (2, .ref (ad 35))]) C0 dX6_codeIn_3 (by decide) rfl ?_
  refine J_sub (lv' := [(0, .ref (ad 36)), (1, .int x1), (2, .ref (ad 35)), (3, .int 0), (4, .int 0)]) [2, 3, 4, 1, 0] rfl ?_
  exact j_X6_codeIn_L5 C0 σ x1 FU 0 0
end SE

def f_X6_readCrossings_L23 : Nat → SC → Int32 → Option SC
  | 0, _, _ => none
  | n + 1, σ, x1 =>
  (if (nI 16) ≤ x1 then (some σ) else (if (rd σ 6 x1) = (-1) then (f_X6_readCrossings_L23 n σ (x1 + 1)) else (if (rd σ 7 x1) = (-1) then (f_X6_readCrossings_L23 n σ (x1 + 1)) else ((f_X6_placeOf (wr (wr (su σ 17 3 ((σ 17 3) + 1)) 4 (rd σ 6 x1) ((rd (su σ 17 3 ((σ 17 3) + 1)) 4 (rd σ 6 x1)) ||| ((1 : Int32) <<< ((rd σ 7 x1) &&& 31)))) 4 (rd σ 7 x1) ((rd (wr (su σ 17 3 ((σ 17 3) + 1)) 4 (rd σ 6 x1) ((rd (su σ 17 3 ((σ 17 3) + 1)) 4 (rd σ 6 x1)) ||| ((1 : Int32) <<< ((rd σ 7 x1) &&& 31)))) 4 (rd σ 7 x1)) ||| ((1 : Int32) <<< ((rd σ 6 x1) &&& 31)))) x1 (rd σ 6 x1)).bind fun r120 => ((f_X6_placeOf (wr (wr (wr (su σ 17 3 ((σ 17 3) + 1)) 4 (rd σ 6 x1) ((rd (su σ 17 3 ((σ 17 3) + 1)) 4 (rd σ 6 x1)) ||| ((1 : Int32) <<< ((rd σ 7 x1) &&& 31)))) 4 (rd σ 7 x1) ((rd (wr (su σ 17 3 ((σ 17 3) + 1)) 4 (rd σ 6 x1) ((rd (su σ 17 3 ((σ 17 3) + 1)) 4 (rd σ 6 x1)) ||| ((1 : Int32) <<< ((rd σ 7 x1) &&& 31)))) 4 (rd σ 7 x1)) ||| ((1 : Int32) <<< ((rd σ 6 x1) &&& 31)))) 5 (((rd σ 6 x1) * (nI 8)) + (rd σ 7 x1)) r120) x1 (rd σ 7 x1)).bind fun r139 => (f_X6_readCrossings_L23 n (wr (wr (wr (wr (su σ 17 3 ((σ 17 3) + 1)) 4 (rd σ 6 x1) ((rd (su σ 17 3 ((σ 17 3) + 1)) 4 (rd σ 6 x1)) ||| ((1 : Int32) <<< ((rd σ 7 x1) &&& 31)))) 4 (rd σ 7 x1) ((rd (wr (su σ 17 3 ((σ 17 3) + 1)) 4 (rd σ 6 x1) ((rd (su σ 17 3 ((σ 17 3) + 1)) 4 (rd σ 6 x1)) ||| ((1 : Int32) <<< ((rd σ 7 x1) &&& 31)))) 4 (rd σ 7 x1)) ||| ((1 : Int32) <<< ((rd σ 6 x1) &&& 31)))) 5 (((rd σ 6 x1) * (nI 8)) + (rd σ 7 x1)) r120) 5 (((rd σ 7 x1) * (nI 8)) + (rd σ 6 x1)) r139) (x1 + 1)))))))
theorem f_X6_readCrossings_L23_s (n : Nat) (σ : SC) (x1 : Int32) : f_X6_readCrossings_L23 (n + 1) σ x1 = ((if (nI 16) ≤ x1 then (some σ) else (if (rd σ 6 x1) = (-1) then (f_X6_readCrossings_L23 n σ (x1 + 1)) else (if (rd σ 7 x1) = (-1) then (f_X6_readCrossings_L23 n σ (x1 + 1)) else ((f_X6_placeOf (wr (wr (su σ 17 3 ((σ 17 3) + 1)) 4 (rd σ 6 x1) ((rd (su σ 17 3 ((σ 17 3) + 1)) 4 (rd σ 6 x1)) ||| ((1 : Int32) <<< ((rd σ 7 x1) &&& 31)))) 4 (rd σ 7 x1) ((rd (wr (su σ 17 3 ((σ 17 3) + 1)) 4 (rd σ 6 x1) ((rd (su σ 17 3 ((σ 17 3) + 1)) 4 (rd σ 6 x1)) ||| ((1 : Int32) <<< ((rd σ 7 x1) &&& 31)))) 4 (rd σ 7 x1)) ||| ((1 : Int32) <<< ((rd σ 6 x1) &&& 31)))) x1 (rd σ 6 x1)).bind fun r120 => ((f_X6_placeOf (wr (wr (wr (su σ 17 3 ((σ 17 3) + 1)) 4 (rd σ 6 x1) ((rd (su σ 17 3 ((σ 17 3) + 1)) 4 (rd σ 6 x1)) ||| ((1 : Int32) <<< ((rd σ 7 x1) &&& 31)))) 4 (rd σ 7 x1) ((rd (wr (su σ 17 3 ((σ 17 3) + 1)) 4 (rd σ 6 x1) ((rd (su σ 17 3 ((σ 17 3) + 1)) 4 (rd σ 6 x1)) ||| ((1 : Int32) <<< ((rd σ 7 x1) &&& 31)))) 4 (rd σ 7 x1)) ||| ((1 : Int32) <<< ((rd σ 6 x1) &&& 31)))) 5 (((rd σ 6 x1) * (nI 8)) + (rd σ 7 x1)) r120) x1 (rd σ 7 x1)).bind fun r139 => (f_X6_readCrossings_L23 n (wr (wr (wr (wr (su σ 17 3 ((σ 17 3) + 1)) 4 (rd σ 6 x1) ((rd (su σ 17 3 ((σ 17 3) + 1)) 4 (rd σ 6 x1)) ||| ((1 : Int32) <<< ((rd σ 7 x1) &&& 31)))) 4 (rd σ 7 x1) ((rd (wr (su σ 17 3 ((σ 17 3) + 1)) 4 (rd σ 6 x1) ((rd (su σ 17 3 ((σ 17 3) + 1)) 4 (rd σ 6 x1)) ||| ((1 : Int32) <<< ((rd σ 7 x1) &&& 31)))) 4 (rd σ 7 x1)) ||| ((1 : Int32) <<< ((rd σ 6 x1) &&& 31)))) 5 (((rd σ 6 x1) * (nI 8)) + (rd σ 7 x1)) r120) 5 (((rd σ 7 x1) * (nI 8)) + (rd σ 6 x1)) r139) (x1 + 1)))))))) := rfl
def f_X6_readCrossings (σ : SC)  : Option SC :=
  (f_X6_readCrossings_L23 FU (fl (fl (su σ 17 3 0) 4 0) 5 (-1)) 0)
section SE
variable {p : Program} {l : Launch} {e : Env} {s : State} {m : MethodId} {args : Array Value} {below : List Frame} {meth : Method} {c : Code} {D : va_G} {cI cZ : ClassId} {A : Nat → Prop} {ad : Nat → Nat}
set_option maxRecDepth 100000 in
set_option maxHeartbeats 4000000 in
theorem j_X6_readCrossings_L23 (C0 : Cx D (tyA cI cZ) RX6 cX6_readCrossings 4 none p s m args meth c) : ∀ (n : Nat) (σ : SC) (x1 : Int32), J p l e (Rm 3) s m args below meth c D A (wC ad cI) 4 (QV D A (wC ad cI)) (f_X6_readCrossings_L23 n σ x1) σ [(0, .ref (ad 36)), (1, .int x1)] [] 23 := by
  intro n
  induction n with
  | zero => intros; exact J_none
  | succ n ih =>
    intro σ x1
    refine J_eq (f_X6_readCrossings_L23_s  n σ x1) ?_
    refine J_iload_n (pc := 23) C0 1 dX6_readCrossings_23 rfl rfl ?_
    refine J_bipush (pc := 24) (v := (nI 16)) C0 dX6_readCrossings_24 (by decide) ?_
    refine J_icmp_ge (pc := 26) (tgt := 151) C0 dX6_readCrossings_26 (by decide) (fun h_26 => ?_) (fun h_26 => ?_)
    · exact J_vret C0 dX6_readCrossings_151
    · refine J_aload_n (pc := 29) C0 0 dX6_readCrossings_29 rfl rfl ?_
      refine J_get (pc := 30) (v := .ref (ad 6)) C0 36 wC_o36 rfl in_X6 4 (by decide) q159 rfl dX6_readCrossings_30 ?_
      refine J_iload_n (pc := 33) C0 1 dX6_readCrossings_33 rfl rfl ?_
      refine fin_T (run_V (As := [.int x1]) (rest := []) (q0 := 6) C0 (cT_X5_get σ 6 x1 (by decide)) v_X5_get q92 (wC_row (by decide)) rfl rfl ⟨rfl, rfl⟩ (Rm_ok (by decide) (by decide)) rfl (Nat.le_of_ble_eq_true rfl) dX6_readCrossings_34) ?_
      refine J_istore_n (pc := 37) (lv' := [(2, .int (rd σ 6 x1)), (0, .ref (ad 36)), (1, .int x1)]) C0 dX6_readCrossings_37 rfl (by decide) rfl ?_
      refine J_aload_n (pc := 38) C0 1 dX6_readCrossings_38 rfl rfl ?_
      refine J_get (pc := 39) (v := .ref (ad 7)) C0 36 wC_o36 rfl in_X6 5 (by decide) q160 rfl dX6_readCrossings_39 ?_
      refine J_iload_n (pc := 42) C0 2 dX6_readCrossings_42 rfl rfl ?_
      refine fin_T (run_V (As := [.int x1]) (rest := []) (q0 := 7) C0 (cT_X5_get σ 7 x1 (by decide)) v_X5_get q92 (wC_row (by decide)) rfl rfl ⟨rfl, rfl⟩ (Rm_ok (by decide) (by decide)) rfl (Nat.le_of_ble_eq_true rfl) dX6_readCrossings_43) ?_
      refine J_istore_n (pc := 46) (lv' := [(3, .int (rd σ 7 x1)), (2, .int (rd σ 6 x1)), (0, .ref (ad 36)), (1, .int x1)]) C0 dX6_readCrossings_46 rfl (by decide) rfl ?_
      refine J_iload_n (pc := 47) C0 1 dX6_readCrossings_47 rfl rfl ?_
      refine J_iconst (pc := 48) (v := (-1)) C0 dX6_readCrossings_48 (by decide) ?_
      refine J_icmp_eq (pc := 49) (tgt := 145) C0 dX6_readCrossings_49 (by decide) (fun h_49 => ?_) (fun h_49 => ?_)
      · refine J_iinc (pc := 145) (d := 1) (lv' := [(1, .int (x1 + 1)), (3, .int (rd σ 7 x1)), (2, .int (rd σ 6 x1)), (0, .ref (ad 36))]) C0 3 dX6_readCrossings_145 rfl (by decide) (by decide) rfl ?_
        refine J_goto (pc := 148) (tgt := 23) C0 dX6_readCrossings_148 (by decide) ?_
        refine J_sub (lv' := [(0, .ref (ad 36)), (1, .int (x1 + 1))]) [3, 0] rfl ?_
        exact ih σ (x1 + 1)
      · refine J_iload_n (pc := 52) C0 0 dX6_readCrossings_52 rfl rfl ?_
        refine J_iconst (pc := 53) (v := (-1)) C0 dX6_readCrossings_53 (by decide) ?_
        refine J_icmp_eq (pc := 54) (tgt := 145) C0 dX6_readCrossings_54 (by decide) (fun h_54 => ?_) (fun h_54 => ?_)
        · refine J_iinc (pc := 145) (d := 1) (lv' := [(1, .int (x1 + 1)), (3, .int (rd σ 7 x1)), (2, .int (rd σ 6 x1)), (0, .ref (ad 36))]) C0 3 dX6_readCrossings_145 rfl (by decide) (by decide) rfl ?_
          refine J_goto (pc := 148) (tgt := 23) C0 dX6_readCrossings_148 (by decide) ?_
          refine J_sub (lv' := [(0, .ref (ad 36)), (1, .int (x1 + 1))]) [3, 0] rfl ?_
          exact ih σ (x1 + 1)
        · refine J_aload_n (pc := 57) C0 2 dX6_readCrossings_57 rfl rfl ?_
          refine J_dup (pc := 58) C0 dX6_readCrossings_58 rfl ?_
          refine J_get (pc := 59) (v := .int (σ 17 3)) C0 36 wC_o36 rfl in_X6 8 (by decide) q152 rfl dX6_readCrossings_59 ?_
          refine J_iconst (pc := 62) (v := 1) C0 dX6_readCrossings_62 (by decide) ?_
          refine J_iadd (pc := 63) C0 dX6_readCrossings_63 ?_
          refine J_put (pc := 64) (σ' := (su σ 17 3 ((σ 17 3) + 1))) (v := .int ((σ 17 3) + 1)) (ty := .int) C0 tyX6_ok nmX6 36 wC_o36 rfl in_X6 8 (by decide) q152 rfl (by decide +kernel) rfl rfl (Nat.le_of_ble_eq_true rfl) wC_p3 dX6_readCrossings_64 ?_
          refine J_aload_n (pc := 67) C0 2 dX6_readCrossings_67 rfl rfl ?_
          refine J_get (pc := 68) (v := .ref (ad 4)) C0 36 wC_o36 rfl in_X6 2 (by decide) q153 rfl dX6_readCrossings_68 ?_
          refine J_iload_n (pc := 71) C0 1 dX6_readCrossings_71 rfl rfl ?_
          refine J_aload_n (pc := 72) C0 2 dX6_readCrossings_72 rfl rfl ?_
          refine J_get (pc := 73) (v := .ref (ad 4)) C0 36 wC_o36 rfl in_X6 2 (by decide) q153 rfl dX6_readCrossings_73 ?_
          refine J_iload_n (pc := 76) C0 1 dX6_readCrossings_76 rfl rfl ?_
          refine fin_T (run_V (As := [.int (rd σ 6 x1)]) (rest := [.int (rd σ 6 x1), .ref (ad 4)]) (q0 := 4) C0 (cT_X5_get (su σ 17 3 ((σ 17 3) + 1)) 4 (rd σ 6 x1) (by decide)) v_X5_get q92 (wC_row (by decide)) rfl rfl ⟨rfl, rfl⟩ (Rm_ok (by decide) (by decide)) rfl (Nat.le_of_ble_eq_true rfl) dX6_readCrossings_77) ?_
          refine J_iconst (pc := 80) (v := 1) C0 dX6_readCrossings_80 (by decide) ?_
          refine J_iload_n (pc := 81) C0 0 dX6_readCrossings_81 rfl rfl ?_
          refine J_ishl (pc := 82) C0 dX6_readCrossings_82 ?_
          refine J_ior (pc := 83) C0 dX6_readCrossings_83 ?_
          refine fin_TV (run_V (As := [.int (rd σ 6 x1), .int ((rd (su σ 17 3 ((σ 17 3) + 1)) 4 (rd σ 6 x1)) ||| ((1 : Int32) <<< ((rd σ 7 x1) &&& 31)))]) (rest := []) (q0 := 4) C0 (cT_X5_set (su σ 17 3 ((σ 17 3) + 1)) 4 (rd σ 6 x1) ((rd (su σ 17 3 ((σ 17 3) + 1)) 4 (rd σ 6 x1)) ||| ((1 : Int32) <<< ((rd σ 7 x1) &&& 31))) (by decide)) v_X5_set q90 (wC_row (by decide)) rfl rfl ⟨rfl, rfl⟩ (Rm_ok (by decide) (by decide)) rfl (Nat.le_of_ble_eq_true rfl) dX6_readCrossings_84) ?_
          refine J_aload_n (pc := 87) C0 2 dX6_readCrossings_87 rfl rfl ?_
          refine J_get (pc := 88) (v := .ref (ad 4)) C0 36 wC_o36 rfl in_X6 2 (by decide) q153 rfl dX6_readCrossings_88 ?_
          refine J_iload_n (pc := 91) C0 0 dX6_readCrossings_91 rfl rfl ?_
          refine J_aload_n (pc := 92) C0 2 dX6_readCrossings_92 rfl rfl ?_
          refine J_get (pc := 93) (v := .ref (ad 4)) C0 36 wC_o36 rfl in_X6 2 (by decide) q153 rfl dX6_readCrossings_93 ?_
          refine J_iload_n (pc := 96) C0 0 dX6_readCrossings_96 rfl rfl ?_
          refine fin_T (run_V (As := [.int (rd σ 7 x1)]) (rest := [.int (rd σ 7 x1), .ref (ad 4)]) (q0 := 4) C0 (cT_X5_get (wr (su σ 17 3 ((σ 17 3) + 1)) 4 (rd σ 6 x1) ((rd (su σ 17 3 ((σ 17 3) + 1)) 4 (rd σ 6 x1)) ||| ((1 : Int32) <<< ((rd σ 7 x1) &&& 31)))) 4 (rd σ 7 x1) (by decide)) v_X5_get q92 (wC_row (by decide)) rfl rfl ⟨rfl, rfl⟩ (Rm_ok (by decide) (by decide)) rfl (Nat.le_of_ble_eq_true rfl) dX6_readCrossings_97) ?_
          refine J_iconst (pc := 100) (v := 1) C0 dX6_readCrossings_100 (by decide) ?_
          refine J_iload_n (pc := 101) C0 1 dX6_readCrossings_101 rfl rfl ?_
          refine J_ishl (pc := 102) C0 dX6_readCrossings_102 ?_
          refine J_ior (pc := 103) C0 dX6_readCrossings_103 ?_
          refine fin_TV (run_V (As := [.int (rd σ 7 x1), .int ((rd (wr (su σ 17 3 ((σ 17 3) + 1)) 4 (rd σ 6 x1) ((rd (su σ 17 3 ((σ 17 3) + 1)) 4 (rd σ 6 x1)) ||| ((1 : Int32) <<< ((rd σ 7 x1) &&& 31)))) 4 (rd σ 7 x1)) ||| ((1 : Int32) <<< ((rd σ 6 x1) &&& 31)))]) (rest := []) (q0 := 4) C0 (cT_X5_set (wr (su σ 17 3 ((σ 17 3) + 1)) 4 (rd σ 6 x1) ((rd (su σ 17 3 ((σ 17 3) + 1)) 4 (rd σ 6 x1)) ||| ((1 : Int32) <<< ((rd σ 7 x1) &&& 31)))) 4 (rd σ 7 x1) ((rd (wr (su σ 17 3 ((σ 17 3) + 1)) 4 (rd σ 6 x1) ((rd (su σ 17 3 ((σ 17 3) + 1)) 4 (rd σ 6 x1)) ||| ((1 : Int32) <<< ((rd σ 7 x1) &&& 31)))) 4 (rd σ 7 x1)) ||| ((1 : Int32) <<< ((rd σ 6 x1) &&& 31))) (by decide)) v_X5_set q90 (wC_row (by decide)) rfl rfl ⟨rfl, rfl⟩ (Rm_ok (by decide) (by decide)) rfl (Nat.le_of_ble_eq_true rfl) dX6_readCrossings_104) ?_
          refine J_aload_n (pc := 107) C0 2 dX6_readCrossings_107 rfl rfl ?_
          refine J_get (pc := 108) (v := .ref (ad 5)) C0 36 wC_o36 rfl in_X6 3 (by decide) q158 rfl dX6_readCrossings_108 ?_
          refine J_iload_n (pc := 111) C0 1 dX6_readCrossings_111 rfl rfl ?_
          refine J_bipush (pc := 112) (v := (nI 8)) C0 dX6_readCrossings_112 (by decide) ?_
          refine J_imul (pc := 114) C0 dX6_readCrossings_114 ?_
          refine J_iload_n (pc := 115) C0 0 dX6_readCrossings_115 rfl rfl ?_
          refine J_iadd (pc := 116) C0 dX6_readCrossings_116 ?_
          refine J_aload_n (pc := 117) C0 2 dX6_readCrossings_117 rfl rfl ?_
          refine J_iload_n (pc := 118) C0 3 dX6_readCrossings_118 rfl rfl ?_
          refine J_iload_n (pc := 119) C0 1 dX6_readCrossings_119 rfl rfl ?_
          refine fin_P (fun r_ h_ => run_V (As := [.int x1, .int (rd σ 6 x1)]) (rest := [.int (((rd σ 6 x1) * (nI 8)) + (rd σ 7 x1)), .ref (ad 5)]) (q0 := 36) C0 (c_X6_placeOf (wr (wr (su σ 17 3 ((σ 17 3) + 1)) 4 (rd σ 6 x1) ((rd (su σ 17 3 ((σ 17 3) + 1)) 4 (rd σ 6 x1)) ||| ((1 : Int32) <<< ((rd σ 7 x1) &&& 31)))) 4 (rd σ 7 x1) ((rd (wr (su σ 17 3 ((σ 17 3) + 1)) 4 (rd σ 6 x1) ((rd (su σ 17 3 ((σ 17 3) + 1)) 4 (rd σ 6 x1)) ||| ((1 : Int32) <<< ((rd σ 7 x1) &&& 31)))) 4 (rd σ 7 x1)) ||| ((1 : Int32) <<< ((rd σ 6 x1) &&& 31)))) x1 (rd σ 6 x1)  r_ h_) v_X6_placeOf q161 wC_o36 rfl rfl ⟨rfl, rfl⟩ (Rm_ok (by decide) (by decide)) rfl (Nat.le_of_ble_eq_true rfl) dX6_readCrossings_120) (fun r120 e120 => ?_)
          refine fin_TV (run_V (As := [.int (((rd σ 6 x1) * (nI 8)) + (rd σ 7 x1)), .int r120]) (rest := []) (q0 := 5) C0 (cT_X5_set (wr (wr (su σ 17 3 ((σ 17 3) + 1)) 4 (rd σ 6 x1) ((rd (su σ 17 3 ((σ 17 3) + 1)) 4 (rd σ 6 x1)) ||| ((1 : Int32) <<< ((rd σ 7 x1) &&& 31)))) 4 (rd σ 7 x1) ((rd (wr (su σ 17 3 ((σ 17 3) + 1)) 4 (rd σ 6 x1) ((rd (su σ 17 3 ((σ 17 3) + 1)) 4 (rd σ 6 x1)) ||| ((1 : Int32) <<< ((rd σ 7 x1) &&& 31)))) 4 (rd σ 7 x1)) ||| ((1 : Int32) <<< ((rd σ 6 x1) &&& 31)))) 5 (((rd σ 6 x1) * (nI 8)) + (rd σ 7 x1)) r120 (by decide)) v_X5_set q90 (wC_row (by decide)) rfl rfl ⟨rfl, rfl⟩ (Rm_ok (by decide) (by decide)) rfl (Nat.le_of_ble_eq_true rfl) dX6_readCrossings_123) ?_
          refine J_aload_n (pc := 126) C0 2 dX6_readCrossings_126 rfl rfl ?_
          refine J_get (pc := 127) (v := .ref (ad 5)) C0 36 wC_o36 rfl in_X6 3 (by decide) q158 rfl dX6_readCrossings_127 ?_
          refine J_iload_n (pc := 130) C0 0 dX6_readCrossings_130 rfl rfl ?_
          refine J_bipush (pc := 131) (v := (nI 8)) C0 dX6_readCrossings_131 (by decide) ?_
          refine J_imul (pc := 133) C0 dX6_readCrossings_133 ?_
          refine J_iload_n (pc := 134) C0 1 dX6_readCrossings_134 rfl rfl ?_
          refine J_iadd (pc := 135) C0 dX6_readCrossings_135 ?_
          refine J_aload_n (pc := 136) C0 2 dX6_readCrossings_136 rfl rfl ?_
          refine J_iload_n (pc := 137) C0 3 dX6_readCrossings_137 rfl rfl ?_
          refine J_iload_n (pc := 138) C0 0 dX6_readCrossings_138 rfl rfl ?_
          refine fin_P (fun r_ h_ => run_V (As := [.int x1, .int (rd σ 7 x1)]) (rest := [.int (((rd σ 7 x1) * (nI 8)) + (rd σ 6 x1)), .ref (ad 5)]) (q0 := 36) C0 (c_X6_placeOf (wr (wr (wr (su σ 17 3 ((σ 17 3) + 1)) 4 (rd σ 6 x1) ((rd (su σ 17 3 ((σ 17 3) + 1)) 4 (rd σ 6 x1)) ||| ((1 : Int32) <<< ((rd σ 7 x1) &&& 31)))) 4 (rd σ 7 x1) ((rd (wr (su σ 17 3 ((σ 17 3) + 1)) 4 (rd σ 6 x1) ((rd (su σ 17 3 ((σ 17 3) + 1)) 4 (rd σ 6 x1)) ||| ((1 : Int32) <<< ((rd σ 7 x1) &&& 31)))) 4 (rd σ 7 x1)) ||| ((1 : Int32) <<< ((rd σ 6 x1) &&& 31)))) 5 (((rd σ 6 x1) * (nI 8)) + (rd σ 7 x1)) r120) x1 (rd σ 7 x1)  r_ h_) v_X6_placeOf q161 wC_o36 rfl rfl ⟨rfl, rfl⟩ (Rm_ok (by decide) (by decide)) rfl (Nat.le_of_ble_eq_true rfl) dX6_readCrossings_139) (fun r139 e139 => ?_)
          refine fin_TV (run_V (As := [.int (((rd σ 7 x1) * (nI 8)) + (rd σ 6 x1)), .int r139]) (rest := []) (q0 := 5) C0 (cT_X5_set (wr (wr (wr (su σ 17 3 ((σ 17 3) + 1)) 4 (rd σ 6 x1) ((rd (su σ 17 3 ((σ 17 3) + 1)) 4 (rd σ 6 x1)) ||| ((1 : Int32) <<< ((rd σ 7 x1) &&& 31)))) 4 (rd σ 7 x1) ((rd (wr (su σ 17 3 ((σ 17 3) + 1)) 4 (rd σ 6 x1) ((rd (su σ 17 3 ((σ 17 3) + 1)) 4 (rd σ 6 x1)) ||| ((1 : Int32) <<< ((rd σ 7 x1) &&& 31)))) 4 (rd σ 7 x1)) ||| ((1 : Int32) <<< ((rd σ 6 x1) &&& 31)))) 5 (((rd σ 6 x1) * (nI 8)) + (rd σ 7 x1)) r120) 5 (((rd σ 7 x1) * (nI 8)) + (rd σ 6 x1)) r139 (by decide)) v_X5_set q90 (wC_row (by decide)) rfl rfl ⟨rfl, rfl⟩ (Rm_ok (by decide) (by decide)) rfl (Nat.le_of_ble_eq_true rfl) dX6_readCrossings_142) ?_
          refine J_iinc (pc := 145) (d := 1) (lv' := [(1, .int (x1 + 1)), (3, .int (rd σ 7 x1)), (2, .int (rd σ 6 x1)), (0, .ref (ad 36))]) C0 3 dX6_readCrossings_145 rfl (by decide) (by decide) rfl ?_
          refine J_goto (pc := 148) (tgt := 23) C0 dX6_readCrossings_148 (by decide) ?_
          refine J_sub (lv' := [(0, .ref (ad 36)), (1, .int (x1 + 1))]) [3, 0] rfl ?_
          exact ih (wr (wr (wr (wr (su σ 17 3 ((σ 17 3) + 1)) 4 (rd σ 6 x1) ((rd (su σ 17 3 ((σ 17 3) + 1)) 4 (rd σ 6 x1)) ||| ((1 : Int32) <<< ((rd σ 7 x1) &&& 31)))) 4 (rd σ 7 x1) ((rd (wr (su σ 17 3 ((σ 17 3) + 1)) 4 (rd σ 6 x1) ((rd (su σ 17 3 ((σ 17 3) + 1)) 4 (rd σ 6 x1)) ||| ((1 : Int32) <<< ((rd σ 7 x1) &&& 31)))) 4 (rd σ 7 x1)) ||| ((1 : Int32) <<< ((rd σ 6 x1) &&& 31)))) 5 (((rd σ 6 x1) * (nI 8)) + (rd σ 7 x1)) r120) 5 (((rd σ 7 x1) * (nI 8)) + (rd σ 6 x1)) r139) (x1 + 1)
set_option maxRecDepth 100000 in
set_option maxHeartbeats 4000000 in
theorem c_X6_readCrossings {l : Launch} {D : va_G} {cI cZ : ClassId} {A : Nat → Prop} {ad : Nat → Nat} (σ : SC)   (r : SC) (h : f_X6_readCrossings σ = some r) : Met l yX6_readCrossings (.code yX6_readCrossings cX6_readCrossings 4 none :: wG) (Rm 3) (PreW D (tyA cI cZ) A (wC ad cI) [.ref (ad 36)] σ) (QV D A (wC ad cI) r) 0 0 A := by
  refine met_of (M := f_X6_readCrossings σ) (Qc := (QV D A (wC ad cI))) (by decide) (Nat.le_of_ble_eq_true rfl) h (fun p e s m below meth c C0 => ?_)
  generalize hargs : ([.ref (ad 36)] : List Value).toArray = args at C0 ⊢
  have C0 : Cx D (tyA cI cZ) RX6 cX6_readCrossings 4 none p s m args meth c := C0
  refine J_sub (lv' := [(0, .ref (ad 36))]) [0] rfl ?_
  unfold f_X6_readCrossings
  refine J_aload_n (pc := 0) C0 0 dX6_readCrossings_0 rfl rfl ?_
  refine J_iconst (pc := 1) (v := 0) C0 dX6_readCrossings_1 (by decide) ?_
  refine J_put (pc := 2) (σ' := (su σ 17 3 0)) (v := .int 0) (ty := .int) C0 tyX6_ok nmX6 36 wC_o36 rfl in_X6 8 (by decide) q152 rfl (by decide +kernel) rfl rfl (Nat.le_of_ble_eq_true rfl) wC_p3 dX6_readCrossings_2 ?_
  refine J_aload_n (pc := 5) C0 0 dX6_readCrossings_5 rfl rfl ?_
  refine J_get (pc := 6) (v := .ref (ad 4)) C0 36 wC_o36 rfl in_X6 2 (by decide) q153 rfl dX6_readCrossings_6 ?_
  refine J_iconst (pc := 9) (v := 0) C0 dX6_readCrossings_9 (by decide) ?_
  refine fin_TV (run_V (As := [.int 0]) (rest := []) (q0 := 4) C0 (cT_X5_fill (su σ 17 3 0) 4 0 (by decide)) v_X5_fill q154 (wC_row (by decide)) rfl rfl ⟨rfl, rfl⟩ (Rm_ok (by decide) (by decide)) rfl (Nat.le_of_ble_eq_true rfl) dX6_readCrossings_10) ?_
  refine J_aload_n (pc := 13) C0 0 dX6_readCrossings_13 rfl rfl ?_
  refine J_get (pc := 14) (v := .ref (ad 5)) C0 36 wC_o36 rfl in_X6 3 (by decide) q158 rfl dX6_readCrossings_14 ?_
  refine J_iconst (pc := 17) (v := (-1)) C0 dX6_readCrossings_17 (by decide) ?_
  refine fin_TV (run_V (As := [.int (-1)]) (rest := []) (q0 := 5) C0 (cT_X5_fill (fl (su σ 17 3 0) 4 0) 5 (-1) (by decide)) v_X5_fill q154 (wC_row (by decide)) rfl rfl ⟨rfl, rfl⟩ (Rm_ok (by decide) (by decide)) rfl (Nat.le_of_ble_eq_true rfl) dX6_readCrossings_18) ?_
  refine J_iconst (pc := 21) (v := 0) C0 dX6_readCrossings_21 (by decide) ?_
  refine J_istore_n (pc := 22) (lv' := [(1, .int 0), (0, .ref (ad 36))]) C0 dX6_readCrossings_22 rfl (by decide) rfl ?_
  refine J_sub (lv' := [(0, .ref (ad 36)), (1, .int 0)]) [1, 0] rfl ?_
  exact j_X6_readCrossings_L23 C0 FU (fl (fl (su σ 17 3 0) 4 0) 5 (-1)) 0
end SE

def f_X6_readLine_K41 (r4 : Nat) (k6 : SC → Int32 → Int32 → Option SC) (σ : SC) (x2 : Int32) (x3 : Int32) (x5 : Int32) (x6 : Int32) : Option SC :=
  ((f_X6_addSlot σ (x2 + ((x6 - x5) * x3)) x5 x3 r4).bind fun σ56 => (k6 σ56 0 (x6 + 1)))
def f_X6_readLine_L6 (r4 : Nat) (x2 : Int32) (x3 : Int32) : Nat → SC → Int32 → Int32 → Option SC
  | 0, _, _, _ => none
  | n + 1, σ, x5, x6 =>
  (if (nI 4) < x6 then (some σ) else (if (nI 4) ≤ x6 then (f_X6_readLine_K41 r4 (f_X6_readLine_L6 r4 x2 x3 n) σ x2 x3 x5 x6) else (if (rd σ 0 (x2 + (x6 * x3))) = (-1) then (f_X6_readLine_K41 r4 (f_X6_readLine_L6 r4 x2 x3 n) σ x2 x3 x5 x6) else (f_X6_readLine_L6 r4 x2 x3 n σ (x5 + 1) (x6 + 1)))))
theorem f_X6_readLine_L6_s (r4 : Nat) (x2 : Int32) (x3 : Int32) (n : Nat) (σ : SC) (x5 : Int32) (x6 : Int32) : f_X6_readLine_L6 r4 x2 x3 (n + 1) σ x5 x6 = ((if (nI 4) < x6 then (some σ) else (if (nI 4) ≤ x6 then (f_X6_readLine_K41 r4 (f_X6_readLine_L6 r4 x2 x3 n) σ x2 x3 x5 x6) else (if (rd σ 0 (x2 + (x6 * x3))) = (-1) then (f_X6_readLine_K41 r4 (f_X6_readLine_L6 r4 x2 x3 n) σ x2 x3 x5 x6) else (f_X6_readLine_L6 r4 x2 x3 n σ (x5 + 1) (x6 + 1)))))) := rfl
def f_X6_readLine (σ : SC) (x2 : Int32) (x3 : Int32) (r4 : Nat) : Option SC :=
  (f_X6_readLine_L6 r4 x2 x3 FU σ 0 0)
section SE
variable {p : Program} {l : Launch} {e : Env} {s : State} {m : MethodId} {args : Array Value} {below : List Frame} {meth : Method} {c : Code} {D : va_G} {cI cZ : ClassId} {A : Nat → Prop} {ad : Nat → Nat}
set_option maxRecDepth 100000 in
set_option maxHeartbeats 4000000 in
theorem j_X6_readLine_K41 (C0 : Cx D (tyA cI cZ) RX6 cX6_readLine 7 none p s m args meth c) {r4 : Nat} (k6 : SC → Int32 → Int32 → Option SC) (hr4 : r4 < 17) (σ : SC) (x2 : Int32) (x3 : Int32) (x5 : Int32) (x6 : Int32) (hk6 : ∀ (σ : SC) (x5 : Int32) (x6 : Int32), J p l e (Rm 3) s m args below meth c D A (wC ad cI) 7 (QV D A (wC ad cI)) (k6 σ x5 x6) σ [(0, .ref (ad 36)), (1, .ref (ad 35)), (2, .int x2), (3, .int x3), (4, .ref (ad r4)), (5, .int x5), (6, .int x6)] [] 6) : J p l e (Rm 3) s m args below meth c D A (wC ad cI) 7 (QV D A (wC ad cI)) (f_X6_readLine_K41 r4 k6 σ x2 x3 x5 x6) σ [(0, .ref (ad 36)), (1, .ref (ad 35)), (2, .int x2), (3, .int x3), (4, .ref (ad r4)), (5, .int x5), (6, .int x6)] [] 41 := by
  unfold f_X6_readLine_K41
  refine J_aload_n (pc := 41) C0 0 dX6_readLine_41 rfl rfl ?_
  refine J_iload_n (pc := 42) C0 2 dX6_readLine_42 rfl rfl ?_
  refine J_iload (pc := 43) C0 6 dX6_readLine_43 rfl ?_
  refine J_iload (pc := 45) C0 5 dX6_readLine_45 rfl ?_
  refine J_isub (pc := 47) C0 dX6_readLine_47 ?_
  refine J_iload_n (pc := 48) C0 3 dX6_readLine_48 rfl rfl ?_
  refine J_imul (pc := 49) C0 dX6_readLine_49 ?_
  refine J_iadd (pc := 50) C0 dX6_readLine_50 ?_
  refine J_iload (pc := 51) C0 5 dX6_readLine_51 rfl ?_
  refine J_iload_n (pc := 53) C0 3 dX6_readLine_53 rfl rfl ?_
  refine J_aload (pc := 54) C0 4 dX6_readLine_54 rfl ?_
  refine fin_V (fun r_ h_ => run_V (As := [.int (x2 + ((x6 - x5) * x3)), .int x5, .int x3, .ref (ad r4)]) (rest := []) (q0 := 36) C0 (c_X6_addSlot σ (x2 + ((x6 - x5) * x3)) x5 x3 r4 hr4 r_ h_) v_X6_addSlot q165 wC_o36 rfl rfl ⟨rfl, rfl⟩ (Rm_ok (by decide) (by decide)) rfl (Nat.le_of_ble_eq_true rfl) dX6_readLine_56) (fun σ56 e56 => ?_)
  refine J_iconst (pc := 59) (v := 0) C0 dX6_readLine_59 (by decide) ?_
  refine J_istore (pc := 60) (lv' := [(5, .int 0), (0, .ref (ad 36)), (1, .ref (ad 35)), (2, .int x2), (3, .int x3), (4, .ref (ad r4)), (6, .int x6)]) C0 dX6_readLine_60 (by decide) rfl ?_
  refine J_iinc (pc := 62) (d := 1) (lv' := [(6, .int (x6 + 1)), (5, .int 0), (0, .ref (ad 36)), (1, .ref (ad 35)), (2, .int x2), (3, .int x3), (4, .ref (ad r4))]) C0 6 dX6_readLine_62 rfl (by decide) (by decide) rfl ?_
  refine J_goto (pc := 65) (tgt := 6) C0 dX6_readLine_65 (by decide) ?_
  refine J_sub (lv' := [(0, .ref (ad 36)), (1, .ref (ad 35)), (2, .int x2), (3, .int x3), (4, .ref (ad r4)), (5, .int 0), (6, .int (x6 + 1))]) [2, 3, 4, 5, 6, 1, 0] rfl ?_
  exact hk6 σ56 0 (x6 + 1)
set_option maxRecDepth 100000 in
set_option maxHeartbeats 4000000 in
theorem j_X6_readLine_L6 (C0 : Cx D (tyA cI cZ) RX6 cX6_readLine 7 none p s m args meth c) {r4 : Nat} (x2 : Int32) (x3 : Int32) (hr4 : r4 < 17) : ∀ (n : Nat) (σ : SC) (x5 : Int32) (x6 : Int32), J p l e (Rm 3) s m args below meth c D A (wC ad cI) 7 (QV D A (wC ad cI)) (f_X6_readLine_L6 r4 x2 x3 n σ x5 x6) σ [(0, .ref (ad 36)), (1, .ref (ad 35)), (2, .int x2), (3, .int x3), (4, .ref (ad r4)), (5, .int x5), (6, .int x6)] [] 6 := by
  intro n
  induction n with
  | zero => intros; exact J_none
  | succ n ih =>
    intro σ x5 x6
    refine J_eq (f_X6_readLine_L6_s r4 x2 x3 n σ x5 x6) ?_
    refine J_iload (pc := 6) C0 6 dX6_readLine_6 rfl ?_
    refine J_iconst (pc := 8) (v := (nI 4)) C0 dX6_readLine_8 (by decide) ?_
    refine J_icmp_gt (pc := 9) (tgt := 68) C0 dX6_readLine_9 (by decide) (fun h_9 => ?_) (fun h_9 => ?_)
    · exact J_vret C0 dX6_readLine_68
    · refine J_iload (pc := 12) C0 6 dX6_readLine_12 rfl ?_
      refine J_iconst (pc := 14) (v := (nI 4)) C0 dX6_readLine_14 (by decide) ?_
      refine J_icmp_ge (pc := 15) (tgt := 41) C0 dX6_readLine_15 (by decide) (fun h_15 => ?_) (fun h_15 => ?_)
      · refine J_sub (lv' := [(0, .ref (ad 36)), (1, .ref (ad 35)), (2, .int x2), (3, .int x3), (4, .ref (ad r4)), (5, .int x5), (6, .int x6)]) [0, 1, 2, 3, 4, 5, 6] rfl ?_
        exact j_X6_readLine_K41 C0 _ hr4 σ x2 x3 x5 x6 ih
      · refine J_aload_n (pc := 18) C0 1 dX6_readLine_18 rfl rfl ?_
        refine J_getN (pc := 19) (v := .ref (ad 0)) C0 35 wC_o35 rfl in_X0 0 (by decide) q150 rfl dX6_readLine_19 ?_
        refine J_iload_n (pc := 22) C0 2 dX6_readLine_22 rfl rfl ?_
        refine J_iload (pc := 23) C0 6 dX6_readLine_23 rfl ?_
        refine J_iload_n (pc := 25) C0 3 dX6_readLine_25 rfl rfl ?_
        refine J_imul (pc := 26) C0 dX6_readLine_26 ?_
        refine J_iadd (pc := 27) C0 dX6_readLine_27 ?_
        refine fin_T (run_V (As := [.int (x2 + (x6 * x3))]) (rest := []) (q0 := 0) C0 (cT_X5_get σ 0 (x2 + (x6 * x3)) (by decide)) v_X5_get q92 (wC_row (by decide)) rfl rfl ⟨rfl, rfl⟩ (Rm_ok (by decide) (by decide)) rfl (Nat.le_of_ble_eq_true rfl) dX6_readLine_28) ?_
        refine J_iconst (pc := 31) (v := (-1)) C0 dX6_readLine_31 (by decide) ?_
        refine J_icmp_eq (pc := 32) (tgt := 41) C0 dX6_readLine_32 (by decide) (fun h_32 => ?_) (fun h_32 => ?_)
        · refine J_sub (lv' := [(0, .ref (ad 36)), (1, .ref (ad 35)), (2, .int x2), (3, .int x3), (4, .ref (ad r4)), (5, .int x5), (6, .int x6)]) [0, 1, 2, 3, 4, 5, 6] rfl ?_
          exact j_X6_readLine_K41 C0 _ hr4 σ x2 x3 x5 x6 ih
        · refine J_iinc (pc := 35) (d := 1) (lv' := [(5, .int (x5 + 1)), (0, .ref (ad 36)), (1, .ref (ad 35)), (2, .int x2), (3, .int x3), (4, .ref (ad r4)), (6, .int x6)]) C0 5 dX6_readLine_35 rfl (by decide) (by decide) rfl ?_
          refine J_goto (pc := 38) (tgt := 62) C0 dX6_readLine_38 (by decide) ?_
          refine J_iinc (pc := 62) (d := 1) (lv' := [(6, .int (x6 + 1)), (5, .int (x5 + 1)), (0, .ref (ad 36)), (1, .ref (ad 35)), (2, .int x2), (3, .int x3), (4, .ref (ad r4))]) C0 6 dX6_readLine_62 rfl (by decide) (by decide) rfl ?_
          refine J_goto (pc := 65) (tgt := 6) C0 dX6_readLine_65 (by decide) ?_
          refine J_sub (lv' := [(0, .ref (ad 36)), (1, .ref (ad 35)), (2, .int x2), (3, .int x3), (4, .ref (ad r4)), (5, .int (x5 + 1)), (6, .int (x6 + 1))]) [2, 3, 4, 5, 6, 1, 0] rfl ?_
          exact ih σ (x5 + 1) (x6 + 1)
set_option maxRecDepth 100000 in
set_option maxHeartbeats 4000000 in
theorem c_X6_readLine {l : Launch} {D : va_G} {cI cZ : ClassId} {A : Nat → Prop} {ad : Nat → Nat} (σ : SC) (x2 : Int32) (x3 : Int32) (r4 : Nat) (hr4 : r4 < 17) (r : SC) (h : f_X6_readLine σ x2 x3 r4 = some r) : Met l yX6_readLine (.code yX6_readLine cX6_readLine 7 none :: wG) (Rm 3) (PreW D (tyA cI cZ) A (wC ad cI) [.ref (ad 36), .ref (ad 35), .int x2, .int x3, .ref (ad r4)] σ) (QV D A (wC ad cI) r) 0 0 A := by
  refine met_of (M := f_X6_readLine σ x2 x3 r4) (Qc := (QV D A (wC ad cI))) (by decide) (Nat.le_of_ble_eq_true rfl) h (fun p e s m below meth c C0 => ?_)
  generalize hargs : ([.ref (ad 36), .ref (ad 35), .int x2, .int x3, .ref (ad r4)] : List Value).toArray = args at C0 ⊢
  have C0 : Cx D (tyA cI cZ) RX6 cX6_readLine 7 none p s m args meth c := C0
  refine J_sub (lv' := [(0, .ref (ad 36)), (1, .ref (ad 35)), (2, .int x2), (3, .int x3), (4, .ref (ad r4))]) [0, 1, 2, 3, 4] rfl ?_
  unfold f_X6_readLine
  refine J_iconst (pc := 0) (v := 0) C0 dX6_readLine_0 (by decide) ?_
  refine J_istore (pc := 1) (lv' := [(5, .int 0), (0, .ref (ad 36)), (1, .ref (ad 35)), (2, .int x2), (3, .int x3), (4, .ref (ad r4))]) C0 dX6_readLine_1 (by decide) rfl ?_
  refine J_iconst (pc := 3) (v := 0) C0 dX6_readLine_3 (by decide) ?_
  refine J_istore (pc := 4) (lv' := [(6, .int 0), (5, .int 0), (0, .ref (ad 36)), (1, .ref (ad 35)), (2, .int x2), (3, .int x3), (4, .ref (ad r4))]) C0 dX6_readLine_4 (by decide) rfl ?_
  refine J_sub (lv' := [(0, .ref (ad 36)), (1, .ref (ad 35)), (2, .int x2), (3, .int x3), (4, .ref (ad r4)), (5, .int 0), (6, .int 0)]) [2, 3, 4, 5, 6, 1, 0] rfl ?_
  exact j_X6_readLine_L6 C0 x2 x3 hr4 FU σ 0 0
end SE

def f_X7_appendByLots_L39 (x1 : Int32) (x3 : Int32) (x6 : Int32) (x7 : Int32) (kx76 : SC → Int64 → Int32 → Option (Int32 × SC)) : Nat → SC → Int64 → Int32 → Int32 → Option (Int32 × SC)
  | 0, _, _, _, _ => none
  | n + 1, σ, z4, x8, x9 =>
  (if x7 ≤ x9 then (kx76 σ z4 x8) else ((f_X7_nextLot z4).bind fun r48 => (f_X7_appendByLots_L39 x1 x3 x6 x7 kx76 n σ r48 (((x8 * (nI 7)) + 1) + (r48 - r48 / 6 * 6).toInt32) (x9 + 1))))
theorem f_X7_appendByLots_L39_s (x1 : Int32) (x3 : Int32) (x6 : Int32) (x7 : Int32) (kx76 : SC → Int64 → Int32 → Option (Int32 × SC)) (n : Nat) (σ : SC) (z4 : Int64) (x8 : Int32) (x9 : Int32) : f_X7_appendByLots_L39 x1 x3 x6 x7 kx76 (n + 1) σ z4 x8 x9 = ((if x7 ≤ x9 then (kx76 σ z4 x8) else ((f_X7_nextLot z4).bind fun r48 => (f_X7_appendByLots_L39 x1 x3 x6 x7 kx76 n σ r48 (((x8 * (nI 7)) + 1) + (r48 - r48 / 6 * 6).toInt32) (x9 + 1))))) := rfl
def f_X7_appendByLots_L9 (x1 : Int32) : Nat → SC → Int32 → Int64 → Int32 → Option (Int32 × SC)
  | 0, _, _, _, _ => none
  | n + 1, σ, x3, z4, x6 =>
  (if x1 ≤ x6 then (some (x3, σ)) else ((f_X7_nextLot z4).bind fun r17 => (f_X7_appendByLots_L39 x1 x3 x6 ((nI 2) + (r17 - r17 / 3 * 3).toInt32) (fun σ_76 z4_76 x8_76 => ((f_X0_numberOf σ_76 x8_76).bind fun r82 => (if r82 = (-1) then (if (nI 16) ≤ (σ_76 17 0) then (f_X7_appendByLots_L9 x1 n σ_76 x3 z4_76 (x6 + 1)) else ((f_X0_append σ_76 x8_76).bind fun σ107 => (f_X7_appendByLots_L9 x1 n σ107 (x3 + 1) z4_76 (x6 + 1)))) else (f_X7_appendByLots_L9 x1 n σ_76 x3 z4_76 (x6 + 1))))) FU σ r17 0 0)))
theorem f_X7_appendByLots_L9_s (x1 : Int32) (n : Nat) (σ : SC) (x3 : Int32) (z4 : Int64) (x6 : Int32) : f_X7_appendByLots_L9 x1 (n + 1) σ x3 z4 x6 = ((if x1 ≤ x6 then (some (x3, σ)) else ((f_X7_nextLot z4).bind fun r17 => (f_X7_appendByLots_L39 x1 x3 x6 ((nI 2) + (r17 - r17 / 3 * 3).toInt32) (fun σ_76 z4_76 x8_76 => ((f_X0_numberOf σ_76 x8_76).bind fun r82 => (if r82 = (-1) then (if (nI 16) ≤ (σ_76 17 0) then (f_X7_appendByLots_L9 x1 n σ_76 x3 z4_76 (x6 + 1)) else ((f_X0_append σ_76 x8_76).bind fun σ107 => (f_X7_appendByLots_L9 x1 n σ107 (x3 + 1) z4_76 (x6 + 1)))) else (f_X7_appendByLots_L9 x1 n σ_76 x3 z4_76 (x6 + 1))))) FU σ r17 0 0)))) := rfl
def f_X7_appendByLots (σ : SC) (x1 : Int32) (x2 : Int32) : Option (Int32 × SC) :=
  (f_X7_appendByLots_L9 x1 FU σ 0 x2.toInt64 0)
section SE
variable {p : Program} {l : Launch} {e : Env} {s : State} {m : MethodId} {args : Array Value} {below : List Frame} {meth : Method} {c : Code} {D : va_G} {cI cZ : ClassId} {A : Nat → Prop} {ad : Nat → Nat}
set_option maxRecDepth 100000 in
set_option maxHeartbeats 4000000 in
theorem j_X7_appendByLots_L39 (C0 : Cx D (tyA cI cZ) RX7 cX7_appendByLots 10 (some .int) p s m args meth c) (x1 : Int32) (x3 : Int32) (x6 : Int32) (x7 : Int32) (kx76 : SC → Int64 → Int32 → Option (Int32 × SC)) (hkx76 : ∀ (σ : SC) (z4 : Int64) (x8 : Int32), J p l e (Rm 3) s m args below meth c D A (wC ad cI) 10 (QI D A (wC ad cI)) (kx76 σ z4 x8) σ [(0, .ref (ad 34)), (1, .int x1), (3, .int x3), (4, .long z4), (6, .int x6), (8, .int x8)] [] 76) : ∀ (n : Nat) (σ : SC) (z4 : Int64) (x8 : Int32) (x9 : Int32), J p l e (Rm 3) s m args below meth c D A (wC ad cI) 10 (QI D A (wC ad cI)) (f_X7_appendByLots_L39 x1 x3 x6 x7 kx76 n σ z4 x8 x9) σ [(0, .ref (ad 34)), (1, .int x1), (3, .int x3), (4, .long z4), (6, .int x6), (7, .int x7), (8, .int x8), (9, .int x9)] [] 39 := by
  intro n
  induction n with
  | zero => intros; exact J_none
  | succ n ih =>
    intro σ z4 x8 x9
    refine J_eq (f_X7_appendByLots_L39_s x1 x3 x6 x7 kx76 n σ z4 x8 x9) ?_
    refine J_iload (pc := 39) C0 7 dX7_appendByLots_39 rfl ?_
    refine J_iload (pc := 41) C0 5 dX7_appendByLots_41 rfl ?_
    refine J_icmp_ge (pc := 43) (tgt := 76) C0 dX7_appendByLots_43 (by decide) (fun h_43 => ?_) (fun h_43 => ?_)
    · refine J_sub (lv' := [(0, .ref (ad 34)), (1, .int x1), (3, .int x3), (4, .long z4), (6, .int x6), (8, .int x8)]) [0, 1, 2, 3, 4, 6] rfl ?_
      exact hkx76 σ z4 x8
    · refine J_lload (pc := 46) C0 3 dX7_appendByLots_46 rfl ?_
      refine fin_L (fun r_ h_ => run_S (As := [.long z4]) (rest := []) C0 (c_X7_nextLot σ z4  r_ h_) v_X7_nextLot q169 rfl ⟨rfl, rfl⟩ (Rm_ok (by decide) (by decide)) rfl (Nat.le_of_ble_eq_true rfl) dX7_appendByLots_48) (fun r48 e48 => ?_)
      refine J_lstore (pc := 51) (lv' := [(4, .long r48), (0, .ref (ad 34)), (1, .int x1), (3, .int x3), (6, .int x6), (7, .int x7), (8, .int x8), (9, .int x9)]) C0 dX7_appendByLots_51 (by decide) rfl ?_
      refine J_iload (pc := 53) C0 6 dX7_appendByLots_53 rfl ?_
      refine J_bipush (pc := 55) (v := (nI 7)) C0 dX7_appendByLots_55 (by decide) ?_
      refine J_imul (pc := 57) C0 dX7_appendByLots_57 ?_
      refine J_iconst (pc := 58) (v := 1) C0 dX7_appendByLots_58 (by decide) ?_
      refine J_iadd (pc := 59) C0 dX7_appendByLots_59 ?_
      refine J_lload (pc := 60) C0 0 dX7_appendByLots_60 rfl ?_
      refine J_ldc2 (pc := 62) C0 q173 dX7_appendByLots_62 ?_
      refine J_lrem (pc := 65) C0 dX7_appendByLots_65 (by decide) ?_
      refine J_l2i (pc := 66) C0 dX7_appendByLots_66 ?_
      refine J_iadd (pc := 67) C0 dX7_appendByLots_67 ?_
      refine J_istore (pc := 68) (lv' := [(8, .int (((x8 * (nI 7)) + 1) + (r48 - r48 / 6 * 6).toInt32)), (4, .long r48), (0, .ref (ad 34)), (1, .int x1), (3, .int x3), (6, .int x6), (7, .int x7), (9, .int x9)]) C0 dX7_appendByLots_68 (by decide) rfl ?_
      refine J_iinc (pc := 70) (d := 1) (lv' := [(9, .int (x9 + 1)), (8, .int (((x8 * (nI 7)) + 1) + (r48 - r48 / 6 * 6).toInt32)), (4, .long r48), (0, .ref (ad 34)), (1, .int x1), (3, .int x3), (6, .int x6), (7, .int x7)]) C0 7 dX7_appendByLots_70 rfl (by decide) (by decide) rfl ?_
      refine J_goto (pc := 73) (tgt := 39) C0 dX7_appendByLots_73 (by decide) ?_
      refine J_sub (lv' := [(0, .ref (ad 34)), (1, .int x1), (3, .int x3), (4, .long r48), (6, .int x6), (7, .int x7), (8, .int (((x8 * (nI 7)) + 1) + (r48 - r48 / 6 * 6).toInt32)), (9, .int (x9 + 1))]) [3, 4, 5, 2, 6, 7, 1, 0] rfl ?_
      exact ih σ r48 (((x8 * (nI 7)) + 1) + (r48 - r48 / 6 * 6).toInt32) (x9 + 1)
set_option maxRecDepth 100000 in
set_option maxHeartbeats 4000000 in
theorem j_X7_appendByLots_L9 (C0 : Cx D (tyA cI cZ) RX7 cX7_appendByLots 10 (some .int) p s m args meth c) (x1 : Int32) : ∀ (n : Nat) (σ : SC) (x3 : Int32) (z4 : Int64) (x6 : Int32), J p l e (Rm 3) s m args below meth c D A (wC ad cI) 10 (QI D A (wC ad cI)) (f_X7_appendByLots_L9 x1 n σ x3 z4 x6) σ [(0, .ref (ad 34)), (1, .int x1), (3, .int x3), (4, .long z4), (6, .int x6)] [] 9 := by
  intro n
  induction n with
  | zero => intros; exact J_none
  | succ n ih =>
    intro σ x3 z4 x6
    refine J_eq (f_X7_appendByLots_L9_s x1 n σ x3 z4 x6) ?_
    refine J_iload (pc := 9) C0 4 dX7_appendByLots_9 rfl ?_
    refine J_iload_n (pc := 11) C0 1 dX7_appendByLots_11 rfl rfl ?_
    refine J_icmp_ge (pc := 12) (tgt := 119) C0 dX7_appendByLots_12 (by decide) (fun h_12 => ?_) (fun h_12 => ?_)
    · refine J_iload_n (pc := 119) C0 2 dX7_appendByLots_119 rfl rfl ?_
      exact J_iret C0 dX7_appendByLots_120
    · refine J_lload (pc := 15) C0 3 dX7_appendByLots_15 rfl ?_
      refine fin_L (fun r_ h_ => run_S (As := [.long z4]) (rest := []) C0 (c_X7_nextLot σ z4  r_ h_) v_X7_nextLot q169 rfl ⟨rfl, rfl⟩ (Rm_ok (by decide) (by decide)) rfl (Nat.le_of_ble_eq_true rfl) dX7_appendByLots_17) (fun r17 e17 => ?_)
      refine J_lstore (pc := 20) (lv' := [(4, .long r17), (0, .ref (ad 34)), (1, .int x1), (3, .int x3), (6, .int x6)]) C0 dX7_appendByLots_20 (by decide) rfl ?_
      refine J_iconst (pc := 22) (v := (nI 2)) C0 dX7_appendByLots_22 (by decide) ?_
      refine J_lload (pc := 23) C0 0 dX7_appendByLots_23 rfl ?_
      refine J_ldc2 (pc := 25) C0 q172 dX7_appendByLots_25 ?_
      refine J_lrem (pc := 28) C0 dX7_appendByLots_28 (by decide) ?_
      refine J_l2i (pc := 29) C0 dX7_appendByLots_29 ?_
      refine J_iadd (pc := 30) C0 dX7_appendByLots_30 ?_
      refine J_istore (pc := 31) (lv' := [(7, .int ((nI 2) + (r17 - r17 / 3 * 3).toInt32)), (4, .long r17), (0, .ref (ad 34)), (1, .int x1), (3, .int x3), (6, .int x6)]) C0 dX7_appendByLots_31 (by decide) rfl ?_
      refine J_iconst (pc := 33) (v := 0) C0 dX7_appendByLots_33 (by decide) ?_
      refine J_istore (pc := 34) (lv' := [(8, .int 0), (7, .int ((nI 2) + (r17 - r17 / 3 * 3).toInt32)), (4, .long r17), (0, .ref (ad 34)), (1, .int x1), (3, .int x3), (6, .int x6)]) C0 dX7_appendByLots_34 (by decide) rfl ?_
      refine J_iconst (pc := 36) (v := 0) C0 dX7_appendByLots_36 (by decide) ?_
      refine J_istore (pc := 37) (lv' := [(9, .int 0), (8, .int 0), (7, .int ((nI 2) + (r17 - r17 / 3 * 3).toInt32)), (4, .long r17), (0, .ref (ad 34)), (1, .int x1), (3, .int x3), (6, .int x6)]) C0 dX7_appendByLots_37 (by decide) rfl ?_
      refine J_sub (lv' := [(0, .ref (ad 34)), (1, .int x1), (3, .int x3), (4, .long r17), (6, .int x6), (7, .int ((nI 2) + (r17 - r17 / 3 * 3).toInt32)), (8, .int 0), (9, .int 0)]) [4, 5, 6, 3, 7, 2, 1, 0] rfl ?_
      refine j_X7_appendByLots_L39 C0 x1 x3 x6 ((nI 2) + (r17 - r17 / 3 * 3).toInt32) _ (fun σ_76 z4_76 x8_76 => ?_) FU σ r17 0 0
      refine J_aload_n (pc := 76) C0 0 dX7_appendByLots_76 rfl rfl ?_
      refine J_get (pc := 77) (v := .ref (ad 35)) C0 34 wC_o34 rfl in_X7 0 (by decide) q23 rfl dX7_appendByLots_77 ?_
      refine J_iload (pc := 80) C0 5 dX7_appendByLots_80 rfl ?_
      refine fin_P (fun r_ h_ => run_V (As := [.int x8_76]) (rest := []) (q0 := 35) C0 (c_X0_numberOf σ_76 x8_76  r_ h_) v_X0_numberOf q174 wC_o35 rfl rfl ⟨rfl, rfl⟩ (Rm_ok (by decide) (by decide)) rfl (Nat.le_of_ble_eq_true rfl) dX7_appendByLots_82) (fun r82 e82 => ?_)
      refine J_iconst (pc := 85) (v := (-1)) C0 dX7_appendByLots_85 (by decide) ?_
      refine J_icmp_ne (pc := 86) (tgt := 113) C0 dX7_appendByLots_86 (by decide) (fun h_86 => ?_) (fun h_86 => ?_)
      · refine J_iinc (pc := 113) (d := 1) (lv' := [(6, .int (x6 + 1)), (0, .ref (ad 34)), (1, .int x1), (3, .int x3), (4, .long z4_76), (8, .int x8_76)]) C0 4 dX7_appendByLots_113 rfl (by decide) (by decide) rfl ?_
        refine J_goto (pc := 116) (tgt := 9) C0 dX7_appendByLots_116 (by decide) ?_
        refine J_sub (lv' := [(0, .ref (ad 34)), (1, .int x1), (3, .int x3), (4, .long z4_76), (6, .int (x6 + 1))]) [1, 2, 3, 4, 0] rfl ?_
        exact ih σ_76 x3 z4_76 (x6 + 1)
      · refine J_aload_n (pc := 89) C0 0 dX7_appendByLots_89 rfl rfl ?_
        refine J_get (pc := 90) (v := .ref (ad 35)) C0 34 wC_o34 rfl in_X7 0 (by decide) q23 rfl dX7_appendByLots_90 ?_
        refine J_getN (pc := 93) (v := .int (σ_76 17 0)) C0 35 wC_o35 rfl in_X0 2 (by decide) q24 rfl dX7_appendByLots_93 ?_
        refine J_bipush (pc := 96) (v := (nI 16)) C0 dX7_appendByLots_96 (by decide) ?_
        refine J_icmp_ge (pc := 98) (tgt := 113) C0 dX7_appendByLots_98 (by decide) (fun h_98 => ?_) (fun h_98 => ?_)
        · refine J_iinc (pc := 113) (d := 1) (lv' := [(6, .int (x6 + 1)), (0, .ref (ad 34)), (1, .int x1), (3, .int x3), (4, .long z4_76), (8, .int x8_76)]) C0 4 dX7_appendByLots_113 rfl (by decide) (by decide) rfl ?_
          refine J_goto (pc := 116) (tgt := 9) C0 dX7_appendByLots_116 (by decide) ?_
          refine J_sub (lv' := [(0, .ref (ad 34)), (1, .int x1), (3, .int x3), (4, .long z4_76), (6, .int (x6 + 1))]) [1, 2, 3, 4, 0] rfl ?_
          exact ih σ_76 x3 z4_76 (x6 + 1)
        · refine J_aload_n (pc := 101) C0 0 dX7_appendByLots_101 rfl rfl ?_
          refine J_get (pc := 102) (v := .ref (ad 35)) C0 34 wC_o34 rfl in_X7 0 (by decide) q23 rfl dX7_appendByLots_102 ?_
          refine J_iload (pc := 105) C0 5 dX7_appendByLots_105 rfl ?_
          refine fin_V (fun r_ h_ => run_V (As := [.int x8_76]) (rest := []) (q0 := 35) C0 (c_X0_append σ_76 x8_76  r_ h_) v_X0_append q179 wC_o35 rfl rfl ⟨rfl, rfl⟩ (Rm_ok (by decide) (by decide)) rfl (Nat.le_of_ble_eq_true rfl) dX7_appendByLots_107) (fun σ107 e107 => ?_)
          refine J_iinc (pc := 110) (d := 1) (lv' := [(3, .int (x3 + 1)), (0, .ref (ad 34)), (1, .int x1), (4, .long z4_76), (6, .int x6), (8, .int x8_76)]) C0 2 dX7_appendByLots_110 rfl (by decide) (by decide) rfl ?_
          refine J_iinc (pc := 113) (d := 1) (lv' := [(6, .int (x6 + 1)), (3, .int (x3 + 1)), (0, .ref (ad 34)), (1, .int x1), (4, .long z4_76), (8, .int x8_76)]) C0 4 dX7_appendByLots_113 rfl (by decide) (by decide) rfl ?_
          refine J_goto (pc := 116) (tgt := 9) C0 dX7_appendByLots_116 (by decide) ?_
          refine J_sub (lv' := [(0, .ref (ad 34)), (1, .int x1), (3, .int (x3 + 1)), (4, .long z4_76), (6, .int (x6 + 1))]) [2, 3, 1, 4, 0] rfl ?_
          exact ih σ107 (x3 + 1) z4_76 (x6 + 1)
set_option maxRecDepth 100000 in
set_option maxHeartbeats 4000000 in
theorem c_X7_appendByLots {l : Launch} {D : va_G} {cI cZ : ClassId} {A : Nat → Prop} {ad : Nat → Nat} (σ : SC) (x1 : Int32) (x2 : Int32)  (r : (Int32 × SC)) (h : f_X7_appendByLots σ x1 x2 = some r) : Met l yX7_appendByLots (.code yX7_appendByLots cX7_appendByLots 10 (some .int) :: wG) (Rm 3) (PreW D (tyA cI cZ) A (wC ad cI) [.ref (ad 34), .int x1, .int x2] σ) (QI D A (wC ad cI) r) 0 0 A := by
  refine met_of (M := f_X7_appendByLots σ x1 x2) (Qc := (QI D A (wC ad cI))) (by decide) (Nat.le_of_ble_eq_true rfl) h (fun p e s m below meth c C0 => ?_)
  generalize hargs : ([.ref (ad 34), .int x1, .int x2] : List Value).toArray = args at C0 ⊢
  have C0 : Cx D (tyA cI cZ) RX7 cX7_appendByLots 10 (some .int) p s m args meth c := C0
  refine J_sub (lv' := [(0, .ref (ad 34)), (1, .int x1), (2, .int x2)]) [0, 1, 2] rfl ?_
  unfold f_X7_appendByLots
  refine J_iconst (pc := 0) (v := 0) C0 dX7_appendByLots_0 (by decide) ?_
  refine J_istore_n (pc := 1) (lv' := [(3, .int 0), (0, .ref (ad 34)), (1, .int x1), (2, .int x2)]) C0 dX7_appendByLots_1 rfl (by decide) rfl ?_
  refine J_iload_n (pc := 2) C0 3 dX7_appendByLots_2 rfl rfl ?_
  refine J_i2l (pc := 3) C0 dX7_appendByLots_3 ?_
  refine J_lstore (pc := 4) (lv' := [(4, .long x2.toInt64), (3, .int 0), (0, .ref (ad 34)), (1, .int x1), (2, .int x2)]) C0 dX7_appendByLots_4 (by decide) rfl ?_
  refine J_iconst (pc := 6) (v := 0) C0 dX7_appendByLots_6 (by decide) ?_
  refine J_istore (pc := 7) (lv' := [(6, .int 0), (4, .long x2.toInt64), (3, .int 0), (0, .ref (ad 34)), (1, .int x1), (2, .int x2)]) C0 dX7_appendByLots_7 (by decide) rfl ?_
  refine J_sub (lv' := [(0, .ref (ad 34)), (1, .int x1), (3, .int 0), (4, .long x2.toInt64), (6, .int 0)]) [3, 4, 2, 1, 0] rfl ?_
  exact j_X7_appendByLots_L9 C0 x1 FU σ 0 x2.toInt64 0
end SE

def f_X7_find (σ : SC) (x1 : Int32) : Option Int32 :=
  ((f_X7_lengthOf x1).bind fun r1 => (if r1 = 0 then (some (-1000000002)) else ((f_X0_numberOf σ x1).bind fun r17 => (some r17))))
section SE
variable {p : Program} {l : Launch} {e : Env} {s : State} {m : MethodId} {args : Array Value} {below : List Frame} {meth : Method} {c : Code} {D : va_G} {cI cZ : ClassId} {A : Nat → Prop} {ad : Nat → Nat}
set_option maxRecDepth 100000 in
set_option maxHeartbeats 4000000 in
theorem c_X7_find {l : Launch} {D : va_G} {cI cZ : ClassId} {A : Nat → Prop} {ad : Nat → Nat} (σ : SC) (x1 : Int32)  (r : Int32) (h : f_X7_find σ x1 = some r) : Met l yX7_find (.code yX7_find cX7_find 2 (some .int) :: wG) (Rm 3) (PreW D (tyA cI cZ) A (wC ad cI) [.ref (ad 34), .int x1] σ) (QI D A (wC ad cI) (r, σ)) 0 0 A := by
  refine met_of (M := f_X7_find σ x1) (Qc := (fun r => QI D A (wC ad cI) (r, σ))) (by decide) (Nat.le_of_ble_eq_true rfl) h (fun p e s m below meth c C0 => ?_)
  generalize hargs : ([.ref (ad 34), .int x1] : List Value).toArray = args at C0 ⊢
  have C0 : Cx D (tyA cI cZ) RX7 cX7_find 2 (some .int) p s m args meth c := C0
  refine J_sub (lv' := [(0, .ref (ad 34)), (1, .int x1)]) [0, 1] rfl ?_
  unfold f_X7_find
  refine J_iload_n (pc := 0) C0 1 dX7_find_0 rfl rfl ?_
  refine fin_P (fun r_ h_ => run_S (As := [.int x1]) (rest := []) C0 (c_X7_lengthOf σ x1  r_ h_) v_X7_lengthOf q183 rfl ⟨rfl, rfl⟩ (Rm_ok (by decide) (by decide)) rfl (Nat.le_of_ble_eq_true rfl) dX7_find_1) (fun r1 e1 => ?_)
  refine J_if_ne (pc := 4) (tgt := 12) C0 dX7_find_4 (by decide) (fun h_4 => ?_) (fun h_4 => ?_)
  · refine J_aload_n (pc := 12) C0 0 dX7_find_12 rfl rfl ?_
    refine J_get (pc := 13) (v := .ref (ad 35)) C0 34 wC_o34 rfl in_X7 0 (by decide) q23 rfl dX7_find_13 ?_
    refine J_iload_n (pc := 16) C0 1 dX7_find_16 rfl rfl ?_
    refine fin_P (fun r_ h_ => run_V (As := [.int x1]) (rest := []) (q0 := 35) C0 (c_X0_numberOf σ x1  r_ h_) v_X0_numberOf q174 wC_o35 rfl rfl ⟨rfl, rfl⟩ (Rm_ok (by decide) (by decide)) rfl (Nat.le_of_ble_eq_true rfl) dX7_find_17) (fun r17 e17 => ?_)
    exact J_iretP C0 dX7_find_20
  · refine J_ldc (pc := 7) C0 q184 dX7_find_7 ?_
    refine J_goto (pc := 9) (tgt := 20) C0 dX7_find_9 (by decide) ?_
    exact J_iretP C0 dX7_find_20
end SE

def f_X7_lettersLeft_L24 (σ : SC) (x1 : Int32) (x3 : Int32) : Nat → Int32 → Int32 → Option Int32
  | 0, _, _ => none
  | n + 1, x4, x5 =>
  (if (nI 6) ≤ x5 then (some x4) else ((f_X3_wordsHaving σ x3 x5).bind fun r49 => (if ((rd σ 12 x1) &&& r49) = 0 then (f_X7_lettersLeft_L24 σ x1 x3 n x4 (x5 + 1)) else (f_X7_lettersLeft_L24 σ x1 x3 n (x4 ||| ((1 : Int32) <<< (x5 &&& 31))) (x5 + 1)))))
theorem f_X7_lettersLeft_L24_s (σ : SC) (x1 : Int32) (x3 : Int32) (n : Nat) (x4 : Int32) (x5 : Int32) : f_X7_lettersLeft_L24 σ x1 x3 (n + 1) x4 x5 = ((if (nI 6) ≤ x5 then (some x4) else ((f_X3_wordsHaving σ x3 x5).bind fun r49 => (if ((rd σ 12 x1) &&& r49) = 0 then (f_X7_lettersLeft_L24 σ x1 x3 n x4 (x5 + 1)) else (f_X7_lettersLeft_L24 σ x1 x3 n (x4 ||| ((1 : Int32) <<< (x5 &&& 31))) (x5 + 1)))))) := rfl
def f_X7_lettersLeft (σ : SC) (x1 : Int32) (x2 : Int32) : Option Int32 :=
  (if x1 = (-1) then (some (nI 63)) else ((f_X6_placeOf σ x2 x1).bind fun r14 => (f_X7_lettersLeft_L24 σ x1 r14 FU 0 0)))
section SE
variable {p : Program} {l : Launch} {e : Env} {s : State} {m : MethodId} {args : Array Value} {below : List Frame} {meth : Method} {c : Code} {D : va_G} {cI cZ : ClassId} {A : Nat → Prop} {ad : Nat → Nat}
set_option maxRecDepth 100000 in
set_option maxHeartbeats 4000000 in
theorem j_X7_lettersLeft_L24 (C0 : Cx D (tyA cI cZ) RX7 cX7_lettersLeft 6 (some .int) p s m args meth c) (σ : SC) (x1 : Int32) (x3 : Int32) : ∀ (n : Nat) (x4 : Int32) (x5 : Int32), J p l e (Rm 3) s m args below meth c D A (wC ad cI) 6 (fun r => QI D A (wC ad cI) (r, σ)) (f_X7_lettersLeft_L24 σ x1 x3 n x4 x5) σ [(0, .ref (ad 34)), (1, .int x1), (3, .int x3), (4, .int x4), (5, .int x5)] [] 24 := by
  intro n
  induction n with
  | zero => intros; exact J_none
  | succ n ih =>
    intro x4 x5
    refine J_eq (f_X7_lettersLeft_L24_s σ x1 x3 n x4 x5) ?_
    refine J_iload (pc := 24) C0 4 dX7_lettersLeft_24 rfl ?_
    refine J_bipush (pc := 26) (v := (nI 6)) C0 dX7_lettersLeft_26 (by decide) ?_
    refine J_icmp_ge (pc := 28) (tgt := 71) C0 dX7_lettersLeft_28 (by decide) (fun h_28 => ?_) (fun h_28 => ?_)
    · refine J_iload (pc := 71) C0 3 dX7_lettersLeft_71 rfl ?_
      exact J_iretP C0 dX7_lettersLeft_73
    · refine J_aload_n (pc := 31) C0 0 dX7_lettersLeft_31 rfl rfl ?_
      refine J_get (pc := 32) (v := .ref (ad 38)) C0 34 wC_o34 rfl in_X7 3 (by decide) q98 rfl dX7_lettersLeft_32 ?_
      refine J_getN (pc := 35) (v := .ref (ad 12)) C0 38 wC_o38 rfl in_X1 3 (by decide) q99 rfl dX7_lettersLeft_35 ?_
      refine J_iload_n (pc := 38) C0 1 dX7_lettersLeft_38 rfl rfl ?_
      refine fin_T (run_V (As := [.int x1]) (rest := []) (q0 := 12) C0 (cT_X5_get σ 12 x1 (by decide)) v_X5_get q100 (wC_row (by decide)) rfl rfl ⟨rfl, rfl⟩ (Rm_ok (by decide) (by decide)) rfl (Nat.le_of_ble_eq_true rfl) dX7_lettersLeft_39) ?_
      refine J_aload_n (pc := 42) C0 0 dX7_lettersLeft_42 rfl rfl ?_
      refine J_get (pc := 43) (v := .ref (ad 37)) C0 34 wC_o34 rfl in_X7 2 (by decide) q186 rfl dX7_lettersLeft_43 ?_
      refine J_iload_n (pc := 46) C0 2 dX7_lettersLeft_46 rfl rfl ?_
      refine J_iload (pc := 47) C0 4 dX7_lettersLeft_47 rfl ?_
      refine fin_P (fun r_ h_ => run_V (As := [.int x3, .int x5]) (rest := [.int (rd σ 12 x1)]) (q0 := 37) C0 (c_X3_wordsHaving σ x3 x5  r_ h_) v_X3_wordsHaving q187 wC_o37 rfl rfl ⟨rfl, rfl⟩ (Rm_ok (by decide) (by decide)) rfl (Nat.le_of_ble_eq_true rfl) dX7_lettersLeft_49) (fun r49 e49 => ?_)
      refine J_iand (pc := 52) C0 dX7_lettersLeft_52 ?_
      refine J_if_eq (pc := 53) (tgt := 65) C0 dX7_lettersLeft_53 (by decide) (fun h_53 => ?_) (fun h_53 => ?_)
      · refine J_iinc (pc := 65) (d := 1) (lv' := [(5, .int (x5 + 1)), (0, .ref (ad 34)), (1, .int x1), (3, .int x3), (4, .int x4)]) C0 4 dX7_lettersLeft_65 rfl (by decide) (by decide) rfl ?_
        refine J_goto (pc := 68) (tgt := 24) C0 dX7_lettersLeft_68 (by decide) ?_
        refine J_sub (lv' := [(0, .ref (ad 34)), (1, .int x1), (3, .int x3), (4, .int x4), (5, .int (x5 + 1))]) [1, 2, 3, 4, 0] rfl ?_
        exact ih x4 (x5 + 1)
      · refine J_iload (pc := 56) C0 3 dX7_lettersLeft_56 rfl ?_
        refine J_iconst (pc := 58) (v := 1) C0 dX7_lettersLeft_58 (by decide) ?_
        refine J_iload (pc := 59) C0 4 dX7_lettersLeft_59 rfl ?_
        refine J_ishl (pc := 61) C0 dX7_lettersLeft_61 ?_
        refine J_ior (pc := 62) C0 dX7_lettersLeft_62 ?_
        refine J_istore (pc := 63) (lv' := [(4, .int (x4 ||| ((1 : Int32) <<< (x5 &&& 31)))), (0, .ref (ad 34)), (1, .int x1), (3, .int x3), (5, .int x5)]) C0 dX7_lettersLeft_63 (by decide) rfl ?_
        refine J_iinc (pc := 65) (d := 1) (lv' := [(5, .int (x5 + 1)), (4, .int (x4 ||| ((1 : Int32) <<< (x5 &&& 31)))), (0, .ref (ad 34)), (1, .int x1), (3, .int x3)]) C0 4 dX7_lettersLeft_65 rfl (by decide) (by decide) rfl ?_
        refine J_goto (pc := 68) (tgt := 24) C0 dX7_lettersLeft_68 (by decide) ?_
        refine J_sub (lv' := [(0, .ref (ad 34)), (1, .int x1), (3, .int x3), (4, .int (x4 ||| ((1 : Int32) <<< (x5 &&& 31)))), (5, .int (x5 + 1))]) [2, 3, 4, 1, 0] rfl ?_
        exact ih (x4 ||| ((1 : Int32) <<< (x5 &&& 31))) (x5 + 1)
set_option maxRecDepth 100000 in
set_option maxHeartbeats 4000000 in
theorem c_X7_lettersLeft {l : Launch} {D : va_G} {cI cZ : ClassId} {A : Nat → Prop} {ad : Nat → Nat} (σ : SC) (x1 : Int32) (x2 : Int32)  (r : Int32) (h : f_X7_lettersLeft σ x1 x2 = some r) : Met l yX7_lettersLeft (.code yX7_lettersLeft cX7_lettersLeft 6 (some .int) :: wG) (Rm 3) (PreW D (tyA cI cZ) A (wC ad cI) [.ref (ad 34), .int x1, .int x2] σ) (QI D A (wC ad cI) (r, σ)) 0 0 A := by
  refine met_of (M := f_X7_lettersLeft σ x1 x2) (Qc := (fun r => QI D A (wC ad cI) (r, σ))) (by decide) (Nat.le_of_ble_eq_true rfl) h (fun p e s m below meth c C0 => ?_)
  generalize hargs : ([.ref (ad 34), .int x1, .int x2] : List Value).toArray = args at C0 ⊢
  have C0 : Cx D (tyA cI cZ) RX7 cX7_lettersLeft 6 (some .int) p s m args meth c := C0
  refine J_sub (lv' := [(0, .ref (ad 34)), (1, .int x1), (2, .int x2)]) [0, 1, 2] rfl ?_
  unfold f_X7_lettersLeft
  refine J_iload_n (pc := 0) C0 1 dX7_lettersLeft_0 rfl rfl ?_
  refine J_iconst (pc := 1) (v := (-1)) C0 dX7_lettersLeft_1 (by decide) ?_
  refine J_icmp_ne (pc := 2) (tgt := 8) C0 dX7_lettersLeft_2 (by decide) (fun h_2 => ?_) (fun h_2 => ?_)
  · refine J_aload_n (pc := 8) C0 0 dX7_lettersLeft_8 rfl rfl ?_
    refine J_get (pc := 9) (v := .ref (ad 36)) C0 34 wC_o34 rfl in_X7 1 (by decide) q15 rfl dX7_lettersLeft_9 ?_
    refine J_iload_n (pc := 12) C0 2 dX7_lettersLeft_12 rfl rfl ?_
    refine J_iload_n (pc := 13) C0 1 dX7_lettersLeft_13 rfl rfl ?_
    refine fin_P (fun r_ h_ => run_V (As := [.int x2, .int x1]) (rest := []) (q0 := 36) C0 (c_X6_placeOf σ x2 x1  r_ h_) v_X6_placeOf q185 wC_o36 rfl rfl ⟨rfl, rfl⟩ (Rm_ok (by decide) (by decide)) rfl (Nat.le_of_ble_eq_true rfl) dX7_lettersLeft_14) (fun r14 e14 => ?_)
    refine J_istore_n (pc := 17) (lv' := [(3, .int r14), (0, .ref (ad 34)), (1, .int x1), (2, .int x2)]) C0 dX7_lettersLeft_17 rfl (by decide) rfl ?_
    refine J_iconst (pc := 18) (v := 0) C0 dX7_lettersLeft_18 (by decide) ?_
    refine J_istore (pc := 19) (lv' := [(4, .int 0), (3, .int r14), (0, .ref (ad 34)), (1, .int x1), (2, .int x2)]) C0 dX7_lettersLeft_19 (by decide) rfl ?_
    refine J_iconst (pc := 21) (v := 0) C0 dX7_lettersLeft_21 (by decide) ?_
    refine J_istore (pc := 22) (lv' := [(5, .int 0), (4, .int 0), (3, .int r14), (0, .ref (ad 34)), (1, .int x1), (2, .int x2)]) C0 dX7_lettersLeft_22 (by decide) rfl ?_
    refine J_sub (lv' := [(0, .ref (ad 34)), (1, .int x1), (3, .int r14), (4, .int 0), (5, .int 0)]) [3, 4, 2, 1, 0] rfl ?_
    exact j_X7_lettersLeft_L24 C0 σ x1 r14 FU 0 0
  · refine J_bipush (pc := 5) (v := (nI 63)) C0 dX7_lettersLeft_5 (by decide) ?_
    exact J_iretP C0 dX7_lettersLeft_7
end SE

def f_X7_odds_K103 (σ : SC) (x1 : Int32) (x2 : Int32) (x3 : Int32) (x4 : Int32) (y0 : Int32) : Option Int32 :=
  (if y0 = 0 then (some 1) else ((f_X1_besides σ x1 x2 x3).bind fun r117 => (if (cn r117 x4) = 0 then (some 1) else (some 0))))
def f_X7_odds_K102 (σ : SC) (x1 : Int32) (x2 : Int32) (x3 : Int32) (x4 : Int32) : Option Int32 :=
  (f_X7_odds_K103 σ x1 x2 x3 x4 0)
def f_X7_odds (σ : SC) (x1 : Int32) (x2 : Int32) (x3 : Int32) (x4 : Int32) : Option Int32 :=
  ((f_X7_isSlot σ x1).bind fun r2 => (if r2 = 0 then (some (-1000000001)) else ((f_X7_isWord σ x2).bind fun r10 => (if r10 = 0 then (some (-1000000001)) else ((f_X7_isSlot σ x3).bind fun r18 => (if r18 = 0 then (some (-1000000001)) else ((f_X7_isWord σ x4).bind fun r27 => (if r27 = 0 then (some (-1000000001)) else (if x1 = x3 then (some (-1000000001)) else (if (cn (rd σ 4 x1) x3) = 0 then (some (-1)) else (if (cn (rd σ 11 x1) x2) = 0 then (f_X7_odds_K102 σ x1 x2 x3 x4) else (if (cn (rd σ 11 x3) x4) = 0 then (f_X7_odds_K102 σ x1 x2 x3 x4) else (f_X7_odds_K103 σ x1 x2 x3 x4 1)))))))))))))
section SE
variable {p : Program} {l : Launch} {e : Env} {s : State} {m : MethodId} {args : Array Value} {below : List Frame} {meth : Method} {c : Code} {D : va_G} {cI cZ : ClassId} {A : Nat → Prop} {ad : Nat → Nat}
set_option maxRecDepth 100000 in
set_option maxHeartbeats 4000000 in
theorem j_X7_odds_K103 (C0 : Cx D (tyA cI cZ) RX7 cX7_odds 6 (some .int) p s m args meth c) (σ : SC) (x1 : Int32) (x2 : Int32) (x3 : Int32) (x4 : Int32) (y0 : Int32) : J p l e (Rm 3) s m args below meth c D A (wC ad cI) 6 (fun r => QI D A (wC ad cI) (r, σ)) (f_X7_odds_K103 σ x1 x2 x3 x4 y0) σ [(0, .ref (ad 34)), (1, .int x1), (2, .int x2), (3, .int x3), (4, .int x4)] [.int y0] 103 := by
  unfold f_X7_odds_K103
  refine J_istore (pc := 103) (lv' := [(5, .int y0), (0, .ref (ad 34)), (1, .int x1), (2, .int x2), (3, .int x3), (4, .int x4)]) C0 dX7_odds_103 (by decide) rfl ?_
  refine J_iload (pc := 105) C0 0 dX7_odds_105 rfl ?_
  refine J_if_eq (pc := 107) (tgt := 132) C0 dX7_odds_107 (by decide) (fun h_107 => ?_) (fun h_107 => ?_)
  · refine J_iconst (pc := 132) (v := 1) C0 dX7_odds_132 (by decide) ?_
    exact J_iretP C0 dX7_odds_133
  · refine J_aload_n (pc := 110) C0 1 dX7_odds_110 rfl rfl ?_
    refine J_get (pc := 111) (v := .ref (ad 38)) C0 34 wC_o34 rfl in_X7 3 (by decide) q98 rfl dX7_odds_111 ?_
    refine J_iload_n (pc := 114) C0 2 dX7_odds_114 rfl rfl ?_
    refine J_iload_n (pc := 115) C0 3 dX7_odds_115 rfl rfl ?_
    refine J_iload_n (pc := 116) C0 4 dX7_odds_116 rfl rfl ?_
    refine fin_P (fun r_ h_ => run_V (As := [.int x1, .int x2, .int x3]) (rest := []) (q0 := 38) C0 (c_X1_besides σ x1 x2 x3  r_ h_) v_X1_besides q199 wC_o38 rfl rfl ⟨rfl, rfl⟩ (Rm_ok (by decide) (by decide)) rfl (Nat.le_of_ble_eq_true rfl) dX7_odds_117) (fun r117 e117 => ?_)
    refine J_iload (pc := 120) C0 5 dX7_odds_120 rfl ?_
    refine fin_T (run_S (As := [.int r117, .int x4]) (rest := []) C0 (cT_X7_contains σ r117 x4 ) v_X7_contains q197 rfl ⟨rfl, rfl⟩ (Rm_ok (by decide) (by decide)) rfl (Nat.le_of_ble_eq_true rfl) dX7_odds_122) ?_
    refine J_if_eq (pc := 125) (tgt := 132) C0 dX7_odds_125 (by decide) (fun h_125 => ?_) (fun h_125 => ?_)
    · refine J_iconst (pc := 132) (v := 1) C0 dX7_odds_132 (by decide) ?_
      exact J_iretP C0 dX7_odds_133
    · refine J_iconst (pc := 128) (v := 0) C0 dX7_odds_128 (by decide) ?_
      refine J_goto (pc := 129) (tgt := 133) C0 dX7_odds_129 (by decide) ?_
      exact J_iretP C0 dX7_odds_133
set_option maxRecDepth 100000 in
set_option maxHeartbeats 4000000 in
theorem j_X7_odds_K102 (C0 : Cx D (tyA cI cZ) RX7 cX7_odds 6 (some .int) p s m args meth c) (σ : SC) (x1 : Int32) (x2 : Int32) (x3 : Int32) (x4 : Int32) : J p l e (Rm 3) s m args below meth c D A (wC ad cI) 6 (fun r => QI D A (wC ad cI) (r, σ)) (f_X7_odds_K102 σ x1 x2 x3 x4) σ [(0, .ref (ad 34)), (1, .int x1), (2, .int x2), (3, .int x3), (4, .int x4)] [] 102 := by
  unfold f_X7_odds_K102
  refine J_iconst (pc := 102) (v := 0) C0 dX7_odds_102 (by decide) ?_
  refine J_sub (lv' := [(0, .ref (ad 34)), (1, .int x1), (2, .int x2), (3, .int x3), (4, .int x4)]) [0, 1, 2, 3, 4] rfl ?_
  exact j_X7_odds_K103 C0 σ x1 x2 x3 x4 0
set_option maxRecDepth 100000 in
set_option maxHeartbeats 4000000 in
theorem c_X7_odds {l : Launch} {D : va_G} {cI cZ : ClassId} {A : Nat → Prop} {ad : Nat → Nat} (σ : SC) (x1 : Int32) (x2 : Int32) (x3 : Int32) (x4 : Int32)  (r : Int32) (h : f_X7_odds σ x1 x2 x3 x4 = some r) : Met l yX7_odds (.code yX7_odds cX7_odds 6 (some .int) :: wG) (Rm 3) (PreW D (tyA cI cZ) A (wC ad cI) [.ref (ad 34), .int x1, .int x2, .int x3, .int x4] σ) (QI D A (wC ad cI) (r, σ)) 0 0 A := by
  refine met_of (M := f_X7_odds σ x1 x2 x3 x4) (Qc := (fun r => QI D A (wC ad cI) (r, σ))) (by decide) (Nat.le_of_ble_eq_true rfl) h (fun p e s m below meth c C0 => ?_)
  generalize hargs : ([.ref (ad 34), .int x1, .int x2, .int x3, .int x4] : List Value).toArray = args at C0 ⊢
  have C0 : Cx D (tyA cI cZ) RX7 cX7_odds 6 (some .int) p s m args meth c := C0
  refine J_sub (lv' := [(0, .ref (ad 34)), (1, .int x1), (2, .int x2), (3, .int x3), (4, .int x4)]) [0, 1, 2, 3, 4] rfl ?_
  unfold f_X7_odds
  refine J_aload_n (pc := 0) C0 0 dX7_odds_0 rfl rfl ?_
  refine J_iload_n (pc := 1) C0 1 dX7_odds_1 rfl rfl ?_
  refine fin_P (fun r_ h_ => run_V (As := [.int x1]) (rest := []) (q0 := 34) C0 (c_X7_isSlot σ x1  r_ h_) v_X7_isSlot q188 wC_o34 rfl rfl ⟨rfl, rfl⟩ (Rm_ok (by decide) (by decide)) rfl (Nat.le_of_ble_eq_true rfl) dX7_odds_2) (fun r2 e2 => ?_)
  refine J_if_eq (pc := 5) (tgt := 38) C0 dX7_odds_5 (by decide) (fun h_5 => ?_) (fun h_5 => ?_)
  · refine J_ldc (pc := 38) C0 q192 dX7_odds_38 ?_
    exact J_iretP C0 dX7_odds_40
  · refine J_aload_n (pc := 8) C0 0 dX7_odds_8 rfl rfl ?_
    refine J_iload_n (pc := 9) C0 2 dX7_odds_9 rfl rfl ?_
    refine fin_P (fun r_ h_ => run_V (As := [.int x2]) (rest := []) (q0 := 34) C0 (c_X7_isWord σ x2  r_ h_) v_X7_isWord q193 wC_o34 rfl rfl ⟨rfl, rfl⟩ (Rm_ok (by decide) (by decide)) rfl (Nat.le_of_ble_eq_true rfl) dX7_odds_10) (fun r10 e10 => ?_)
    refine J_if_eq (pc := 13) (tgt := 38) C0 dX7_odds_13 (by decide) (fun h_13 => ?_) (fun h_13 => ?_)
    · refine J_ldc (pc := 38) C0 q192 dX7_odds_38 ?_
      exact J_iretP C0 dX7_odds_40
    · refine J_aload_n (pc := 16) C0 0 dX7_odds_16 rfl rfl ?_
      refine J_iload_n (pc := 17) C0 3 dX7_odds_17 rfl rfl ?_
      refine fin_P (fun r_ h_ => run_V (As := [.int x3]) (rest := []) (q0 := 34) C0 (c_X7_isSlot σ x3  r_ h_) v_X7_isSlot q188 wC_o34 rfl rfl ⟨rfl, rfl⟩ (Rm_ok (by decide) (by decide)) rfl (Nat.le_of_ble_eq_true rfl) dX7_odds_18) (fun r18 e18 => ?_)
      refine J_if_eq (pc := 21) (tgt := 38) C0 dX7_odds_21 (by decide) (fun h_21 => ?_) (fun h_21 => ?_)
      · refine J_ldc (pc := 38) C0 q192 dX7_odds_38 ?_
        exact J_iretP C0 dX7_odds_40
      · refine J_aload_n (pc := 24) C0 0 dX7_odds_24 rfl rfl ?_
        refine J_iload (pc := 25) C0 4 dX7_odds_25 rfl ?_
        refine fin_P (fun r_ h_ => run_V (As := [.int x4]) (rest := []) (q0 := 34) C0 (c_X7_isWord σ x4  r_ h_) v_X7_isWord q193 wC_o34 rfl rfl ⟨rfl, rfl⟩ (Rm_ok (by decide) (by decide)) rfl (Nat.le_of_ble_eq_true rfl) dX7_odds_27) (fun r27 e27 => ?_)
        refine J_if_eq (pc := 30) (tgt := 38) C0 dX7_odds_30 (by decide) (fun h_30 => ?_) (fun h_30 => ?_)
        · refine J_ldc (pc := 38) C0 q192 dX7_odds_38 ?_
          exact J_iretP C0 dX7_odds_40
        · refine J_iload_n (pc := 33) C0 1 dX7_odds_33 rfl rfl ?_
          refine J_iload_n (pc := 34) C0 3 dX7_odds_34 rfl rfl ?_
          refine J_icmp_ne (pc := 35) (tgt := 41) C0 dX7_odds_35 (by decide) (fun h_35 => ?_) (fun h_35 => ?_)
          · refine J_aload_n (pc := 41) C0 0 dX7_odds_41 rfl rfl ?_
            refine J_get (pc := 42) (v := .ref (ad 36)) C0 34 wC_o34 rfl in_X7 1 (by decide) q15 rfl dX7_odds_42 ?_
            refine J_getN (pc := 45) (v := .ref (ad 4)) C0 36 wC_o36 rfl in_X6 2 (by decide) q105 rfl dX7_odds_45 ?_
            refine J_iload_n (pc := 48) C0 1 dX7_odds_48 rfl rfl ?_
            refine fin_T (run_V (As := [.int x1]) (rest := []) (q0 := 4) C0 (cT_X5_get σ 4 x1 (by decide)) v_X5_get q100 (wC_row (by decide)) rfl rfl ⟨rfl, rfl⟩ (Rm_ok (by decide) (by decide)) rfl (Nat.le_of_ble_eq_true rfl) dX7_odds_49) ?_
            refine J_iload_n (pc := 52) C0 3 dX7_odds_52 rfl rfl ?_
            refine fin_T (run_S (As := [.int (rd σ 4 x1), .int x3]) (rest := []) C0 (cT_X7_contains σ (rd σ 4 x1) x3 ) v_X7_contains q197 rfl ⟨rfl, rfl⟩ (Rm_ok (by decide) (by decide)) rfl (Nat.le_of_ble_eq_true rfl) dX7_odds_53) ?_
            refine J_if_ne (pc := 56) (tgt := 61) C0 dX7_odds_56 (by decide) (fun h_56 => ?_) (fun h_56 => ?_)
            · refine J_aload_n (pc := 61) C0 0 dX7_odds_61 rfl rfl ?_
              refine J_get (pc := 62) (v := .ref (ad 38)) C0 34 wC_o34 rfl in_X7 3 (by decide) q98 rfl dX7_odds_62 ?_
              refine J_getN (pc := 65) (v := .ref (ad 11)) C0 38 wC_o38 rfl in_X1 2 (by decide) q198 rfl dX7_odds_65 ?_
              refine J_iload_n (pc := 68) C0 1 dX7_odds_68 rfl rfl ?_
              refine fin_T (run_V (As := [.int x1]) (rest := []) (q0 := 11) C0 (cT_X5_get σ 11 x1 (by decide)) v_X5_get q100 (wC_row (by decide)) rfl rfl ⟨rfl, rfl⟩ (Rm_ok (by decide) (by decide)) rfl (Nat.le_of_ble_eq_true rfl) dX7_odds_69) ?_
              refine J_iload_n (pc := 72) C0 2 dX7_odds_72 rfl rfl ?_
              refine fin_T (run_S (As := [.int (rd σ 11 x1), .int x2]) (rest := []) C0 (cT_X7_contains σ (rd σ 11 x1) x2 ) v_X7_contains q197 rfl ⟨rfl, rfl⟩ (Rm_ok (by decide) (by decide)) rfl (Nat.le_of_ble_eq_true rfl) dX7_odds_73) ?_
              refine J_if_eq (pc := 76) (tgt := 102) C0 dX7_odds_76 (by decide) (fun h_76 => ?_) (fun h_76 => ?_)
              · refine J_sub (lv' := [(0, .ref (ad 34)), (1, .int x1), (2, .int x2), (3, .int x3), (4, .int x4)]) [0, 1, 2, 3, 4] rfl ?_
                exact j_X7_odds_K102 C0 σ x1 x2 x3 x4
              · refine J_aload_n (pc := 79) C0 0 dX7_odds_79 rfl rfl ?_
                refine J_get (pc := 80) (v := .ref (ad 38)) C0 34 wC_o34 rfl in_X7 3 (by decide) q98 rfl dX7_odds_80 ?_
                refine J_getN (pc := 83) (v := .ref (ad 11)) C0 38 wC_o38 rfl in_X1 2 (by decide) q198 rfl dX7_odds_83 ?_
                refine J_iload_n (pc := 86) C0 3 dX7_odds_86 rfl rfl ?_
                refine fin_T (run_V (As := [.int x3]) (rest := []) (q0 := 11) C0 (cT_X5_get σ 11 x3 (by decide)) v_X5_get q100 (wC_row (by decide)) rfl rfl ⟨rfl, rfl⟩ (Rm_ok (by decide) (by decide)) rfl (Nat.le_of_ble_eq_true rfl) dX7_odds_87) ?_
                refine J_iload (pc := 90) C0 4 dX7_odds_90 rfl ?_
                refine fin_T (run_S (As := [.int (rd σ 11 x3), .int x4]) (rest := []) C0 (cT_X7_contains σ (rd σ 11 x3) x4 ) v_X7_contains q197 rfl ⟨rfl, rfl⟩ (Rm_ok (by decide) (by decide)) rfl (Nat.le_of_ble_eq_true rfl) dX7_odds_92) ?_
                refine J_if_eq (pc := 95) (tgt := 102) C0 dX7_odds_95 (by decide) (fun h_95 => ?_) (fun h_95 => ?_)
                · refine J_sub (lv' := [(0, .ref (ad 34)), (1, .int x1), (2, .int x2), (3, .int x3), (4, .int x4)]) [0, 1, 2, 3, 4] rfl ?_
                  exact j_X7_odds_K102 C0 σ x1 x2 x3 x4
                · refine J_iconst (pc := 98) (v := 1) C0 dX7_odds_98 (by decide) ?_
                  refine J_goto (pc := 99) (tgt := 103) C0 dX7_odds_99 (by decide) ?_
                  refine J_sub (lv' := [(0, .ref (ad 34)), (1, .int x1), (2, .int x2), (3, .int x3), (4, .int x4)]) [0, 1, 2, 3, 4] rfl ?_
                  exact j_X7_odds_K103 C0 σ x1 x2 x3 x4 1
            · refine J_iconst (pc := 59) (v := (-1)) C0 dX7_odds_59 (by decide) ?_
              exact J_iretP C0 dX7_odds_60
          · refine J_ldc (pc := 38) C0 q192 dX7_odds_38 ?_
            exact J_iretP C0 dX7_odds_40
end SE

def f_X7_writeWord_L5 (x1 : Int32) (x2 : Int32) : Nat → SC → Int32 → Int32 → Option (Int32 × SC)
  | 0, _, _, _ => none
  | n + 1, σ, x3, x4 =>
  (if (rd σ 3 x1) ≤ x4 then (some (x3, σ)) else ((f_X6_cellAt σ x1 x4).bind fun r28 => ((f_X3_letterOf σ x2 x4).bind fun r42 => (if (rd σ 0 r28) = ((nI 97) + r42) then (f_X7_writeWord_L5 x1 x2 n σ x3 (x4 + 1)) else (f_X7_writeWord_L5 x1 x2 n (wr σ 0 r28 ((nI 97) + r42)) (x3 + 1) (x4 + 1))))))
theorem f_X7_writeWord_L5_s (x1 : Int32) (x2 : Int32) (n : Nat) (σ : SC) (x3 : Int32) (x4 : Int32) : f_X7_writeWord_L5 x1 x2 (n + 1) σ x3 x4 = ((if (rd σ 3 x1) ≤ x4 then (some (x3, σ)) else ((f_X6_cellAt σ x1 x4).bind fun r28 => ((f_X3_letterOf σ x2 x4).bind fun r42 => (if (rd σ 0 r28) = ((nI 97) + r42) then (f_X7_writeWord_L5 x1 x2 n σ x3 (x4 + 1)) else (f_X7_writeWord_L5 x1 x2 n (wr σ 0 r28 ((nI 97) + r42)) (x3 + 1) (x4 + 1))))))) := rfl
def f_X7_writeWord (σ : SC) (x1 : Int32) (x2 : Int32) : Option (Int32 × SC) :=
  (f_X7_writeWord_L5 x1 x2 FU σ 0 0)
section SE
variable {p : Program} {l : Launch} {e : Env} {s : State} {m : MethodId} {args : Array Value} {below : List Frame} {meth : Method} {c : Code} {D : va_G} {cI cZ : ClassId} {A : Nat → Prop} {ad : Nat → Nat}
set_option maxRecDepth 100000 in
set_option maxHeartbeats 4000000 in
theorem j_X7_writeWord_L5 (C0 : Cx D (tyA cI cZ) RX7 cX7_writeWord 7 (some .int) p s m args meth c) (x1 : Int32) (x2 : Int32) : ∀ (n : Nat) (σ : SC) (x3 : Int32) (x4 : Int32), J p l e (Rm 3) s m args below meth c D A (wC ad cI) 7 (QI D A (wC ad cI)) (f_X7_writeWord_L5 x1 x2 n σ x3 x4) σ [(0, .ref (ad 34)), (1, .int x1), (2, .int x2), (3, .int x3), (4, .int x4)] [] 5 := by
  intro n
  induction n with
  | zero => intros; exact J_none
  | succ n ih =>
    intro σ x3 x4
    refine J_eq (f_X7_writeWord_L5_s x1 x2 n σ x3 x4) ?_
    refine J_iload (pc := 5) C0 4 dX7_writeWord_5 rfl ?_
    refine J_aload_n (pc := 7) C0 0 dX7_writeWord_7 rfl rfl ?_
    refine J_get (pc := 8) (v := .ref (ad 36)) C0 34 wC_o34 rfl in_X7 1 (by decide) q15 rfl dX7_writeWord_8 ?_
    refine J_getN (pc := 11) (v := .ref (ad 3)) C0 36 wC_o36 rfl in_X6 1 (by decide) q200 rfl dX7_writeWord_11 ?_
    refine J_iload_n (pc := 14) C0 1 dX7_writeWord_14 rfl rfl ?_
    refine fin_T (run_V (As := [.int x1]) (rest := [.int x4]) (q0 := 3) C0 (cT_X5_get σ 3 x1 (by decide)) v_X5_get q100 (wC_row (by decide)) rfl rfl ⟨rfl, rfl⟩ (Rm_ok (by decide) (by decide)) rfl (Nat.le_of_ble_eq_true rfl) dX7_writeWord_15) ?_
    refine J_icmp_ge (pc := 18) (tgt := 88) C0 dX7_writeWord_18 (by decide) (fun h_18 => ?_) (fun h_18 => ?_)
    · refine J_iload_n (pc := 88) C0 3 dX7_writeWord_88 rfl rfl ?_
      exact J_iret C0 dX7_writeWord_89
    · refine J_aload_n (pc := 21) C0 0 dX7_writeWord_21 rfl rfl ?_
      refine J_get (pc := 22) (v := .ref (ad 36)) C0 34 wC_o34 rfl in_X7 1 (by decide) q15 rfl dX7_writeWord_22 ?_
      refine J_iload_n (pc := 25) C0 1 dX7_writeWord_25 rfl rfl ?_
      refine J_iload (pc := 26) C0 4 dX7_writeWord_26 rfl ?_
      refine fin_P (fun r_ h_ => run_V (As := [.int x1, .int x4]) (rest := []) (q0 := 36) C0 (c_X6_cellAt σ x1 x4  r_ h_) v_X6_cellAt q201 wC_o36 rfl rfl ⟨rfl, rfl⟩ (Rm_ok (by decide) (by decide)) rfl (Nat.le_of_ble_eq_true rfl) dX7_writeWord_28) (fun r28 e28 => ?_)
      refine J_istore (pc := 31) (lv' := [(5, .int r28), (0, .ref (ad 34)), (1, .int x1), (2, .int x2), (3, .int x3), (4, .int x4)]) C0 dX7_writeWord_31 (by decide) rfl ?_
      refine J_bipush (pc := 33) (v := (nI 97)) C0 dX7_writeWord_33 (by decide) ?_
      refine J_aload_n (pc := 35) C0 1 dX7_writeWord_35 rfl rfl ?_
      refine J_get (pc := 36) (v := .ref (ad 37)) C0 34 wC_o34 rfl in_X7 2 (by decide) q186 rfl dX7_writeWord_36 ?_
      refine J_iload_n (pc := 39) C0 3 dX7_writeWord_39 rfl rfl ?_
      refine J_iload (pc := 40) C0 5 dX7_writeWord_40 rfl ?_
      refine fin_P (fun r_ h_ => run_V (As := [.int x2, .int x4]) (rest := [.int (nI 97)]) (q0 := 37) C0 (c_X3_letterOf σ x2 x4  r_ h_) v_X3_letterOf q202 wC_o37 rfl rfl ⟨rfl, rfl⟩ (Rm_ok (by decide) (by decide)) rfl (Nat.le_of_ble_eq_true rfl) dX7_writeWord_42) (fun r42 e42 => ?_)
      refine J_iadd (pc := 45) C0 dX7_writeWord_45 ?_
      refine J_istore (pc := 46) (lv' := [(6, .int ((nI 97) + r42)), (5, .int r28), (0, .ref (ad 34)), (1, .int x1), (2, .int x2), (3, .int x3), (4, .int x4)]) C0 dX7_writeWord_46 (by decide) rfl ?_
      refine J_aload_n (pc := 48) C0 2 dX7_writeWord_48 rfl rfl ?_
      refine J_get (pc := 49) (v := .ref (ad 35)) C0 34 wC_o34 rfl in_X7 0 (by decide) q23 rfl dX7_writeWord_49 ?_
      refine J_getN (pc := 52) (v := .ref (ad 0)) C0 35 wC_o35 rfl in_X0 0 (by decide) q206 rfl dX7_writeWord_52 ?_
      refine J_iload (pc := 55) C0 1 dX7_writeWord_55 rfl ?_
      refine fin_T (run_V (As := [.int r28]) (rest := []) (q0 := 0) C0 (cT_X5_get σ 0 r28 (by decide)) v_X5_get q100 (wC_row (by decide)) rfl rfl ⟨rfl, rfl⟩ (Rm_ok (by decide) (by decide)) rfl (Nat.le_of_ble_eq_true rfl) dX7_writeWord_57) ?_
      refine J_iload (pc := 60) C0 0 dX7_writeWord_60 rfl ?_
      refine J_icmp_eq (pc := 62) (tgt := 82) C0 dX7_writeWord_62 (by decide) (fun h_62 => ?_) (fun h_62 => ?_)
      · refine J_iinc (pc := 82) (d := 1) (lv' := [(4, .int (x4 + 1)), (6, .int ((nI 97) + r42)), (5, .int r28), (0, .ref (ad 34)), (1, .int x1), (2, .int x2), (3, .int x3)]) C0 6 dX7_writeWord_82 rfl (by decide) (by decide) rfl ?_
        refine J_goto (pc := 85) (tgt := 5) C0 dX7_writeWord_85 (by decide) ?_
        refine J_sub (lv' := [(0, .ref (ad 34)), (1, .int x1), (2, .int x2), (3, .int x3), (4, .int (x4 + 1))]) [3, 4, 5, 6, 0] rfl ?_
        exact ih σ x3 (x4 + 1)
      · refine J_aload_n (pc := 65) C0 2 dX7_writeWord_65 rfl rfl ?_
        refine J_get (pc := 66) (v := .ref (ad 35)) C0 34 wC_o34 rfl in_X7 0 (by decide) q23 rfl dX7_writeWord_66 ?_
        refine J_getN (pc := 69) (v := .ref (ad 0)) C0 35 wC_o35 rfl in_X0 0 (by decide) q206 rfl dX7_writeWord_69 ?_
        refine J_iload (pc := 72) C0 1 dX7_writeWord_72 rfl ?_
        refine J_iload (pc := 74) C0 0 dX7_writeWord_74 rfl ?_
        refine fin_TV (run_V (As := [.int r28, .int ((nI 97) + r42)]) (rest := []) (q0 := 0) C0 (cT_X5_set σ 0 r28 ((nI 97) + r42) (by decide)) v_X5_set q207 (wC_row (by decide)) rfl rfl ⟨rfl, rfl⟩ (Rm_ok (by decide) (by decide)) rfl (Nat.le_of_ble_eq_true rfl) dX7_writeWord_76) ?_
        refine J_iinc (pc := 79) (d := 1) (lv' := [(3, .int (x3 + 1)), (6, .int ((nI 97) + r42)), (5, .int r28), (0, .ref (ad 34)), (1, .int x1), (2, .int x2), (4, .int x4)]) C0 5 dX7_writeWord_79 rfl (by decide) (by decide) rfl ?_
        refine J_iinc (pc := 82) (d := 1) (lv' := [(4, .int (x4 + 1)), (3, .int (x3 + 1)), (6, .int ((nI 97) + r42)), (5, .int r28), (0, .ref (ad 34)), (1, .int x1), (2, .int x2)]) C0 6 dX7_writeWord_82 rfl (by decide) (by decide) rfl ?_
        refine J_goto (pc := 85) (tgt := 5) C0 dX7_writeWord_85 (by decide) ?_
        refine J_sub (lv' := [(0, .ref (ad 34)), (1, .int x1), (2, .int x2), (3, .int (x3 + 1)), (4, .int (x4 + 1))]) [4, 5, 6, 1, 0] rfl ?_
        exact ih (wr σ 0 r28 ((nI 97) + r42)) (x3 + 1) (x4 + 1)
set_option maxRecDepth 100000 in
set_option maxHeartbeats 4000000 in
theorem c_X7_writeWord {l : Launch} {D : va_G} {cI cZ : ClassId} {A : Nat → Prop} {ad : Nat → Nat} (σ : SC) (x1 : Int32) (x2 : Int32)  (r : (Int32 × SC)) (h : f_X7_writeWord σ x1 x2 = some r) : Met l yX7_writeWord (.code yX7_writeWord cX7_writeWord 7 (some .int) :: wG) (Rm 3) (PreW D (tyA cI cZ) A (wC ad cI) [.ref (ad 34), .int x1, .int x2] σ) (QI D A (wC ad cI) r) 0 0 A := by
  refine met_of (M := f_X7_writeWord σ x1 x2) (Qc := (QI D A (wC ad cI))) (by decide) (Nat.le_of_ble_eq_true rfl) h (fun p e s m below meth c C0 => ?_)
  generalize hargs : ([.ref (ad 34), .int x1, .int x2] : List Value).toArray = args at C0 ⊢
  have C0 : Cx D (tyA cI cZ) RX7 cX7_writeWord 7 (some .int) p s m args meth c := C0
  refine J_sub (lv' := [(0, .ref (ad 34)), (1, .int x1), (2, .int x2)]) [0, 1, 2] rfl ?_
  unfold f_X7_writeWord
  refine J_iconst (pc := 0) (v := 0) C0 dX7_writeWord_0 (by decide) ?_
  refine J_istore_n (pc := 1) (lv' := [(3, .int 0), (0, .ref (ad 34)), (1, .int x1), (2, .int x2)]) C0 dX7_writeWord_1 rfl (by decide) rfl ?_
  refine J_iconst (pc := 2) (v := 0) C0 dX7_writeWord_2 (by decide) ?_
  refine J_istore (pc := 3) (lv' := [(4, .int 0), (3, .int 0), (0, .ref (ad 34)), (1, .int x1), (2, .int x2)]) C0 dX7_writeWord_3 (by decide) rfl ?_
  refine J_sub (lv' := [(0, .ref (ad 34)), (1, .int x1), (2, .int x2), (3, .int 0), (4, .int 0)]) [2, 3, 4, 1, 0] rfl ?_
  exact j_X7_writeWord_L5 C0 x1 x2 FU σ 0 0
end SE
