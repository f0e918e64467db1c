def f_X1_dropWords_L27 (x2 : Int32) (kx70 : SC → Int32 → Int32 → Option (Int32 × SC)) : Nat → SC → Int32 → Int32 → Int32 → Option (Int32 × SC)
  | 0, _, _, _, _ => none
  | n + 1, σ, x1, x3, x4 =>
  (if (nI 16) ≤ x4 then (kx70 σ x1 x3) else (if (cn x3 x4) = 0 then (f_X1_dropWords_L27 x2 kx70 n σ x1 x3 (x4 + 1)) else ((f_X1_canBeCrossed σ x2 x4).bind fun r47 => (if r47 = 0 then (f_X1_dropWords_L27 x2 kx70 n σ 1 (x3 &&& (((1 : Int32) <<< (x4 &&& 31)) ^^^ (-1 : Int32))) (x4 + 1)) else (f_X1_dropWords_L27 x2 kx70 n σ x1 x3 (x4 + 1))))))
theorem f_X1_dropWords_L27_s (x2 : Int32) (kx70 : SC → Int32 → Int32 → Option (Int32 × SC)) (n : Nat) (σ : SC) (x1 : Int32) (x3 : Int32) (x4 : Int32) : f_X1_dropWords_L27 x2 kx70 (n + 1) σ x1 x3 x4 = ((if (nI 16) ≤ x4 then (kx70 σ x1 x3) else (if (cn x3 x4) = 0 then (f_X1_dropWords_L27 x2 kx70 n σ x1 x3 (x4 + 1)) else ((f_X1_canBeCrossed σ x2 x4).bind fun r47 => (if r47 = 0 then (f_X1_dropWords_L27 x2 kx70 n σ 1 (x3 &&& (((1 : Int32) <<< (x4 &&& 31)) ^^^ (-1 : Int32))) (x4 + 1)) else (f_X1_dropWords_L27 x2 kx70 n σ x1 x3 (x4 + 1))))))) := rfl
def f_X1_dropWords_L4 : Nat → SC → Int32 → Int32 → Option (Int32 × SC)
  | 0, _, _, _ => none
  | n + 1, σ, x1, x2 =>
  (if (σ 17 1) ≤ x2 then (if x1 = 0 ∨ x1 = 1 then some (x1, σ) else none) else (f_X1_dropWords_L27 x2 (fun σ_70 x1_70 x3_70 => (f_X1_dropWords_L4 n (wr σ_70 12 x2 x3_70) x1_70 (x2 + 1))) FU σ x1 (rd σ 12 x2) 0))
theorem f_X1_dropWords_L4_s (n : Nat) (σ : SC) (x1 : Int32) (x2 : Int32) : f_X1_dropWords_L4 (n + 1) σ x1 x2 = ((if (σ 17 1) ≤ x2 then (if x1 = 0 ∨ x1 = 1 then some (x1, σ) else none) else (f_X1_dropWords_L27 x2 (fun σ_70 x1_70 x3_70 => (f_X1_dropWords_L4 n (wr σ_70 12 x2 x3_70) x1_70 (x2 + 1))) FU σ x1 (rd σ 12 x2) 0))) := rfl
def f_X1_dropWords (σ : SC)  : Option (Int32 × SC) :=
  (f_X1_dropWords_L4 FU σ 0 0)
section SE
variable {p : Program} {l : Launch} {e : Env} {s : State} {m : MethodId} {args : Array Value} {below : List Frame} {meth : Method} {c : Code} {D : va_G} {cI cZ : ClassId} {A : Nat → Prop} {ad : Nat → Nat}
set_option maxRecDepth 100000 in
set_option maxHeartbeats 4000000 in
theorem j_X1_dropWords_L27 (C0 : Cx D (tyA cI cZ) RX1 cX1_dropWords 5 (some .boolean) p s m args meth c) (x2 : Int32) (kx70 : SC → Int32 → Int32 → Option (Int32 × SC)) (hkx70 : ∀ (σ : SC) (x1 : Int32) (x3 : Int32), J p l e (Rm 4) s m args below meth c D A (wC ad cI) 5 (QI D A (wC ad cI)) (kx70 σ x1 x3) σ [(0, .ref (ad 38)), (1, .int x1), (2, .int x2), (3, .int x3)] [] 70) : ∀ (n : Nat) (σ : SC) (x1 : Int32) (x3 : Int32) (x4 : Int32), J p l e (Rm 4) s m args below meth c D A (wC ad cI) 5 (QI D A (wC ad cI)) (f_X1_dropWords_L27 x2 kx70 n σ x1 x3 x4) σ [(0, .ref (ad 38)), (1, .int x1), (2, .int x2), (3, .int x3), (4, .int x4)] [] 27 := by
  intro n
  induction n with
  | zero => intros; exact J_none
  | succ n ih =>
    intro σ x1 x3 x4
    refine J_eq (f_X1_dropWords_L27_s x2 kx70 n σ x1 x3 x4) ?_
    refine J_iload (pc := 27) C0 4 dX1_dropWords_27 rfl ?_
    refine J_bipush (pc := 29) (v := (nI 16)) C0 dX1_dropWords_29 (by decide) ?_
    refine J_icmp_ge (pc := 31) (tgt := 70) C0 dX1_dropWords_31 (by decide) (fun h_31 => ?_) (fun h_31 => ?_)
    · refine J_sub (lv' := [(0, .ref (ad 38)), (1, .int x1), (2, .int x2), (3, .int x3)]) [0, 1, 2, 3] rfl ?_
      exact hkx70 σ x1 x3
    · refine J_iload_n (pc := 34) C0 3 dX1_dropWords_34 rfl rfl ?_
      refine J_iload (pc := 35) C0 4 dX1_dropWords_35 rfl ?_
      refine fin_T (run_SN (As := [.int x3, .int x4]) (rest := []) C0 (cT_X7_contains σ x3 x4 ) v_X7_contains q57 rfl ⟨rfl, rfl⟩ (Rm_ok (by decide) (by decide)) rfl (Nat.le_of_ble_eq_true rfl) dX1_dropWords_37) ?_
      refine J_if_eq (pc := 40) (tgt := 64) C0 dX1_dropWords_40 (by decide) (fun h_40 => ?_) (fun h_40 => ?_)
      · refine J_iinc (pc := 64) (d := 1) (lv' := [(4, .int (x4 + 1)), (0, .ref (ad 38)), (1, .int x1), (2, .int x2), (3, .int x3)]) C0 4 dX1_dropWords_64 rfl (by decide) (by decide) rfl ?_
        refine J_goto (pc := 67) (tgt := 27) C0 dX1_dropWords_67 (by decide) ?_
        refine J_sub (lv' := [(0, .ref (ad 38)), (1, .int x1), (2, .int x2), (3, .int x3), (4, .int (x4 + 1))]) [1, 2, 3, 4, 0] rfl ?_
        exact ih σ x1 x3 (x4 + 1)
      · refine J_aload_n (pc := 43) C0 0 dX1_dropWords_43 rfl rfl ?_
        refine J_iload_n (pc := 44) C0 2 dX1_dropWords_44 rfl rfl ?_
        refine J_iload (pc := 45) C0 4 dX1_dropWords_45 rfl ?_
        refine fin_P (fun r_ h_ => run_V (As := [.int x2, .int x4]) (rest := []) (q0 := 38) C0 (c_X1_canBeCrossed σ x2 x4  r_ h_) v_X1_canBeCrossed q208 wC_o38 rfl rfl ⟨rfl, rfl⟩ (Rm_ok (by decide) (by decide)) rfl (Nat.le_of_ble_eq_true rfl) dX1_dropWords_47) (fun r47 e47 => ?_)
        refine J_if_ne (pc := 50) (tgt := 64) C0 dX1_dropWords_50 (by decide) (fun h_50 => ?_) (fun h_50 => ?_)
        · refine J_iinc (pc := 64) (d := 1) (lv' := [(4, .int (x4 + 1)), (0, .ref (ad 38)), (1, .int x1), (2, .int x2), (3, .int x3)]) C0 4 dX1_dropWords_64 rfl (by decide) (by decide) rfl ?_
          refine J_goto (pc := 67) (tgt := 27) C0 dX1_dropWords_67 (by decide) ?_
          refine J_sub (lv' := [(0, .ref (ad 38)), (1, .int x1), (2, .int x2), (3, .int x3), (4, .int (x4 + 1))]) [1, 2, 3, 4, 0] rfl ?_
          exact ih σ x1 x3 (x4 + 1)
        · refine J_iload_n (pc := 53) C0 3 dX1_dropWords_53 rfl rfl ?_
          refine J_iconst (pc := 54) (v := 1) C0 dX1_dropWords_54 (by decide) ?_
          refine J_iload (pc := 55) C0 4 dX1_dropWords_55 rfl ?_
          refine J_ishl (pc := 57) C0 dX1_dropWords_57 ?_
          refine J_iconst (pc := 58) (v := (-1)) C0 dX1_dropWords_58 (by decide) ?_
          refine J_ixor (pc := 59) C0 dX1_dropWords_59 ?_
          refine J_iand (pc := 60) C0 dX1_dropWords_60 ?_
          refine J_istore_n (pc := 61) (lv' := [(3, .int (x3 &&& (((1 : Int32) <<< (x4 &&& 31)) ^^^ (-1 : Int32)))), (0, .ref (ad 38)), (1, .int x1), (2, .int x2), (4, .int x4)]) C0 dX1_dropWords_61 rfl (by decide) rfl ?_
          refine J_iconst (pc := 62) (v := 1) C0 dX1_dropWords_62 (by decide) ?_
          refine J_istore_n (pc := 63) (lv' := [(1, .int 1), (3, .int (x3 &&& (((1 : Int32) <<< (x4 &&& 31)) ^^^ (-1 : Int32)))), (0, .ref (ad 38)), (2, .int x2), (4, .int x4)]) C0 dX1_dropWords_63 rfl (by decide) rfl ?_
          refine J_iinc (pc := 64) (d := 1) (lv' := [(4, .int (x4 + 1)), (1, .int 1), (3, .int (x3 &&& (((1 : Int32) <<< (x4 &&& 31)) ^^^ (-1 : Int32)))), (0, .ref (ad 38)), (2, .int x2)]) C0 4 dX1_dropWords_64 rfl (by decide) (by decide) rfl ?_
          refine J_goto (pc := 67) (tgt := 27) C0 dX1_dropWords_67 (by decide) ?_
          refine J_sub (lv' := [(0, .ref (ad 38)), (1, .int 1), (2, .int x2), (3, .int (x3 &&& (((1 : Int32) <<< (x4 &&& 31)) ^^^ (-1 : Int32)))), (4, .int (x4 + 1))]) [3, 1, 4, 2, 0] rfl ?_
          exact ih σ 1 (x3 &&& (((1 : Int32) <<< (x4 &&& 31)) ^^^ (-1 : Int32))) (x4 + 1)
set_option maxRecDepth 100000 in
set_option maxHeartbeats 4000000 in
theorem j_X1_dropWords_L4 (C0 : Cx D (tyA cI cZ) RX1 cX1_dropWords 5 (some .boolean) p s m args meth c) : ∀ (n : Nat) (σ : SC) (x1 : Int32) (x2 : Int32), J p l e (Rm 4) s m args below meth c D A (wC ad cI) 5 (QI D A (wC ad cI)) (f_X1_dropWords_L4 n σ x1 x2) σ [(0, .ref (ad 38)), (1, .int x1), (2, .int x2)] [] 4 := by
  intro n
  induction n with
  | zero => intros; exact J_none
  | succ n ih =>
    intro σ x1 x2
    refine J_eq (f_X1_dropWords_L4_s  n σ x1 x2) ?_
    refine J_iload_n (pc := 4) C0 2 dX1_dropWords_4 rfl rfl ?_
    refine J_aload_n (pc := 5) C0 0 dX1_dropWords_5 rfl rfl ?_
    refine J_get (pc := 6) (v := .ref (ad 36)) C0 38 wC_o38 rfl in_X1 0 (by decide) q43 rfl dX1_dropWords_6 ?_
    refine J_getN (pc := 9) (v := .int (σ 17 1)) C0 36 wC_o36 rfl in_X6 6 (by decide) q56 rfl dX1_dropWords_9 ?_
    refine J_icmp_ge (pc := 12) (tgt := 85) C0 dX1_dropWords_12 (by decide) (fun h_12 => ?_) (fun h_12 => ?_)
    · refine J_iload_n (pc := 85) C0 1 dX1_dropWords_85 rfl rfl ?_
      exact J_zret C0 dX1_dropWords_86
    · refine J_aload_n (pc := 15) C0 0 dX1_dropWords_15 rfl rfl ?_
      refine J_get (pc := 16) (v := .ref (ad 12)) C0 38 wC_o38 rfl in_X1 3 (by decide) q107 rfl dX1_dropWords_16 ?_
      refine J_iload_n (pc := 19) C0 2 dX1_dropWords_19 rfl rfl ?_
      refine fin_T (run_V (As := [.int x2]) (rest := []) (q0 := 12) C0 (cT_X5_get σ 12 x2 (by decide)) v_X5_get q49 (wC_row (by decide)) rfl rfl ⟨rfl, rfl⟩ (Rm_ok (by decide) (by decide)) rfl (Nat.le_of_ble_eq_true rfl) dX1_dropWords_20) ?_
      refine J_istore_n (pc := 23) (lv' := [(3, .int (rd σ 12 x2)), (0, .ref (ad 38)), (1, .int x1), (2, .int x2)]) C0 dX1_dropWords_23 rfl (by decide) rfl ?_
      refine J_iconst (pc := 24) (v := 0) C0 dX1_dropWords_24 (by decide) ?_
      refine J_istore (pc := 25) (lv' := [(4, .int 0), (3, .int (rd σ 12 x2)), (0, .ref (ad 38)), (1, .int x1), (2, .int x2)]) C0 dX1_dropWords_25 (by decide) rfl ?_
      refine J_sub (lv' := [(0, .ref (ad 38)), (1, .int x1), (2, .int x2), (3, .int (rd σ 12 x2)), (4, .int 0)]) [2, 3, 4, 1, 0] rfl ?_
      refine j_X1_dropWords_L27 C0 x2 _ (fun σ_70 x1_70 x3_70 => ?_) FU σ x1 (rd σ 12 x2) 0
      refine J_aload_n (pc := 70) C0 0 dX1_dropWords_70 rfl rfl ?_
      refine J_get (pc := 71) (v := .ref (ad 12)) C0 38 wC_o38 rfl in_X1 3 (by decide) q107 rfl dX1_dropWords_71 ?_
      refine J_iload_n (pc := 74) C0 2 dX1_dropWords_74 rfl rfl ?_
      refine J_iload_n (pc := 75) C0 3 dX1_dropWords_75 rfl rfl ?_
      refine fin_TV (run_V (As := [.int x2, .int x3_70]) (rest := []) (q0 := 12) C0 (cT_X5_set σ_70 12 x2 x3_70 (by decide)) v_X5_set q212 (wC_row (by decide)) rfl rfl ⟨rfl, rfl⟩ (Rm_ok (by decide) (by decide)) rfl (Nat.le_of_ble_eq_true rfl) dX1_dropWords_76) ?_
      refine J_iinc (pc := 79) (d := 1) (lv' := [(2, .int (x2 + 1)), (0, .ref (ad 38)), (1, .int x1_70), (3, .int x3_70)]) C0 2 dX1_dropWords_79 rfl (by decide) (by decide) rfl ?_
      refine J_goto (pc := 82) (tgt := 4) C0 dX1_dropWords_82 (by decide) ?_
      refine J_sub (lv' := [(0, .ref (ad 38)), (1, .int x1_70), (2, .int (x2 + 1))]) [1, 2, 0] rfl ?_
      exact ih (wr σ_70 12 x2 x3_70) x1_70 (x2 + 1)
set_option maxRecDepth 100000 in
set_option maxHeartbeats 4000000 in
theorem c_X1_dropWords {l : Launch} {D : va_G} {cI cZ : ClassId} {A : Nat → Prop} {ad : Nat → Nat} (σ : SC)   (r : (Int32 × SC)) (h : f_X1_dropWords σ = some r) : Met l yX1_dropWords (.code yX1_dropWords cX1_dropWords 5 (some .boolean) :: wG) (Rm 4) (PreW D (tyA cI cZ) A (wC ad cI) [.ref (ad 38)] σ) (QI D A (wC ad cI) r) 0 0 A := by
  refine met_of (M := f_X1_dropWords σ) (Qc := (QI D A (wC ad cI))) (by decide) (Nat.le_of_ble_eq_true rfl) h (fun p e s m below meth c C0 => ?_)
  generalize hargs : ([.ref (ad 38)] : List Value).toArray = args at C0 ⊢
  have C0 : Cx D (tyA cI cZ) RX1 cX1_dropWords 5 (some .boolean) p s m args meth c := C0
  refine J_sub (lv' := [(0, .ref (ad 38))]) [0] rfl ?_
  unfold f_X1_dropWords
  refine J_iconst (pc := 0) (v := 0) C0 dX1_dropWords_0 (by decide) ?_
  refine J_istore_n (pc := 1) (lv' := [(1, .int 0), (0, .ref (ad 38))]) C0 dX1_dropWords_1 rfl (by decide) rfl ?_
  refine J_iconst (pc := 2) (v := 0) C0 dX1_dropWords_2 (by decide) ?_
  refine J_istore_n (pc := 3) (lv' := [(2, .int 0), (1, .int 0), (0, .ref (ad 38))]) C0 dX1_dropWords_3 rfl (by decide) rfl ?_
  refine J_sub (lv' := [(0, .ref (ad 38)), (1, .int 0), (2, .int 0)]) [2, 1, 0] rfl ?_
  exact j_X1_dropWords_L4 C0 FU σ 0 0
end SE

def f_X3_read_L18 : Nat → SC → Int32 → Option SC
  | 0, _, _ => none
  | n + 1, σ, x2 =>
  (if (σ 17 0) ≤ x2 then (some σ) else ((f_X3_readWord σ x2 (rd σ 1 x2)).bind fun σ36 => (f_X3_read_L18 n σ36 (x2 + 1))))
theorem f_X3_read_L18_s (n : Nat) (σ : SC) (x2 : Int32) : f_X3_read_L18 (n + 1) σ x2 = ((if (σ 17 0) ≤ x2 then (some σ) else ((f_X3_readWord σ x2 (rd σ 1 x2)).bind fun σ36 => (f_X3_read_L18 n σ36 (x2 + 1))))) := rfl
def f_X3_read (σ : SC)  : Option SC :=
  (f_X3_read_L18 FU (fl (fl σ 8 0) 9 0) 0)
section SE
variable {p : Program} {l : Launch} {e : Env} {s : State} {m : MethodId} {args : Array Value} {below : List Frame} {meth : Method} {c : Code} {D : va_G} {cI cZ : ClassId} {A : Nat → Prop} {ad : Nat → Nat}
set_option maxRecDepth 100000 in
set_option maxHeartbeats 4000000 in
theorem j_X3_read_L18 (C0 : Cx D (tyA cI cZ) RX3 cX3_read 3 none p s m args meth c) : ∀ (n : Nat) (σ : SC) (x2 : Int32), J p l e (Rm 4) s m args below meth c D A (wC ad cI) 3 (QV D A (wC ad cI)) (f_X3_read_L18 n σ x2) σ [(0, .ref (ad 37)), (1, .ref (ad 35)), (2, .int x2)] [] 18 := by
  intro n
  induction n with
  | zero => intros; exact J_none
  | succ n ih =>
    intro σ x2
    refine J_eq (f_X3_read_L18_s  n σ x2) ?_
    refine J_iload_n (pc := 18) C0 2 dX3_read_18 rfl rfl ?_
    refine J_aload_n (pc := 19) C0 1 dX3_read_19 rfl rfl ?_
    refine J_getN (pc := 20) (v := .int (σ 17 0)) C0 35 wC_o35 rfl in_X0 2 (by decide) q214 rfl dX3_read_20 ?_
    refine J_icmp_ge (pc := 23) (tgt := 45) C0 dX3_read_23 (by decide) (fun h_23 => ?_) (fun h_23 => ?_)
    · exact J_vret C0 dX3_read_45
    · refine J_aload_n (pc := 26) C0 0 dX3_read_26 rfl rfl ?_
      refine J_iload_n (pc := 27) C0 2 dX3_read_27 rfl rfl ?_
      refine J_aload_n (pc := 28) C0 1 dX3_read_28 rfl rfl ?_
      refine J_getN (pc := 29) (v := .ref (ad 1)) C0 35 wC_o35 rfl in_X0 1 (by decide) q215 rfl dX3_read_29 ?_
      refine J_iload_n (pc := 32) C0 2 dX3_read_32 rfl rfl ?_
      refine fin_T (run_V (As := [.int x2]) (rest := [.int x2, .ref (ad 37)]) (q0 := 1) C0 (cT_X5_get σ 1 x2 (by decide)) v_X5_get q76 (wC_row (by decide)) rfl rfl ⟨rfl, rfl⟩ (Rm_ok (by decide) (by decide)) rfl (Nat.le_of_ble_eq_true rfl) dX3_read_33) ?_
      refine fin_V (fun r_ h_ => run_V (As := [.int x2, .int (rd σ 1 x2)]) (rest := []) (q0 := 37) C0 (c_X3_readWord σ x2 (rd σ 1 x2)  r_ h_) v_X3_readWord q216 wC_o37 rfl rfl ⟨rfl, rfl⟩ (Rm_ok (by decide) (by decide)) rfl (Nat.le_of_ble_eq_true rfl) dX3_read_36) (fun σ36 e36 => ?_)
      refine J_iinc (pc := 39) (d := 1) (lv' := [(2, .int (x2 + 1)), (0, .ref (ad 37)), (1, .ref (ad 35))]) C0 2 dX3_read_39 rfl (by decide) (by decide) rfl ?_
      refine J_goto (pc := 42) (tgt := 18) C0 dX3_read_42 (by decide) ?_
      refine J_sub (lv' := [(0, .ref (ad 37)), (1, .ref (ad 35)), (2, .int (x2 + 1))]) [1, 2, 0] rfl ?_
      exact ih σ36 (x2 + 1)
set_option maxRecDepth 100000 in
set_option maxHeartbeats 4000000 in
theorem c_X3_read {l : Launch} {D : va_G} {cI cZ : ClassId} {A : Nat → Prop} {ad : Nat → Nat} (σ : SC)   (r : SC) (h : f_X3_read σ = some r) : Met l yX3_read (.code yX3_read cX3_read 3 none :: wG) (Rm 4) (PreW D (tyA cI cZ) A (wC ad cI) [.ref (ad 37), .ref (ad 35)] σ) (QV D A (wC ad cI) r) 0 0 A := by
  refine met_of (M := f_X3_read σ) (Qc := (QV D A (wC ad cI))) (by decide) (Nat.le_of_ble_eq_true rfl) h (fun p e s m below meth c C0 => ?_)
  generalize hargs : ([.ref (ad 37), .ref (ad 35)] : List Value).toArray = args at C0 ⊢
  have C0 : Cx D (tyA cI cZ) RX3 cX3_read 3 none p s m args meth c := C0
  refine J_sub (lv' := [(0, .ref (ad 37)), (1, .ref (ad 35))]) [0, 1] rfl ?_
  unfold f_X3_read
  refine J_aload_n (pc := 0) C0 0 dX3_read_0 rfl rfl ?_
  refine J_get (pc := 1) (v := .ref (ad 8)) C0 37 wC_o37 rfl in_X3 0 (by decide) q131 rfl dX3_read_1 ?_
  refine J_iconst (pc := 4) (v := 0) C0 dX3_read_4 (by decide) ?_
  refine fin_TV (run_V (As := [.int 0]) (rest := []) (q0 := 8) C0 (cT_X5_fill σ 8 0 (by decide)) v_X5_fill q213 (wC_row (by decide)) rfl rfl ⟨rfl, rfl⟩ (Rm_ok (by decide) (by decide)) rfl (Nat.le_of_ble_eq_true rfl) dX3_read_5) ?_
  refine J_aload_n (pc := 8) C0 0 dX3_read_8 rfl rfl ?_
  refine J_get (pc := 9) (v := .ref (ad 9)) C0 37 wC_o37 rfl in_X3 1 (by decide) q77 rfl dX3_read_9 ?_
  refine J_iconst (pc := 12) (v := 0) C0 dX3_read_12 (by decide) ?_
  refine fin_TV (run_V (As := [.int 0]) (rest := []) (q0 := 9) C0 (cT_X5_fill (fl σ 8 0) 9 0 (by decide)) v_X5_fill q213 (wC_row (by decide)) rfl rfl ⟨rfl, rfl⟩ (Rm_ok (by decide) (by decide)) rfl (Nat.le_of_ble_eq_true rfl) dX3_read_13) ?_
  refine J_iconst (pc := 16) (v := 0) C0 dX3_read_16 (by decide) ?_
  refine J_istore_n (pc := 17) (lv' := [(2, .int 0), (0, .ref (ad 37)), (1, .ref (ad 35))]) C0 dX3_read_17 rfl (by decide) rfl ?_
  refine J_sub (lv' := [(0, .ref (ad 37)), (1, .ref (ad 35)), (2, .int 0)]) [1, 2, 0] rfl ?_
  exact j_X3_read_L18 C0 FU (fl (fl σ 8 0) 9 0) 0
end SE

def f_X6_read_L23 (kx47 : SC → Option SC) : Nat → SC → Int32 → Option SC
  | 0, _, _ => none
  | n + 1, σ, x2 =>
  (if (nI 4) ≤ x2 then (kx47 σ) else ((f_X6_readLine σ (x2 * (nI 4)) 1 6).bind fun σ38 => (f_X6_read_L23 kx47 n σ38 (x2 + 1))))
theorem f_X6_read_L23_s (kx47 : SC → Option SC) (n : Nat) (σ : SC) (x2 : Int32) : f_X6_read_L23 kx47 (n + 1) σ x2 = ((if (nI 4) ≤ x2 then (kx47 σ) else ((f_X6_readLine σ (x2 * (nI 4)) 1 6).bind fun σ38 => (f_X6_read_L23 kx47 n σ38 (x2 + 1))))) := rfl
def f_X6_read_L57 : Nat → SC → Int32 → Option SC
  | 0, _, _ => none
  | n + 1, σ, x2 =>
  (if (nI 4) ≤ x2 then ((f_X6_readCrossings σ).bind fun σ80 => (some σ80)) else ((f_X6_readLine σ x2 (nI 4) 7).bind fun σ70 => (f_X6_read_L57 n σ70 (x2 + 1))))
theorem f_X6_read_L57_s (n : Nat) (σ : SC) (x2 : Int32) : f_X6_read_L57 (n + 1) σ x2 = ((if (nI 4) ≤ x2 then ((f_X6_readCrossings σ).bind fun σ80 => (some σ80)) else ((f_X6_readLine σ x2 (nI 4) 7).bind fun σ70 => (f_X6_read_L57 n σ70 (x2 + 1))))) := rfl
def f_X6_read (σ : SC)  : Option SC :=
  (f_X6_read_L23 (fun σ_47 => (f_X6_read_L57 FU (su σ_47 17 2 (σ_47 17 1)) 0)) FU (fl (fl (su σ 17 1 0) 6 (-1)) 7 (-1)) 0)
section SE
variable {p : Program} {l : Launch} {e : Env} {s : State} {m : MethodId} {args : Array Value} {below : List Frame} {meth : Method} {c : Code} {D : va_G} {cI cZ : ClassId} {A : Nat → Prop} {ad : Nat → Nat}
set_option maxRecDepth 100000 in
set_option maxHeartbeats 4000000 in
theorem j_X6_read_L23 (C0 : Cx D (tyA cI cZ) RX6 cX6_read 3 none p s m args meth c) (kx47 : SC → Option SC) (hkx47 : ∀ (σ : SC), J p l e (Rm 4) s m args below meth c D A (wC ad cI) 3 (QV D A (wC ad cI)) (kx47 σ) σ [(0, .ref (ad 36)), (1, .ref (ad 35))] [] 47) : ∀ (n : Nat) (σ : SC) (x2 : Int32), J p l e (Rm 4) s m args below meth c D A (wC ad cI) 3 (QV D A (wC ad cI)) (f_X6_read_L23 kx47 n σ x2) σ [(0, .ref (ad 36)), (1, .ref (ad 35)), (2, .int x2)] [] 23 := by
  intro n
  induction n with
  | zero => intros; exact J_none
  | succ n ih =>
    intro σ x2
    refine J_eq (f_X6_read_L23_s kx47 n σ x2) ?_
    refine J_iload_n (pc := 23) C0 2 dX6_read_23 rfl rfl ?_
    refine J_iconst (pc := 24) (v := (nI 4)) C0 dX6_read_24 (by decide) ?_
    refine J_icmp_ge (pc := 25) (tgt := 47) C0 dX6_read_25 (by decide) (fun h_25 => ?_) (fun h_25 => ?_)
    · refine J_sub (lv' := [(0, .ref (ad 36)), (1, .ref (ad 35))]) [0, 1] rfl ?_
      exact hkx47 σ
    · refine J_aload_n (pc := 28) C0 0 dX6_read_28 rfl rfl ?_
      refine J_aload_n (pc := 29) C0 1 dX6_read_29 rfl rfl ?_
      refine J_iload_n (pc := 30) C0 2 dX6_read_30 rfl rfl ?_
      refine J_iconst (pc := 31) (v := (nI 4)) C0 dX6_read_31 (by decide) ?_
      refine J_imul (pc := 32) C0 dX6_read_32 ?_
      refine J_iconst (pc := 33) (v := 1) C0 dX6_read_33 (by decide) ?_
      refine J_aload_n (pc := 34) C0 0 dX6_read_34 rfl rfl ?_
      refine J_get (pc := 35) (v := .ref (ad 6)) C0 36 wC_o36 rfl in_X6 4 (by decide) q159 rfl dX6_read_35 ?_
      refine fin_V (fun r_ h_ => run_V (As := [.ref (ad 35), .int (x2 * (nI 4)), .int 1, .ref (ad 6)]) (rest := []) (q0 := 36) C0 (c_X6_readLine σ (x2 * (nI 4)) 1 6 (by decide) r_ h_) v_X6_readLine q220 wC_o36 rfl rfl ⟨rfl, rfl⟩ (Rm_ok (by decide) (by decide)) rfl (Nat.le_of_ble_eq_true rfl) dX6_read_38) (fun σ38 e38 => ?_)
      refine J_iinc (pc := 41) (d := 1) (lv' := [(2, .int (x2 + 1)), (0, .ref (ad 36)), (1, .ref (ad 35))]) C0 2 dX6_read_41 rfl (by decide) (by decide) rfl ?_
      refine J_goto (pc := 44) (tgt := 23) C0 dX6_read_44 (by decide) ?_
      refine J_sub (lv' := [(0, .ref (ad 36)), (1, .ref (ad 35)), (2, .int (x2 + 1))]) [1, 2, 0] rfl ?_
      exact ih σ38 (x2 + 1)
set_option maxRecDepth 100000 in
set_option maxHeartbeats 4000000 in
theorem j_X6_read_L57 (C0 : Cx D (tyA cI cZ) RX6 cX6_read 3 none p s m args meth c) : ∀ (n : Nat) (σ : SC) (x2 : Int32), J p l e (Rm 4) s m args below meth c D A (wC ad cI) 3 (QV D A (wC ad cI)) (f_X6_read_L57 n σ x2) σ [(0, .ref (ad 36)), (1, .ref (ad 35)), (2, .int x2)] [] 57 := by
  intro n
  induction n with
  | zero => intros; exact J_none
  | succ n ih =>
    intro σ x2
    refine J_eq (f_X6_read_L57_s  n σ x2) ?_
    refine J_iload_n (pc := 57) C0 2 dX6_read_57 rfl rfl ?_
    refine J_iconst (pc := 58) (v := (nI 4)) C0 dX6_read_58 (by decide) ?_
    refine J_icmp_ge (pc := 59) (tgt := 79) C0 dX6_read_59 (by decide) (fun h_59 => ?_) (fun h_59 => ?_)
    · refine J_aload_n (pc := 79) C0 0 dX6_read_79 rfl rfl ?_
      refine fin_V (fun r_ h_ => run_V (As := []) (rest := []) (q0 := 36) C0 (c_X6_readCrossings σ   r_ h_) v_X6_readCrossings q224 wC_o36 rfl rfl ⟨rfl, rfl⟩ (Rm_ok (by decide) (by decide)) rfl (Nat.le_of_ble_eq_true rfl) dX6_read_80) (fun σ80 e80 => ?_)
      exact J_vret C0 dX6_read_83
    · refine J_aload_n (pc := 62) C0 0 dX6_read_62 rfl rfl ?_
      refine J_aload_n (pc := 63) C0 1 dX6_read_63 rfl rfl ?_
      refine J_iload_n (pc := 64) C0 2 dX6_read_64 rfl rfl ?_
      refine J_iconst (pc := 65) (v := (nI 4)) C0 dX6_read_65 (by decide) ?_
      refine J_aload_n (pc := 66) C0 0 dX6_read_66 rfl rfl ?_
      refine J_get (pc := 67) (v := .ref (ad 7)) C0 36 wC_o36 rfl in_X6 5 (by decide) q160 rfl dX6_read_67 ?_
      refine fin_V (fun r_ h_ => run_V (As := [.ref (ad 35), .int x2, .int (nI 4), .ref (ad 7)]) (rest := []) (q0 := 36) C0 (c_X6_readLine σ x2 (nI 4) 7 (by decide) r_ h_) v_X6_readLine q220 wC_o36 rfl rfl ⟨rfl, rfl⟩ (Rm_ok (by decide) (by decide)) rfl (Nat.le_of_ble_eq_true rfl) dX6_read_70) (fun σ70 e70 => ?_)
      refine J_iinc (pc := 73) (d := 1) (lv' := [(2, .int (x2 + 1)), (0, .ref (ad 36)), (1, .ref (ad 35))]) C0 2 dX6_read_73 rfl (by decide) (by decide) rfl ?_
      refine J_goto (pc := 76) (tgt := 57) C0 dX6_read_76 (by decide) ?_
      refine J_sub (lv' := [(0, .ref (ad 36)), (1, .ref (ad 35)), (2, .int (x2 + 1))]) [1, 2, 0] rfl ?_
      exact ih σ70 (x2 + 1)
set_option maxRecDepth 100000 in
set_option maxHeartbeats 4000000 in
theorem c_X6_read {l : Launch} {D : va_G} {cI cZ : ClassId} {A : Nat → Prop} {ad : Nat → Nat} (σ : SC)   (r : SC) (h : f_X6_read σ = some r) : Met l yX6_read (.code yX6_read cX6_read 3 none :: wG) (Rm 4) (PreW D (tyA cI cZ) A (wC ad cI) [.ref (ad 36), .ref (ad 35)] σ) (QV D A (wC ad cI) r) 0 0 A := by
  refine met_of (M := f_X6_read σ) (Qc := (QV D A (wC ad cI))) (by decide) (Nat.le_of_ble_eq_true rfl) h (fun p e s m below meth c C0 => ?_)
  generalize hargs : ([.ref (ad 36), .ref (ad 35)] : List Value).toArray = args at C0 ⊢
  have C0 : Cx D (tyA cI cZ) RX6 cX6_read 3 none p s m args meth c := C0
  refine J_sub (lv' := [(0, .ref (ad 36)), (1, .ref (ad 35))]) [0, 1] rfl ?_
  unfold f_X6_read
  refine J_aload_n (pc := 0) C0 0 dX6_read_0 rfl rfl ?_
  refine J_iconst (pc := 1) (v := 0) C0 dX6_read_1 (by decide) ?_
  refine J_put (pc := 2) (σ' := (su σ 17 1 0)) (v := .int 0) (ty := .int) C0 tyX6_ok nmX6 36 wC_o36 rfl in_X6 6 (by decide) q88 rfl (by decide +kernel) rfl rfl (Nat.le_of_ble_eq_true rfl) wC_p1 dX6_read_2 ?_
  refine J_aload_n (pc := 5) C0 0 dX6_read_5 rfl rfl ?_
  refine J_get (pc := 6) (v := .ref (ad 6)) C0 36 wC_o36 rfl in_X6 4 (by decide) q159 rfl dX6_read_6 ?_
  refine J_iconst (pc := 9) (v := (-1)) C0 dX6_read_9 (by decide) ?_
  refine fin_TV (run_V (As := [.int (-1)]) (rest := []) (q0 := 6) C0 (cT_X5_fill (su σ 17 1 0) 6 (-1) (by decide)) v_X5_fill q154 (wC_row (by decide)) rfl rfl ⟨rfl, rfl⟩ (Rm_ok (by decide) (by decide)) rfl (Nat.le_of_ble_eq_true rfl) dX6_read_10) ?_
  refine J_aload_n (pc := 13) C0 0 dX6_read_13 rfl rfl ?_
  refine J_get (pc := 14) (v := .ref (ad 7)) C0 36 wC_o36 rfl in_X6 5 (by decide) q160 rfl dX6_read_14 ?_
  refine J_iconst (pc := 17) (v := (-1)) C0 dX6_read_17 (by decide) ?_
  refine fin_TV (run_V (As := [.int (-1)]) (rest := []) (q0 := 7) C0 (cT_X5_fill (fl (su σ 17 1 0) 6 (-1)) 7 (-1) (by decide)) v_X5_fill q154 (wC_row (by decide)) rfl rfl ⟨rfl, rfl⟩ (Rm_ok (by decide) (by decide)) rfl (Nat.le_of_ble_eq_true rfl) dX6_read_18) ?_
  refine J_iconst (pc := 21) (v := 0) C0 dX6_read_21 (by decide) ?_
  refine J_istore_n (pc := 22) (lv' := [(2, .int 0), (0, .ref (ad 36)), (1, .ref (ad 35))]) C0 dX6_read_22 rfl (by decide) rfl ?_
  refine J_sub (lv' := [(0, .ref (ad 36)), (1, .ref (ad 35)), (2, .int 0)]) [1, 2, 0] rfl ?_
  refine j_X6_read_L23 C0 _ (fun σ_47 => ?_) FU (fl (fl (su σ 17 1 0) 6 (-1)) 7 (-1)) 0
  refine J_aload_n (pc := 47) C0 0 dX6_read_47 rfl rfl ?_
  refine J_aload_n (pc := 48) C0 0 dX6_read_48 rfl rfl ?_
  refine J_get (pc := 49) (v := .int (σ_47 17 1)) C0 36 wC_o36 rfl in_X6 6 (by decide) q88 rfl dX6_read_49 ?_
  refine J_put (pc := 52) (σ' := (su σ_47 17 2 (σ_47 17 1))) (v := .int (σ_47 17 1)) (ty := .int) C0 tyX6_ok nmX6 36 wC_o36 rfl in_X6 7 (by decide) q5 rfl (by decide +kernel) rfl rfl (Nat.le_of_ble_eq_true rfl) wC_p2 dX6_read_52 ?_
  refine J_iconst (pc := 55) (v := 0) C0 dX6_read_55 (by decide) ?_
  refine J_istore_n (pc := 56) (lv' := [(2, .int 0), (0, .ref (ad 36)), (1, .ref (ad 35))]) C0 dX6_read_56 rfl (by decide) rfl ?_
  refine J_sub (lv' := [(0, .ref (ad 36)), (1, .ref (ad 35)), (2, .int 0)]) [1, 2, 0] rfl ?_
  exact j_X6_read_L57 C0 FU (su σ_47 17 2 (σ_47 17 1)) 0
end SE

def f_X7_firstSlotThatReads_L2 (σ : SC) (x1 : Int32) : Nat → Int32 → Option Int32
  | 0, _ => none
  | n + 1, x2 =>
  (if (σ 17 1) ≤ x2 then (some (-1)) else ((f_X6_codeIn σ x2).bind fun r22 => (if r22 = x1 then (some x2) else (f_X7_firstSlotThatReads_L2 σ x1 n (x2 + 1)))))
theorem f_X7_firstSlotThatReads_L2_s (σ : SC) (x1 : Int32) (n : Nat) (x2 : Int32) : f_X7_firstSlotThatReads_L2 σ x1 (n + 1) x2 = ((if (σ 17 1) ≤ x2 then (some (-1)) else ((f_X6_codeIn σ x2).bind fun r22 => (if r22 = x1 then (some x2) else (f_X7_firstSlotThatReads_L2 σ x1 n (x2 + 1)))))) := rfl
def f_X7_firstSlotThatReads (σ : SC) (x1 : Int32) : Option Int32 :=
  (f_X7_firstSlotThatReads_L2 σ x1 FU 0)
section SE
variable {p : Program} {l : Launch} {e : Env} {s : State} {m : MethodId} {args : Array Value} {below : List Frame} {meth : Method} {c : Code} {D : va_G} {cI cZ : ClassId} {A : Nat → Prop} {ad : Nat → Nat}
set_option maxRecDepth 100000 in
set_option maxHeartbeats 4000000 in
theorem j_X7_firstSlotThatReads_L2 (C0 : Cx D (tyA cI cZ) RX7 cX7_firstSlotThatReads 3 (some .int) p s m args meth c) (σ : SC) (x1 : Int32) : ∀ (n : Nat) (x2 : Int32), J p l e (Rm 4) s m args below meth c D A (wC ad cI) 3 (fun r => QI D A (wC ad cI) (r, σ)) (f_X7_firstSlotThatReads_L2 σ x1 n x2) σ [(0, .ref (ad 34)), (1, .int x1), (2, .int x2)] [] 2 := by
  intro n
  induction n with
  | zero => intros; exact J_none
  | succ n ih =>
    intro x2
    refine J_eq (f_X7_firstSlotThatReads_L2_s σ x1 n x2) ?_
    refine J_iload_n (pc := 2) C0 2 dX7_firstSlotThatReads_2 rfl rfl ?_
    refine J_aload_n (pc := 3) C0 0 dX7_firstSlotThatReads_3 rfl rfl ?_
    refine J_get (pc := 4) (v := .ref (ad 36)) C0 34 wC_o34 rfl in_X7 1 (by decide) q15 rfl dX7_firstSlotThatReads_4 ?_
    refine J_getN (pc := 7) (v := .int (σ 17 1)) C0 36 wC_o36 rfl in_X6 6 (by decide) q22 rfl dX7_firstSlotThatReads_7 ?_
    refine J_icmp_ge (pc := 10) (tgt := 37) C0 dX7_firstSlotThatReads_10 (by decide) (fun h_10 => ?_) (fun h_10 => ?_)
    · refine J_iconst (pc := 37) (v := (-1)) C0 dX7_firstSlotThatReads_37 (by decide) ?_
      exact J_iretP C0 dX7_firstSlotThatReads_38
    · refine J_aload_n (pc := 13) C0 0 dX7_firstSlotThatReads_13 rfl rfl ?_
      refine J_get (pc := 14) (v := .ref (ad 36)) C0 34 wC_o34 rfl in_X7 1 (by decide) q15 rfl dX7_firstSlotThatReads_14 ?_
      refine J_iload_n (pc := 17) C0 2 dX7_firstSlotThatReads_17 rfl rfl ?_
      refine J_aload_n (pc := 18) C0 0 dX7_firstSlotThatReads_18 rfl rfl ?_
      refine J_get (pc := 19) (v := .ref (ad 35)) C0 34 wC_o34 rfl in_X7 0 (by decide) q23 rfl dX7_firstSlotThatReads_19 ?_
      refine fin_P (fun r_ h_ => run_V (As := [.int x2, .ref (ad 35)]) (rest := []) (q0 := 36) C0 (c_X6_codeIn σ x2  r_ h_) v_X6_codeIn q228 wC_o36 rfl rfl ⟨rfl, rfl⟩ (Rm_ok (by decide) (by decide)) rfl (Nat.le_of_ble_eq_true rfl) dX7_firstSlotThatReads_22) (fun r22 e22 => ?_)
      refine J_iload_n (pc := 25) C0 1 dX7_firstSlotThatReads_25 rfl rfl ?_
      refine J_icmp_ne (pc := 26) (tgt := 31) C0 dX7_firstSlotThatReads_26 (by decide) (fun h_26 => ?_) (fun h_26 => ?_)
      · refine J_iinc (pc := 31) (d := 1) (lv' := [(2, .int (x2 + 1)), (0, .ref (ad 34)), (1, .int x1)]) C0 2 dX7_firstSlotThatReads_31 rfl (by decide) (by decide) rfl ?_
        refine J_goto (pc := 34) (tgt := 2) C0 dX7_firstSlotThatReads_34 (by decide) ?_
        refine J_sub (lv' := [(0, .ref (ad 34)), (1, .int x1), (2, .int (x2 + 1))]) [1, 2, 0] rfl ?_
        exact ih (x2 + 1)
      · refine J_iload_n (pc := 29) C0 2 dX7_firstSlotThatReads_29 rfl rfl ?_
        exact J_iretP C0 dX7_firstSlotThatReads_30
set_option maxRecDepth 100000 in
set_option maxHeartbeats 4000000 in
theorem c_X7_firstSlotThatReads {l : Launch} {D : va_G} {cI cZ : ClassId} {A : Nat → Prop} {ad : Nat → Nat} (σ : SC) (x1 : Int32)  (r : Int32) (h : f_X7_firstSlotThatReads σ x1 = some r) : Met l yX7_firstSlotThatReads (.code yX7_firstSlotThatReads cX7_firstSlotThatReads 3 (some .int) :: wG) (Rm 4) (PreW D (tyA cI cZ) A (wC ad cI) [.ref (ad 34), .int x1] σ) (QI D A (wC ad cI) (r, σ)) 0 0 A := by
  refine met_of (M := f_X7_firstSlotThatReads σ x1) (Qc := (fun r => QI D A (wC ad cI) (r, σ))) (by decide) (Nat.le_of_ble_eq_true rfl) h (fun p e s m below meth c C0 => ?_)
  generalize hargs : ([.ref (ad 34), .int x1] : List Value).toArray = args at C0 ⊢
  have C0 : Cx D (tyA cI cZ) RX7 cX7_firstSlotThatReads 3 (some .int) p s m args meth c := C0
  refine J_sub (lv' := [(0, .ref (ad 34)), (1, .int x1)]) [0, 1] rfl ?_
  unfold f_X7_firstSlotThatReads
  refine J_iconst (pc := 0) (v := 0) C0 dX7_firstSlotThatReads_0 (by decide) ?_
  refine J_istore_n (pc := 1) (lv' := [(2, .int 0), (0, .ref (ad 34)), (1, .int x1)]) C0 dX7_firstSlotThatReads_1 rfl (by decide) rfl ?_
  refine J_sub (lv' := [(0, .ref (ad 34)), (1, .int x1), (2, .int 0)]) [1, 2, 0] rfl ?_
  exact j_X7_firstSlotThatReads_L2 C0 σ x1 FU 0
end SE

def f_X7_fullSlots_L4 (σ : SC) : Nat → Int32 → Int32 → Option Int32
  | 0, _, _ => none
  | n + 1, x1, x2 =>
  (if (σ 17 1) ≤ x2 then (some x1) else ((f_X6_codeIn σ x2).bind fun r24 => (if r24 = 0 then (f_X7_fullSlots_L4 σ n x1 (x2 + 1)) else (f_X7_fullSlots_L4 σ n (x1 ||| ((1 : Int32) <<< (x2 &&& 31))) (x2 + 1)))))
theorem f_X7_fullSlots_L4_s (σ : SC) (n : Nat) (x1 : Int32) (x2 : Int32) : f_X7_fullSlots_L4 σ (n + 1) x1 x2 = ((if (σ 17 1) ≤ x2 then (some x1) else ((f_X6_codeIn σ x2).bind fun r24 => (if r24 = 0 then (f_X7_fullSlots_L4 σ n x1 (x2 + 1)) else (f_X7_fullSlots_L4 σ n (x1 ||| ((1 : Int32) <<< (x2 &&& 31))) (x2 + 1)))))) := rfl
def f_X7_fullSlots (σ : SC)  : Option Int32 :=
  (f_X7_fullSlots_L4 σ FU 0 0)
section SE
variable {p : Program} {l : Launch} {e : Env} {s : State} {m : MethodId} {args : Array Value} {below : List Frame} {meth : Method} {c : Code} {D : va_G} {cI cZ : ClassId} {A : Nat → Prop} {ad : Nat → Nat}
set_option maxRecDepth 100000 in
set_option maxHeartbeats 4000000 in
theorem j_X7_fullSlots_L4 (C0 : Cx D (tyA cI cZ) RX7 cX7_fullSlots 3 (some .int) p s m args meth c) (σ : SC) : ∀ (n : Nat) (x1 : Int32) (x2 : Int32), J p l e (Rm 4) s m args below meth c D A (wC ad cI) 3 (fun r => QI D A (wC ad cI) (r, σ)) (f_X7_fullSlots_L4 σ n x1 x2) σ [(0, .ref (ad 34)), (1, .int x1), (2, .int x2)] [] 4 := by
  intro n
  induction n with
  | zero => intros; exact J_none
  | succ n ih =>
    intro x1 x2
    refine J_eq (f_X7_fullSlots_L4_s σ n x1 x2) ?_
    refine J_iload_n (pc := 4) C0 2 dX7_fullSlots_4 rfl rfl ?_
    refine J_aload_n (pc := 5) C0 0 dX7_fullSlots_5 rfl rfl ?_
    refine J_get (pc := 6) (v := .ref (ad 36)) C0 34 wC_o34 rfl in_X7 1 (by decide) q15 rfl dX7_fullSlots_6 ?_
    refine J_getN (pc := 9) (v := .int (σ 17 1)) C0 36 wC_o36 rfl in_X6 6 (by decide) q22 rfl dX7_fullSlots_9 ?_
    refine J_icmp_ge (pc := 12) (tgt := 42) C0 dX7_fullSlots_12 (by decide) (fun h_12 => ?_) (fun h_12 => ?_)
    · refine J_iload_n (pc := 42) C0 1 dX7_fullSlots_42 rfl rfl ?_
      exact J_iretP C0 dX7_fullSlots_43
    · refine J_aload_n (pc := 15) C0 0 dX7_fullSlots_15 rfl rfl ?_
      refine J_get (pc := 16) (v := .ref (ad 36)) C0 34 wC_o34 rfl in_X7 1 (by decide) q15 rfl dX7_fullSlots_16 ?_
      refine J_iload_n (pc := 19) C0 2 dX7_fullSlots_19 rfl rfl ?_
      refine J_aload_n (pc := 20) C0 0 dX7_fullSlots_20 rfl rfl ?_
      refine J_get (pc := 21) (v := .ref (ad 35)) C0 34 wC_o34 rfl in_X7 0 (by decide) q23 rfl dX7_fullSlots_21 ?_
      refine fin_P (fun r_ h_ => run_V (As := [.int x2, .ref (ad 35)]) (rest := []) (q0 := 36) C0 (c_X6_codeIn σ x2  r_ h_) v_X6_codeIn q228 wC_o36 rfl rfl ⟨rfl, rfl⟩ (Rm_ok (by decide) (by decide)) rfl (Nat.le_of_ble_eq_true rfl) dX7_fullSlots_24) (fun r24 e24 => ?_)
      refine J_if_eq (pc := 27) (tgt := 36) C0 dX7_fullSlots_27 (by decide) (fun h_27 => ?_) (fun h_27 => ?_)
      · refine J_iinc (pc := 36) (d := 1) (lv' := [(2, .int (x2 + 1)), (0, .ref (ad 34)), (1, .int x1)]) C0 2 dX7_fullSlots_36 rfl (by decide) (by decide) rfl ?_
        refine J_goto (pc := 39) (tgt := 4) C0 dX7_fullSlots_39 (by decide) ?_
        refine J_sub (lv' := [(0, .ref (ad 34)), (1, .int x1), (2, .int (x2 + 1))]) [1, 2, 0] rfl ?_
        exact ih x1 (x2 + 1)
      · refine J_iload_n (pc := 30) C0 1 dX7_fullSlots_30 rfl rfl ?_
        refine J_iconst (pc := 31) (v := 1) C0 dX7_fullSlots_31 (by decide) ?_
        refine J_iload_n (pc := 32) C0 2 dX7_fullSlots_32 rfl rfl ?_
        refine J_ishl (pc := 33) C0 dX7_fullSlots_33 ?_
        refine J_ior (pc := 34) C0 dX7_fullSlots_34 ?_
        refine J_istore_n (pc := 35) (lv' := [(1, .int (x1 ||| ((1 : Int32) <<< (x2 &&& 31)))), (0, .ref (ad 34)), (2, .int x2)]) C0 dX7_fullSlots_35 rfl (by decide) rfl ?_
        refine J_iinc (pc := 36) (d := 1) (lv' := [(2, .int (x2 + 1)), (1, .int (x1 ||| ((1 : Int32) <<< (x2 &&& 31)))), (0, .ref (ad 34))]) C0 2 dX7_fullSlots_36 rfl (by decide) (by decide) rfl ?_
        refine J_goto (pc := 39) (tgt := 4) C0 dX7_fullSlots_39 (by decide) ?_
        refine J_sub (lv' := [(0, .ref (ad 34)), (1, .int (x1 ||| ((1 : Int32) <<< (x2 &&& 31)))), (2, .int (x2 + 1))]) [2, 1, 0] rfl ?_
        exact ih (x1 ||| ((1 : Int32) <<< (x2 &&& 31))) (x2 + 1)
set_option maxRecDepth 100000 in
set_option maxHeartbeats 4000000 in
theorem c_X7_fullSlots {l : Launch} {D : va_G} {cI cZ : ClassId} {A : Nat → Prop} {ad : Nat → Nat} (σ : SC)   (r : Int32) (h : f_X7_fullSlots σ = some r) : Met l yX7_fullSlots (.code yX7_fullSlots cX7_fullSlots 3 (some .int) :: wG) (Rm 4) (PreW D (tyA cI cZ) A (wC ad cI) [.ref (ad 34)] σ) (QI D A (wC ad cI) (r, σ)) 0 0 A := by
  refine met_of (M := f_X7_fullSlots σ) (Qc := (fun r => QI D A (wC ad cI) (r, σ))) (by decide) (Nat.le_of_ble_eq_true rfl) h (fun p e s m below meth c C0 => ?_)
  generalize hargs : ([.ref (ad 34)] : List Value).toArray = args at C0 ⊢
  have C0 : Cx D (tyA cI cZ) RX7 cX7_fullSlots 3 (some .int) p s m args meth c := C0
  refine J_sub (lv' := [(0, .ref (ad 34))]) [0] rfl ?_
  unfold f_X7_fullSlots
  refine J_iconst (pc := 0) (v := 0) C0 dX7_fullSlots_0 (by decide) ?_
  refine J_istore_n (pc := 1) (lv' := [(1, .int 0), (0, .ref (ad 34))]) C0 dX7_fullSlots_1 rfl (by decide) rfl ?_
  refine J_iconst (pc := 2) (v := 0) C0 dX7_fullSlots_2 (by decide) ?_
  refine J_istore_n (pc := 3) (lv' := [(2, .int 0), (1, .int 0), (0, .ref (ad 34))]) C0 dX7_fullSlots_3 rfl (by decide) rfl ?_
  refine J_sub (lv' := [(0, .ref (ad 34)), (1, .int 0), (2, .int 0)]) [2, 1, 0] rfl ?_
  exact j_X7_fullSlots_L4 C0 σ FU 0 0
end SE

def f_X7_hardestSlot_L4 (σ : SC) : Nat → Int32 → Int32 → Option Int32
  | 0, _, _ => none
  | n + 1, x1, x2 =>
  (if (σ 17 1) ≤ x2 then (some x1) else ((f_X6_codeIn σ x2).bind fun r24 => (if r24 = 0 then (if x1 = (-1) then (f_X7_hardestSlot_L4 σ n x2 (x2 + 1)) else ((f_X7_isHarder σ x2 x1).bind fun r38 => (if r38 = 0 then (f_X7_hardestSlot_L4 σ n x1 (x2 + 1)) else (f_X7_hardestSlot_L4 σ n x2 (x2 + 1))))) else (f_X7_hardestSlot_L4 σ n x1 (x2 + 1)))))
theorem f_X7_hardestSlot_L4_s (σ : SC) (n : Nat) (x1 : Int32) (x2 : Int32) : f_X7_hardestSlot_L4 σ (n + 1) x1 x2 = ((if (σ 17 1) ≤ x2 then (some x1) else ((f_X6_codeIn σ x2).bind fun r24 => (if r24 = 0 then (if x1 = (-1) then (f_X7_hardestSlot_L4 σ n x2 (x2 + 1)) else ((f_X7_isHarder σ x2 x1).bind fun r38 => (if r38 = 0 then (f_X7_hardestSlot_L4 σ n x1 (x2 + 1)) else (f_X7_hardestSlot_L4 σ n x2 (x2 + 1))))) else (f_X7_hardestSlot_L4 σ n x1 (x2 + 1)))))) := rfl
def f_X7_hardestSlot (σ : SC)  : Option Int32 :=
  (f_X7_hardestSlot_L4 σ FU (-1) 0)
section SE
variable {p : Program} {l : Launch} {e : Env} {s : State} {m : MethodId} {args : Array Value} {below : List Frame} {meth : Method} {c : Code} {D : va_G} {cI cZ : ClassId} {A : Nat → Prop} {ad : Nat → Nat}
set_option maxRecDepth 100000 in
set_option maxHeartbeats 4000000 in
theorem j_X7_hardestSlot_L4 (C0 : Cx D (tyA cI cZ) RX7 cX7_hardestSlot 3 (some .int) p s m args meth c) (σ : SC) : ∀ (n : Nat) (x1 : Int32) (x2 : Int32), J p l e (Rm 4) s m args below meth c D A (wC ad cI) 3 (fun r => QI D A (wC ad cI) (r, σ)) (f_X7_hardestSlot_L4 σ n x1 x2) σ [(0, .ref (ad 34)), (1, .int x1), (2, .int x2)] [] 4 := by
  intro n
  induction n with
  | zero => intros; exact J_none
  | succ n ih =>
    intro x1 x2
    refine J_eq (f_X7_hardestSlot_L4_s σ n x1 x2) ?_
    refine J_iload_n (pc := 4) C0 2 dX7_hardestSlot_4 rfl rfl ?_
    refine J_aload_n (pc := 5) C0 0 dX7_hardestSlot_5 rfl rfl ?_
    refine J_get (pc := 6) (v := .ref (ad 36)) C0 34 wC_o34 rfl in_X7 1 (by decide) q15 rfl dX7_hardestSlot_6 ?_
    refine J_getN (pc := 9) (v := .int (σ 17 1)) C0 36 wC_o36 rfl in_X6 6 (by decide) q22 rfl dX7_hardestSlot_9 ?_
    refine J_icmp_ge (pc := 12) (tgt := 52) C0 dX7_hardestSlot_12 (by decide) (fun h_12 => ?_) (fun h_12 => ?_)
    · refine J_iload_n (pc := 52) C0 1 dX7_hardestSlot_52 rfl rfl ?_
      exact J_iretP C0 dX7_hardestSlot_53
    · refine J_aload_n (pc := 15) C0 0 dX7_hardestSlot_15 rfl rfl ?_
      refine J_get (pc := 16) (v := .ref (ad 36)) C0 34 wC_o34 rfl in_X7 1 (by decide) q15 rfl dX7_hardestSlot_16 ?_
      refine J_iload_n (pc := 19) C0 2 dX7_hardestSlot_19 rfl rfl ?_
      refine J_aload_n (pc := 20) C0 0 dX7_hardestSlot_20 rfl rfl ?_
      refine J_get (pc := 21) (v := .ref (ad 35)) C0 34 wC_o34 rfl in_X7 0 (by decide) q23 rfl dX7_hardestSlot_21 ?_
      refine fin_P (fun r_ h_ => run_V (As := [.int x2, .ref (ad 35)]) (rest := []) (q0 := 36) C0 (c_X6_codeIn σ x2  r_ h_) v_X6_codeIn q228 wC_o36 rfl rfl ⟨rfl, rfl⟩ (Rm_ok (by decide) (by decide)) rfl (Nat.le_of_ble_eq_true rfl) dX7_hardestSlot_24) (fun r24 e24 => ?_)
      refine J_if_ne (pc := 27) (tgt := 46) C0 dX7_hardestSlot_27 (by decide) (fun h_27 => ?_) (fun h_27 => ?_)
      · refine J_iinc (pc := 46) (d := 1) (lv' := [(2, .int (x2 + 1)), (0, .ref (ad 34)), (1, .int x1)]) C0 2 dX7_hardestSlot_46 rfl (by decide) (by decide) rfl ?_
        refine J_goto (pc := 49) (tgt := 4) C0 dX7_hardestSlot_49 (by decide) ?_
        refine J_sub (lv' := [(0, .ref (ad 34)), (1, .int x1), (2, .int (x2 + 1))]) [1, 2, 0] rfl ?_
        exact ih x1 (x2 + 1)
      · refine J_iload_n (pc := 30) C0 1 dX7_hardestSlot_30 rfl rfl ?_
        refine J_iconst (pc := 31) (v := (-1)) C0 dX7_hardestSlot_31 (by decide) ?_
        refine J_icmp_eq (pc := 32) (tgt := 44) C0 dX7_hardestSlot_32 (by decide) (fun h_32 => ?_) (fun h_32 => ?_)
        · refine J_iload_n (pc := 44) C0 2 dX7_hardestSlot_44 rfl rfl ?_
          refine J_istore_n (pc := 45) (lv' := [(1, .int x2), (0, .ref (ad 34)), (2, .int x2)]) C0 dX7_hardestSlot_45 rfl (by decide) rfl ?_
          refine J_iinc (pc := 46) (d := 1) (lv' := [(2, .int (x2 + 1)), (1, .int x2), (0, .ref (ad 34))]) C0 2 dX7_hardestSlot_46 rfl (by decide) (by decide) rfl ?_
          refine J_goto (pc := 49) (tgt := 4) C0 dX7_hardestSlot_49 (by decide) ?_
          refine J_sub (lv' := [(0, .ref (ad 34)), (1, .int x2), (2, .int (x2 + 1))]) [2, 1, 0] rfl ?_
          exact ih x2 (x2 + 1)
        · refine J_aload_n (pc := 35) C0 0 dX7_hardestSlot_35 rfl rfl ?_
          refine J_iload_n (pc := 36) C0 2 dX7_hardestSlot_36 rfl rfl ?_
          refine J_iload_n (pc := 37) C0 1 dX7_hardestSlot_37 rfl rfl ?_
          refine fin_P (fun r_ h_ => run_V (As := [.int x2, .int x1]) (rest := []) (q0 := 34) C0 (c_X7_isHarder σ x2 x1  r_ h_) v_X7_isHarder q232 wC_o34 rfl rfl ⟨rfl, rfl⟩ (Rm_ok (by decide) (by decide)) rfl (Nat.le_of_ble_eq_true rfl) dX7_hardestSlot_38) (fun r38 e38 => ?_)
          refine J_if_eq (pc := 41) (tgt := 46) C0 dX7_hardestSlot_41 (by decide) (fun h_41 => ?_) (fun h_41 => ?_)
          · refine J_iinc (pc := 46) (d := 1) (lv' := [(2, .int (x2 + 1)), (0, .ref (ad 34)), (1, .int x1)]) C0 2 dX7_hardestSlot_46 rfl (by decide) (by decide) rfl ?_
            refine J_goto (pc := 49) (tgt := 4) C0 dX7_hardestSlot_49 (by decide) ?_
            refine J_sub (lv' := [(0, .ref (ad 34)), (1, .int x1), (2, .int (x2 + 1))]) [1, 2, 0] rfl ?_
            exact ih x1 (x2 + 1)
          · refine J_iload_n (pc := 44) C0 2 dX7_hardestSlot_44 rfl rfl ?_
            refine J_istore_n (pc := 45) (lv' := [(1, .int x2), (0, .ref (ad 34)), (2, .int x2)]) C0 dX7_hardestSlot_45 rfl (by decide) rfl ?_
            refine J_iinc (pc := 46) (d := 1) (lv' := [(2, .int (x2 + 1)), (1, .int x2), (0, .ref (ad 34))]) C0 2 dX7_hardestSlot_46 rfl (by decide) (by decide) rfl ?_
            refine J_goto (pc := 49) (tgt := 4) C0 dX7_hardestSlot_49 (by decide) ?_
            refine J_sub (lv' := [(0, .ref (ad 34)), (1, .int x2), (2, .int (x2 + 1))]) [2, 1, 0] rfl ?_
            exact ih x2 (x2 + 1)
set_option maxRecDepth 100000 in
set_option maxHeartbeats 4000000 in
theorem c_X7_hardestSlot {l : Launch} {D : va_G} {cI cZ : ClassId} {A : Nat → Prop} {ad : Nat → Nat} (σ : SC)   (r : Int32) (h : f_X7_hardestSlot σ = some r) : Met l yX7_hardestSlot (.code yX7_hardestSlot cX7_hardestSlot 3 (some .int) :: wG) (Rm 4) (PreW D (tyA cI cZ) A (wC ad cI) [.ref (ad 34)] σ) (QI D A (wC ad cI) (r, σ)) 0 0 A := by
  refine met_of (M := f_X7_hardestSlot σ) (Qc := (fun r => QI D A (wC ad cI) (r, σ))) (by decide) (Nat.le_of_ble_eq_true rfl) h (fun p e s m below meth c C0 => ?_)
  generalize hargs : ([.ref (ad 34)] : List Value).toArray = args at C0 ⊢
  have C0 : Cx D (tyA cI cZ) RX7 cX7_hardestSlot 3 (some .int) p s m args meth c := C0
  refine J_sub (lv' := [(0, .ref (ad 34))]) [0] rfl ?_
  unfold f_X7_hardestSlot
  refine J_iconst (pc := 0) (v := (-1)) C0 dX7_hardestSlot_0 (by decide) ?_
  refine J_istore_n (pc := 1) (lv' := [(1, .int (-1)), (0, .ref (ad 34))]) C0 dX7_hardestSlot_1 rfl (by decide) rfl ?_
  refine J_iconst (pc := 2) (v := 0) C0 dX7_hardestSlot_2 (by decide) ?_
  refine J_istore_n (pc := 3) (lv' := [(2, .int 0), (1, .int (-1)), (0, .ref (ad 34))]) C0 dX7_hardestSlot_3 rfl (by decide) rfl ?_
  refine J_sub (lv' := [(0, .ref (ad 34)), (1, .int (-1)), (2, .int 0)]) [2, 1, 0] rfl ?_
  exact j_X7_hardestSlot_L4 C0 σ FU (-1) 0
end SE

def f_X7_keep (σ : SC) (x1 : Int32) : Option (Int32 × SC) :=
  ((f_X7_isImage x1).bind fun r1 => (if r1 = 0 then (some ((-1000000001), σ)) else ((f_X4_keepImage σ x1).bind fun σ19 => (some ((σ19 17 0), σ19)))))
section SE
variable {p : Program} {l : Launch} {e : Env} {s : State} {m : MethodId} {args : Array Value} {below : List Frame} {meth : Method} {c : Code} {D : va_G} {cI cZ : ClassId} {A : Nat → Prop} {ad : Nat → Nat}
set_option maxRecDepth 100000 in
set_option maxHeartbeats 4000000 in
theorem c_X7_keep {l : Launch} {D : va_G} {cI cZ : ClassId} {A : Nat → Prop} {ad : Nat → Nat} (σ : SC) (x1 : Int32)  (r : (Int32 × SC)) (h : f_X7_keep σ x1 = some r) : Met l yX7_keep (.code yX7_keep cX7_keep 2 (some .int) :: wG) (Rm 4) (PreW D (tyA cI cZ) A (wC ad cI) [.ref (ad 34), .int x1] σ) (QI D A (wC ad cI) r) 0 0 A := by
  refine met_of (M := f_X7_keep σ x1) (Qc := (QI D A (wC ad cI))) (by decide) (Nat.le_of_ble_eq_true rfl) h (fun p e s m below meth c C0 => ?_)
  generalize hargs : ([.ref (ad 34), .int x1] : List Value).toArray = args at C0 ⊢
  have C0 : Cx D (tyA cI cZ) RX7 cX7_keep 2 (some .int) p s m args meth c := C0
  refine J_sub (lv' := [(0, .ref (ad 34)), (1, .int x1)]) [0, 1] rfl ?_
  unfold f_X7_keep
  refine J_iload_n (pc := 0) C0 1 dX7_keep_0 rfl rfl ?_
  refine fin_P (fun r_ h_ => run_S (As := [.int x1]) (rest := []) C0 (c_X7_isImage σ x1  r_ h_) v_X7_isImage q236 rfl ⟨rfl, rfl⟩ (Rm_ok (by decide) (by decide)) rfl (Nat.le_of_ble_eq_true rfl) dX7_keep_1) (fun r1 e1 => ?_)
  refine J_if_ne (pc := 4) (tgt := 10) C0 dX7_keep_4 (by decide) (fun h_4 => ?_) (fun h_4 => ?_)
  · refine J_aload_n (pc := 10) C0 0 dX7_keep_10 rfl rfl ?_
    refine J_get (pc := 11) (v := .ref (ad 40)) C0 34 wC_o34 rfl in_X7 5 (by decide) q239 rfl dX7_keep_11 ?_
    refine J_iload_n (pc := 14) C0 1 dX7_keep_14 rfl rfl ?_
    refine J_aload_n (pc := 15) C0 0 dX7_keep_15 rfl rfl ?_
    refine J_get (pc := 16) (v := .ref (ad 35)) C0 34 wC_o34 rfl in_X7 0 (by decide) q23 rfl dX7_keep_16 ?_
    refine fin_V (fun r_ h_ => run_V (As := [.int x1, .ref (ad 35)]) (rest := []) (q0 := 40) C0 (c_X4_keepImage σ x1  r_ h_) v_X4_keepImage q240 wC_o40 rfl rfl ⟨rfl, rfl⟩ (Rm_ok (by decide) (by decide)) rfl (Nat.le_of_ble_eq_true rfl) dX7_keep_19) (fun σ19 e19 => ?_)
    refine J_aload_n (pc := 22) C0 0 dX7_keep_22 rfl rfl ?_
    refine J_get (pc := 23) (v := .ref (ad 35)) C0 34 wC_o34 rfl in_X7 0 (by decide) q23 rfl dX7_keep_23 ?_
    refine J_getN (pc := 26) (v := .int (σ19 17 0)) C0 35 wC_o35 rfl in_X0 2 (by decide) q24 rfl dX7_keep_26 ?_
    exact J_iret C0 dX7_keep_29
  · refine J_ldc (pc := 7) C0 q192 dX7_keep_7 ?_
    exact J_iret C0 dX7_keep_9
end SE

def f_X7_lettersThatCanBe_K71 (σ : SC) (x1 : Int32) (x3 : Int32) (x4 : Int32) : Option Int32 :=
  ((f_X7_lettersLeft σ x3 x1).bind fun r74 => ((f_X7_lettersLeft σ x4 x1).bind fun r81 => (some (r74 &&& r81))))
def f_X7_lettersThatCanBe (σ : SC) (x1 : Int32) : Option Int32 :=
  (if (rd σ 0 x1) = (-1) then (some 0) else (if (rd σ 6 x1) = (-1) then (if (rd σ 7 x1) = (-1) then (if (rd σ 0 x1) = 0 then (some (nI 63)) else (some ((1 : Int32) <<< (((rd σ 0 x1) - (nI 97)) &&& 31)))) else (f_X7_lettersThatCanBe_K71 σ x1 (rd σ 6 x1) (rd σ 7 x1))) else (f_X7_lettersThatCanBe_K71 σ x1 (rd σ 6 x1) (rd σ 7 x1))))
section SE
variable {p : Program} {l : Launch} {e : Env} {s : State} {m : MethodId} {args : Array Value} {below : List Frame} {meth : Method} {c : Code} {D : va_G} {cI cZ : ClassId} {A : Nat → Prop} {ad : Nat → Nat}
set_option maxRecDepth 100000 in
set_option maxHeartbeats 4000000 in
theorem j_X7_lettersThatCanBe_K71 (C0 : Cx D (tyA cI cZ) RX7 cX7_lettersThatCanBe 5 (some .int) p s m args meth c) (σ : SC) (x1 : Int32) (x3 : Int32) (x4 : Int32) : J p l e (Rm 4) s m args below meth c D A (wC ad cI) 5 (fun r => QI D A (wC ad cI) (r, σ)) (f_X7_lettersThatCanBe_K71 σ x1 x3 x4) σ [(0, .ref (ad 34)), (1, .int x1), (3, .int x3), (4, .int x4)] [] 71 := by
  unfold f_X7_lettersThatCanBe_K71
  refine J_aload_n (pc := 71) C0 0 dX7_lettersThatCanBe_71 rfl rfl ?_
  refine J_iload_n (pc := 72) C0 2 dX7_lettersThatCanBe_72 rfl rfl ?_
  refine J_iload_n (pc := 73) C0 1 dX7_lettersThatCanBe_73 rfl rfl ?_
  refine fin_P (fun r_ h_ => run_V (As := [.int x3, .int x1]) (rest := []) (q0 := 34) C0 (c_X7_lettersLeft σ x3 x1  r_ h_) v_X7_lettersLeft q246 wC_o34 rfl rfl ⟨rfl, rfl⟩ (Rm_ok (by decide) (by decide)) rfl (Nat.le_of_ble_eq_true rfl) dX7_lettersThatCanBe_74) (fun r74 e74 => ?_)
  refine J_aload_n (pc := 77) C0 0 dX7_lettersThatCanBe_77 rfl rfl ?_
  refine J_iload (pc := 78) C0 3 dX7_lettersThatCanBe_78 rfl ?_
  refine J_iload_n (pc := 80) C0 1 dX7_lettersThatCanBe_80 rfl rfl ?_
  refine fin_P (fun r_ h_ => run_V (As := [.int x4, .int x1]) (rest := [.int r74]) (q0 := 34) C0 (c_X7_lettersLeft σ x4 x1  r_ h_) v_X7_lettersLeft q246 wC_o34 rfl rfl ⟨rfl, rfl⟩ (Rm_ok (by decide) (by decide)) rfl (Nat.le_of_ble_eq_true rfl) dX7_lettersThatCanBe_81) (fun r81 e81 => ?_)
  refine J_iand (pc := 84) C0 dX7_lettersThatCanBe_84 ?_
  exact J_iretP C0 dX7_lettersThatCanBe_85
set_option maxRecDepth 100000 in
set_option maxHeartbeats 4000000 in
theorem c_X7_lettersThatCanBe {l : Launch} {D : va_G} {cI cZ : ClassId} {A : Nat → Prop} {ad : Nat → Nat} (σ : SC) (x1 : Int32)  (r : Int32) (h : f_X7_lettersThatCanBe σ x1 = some r) : Met l yX7_lettersThatCanBe (.code yX7_lettersThatCanBe cX7_lettersThatCanBe 5 (some .int) :: wG) (Rm 4) (PreW D (tyA cI cZ) A (wC ad cI) [.ref (ad 34), .int x1] σ) (QI D A (wC ad cI) (r, σ)) 0 0 A := by
  refine met_of (M := f_X7_lettersThatCanBe σ x1) (Qc := (fun r => QI D A (wC ad cI) (r, σ))) (by decide) (Nat.le_of_ble_eq_true rfl) h (fun p e s m below meth c C0 => ?_)
  generalize hargs : ([.ref (ad 34), .int x1] : List Value).toArray = args at C0 ⊢
  have C0 : Cx D (tyA cI cZ) RX7 cX7_lettersThatCanBe 5 (some .int) p s m args meth c := C0
  refine J_sub (lv' := [(0, .ref (ad 34)), (1, .int x1)]) [0, 1] rfl ?_
  unfold f_X7_lettersThatCanBe
  refine J_aload_n (pc := 0) C0 0 dX7_lettersThatCanBe_0 rfl rfl ?_
  refine J_get (pc := 1) (v := .ref (ad 35)) C0 34 wC_o34 rfl in_X7 0 (by decide) q23 rfl dX7_lettersThatCanBe_1 ?_
  refine J_getN (pc := 4) (v := .ref (ad 0)) C0 35 wC_o35 rfl in_X0 0 (by decide) q206 rfl dX7_lettersThatCanBe_4 ?_
  refine J_iload_n (pc := 7) C0 1 dX7_lettersThatCanBe_7 rfl rfl ?_
  refine fin_T (run_V (As := [.int x1]) (rest := []) (q0 := 0) C0 (cT_X5_get σ 0 x1 (by decide)) v_X5_get q100 (wC_row (by decide)) rfl rfl ⟨rfl, rfl⟩ (Rm_ok (by decide) (by decide)) rfl (Nat.le_of_ble_eq_true rfl) dX7_lettersThatCanBe_8) ?_
  refine J_istore_n (pc := 11) (lv' := [(2, .int (rd σ 0 x1)), (0, .ref (ad 34)), (1, .int x1)]) C0 dX7_lettersThatCanBe_11 rfl (by decide) rfl ?_
  refine J_iload_n (pc := 12) C0 0 dX7_lettersThatCanBe_12 rfl rfl ?_
  refine J_iconst (pc := 13) (v := (-1)) C0 dX7_lettersThatCanBe_13 (by decide) ?_
  refine J_icmp_ne (pc := 14) (tgt := 19) C0 dX7_lettersThatCanBe_14 (by decide) (fun h_14 => ?_) (fun h_14 => ?_)
  · refine J_aload_n (pc := 19) C0 1 dX7_lettersThatCanBe_19 rfl rfl ?_
    refine J_get (pc := 20) (v := .ref (ad 36)) C0 34 wC_o34 rfl in_X7 1 (by decide) q15 rfl dX7_lettersThatCanBe_20 ?_
    refine J_getN (pc := 23) (v := .ref (ad 6)) C0 36 wC_o36 rfl in_X6 4 (by decide) q244 rfl dX7_lettersThatCanBe_23 ?_
    refine J_iload_n (pc := 26) C0 2 dX7_lettersThatCanBe_26 rfl rfl ?_
    refine fin_T (run_V (As := [.int x1]) (rest := []) (q0 := 6) C0 (cT_X5_get σ 6 x1 (by decide)) v_X5_get q100 (wC_row (by decide)) rfl rfl ⟨rfl, rfl⟩ (Rm_ok (by decide) (by decide)) rfl (Nat.le_of_ble_eq_true rfl) dX7_lettersThatCanBe_27) ?_
    refine J_istore_n (pc := 30) (lv' := [(3, .int (rd σ 6 x1)), (2, .int (rd σ 0 x1)), (0, .ref (ad 34)), (1, .int x1)]) C0 dX7_lettersThatCanBe_30 rfl (by decide) rfl ?_
    refine J_aload_n (pc := 31) C0 2 dX7_lettersThatCanBe_31 rfl rfl ?_
    refine J_get (pc := 32) (v := .ref (ad 36)) C0 34 wC_o34 rfl in_X7 1 (by decide) q15 rfl dX7_lettersThatCanBe_32 ?_
    refine J_getN (pc := 35) (v := .ref (ad 7)) C0 36 wC_o36 rfl in_X6 5 (by decide) q245 rfl dX7_lettersThatCanBe_35 ?_
    refine J_iload_n (pc := 38) C0 3 dX7_lettersThatCanBe_38 rfl rfl ?_
    refine fin_T (run_V (As := [.int x1]) (rest := []) (q0 := 7) C0 (cT_X5_get σ 7 x1 (by decide)) v_X5_get q100 (wC_row (by decide)) rfl rfl ⟨rfl, rfl⟩ (Rm_ok (by decide) (by decide)) rfl (Nat.le_of_ble_eq_true rfl) dX7_lettersThatCanBe_39) ?_
    refine J_istore (pc := 42) (lv' := [(4, .int (rd σ 7 x1)), (3, .int (rd σ 6 x1)), (2, .int (rd σ 0 x1)), (0, .ref (ad 34)), (1, .int x1)]) C0 dX7_lettersThatCanBe_42 (by decide) rfl ?_
    refine J_iload_n (pc := 44) C0 1 dX7_lettersThatCanBe_44 rfl rfl ?_
    refine J_iconst (pc := 45) (v := (-1)) C0 dX7_lettersThatCanBe_45 (by decide) ?_
    refine J_icmp_ne (pc := 46) (tgt := 71) C0 dX7_lettersThatCanBe_46 (by decide) (fun h_46 => ?_) (fun h_46 => ?_)
    · refine J_sub (lv' := [(0, .ref (ad 34)), (1, .int x1), (3, .int (rd σ 6 x1)), (4, .int (rd σ 7 x1))]) [3, 4, 1, 0] rfl ?_
      exact j_X7_lettersThatCanBe_K71 C0 σ x1 (rd σ 6 x1) (rd σ 7 x1)
    · refine J_iload (pc := 49) C0 0 dX7_lettersThatCanBe_49 rfl ?_
      refine J_iconst (pc := 51) (v := (-1)) C0 dX7_lettersThatCanBe_51 (by decide) ?_
      refine J_icmp_ne (pc := 52) (tgt := 71) C0 dX7_lettersThatCanBe_52 (by decide) (fun h_52 => ?_) (fun h_52 => ?_)
      · refine J_sub (lv' := [(0, .ref (ad 34)), (1, .int x1), (3, .int (rd σ 6 x1)), (4, .int (rd σ 7 x1))]) [3, 4, 1, 0] rfl ?_
        exact j_X7_lettersThatCanBe_K71 C0 σ x1 (rd σ 6 x1) (rd σ 7 x1)
      · refine J_iload_n (pc := 55) C0 2 dX7_lettersThatCanBe_55 rfl rfl ?_
        refine J_if_ne (pc := 56) (tgt := 64) C0 dX7_lettersThatCanBe_56 (by decide) (fun h_56 => ?_) (fun h_56 => ?_)
        · refine J_iconst (pc := 64) (v := 1) C0 dX7_lettersThatCanBe_64 (by decide) ?_
          refine J_iload_n (pc := 65) C0 2 dX7_lettersThatCanBe_65 rfl rfl ?_
          refine J_bipush (pc := 66) (v := (nI 97)) C0 dX7_lettersThatCanBe_66 (by decide) ?_
          refine J_isub (pc := 68) C0 dX7_lettersThatCanBe_68 ?_
          refine J_ishl (pc := 69) C0 dX7_lettersThatCanBe_69 ?_
          exact J_iretP C0 dX7_lettersThatCanBe_70
        · refine J_bipush (pc := 59) (v := (nI 63)) C0 dX7_lettersThatCanBe_59 (by decide) ?_
          refine J_goto (pc := 61) (tgt := 70) C0 dX7_lettersThatCanBe_61 (by decide) ?_
          exact J_iretP C0 dX7_lettersThatCanBe_70
  · refine J_iconst (pc := 17) (v := 0) C0 dX7_lettersThatCanBe_17 (by decide) ?_
    exact J_iretP C0 dX7_lettersThatCanBe_18
end SE

def f_X1_read_L2 (kx44 : SC → Option SC) : Nat → SC → Int32 → Option SC
  | 0, _, _ => none
  | n + 1, σ, x2 =>
  (if (σ 17 1) ≤ x2 then (kx44 σ) else ((f_X1_wordsThatFit σ x2).bind fun r16 => (f_X1_read_L2 kx44 n (wr (wr σ 11 x2 r16) 12 x2 r16) (x2 + 1))))
theorem f_X1_read_L2_s (kx44 : SC → Option SC) (n : Nat) (σ : SC) (x2 : Int32) : f_X1_read_L2 kx44 (n + 1) σ x2 = ((if (σ 17 1) ≤ x2 then (kx44 σ) else ((f_X1_wordsThatFit σ x2).bind fun r16 => (f_X1_read_L2 kx44 n (wr (wr σ 11 x2 r16) 12 x2 r16) (x2 + 1))))) := rfl
def f_X1_read_L48 (kx70 : SC → Option SC) : Nat → SC → Int32 → Int32 → Option SC
  | 0, _, _, _ => none
  | n + 1, σ, x2, x3 =>
  (if x2 = 0 then (kx70 σ) else (if (nI 128) < x3 then (kx70 σ) else (bnd (f_X1_dropWords σ) fun r60 σ60 => (f_X1_read_L48 kx70 n σ60 r60 (x3 + 1)))))
theorem f_X1_read_L48_s (kx70 : SC → Option SC) (n : Nat) (σ : SC) (x2 : Int32) (x3 : Int32) : f_X1_read_L48 kx70 (n + 1) σ x2 x3 = ((if x2 = 0 then (kx70 σ) else (if (nI 128) < x3 then (kx70 σ) else (bnd (f_X1_dropWords σ) fun r60 σ60 => (f_X1_read_L48 kx70 n σ60 r60 (x3 + 1)))))) := rfl
def f_X1_read (σ : SC)  : Option SC :=
  (f_X1_read_L2 (fun σ_44 => (f_X1_read_L48 (fun σ_70 => (some σ_70)) FU σ_44 1 0)) FU σ 0)
section SE
variable {p : Program} {l : Launch} {e : Env} {s : State} {m : MethodId} {args : Array Value} {below : List Frame} {meth : Method} {c : Code} {D : va_G} {cI cZ : ClassId} {A : Nat → Prop} {ad : Nat → Nat}
set_option maxRecDepth 100000 in
set_option maxHeartbeats 4000000 in
theorem j_X1_read_L2 (C0 : Cx D (tyA cI cZ) RX1 cX1_read 4 none p s m args meth c) (kx44 : SC → Option SC) (hkx44 : ∀ (σ : SC), J p l e (Rm 5) s m args below meth c D A (wC ad cI) 4 (QV D A (wC ad cI)) (kx44 σ) σ [(0, .ref (ad 38))] [] 44) : ∀ (n : Nat) (σ : SC) (x2 : Int32), J p l e (Rm 5) s m args below meth c D A (wC ad cI) 4 (QV D A (wC ad cI)) (f_X1_read_L2 kx44 n σ x2) σ [(0, .ref (ad 38)), (1, .ref (ad 35)), (2, .int x2)] [] 2 := by
  intro n
  induction n with
  | zero => intros; exact J_none
  | succ n ih =>
    intro σ x2
    refine J_eq (f_X1_read_L2_s kx44 n σ x2) ?_
    refine J_iload_n (pc := 2) C0 2 dX1_read_2 rfl rfl ?_
    refine J_aload_n (pc := 3) C0 0 dX1_read_3 rfl rfl ?_
    refine J_get (pc := 4) (v := .ref (ad 36)) C0 38 wC_o38 rfl in_X1 0 (by decide) q43 rfl dX1_read_4 ?_
    refine J_getN (pc := 7) (v := .int (σ 17 1)) C0 36 wC_o36 rfl in_X6 6 (by decide) q56 rfl dX1_read_7 ?_
    refine J_icmp_ge (pc := 10) (tgt := 44) C0 dX1_read_10 (by decide) (fun h_10 => ?_) (fun h_10 => ?_)
    · refine J_sub (lv' := [(0, .ref (ad 38))]) [0] rfl ?_
      exact hkx44 σ
    · refine J_aload_n (pc := 13) C0 0 dX1_read_13 rfl rfl ?_
      refine J_iload_n (pc := 14) C0 2 dX1_read_14 rfl rfl ?_
      refine J_aload_n (pc := 15) C0 1 dX1_read_15 rfl rfl ?_
      refine fin_P (fun r_ h_ => run_V (As := [.int x2, .ref (ad 35)]) (rest := []) (q0 := 38) C0 (c_X1_wordsThatFit σ x2  r_ h_) v_X1_wordsThatFit q250 wC_o38 rfl rfl ⟨rfl, rfl⟩ (Rm_ok (by decide) (by decide)) rfl (Nat.le_of_ble_eq_true rfl) dX1_read_16) (fun r16 e16 => ?_)
      refine J_istore_n (pc := 19) (lv' := [(3, .int r16), (0, .ref (ad 38)), (1, .ref (ad 35)), (2, .int x2)]) C0 dX1_read_19 rfl (by decide) rfl ?_
      refine J_aload_n (pc := 20) C0 1 dX1_read_20 rfl rfl ?_
      refine J_get (pc := 21) (v := .ref (ad 11)) C0 38 wC_o38 rfl in_X1 2 (by decide) q254 rfl dX1_read_21 ?_
      refine J_iload_n (pc := 24) C0 3 dX1_read_24 rfl rfl ?_
      refine J_iload_n (pc := 25) C0 0 dX1_read_25 rfl rfl ?_
      refine fin_TV (run_V (As := [.int x2, .int r16]) (rest := []) (q0 := 11) C0 (cT_X5_set σ 11 x2 r16 (by decide)) v_X5_set q212 (wC_row (by decide)) rfl rfl ⟨rfl, rfl⟩ (Rm_ok (by decide) (by decide)) rfl (Nat.le_of_ble_eq_true rfl) dX1_read_26) ?_
      refine J_aload_n (pc := 29) C0 1 dX1_read_29 rfl rfl ?_
      refine J_get (pc := 30) (v := .ref (ad 12)) C0 38 wC_o38 rfl in_X1 3 (by decide) q107 rfl dX1_read_30 ?_
      refine J_iload_n (pc := 33) C0 3 dX1_read_33 rfl rfl ?_
      refine J_iload_n (pc := 34) C0 0 dX1_read_34 rfl rfl ?_
      refine fin_TV (run_V (As := [.int x2, .int r16]) (rest := []) (q0 := 12) C0 (cT_X5_set (wr σ 11 x2 r16) 12 x2 r16 (by decide)) v_X5_set q212 (wC_row (by decide)) rfl rfl ⟨rfl, rfl⟩ (Rm_ok (by decide) (by decide)) rfl (Nat.le_of_ble_eq_true rfl) dX1_read_35) ?_
      refine J_iinc (pc := 38) (d := 1) (lv' := [(2, .int (x2 + 1)), (3, .int r16), (0, .ref (ad 38)), (1, .ref (ad 35))]) C0 3 dX1_read_38 rfl (by decide) (by decide) rfl ?_
      refine J_goto (pc := 41) (tgt := 2) C0 dX1_read_41 (by decide) ?_
      refine J_sub (lv' := [(0, .ref (ad 38)), (1, .ref (ad 35)), (2, .int (x2 + 1))]) [2, 3, 0] rfl ?_
      exact ih (wr (wr σ 11 x2 r16) 12 x2 r16) (x2 + 1)
set_option maxRecDepth 100000 in
set_option maxHeartbeats 4000000 in
theorem j_X1_read_L48 (C0 : Cx D (tyA cI cZ) RX1 cX1_read 4 none p s m args meth c) (kx70 : SC → Option SC) (hkx70 : ∀ (σ : SC), J p l e (Rm 5) s m args below meth c D A (wC ad cI) 4 (QV D A (wC ad cI)) (kx70 σ) σ [] [] 70) : ∀ (n : Nat) (σ : SC) (x2 : Int32) (x3 : Int32), J p l e (Rm 5) s m args below meth c D A (wC ad cI) 4 (QV D A (wC ad cI)) (f_X1_read_L48 kx70 n σ x2 x3) σ [(0, .ref (ad 38)), (2, .int x2), (3, .int x3)] [] 48 := by
  intro n
  induction n with
  | zero => intros; exact J_none
  | succ n ih =>
    intro σ x2 x3
    refine J_eq (f_X1_read_L48_s kx70 n σ x2 x3) ?_
    refine J_iload_n (pc := 48) C0 1 dX1_read_48 rfl rfl ?_
    refine J_if_eq (pc := 49) (tgt := 70) C0 dX1_read_49 (by decide) (fun h_49 => ?_) (fun h_49 => ?_)
    · refine J_sub (lv' := []) [] rfl ?_
      exact hkx70 σ
    · refine J_iload_n (pc := 52) C0 2 dX1_read_52 rfl rfl ?_
      refine J_sipush (pc := 53) (v := (nI 128)) C0 dX1_read_53 (by decide) ?_
      refine J_icmp_gt (pc := 56) (tgt := 70) C0 dX1_read_56 (by decide) (fun h_56 => ?_) (fun h_56 => ?_)
      · refine J_sub (lv' := []) [] rfl ?_
        exact hkx70 σ
      · refine J_aload_n (pc := 59) C0 0 dX1_read_59 rfl rfl ?_
        refine fin_I (fun r_ h_ => run_V (As := []) (rest := []) (q0 := 38) C0 (c_X1_dropWords σ   r_ h_) v_X1_dropWords q255 wC_o38 rfl rfl ⟨rfl, rfl⟩ (Rm_ok (by decide) (by decide)) rfl (Nat.le_of_ble_eq_true rfl) dX1_read_60) (fun r60 σ60 e60 => ?_)
        refine J_istore_n (pc := 63) (lv' := [(2, .int r60), (0, .ref (ad 38)), (3, .int x3)]) C0 dX1_read_63 rfl (by decide) rfl ?_
        refine J_iinc (pc := 64) (d := 1) (lv' := [(3, .int (x3 + 1)), (2, .int r60), (0, .ref (ad 38))]) C0 2 dX1_read_64 rfl (by decide) (by decide) rfl ?_
        refine J_goto (pc := 67) (tgt := 48) C0 dX1_read_67 (by decide) ?_
        refine J_sub (lv' := [(0, .ref (ad 38)), (2, .int r60), (3, .int (x3 + 1))]) [2, 1, 0] rfl ?_
        exact ih σ60 r60 (x3 + 1)
set_option maxRecDepth 100000 in
set_option maxHeartbeats 4000000 in
theorem c_X1_read {l : Launch} {D : va_G} {cI cZ : ClassId} {A : Nat → Prop} {ad : Nat → Nat} (σ : SC)   (r : SC) (h : f_X1_read σ = some r) : Met l yX1_read (.code yX1_read cX1_read 4 none :: wG) (Rm 5) (PreW D (tyA cI cZ) A (wC ad cI) [.ref (ad 38), .ref (ad 35)] σ) (QV D A (wC ad cI) r) 0 0 A := by
  refine met_of (M := f_X1_read σ) (Qc := (QV D A (wC ad cI))) (by decide) (Nat.le_of_ble_eq_true rfl) h (fun p e s m below meth c C0 => ?_)
  generalize hargs : ([.ref (ad 38), .ref (ad 35)] : List Value).toArray = args at C0 ⊢
  have C0 : Cx D (tyA cI cZ) RX1 cX1_read 4 none p s m args meth c := C0
  refine J_sub (lv' := [(0, .ref (ad 38)), (1, .ref (ad 35))]) [0, 1] rfl ?_
  unfold f_X1_read
  refine J_iconst (pc := 0) (v := 0) C0 dX1_read_0 (by decide) ?_
  refine J_istore_n (pc := 1) (lv' := [(2, .int 0), (0, .ref (ad 38)), (1, .ref (ad 35))]) C0 dX1_read_1 rfl (by decide) rfl ?_
  refine J_sub (lv' := [(0, .ref (ad 38)), (1, .ref (ad 35)), (2, .int 0)]) [1, 2, 0] rfl ?_
  refine j_X1_read_L2 C0 _ (fun σ_44 => ?_) FU σ 0
  refine J_iconst (pc := 44) (v := 1) C0 dX1_read_44 (by decide) ?_
  refine J_istore_n (pc := 45) (lv' := [(2, .int 1), (0, .ref (ad 38))]) C0 dX1_read_45 rfl (by decide) rfl ?_
  refine J_iconst (pc := 46) (v := 0) C0 dX1_read_46 (by decide) ?_
  refine J_istore_n (pc := 47) (lv' := [(3, .int 0), (2, .int 1), (0, .ref (ad 38))]) C0 dX1_read_47 rfl (by decide) rfl ?_
  refine J_sub (lv' := [(0, .ref (ad 38)), (2, .int 1), (3, .int 0)]) [2, 1, 0] rfl ?_
  refine j_X1_read_L48 C0 _ (fun σ_70 => ?_) FU σ_44 1 0
  exact J_vret C0 dX1_read_70
end SE

def f_X7_cell (σ : SC) (x1 : Int32) (x2 : Int32) : Option Int32 :=
  ((f_X7_isCell x1).bind fun r1 => (if r1 = 0 then (some (-1000000001)) else (if x2 = 0 then (some (rd σ 0 x1)) else (if x2 = 1 then (some (rd σ 6 x1)) else (if x2 = (nI 2) then (some (rd σ 7 x1)) else (if x2 = (nI 3) then ((f_X7_lettersThatCanBe σ x1).bind fun r78 => (some r78)) else (some (-1000000002))))))))
section SE
variable {p : Program} {l : Launch} {e : Env} {s : State} {m : MethodId} {args : Array Value} {below : List Frame} {meth : Method} {c : Code} {D : va_G} {cI cZ : ClassId} {A : Nat → Prop} {ad : Nat → Nat}
set_option maxRecDepth 100000 in
set_option maxHeartbeats 4000000 in
theorem c_X7_cell {l : Launch} {D : va_G} {cI cZ : ClassId} {A : Nat → Prop} {ad : Nat → Nat} (σ : SC) (x1 : Int32) (x2 : Int32)  (r : Int32) (h : f_X7_cell σ x1 x2 = some r) : Met l yX7_cell (.code yX7_cell cX7_cell 3 (some .int) :: wG) (Rm 5) (PreW D (tyA cI cZ) A (wC ad cI) [.ref (ad 34), .int x1, .int x2] σ) (QI D A (wC ad cI) (r, σ)) 0 0 A := by
  refine met_of (M := f_X7_cell σ x1 x2) (Qc := (fun r => QI D A (wC ad cI) (r, σ))) (by decide) (Nat.le_of_ble_eq_true rfl) h (fun p e s m below meth c C0 => ?_)
  generalize hargs : ([.ref (ad 34), .int x1, .int x2] : List Value).toArray = args at C0 ⊢
  have C0 : Cx D (tyA cI cZ) RX7 cX7_cell 3 (some .int) p s m args meth c := C0
  refine J_sub (lv' := [(0, .ref (ad 34)), (1, .int x1), (2, .int x2)]) [0, 1, 2] rfl ?_
  unfold f_X7_cell
  refine J_iload_n (pc := 0) C0 1 dX7_cell_0 rfl rfl ?_
  refine fin_P (fun r_ h_ => run_S (As := [.int x1]) (rest := []) C0 (c_X7_isCell σ x1  r_ h_) v_X7_isCell q259 rfl ⟨rfl, rfl⟩ (Rm_ok (by decide) (by decide)) rfl (Nat.le_of_ble_eq_true rfl) dX7_cell_1) (fun r1 e1 => ?_)
  refine J_if_ne (pc := 4) (tgt := 10) C0 dX7_cell_4 (by decide) (fun h_4 => ?_) (fun h_4 => ?_)
  · refine J_iload_n (pc := 10) C0 2 dX7_cell_10 rfl rfl ?_
    refine J_if (fun h_11_0 => ?_) (fun h_11_0 => ?_)
    · refine J_tblIn (pc := 11) (tgt := 40) C0 dX7_cell_11 h_11_0 (by decide) (by decide) rfl (by decide) ?_
      refine J_aload_n (pc := 40) C0 0 dX7_cell_40 rfl rfl ?_
      refine J_get (pc := 41) (v := .ref (ad 35)) C0 34 wC_o34 rfl in_X7 0 (by decide) q23 rfl dX7_cell_41 ?_
      refine J_getN (pc := 44) (v := .ref (ad 0)) C0 35 wC_o35 rfl in_X0 0 (by decide) q206 rfl dX7_cell_44 ?_
      refine J_iload_n (pc := 47) C0 1 dX7_cell_47 rfl rfl ?_
      refine fin_T (run_V (As := [.int x1]) (rest := []) (q0 := 0) C0 (cT_X5_get σ 0 x1 (by decide)) v_X5_get q100 (wC_row (by decide)) rfl rfl ⟨rfl, rfl⟩ (Rm_ok (by decide) (by decide)) rfl (Nat.le_of_ble_eq_true rfl) dX7_cell_48) ?_
      exact J_iretP C0 dX7_cell_51
    refine J_if (fun h_11_1 => ?_) (fun h_11_1 => ?_)
    · refine J_tblIn (pc := 11) (tgt := 52) C0 dX7_cell_11 h_11_1 (by decide) (by decide) rfl (by decide) ?_
      refine J_aload_n (pc := 52) C0 0 dX7_cell_52 rfl rfl ?_
      refine J_get (pc := 53) (v := .ref (ad 36)) C0 34 wC_o34 rfl in_X7 1 (by decide) q15 rfl dX7_cell_53 ?_
      refine J_getN (pc := 56) (v := .ref (ad 6)) C0 36 wC_o36 rfl in_X6 4 (by decide) q244 rfl dX7_cell_56 ?_
      refine J_iload_n (pc := 59) C0 1 dX7_cell_59 rfl rfl ?_
      refine fin_T (run_V (As := [.int x1]) (rest := []) (q0 := 6) C0 (cT_X5_get σ 6 x1 (by decide)) v_X5_get q100 (wC_row (by decide)) rfl rfl ⟨rfl, rfl⟩ (Rm_ok (by decide) (by decide)) rfl (Nat.le_of_ble_eq_true rfl) dX7_cell_60) ?_
      exact J_iretP C0 dX7_cell_63
    refine J_if (fun h_11_2 => ?_) (fun h_11_2 => ?_)
    · refine J_tblIn (pc := 11) (tgt := 64) C0 dX7_cell_11 h_11_2 (by decide) (by decide) rfl (by decide) ?_
      refine J_aload_n (pc := 64) C0 0 dX7_cell_64 rfl rfl ?_
      refine J_get (pc := 65) (v := .ref (ad 36)) C0 34 wC_o34 rfl in_X7 1 (by decide) q15 rfl dX7_cell_65 ?_
      refine J_getN (pc := 68) (v := .ref (ad 7)) C0 36 wC_o36 rfl in_X6 5 (by decide) q245 rfl dX7_cell_68 ?_
      refine J_iload_n (pc := 71) C0 1 dX7_cell_71 rfl rfl ?_
      refine fin_T (run_V (As := [.int x1]) (rest := []) (q0 := 7) C0 (cT_X5_get σ 7 x1 (by decide)) v_X5_get q100 (wC_row (by decide)) rfl rfl ⟨rfl, rfl⟩ (Rm_ok (by decide) (by decide)) rfl (Nat.le_of_ble_eq_true rfl) dX7_cell_72) ?_
      exact J_iretP C0 dX7_cell_75
    refine J_if (fun h_11_3 => ?_) (fun h_11_3 => ?_)
    · refine J_tblIn (pc := 11) (tgt := 76) C0 dX7_cell_11 h_11_3 (by decide) (by decide) rfl (by decide) ?_
      refine J_aload_n (pc := 76) C0 0 dX7_cell_76 rfl rfl ?_
      refine J_iload_n (pc := 77) C0 1 dX7_cell_77 rfl rfl ?_
      refine fin_P (fun r_ h_ => run_V (As := [.int x1]) (rest := []) (q0 := 34) C0 (c_X7_lettersThatCanBe σ x1  r_ h_) v_X7_lettersThatCanBe q262 wC_o34 rfl rfl ⟨rfl, rfl⟩ (Rm_ok (by decide) (by decide)) rfl (Nat.le_of_ble_eq_true rfl) dX7_cell_78) (fun r78 e78 => ?_)
      exact J_iretP C0 dX7_cell_81
    have t_11_0 := ne_toInt h_11_0 (k := 0) (by decide)
    have t_11_1 := ne_toInt h_11_1 (k := 1) (by decide)
    have t_11_2 := ne_toInt h_11_2 (k := 2) (by decide)
    have t_11_3 := ne_toInt h_11_3 (k := 3) (by decide)
    refine J_tblOut (pc := 11) (tgt := 82) C0 dX7_cell_11 (by omega) (by decide) ?_
    refine J_ldc (pc := 82) C0 q184 dX7_cell_82 ?_
    exact J_iretP C0 dX7_cell_84
  · refine J_ldc (pc := 7) C0 q192 dX7_cell_7 ?_
    exact J_iretP C0 dX7_cell_9
end SE

def f_X7_word (σ : SC) (x1 : Int32) (x2 : Int32) : Option Int32 :=
  ((f_X7_isWord σ x1).bind fun r2 => (if r2 = 0 then (some (-1000000001)) else (if x2 = 0 then (some (rd σ 1 x1)) else (if x2 = 1 then ((f_X7_lengthOf (rd σ 1 x1)).bind fun r63 => (some r63)) else (if x2 = (nI 2) then ((f_X1_slotsWith σ x1 11).bind fun r79 => ((f_J6_bitCount_0f7a4 r79).bind fun r82 => (some r82))) else (if x2 = (nI 3) then ((f_X1_slotsWith σ x1 12).bind fun r98 => (some r98)) else (if x2 = (nI 4) then ((f_X7_firstSlotThatReads σ (rd σ 1 x1)).bind fun r104 => (some r104)) else (some (-1000000002)))))))))
section SE
variable {p : Program} {l : Launch} {e : Env} {s : State} {m : MethodId} {args : Array Value} {below : List Frame} {meth : Method} {c : Code} {D : va_G} {cI cZ : ClassId} {A : Nat → Prop} {ad : Nat → Nat}
set_option maxRecDepth 100000 in
set_option maxHeartbeats 4000000 in
theorem c_X7_word {l : Launch} {D : va_G} {cI cZ : ClassId} {A : Nat → Prop} {ad : Nat → Nat} (σ : SC) (x1 : Int32) (x2 : Int32)  (r : Int32) (h : f_X7_word σ x1 x2 = some r) : Met l yX7_word (.code yX7_word cX7_word 4 (some .int) :: wG) (Rm 5) (PreW D (tyA cI cZ) A (wC ad cI) [.ref (ad 34), .int x1, .int x2] σ) (QI D A (wC ad cI) (r, σ)) 0 0 A := by
  refine met_of (M := f_X7_word σ x1 x2) (Qc := (fun r => QI D A (wC ad cI) (r, σ))) (by decide) (Nat.le_of_ble_eq_true rfl) h (fun p e s m below meth c C0 => ?_)
  generalize hargs : ([.ref (ad 34), .int x1, .int x2] : List Value).toArray = args at C0 ⊢
  have C0 : Cx D (tyA cI cZ) RX7 cX7_word 4 (some .int) p s m args meth c := C0
  refine J_sub (lv' := [(0, .ref (ad 34)), (1, .int x1), (2, .int x2)]) [0, 1, 2] rfl ?_
  unfold f_X7_word
  refine J_aload_n (pc := 0) C0 0 dX7_word_0 rfl rfl ?_
  refine J_iload_n (pc := 1) C0 1 dX7_word_1 rfl rfl ?_
  refine fin_P (fun r_ h_ => run_V (As := [.int x1]) (rest := []) (q0 := 34) C0 (c_X7_isWord σ x1  r_ h_) v_X7_isWord q193 wC_o34 rfl rfl ⟨rfl, rfl⟩ (Rm_ok (by decide) (by decide)) rfl (Nat.le_of_ble_eq_true rfl) dX7_word_2) (fun r2 e2 => ?_)
  refine J_if_ne (pc := 5) (tgt := 11) C0 dX7_word_5 (by decide) (fun h_5 => ?_) (fun h_5 => ?_)
  · refine J_aload_n (pc := 11) C0 0 dX7_word_11 rfl rfl ?_
    refine J_get (pc := 12) (v := .ref (ad 35)) C0 34 wC_o34 rfl in_X7 0 (by decide) q23 rfl dX7_word_12 ?_
    refine J_getN (pc := 15) (v := .ref (ad 1)) C0 35 wC_o35 rfl in_X0 1 (by decide) q266 rfl dX7_word_15 ?_
    refine J_iload_n (pc := 18) C0 1 dX7_word_18 rfl rfl ?_
    refine fin_T (run_V (As := [.int x1]) (rest := []) (q0 := 1) C0 (cT_X5_get σ 1 x1 (by decide)) v_X5_get q100 (wC_row (by decide)) rfl rfl ⟨rfl, rfl⟩ (Rm_ok (by decide) (by decide)) rfl (Nat.le_of_ble_eq_true rfl) dX7_word_19) ?_
    refine J_istore_n (pc := 22) (lv' := [(3, .int (rd σ 1 x1)), (0, .ref (ad 34)), (1, .int x1), (2, .int x2)]) C0 dX7_word_22 rfl (by decide) rfl ?_
    refine J_iload_n (pc := 23) C0 3 dX7_word_23 rfl rfl ?_
    refine J_if (fun h_24_0 => ?_) (fun h_24_0 => ?_)
    · refine J_tblIn (pc := 24) (tgt := 60) C0 dX7_word_24 h_24_0 (by decide) (by decide) rfl (by decide) ?_
      refine J_iload_n (pc := 60) C0 0 dX7_word_60 rfl rfl ?_
      exact J_iretP C0 dX7_word_61
    refine J_if (fun h_24_1 => ?_) (fun h_24_1 => ?_)
    · refine J_tblIn (pc := 24) (tgt := 62) C0 dX7_word_24 h_24_1 (by decide) (by decide) rfl (by decide) ?_
      refine J_iload_n (pc := 62) C0 0 dX7_word_62 rfl rfl ?_
      refine fin_P (fun r_ h_ => run_S (As := [.int (rd σ 1 x1)]) (rest := []) C0 (c_X7_lengthOf σ (rd σ 1 x1)  r_ h_) v_X7_lengthOf q183 rfl ⟨rfl, rfl⟩ (Rm_ok (by decide) (by decide)) rfl (Nat.le_of_ble_eq_true rfl) dX7_word_63) (fun r63 e63 => ?_)
      exact J_iretP C0 dX7_word_66
    refine J_if (fun h_24_2 => ?_) (fun h_24_2 => ?_)
    · refine J_tblIn (pc := 24) (tgt := 67) C0 dX7_word_24 h_24_2 (by decide) (by decide) rfl (by decide) ?_
      refine J_aload_n (pc := 67) C0 1 dX7_word_67 rfl rfl ?_
      refine J_get (pc := 68) (v := .ref (ad 38)) C0 34 wC_o34 rfl in_X7 3 (by decide) q98 rfl dX7_word_68 ?_
      refine J_iload_n (pc := 71) C0 2 dX7_word_71 rfl rfl ?_
      refine J_aload_n (pc := 72) C0 1 dX7_word_72 rfl rfl ?_
      refine J_get (pc := 73) (v := .ref (ad 38)) C0 34 wC_o34 rfl in_X7 3 (by decide) q98 rfl dX7_word_73 ?_
      refine J_getN (pc := 76) (v := .ref (ad 11)) C0 38 wC_o38 rfl in_X1 2 (by decide) q198 rfl dX7_word_76 ?_
      refine fin_P (fun r_ h_ => run_V (As := [.int x1, .ref (ad 11)]) (rest := []) (q0 := 38) C0 (c_X1_slotsWith σ x1 11 (by decide) r_ h_) v_X1_slotsWith q267 wC_o38 rfl rfl ⟨rfl, rfl⟩ (Rm_ok (by decide) (by decide)) rfl (Nat.le_of_ble_eq_true rfl) dX7_word_79) (fun r79 e79 => ?_)
      refine fin_P (fun r_ h_ => run_S (As := [.int r79]) (rest := []) C0 (c_J6_bitCount_0f7a4 σ r79  r_ h_) v_J6_bitCount_0f7a4 q101 rfl ⟨rfl, rfl⟩ (Rm_ok (by decide) (by decide)) rfl (Nat.le_of_ble_eq_true rfl) dX7_word_82) (fun r82 e82 => ?_)
      exact J_iretP C0 dX7_word_85
    refine J_if (fun h_24_3 => ?_) (fun h_24_3 => ?_)
    · refine J_tblIn (pc := 24) (tgt := 86) C0 dX7_word_24 h_24_3 (by decide) (by decide) rfl (by decide) ?_
      refine J_aload_n (pc := 86) C0 1 dX7_word_86 rfl rfl ?_
      refine J_get (pc := 87) (v := .ref (ad 38)) C0 34 wC_o34 rfl in_X7 3 (by decide) q98 rfl dX7_word_87 ?_
      refine J_iload_n (pc := 90) C0 2 dX7_word_90 rfl rfl ?_
      refine J_aload_n (pc := 91) C0 1 dX7_word_91 rfl rfl ?_
      refine J_get (pc := 92) (v := .ref (ad 38)) C0 34 wC_o34 rfl in_X7 3 (by decide) q98 rfl dX7_word_92 ?_
      refine J_getN (pc := 95) (v := .ref (ad 12)) C0 38 wC_o38 rfl in_X1 3 (by decide) q99 rfl dX7_word_95 ?_
      refine fin_P (fun r_ h_ => run_V (As := [.int x1, .ref (ad 12)]) (rest := []) (q0 := 38) C0 (c_X1_slotsWith σ x1 12 (by decide) r_ h_) v_X1_slotsWith q267 wC_o38 rfl rfl ⟨rfl, rfl⟩ (Rm_ok (by decide) (by decide)) rfl (Nat.le_of_ble_eq_true rfl) dX7_word_98) (fun r98 e98 => ?_)
      exact J_iretP C0 dX7_word_101
    refine J_if (fun h_24_4 => ?_) (fun h_24_4 => ?_)
    · refine J_tblIn (pc := 24) (tgt := 102) C0 dX7_word_24 h_24_4 (by decide) (by decide) rfl (by decide) ?_
      refine J_aload_n (pc := 102) C0 1 dX7_word_102 rfl rfl ?_
      refine J_iload_n (pc := 103) C0 0 dX7_word_103 rfl rfl ?_
      refine fin_P (fun r_ h_ => run_V (As := [.int (rd σ 1 x1)]) (rest := []) (q0 := 34) C0 (c_X7_firstSlotThatReads σ (rd σ 1 x1)  r_ h_) v_X7_firstSlotThatReads q271 wC_o34 rfl rfl ⟨rfl, rfl⟩ (Rm_ok (by decide) (by decide)) rfl (Nat.le_of_ble_eq_true rfl) dX7_word_104) (fun r104 e104 => ?_)
      exact J_iretP C0 dX7_word_107
    have t_24_0 := ne_toInt h_24_0 (k := 0) (by decide)
    have t_24_1 := ne_toInt h_24_1 (k := 1) (by decide)
    have t_24_2 := ne_toInt h_24_2 (k := 2) (by decide)
    have t_24_3 := ne_toInt h_24_3 (k := 3) (by decide)
    have t_24_4 := ne_toInt h_24_4 (k := 4) (by decide)
    refine J_tblOut (pc := 24) (tgt := 108) C0 dX7_word_24 (by omega) (by decide) ?_
    refine J_ldc (pc := 108) C0 q184 dX7_word_108 ?_
    exact J_iretP C0 dX7_word_110
  · refine J_ldc (pc := 8) C0 q192 dX7_word_8 ?_
    exact J_iretP C0 dX7_word_10
end SE

def f_X7_wrongSlots_K50 (k4 : Int32 → Int32 → Option Int32) (σ : SC) (x2 : Int32) (x3 : Int32) (y0 : Int32) (y1 : Int32) : Option Int32 :=
  ((f_X7_firstSlotThatReads σ x3).bind fun r55 => (if r55 = x2 then (k4 ((y1 + y0) + 0) (x2 + 1)) else (k4 ((y1 + y0) + 1) (x2 + 1))))
def f_X7_wrongSlots_L4 (σ : SC) : Nat → Int32 → Int32 → Option Int32
  | 0, _, _ => none
  | n + 1, x1, x2 =>
  (if (σ 17 1) ≤ x2 then (some x1) else ((f_X6_codeIn σ x2).bind fun r24 => (if r24 = 0 then (f_X7_wrongSlots_L4 σ n x1 (x2 + 1)) else ((f_X0_numberOf σ r24).bind fun r38 => (if r38 = (-1) then (f_X7_wrongSlots_K50 (f_X7_wrongSlots_L4 σ n) σ x2 r24 1 x1) else (f_X7_wrongSlots_K50 (f_X7_wrongSlots_L4 σ n) σ x2 r24 0 x1))))))
theorem f_X7_wrongSlots_L4_s (σ : SC) (n : Nat) (x1 : Int32) (x2 : Int32) : f_X7_wrongSlots_L4 σ (n + 1) x1 x2 = ((if (σ 17 1) ≤ x2 then (some x1) else ((f_X6_codeIn σ x2).bind fun r24 => (if r24 = 0 then (f_X7_wrongSlots_L4 σ n x1 (x2 + 1)) else ((f_X0_numberOf σ r24).bind fun r38 => (if r38 = (-1) then (f_X7_wrongSlots_K50 (f_X7_wrongSlots_L4 σ n) σ x2 r24 1 x1) else (f_X7_wrongSlots_K50 (f_X7_wrongSlots_L4 σ n) σ x2 r24 0 x1))))))) := rfl
def f_X7_wrongSlots (σ : SC)  : Option Int32 :=
  (f_X7_wrongSlots_L4 σ FU 0 0)
section SE
variable {p : Program} {l : Launch} {e : Env} {s : State} {m : MethodId} {args : Array Value} {below : List Frame} {meth : Method} {c : Code} {D : va_G} {cI cZ : ClassId} {A : Nat → Prop} {ad : Nat → Nat}
set_option maxRecDepth 100000 in
set_option maxHeartbeats 4000000 in
theorem j_X7_wrongSlots_K50 (C0 : Cx D (tyA cI cZ) RX7 cX7_wrongSlots 4 (some .int) p s m args meth c) (k4 : Int32 → Int32 → Option Int32) (σ : SC) (x2 : Int32) (x3 : Int32) (y0 : Int32) (y1 : Int32) (hk4 : ∀ (x1 : Int32) (x2 : Int32), J p l e (Rm 5) s m args below meth c D A (wC ad cI) 4 (fun r => QI D A (wC ad cI) (r, σ)) (k4 x1 x2) σ [(0, .ref (ad 34)), (1, .int x1), (2, .int x2)] [] 4) : J p l e (Rm 5) s m args below meth c D A (wC ad cI) 4 (fun r => QI D A (wC ad cI) (r, σ)) (f_X7_wrongSlots_K50 k4 σ x2 x3 y0 y1) σ [(0, .ref (ad 34)), (2, .int x2), (3, .int x3)] [.int y0, .int y1] 50 := by
  unfold f_X7_wrongSlots_K50
  refine J_iadd (pc := 50) C0 dX7_wrongSlots_50 ?_
  refine J_istore_n (pc := 51) (lv' := [(1, .int (y1 + y0)), (0, .ref (ad 34)), (2, .int x2), (3, .int x3)]) C0 dX7_wrongSlots_51 rfl (by decide) rfl ?_
  refine J_iload_n (pc := 52) C0 0 dX7_wrongSlots_52 rfl rfl ?_
  refine J_aload_n (pc := 53) C0 1 dX7_wrongSlots_53 rfl rfl ?_
  refine J_iload_n (pc := 54) C0 3 dX7_wrongSlots_54 rfl rfl ?_
  refine fin_P (fun r_ h_ => run_V (As := [.int x3]) (rest := [.int (y1 + y0)]) (q0 := 34) C0 (c_X7_firstSlotThatReads σ x3  r_ h_) v_X7_firstSlotThatReads q271 wC_o34 rfl rfl ⟨rfl, rfl⟩ (Rm_ok (by decide) (by decide)) rfl (Nat.le_of_ble_eq_true rfl) dX7_wrongSlots_55) (fun r55 e55 => ?_)
  refine J_iload_n (pc := 58) C0 2 dX7_wrongSlots_58 rfl rfl ?_
  refine J_icmp_eq (pc := 59) (tgt := 66) C0 dX7_wrongSlots_59 (by decide) (fun h_59 => ?_) (fun h_59 => ?_)
  · refine J_iconst (pc := 66) (v := 0) C0 dX7_wrongSlots_66 (by decide) ?_
    refine J_iadd (pc := 67) C0 dX7_wrongSlots_67 ?_
    refine J_istore_n (pc := 68) (lv' := [(1, .int ((y1 + y0) + 0)), (0, .ref (ad 34)), (2, .int x2), (3, .int x3)]) C0 dX7_wrongSlots_68 rfl (by decide) rfl ?_
    refine J_iinc (pc := 69) (d := 1) (lv' := [(2, .int (x2 + 1)), (1, .int ((y1 + y0) + 0)), (0, .ref (ad 34)), (3, .int x3)]) C0 2 dX7_wrongSlots_69 rfl (by decide) (by decide) rfl ?_
    refine J_goto (pc := 72) (tgt := 4) C0 dX7_wrongSlots_72 (by decide) ?_
    refine J_sub (lv' := [(0, .ref (ad 34)), (1, .int ((y1 + y0) + 0)), (2, .int (x2 + 1))]) [2, 1, 0] rfl ?_
    exact hk4 ((y1 + y0) + 0) (x2 + 1)
  · refine J_iconst (pc := 62) (v := 1) C0 dX7_wrongSlots_62 (by decide) ?_
    refine J_goto (pc := 63) (tgt := 67) C0 dX7_wrongSlots_63 (by decide) ?_
    refine J_iadd (pc := 67) C0 dX7_wrongSlots_67 ?_
    refine J_istore_n (pc := 68) (lv' := [(1, .int ((y1 + y0) + 1)), (0, .ref (ad 34)), (2, .int x2), (3, .int x3)]) C0 dX7_wrongSlots_68 rfl (by decide) rfl ?_
    refine J_iinc (pc := 69) (d := 1) (lv' := [(2, .int (x2 + 1)), (1, .int ((y1 + y0) + 1)), (0, .ref (ad 34)), (3, .int x3)]) C0 2 dX7_wrongSlots_69 rfl (by decide) (by decide) rfl ?_
    refine J_goto (pc := 72) (tgt := 4) C0 dX7_wrongSlots_72 (by decide) ?_
    refine J_sub (lv' := [(0, .ref (ad 34)), (1, .int ((y1 + y0) + 1)), (2, .int (x2 + 1))]) [2, 1, 0] rfl ?_
    exact hk4 ((y1 + y0) + 1) (x2 + 1)
set_option maxRecDepth 100000 in
set_option maxHeartbeats 4000000 in
theorem j_X7_wrongSlots_L4 (C0 : Cx D (tyA cI cZ) RX7 cX7_wrongSlots 4 (some .int) p s m args meth c) (σ : SC) : ∀ (n : Nat) (x1 : Int32) (x2 : Int32), J p l e (Rm 5) s m args below meth c D A (wC ad cI) 4 (fun r => QI D A (wC ad cI) (r, σ)) (f_X7_wrongSlots_L4 σ n x1 x2) σ [(0, .ref (ad 34)), (1, .int x1), (2, .int x2)] [] 4 := by
  intro n
  induction n with
  | zero => intros; exact J_none
  | succ n ih =>
    intro x1 x2
    refine J_eq (f_X7_wrongSlots_L4_s σ n x1 x2) ?_
    refine J_iload_n (pc := 4) C0 2 dX7_wrongSlots_4 rfl rfl ?_
    refine J_aload_n (pc := 5) C0 0 dX7_wrongSlots_5 rfl rfl ?_
    refine J_get (pc := 6) (v := .ref (ad 36)) C0 34 wC_o34 rfl in_X7 1 (by decide) q15 rfl dX7_wrongSlots_6 ?_
    refine J_getN (pc := 9) (v := .int (σ 17 1)) C0 36 wC_o36 rfl in_X6 6 (by decide) q22 rfl dX7_wrongSlots_9 ?_
    refine J_icmp_ge (pc := 12) (tgt := 75) C0 dX7_wrongSlots_12 (by decide) (fun h_12 => ?_) (fun h_12 => ?_)
    · refine J_iload_n (pc := 75) C0 1 dX7_wrongSlots_75 rfl rfl ?_
      exact J_iretP C0 dX7_wrongSlots_76
    · refine J_aload_n (pc := 15) C0 0 dX7_wrongSlots_15 rfl rfl ?_
      refine J_get (pc := 16) (v := .ref (ad 36)) C0 34 wC_o34 rfl in_X7 1 (by decide) q15 rfl dX7_wrongSlots_16 ?_
      refine J_iload_n (pc := 19) C0 2 dX7_wrongSlots_19 rfl rfl ?_
      refine J_aload_n (pc := 20) C0 0 dX7_wrongSlots_20 rfl rfl ?_
      refine J_get (pc := 21) (v := .ref (ad 35)) C0 34 wC_o34 rfl in_X7 0 (by decide) q23 rfl dX7_wrongSlots_21 ?_
      refine fin_P (fun r_ h_ => run_V (As := [.int x2, .ref (ad 35)]) (rest := []) (q0 := 36) C0 (c_X6_codeIn σ x2  r_ h_) v_X6_codeIn q228 wC_o36 rfl rfl ⟨rfl, rfl⟩ (Rm_ok (by decide) (by decide)) rfl (Nat.le_of_ble_eq_true rfl) dX7_wrongSlots_24) (fun r24 e24 => ?_)
      refine J_istore_n (pc := 27) (lv' := [(3, .int r24), (0, .ref (ad 34)), (1, .int x1), (2, .int x2)]) C0 dX7_wrongSlots_27 rfl (by decide) rfl ?_
      refine J_iload_n (pc := 28) C0 0 dX7_wrongSlots_28 rfl rfl ?_
      refine J_if_eq (pc := 29) (tgt := 69) C0 dX7_wrongSlots_29 (by decide) (fun h_29 => ?_) (fun h_29 => ?_)
      · refine J_iinc (pc := 69) (d := 1) (lv' := [(2, .int (x2 + 1)), (3, .int r24), (0, .ref (ad 34)), (1, .int x1)]) C0 3 dX7_wrongSlots_69 rfl (by decide) (by decide) rfl ?_
        refine J_goto (pc := 72) (tgt := 4) C0 dX7_wrongSlots_72 (by decide) ?_
        refine J_sub (lv' := [(0, .ref (ad 34)), (1, .int x1), (2, .int (x2 + 1))]) [2, 3, 0] rfl ?_
        exact ih x1 (x2 + 1)
      · refine J_iload_n (pc := 32) C0 2 dX7_wrongSlots_32 rfl rfl ?_
        refine J_aload_n (pc := 33) C0 1 dX7_wrongSlots_33 rfl rfl ?_
        refine J_get (pc := 34) (v := .ref (ad 35)) C0 34 wC_o34 rfl in_X7 0 (by decide) q23 rfl dX7_wrongSlots_34 ?_
        refine J_iload_n (pc := 37) C0 0 dX7_wrongSlots_37 rfl rfl ?_
        refine fin_P (fun r_ h_ => run_V (As := [.int r24]) (rest := [.int x1]) (q0 := 35) C0 (c_X0_numberOf σ r24  r_ h_) v_X0_numberOf q174 wC_o35 rfl rfl ⟨rfl, rfl⟩ (Rm_ok (by decide) (by decide)) rfl (Nat.le_of_ble_eq_true rfl) dX7_wrongSlots_38) (fun r38 e38 => ?_)
        refine J_iconst (pc := 41) (v := (-1)) C0 dX7_wrongSlots_41 (by decide) ?_
        refine J_icmp_ne (pc := 42) (tgt := 49) C0 dX7_wrongSlots_42 (by decide) (fun h_42 => ?_) (fun h_42 => ?_)
        · refine J_iconst (pc := 49) (v := 0) C0 dX7_wrongSlots_49 (by decide) ?_
          refine J_sub (lv' := [(0, .ref (ad 34)), (2, .int x2), (3, .int r24)]) [1, 3, 0] rfl ?_
          exact j_X7_wrongSlots_K50 C0 _ σ x2 r24 0 x1 ih
        · refine J_iconst (pc := 45) (v := 1) C0 dX7_wrongSlots_45 (by decide) ?_
          refine J_goto (pc := 46) (tgt := 50) C0 dX7_wrongSlots_46 (by decide) ?_
          refine J_sub (lv' := [(0, .ref (ad 34)), (2, .int x2), (3, .int r24)]) [1, 3, 0] rfl ?_
          exact j_X7_wrongSlots_K50 C0 _ σ x2 r24 1 x1 ih
set_option maxRecDepth 100000 in
set_option maxHeartbeats 4000000 in
theorem c_X7_wrongSlots {l : Launch} {D : va_G} {cI cZ : ClassId} {A : Nat → Prop} {ad : Nat → Nat} (σ : SC)   (r : Int32) (h : f_X7_wrongSlots σ = some r) : Met l yX7_wrongSlots (.code yX7_wrongSlots cX7_wrongSlots 4 (some .int) :: wG) (Rm 5) (PreW D (tyA cI cZ) A (wC ad cI) [.ref (ad 34)] σ) (QI D A (wC ad cI) (r, σ)) 0 0 A := by
  refine met_of (M := f_X7_wrongSlots σ) (Qc := (fun r => QI D A (wC ad cI) (r, σ))) (by decide) (Nat.le_of_ble_eq_true rfl) h (fun p e s m below meth c C0 => ?_)
  generalize hargs : ([.ref (ad 34)] : List Value).toArray = args at C0 ⊢
  have C0 : Cx D (tyA cI cZ) RX7 cX7_wrongSlots 4 (some .int) p s m args meth c := C0
  refine J_sub (lv' := [(0, .ref (ad 34))]) [0] rfl ?_
  unfold f_X7_wrongSlots
  refine J_iconst (pc := 0) (v := 0) C0 dX7_wrongSlots_0 (by decide) ?_
  refine J_istore_n (pc := 1) (lv' := [(1, .int 0), (0, .ref (ad 34))]) C0 dX7_wrongSlots_1 rfl (by decide) rfl ?_
  refine J_iconst (pc := 2) (v := 0) C0 dX7_wrongSlots_2 (by decide) ?_
  refine J_istore_n (pc := 3) (lv' := [(2, .int 0), (1, .int 0), (0, .ref (ad 34))]) C0 dX7_wrongSlots_3 rfl (by decide) rfl ?_
  refine J_sub (lv' := [(0, .ref (ad 34)), (1, .int 0), (2, .int 0)]) [2, 1, 0] rfl ?_
  exact j_X7_wrongSlots_L4 C0 σ FU 0 0
end SE

def f_X7_renew (σ : SC)  : Option SC :=
  ((f_X6_read σ).bind fun σ8 => ((f_X3_read σ8).bind fun σ19 => ((f_X1_read σ19).bind fun σ30 => (some σ30))))
section SE
variable {p : Program} {l : Launch} {e : Env} {s : State} {m : MethodId} {args : Array Value} {below : List Frame} {meth : Method} {c : Code} {D : va_G} {cI cZ : ClassId} {A : Nat → Prop} {ad : Nat → Nat}
set_option maxRecDepth 100000 in
set_option maxHeartbeats 4000000 in
theorem c_X7_renew {l : Launch} {D : va_G} {cI cZ : ClassId} {A : Nat → Prop} {ad : Nat → Nat} (σ : SC)   (r : SC) (h : f_X7_renew σ = some r) : Met l yX7_renew (.code yX7_renew cX7_renew 1 none :: wG) (Rm 6) (PreW D (tyA cI cZ) A (wC ad cI) [.ref (ad 34)] σ) (QV D A (wC ad cI) r) 0 0 A := by
  refine met_of (M := f_X7_renew σ) (Qc := (QV D A (wC ad cI))) (by decide) (Nat.le_of_ble_eq_true rfl) h (fun p e s m below meth c C0 => ?_)
  generalize hargs : ([.ref (ad 34)] : List Value).toArray = args at C0 ⊢
  have C0 : Cx D (tyA cI cZ) RX7 cX7_renew 1 none p s m args meth c := C0
  refine J_sub (lv' := [(0, .ref (ad 34))]) [0] rfl ?_
  unfold f_X7_renew
  refine J_aload_n (pc := 0) C0 0 dX7_renew_0 rfl rfl ?_
  refine J_get (pc := 1) (v := .ref (ad 36)) C0 34 wC_o34 rfl in_X7 1 (by decide) q15 rfl dX7_renew_1 ?_
  refine J_aload_n (pc := 4) C0 0 dX7_renew_4 rfl rfl ?_
  refine J_get (pc := 5) (v := .ref (ad 35)) C0 34 wC_o34 rfl in_X7 0 (by decide) q23 rfl dX7_renew_5 ?_
  refine fin_V (fun r_ h_ => run_V (As := [.ref (ad 35)]) (rest := []) (q0 := 36) C0 (c_X6_read σ   r_ h_) v_X6_read q275 wC_o36 rfl rfl ⟨rfl, rfl⟩ (Rm_ok (by decide) (by decide)) rfl (Nat.le_of_ble_eq_true rfl) dX7_renew_8) (fun σ8 e8 => ?_)
  refine J_aload_n (pc := 11) C0 0 dX7_renew_11 rfl rfl ?_
  refine J_get (pc := 12) (v := .ref (ad 37)) C0 34 wC_o34 rfl in_X7 2 (by decide) q186 rfl dX7_renew_12 ?_
  refine J_aload_n (pc := 15) C0 0 dX7_renew_15 rfl rfl ?_
  refine J_get (pc := 16) (v := .ref (ad 35)) C0 34 wC_o34 rfl in_X7 0 (by decide) q23 rfl dX7_renew_16 ?_
  refine fin_V (fun r_ h_ => run_V (As := [.ref (ad 35)]) (rest := []) (q0 := 37) C0 (c_X3_read σ8   r_ h_) v_X3_read q279 wC_o37 rfl rfl ⟨rfl, rfl⟩ (Rm_ok (by decide) (by decide)) rfl (Nat.le_of_ble_eq_true rfl) dX7_renew_19) (fun σ19 e19 => ?_)
  refine J_aload_n (pc := 22) C0 0 dX7_renew_22 rfl rfl ?_
  refine J_get (pc := 23) (v := .ref (ad 38)) C0 34 wC_o34 rfl in_X7 3 (by decide) q98 rfl dX7_renew_23 ?_
  refine J_aload_n (pc := 26) C0 0 dX7_renew_26 rfl rfl ?_
  refine J_get (pc := 27) (v := .ref (ad 35)) C0 34 wC_o34 rfl in_X7 0 (by decide) q23 rfl dX7_renew_27 ?_
  refine fin_V (fun r_ h_ => run_V (As := [.ref (ad 35)]) (rest := []) (q0 := 38) C0 (c_X1_read σ19   r_ h_) v_X1_read q283 wC_o38 rfl rfl ⟨rfl, rfl⟩ (Rm_ok (by decide) (by decide)) rfl (Nat.le_of_ble_eq_true rfl) dX7_renew_30) (fun σ30 e30 => ?_)
  exact J_vret C0 dX7_renew_33
end SE

def f_X7_add (σ : SC) (x1 : Int32) : Option (Int32 × SC) :=
  ((f_X7_lengthOf x1).bind fun r1 => (if r1 = 0 then (some ((-1000000002), σ)) else ((f_X0_numberOf σ x1).bind fun r15 => (if r15 = (-1) then (if (σ 17 0) < (nI 16) then ((f_X4_note σ).bind fun σ48 => ((f_X0_append σ48 x1).bind fun σ56 => ((f_X7_renew σ56).bind fun σ60 => (some (((σ60 17 0) - 1), σ60))))) else (some ((-1000000004), σ))) else (some ((-1000000003), σ))))))
section SE
variable {p : Program} {l : Launch} {e : Env} {s : State} {m : MethodId} {args : Array Value} {below : List Frame} {meth : Method} {c : Code} {D : va_G} {cI cZ : ClassId} {A : Nat → Prop} {ad : Nat → Nat}
set_option maxRecDepth 100000 in
set_option maxHeartbeats 4000000 in
theorem c_X7_add {l : Launch} {D : va_G} {cI cZ : ClassId} {A : Nat → Prop} {ad : Nat → Nat} (σ : SC) (x1 : Int32)  (r : (Int32 × SC)) (h : f_X7_add σ x1 = some r) : Met l yX7_add (.code yX7_add cX7_add 2 (some .int) :: wG) (Rm 7) (PreW D (tyA cI cZ) A (wC ad cI) [.ref (ad 34), .int x1] σ) (QI D A (wC ad cI) r) 0 0 A := by
  refine met_of (M := f_X7_add σ x1) (Qc := (QI D A (wC ad cI))) (by decide) (Nat.le_of_ble_eq_true rfl) h (fun p e s m below meth c C0 => ?_)
  generalize hargs : ([.ref (ad 34), .int x1] : List Value).toArray = args at C0 ⊢
  have C0 : Cx D (tyA cI cZ) RX7 cX7_add 2 (some .int) p s m args meth c := C0
  refine J_sub (lv' := [(0, .ref (ad 34)), (1, .int x1)]) [0, 1] rfl ?_
  unfold f_X7_add
  refine J_iload_n (pc := 0) C0 1 dX7_add_0 rfl rfl ?_
  refine fin_P (fun r_ h_ => run_S (As := [.int x1]) (rest := []) C0 (c_X7_lengthOf σ x1  r_ h_) v_X7_lengthOf q183 rfl ⟨rfl, rfl⟩ (Rm_ok (by decide) (by decide)) rfl (Nat.le_of_ble_eq_true rfl) dX7_add_1) (fun r1 e1 => ?_)
  refine J_if_ne (pc := 4) (tgt := 10) C0 dX7_add_4 (by decide) (fun h_4 => ?_) (fun h_4 => ?_)
  · refine J_aload_n (pc := 10) C0 0 dX7_add_10 rfl rfl ?_
    refine J_get (pc := 11) (v := .ref (ad 35)) C0 34 wC_o34 rfl in_X7 0 (by decide) q23 rfl dX7_add_11 ?_
    refine J_iload_n (pc := 14) C0 1 dX7_add_14 rfl rfl ?_
    refine fin_P (fun r_ h_ => run_V (As := [.int x1]) (rest := []) (q0 := 35) C0 (c_X0_numberOf σ x1  r_ h_) v_X0_numberOf q174 wC_o35 rfl rfl ⟨rfl, rfl⟩ (Rm_ok (by decide) (by decide)) rfl (Nat.le_of_ble_eq_true rfl) dX7_add_15) (fun r15 e15 => ?_)
    refine J_iconst (pc := 18) (v := (-1)) C0 dX7_add_18 (by decide) ?_
    refine J_icmp_eq (pc := 19) (tgt := 25) C0 dX7_add_19 (by decide) (fun h_19 => ?_) (fun h_19 => ?_)
    · refine J_aload_n (pc := 25) C0 0 dX7_add_25 rfl rfl ?_
      refine J_get (pc := 26) (v := .ref (ad 35)) C0 34 wC_o34 rfl in_X7 0 (by decide) q23 rfl dX7_add_26 ?_
      refine J_getN (pc := 29) (v := .int (σ 17 0)) C0 35 wC_o35 rfl in_X0 2 (by decide) q24 rfl dX7_add_29 ?_
      refine J_bipush (pc := 32) (v := (nI 16)) C0 dX7_add_32 (by decide) ?_
      refine J_icmp_lt (pc := 34) (tgt := 40) C0 dX7_add_34 (by decide) (fun h_34 => ?_) (fun h_34 => ?_)
      · refine J_aload_n (pc := 40) C0 0 dX7_add_40 rfl rfl ?_
        refine J_get (pc := 41) (v := .ref (ad 40)) C0 34 wC_o34 rfl in_X7 5 (by decide) q239 rfl dX7_add_41 ?_
        refine J_aload_n (pc := 44) C0 0 dX7_add_44 rfl rfl ?_
        refine J_get (pc := 45) (v := .ref (ad 35)) C0 34 wC_o34 rfl in_X7 0 (by decide) q23 rfl dX7_add_45 ?_
        refine fin_V (fun r_ h_ => run_V (As := [.ref (ad 35)]) (rest := []) (q0 := 40) C0 (c_X4_note σ   r_ h_) v_X4_note q287 wC_o40 rfl rfl ⟨rfl, rfl⟩ (Rm_ok (by decide) (by decide)) rfl (Nat.le_of_ble_eq_true rfl) dX7_add_48) (fun σ48 e48 => ?_)
        refine J_aload_n (pc := 51) C0 0 dX7_add_51 rfl rfl ?_
        refine J_get (pc := 52) (v := .ref (ad 35)) C0 34 wC_o34 rfl in_X7 0 (by decide) q23 rfl dX7_add_52 ?_
        refine J_iload_n (pc := 55) C0 1 dX7_add_55 rfl rfl ?_
        refine fin_V (fun r_ h_ => run_V (As := [.int x1]) (rest := []) (q0 := 35) C0 (c_X0_append σ48 x1  r_ h_) v_X0_append q179 wC_o35 rfl rfl ⟨rfl, rfl⟩ (Rm_ok (by decide) (by decide)) rfl (Nat.le_of_ble_eq_true rfl) dX7_add_56) (fun σ56 e56 => ?_)
        refine J_aload_n (pc := 59) C0 0 dX7_add_59 rfl rfl ?_
        refine fin_V (fun r_ h_ => run_V (As := []) (rest := []) (q0 := 34) C0 (c_X7_renew σ56   r_ h_) v_X7_renew q291 wC_o34 rfl rfl ⟨rfl, rfl⟩ (Rm_ok (by decide) (by decide)) rfl (Nat.le_of_ble_eq_true rfl) dX7_add_60) (fun σ60 e60 => ?_)
        refine J_aload_n (pc := 63) C0 0 dX7_add_63 rfl rfl ?_
        refine J_get (pc := 64) (v := .ref (ad 35)) C0 34 wC_o34 rfl in_X7 0 (by decide) q23 rfl dX7_add_64 ?_
        refine J_getN (pc := 67) (v := .int (σ60 17 0)) C0 35 wC_o35 rfl in_X0 2 (by decide) q24 rfl dX7_add_67 ?_
        refine J_iconst (pc := 70) (v := 1) C0 dX7_add_70 (by decide) ?_
        refine J_isub (pc := 71) C0 dX7_add_71 ?_
        exact J_iret C0 dX7_add_72
      · refine J_ldc (pc := 37) C0 q295 dX7_add_37 ?_
        exact J_iret C0 dX7_add_39
    · refine J_ldc (pc := 22) C0 q296 dX7_add_22 ?_
      exact J_iret C0 dX7_add_24
  · refine J_ldc (pc := 7) C0 q184 dX7_add_7 ?_
    exact J_iret C0 dX7_add_9
end SE

def f_X7_block (σ : SC) (x1 : Int32) : Option (Int32 × SC) :=
  ((f_X7_isCell x1).bind fun r1 => (if r1 = 0 then (some ((-1000000001), σ)) else (if (rd σ 0 x1) = (-1) then (some ((-1000000003), σ)) else ((f_X4_note σ).bind fun σ36 => ((f_X7_renew (wr σ36 0 x1 (-1))).bind fun σ52 => (some ((σ52 17 1), σ52)))))))
section SE
variable {p : Program} {l : Launch} {e : Env} {s : State} {m : MethodId} {args : Array Value} {below : List Frame} {meth : Method} {c : Code} {D : va_G} {cI cZ : ClassId} {A : Nat → Prop} {ad : Nat → Nat}
set_option maxRecDepth 100000 in
set_option maxHeartbeats 4000000 in
theorem c_X7_block {l : Launch} {D : va_G} {cI cZ : ClassId} {A : Nat → Prop} {ad : Nat → Nat} (σ : SC) (x1 : Int32)  (r : (Int32 × SC)) (h : f_X7_block σ x1 = some r) : Met l yX7_block (.code yX7_block cX7_block 2 (some .int) :: wG) (Rm 7) (PreW D (tyA cI cZ) A (wC ad cI) [.ref (ad 34), .int x1] σ) (QI D A (wC ad cI) r) 0 0 A := by
  refine met_of (M := f_X7_block σ x1) (Qc := (QI D A (wC ad cI))) (by decide) (Nat.le_of_ble_eq_true rfl) h (fun p e s m below meth c C0 => ?_)
  generalize hargs : ([.ref (ad 34), .int x1] : List Value).toArray = args at C0 ⊢
  have C0 : Cx D (tyA cI cZ) RX7 cX7_block 2 (some .int) p s m args meth c := C0
  refine J_sub (lv' := [(0, .ref (ad 34)), (1, .int x1)]) [0, 1] rfl ?_
  unfold f_X7_block
  refine J_iload_n (pc := 0) C0 1 dX7_block_0 rfl rfl ?_
  refine fin_P (fun r_ h_ => run_S (As := [.int x1]) (rest := []) C0 (c_X7_isCell σ x1  r_ h_) v_X7_isCell q259 rfl ⟨rfl, rfl⟩ (Rm_ok (by decide) (by decide)) rfl (Nat.le_of_ble_eq_true rfl) dX7_block_1) (fun r1 e1 => ?_)
  refine J_if_ne (pc := 4) (tgt := 10) C0 dX7_block_4 (by decide) (fun h_4 => ?_) (fun h_4 => ?_)
  · refine J_aload_n (pc := 10) C0 0 dX7_block_10 rfl rfl ?_
    refine J_get (pc := 11) (v := .ref (ad 35)) C0 34 wC_o34 rfl in_X7 0 (by decide) q23 rfl dX7_block_11 ?_
    refine J_getN (pc := 14) (v := .ref (ad 0)) C0 35 wC_o35 rfl in_X0 0 (by decide) q206 rfl dX7_block_14 ?_
    refine J_iload_n (pc := 17) C0 1 dX7_block_17 rfl rfl ?_
    refine fin_T (run_V (As := [.int x1]) (rest := []) (q0 := 0) C0 (cT_X5_get σ 0 x1 (by decide)) v_X5_get q100 (wC_row (by decide)) rfl rfl ⟨rfl, rfl⟩ (Rm_ok (by decide) (by decide)) rfl (Nat.le_of_ble_eq_true rfl) dX7_block_18) ?_
    refine J_iconst (pc := 21) (v := (-1)) C0 dX7_block_21 (by decide) ?_
    refine J_icmp_ne (pc := 22) (tgt := 28) C0 dX7_block_22 (by decide) (fun h_22 => ?_) (fun h_22 => ?_)
    · refine J_aload_n (pc := 28) C0 0 dX7_block_28 rfl rfl ?_
      refine J_get (pc := 29) (v := .ref (ad 40)) C0 34 wC_o34 rfl in_X7 5 (by decide) q239 rfl dX7_block_29 ?_
      refine J_aload_n (pc := 32) C0 0 dX7_block_32 rfl rfl ?_
      refine J_get (pc := 33) (v := .ref (ad 35)) C0 34 wC_o34 rfl in_X7 0 (by decide) q23 rfl dX7_block_33 ?_
      refine fin_V (fun r_ h_ => run_V (As := [.ref (ad 35)]) (rest := []) (q0 := 40) C0 (c_X4_note σ   r_ h_) v_X4_note q287 wC_o40 rfl rfl ⟨rfl, rfl⟩ (Rm_ok (by decide) (by decide)) rfl (Nat.le_of_ble_eq_true rfl) dX7_block_36) (fun σ36 e36 => ?_)
      refine J_aload_n (pc := 39) C0 0 dX7_block_39 rfl rfl ?_
      refine J_get (pc := 40) (v := .ref (ad 35)) C0 34 wC_o34 rfl in_X7 0 (by decide) q23 rfl dX7_block_40 ?_
      refine J_getN (pc := 43) (v := .ref (ad 0)) C0 35 wC_o35 rfl in_X0 0 (by decide) q206 rfl dX7_block_43 ?_
      refine J_iload_n (pc := 46) C0 1 dX7_block_46 rfl rfl ?_
      refine J_iconst (pc := 47) (v := (-1)) C0 dX7_block_47 (by decide) ?_
      refine fin_TV (run_V (As := [.int x1, .int (-1)]) (rest := []) (q0 := 0) C0 (cT_X5_set σ36 0 x1 (-1) (by decide)) v_X5_set q207 (wC_row (by decide)) rfl rfl ⟨rfl, rfl⟩ (Rm_ok (by decide) (by decide)) rfl (Nat.le_of_ble_eq_true rfl) dX7_block_48) ?_
      refine J_aload_n (pc := 51) C0 0 dX7_block_51 rfl rfl ?_
      refine fin_V (fun r_ h_ => run_V (As := []) (rest := []) (q0 := 34) C0 (c_X7_renew (wr σ36 0 x1 (-1))   r_ h_) v_X7_renew q291 wC_o34 rfl rfl ⟨rfl, rfl⟩ (Rm_ok (by decide) (by decide)) rfl (Nat.le_of_ble_eq_true rfl) dX7_block_52) (fun σ52 e52 => ?_)
      refine J_aload_n (pc := 55) C0 0 dX7_block_55 rfl rfl ?_
      refine J_get (pc := 56) (v := .ref (ad 36)) C0 34 wC_o34 rfl in_X7 1 (by decide) q15 rfl dX7_block_56 ?_
      refine J_getN (pc := 59) (v := .int (σ52 17 1)) C0 36 wC_o36 rfl in_X6 6 (by decide) q22 rfl dX7_block_59 ?_
      exact J_iret C0 dX7_block_62
    · refine J_ldc (pc := 25) C0 q296 dX7_block_25 ?_
      exact J_iret C0 dX7_block_27
  · refine J_ldc (pc := 7) C0 q192 dX7_block_7 ?_
    exact J_iret C0 dX7_block_9
end SE

def f_X7_drift (σ : SC) (x1 : Int32) (x2 : Int32) : Option (Int32 × SC) :=
  (if x1 < 1 then (some ((-1000000002), σ)) else (if (nI 16) < x1 then (some ((-1000000002), σ)) else (if x2 < 1 then (some ((-1000000002), σ)) else (if x2 ≤ 999999 then ((f_X4_note σ).bind fun σ33 => (bnd (f_X7_appendByLots σ33 x1 x2) fun r39 σ39 => ((f_X7_renew σ39).bind fun σ44 => (some (r39, σ44))))) else (some ((-1000000002), σ))))))
section SE
variable {p : Program} {l : Launch} {e : Env} {s : State} {m : MethodId} {args : Array Value} {below : List Frame} {meth : Method} {c : Code} {D : va_G} {cI cZ : ClassId} {A : Nat → Prop} {ad : Nat → Nat}
set_option maxRecDepth 100000 in
set_option maxHeartbeats 4000000 in
theorem c_X7_drift {l : Launch} {D : va_G} {cI cZ : ClassId} {A : Nat → Prop} {ad : Nat → Nat} (σ : SC) (x1 : Int32) (x2 : Int32)  (r : (Int32 × SC)) (h : f_X7_drift σ x1 x2 = some r) : Met l yX7_drift (.code yX7_drift cX7_drift 4 (some .int) :: wG) (Rm 7) (PreW D (tyA cI cZ) A (wC ad cI) [.ref (ad 34), .int x1, .int x2] σ) (QI D A (wC ad cI) r) 0 0 A := by
  refine met_of (M := f_X7_drift σ x1 x2) (Qc := (QI D A (wC ad cI))) (by decide) (Nat.le_of_ble_eq_true rfl) h (fun p e s m below meth c C0 => ?_)
  generalize hargs : ([.ref (ad 34), .int x1, .int x2] : List Value).toArray = args at C0 ⊢
  have C0 : Cx D (tyA cI cZ) RX7 cX7_drift 4 (some .int) p s m args meth c := C0
  refine J_sub (lv' := [(0, .ref (ad 34)), (1, .int x1), (2, .int x2)]) [0, 1, 2] rfl ?_
  unfold f_X7_drift
  refine J_iload_n (pc := 0) C0 1 dX7_drift_0 rfl rfl ?_
  refine J_iconst (pc := 1) (v := 1) C0 dX7_drift_1 (by decide) ?_
  refine J_icmp_lt (pc := 2) (tgt := 22) C0 dX7_drift_2 (by decide) (fun h_2 => ?_) (fun h_2 => ?_)
  · refine J_ldc (pc := 22) C0 q184 dX7_drift_22 ?_
    exact J_iret C0 dX7_drift_24
  · refine J_iload_n (pc := 5) C0 1 dX7_drift_5 rfl rfl ?_
    refine J_bipush (pc := 6) (v := (nI 16)) C0 dX7_drift_6 (by decide) ?_
    refine J_icmp_gt (pc := 8) (tgt := 22) C0 dX7_drift_8 (by decide) (fun h_8 => ?_) (fun h_8 => ?_)
    · refine J_ldc (pc := 22) C0 q184 dX7_drift_22 ?_
      exact J_iret C0 dX7_drift_24
    · refine J_iload_n (pc := 11) C0 2 dX7_drift_11 rfl rfl ?_
      refine J_iconst (pc := 12) (v := 1) C0 dX7_drift_12 (by decide) ?_
      refine J_icmp_lt (pc := 13) (tgt := 22) C0 dX7_drift_13 (by decide) (fun h_13 => ?_) (fun h_13 => ?_)
      · refine J_ldc (pc := 22) C0 q184 dX7_drift_22 ?_
        exact J_iret C0 dX7_drift_24
      · refine J_iload_n (pc := 16) C0 2 dX7_drift_16 rfl rfl ?_
        refine J_ldc (pc := 17) C0 q297 dX7_drift_17 ?_
        refine J_icmp_le (pc := 19) (tgt := 25) C0 dX7_drift_19 (by decide) (fun h_19 => ?_) (fun h_19 => ?_)
        · refine J_aload_n (pc := 25) C0 0 dX7_drift_25 rfl rfl ?_
          refine J_get (pc := 26) (v := .ref (ad 40)) C0 34 wC_o34 rfl in_X7 5 (by decide) q239 rfl dX7_drift_26 ?_
          refine J_aload_n (pc := 29) C0 0 dX7_drift_29 rfl rfl ?_
          refine J_get (pc := 30) (v := .ref (ad 35)) C0 34 wC_o34 rfl in_X7 0 (by decide) q23 rfl dX7_drift_30 ?_
          refine fin_V (fun r_ h_ => run_V (As := [.ref (ad 35)]) (rest := []) (q0 := 40) C0 (c_X4_note σ   r_ h_) v_X4_note q287 wC_o40 rfl rfl ⟨rfl, rfl⟩ (Rm_ok (by decide) (by decide)) rfl (Nat.le_of_ble_eq_true rfl) dX7_drift_33) (fun σ33 e33 => ?_)
          refine J_aload_n (pc := 36) C0 0 dX7_drift_36 rfl rfl ?_
          refine J_iload_n (pc := 37) C0 1 dX7_drift_37 rfl rfl ?_
          refine J_iload_n (pc := 38) C0 2 dX7_drift_38 rfl rfl ?_
          refine fin_I (fun r_ h_ => run_V (As := [.int x1, .int x2]) (rest := []) (q0 := 34) C0 (c_X7_appendByLots σ33 x1 x2  r_ h_) v_X7_appendByLots q298 wC_o34 rfl rfl ⟨rfl, rfl⟩ (Rm_ok (by decide) (by decide)) rfl (Nat.le_of_ble_eq_true rfl) dX7_drift_39) (fun r39 σ39 e39 => ?_)
          refine J_istore_n (pc := 42) (lv' := [(3, .int r39), (0, .ref (ad 34)), (1, .int x1), (2, .int x2)]) C0 dX7_drift_42 rfl (by decide) rfl ?_
          refine J_aload_n (pc := 43) C0 1 dX7_drift_43 rfl rfl ?_
          refine fin_V (fun r_ h_ => run_V (As := []) (rest := []) (q0 := 34) C0 (c_X7_renew σ39   r_ h_) v_X7_renew q291 wC_o34 rfl rfl ⟨rfl, rfl⟩ (Rm_ok (by decide) (by decide)) rfl (Nat.le_of_ble_eq_true rfl) dX7_drift_44) (fun σ44 e44 => ?_)
          refine J_iload_n (pc := 47) C0 0 dX7_drift_47 rfl rfl ?_
          exact J_iret C0 dX7_drift_48
        · refine J_ldc (pc := 22) C0 q184 dX7_drift_22 ?_
          exact J_iret C0 dX7_drift_24
end SE

def f_X7_goBack (σ : SC) (x1 : Int32) : Option (Int32 × SC) :=
  ((f_X7_isImage x1).bind fun r1 => (if r1 = 0 then (some ((-1000000001), σ)) else (if (cn (σ 17 7) x1) = 0 then (some ((-1000000003), σ)) else ((f_X4_bringImage σ x1).bind fun σ36 => ((f_X7_renew σ36).bind fun σ40 => (some ((σ40 17 0), σ40)))))))
section SE
variable {p : Program} {l : Launch} {e : Env} {s : State} {m : MethodId} {args : Array Value} {below : List Frame} {meth : Method} {c : Code} {D : va_G} {cI cZ : ClassId} {A : Nat → Prop} {ad : Nat → Nat}
set_option maxRecDepth 100000 in
set_option maxHeartbeats 4000000 in
theorem c_X7_goBack {l : Launch} {D : va_G} {cI cZ : ClassId} {A : Nat → Prop} {ad : Nat → Nat} (σ : SC) (x1 : Int32)  (r : (Int32 × SC)) (h : f_X7_goBack σ x1 = some r) : Met l yX7_goBack (.code yX7_goBack cX7_goBack 2 (some .int) :: wG) (Rm 7) (PreW D (tyA cI cZ) A (wC ad cI) [.ref (ad 34), .int x1] σ) (QI D A (wC ad cI) r) 0 0 A := by
  refine met_of (M := f_X7_goBack σ x1) (Qc := (QI D A (wC ad cI))) (by decide) (Nat.le_of_ble_eq_true rfl) h (fun p e s m below meth c C0 => ?_)
  generalize hargs : ([.ref (ad 34), .int x1] : List Value).toArray = args at C0 ⊢
  have C0 : Cx D (tyA cI cZ) RX7 cX7_goBack 2 (some .int) p s m args meth c := C0
  refine J_sub (lv' := [(0, .ref (ad 34)), (1, .int x1)]) [0, 1] rfl ?_
  unfold f_X7_goBack
  refine J_iload_n (pc := 0) C0 1 dX7_goBack_0 rfl rfl ?_
  refine fin_P (fun r_ h_ => run_S (As := [.int x1]) (rest := []) C0 (c_X7_isImage σ x1  r_ h_) v_X7_isImage q236 rfl ⟨rfl, rfl⟩ (Rm_ok (by decide) (by decide)) rfl (Nat.le_of_ble_eq_true rfl) dX7_goBack_1) (fun r1 e1 => ?_)
  refine J_if_ne (pc := 4) (tgt := 10) C0 dX7_goBack_4 (by decide) (fun h_4 => ?_) (fun h_4 => ?_)
  · refine J_aload_n (pc := 10) C0 0 dX7_goBack_10 rfl rfl ?_
    refine J_get (pc := 11) (v := .ref (ad 40)) C0 34 wC_o34 rfl in_X7 5 (by decide) q239 rfl dX7_goBack_11 ?_
    refine J_getN (pc := 14) (v := .int (σ 17 7)) C0 40 wC_o40 rfl in_X4 3 (by decide) q302 rfl dX7_goBack_14 ?_
    refine J_iload_n (pc := 17) C0 1 dX7_goBack_17 rfl rfl ?_
    refine fin_T (run_S (As := [.int (σ 17 7), .int x1]) (rest := []) C0 (cT_X7_contains σ (σ 17 7) x1 ) v_X7_contains q197 rfl ⟨rfl, rfl⟩ (Rm_ok (by decide) (by decide)) rfl (Nat.le_of_ble_eq_true rfl) dX7_goBack_18) ?_
    refine J_if_ne (pc := 21) (tgt := 27) C0 dX7_goBack_21 (by decide) (fun h_21 => ?_) (fun h_21 => ?_)
    · refine J_aload_n (pc := 27) C0 0 dX7_goBack_27 rfl rfl ?_
      refine J_get (pc := 28) (v := .ref (ad 40)) C0 34 wC_o34 rfl in_X7 5 (by decide) q239 rfl dX7_goBack_28 ?_
      refine J_iload_n (pc := 31) C0 1 dX7_goBack_31 rfl rfl ?_
      refine J_aload_n (pc := 32) C0 0 dX7_goBack_32 rfl rfl ?_
      refine J_get (pc := 33) (v := .ref (ad 35)) C0 34 wC_o34 rfl in_X7 0 (by decide) q23 rfl dX7_goBack_33 ?_
      refine fin_V (fun r_ h_ => run_V (As := [.int x1, .ref (ad 35)]) (rest := []) (q0 := 40) C0 (c_X4_bringImage σ x1  r_ h_) v_X4_bringImage q303 wC_o40 rfl rfl ⟨rfl, rfl⟩ (Rm_ok (by decide) (by decide)) rfl (Nat.le_of_ble_eq_true rfl) dX7_goBack_36) (fun σ36 e36 => ?_)
      refine J_aload_n (pc := 39) C0 0 dX7_goBack_39 rfl rfl ?_
      refine fin_V (fun r_ h_ => run_V (As := []) (rest := []) (q0 := 34) C0 (c_X7_renew σ36   r_ h_) v_X7_renew q291 wC_o34 rfl rfl ⟨rfl, rfl⟩ (Rm_ok (by decide) (by decide)) rfl (Nat.le_of_ble_eq_true rfl) dX7_goBack_40) (fun σ40 e40 => ?_)
      refine J_aload_n (pc := 43) C0 0 dX7_goBack_43 rfl rfl ?_
      refine J_get (pc := 44) (v := .ref (ad 35)) C0 34 wC_o34 rfl in_X7 0 (by decide) q23 rfl dX7_goBack_44 ?_
      refine J_getN (pc := 47) (v := .int (σ40 17 0)) C0 35 wC_o35 rfl in_X0 2 (by decide) q24 rfl dX7_goBack_47 ?_
      exact J_iret C0 dX7_goBack_50
    · refine J_ldc (pc := 24) C0 q296 dX7_goBack_24 ?_
      exact J_iret C0 dX7_goBack_26
  · refine J_ldc (pc := 7) C0 q192 dX7_goBack_7 ?_
    exact J_iret C0 dX7_goBack_9
end SE

def f_X7_letter_K35 (σ : SC) (x1 : Int32) (y0 : Int32) : Option (Int32 × SC) :=
  (if (rd σ 0 x1) = (-1) then (some ((-1000000003), σ)) else (if (rd σ 0 x1) = y0 then (some ((-1000000003), σ)) else ((f_X4_note σ).bind fun σ72 => ((f_X7_renew (wr σ72 0 x1 y0)).bind fun σ88 => (if (rd σ 0 x1) = 0 then (some ((-1), σ88)) else (some ((rd σ 0 x1), σ88)))))))
def f_X7_letter_K25 (σ : SC) (x1 : Int32) (x2 : Int32) : Option (Int32 × SC) :=
  (if x2 = (-1) then (f_X7_letter_K35 σ x1 0) else (f_X7_letter_K35 σ x1 x2))
def f_X7_letter (σ : SC) (x1 : Int32) (x2 : Int32) : Option (Int32 × SC) :=
  ((f_X7_isCell x1).bind fun r1 => (if r1 = 0 then (some ((-1000000001), σ)) else (if x2 = (-1) then (f_X7_letter_K25 σ x1 x2) else ((f_X7_isLetter x2).bind fun r16 => (if r16 = 0 then (some ((-1000000002), σ)) else (f_X7_letter_K25 σ x1 x2))))))
section SE
variable {p : Program} {l : Launch} {e : Env} {s : State} {m : MethodId} {args : Array Value} {below : List Frame} {meth : Method} {c : Code} {D : va_G} {cI cZ : ClassId} {A : Nat → Prop} {ad : Nat → Nat}
set_option maxRecDepth 100000 in
set_option maxHeartbeats 4000000 in
theorem j_X7_letter_K35 (C0 : Cx D (tyA cI cZ) RX7 cX7_letter 5 (some .int) p s m args meth c) (σ : SC) (x1 : Int32) (y0 : Int32) : J p l e (Rm 7) s m args below meth c D A (wC ad cI) 5 (QI D A (wC ad cI)) (f_X7_letter_K35 σ x1 y0) σ [(0, .ref (ad 34)), (1, .int x1)] [.int y0] 35 := by
  unfold f_X7_letter_K35
  refine J_istore_n (pc := 35) (lv' := [(3, .int y0), (0, .ref (ad 34)), (1, .int x1)]) C0 dX7_letter_35 rfl (by decide) rfl ?_
  refine J_aload_n (pc := 36) C0 1 dX7_letter_36 rfl rfl ?_
  refine J_get (pc := 37) (v := .ref (ad 35)) C0 34 wC_o34 rfl in_X7 0 (by decide) q23 rfl dX7_letter_37 ?_
  refine J_getN (pc := 40) (v := .ref (ad 0)) C0 35 wC_o35 rfl in_X0 0 (by decide) q206 rfl dX7_letter_40 ?_
  refine J_iload_n (pc := 43) C0 2 dX7_letter_43 rfl rfl ?_
  refine fin_T (run_V (As := [.int x1]) (rest := []) (q0 := 0) C0 (cT_X5_get σ 0 x1 (by decide)) v_X5_get q100 (wC_row (by decide)) rfl rfl ⟨rfl, rfl⟩ (Rm_ok (by decide) (by decide)) rfl (Nat.le_of_ble_eq_true rfl) dX7_letter_44) ?_
  refine J_istore (pc := 47) (lv' := [(4, .int (rd σ 0 x1)), (3, .int y0), (0, .ref (ad 34)), (1, .int x1)]) C0 dX7_letter_47 (by decide) rfl ?_
  refine J_iload (pc := 49) C0 0 dX7_letter_49 rfl ?_
  refine J_iconst (pc := 51) (v := (-1)) C0 dX7_letter_51 (by decide) ?_
  refine J_icmp_eq (pc := 52) (tgt := 61) C0 dX7_letter_52 (by decide) (fun h_52 => ?_) (fun h_52 => ?_)
  · refine J_ldc (pc := 61) C0 q296 dX7_letter_61 ?_
    exact J_iret C0 dX7_letter_63
  · refine J_iload (pc := 55) C0 0 dX7_letter_55 rfl ?_
    refine J_iload_n (pc := 57) C0 1 dX7_letter_57 rfl rfl ?_
    refine J_icmp_ne (pc := 58) (tgt := 64) C0 dX7_letter_58 (by decide) (fun h_58 => ?_) (fun h_58 => ?_)
    · refine J_aload_n (pc := 64) C0 2 dX7_letter_64 rfl rfl ?_
      refine J_get (pc := 65) (v := .ref (ad 40)) C0 34 wC_o34 rfl in_X7 5 (by decide) q239 rfl dX7_letter_65 ?_
      refine J_aload_n (pc := 68) C0 2 dX7_letter_68 rfl rfl ?_
      refine J_get (pc := 69) (v := .ref (ad 35)) C0 34 wC_o34 rfl in_X7 0 (by decide) q23 rfl dX7_letter_69 ?_
      refine fin_V (fun r_ h_ => run_V (As := [.ref (ad 35)]) (rest := []) (q0 := 40) C0 (c_X4_note σ   r_ h_) v_X4_note q287 wC_o40 rfl rfl ⟨rfl, rfl⟩ (Rm_ok (by decide) (by decide)) rfl (Nat.le_of_ble_eq_true rfl) dX7_letter_72) (fun σ72 e72 => ?_)
      refine J_aload_n (pc := 75) C0 2 dX7_letter_75 rfl rfl ?_
      refine J_get (pc := 76) (v := .ref (ad 35)) C0 34 wC_o34 rfl in_X7 0 (by decide) q23 rfl dX7_letter_76 ?_
      refine J_getN (pc := 79) (v := .ref (ad 0)) C0 35 wC_o35 rfl in_X0 0 (by decide) q206 rfl dX7_letter_79 ?_
      refine J_iload_n (pc := 82) C0 3 dX7_letter_82 rfl rfl ?_
      refine J_iload_n (pc := 83) C0 1 dX7_letter_83 rfl rfl ?_
      refine fin_TV (run_V (As := [.int x1, .int y0]) (rest := []) (q0 := 0) C0 (cT_X5_set σ72 0 x1 y0 (by decide)) v_X5_set q207 (wC_row (by decide)) rfl rfl ⟨rfl, rfl⟩ (Rm_ok (by decide) (by decide)) rfl (Nat.le_of_ble_eq_true rfl) dX7_letter_84) ?_
      refine J_aload_n (pc := 87) C0 2 dX7_letter_87 rfl rfl ?_
      refine fin_V (fun r_ h_ => run_V (As := []) (rest := []) (q0 := 34) C0 (c_X7_renew (wr σ72 0 x1 y0)   r_ h_) v_X7_renew q291 wC_o34 rfl rfl ⟨rfl, rfl⟩ (Rm_ok (by decide) (by decide)) rfl (Nat.le_of_ble_eq_true rfl) dX7_letter_88) (fun σ88 e88 => ?_)
      refine J_iload (pc := 91) C0 0 dX7_letter_91 rfl ?_
      refine J_if_ne (pc := 93) (tgt := 100) C0 dX7_letter_93 (by decide) (fun h_93 => ?_) (fun h_93 => ?_)
      · refine J_iload (pc := 100) C0 0 dX7_letter_100 rfl ?_
        exact J_iret C0 dX7_letter_102
      · refine J_iconst (pc := 96) (v := (-1)) C0 dX7_letter_96 (by decide) ?_
        refine J_goto (pc := 97) (tgt := 102) C0 dX7_letter_97 (by decide) ?_
        exact J_iret C0 dX7_letter_102
    · refine J_ldc (pc := 61) C0 q296 dX7_letter_61 ?_
      exact J_iret C0 dX7_letter_63
set_option maxRecDepth 100000 in
set_option maxHeartbeats 4000000 in
theorem j_X7_letter_K25 (C0 : Cx D (tyA cI cZ) RX7 cX7_letter 5 (some .int) p s m args meth c) (σ : SC) (x1 : Int32) (x2 : Int32) : J p l e (Rm 7) s m args below meth c D A (wC ad cI) 5 (QI D A (wC ad cI)) (f_X7_letter_K25 σ x1 x2) σ [(0, .ref (ad 34)), (1, .int x1), (2, .int x2)] [] 25 := by
  unfold f_X7_letter_K25
  refine J_iload_n (pc := 25) C0 2 dX7_letter_25 rfl rfl ?_
  refine J_iconst (pc := 26) (v := (-1)) C0 dX7_letter_26 (by decide) ?_
  refine J_icmp_ne (pc := 27) (tgt := 34) C0 dX7_letter_27 (by decide) (fun h_27 => ?_) (fun h_27 => ?_)
  · refine J_iload_n (pc := 34) C0 2 dX7_letter_34 rfl rfl ?_
    refine J_sub (lv' := [(0, .ref (ad 34)), (1, .int x1)]) [0, 1] rfl ?_
    exact j_X7_letter_K35 C0 σ x1 x2
  · refine J_iconst (pc := 30) (v := 0) C0 dX7_letter_30 (by decide) ?_
    refine J_goto (pc := 31) (tgt := 35) C0 dX7_letter_31 (by decide) ?_
    refine J_sub (lv' := [(0, .ref (ad 34)), (1, .int x1)]) [0, 1] rfl ?_
    exact j_X7_letter_K35 C0 σ x1 0
set_option maxRecDepth 100000 in
set_option maxHeartbeats 4000000 in
theorem c_X7_letter {l : Launch} {D : va_G} {cI cZ : ClassId} {A : Nat → Prop} {ad : Nat → Nat} (σ : SC) (x1 : Int32) (x2 : Int32)  (r : (Int32 × SC)) (h : f_X7_letter σ x1 x2 = some r) : Met l yX7_letter (.code yX7_letter cX7_letter 5 (some .int) :: wG) (Rm 7) (PreW D (tyA cI cZ) A (wC ad cI) [.ref (ad 34), .int x1, .int x2] σ) (QI D A (wC ad cI) r) 0 0 A := by
  refine met_of (M := f_X7_letter σ x1 x2) (Qc := (QI D A (wC ad cI))) (by decide) (Nat.le_of_ble_eq_true rfl) h (fun p e s m below meth c C0 => ?_)
  generalize hargs : ([.ref (ad 34), .int x1, .int x2] : List Value).toArray = args at C0 ⊢
  have C0 : Cx D (tyA cI cZ) RX7 cX7_letter 5 (some .int) p s m args meth c := C0
  refine J_sub (lv' := [(0, .ref (ad 34)), (1, .int x1), (2, .int x2)]) [0, 1, 2] rfl ?_
  unfold f_X7_letter
  refine J_iload_n (pc := 0) C0 1 dX7_letter_0 rfl rfl ?_
  refine fin_P (fun r_ h_ => run_S (As := [.int x1]) (rest := []) C0 (c_X7_isCell σ x1  r_ h_) v_X7_isCell q259 rfl ⟨rfl, rfl⟩ (Rm_ok (by decide) (by decide)) rfl (Nat.le_of_ble_eq_true rfl) dX7_letter_1) (fun r1 e1 => ?_)
  refine J_if_ne (pc := 4) (tgt := 10) C0 dX7_letter_4 (by decide) (fun h_4 => ?_) (fun h_4 => ?_)
  · refine J_iload_n (pc := 10) C0 2 dX7_letter_10 rfl rfl ?_
    refine J_iconst (pc := 11) (v := (-1)) C0 dX7_letter_11 (by decide) ?_
    refine J_icmp_eq (pc := 12) (tgt := 25) C0 dX7_letter_12 (by decide) (fun h_12 => ?_) (fun h_12 => ?_)
    · refine J_sub (lv' := [(0, .ref (ad 34)), (1, .int x1), (2, .int x2)]) [0, 1, 2] rfl ?_
      exact j_X7_letter_K25 C0 σ x1 x2
    · refine J_iload_n (pc := 15) C0 2 dX7_letter_15 rfl rfl ?_
      refine fin_P (fun r_ h_ => run_S (As := [.int x2]) (rest := []) C0 (c_X7_isLetter σ x2  r_ h_) v_X7_isLetter q307 rfl ⟨rfl, rfl⟩ (Rm_ok (by decide) (by decide)) rfl (Nat.le_of_ble_eq_true rfl) dX7_letter_16) (fun r16 e16 => ?_)
      refine J_if_ne (pc := 19) (tgt := 25) C0 dX7_letter_19 (by decide) (fun h_19 => ?_) (fun h_19 => ?_)
      · refine J_sub (lv' := [(0, .ref (ad 34)), (1, .int x1), (2, .int x2)]) [0, 1, 2] rfl ?_
        exact j_X7_letter_K25 C0 σ x1 x2
      · refine J_ldc (pc := 22) C0 q184 dX7_letter_22 ?_
        exact J_iret C0 dX7_letter_24
  · refine J_ldc (pc := 7) C0 q192 dX7_letter_7 ?_
    exact J_iret C0 dX7_letter_9
end SE

def f_X7_open (σ : SC) (x1 : Int32) : Option (Int32 × SC) :=
  ((f_X7_isCell x1).bind fun r1 => (if r1 = 0 then (some ((-1000000001), σ)) else (if (rd σ 0 x1) = (-1) then ((f_X4_note σ).bind fun σ36 => ((f_X7_renew (wr σ36 0 x1 0)).bind fun σ52 => (some ((σ52 17 1), σ52)))) else (some ((-1000000003), σ)))))
section SE
variable {p : Program} {l : Launch} {e : Env} {s : State} {m : MethodId} {args : Array Value} {below : List Frame} {meth : Method} {c : Code} {D : va_G} {cI cZ : ClassId} {A : Nat → Prop} {ad : Nat → Nat}
set_option maxRecDepth 100000 in
set_option maxHeartbeats 4000000 in
theorem c_X7_open {l : Launch} {D : va_G} {cI cZ : ClassId} {A : Nat → Prop} {ad : Nat → Nat} (σ : SC) (x1 : Int32)  (r : (Int32 × SC)) (h : f_X7_open σ x1 = some r) : Met l yX7_open (.code yX7_open cX7_open 2 (some .int) :: wG) (Rm 7) (PreW D (tyA cI cZ) A (wC ad cI) [.ref (ad 34), .int x1] σ) (QI D A (wC ad cI) r) 0 0 A := by
  refine met_of (M := f_X7_open σ x1) (Qc := (QI D A (wC ad cI))) (by decide) (Nat.le_of_ble_eq_true rfl) h (fun p e s m below meth c C0 => ?_)
  generalize hargs : ([.ref (ad 34), .int x1] : List Value).toArray = args at C0 ⊢
  have C0 : Cx D (tyA cI cZ) RX7 cX7_open 2 (some .int) p s m args meth c := C0
  refine J_sub (lv' := [(0, .ref (ad 34)), (1, .int x1)]) [0, 1] rfl ?_
  unfold f_X7_open
  refine J_iload_n (pc := 0) C0 1 dX7_open_0 rfl rfl ?_
  refine fin_P (fun r_ h_ => run_S (As := [.int x1]) (rest := []) C0 (c_X7_isCell σ x1  r_ h_) v_X7_isCell q259 rfl ⟨rfl, rfl⟩ (Rm_ok (by decide) (by decide)) rfl (Nat.le_of_ble_eq_true rfl) dX7_open_1) (fun r1 e1 => ?_)
  refine J_if_ne (pc := 4) (tgt := 10) C0 dX7_open_4 (by decide) (fun h_4 => ?_) (fun h_4 => ?_)
  · refine J_aload_n (pc := 10) C0 0 dX7_open_10 rfl rfl ?_
    refine J_get (pc := 11) (v := .ref (ad 35)) C0 34 wC_o34 rfl in_X7 0 (by decide) q23 rfl dX7_open_11 ?_
    refine J_getN (pc := 14) (v := .ref (ad 0)) C0 35 wC_o35 rfl in_X0 0 (by decide) q206 rfl dX7_open_14 ?_
    refine J_iload_n (pc := 17) C0 1 dX7_open_17 rfl rfl ?_
    refine fin_T (run_V (As := [.int x1]) (rest := []) (q0 := 0) C0 (cT_X5_get σ 0 x1 (by decide)) v_X5_get q100 (wC_row (by decide)) rfl rfl ⟨rfl, rfl⟩ (Rm_ok (by decide) (by decide)) rfl (Nat.le_of_ble_eq_true rfl) dX7_open_18) ?_
    refine J_iconst (pc := 21) (v := (-1)) C0 dX7_open_21 (by decide) ?_
    refine J_icmp_eq (pc := 22) (tgt := 28) C0 dX7_open_22 (by decide) (fun h_22 => ?_) (fun h_22 => ?_)
    · refine J_aload_n (pc := 28) C0 0 dX7_open_28 rfl rfl ?_
      refine J_get (pc := 29) (v := .ref (ad 40)) C0 34 wC_o34 rfl in_X7 5 (by decide) q239 rfl dX7_open_29 ?_
      refine J_aload_n (pc := 32) C0 0 dX7_open_32 rfl rfl ?_
      refine J_get (pc := 33) (v := .ref (ad 35)) C0 34 wC_o34 rfl in_X7 0 (by decide) q23 rfl dX7_open_33 ?_
      refine fin_V (fun r_ h_ => run_V (As := [.ref (ad 35)]) (rest := []) (q0 := 40) C0 (c_X4_note σ   r_ h_) v_X4_note q287 wC_o40 rfl rfl ⟨rfl, rfl⟩ (Rm_ok (by decide) (by decide)) rfl (Nat.le_of_ble_eq_true rfl) dX7_open_36) (fun σ36 e36 => ?_)
      refine J_aload_n (pc := 39) C0 0 dX7_open_39 rfl rfl ?_
      refine J_get (pc := 40) (v := .ref (ad 35)) C0 34 wC_o34 rfl in_X7 0 (by decide) q23 rfl dX7_open_40 ?_
      refine J_getN (pc := 43) (v := .ref (ad 0)) C0 35 wC_o35 rfl in_X0 0 (by decide) q206 rfl dX7_open_43 ?_
      refine J_iload_n (pc := 46) C0 1 dX7_open_46 rfl rfl ?_
      refine J_iconst (pc := 47) (v := 0) C0 dX7_open_47 (by decide) ?_
      refine fin_TV (run_V (As := [.int x1, .int 0]) (rest := []) (q0 := 0) C0 (cT_X5_set σ36 0 x1 0 (by decide)) v_X5_set q207 (wC_row (by decide)) rfl rfl ⟨rfl, rfl⟩ (Rm_ok (by decide) (by decide)) rfl (Nat.le_of_ble_eq_true rfl) dX7_open_48) ?_
      refine J_aload_n (pc := 51) C0 0 dX7_open_51 rfl rfl ?_
      refine fin_V (fun r_ h_ => run_V (As := []) (rest := []) (q0 := 34) C0 (c_X7_renew (wr σ36 0 x1 0)   r_ h_) v_X7_renew q291 wC_o34 rfl rfl ⟨rfl, rfl⟩ (Rm_ok (by decide) (by decide)) rfl (Nat.le_of_ble_eq_true rfl) dX7_open_52) (fun σ52 e52 => ?_)
      refine J_aload_n (pc := 55) C0 0 dX7_open_55 rfl rfl ?_
      refine J_get (pc := 56) (v := .ref (ad 36)) C0 34 wC_o34 rfl in_X7 1 (by decide) q15 rfl dX7_open_56 ?_
      refine J_getN (pc := 59) (v := .int (σ52 17 1)) C0 36 wC_o36 rfl in_X6 6 (by decide) q22 rfl dX7_open_59 ?_
      exact J_iret C0 dX7_open_62
    · refine J_ldc (pc := 25) C0 q296 dX7_open_25 ?_
      exact J_iret C0 dX7_open_27
  · refine J_ldc (pc := 7) C0 q192 dX7_open_7 ?_
    exact J_iret C0 dX7_open_9
end SE

def f_X7_put (σ : SC) (x1 : Int32) (x2 : Int32) : Option (Int32 × SC) :=
  ((f_X7_isSlot σ x1).bind fun r2 => (if r2 = 0 then (some ((-1000000001), σ)) else ((f_X7_isWord σ x2).bind fun r10 => (if r10 = 0 then (some ((-1000000001), σ)) else (if (cn (rd σ 8 (rd σ 3 x1)) x2) = 0 then (some ((-1000000003), σ)) else ((f_X4_note σ).bind fun σ58 => (bnd (f_X7_writeWord σ58 x1 x2) fun r64 σ64 => ((f_X7_renew σ64).bind fun σ69 => (some (r64, σ69))))))))))
section SE
variable {p : Program} {l : Launch} {e : Env} {s : State} {m : MethodId} {args : Array Value} {below : List Frame} {meth : Method} {c : Code} {D : va_G} {cI cZ : ClassId} {A : Nat → Prop} {ad : Nat → Nat}
set_option maxRecDepth 100000 in
set_option maxHeartbeats 4000000 in
theorem c_X7_put {l : Launch} {D : va_G} {cI cZ : ClassId} {A : Nat → Prop} {ad : Nat → Nat} (σ : SC) (x1 : Int32) (x2 : Int32)  (r : (Int32 × SC)) (h : f_X7_put σ x1 x2 = some r) : Met l yX7_put (.code yX7_put cX7_put 4 (some .int) :: wG) (Rm 7) (PreW D (tyA cI cZ) A (wC ad cI) [.ref (ad 34), .int x1, .int x2] σ) (QI D A (wC ad cI) r) 0 0 A := by
  refine met_of (M := f_X7_put σ x1 x2) (Qc := (QI D A (wC ad cI))) (by decide) (Nat.le_of_ble_eq_true rfl) h (fun p e s m below meth c C0 => ?_)
  generalize hargs : ([.ref (ad 34), .int x1, .int x2] : List Value).toArray = args at C0 ⊢
  have C0 : Cx D (tyA cI cZ) RX7 cX7_put 4 (some .int) p s m args meth c := C0
  refine J_sub (lv' := [(0, .ref (ad 34)), (1, .int x1), (2, .int x2)]) [0, 1, 2] rfl ?_
  unfold f_X7_put
  refine J_aload_n (pc := 0) C0 0 dX7_put_0 rfl rfl ?_
  refine J_iload_n (pc := 1) C0 1 dX7_put_1 rfl rfl ?_
  refine fin_P (fun r_ h_ => run_V (As := [.int x1]) (rest := []) (q0 := 34) C0 (c_X7_isSlot σ x1  r_ h_) v_X7_isSlot q188 wC_o34 rfl rfl ⟨rfl, rfl⟩ (Rm_ok (by decide) (by decide)) rfl (Nat.le_of_ble_eq_true rfl) dX7_put_2) (fun r2 e2 => ?_)
  refine J_if_eq (pc := 5) (tgt := 16) C0 dX7_put_5 (by decide) (fun h_5 => ?_) (fun h_5 => ?_)
  · refine J_ldc (pc := 16) C0 q192 dX7_put_16 ?_
    exact J_iret C0 dX7_put_18
  · refine J_aload_n (pc := 8) C0 0 dX7_put_8 rfl rfl ?_
    refine J_iload_n (pc := 9) C0 2 dX7_put_9 rfl rfl ?_
    refine fin_P (fun r_ h_ => run_V (As := [.int x2]) (rest := []) (q0 := 34) C0 (c_X7_isWord σ x2  r_ h_) v_X7_isWord q193 wC_o34 rfl rfl ⟨rfl, rfl⟩ (Rm_ok (by decide) (by decide)) rfl (Nat.le_of_ble_eq_true rfl) dX7_put_10) (fun r10 e10 => ?_)
    refine J_if_ne (pc := 13) (tgt := 19) C0 dX7_put_13 (by decide) (fun h_13 => ?_) (fun h_13 => ?_)
    · refine J_aload_n (pc := 19) C0 0 dX7_put_19 rfl rfl ?_
      refine J_get (pc := 20) (v := .ref (ad 37)) C0 34 wC_o34 rfl in_X7 2 (by decide) q186 rfl dX7_put_20 ?_
      refine J_getN (pc := 23) (v := .ref (ad 8)) C0 37 wC_o37 rfl in_X3 0 (by decide) q310 rfl dX7_put_23 ?_
      refine J_aload_n (pc := 26) C0 0 dX7_put_26 rfl rfl ?_
      refine J_get (pc := 27) (v := .ref (ad 36)) C0 34 wC_o34 rfl in_X7 1 (by decide) q15 rfl dX7_put_27 ?_
      refine J_getN (pc := 30) (v := .ref (ad 3)) C0 36 wC_o36 rfl in_X6 1 (by decide) q200 rfl dX7_put_30 ?_
      refine J_iload_n (pc := 33) C0 1 dX7_put_33 rfl rfl ?_
      refine fin_T (run_V (As := [.int x1]) (rest := [.ref (ad 8)]) (q0 := 3) C0 (cT_X5_get σ 3 x1 (by decide)) v_X5_get q100 (wC_row (by decide)) rfl rfl ⟨rfl, rfl⟩ (Rm_ok (by decide) (by decide)) rfl (Nat.le_of_ble_eq_true rfl) dX7_put_34) ?_
      refine fin_T (run_V (As := [.int (rd σ 3 x1)]) (rest := []) (q0 := 8) C0 (cT_X5_get σ 8 (rd σ 3 x1) (by decide)) v_X5_get q100 (wC_row (by decide)) rfl rfl ⟨rfl, rfl⟩ (Rm_ok (by decide) (by decide)) rfl (Nat.le_of_ble_eq_true rfl) dX7_put_37) ?_
      refine J_iload_n (pc := 40) C0 2 dX7_put_40 rfl rfl ?_
      refine fin_T (run_S (As := [.int (rd σ 8 (rd σ 3 x1)), .int x2]) (rest := []) C0 (cT_X7_contains σ (rd σ 8 (rd σ 3 x1)) x2 ) v_X7_contains q197 rfl ⟨rfl, rfl⟩ (Rm_ok (by decide) (by decide)) rfl (Nat.le_of_ble_eq_true rfl) dX7_put_41) ?_
      refine J_if_ne (pc := 44) (tgt := 50) C0 dX7_put_44 (by decide) (fun h_44 => ?_) (fun h_44 => ?_)
      · refine J_aload_n (pc := 50) C0 0 dX7_put_50 rfl rfl ?_
        refine J_get (pc := 51) (v := .ref (ad 40)) C0 34 wC_o34 rfl in_X7 5 (by decide) q239 rfl dX7_put_51 ?_
        refine J_aload_n (pc := 54) C0 0 dX7_put_54 rfl rfl ?_
        refine J_get (pc := 55) (v := .ref (ad 35)) C0 34 wC_o34 rfl in_X7 0 (by decide) q23 rfl dX7_put_55 ?_
        refine fin_V (fun r_ h_ => run_V (As := [.ref (ad 35)]) (rest := []) (q0 := 40) C0 (c_X4_note σ   r_ h_) v_X4_note q287 wC_o40 rfl rfl ⟨rfl, rfl⟩ (Rm_ok (by decide) (by decide)) rfl (Nat.le_of_ble_eq_true rfl) dX7_put_58) (fun σ58 e58 => ?_)
        refine J_aload_n (pc := 61) C0 0 dX7_put_61 rfl rfl ?_
        refine J_iload_n (pc := 62) C0 1 dX7_put_62 rfl rfl ?_
        refine J_iload_n (pc := 63) C0 2 dX7_put_63 rfl rfl ?_
        refine fin_I (fun r_ h_ => run_V (As := [.int x1, .int x2]) (rest := []) (q0 := 34) C0 (c_X7_writeWord σ58 x1 x2  r_ h_) v_X7_writeWord q311 wC_o34 rfl rfl ⟨rfl, rfl⟩ (Rm_ok (by decide) (by decide)) rfl (Nat.le_of_ble_eq_true rfl) dX7_put_64) (fun r64 σ64 e64 => ?_)
        refine J_istore_n (pc := 67) (lv' := [(3, .int r64), (0, .ref (ad 34)), (1, .int x1), (2, .int x2)]) C0 dX7_put_67 rfl (by decide) rfl ?_
        refine J_aload_n (pc := 68) C0 1 dX7_put_68 rfl rfl ?_
        refine fin_V (fun r_ h_ => run_V (As := []) (rest := []) (q0 := 34) C0 (c_X7_renew σ64   r_ h_) v_X7_renew q291 wC_o34 rfl rfl ⟨rfl, rfl⟩ (Rm_ok (by decide) (by decide)) rfl (Nat.le_of_ble_eq_true rfl) dX7_put_69) (fun σ69 e69 => ?_)
        refine J_iload_n (pc := 72) C0 0 dX7_put_72 rfl rfl ?_
        exact J_iret C0 dX7_put_73
      · refine J_ldc (pc := 47) C0 q296 dX7_put_47 ?_
        exact J_iret C0 dX7_put_49
    · refine J_ldc (pc := 16) C0 q192 dX7_put_16 ?_
      exact J_iret C0 dX7_put_18
end SE

def f_X7_strike (σ : SC) (x1 : Int32) : Option (Int32 × SC) :=
  ((f_X7_isWord σ x1).bind fun r2 => (if r2 = 0 then (some ((-1000000001), σ)) else ((f_X4_note σ).bind fun σ19 => ((f_X0_takeOut σ19 x1).bind fun σ27 => ((f_X7_renew σ27).bind fun σ31 => (some ((σ31 17 0), σ31)))))))
section SE
variable {p : Program} {l : Launch} {e : Env} {s : State} {m : MethodId} {args : Array Value} {below : List Frame} {meth : Method} {c : Code} {D : va_G} {cI cZ : ClassId} {A : Nat → Prop} {ad : Nat → Nat}
set_option maxRecDepth 100000 in
set_option maxHeartbeats 4000000 in
theorem c_X7_strike {l : Launch} {D : va_G} {cI cZ : ClassId} {A : Nat → Prop} {ad : Nat → Nat} (σ : SC) (x1 : Int32)  (r : (Int32 × SC)) (h : f_X7_strike σ x1 = some r) : Met l yX7_strike (.code yX7_strike cX7_strike 2 (some .int) :: wG) (Rm 7) (PreW D (tyA cI cZ) A (wC ad cI) [.ref (ad 34), .int x1] σ) (QI D A (wC ad cI) r) 0 0 A := by
  refine met_of (M := f_X7_strike σ x1) (Qc := (QI D A (wC ad cI))) (by decide) (Nat.le_of_ble_eq_true rfl) h (fun p e s m below meth c C0 => ?_)
  generalize hargs : ([.ref (ad 34), .int x1] : List Value).toArray = args at C0 ⊢
  have C0 : Cx D (tyA cI cZ) RX7 cX7_strike 2 (some .int) p s m args meth c := C0
  refine J_sub (lv' := [(0, .ref (ad 34)), (1, .int x1)]) [0, 1] rfl ?_
  unfold f_X7_strike
  refine J_aload_n (pc := 0) C0 0 dX7_strike_0 rfl rfl ?_
  refine J_iload_n (pc := 1) C0 1 dX7_strike_1 rfl rfl ?_
  refine fin_P (fun r_ h_ => run_V (As := [.int x1]) (rest := []) (q0 := 34) C0 (c_X7_isWord σ x1  r_ h_) v_X7_isWord q193 wC_o34 rfl rfl ⟨rfl, rfl⟩ (Rm_ok (by decide) (by decide)) rfl (Nat.le_of_ble_eq_true rfl) dX7_strike_2) (fun r2 e2 => ?_)
  refine J_if_ne (pc := 5) (tgt := 11) C0 dX7_strike_5 (by decide) (fun h_5 => ?_) (fun h_5 => ?_)
  · refine J_aload_n (pc := 11) C0 0 dX7_strike_11 rfl rfl ?_
    refine J_get (pc := 12) (v := .ref (ad 40)) C0 34 wC_o34 rfl in_X7 5 (by decide) q239 rfl dX7_strike_12 ?_
    refine J_aload_n (pc := 15) C0 0 dX7_strike_15 rfl rfl ?_
    refine J_get (pc := 16) (v := .ref (ad 35)) C0 34 wC_o34 rfl in_X7 0 (by decide) q23 rfl dX7_strike_16 ?_
    refine fin_V (fun r_ h_ => run_V (As := [.ref (ad 35)]) (rest := []) (q0 := 40) C0 (c_X4_note σ   r_ h_) v_X4_note q287 wC_o40 rfl rfl ⟨rfl, rfl⟩ (Rm_ok (by decide) (by decide)) rfl (Nat.le_of_ble_eq_true rfl) dX7_strike_19) (fun σ19 e19 => ?_)
    refine J_aload_n (pc := 22) C0 0 dX7_strike_22 rfl rfl ?_
    refine J_get (pc := 23) (v := .ref (ad 35)) C0 34 wC_o34 rfl in_X7 0 (by decide) q23 rfl dX7_strike_23 ?_
    refine J_iload_n (pc := 26) C0 1 dX7_strike_26 rfl rfl ?_
    refine fin_V (fun r_ h_ => run_V (As := [.int x1]) (rest := []) (q0 := 35) C0 (c_X0_takeOut σ19 x1  r_ h_) v_X0_takeOut q315 wC_o35 rfl rfl ⟨rfl, rfl⟩ (Rm_ok (by decide) (by decide)) rfl (Nat.le_of_ble_eq_true rfl) dX7_strike_27) (fun σ27 e27 => ?_)
    refine J_aload_n (pc := 30) C0 0 dX7_strike_30 rfl rfl ?_
    refine fin_V (fun r_ h_ => run_V (As := []) (rest := []) (q0 := 34) C0 (c_X7_renew σ27   r_ h_) v_X7_renew q291 wC_o34 rfl rfl ⟨rfl, rfl⟩ (Rm_ok (by decide) (by decide)) rfl (Nat.le_of_ble_eq_true rfl) dX7_strike_31) (fun σ31 e31 => ?_)
    refine J_aload_n (pc := 34) C0 0 dX7_strike_34 rfl rfl ?_
    refine J_get (pc := 35) (v := .ref (ad 35)) C0 34 wC_o34 rfl in_X7 0 (by decide) q23 rfl dX7_strike_35 ?_
    refine J_getN (pc := 38) (v := .int (σ31 17 0)) C0 35 wC_o35 rfl in_X0 2 (by decide) q24 rfl dX7_strike_38 ?_
    exact J_iret C0 dX7_strike_41
  · refine J_ldc (pc := 8) C0 q192 dX7_strike_8 ?_
    exact J_iret C0 dX7_strike_10
end SE
