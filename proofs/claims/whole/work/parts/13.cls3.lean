def f_X7_turn (σ : SC)  : Option (Int32 × SC) :=
  ((f_X4_note σ).bind fun σ8 => ((f_X0_swapRowsAndColumns σ8).bind fun σ15 => ((f_X7_renew σ15).bind fun σ19 => (some ((σ19 17 1), σ19)))))
section SE
variable {p : Program} {l : Launch} {e : Env} {s : State} {m : MethodId} {args : Array Value} {below : List Frame} {meth : Method} {c : Code} {D : va_G} {cI cZ : ClassId} {A : Nat → Prop} {ad : Nat → Nat}
set_option maxRecDepth 100000 in
set_option maxHeartbeats 4000000 in
theorem c_X7_turn {l : Launch} {D : va_G} {cI cZ : ClassId} {A : Nat → Prop} {ad : Nat → Nat} (σ : SC)   (r : (Int32 × SC)) (h : f_X7_turn σ = some r) : Met l yX7_turn (.code yX7_turn cX7_turn 1 (some .int) :: wG) (Rm 7) (PreW D (tyA cI cZ) A (wC ad cI) [.ref (ad 34)] σ) (QI D A (wC ad cI) r) 0 0 A := by
  refine met_of (M := f_X7_turn σ) (Qc := (QI D A (wC ad cI))) (by decide) (Nat.le_of_ble_eq_true rfl) h (fun p e s m below meth c C0 => ?_)
  generalize hargs : ([.ref (ad 34)] : List Value).toArray = args at C0 ⊢
  have C0 : Cx D (tyA cI cZ) RX7 cX7_turn 1 (some .int) p s m args meth c := C0
  refine J_sub (lv' := [(0, .ref (ad 34))]) [0] rfl ?_
  unfold f_X7_turn
  refine J_aload_n (pc := 0) C0 0 dX7_turn_0 rfl rfl ?_
  refine J_get (pc := 1) (v := .ref (ad 40)) C0 34 wC_o34 rfl in_X7 5 (by decide) q239 rfl dX7_turn_1 ?_
  refine J_aload_n (pc := 4) C0 0 dX7_turn_4 rfl rfl ?_
  refine J_get (pc := 5) (v := .ref (ad 35)) C0 34 wC_o34 rfl in_X7 0 (by decide) q23 rfl dX7_turn_5 ?_
  refine fin_V (fun r_ h_ => run_V (As := [.ref (ad 35)]) (rest := []) (q0 := 40) C0 (c_X4_note σ   r_ h_) v_X4_note q287 wC_o40 rfl rfl ⟨rfl, rfl⟩ (Rm_ok (by decide) (by decide)) rfl (Nat.le_of_ble_eq_true rfl) dX7_turn_8) (fun σ8 e8 => ?_)
  refine J_aload_n (pc := 11) C0 0 dX7_turn_11 rfl rfl ?_
  refine J_get (pc := 12) (v := .ref (ad 35)) C0 34 wC_o34 rfl in_X7 0 (by decide) q23 rfl dX7_turn_12 ?_
  refine fin_V (fun r_ h_ => run_V (As := []) (rest := []) (q0 := 35) C0 (c_X0_swapRowsAndColumns σ8   r_ h_) v_X0_swapRowsAndColumns q319 wC_o35 rfl rfl ⟨rfl, rfl⟩ (Rm_ok (by decide) (by decide)) rfl (Nat.le_of_ble_eq_true rfl) dX7_turn_15) (fun σ15 e15 => ?_)
  refine J_aload_n (pc := 18) C0 0 dX7_turn_18 rfl rfl ?_
  refine fin_V (fun r_ h_ => run_V (As := []) (rest := []) (q0 := 34) C0 (c_X7_renew σ15   r_ h_) v_X7_renew q291 wC_o34 rfl rfl ⟨rfl, rfl⟩ (Rm_ok (by decide) (by decide)) rfl (Nat.le_of_ble_eq_true rfl) dX7_turn_19) (fun σ19 e19 => ?_)
  refine J_aload_n (pc := 22) C0 0 dX7_turn_22 rfl rfl ?_
  refine J_get (pc := 23) (v := .ref (ad 36)) C0 34 wC_o34 rfl in_X7 1 (by decide) q15 rfl dX7_turn_23 ?_
  refine J_getN (pc := 26) (v := .int (σ19 17 1)) C0 36 wC_o36 rfl in_X6 6 (by decide) q22 rfl dX7_turn_26 ?_
  exact J_iret C0 dX7_turn_29
end SE

def f_X7_undo (σ : SC)  : Option (Int32 × SC) :=
  (if (σ 17 6) = 0 then (some ((-1000000003), σ)) else ((f_X4_stepBack σ).bind fun σ21 => ((f_X7_renew σ21).bind fun σ25 => (some ((σ25 17 6), σ25)))))
section SE
variable {p : Program} {l : Launch} {e : Env} {s : State} {m : MethodId} {args : Array Value} {below : List Frame} {meth : Method} {c : Code} {D : va_G} {cI cZ : ClassId} {A : Nat → Prop} {ad : Nat → Nat}
set_option maxRecDepth 100000 in
set_option maxHeartbeats 4000000 in
theorem c_X7_undo {l : Launch} {D : va_G} {cI cZ : ClassId} {A : Nat → Prop} {ad : Nat → Nat} (σ : SC)   (r : (Int32 × SC)) (h : f_X7_undo σ = some r) : Met l yX7_undo (.code yX7_undo cX7_undo 1 (some .int) :: wG) (Rm 7) (PreW D (tyA cI cZ) A (wC ad cI) [.ref (ad 34)] σ) (QI D A (wC ad cI) r) 0 0 A := by
  refine met_of (M := f_X7_undo σ) (Qc := (QI D A (wC ad cI))) (by decide) (Nat.le_of_ble_eq_true rfl) h (fun p e s m below meth c C0 => ?_)
  generalize hargs : ([.ref (ad 34)] : List Value).toArray = args at C0 ⊢
  have C0 : Cx D (tyA cI cZ) RX7 cX7_undo 1 (some .int) p s m args meth c := C0
  refine J_sub (lv' := [(0, .ref (ad 34))]) [0] rfl ?_
  unfold f_X7_undo
  refine J_aload_n (pc := 0) C0 0 dX7_undo_0 rfl rfl ?_
  refine J_get (pc := 1) (v := .ref (ad 40)) C0 34 wC_o34 rfl in_X7 5 (by decide) q239 rfl dX7_undo_1 ?_
  refine J_getN (pc := 4) (v := .int (σ 17 6)) C0 40 wC_o40 rfl in_X4 2 (by decide) q323 rfl dX7_undo_4 ?_
  refine J_if_ne (pc := 7) (tgt := 13) C0 dX7_undo_7 (by decide) (fun h_7 => ?_) (fun h_7 => ?_)
  · refine J_aload_n (pc := 13) C0 0 dX7_undo_13 rfl rfl ?_
    refine J_get (pc := 14) (v := .ref (ad 40)) C0 34 wC_o34 rfl in_X7 5 (by decide) q239 rfl dX7_undo_14 ?_
    refine J_aload_n (pc := 17) C0 0 dX7_undo_17 rfl rfl ?_
    refine J_get (pc := 18) (v := .ref (ad 35)) C0 34 wC_o34 rfl in_X7 0 (by decide) q23 rfl dX7_undo_18 ?_
    refine fin_V (fun r_ h_ => run_V (As := [.ref (ad 35)]) (rest := []) (q0 := 40) C0 (c_X4_stepBack σ   r_ h_) v_X4_stepBack q324 wC_o40 rfl rfl ⟨rfl, rfl⟩ (Rm_ok (by decide) (by decide)) rfl (Nat.le_of_ble_eq_true rfl) dX7_undo_21) (fun σ21 e21 => ?_)
    refine J_aload_n (pc := 24) C0 0 dX7_undo_24 rfl rfl ?_
    refine fin_V (fun r_ h_ => run_V (As := []) (rest := []) (q0 := 34) C0 (c_X7_renew σ21   r_ h_) v_X7_renew q291 wC_o34 rfl rfl ⟨rfl, rfl⟩ (Rm_ok (by decide) (by decide)) rfl (Nat.le_of_ble_eq_true rfl) dX7_undo_25) (fun σ25 e25 => ?_)
    refine J_aload_n (pc := 28) C0 0 dX7_undo_28 rfl rfl ?_
    refine J_get (pc := 29) (v := .ref (ad 40)) C0 34 wC_o34 rfl in_X7 5 (by decide) q239 rfl dX7_undo_29 ?_
    refine J_getN (pc := 32) (v := .int (σ25 17 6)) C0 40 wC_o40 rfl in_X4 2 (by decide) q323 rfl dX7_undo_32 ?_
    exact J_iret C0 dX7_undo_35
  · refine J_ldc (pc := 10) C0 q296 dX7_undo_10 ?_
    exact J_iret C0 dX7_undo_12
end SE

def f_X7_wipe (σ : SC)  : Option (Int32 × SC) :=
  ((f_X4_note σ).bind fun σ8 => (bnd (f_X0_clearLetters σ8) fun r15 σ15 => ((f_X7_renew σ15).bind fun σ20 => (some (r15, σ20)))))
section SE
variable {p : Program} {l : Launch} {e : Env} {s : State} {m : MethodId} {args : Array Value} {below : List Frame} {meth : Method} {c : Code} {D : va_G} {cI cZ : ClassId} {A : Nat → Prop} {ad : Nat → Nat}
set_option maxRecDepth 100000 in
set_option maxHeartbeats 4000000 in
theorem c_X7_wipe {l : Launch} {D : va_G} {cI cZ : ClassId} {A : Nat → Prop} {ad : Nat → Nat} (σ : SC)   (r : (Int32 × SC)) (h : f_X7_wipe σ = some r) : Met l yX7_wipe (.code yX7_wipe cX7_wipe 2 (some .int) :: wG) (Rm 7) (PreW D (tyA cI cZ) A (wC ad cI) [.ref (ad 34)] σ) (QI D A (wC ad cI) r) 0 0 A := by
  refine met_of (M := f_X7_wipe σ) (Qc := (QI D A (wC ad cI))) (by decide) (Nat.le_of_ble_eq_true rfl) h (fun p e s m below meth c C0 => ?_)
  generalize hargs : ([.ref (ad 34)] : List Value).toArray = args at C0 ⊢
  have C0 : Cx D (tyA cI cZ) RX7 cX7_wipe 2 (some .int) p s m args meth c := C0
  refine J_sub (lv' := [(0, .ref (ad 34))]) [0] rfl ?_
  unfold f_X7_wipe
  refine J_aload_n (pc := 0) C0 0 dX7_wipe_0 rfl rfl ?_
  refine J_get (pc := 1) (v := .ref (ad 40)) C0 34 wC_o34 rfl in_X7 5 (by decide) q239 rfl dX7_wipe_1 ?_
  refine J_aload_n (pc := 4) C0 0 dX7_wipe_4 rfl rfl ?_
  refine J_get (pc := 5) (v := .ref (ad 35)) C0 34 wC_o34 rfl in_X7 0 (by decide) q23 rfl dX7_wipe_5 ?_
  refine fin_V (fun r_ h_ => run_V (As := [.ref (ad 35)]) (rest := []) (q0 := 40) C0 (c_X4_note σ   r_ h_) v_X4_note q287 wC_o40 rfl rfl ⟨rfl, rfl⟩ (Rm_ok (by decide) (by decide)) rfl (Nat.le_of_ble_eq_true rfl) dX7_wipe_8) (fun σ8 e8 => ?_)
  refine J_aload_n (pc := 11) C0 0 dX7_wipe_11 rfl rfl ?_
  refine J_get (pc := 12) (v := .ref (ad 35)) C0 34 wC_o34 rfl in_X7 0 (by decide) q23 rfl dX7_wipe_12 ?_
  refine fin_I (fun r_ h_ => run_V (As := []) (rest := []) (q0 := 35) C0 (c_X0_clearLetters σ8   r_ h_) v_X0_clearLetters q328 wC_o35 rfl rfl ⟨rfl, rfl⟩ (Rm_ok (by decide) (by decide)) rfl (Nat.le_of_ble_eq_true rfl) dX7_wipe_15) (fun r15 σ15 e15 => ?_)
  refine J_istore_n (pc := 18) (lv' := [(1, .int r15), (0, .ref (ad 34))]) C0 dX7_wipe_18 rfl (by decide) rfl ?_
  refine J_aload_n (pc := 19) C0 1 dX7_wipe_19 rfl rfl ?_
  refine fin_V (fun r_ h_ => run_V (As := []) (rest := []) (q0 := 34) C0 (c_X7_renew σ15   r_ h_) v_X7_renew q291 wC_o34 rfl rfl ⟨rfl, rfl⟩ (Rm_ok (by decide) (by decide)) rfl (Nat.le_of_ble_eq_true rfl) dX7_wipe_20) (fun σ20 e20 => ?_)
  refine J_iload_n (pc := 23) C0 0 dX7_wipe_23 rfl rfl ?_
  exact J_iret C0 dX7_wipe_24
end SE

def f_X2_ways_L36 (rec : SC → Int32 → Int32 → Option (Int32 × SC)) (x1 : Int32) (x2 : Int32) (x3 : Int32) (kx90 : SC → Int32 → Option (Int32 × SC)) : Nat → SC → Int32 → Int32 → Option (Int32 × SC)
  | 0, _, _, _ => none
  | n + 1, σ, x4, x5 =>
  (if (nI 16) ≤ x5 then (kx90 σ x4) else (if x2 ≤ x4 then (kx90 σ x4) else (if (cn x3 x5) = 0 then (f_X2_ways_L36 rec x1 x2 x3 kx90 n σ x4 (x5 + 1)) else (bnd (f_X2_choose σ x1 x5) fun r62 σ62 => (if r62 = 0 then (f_X2_ways_L36 rec x1 x2 x3 kx90 n σ62 x4 (x5 + 1)) else (bnd (rec σ62 (x1 + 1) (x2 - x4)) fun r78 σ78 => (f_X2_ways_L36 rec x1 x2 x3 kx90 n σ78 (x4 + r78) (x5 + 1))))))))
theorem f_X2_ways_L36_s (rec : SC → Int32 → Int32 → Option (Int32 × SC)) (x1 : Int32) (x2 : Int32) (x3 : Int32) (kx90 : SC → Int32 → Option (Int32 × SC)) (n : Nat) (σ : SC) (x4 : Int32) (x5 : Int32) : f_X2_ways_L36 rec x1 x2 x3 kx90 (n + 1) σ x4 x5 = ((if (nI 16) ≤ x5 then (kx90 σ x4) else (if x2 ≤ x4 then (kx90 σ x4) else (if (cn x3 x5) = 0 then (f_X2_ways_L36 rec x1 x2 x3 kx90 n σ x4 (x5 + 1)) else (bnd (f_X2_choose σ x1 x5) fun r62 σ62 => (if r62 = 0 then (f_X2_ways_L36 rec x1 x2 x3 kx90 n σ62 x4 (x5 + 1)) else (bnd (rec σ62 (x1 + 1) (x2 - x4)) fun r78 σ78 => (f_X2_ways_L36 rec x1 x2 x3 kx90 n σ78 (x4 + r78) (x5 + 1))))))))) := rfl
def f_X2_ways_B (rec : SC → Int32 → Int32 → Option (Int32 × SC)) (σ : SC) (x1 : Int32) (x2 : Int32) : Option (Int32 × SC) :=
  (if (σ 17 4) ≤ x1 then (some (1, σ)) else (if x1 < (nI 8) then (f_X2_ways_L36 rec x1 x2 (rd σ 14 ((x1 * (nI 8)) + x1)) (fun σ_90 x4_90 => (some (x4_90, σ_90))) FU σ 0 0) else (some (1, σ))))
section SE
variable {p : Program} {l : Launch} {e : Env} {s : State} {m : MethodId} {args : Array Value} {below : List Frame} {meth : Method} {c : Code} {D : va_G} {cI cZ : ClassId} {A : Nat → Prop} {ad : Nat → Nat}
set_option maxRecDepth 100000 in
set_option maxHeartbeats 4000000 in
theorem j_X2_ways_L36 (C0 : Cx D (tyA cI cZ) RX2 cX2_ways 6 (some .int) p s m args meth c) {rec : SC → Int32 → Int32 → Option (Int32 × SC)} {dd : Nat} (hrec : ∀ (σ : SC) (x1 : Int32) (x2 : Int32) (r : (Int32 × SC)), rec σ x1 x2 = some r → Met l yX2_ways (.code yX2_ways cX2_ways 6 (some .int) :: wG) (Rm (dd + 4)) (PreW D (tyA cI cZ) A (wC ad cI) [.ref (ad 39), .int x1, .int x2] σ) (QI D A (wC ad cI) r) 0 0 A) (x1 : Int32) (x2 : Int32) (x3 : Int32) (kx90 : SC → Int32 → Option (Int32 × SC)) (hkx90 : ∀ (σ : SC) (x4 : Int32), J p l e (Rm (dd + 5)) s m args below meth c D A (wC ad cI) 6 (QI D A (wC ad cI)) (kx90 σ x4) σ [(4, .int x4)] [] 90) : ∀ (n : Nat) (σ : SC) (x4 : Int32) (x5 : Int32), J p l e (Rm (dd + 5)) s m args below meth c D A (wC ad cI) 6 (QI D A (wC ad cI)) (f_X2_ways_L36 rec x1 x2 x3 kx90 n σ x4 x5) σ [(0, .ref (ad 39)), (1, .int x1), (2, .int x2), (3, .int x3), (4, .int x4), (5, .int x5)] [] 36 := by
  intro n
  induction n with
  | zero => intros; exact J_none
  | succ n ih =>
    intro σ x4 x5
    refine J_eq (f_X2_ways_L36_s rec x1 x2 x3 kx90 n σ x4 x5) ?_
    refine J_iload (pc := 36) C0 5 dX2_ways_36 rfl ?_
    refine J_bipush (pc := 38) (v := (nI 16)) C0 dX2_ways_38 (by decide) ?_
    refine J_icmp_ge (pc := 40) (tgt := 90) C0 dX2_ways_40 (by decide) (fun h_40 => ?_) (fun h_40 => ?_)
    · refine J_sub (lv' := [(4, .int x4)]) [4] rfl ?_
      exact hkx90 σ x4
    · refine J_iload (pc := 43) C0 4 dX2_ways_43 rfl ?_
      refine J_iload_n (pc := 45) C0 2 dX2_ways_45 rfl rfl ?_
      refine J_icmp_ge (pc := 46) (tgt := 90) C0 dX2_ways_46 (by decide) (fun h_46 => ?_) (fun h_46 => ?_)
      · refine J_sub (lv' := [(4, .int x4)]) [4] rfl ?_
        exact hkx90 σ x4
      · refine J_iload_n (pc := 49) C0 3 dX2_ways_49 rfl rfl ?_
        refine J_iload (pc := 50) C0 5 dX2_ways_50 rfl ?_
        refine fin_T (run_SN (As := [.int x3, .int x5]) (rest := []) C0 (cT_X7_contains σ x3 x5 ) v_X7_contains q70 rfl ⟨rfl, rfl⟩ (Rm_ok (by omega) (by decide)) rfl (Nat.le_of_ble_eq_true rfl) dX2_ways_52) ?_
        refine J_if_eq (pc := 55) (tgt := 84) C0 dX2_ways_55 (by decide) (fun h_55 => ?_) (fun h_55 => ?_)
        · refine J_iinc (pc := 84) (d := 1) (lv' := [(5, .int (x5 + 1)), (0, .ref (ad 39)), (1, .int x1), (2, .int x2), (3, .int x3), (4, .int x4)]) C0 5 dX2_ways_84 rfl (by decide) (by decide) rfl ?_
          refine J_goto (pc := 87) (tgt := 36) C0 dX2_ways_87 (by decide) ?_
          refine J_sub (lv' := [(0, .ref (ad 39)), (1, .int x1), (2, .int x2), (3, .int x3), (4, .int x4), (5, .int (x5 + 1))]) [1, 2, 3, 4, 5, 0] rfl ?_
          exact ih σ x4 (x5 + 1)
        · refine J_aload_n (pc := 58) C0 0 dX2_ways_58 rfl rfl ?_
          refine J_iload_n (pc := 59) C0 1 dX2_ways_59 rfl rfl ?_
          refine J_iload (pc := 60) C0 5 dX2_ways_60 rfl ?_
          refine fin_I (fun r_ h_ => run_V (As := [.int x1, .int x5]) (rest := []) (q0 := 39) C0 (c_X2_choose σ x1 x5  r_ h_) v_X2_choose q332 wC_o39 rfl rfl ⟨rfl, rfl⟩ (Rm_ok (by omega) (by decide)) rfl (Nat.le_of_ble_eq_true rfl) dX2_ways_62) (fun r62 σ62 e62 => ?_)
          refine J_if_eq (pc := 65) (tgt := 84) C0 dX2_ways_65 (by decide) (fun h_65 => ?_) (fun h_65 => ?_)
          · refine J_iinc (pc := 84) (d := 1) (lv' := [(5, .int (x5 + 1)), (0, .ref (ad 39)), (1, .int x1), (2, .int x2), (3, .int x3), (4, .int x4)]) C0 5 dX2_ways_84 rfl (by decide) (by decide) rfl ?_
            refine J_goto (pc := 87) (tgt := 36) C0 dX2_ways_87 (by decide) ?_
            refine J_sub (lv' := [(0, .ref (ad 39)), (1, .int x1), (2, .int x2), (3, .int x3), (4, .int x4), (5, .int (x5 + 1))]) [1, 2, 3, 4, 5, 0] rfl ?_
            exact ih σ62 x4 (x5 + 1)
          · refine J_iload (pc := 68) C0 4 dX2_ways_68 rfl ?_
            refine J_aload_n (pc := 70) C0 0 dX2_ways_70 rfl rfl ?_
            refine J_iload_n (pc := 71) C0 1 dX2_ways_71 rfl rfl ?_
            refine J_iconst (pc := 72) (v := 1) C0 dX2_ways_72 (by decide) ?_
            refine J_iadd (pc := 73) C0 dX2_ways_73 ?_
            refine J_iload_n (pc := 74) C0 2 dX2_ways_74 rfl rfl ?_
            refine J_iload (pc := 75) C0 4 dX2_ways_75 rfl ?_
            refine J_isub (pc := 77) C0 dX2_ways_77 ?_
            refine fin_I (fun r_ h_ => run_S (As := [.ref (ad 39), .int (x1 + 1), .int (x2 - x4)]) (rest := [.int x4]) C0 (hrec σ62 (x1 + 1) (x2 - x4) r_ h_) v_X2_ways q337 rfl ⟨rfl, rfl⟩ (Rm_ok (by omega) (by decide)) rfl (Nat.le_of_ble_eq_true rfl) dX2_ways_78) (fun r78 σ78 e78 => ?_)
            refine J_iadd (pc := 81) C0 dX2_ways_81 ?_
            refine J_istore (pc := 82) (lv' := [(4, .int (x4 + r78)), (0, .ref (ad 39)), (1, .int x1), (2, .int x2), (3, .int x3), (5, .int x5)]) C0 dX2_ways_82 (by decide) rfl ?_
            refine J_iinc (pc := 84) (d := 1) (lv' := [(5, .int (x5 + 1)), (4, .int (x4 + r78)), (0, .ref (ad 39)), (1, .int x1), (2, .int x2), (3, .int x3)]) C0 5 dX2_ways_84 rfl (by decide) (by decide) rfl ?_
            refine J_goto (pc := 87) (tgt := 36) C0 dX2_ways_87 (by decide) ?_
            refine J_sub (lv' := [(0, .ref (ad 39)), (1, .int x1), (2, .int x2), (3, .int x3), (4, .int (x4 + r78)), (5, .int (x5 + 1))]) [2, 3, 4, 5, 1, 0] rfl ?_
            exact ih σ78 (x4 + r78) (x5 + 1)
set_option maxRecDepth 100000 in
set_option maxHeartbeats 4000000 in
theorem c_X2_ways_B {l : Launch} {D : va_G} {cI cZ : ClassId} {A : Nat → Prop} {ad : Nat → Nat} {rec : SC → Int32 → Int32 → Option (Int32 × SC)} {dd : Nat} (hrec : ∀ (σ : SC) (x1 : Int32) (x2 : Int32) (r : (Int32 × SC)), rec σ x1 x2 = some r → Met l yX2_ways (.code yX2_ways cX2_ways 6 (some .int) :: wG) (Rm (dd + 4)) (PreW D (tyA cI cZ) A (wC ad cI) [.ref (ad 39), .int x1, .int x2] σ) (QI D A (wC ad cI) r) 0 0 A) (σ : SC) (x1 : Int32) (x2 : Int32)  (r : (Int32 × SC)) (h : f_X2_ways_B rec σ x1 x2 = some r) : Met l yX2_ways (.code yX2_ways cX2_ways 6 (some .int) :: wG) (Rm (dd + 5)) (PreW D (tyA cI cZ) A (wC ad cI) [.ref (ad 39), .int x1, .int x2] σ) (QI D A (wC ad cI) r) 0 0 A := by
  refine met_of (M := f_X2_ways_B rec σ x1 x2) (Qc := (QI D A (wC ad cI))) (by decide) (Nat.le_of_ble_eq_true rfl) h (fun p e s m below meth c C0 => ?_)
  generalize hargs : ([.ref (ad 39), .int x1, .int x2] : List Value).toArray = args at C0 ⊢
  have C0 : Cx D (tyA cI cZ) RX2 cX2_ways 6 (some .int) p s m args meth c := C0
  refine J_sub (lv' := [(0, .ref (ad 39)), (1, .int x1), (2, .int x2)]) [0, 1, 2] rfl ?_
  unfold f_X2_ways_B
  refine J_iload_n (pc := 0) C0 1 dX2_ways_0 rfl rfl ?_
  refine J_aload_n (pc := 1) C0 0 dX2_ways_1 rfl rfl ?_
  refine J_get (pc := 2) (v := .int (σ 17 4)) C0 39 wC_o39 rfl in_X2 3 (by decide) q61 rfl dX2_ways_2 ?_
  refine J_icmp_ge (pc := 5) (tgt := 14) C0 dX2_ways_5 (by decide) (fun h_5 => ?_) (fun h_5 => ?_)
  · refine J_iconst (pc := 14) (v := 1) C0 dX2_ways_14 (by decide) ?_
    exact J_iret C0 dX2_ways_15
  · refine J_iload_n (pc := 8) C0 1 dX2_ways_8 rfl rfl ?_
    refine J_bipush (pc := 9) (v := (nI 8)) C0 dX2_ways_9 (by decide) ?_
    refine J_icmp_lt (pc := 11) (tgt := 16) C0 dX2_ways_11 (by decide) (fun h_11 => ?_) (fun h_11 => ?_)
    · refine J_aload_n (pc := 16) C0 0 dX2_ways_16 rfl rfl ?_
      refine J_get (pc := 17) (v := .ref (ad 14)) C0 39 wC_o39 rfl in_X2 4 (by decide) q73 rfl dX2_ways_17 ?_
      refine J_iload_n (pc := 20) C0 1 dX2_ways_20 rfl rfl ?_
      refine J_bipush (pc := 21) (v := (nI 8)) C0 dX2_ways_21 (by decide) ?_
      refine J_imul (pc := 23) C0 dX2_ways_23 ?_
      refine J_iload_n (pc := 24) C0 1 dX2_ways_24 rfl rfl ?_
      refine J_iadd (pc := 25) C0 dX2_ways_25 ?_
      refine fin_T (run_V (As := [.int ((x1 * (nI 8)) + x1)]) (rest := []) (q0 := 14) C0 (cT_X5_get σ 14 ((x1 * (nI 8)) + x1) (by decide)) v_X5_get q74 (wC_row (by decide)) rfl rfl ⟨rfl, rfl⟩ (Rm_ok (by omega) (by decide)) rfl (Nat.le_of_ble_eq_true rfl) dX2_ways_26) ?_
      refine J_istore_n (pc := 29) (lv' := [(3, .int (rd σ 14 ((x1 * (nI 8)) + x1))), (0, .ref (ad 39)), (1, .int x1), (2, .int x2)]) C0 dX2_ways_29 rfl (by decide) rfl ?_
      refine J_iconst (pc := 30) (v := 0) C0 dX2_ways_30 (by decide) ?_
      refine J_istore (pc := 31) (lv' := [(4, .int 0), (3, .int (rd σ 14 ((x1 * (nI 8)) + x1))), (0, .ref (ad 39)), (1, .int x1), (2, .int x2)]) C0 dX2_ways_31 (by decide) rfl ?_
      refine J_iconst (pc := 33) (v := 0) C0 dX2_ways_33 (by decide) ?_
      refine J_istore (pc := 34) (lv' := [(5, .int 0), (4, .int 0), (3, .int (rd σ 14 ((x1 * (nI 8)) + x1))), (0, .ref (ad 39)), (1, .int x1), (2, .int x2)]) C0 dX2_ways_34 (by decide) rfl ?_
      refine J_sub (lv' := [(0, .ref (ad 39)), (1, .int x1), (2, .int x2), (3, .int (rd σ 14 ((x1 * (nI 8)) + x1))), (4, .int 0), (5, .int 0)]) [3, 4, 5, 2, 1, 0] rfl ?_
      refine j_X2_ways_L36 C0 hrec x1 x2 (rd σ 14 ((x1 * (nI 8)) + x1)) _ (fun σ_90 x4_90 => ?_) FU σ 0 0
      refine J_iload (pc := 90) C0 0 dX2_ways_90 rfl ?_
      exact J_iret C0 dX2_ways_92
    · refine J_iconst (pc := 14) (v := 1) C0 dX2_ways_14 (by decide) ?_
      exact J_iret C0 dX2_ways_15
end SE
def f_X2_ways : Nat → SC → Int32 → Int32 → Option (Int32 × SC)
  | 0 => fun _ _ _ => none
  | d + 1 => fun σ x1 x2 => f_X2_ways_B (f_X2_ways d) σ x1 x2
theorem c_X2_ways_D {l : Launch} {D : va_G} {cI cZ : ClassId} {A : Nat → Prop} {ad : Nat → Nat} : ∀ (dd : Nat) (σ : SC) (x1 : Int32) (x2 : Int32) (r : (Int32 × SC)), f_X2_ways dd σ x1 x2 = some r → Met l yX2_ways (.code yX2_ways cX2_ways 6 (some .int) :: wG) (Rm (dd + 4)) (PreW D (tyA cI cZ) A (wC ad cI) [.ref (ad 39), .int x1, .int x2] σ) (QI D A (wC ad cI) r) 0 0 A := by
  intro dd
  induction dd with
  | zero => intro σ x1 x2 r h; cases h
  | succ dd ih =>
    intro σ x1 x2 r h
    rw [show dd + 1 + 4 = dd + 5 by omega]
    exact c_X2_ways_B (l := l) (D := D) (cI := cI) (cZ := cZ) (A := A) (ad := ad) (rec := f_X2_ways dd) (dd := dd) ih σ x1 x2 r h
theorem c_X2_ways {l : Launch} {D : va_G} {cI cZ : ClassId} {A : Nat → Prop} {ad : Nat → Nat} (σ : SC) (x1 : Int32) (x2 : Int32) (r : (Int32 × SC)) (h : f_X2_ways 12 σ x1 x2 = some r) : Met l yX2_ways (.code yX2_ways cX2_ways 6 (some .int) :: wG) (Rm 16) (PreW D (tyA cI cZ) A (wC ad cI) [.ref (ad 39), .int x1, .int x2] σ) (QI D A (wC ad cI) r) 0 0 A := c_X2_ways_D 12 σ x1 x2 r h

def f_X2_canFill (σ : SC) (x1 : Int32) : Option (Int32 × SC) :=
  ((f_X2_begin σ x1 11).bind fun σ9 => (bnd (f_X2_ways 12 σ9 0 1) fun r15 σ15 => (if r15 ≤ 0 then (some (0, σ15)) else (some (1, σ15)))))
section SE
variable {p : Program} {l : Launch} {e : Env} {s : State} {m : MethodId} {args : Array Value} {below : List Frame} {meth : Method} {c : Code} {D : va_G} {cI cZ : ClassId} {A : Nat → Prop} {ad : Nat → Nat}
set_option maxRecDepth 100000 in
set_option maxHeartbeats 4000000 in
theorem c_X2_canFill {l : Launch} {D : va_G} {cI cZ : ClassId} {A : Nat → Prop} {ad : Nat → Nat} (σ : SC) (x1 : Int32)  (r : (Int32 × SC)) (h : f_X2_canFill σ x1 = some r) : Met l yX2_canFill (.code yX2_canFill cX2_canFill 2 (some .boolean) :: wG) (Rm 17) (PreW D (tyA cI cZ) A (wC ad cI) [.ref (ad 39), .int x1] σ) (QI D A (wC ad cI) r) 0 0 A := by
  refine met_of (M := f_X2_canFill σ x1) (Qc := (QI D A (wC ad cI))) (by decide) (Nat.le_of_ble_eq_true rfl) h (fun p e s m below meth c C0 => ?_)
  generalize hargs : ([.ref (ad 39), .int x1] : List Value).toArray = args at C0 ⊢
  have C0 : Cx D (tyA cI cZ) RX2 cX2_canFill 2 (some .boolean) p s m args meth c := C0
  refine J_sub (lv' := [(0, .ref (ad 39)), (1, .int x1)]) [0, 1] rfl ?_
  unfold f_X2_canFill
  refine J_aload_n (pc := 0) C0 0 dX2_canFill_0 rfl rfl ?_
  refine J_iload_n (pc := 1) C0 1 dX2_canFill_1 rfl rfl ?_
  refine J_aload_n (pc := 2) C0 0 dX2_canFill_2 rfl rfl ?_
  refine J_get (pc := 3) (v := .ref (ad 38)) C0 39 wC_o39 rfl in_X2 1 (by decide) q126 rfl dX2_canFill_3 ?_
  refine J_getN (pc := 6) (v := .ref (ad 11)) C0 38 wC_o38 rfl in_X1 2 (by decide) q340 rfl dX2_canFill_6 ?_
  refine fin_V (fun r_ h_ => run_V (As := [.int x1, .ref (ad 11)]) (rest := []) (q0 := 39) C0 (c_X2_begin σ x1 11 (by decide) r_ h_) v_X2_begin q341 wC_o39 rfl rfl ⟨rfl, rfl⟩ (Rm_ok (by decide) (by decide)) rfl (Nat.le_of_ble_eq_true rfl) dX2_canFill_9) (fun σ9 e9 => ?_)
  refine J_aload_n (pc := 12) C0 0 dX2_canFill_12 rfl rfl ?_
  refine J_iconst (pc := 13) (v := 0) C0 dX2_canFill_13 (by decide) ?_
  refine J_iconst (pc := 14) (v := 1) C0 dX2_canFill_14 (by decide) ?_
  refine fin_I (fun r_ h_ => run_S (As := [.ref (ad 39), .int 0, .int 1]) (rest := []) C0 (c_X2_ways σ9 0 1  r_ h_) v_X2_ways q337 rfl ⟨rfl, rfl⟩ (Rm_ok (by decide) (by decide)) rfl (Nat.le_of_ble_eq_true rfl) dX2_canFill_15) (fun r15 σ15 e15 => ?_)
  refine J_if_le (pc := 18) (tgt := 25) C0 dX2_canFill_18 (by decide) (fun h_18 => ?_) (fun h_18 => ?_)
  · refine J_iconst (pc := 25) (v := 0) C0 dX2_canFill_25 (by decide) ?_
    exact J_zret0 (Or.inl rfl) C0 dX2_canFill_26
  · refine J_iconst (pc := 21) (v := 1) C0 dX2_canFill_21 (by decide) ?_
    refine J_goto (pc := 22) (tgt := 26) C0 dX2_canFill_22 (by decide) ?_
    exact J_zret0 (Or.inr rfl) C0 dX2_canFill_26
end SE

def f_X2_fillings (σ : SC) (x1 : Int32) : Option (Int32 × SC) :=
  ((f_X2_begin σ (((1 : Int32) <<< ((σ 17 1) &&& 31)) - 1) 12).bind fun σ19 => (bnd (f_X2_ways 12 σ19 0 x1) fun r25 σ25 => (some (r25, σ25))))
section SE
variable {p : Program} {l : Launch} {e : Env} {s : State} {m : MethodId} {args : Array Value} {below : List Frame} {meth : Method} {c : Code} {D : va_G} {cI cZ : ClassId} {A : Nat → Prop} {ad : Nat → Nat}
set_option maxRecDepth 100000 in
set_option maxHeartbeats 4000000 in
theorem c_X2_fillings {l : Launch} {D : va_G} {cI cZ : ClassId} {A : Nat → Prop} {ad : Nat → Nat} (σ : SC) (x1 : Int32)  (r : (Int32 × SC)) (h : f_X2_fillings σ x1 = some r) : Met l yX2_fillings (.code yX2_fillings cX2_fillings 2 (some .int) :: wG) (Rm 17) (PreW D (tyA cI cZ) A (wC ad cI) [.ref (ad 39), .int x1] σ) (QI D A (wC ad cI) r) 0 0 A := by
  refine met_of (M := f_X2_fillings σ x1) (Qc := (QI D A (wC ad cI))) (by decide) (Nat.le_of_ble_eq_true rfl) h (fun p e s m below meth c C0 => ?_)
  generalize hargs : ([.ref (ad 39), .int x1] : List Value).toArray = args at C0 ⊢
  have C0 : Cx D (tyA cI cZ) RX2 cX2_fillings 2 (some .int) p s m args meth c := C0
  refine J_sub (lv' := [(0, .ref (ad 39)), (1, .int x1)]) [0, 1] rfl ?_
  unfold f_X2_fillings
  refine J_aload_n (pc := 0) C0 0 dX2_fillings_0 rfl rfl ?_
  refine J_iconst (pc := 1) (v := 1) C0 dX2_fillings_1 (by decide) ?_
  refine J_aload_n (pc := 2) C0 0 dX2_fillings_2 rfl rfl ?_
  refine J_get (pc := 3) (v := .ref (ad 36)) C0 39 wC_o39 rfl in_X2 0 (by decide) q68 rfl dX2_fillings_3 ?_
  refine J_getN (pc := 6) (v := .int (σ 17 1)) C0 36 wC_o36 rfl in_X6 6 (by decide) q69 rfl dX2_fillings_6 ?_
  refine J_ishl (pc := 9) C0 dX2_fillings_9 ?_
  refine J_iconst (pc := 10) (v := 1) C0 dX2_fillings_10 (by decide) ?_
  refine J_isub (pc := 11) C0 dX2_fillings_11 ?_
  refine J_aload_n (pc := 12) C0 0 dX2_fillings_12 rfl rfl ?_
  refine J_get (pc := 13) (v := .ref (ad 38)) C0 39 wC_o39 rfl in_X2 1 (by decide) q126 rfl dX2_fillings_13 ?_
  refine J_getN (pc := 16) (v := .ref (ad 12)) C0 38 wC_o38 rfl in_X1 3 (by decide) q345 rfl dX2_fillings_16 ?_
  refine fin_V (fun r_ h_ => run_V (As := [.int (((1 : Int32) <<< ((σ 17 1) &&& 31)) - 1), .ref (ad 12)]) (rest := []) (q0 := 39) C0 (c_X2_begin σ (((1 : Int32) <<< ((σ 17 1) &&& 31)) - 1) 12 (by decide) r_ h_) v_X2_begin q341 wC_o39 rfl rfl ⟨rfl, rfl⟩ (Rm_ok (by decide) (by decide)) rfl (Nat.le_of_ble_eq_true rfl) dX2_fillings_19) (fun σ19 e19 => ?_)
  refine J_aload_n (pc := 22) C0 0 dX2_fillings_22 rfl rfl ?_
  refine J_iconst (pc := 23) (v := 0) C0 dX2_fillings_23 (by decide) ?_
  refine J_iload_n (pc := 24) C0 1 dX2_fillings_24 rfl rfl ?_
  refine fin_I (fun r_ h_ => run_S (As := [.ref (ad 39), .int 0, .int x1]) (rest := []) C0 (c_X2_ways σ19 0 x1  r_ h_) v_X2_ways q337 rfl ⟨rfl, rfl⟩ (Rm_ok (by decide) (by decide)) rfl (Nat.le_of_ble_eq_true rfl) dX2_fillings_25) (fun r25 σ25 e25 => ?_)
  exact J_iret C0 dX2_fillings_28
end SE

def f_X2_fillingsWith (σ : SC) (x1 : Int32) (x2 : Int32) (x3 : Int32) : Option (Int32 × SC) :=
  ((f_X2_begin σ (((1 : Int32) <<< ((σ 17 1) &&& 31)) - 1) 12).bind fun σ19 => (bnd (f_X2_ways 12 (wr σ19 14 x1 ((rd σ19 14 x1) &&& ((1 : Int32) <<< (x2 &&& 31)))) 0 x3) fun r45 σ45 => (some (r45, σ45))))
section SE
variable {p : Program} {l : Launch} {e : Env} {s : State} {m : MethodId} {args : Array Value} {below : List Frame} {meth : Method} {c : Code} {D : va_G} {cI cZ : ClassId} {A : Nat → Prop} {ad : Nat → Nat}
set_option maxRecDepth 100000 in
set_option maxHeartbeats 4000000 in
theorem c_X2_fillingsWith {l : Launch} {D : va_G} {cI cZ : ClassId} {A : Nat → Prop} {ad : Nat → Nat} (σ : SC) (x1 : Int32) (x2 : Int32) (x3 : Int32)  (r : (Int32 × SC)) (h : f_X2_fillingsWith σ x1 x2 x3 = some r) : Met l yX2_fillingsWith (.code yX2_fillingsWith cX2_fillingsWith 4 (some .int) :: wG) (Rm 17) (PreW D (tyA cI cZ) A (wC ad cI) [.ref (ad 39), .int x1, .int x2, .int x3] σ) (QI D A (wC ad cI) r) 0 0 A := by
  refine met_of (M := f_X2_fillingsWith σ x1 x2 x3) (Qc := (QI D A (wC ad cI))) (by decide) (Nat.le_of_ble_eq_true rfl) h (fun p e s m below meth c C0 => ?_)
  generalize hargs : ([.ref (ad 39), .int x1, .int x2, .int x3] : List Value).toArray = args at C0 ⊢
  have C0 : Cx D (tyA cI cZ) RX2 cX2_fillingsWith 4 (some .int) p s m args meth c := C0
  refine J_sub (lv' := [(0, .ref (ad 39)), (1, .int x1), (2, .int x2), (3, .int x3)]) [0, 1, 2, 3] rfl ?_
  unfold f_X2_fillingsWith
  refine J_aload_n (pc := 0) C0 0 dX2_fillingsWith_0 rfl rfl ?_
  refine J_iconst (pc := 1) (v := 1) C0 dX2_fillingsWith_1 (by decide) ?_
  refine J_aload_n (pc := 2) C0 0 dX2_fillingsWith_2 rfl rfl ?_
  refine J_get (pc := 3) (v := .ref (ad 36)) C0 39 wC_o39 rfl in_X2 0 (by decide) q68 rfl dX2_fillingsWith_3 ?_
  refine J_getN (pc := 6) (v := .int (σ 17 1)) C0 36 wC_o36 rfl in_X6 6 (by decide) q69 rfl dX2_fillingsWith_6 ?_
  refine J_ishl (pc := 9) C0 dX2_fillingsWith_9 ?_
  refine J_iconst (pc := 10) (v := 1) C0 dX2_fillingsWith_10 (by decide) ?_
  refine J_isub (pc := 11) C0 dX2_fillingsWith_11 ?_
  refine J_aload_n (pc := 12) C0 0 dX2_fillingsWith_12 rfl rfl ?_
  refine J_get (pc := 13) (v := .ref (ad 38)) C0 39 wC_o39 rfl in_X2 1 (by decide) q126 rfl dX2_fillingsWith_13 ?_
  refine J_getN (pc := 16) (v := .ref (ad 12)) C0 38 wC_o38 rfl in_X1 3 (by decide) q345 rfl dX2_fillingsWith_16 ?_
  refine fin_V (fun r_ h_ => run_V (As := [.int (((1 : Int32) <<< ((σ 17 1) &&& 31)) - 1), .ref (ad 12)]) (rest := []) (q0 := 39) C0 (c_X2_begin σ (((1 : Int32) <<< ((σ 17 1) &&& 31)) - 1) 12 (by decide) r_ h_) v_X2_begin q341 wC_o39 rfl rfl ⟨rfl, rfl⟩ (Rm_ok (by decide) (by decide)) rfl (Nat.le_of_ble_eq_true rfl) dX2_fillingsWith_19) (fun σ19 e19 => ?_)
  refine J_aload_n (pc := 22) C0 0 dX2_fillingsWith_22 rfl rfl ?_
  refine J_get (pc := 23) (v := .ref (ad 14)) C0 39 wC_o39 rfl in_X2 4 (by decide) q73 rfl dX2_fillingsWith_23 ?_
  refine J_iload_n (pc := 26) C0 1 dX2_fillingsWith_26 rfl rfl ?_
  refine J_aload_n (pc := 27) C0 0 dX2_fillingsWith_27 rfl rfl ?_
  refine J_get (pc := 28) (v := .ref (ad 14)) C0 39 wC_o39 rfl in_X2 4 (by decide) q73 rfl dX2_fillingsWith_28 ?_
  refine J_iload_n (pc := 31) C0 1 dX2_fillingsWith_31 rfl rfl ?_
  refine fin_T (run_V (As := [.int x1]) (rest := [.int x1, .ref (ad 14)]) (q0 := 14) C0 (cT_X5_get σ19 14 x1 (by decide)) v_X5_get q74 (wC_row (by decide)) rfl rfl ⟨rfl, rfl⟩ (Rm_ok (by decide) (by decide)) rfl (Nat.le_of_ble_eq_true rfl) dX2_fillingsWith_32) ?_
  refine J_iconst (pc := 35) (v := 1) C0 dX2_fillingsWith_35 (by decide) ?_
  refine J_iload_n (pc := 36) C0 2 dX2_fillingsWith_36 rfl rfl ?_
  refine J_ishl (pc := 37) C0 dX2_fillingsWith_37 ?_
  refine J_iand (pc := 38) C0 dX2_fillingsWith_38 ?_
  refine fin_TV (run_V (As := [.int x1, .int ((rd σ19 14 x1) &&& ((1 : Int32) <<< (x2 &&& 31)))]) (rest := []) (q0 := 14) C0 (cT_X5_set σ19 14 x1 ((rd σ19 14 x1) &&& ((1 : Int32) <<< (x2 &&& 31))) (by decide)) v_X5_set q72 (wC_row (by decide)) rfl rfl ⟨rfl, rfl⟩ (Rm_ok (by decide) (by decide)) rfl (Nat.le_of_ble_eq_true rfl) dX2_fillingsWith_39) ?_
  refine J_aload_n (pc := 42) C0 0 dX2_fillingsWith_42 rfl rfl ?_
  refine J_iconst (pc := 43) (v := 0) C0 dX2_fillingsWith_43 (by decide) ?_
  refine J_iload_n (pc := 44) C0 3 dX2_fillingsWith_44 rfl rfl ?_
  refine fin_I (fun r_ h_ => run_S (As := [.ref (ad 39), .int 0, .int x3]) (rest := []) C0 (c_X2_ways (wr σ19 14 x1 ((rd σ19 14 x1) &&& ((1 : Int32) <<< (x2 &&& 31)))) 0 x3  r_ h_) v_X2_ways q337 rfl ⟨rfl, rfl⟩ (Rm_ok (by decide) (by decide)) rfl (Nat.le_of_ble_eq_true rfl) dX2_fillingsWith_45) (fun r45 σ45 e45 => ?_)
  exact J_iret C0 dX2_fillingsWith_48
end SE

def f_X7_knottedSlots_L38 (x1 : Int32) (x2 : Int32) (kx72 : SC → Option (Int32 × SC)) : Nat → SC → Int32 → Option (Int32 × SC)
  | 0, _, _ => none
  | n + 1, σ, x3 =>
  (if ((1 : Int32) <<< (x1 &&& 31)) ≤ x3 then (kx72 σ) else ((f_J6_bitCount_0f7a4 x3).bind fun r46 => (if r46 = x2 then (bnd (f_X2_canFill σ x3) fun r58 σ58 => (if r58 = 0 then (some (x3, σ58)) else (f_X7_knottedSlots_L38 x1 x2 kx72 n σ58 (x3 + 1)))) else (f_X7_knottedSlots_L38 x1 x2 kx72 n σ (x3 + 1)))))
theorem f_X7_knottedSlots_L38_s (x1 : Int32) (x2 : Int32) (kx72 : SC → Option (Int32 × SC)) (n : Nat) (σ : SC) (x3 : Int32) : f_X7_knottedSlots_L38 x1 x2 kx72 (n + 1) σ x3 = ((if ((1 : Int32) <<< (x1 &&& 31)) ≤ x3 then (kx72 σ) else ((f_J6_bitCount_0f7a4 x3).bind fun r46 => (if r46 = x2 then (bnd (f_X2_canFill σ x3) fun r58 σ58 => (if r58 = 0 then (some (x3, σ58)) else (f_X7_knottedSlots_L38 x1 x2 kx72 n σ58 (x3 + 1)))) else (f_X7_knottedSlots_L38 x1 x2 kx72 n σ (x3 + 1)))))) := rfl
def f_X7_knottedSlots_L31 (x1 : Int32) : Nat → SC → Int32 → Option (Int32 × SC)
  | 0, _, _ => none
  | n + 1, σ, x2 =>
  (if x1 < x2 then (some (0, σ)) else (f_X7_knottedSlots_L38 x1 x2 (fun σ_72 => (f_X7_knottedSlots_L31 x1 n σ_72 (x2 + 1))) FU σ 1))
theorem f_X7_knottedSlots_L31_s (x1 : Int32) (n : Nat) (σ : SC) (x2 : Int32) : f_X7_knottedSlots_L31 x1 (n + 1) σ x2 = ((if x1 < x2 then (some (0, σ)) else (f_X7_knottedSlots_L38 x1 x2 (fun σ_72 => (f_X7_knottedSlots_L31 x1 n σ_72 (x2 + 1))) FU σ 1))) := rfl
def f_X7_knottedSlots (σ : SC)  : Option (Int32 × SC) :=
  (if (σ 17 1) ≤ (nI 6) then (bnd (f_X2_fillings σ 1) fun r21 σ21 => (if r21 ≤ 0 then (f_X7_knottedSlots_L31 (σ 17 1) FU σ21 1) else (some (0, σ21)))) else (some ((-1), σ)))
section SE
variable {p : Program} {l : Launch} {e : Env} {s : State} {m : MethodId} {args : Array Value} {below : List Frame} {meth : Method} {c : Code} {D : va_G} {cI cZ : ClassId} {A : Nat → Prop} {ad : Nat → Nat}
set_option maxRecDepth 100000 in
set_option maxHeartbeats 4000000 in
theorem j_X7_knottedSlots_L38 (C0 : Cx D (tyA cI cZ) RX7 cX7_knottedSlots 4 (some .int) p s m args meth c) (x1 : Int32) (x2 : Int32) (kx72 : SC → Option (Int32 × SC)) (hkx72 : ∀ (σ : SC), J p l e (Rm 18) s m args below meth c D A (wC ad cI) 4 (QI D A (wC ad cI)) (kx72 σ) σ [(0, .ref (ad 34)), (1, .int x1), (2, .int x2)] [] 72) : ∀ (n : Nat) (σ : SC) (x3 : Int32), J p l e (Rm 18) s m args below meth c D A (wC ad cI) 4 (QI D A (wC ad cI)) (f_X7_knottedSlots_L38 x1 x2 kx72 n σ x3) σ [(0, .ref (ad 34)), (1, .int x1), (2, .int x2), (3, .int x3)] [] 38 := by
  intro n
  induction n with
  | zero => intros; exact J_none
  | succ n ih =>
    intro σ x3
    refine J_eq (f_X7_knottedSlots_L38_s x1 x2 kx72 n σ x3) ?_
    refine J_iload_n (pc := 38) C0 3 dX7_knottedSlots_38 rfl rfl ?_
    refine J_iconst (pc := 39) (v := 1) C0 dX7_knottedSlots_39 (by decide) ?_
    refine J_iload_n (pc := 40) C0 1 dX7_knottedSlots_40 rfl rfl ?_
    refine J_ishl (pc := 41) C0 dX7_knottedSlots_41 ?_
    refine J_icmp_ge (pc := 42) (tgt := 72) C0 dX7_knottedSlots_42 (by decide) (fun h_42 => ?_) (fun h_42 => ?_)
    · refine J_sub (lv' := [(0, .ref (ad 34)), (1, .int x1), (2, .int x2)]) [0, 1, 2] rfl ?_
      exact hkx72 σ
    · refine J_iload_n (pc := 45) C0 3 dX7_knottedSlots_45 rfl rfl ?_
      refine fin_P (fun r_ h_ => run_S (As := [.int x3]) (rest := []) C0 (c_J6_bitCount_0f7a4 σ x3  r_ h_) v_J6_bitCount_0f7a4 q101 rfl ⟨rfl, rfl⟩ (Rm_ok (by decide) (by decide)) rfl (Nat.le_of_ble_eq_true rfl) dX7_knottedSlots_46) (fun r46 e46 => ?_)
      refine J_iload_n (pc := 49) C0 2 dX7_knottedSlots_49 rfl rfl ?_
      refine J_icmp_ne (pc := 50) (tgt := 66) C0 dX7_knottedSlots_50 (by decide) (fun h_50 => ?_) (fun h_50 => ?_)
      · refine J_iinc (pc := 66) (d := 1) (lv' := [(3, .int (x3 + 1)), (0, .ref (ad 34)), (1, .int x1), (2, .int x2)]) C0 3 dX7_knottedSlots_66 rfl (by decide) (by decide) rfl ?_
        refine J_goto (pc := 69) (tgt := 38) C0 dX7_knottedSlots_69 (by decide) ?_
        refine J_sub (lv' := [(0, .ref (ad 34)), (1, .int x1), (2, .int x2), (3, .int (x3 + 1))]) [1, 2, 3, 0] rfl ?_
        exact ih σ (x3 + 1)
      · refine J_aload_n (pc := 53) C0 0 dX7_knottedSlots_53 rfl rfl ?_
        refine J_get (pc := 54) (v := .ref (ad 39)) C0 34 wC_o34 rfl in_X7 4 (by decide) q346 rfl dX7_knottedSlots_54 ?_
        refine J_iload_n (pc := 57) C0 3 dX7_knottedSlots_57 rfl rfl ?_
        refine fin_I (fun r_ h_ => run_V (As := [.int x3]) (rest := []) (q0 := 39) C0 (c_X2_canFill σ x3  r_ h_) v_X2_canFill q351 wC_o39 rfl rfl ⟨rfl, rfl⟩ (Rm_ok (by decide) (by decide)) rfl (Nat.le_of_ble_eq_true rfl) dX7_knottedSlots_58) (fun r58 σ58 e58 => ?_)
        refine J_if_ne (pc := 61) (tgt := 66) C0 dX7_knottedSlots_61 (by decide) (fun h_61 => ?_) (fun h_61 => ?_)
        · refine J_iinc (pc := 66) (d := 1) (lv' := [(3, .int (x3 + 1)), (0, .ref (ad 34)), (1, .int x1), (2, .int x2)]) C0 3 dX7_knottedSlots_66 rfl (by decide) (by decide) rfl ?_
          refine J_goto (pc := 69) (tgt := 38) C0 dX7_knottedSlots_69 (by decide) ?_
          refine J_sub (lv' := [(0, .ref (ad 34)), (1, .int x1), (2, .int x2), (3, .int (x3 + 1))]) [1, 2, 3, 0] rfl ?_
          exact ih σ58 (x3 + 1)
        · refine J_iload_n (pc := 64) C0 3 dX7_knottedSlots_64 rfl rfl ?_
          exact J_iret C0 dX7_knottedSlots_65
set_option maxRecDepth 100000 in
set_option maxHeartbeats 4000000 in
theorem j_X7_knottedSlots_L31 (C0 : Cx D (tyA cI cZ) RX7 cX7_knottedSlots 4 (some .int) p s m args meth c) (x1 : Int32) : ∀ (n : Nat) (σ : SC) (x2 : Int32), J p l e (Rm 18) s m args below meth c D A (wC ad cI) 4 (QI D A (wC ad cI)) (f_X7_knottedSlots_L31 x1 n σ x2) σ [(0, .ref (ad 34)), (1, .int x1), (2, .int x2)] [] 31 := by
  intro n
  induction n with
  | zero => intros; exact J_none
  | succ n ih =>
    intro σ x2
    refine J_eq (f_X7_knottedSlots_L31_s x1 n σ x2) ?_
    refine J_iload_n (pc := 31) C0 2 dX7_knottedSlots_31 rfl rfl ?_
    refine J_iload_n (pc := 32) C0 1 dX7_knottedSlots_32 rfl rfl ?_
    refine J_icmp_gt (pc := 33) (tgt := 78) C0 dX7_knottedSlots_33 (by decide) (fun h_33 => ?_) (fun h_33 => ?_)
    · refine J_iconst (pc := 78) (v := 0) C0 dX7_knottedSlots_78 (by decide) ?_
      exact J_iret C0 dX7_knottedSlots_79
    · refine J_iconst (pc := 36) (v := 1) C0 dX7_knottedSlots_36 (by decide) ?_
      refine J_istore_n (pc := 37) (lv' := [(3, .int 1), (0, .ref (ad 34)), (1, .int x1), (2, .int x2)]) C0 dX7_knottedSlots_37 rfl (by decide) rfl ?_
      refine J_sub (lv' := [(0, .ref (ad 34)), (1, .int x1), (2, .int x2), (3, .int 1)]) [1, 2, 3, 0] rfl ?_
      refine j_X7_knottedSlots_L38 C0 x1 x2 _ (fun σ_72 => ?_) FU σ 1
      refine J_iinc (pc := 72) (d := 1) (lv' := [(2, .int (x2 + 1)), (0, .ref (ad 34)), (1, .int x1)]) C0 2 dX7_knottedSlots_72 rfl (by decide) (by decide) rfl ?_
      refine J_goto (pc := 75) (tgt := 31) C0 dX7_knottedSlots_75 (by decide) ?_
      refine J_sub (lv' := [(0, .ref (ad 34)), (1, .int x1), (2, .int (x2 + 1))]) [1, 2, 0] rfl ?_
      exact ih σ_72 (x2 + 1)
set_option maxRecDepth 100000 in
set_option maxHeartbeats 4000000 in
theorem c_X7_knottedSlots {l : Launch} {D : va_G} {cI cZ : ClassId} {A : Nat → Prop} {ad : Nat → Nat} (σ : SC)   (r : (Int32 × SC)) (h : f_X7_knottedSlots σ = some r) : Met l yX7_knottedSlots (.code yX7_knottedSlots cX7_knottedSlots 4 (some .int) :: wG) (Rm 18) (PreW D (tyA cI cZ) A (wC ad cI) [.ref (ad 34)] σ) (QI D A (wC ad cI) r) 0 0 A := by
  refine met_of (M := f_X7_knottedSlots σ) (Qc := (QI D A (wC ad cI))) (by decide) (Nat.le_of_ble_eq_true rfl) h (fun p e s m below meth c C0 => ?_)
  generalize hargs : ([.ref (ad 34)] : List Value).toArray = args at C0 ⊢
  have C0 : Cx D (tyA cI cZ) RX7 cX7_knottedSlots 4 (some .int) p s m args meth c := C0
  refine J_sub (lv' := [(0, .ref (ad 34))]) [0] rfl ?_
  unfold f_X7_knottedSlots
  refine J_aload_n (pc := 0) C0 0 dX7_knottedSlots_0 rfl rfl ?_
  refine J_get (pc := 1) (v := .ref (ad 36)) C0 34 wC_o34 rfl in_X7 1 (by decide) q15 rfl dX7_knottedSlots_1 ?_
  refine J_getN (pc := 4) (v := .int (σ 17 1)) C0 36 wC_o36 rfl in_X6 6 (by decide) q22 rfl dX7_knottedSlots_4 ?_
  refine J_istore_n (pc := 7) (lv' := [(1, .int (σ 17 1)), (0, .ref (ad 34))]) C0 dX7_knottedSlots_7 rfl (by decide) rfl ?_
  refine J_iload_n (pc := 8) C0 0 dX7_knottedSlots_8 rfl rfl ?_
  refine J_bipush (pc := 9) (v := (nI 6)) C0 dX7_knottedSlots_9 (by decide) ?_
  refine J_icmp_le (pc := 11) (tgt := 16) C0 dX7_knottedSlots_11 (by decide) (fun h_11 => ?_) (fun h_11 => ?_)
  · refine J_aload_n (pc := 16) C0 1 dX7_knottedSlots_16 rfl rfl ?_
    refine J_get (pc := 17) (v := .ref (ad 39)) C0 34 wC_o34 rfl in_X7 4 (by decide) q346 rfl dX7_knottedSlots_17 ?_
    refine J_iconst (pc := 20) (v := 1) C0 dX7_knottedSlots_20 (by decide) ?_
    refine fin_I (fun r_ h_ => run_V (As := [.int 1]) (rest := []) (q0 := 39) C0 (c_X2_fillings σ 1  r_ h_) v_X2_fillings q347 wC_o39 rfl rfl ⟨rfl, rfl⟩ (Rm_ok (by decide) (by decide)) rfl (Nat.le_of_ble_eq_true rfl) dX7_knottedSlots_21) (fun r21 σ21 e21 => ?_)
    refine J_if_le (pc := 24) (tgt := 29) C0 dX7_knottedSlots_24 (by decide) (fun h_24 => ?_) (fun h_24 => ?_)
    · refine J_iconst (pc := 29) (v := 1) C0 dX7_knottedSlots_29 (by decide) ?_
      refine J_istore_n (pc := 30) (lv' := [(2, .int 1), (1, .int (σ 17 1)), (0, .ref (ad 34))]) C0 dX7_knottedSlots_30 rfl (by decide) rfl ?_
      refine J_sub (lv' := [(0, .ref (ad 34)), (1, .int (σ 17 1)), (2, .int 1)]) [2, 1, 0] rfl ?_
      exact j_X7_knottedSlots_L31 C0 (σ 17 1) FU σ21 1
    · refine J_iconst (pc := 27) (v := 0) C0 dX7_knottedSlots_27 (by decide) ?_
      exact J_iret C0 dX7_knottedSlots_28
  · refine J_iconst (pc := 14) (v := (-1)) C0 dX7_knottedSlots_14 (by decide) ?_
    exact J_iret C0 dX7_knottedSlots_15
end SE

def f_X7_with (σ : SC) (x1 : Int32) (x2 : Int32) : Option (Int32 × SC) :=
  ((f_X7_isSlot σ x1).bind fun r2 => (if r2 = 0 then (some ((-1000000001), σ)) else ((f_X7_isWord σ x2).bind fun r10 => (if r10 = 0 then (some ((-1000000001), σ)) else (bnd (f_X2_fillingsWith σ x1 x2 (nI 999)) fun r28 σ28 => (some (r28, σ28)))))))
section SE
variable {p : Program} {l : Launch} {e : Env} {s : State} {m : MethodId} {args : Array Value} {below : List Frame} {meth : Method} {c : Code} {D : va_G} {cI cZ : ClassId} {A : Nat → Prop} {ad : Nat → Nat}
set_option maxRecDepth 100000 in
set_option maxHeartbeats 4000000 in
theorem c_X7_with {l : Launch} {D : va_G} {cI cZ : ClassId} {A : Nat → Prop} {ad : Nat → Nat} (σ : SC) (x1 : Int32) (x2 : Int32)  (r : (Int32 × SC)) (h : f_X7_with σ x1 x2 = some r) : Met l yX7_with (.code yX7_with cX7_with 3 (some .int) :: wG) (Rm 18) (PreW D (tyA cI cZ) A (wC ad cI) [.ref (ad 34), .int x1, .int x2] σ) (QI D A (wC ad cI) r) 0 0 A := by
  refine met_of (M := f_X7_with σ x1 x2) (Qc := (QI D A (wC ad cI))) (by decide) (Nat.le_of_ble_eq_true rfl) h (fun p e s m below meth c C0 => ?_)
  generalize hargs : ([.ref (ad 34), .int x1, .int x2] : List Value).toArray = args at C0 ⊢
  have C0 : Cx D (tyA cI cZ) RX7 cX7_with 3 (some .int) p s m args meth c := C0
  refine J_sub (lv' := [(0, .ref (ad 34)), (1, .int x1), (2, .int x2)]) [0, 1, 2] rfl ?_
  unfold f_X7_with
  refine J_aload_n (pc := 0) C0 0 dX7_with_0 rfl rfl ?_
  refine J_iload_n (pc := 1) C0 1 dX7_with_1 rfl rfl ?_
  refine fin_P (fun r_ h_ => run_V (As := [.int x1]) (rest := []) (q0 := 34) C0 (c_X7_isSlot σ x1  r_ h_) v_X7_isSlot q188 wC_o34 rfl rfl ⟨rfl, rfl⟩ (Rm_ok (by decide) (by decide)) rfl (Nat.le_of_ble_eq_true rfl) dX7_with_2) (fun r2 e2 => ?_)
  refine J_if_eq (pc := 5) (tgt := 16) C0 dX7_with_5 (by decide) (fun h_5 => ?_) (fun h_5 => ?_)
  · refine J_ldc (pc := 16) C0 q192 dX7_with_16 ?_
    exact J_iret C0 dX7_with_18
  · refine J_aload_n (pc := 8) C0 0 dX7_with_8 rfl rfl ?_
    refine J_iload_n (pc := 9) C0 2 dX7_with_9 rfl rfl ?_
    refine fin_P (fun r_ h_ => run_V (As := [.int x2]) (rest := []) (q0 := 34) C0 (c_X7_isWord σ x2  r_ h_) v_X7_isWord q193 wC_o34 rfl rfl ⟨rfl, rfl⟩ (Rm_ok (by decide) (by decide)) rfl (Nat.le_of_ble_eq_true rfl) dX7_with_10) (fun r10 e10 => ?_)
    refine J_if_ne (pc := 13) (tgt := 19) C0 dX7_with_13 (by decide) (fun h_13 => ?_) (fun h_13 => ?_)
    · refine J_aload_n (pc := 19) C0 0 dX7_with_19 rfl rfl ?_
      refine J_get (pc := 20) (v := .ref (ad 39)) C0 34 wC_o34 rfl in_X7 4 (by decide) q346 rfl dX7_with_20 ?_
      refine J_iload_n (pc := 23) C0 1 dX7_with_23 rfl rfl ?_
      refine J_iload_n (pc := 24) C0 2 dX7_with_24 rfl rfl ?_
      refine J_sipush (pc := 25) (v := (nI 999)) C0 dX7_with_25 (by decide) ?_
      refine fin_I (fun r_ h_ => run_V (As := [.int x1, .int x2, .int (nI 999)]) (rest := []) (q0 := 39) C0 (c_X2_fillingsWith σ x1 x2 (nI 999)  r_ h_) v_X2_fillingsWith q355 wC_o39 rfl rfl ⟨rfl, rfl⟩ (Rm_ok (by decide) (by decide)) rfl (Nat.le_of_ble_eq_true rfl) dX7_with_28) (fun r28 σ28 e28 => ?_)
      exact J_iret C0 dX7_with_31
    · refine J_ldc (pc := 16) C0 q192 dX7_with_16 ?_
      exact J_iret C0 dX7_with_18
end SE

def f_X7_wordInFirstFilling (σ : SC) (x1 : Int32) : Option (Int32 × SC) :=
  (bnd (f_X2_fillings σ 1) fun r5 σ5 => (if r5 = 0 then (some ((-1), σ5)) else (some ((rd σ5 15 x1), σ5))))
section SE
variable {p : Program} {l : Launch} {e : Env} {s : State} {m : MethodId} {args : Array Value} {below : List Frame} {meth : Method} {c : Code} {D : va_G} {cI cZ : ClassId} {A : Nat → Prop} {ad : Nat → Nat}
set_option maxRecDepth 100000 in
set_option maxHeartbeats 4000000 in
theorem c_X7_wordInFirstFilling {l : Launch} {D : va_G} {cI cZ : ClassId} {A : Nat → Prop} {ad : Nat → Nat} (σ : SC) (x1 : Int32)  (r : (Int32 × SC)) (h : f_X7_wordInFirstFilling σ x1 = some r) : Met l yX7_wordInFirstFilling (.code yX7_wordInFirstFilling cX7_wordInFirstFilling 2 (some .int) :: wG) (Rm 18) (PreW D (tyA cI cZ) A (wC ad cI) [.ref (ad 34), .int x1] σ) (QI D A (wC ad cI) r) 0 0 A := by
  refine met_of (M := f_X7_wordInFirstFilling σ x1) (Qc := (QI D A (wC ad cI))) (by decide) (Nat.le_of_ble_eq_true rfl) h (fun p e s m below meth c C0 => ?_)
  generalize hargs : ([.ref (ad 34), .int x1] : List Value).toArray = args at C0 ⊢
  have C0 : Cx D (tyA cI cZ) RX7 cX7_wordInFirstFilling 2 (some .int) p s m args meth c := C0
  refine J_sub (lv' := [(0, .ref (ad 34)), (1, .int x1)]) [0, 1] rfl ?_
  unfold f_X7_wordInFirstFilling
  refine J_aload_n (pc := 0) C0 0 dX7_wordInFirstFilling_0 rfl rfl ?_
  refine J_get (pc := 1) (v := .ref (ad 39)) C0 34 wC_o34 rfl in_X7 4 (by decide) q346 rfl dX7_wordInFirstFilling_1 ?_
  refine J_iconst (pc := 4) (v := 1) C0 dX7_wordInFirstFilling_4 (by decide) ?_
  refine fin_I (fun r_ h_ => run_V (As := [.int 1]) (rest := []) (q0 := 39) C0 (c_X2_fillings σ 1  r_ h_) v_X2_fillings q347 wC_o39 rfl rfl ⟨rfl, rfl⟩ (Rm_ok (by decide) (by decide)) rfl (Nat.le_of_ble_eq_true rfl) dX7_wordInFirstFilling_5) (fun r5 σ5 e5 => ?_)
  refine J_if_ne (pc := 8) (tgt := 15) C0 dX7_wordInFirstFilling_8 (by decide) (fun h_8 => ?_) (fun h_8 => ?_)
  · refine J_aload_n (pc := 15) C0 0 dX7_wordInFirstFilling_15 rfl rfl ?_
    refine J_get (pc := 16) (v := .ref (ad 39)) C0 34 wC_o34 rfl in_X7 4 (by decide) q346 rfl dX7_wordInFirstFilling_16 ?_
    refine J_getN (pc := 19) (v := .ref (ad 15)) C0 39 wC_o39 rfl in_X2 5 (by decide) q359 rfl dX7_wordInFirstFilling_19 ?_
    refine J_iload_n (pc := 22) C0 1 dX7_wordInFirstFilling_22 rfl rfl ?_
    refine fin_T (run_V (As := [.int x1]) (rest := []) (q0 := 15) C0 (cT_X5_get σ5 15 x1 (by decide)) v_X5_get q100 (wC_row (by decide)) rfl rfl ⟨rfl, rfl⟩ (Rm_ok (by decide) (by decide)) rfl (Nat.le_of_ble_eq_true rfl) dX7_wordInFirstFilling_23) ?_
    exact J_iret C0 dX7_wordInFirstFilling_26
  · refine J_iconst (pc := 11) (v := (-1)) C0 dX7_wordInFirstFilling_11 (by decide) ?_
    refine J_goto (pc := 12) (tgt := 26) C0 dX7_wordInFirstFilling_12 (by decide) ?_
    exact J_iret C0 dX7_wordInFirstFilling_26
end SE

def f_X7_slot (σ : SC) (x1 : Int32) (x2 : Int32) : Option (Int32 × SC) :=
  ((f_X7_isSlot σ x1).bind fun r2 => (if r2 = 0 then (some ((-1000000001), σ)) else (if x2 = 0 then (some ((rd σ 2 x1), σ)) else (if x2 = 1 then (some ((rd σ 3 x1), σ)) else (if x2 = (nI 2) then ((f_X6_isDown σ x1).bind fun r89 => (if r89 = 0 then (some (0, σ)) else (some (1, σ)))) else (if x2 = (nI 3) then (some ((rd σ 4 x1), σ)) else (if x2 = (nI 4) then ((f_J6_bitCount_0f7a4 (rd σ 11 x1)).bind fun r124 => (some (r124, σ))) else (if x2 = (nI 5) then (some ((rd σ 12 x1), σ)) else (if x2 = (nI 6) then ((f_X6_codeIn σ x1).bind fun r153 => ((f_X0_numberOf σ r153).bind fun r156 => (some (r156, σ)))) else (if x2 = (nI 7) then (bnd (f_X7_wordInFirstFilling σ x1) fun r162 σ162 => (some (r162, σ162))) else (some ((-1000000002), σ))))))))))))
section SE
variable {p : Program} {l : Launch} {e : Env} {s : State} {m : MethodId} {args : Array Value} {below : List Frame} {meth : Method} {c : Code} {D : va_G} {cI cZ : ClassId} {A : Nat → Prop} {ad : Nat → Nat}
set_option maxRecDepth 100000 in
set_option maxHeartbeats 4000000 in
theorem c_X7_slot {l : Launch} {D : va_G} {cI cZ : ClassId} {A : Nat → Prop} {ad : Nat → Nat} (σ : SC) (x1 : Int32) (x2 : Int32)  (r : (Int32 × SC)) (h : f_X7_slot σ x1 x2 = some r) : Met l yX7_slot (.code yX7_slot cX7_slot 3 (some .int) :: wG) (Rm 19) (PreW D (tyA cI cZ) A (wC ad cI) [.ref (ad 34), .int x1, .int x2] σ) (QI D A (wC ad cI) r) 0 0 A := by
  refine met_of (M := f_X7_slot σ x1 x2) (Qc := (QI D A (wC ad cI))) (by decide) (Nat.le_of_ble_eq_true rfl) h (fun p e s m below meth c C0 => ?_)
  generalize hargs : ([.ref (ad 34), .int x1, .int x2] : List Value).toArray = args at C0 ⊢
  have C0 : Cx D (tyA cI cZ) RX7 cX7_slot 3 (some .int) p s m args meth c := C0
  refine J_sub (lv' := [(0, .ref (ad 34)), (1, .int x1), (2, .int x2)]) [0, 1, 2] rfl ?_
  unfold f_X7_slot
  refine J_aload_n (pc := 0) C0 0 dX7_slot_0 rfl rfl ?_
  refine J_iload_n (pc := 1) C0 1 dX7_slot_1 rfl rfl ?_
  refine fin_P (fun r_ h_ => run_V (As := [.int x1]) (rest := []) (q0 := 34) C0 (c_X7_isSlot σ x1  r_ h_) v_X7_isSlot q188 wC_o34 rfl rfl ⟨rfl, rfl⟩ (Rm_ok (by decide) (by decide)) rfl (Nat.le_of_ble_eq_true rfl) dX7_slot_2) (fun r2 e2 => ?_)
  refine J_if_ne (pc := 5) (tgt := 11) C0 dX7_slot_5 (by decide) (fun h_5 => ?_) (fun h_5 => ?_)
  · refine J_iload_n (pc := 11) C0 2 dX7_slot_11 rfl rfl ?_
    refine J_if (fun h_12_0 => ?_) (fun h_12_0 => ?_)
    · refine J_tblIn (pc := 12) (tgt := 60) C0 dX7_slot_12 h_12_0 (by decide) (by decide) rfl (by decide) ?_
      refine J_aload_n (pc := 60) C0 0 dX7_slot_60 rfl rfl ?_
      refine J_get (pc := 61) (v := .ref (ad 36)) C0 34 wC_o34 rfl in_X7 1 (by decide) q15 rfl dX7_slot_61 ?_
      refine J_getN (pc := 64) (v := .ref (ad 2)) C0 36 wC_o36 rfl in_X6 0 (by decide) q360 rfl dX7_slot_64 ?_
      refine J_iload_n (pc := 67) C0 1 dX7_slot_67 rfl rfl ?_
      refine fin_T (run_V (As := [.int x1]) (rest := []) (q0 := 2) C0 (cT_X5_get σ 2 x1 (by decide)) v_X5_get q100 (wC_row (by decide)) rfl rfl ⟨rfl, rfl⟩ (Rm_ok (by decide) (by decide)) rfl (Nat.le_of_ble_eq_true rfl) dX7_slot_68) ?_
      exact J_iret C0 dX7_slot_71
    refine J_if (fun h_12_1 => ?_) (fun h_12_1 => ?_)
    · refine J_tblIn (pc := 12) (tgt := 72) C0 dX7_slot_12 h_12_1 (by decide) (by decide) rfl (by decide) ?_
      refine J_aload_n (pc := 72) C0 0 dX7_slot_72 rfl rfl ?_
      refine J_get (pc := 73) (v := .ref (ad 36)) C0 34 wC_o34 rfl in_X7 1 (by decide) q15 rfl dX7_slot_73 ?_
      refine J_getN (pc := 76) (v := .ref (ad 3)) C0 36 wC_o36 rfl in_X6 1 (by decide) q200 rfl dX7_slot_76 ?_
      refine J_iload_n (pc := 79) C0 1 dX7_slot_79 rfl rfl ?_
      refine fin_T (run_V (As := [.int x1]) (rest := []) (q0 := 3) C0 (cT_X5_get σ 3 x1 (by decide)) v_X5_get q100 (wC_row (by decide)) rfl rfl ⟨rfl, rfl⟩ (Rm_ok (by decide) (by decide)) rfl (Nat.le_of_ble_eq_true rfl) dX7_slot_80) ?_
      exact J_iret C0 dX7_slot_83
    refine J_if (fun h_12_2 => ?_) (fun h_12_2 => ?_)
    · refine J_tblIn (pc := 12) (tgt := 84) C0 dX7_slot_12 h_12_2 (by decide) (by decide) rfl (by decide) ?_
      refine J_aload_n (pc := 84) C0 0 dX7_slot_84 rfl rfl ?_
      refine J_get (pc := 85) (v := .ref (ad 36)) C0 34 wC_o34 rfl in_X7 1 (by decide) q15 rfl dX7_slot_85 ?_
      refine J_iload_n (pc := 88) C0 1 dX7_slot_88 rfl rfl ?_
      refine fin_P (fun r_ h_ => run_V (As := [.int x1]) (rest := []) (q0 := 36) C0 (c_X6_isDown σ x1  r_ h_) v_X6_isDown q361 wC_o36 rfl rfl ⟨rfl, rfl⟩ (Rm_ok (by decide) (by decide)) rfl (Nat.le_of_ble_eq_true rfl) dX7_slot_89) (fun r89 e89 => ?_)
      refine J_if_eq (pc := 92) (tgt := 99) C0 dX7_slot_92 (by decide) (fun h_92 => ?_) (fun h_92 => ?_)
      · refine J_iconst (pc := 99) (v := 0) C0 dX7_slot_99 (by decide) ?_
        exact J_iret C0 dX7_slot_100
      · refine J_iconst (pc := 95) (v := 1) C0 dX7_slot_95 (by decide) ?_
        refine J_goto (pc := 96) (tgt := 100) C0 dX7_slot_96 (by decide) ?_
        exact J_iret C0 dX7_slot_100
    refine J_if (fun h_12_3 => ?_) (fun h_12_3 => ?_)
    · refine J_tblIn (pc := 12) (tgt := 101) C0 dX7_slot_12 h_12_3 (by decide) (by decide) rfl (by decide) ?_
      refine J_aload_n (pc := 101) C0 0 dX7_slot_101 rfl rfl ?_
      refine J_get (pc := 102) (v := .ref (ad 36)) C0 34 wC_o34 rfl in_X7 1 (by decide) q15 rfl dX7_slot_102 ?_
      refine J_getN (pc := 105) (v := .ref (ad 4)) C0 36 wC_o36 rfl in_X6 2 (by decide) q105 rfl dX7_slot_105 ?_
      refine J_iload_n (pc := 108) C0 1 dX7_slot_108 rfl rfl ?_
      refine fin_T (run_V (As := [.int x1]) (rest := []) (q0 := 4) C0 (cT_X5_get σ 4 x1 (by decide)) v_X5_get q100 (wC_row (by decide)) rfl rfl ⟨rfl, rfl⟩ (Rm_ok (by decide) (by decide)) rfl (Nat.le_of_ble_eq_true rfl) dX7_slot_109) ?_
      exact J_iret C0 dX7_slot_112
    refine J_if (fun h_12_4 => ?_) (fun h_12_4 => ?_)
    · refine J_tblIn (pc := 12) (tgt := 113) C0 dX7_slot_12 h_12_4 (by decide) (by decide) rfl (by decide) ?_
      refine J_aload_n (pc := 113) C0 0 dX7_slot_113 rfl rfl ?_
      refine J_get (pc := 114) (v := .ref (ad 38)) C0 34 wC_o34 rfl in_X7 3 (by decide) q98 rfl dX7_slot_114 ?_
      refine J_getN (pc := 117) (v := .ref (ad 11)) C0 38 wC_o38 rfl in_X1 2 (by decide) q198 rfl dX7_slot_117 ?_
      refine J_iload_n (pc := 120) C0 1 dX7_slot_120 rfl rfl ?_
      refine fin_T (run_V (As := [.int x1]) (rest := []) (q0 := 11) C0 (cT_X5_get σ 11 x1 (by decide)) v_X5_get q100 (wC_row (by decide)) rfl rfl ⟨rfl, rfl⟩ (Rm_ok (by decide) (by decide)) rfl (Nat.le_of_ble_eq_true rfl) dX7_slot_121) ?_
      refine fin_P (fun r_ h_ => run_S (As := [.int (rd σ 11 x1)]) (rest := []) C0 (c_J6_bitCount_0f7a4 σ (rd σ 11 x1)  r_ h_) v_J6_bitCount_0f7a4 q101 rfl ⟨rfl, rfl⟩ (Rm_ok (by decide) (by decide)) rfl (Nat.le_of_ble_eq_true rfl) dX7_slot_124) (fun r124 e124 => ?_)
      exact J_iret C0 dX7_slot_127
    refine J_if (fun h_12_5 => ?_) (fun h_12_5 => ?_)
    · refine J_tblIn (pc := 12) (tgt := 128) C0 dX7_slot_12 h_12_5 (by decide) (by decide) rfl (by decide) ?_
      refine J_aload_n (pc := 128) C0 0 dX7_slot_128 rfl rfl ?_
      refine J_get (pc := 129) (v := .ref (ad 38)) C0 34 wC_o34 rfl in_X7 3 (by decide) q98 rfl dX7_slot_129 ?_
      refine J_getN (pc := 132) (v := .ref (ad 12)) C0 38 wC_o38 rfl in_X1 3 (by decide) q99 rfl dX7_slot_132 ?_
      refine J_iload_n (pc := 135) C0 1 dX7_slot_135 rfl rfl ?_
      refine fin_T (run_V (As := [.int x1]) (rest := []) (q0 := 12) C0 (cT_X5_get σ 12 x1 (by decide)) v_X5_get q100 (wC_row (by decide)) rfl rfl ⟨rfl, rfl⟩ (Rm_ok (by decide) (by decide)) rfl (Nat.le_of_ble_eq_true rfl) dX7_slot_136) ?_
      exact J_iret C0 dX7_slot_139
    refine J_if (fun h_12_6 => ?_) (fun h_12_6 => ?_)
    · refine J_tblIn (pc := 12) (tgt := 140) C0 dX7_slot_12 h_12_6 (by decide) (by decide) rfl (by decide) ?_
      refine J_aload_n (pc := 140) C0 0 dX7_slot_140 rfl rfl ?_
      refine J_get (pc := 141) (v := .ref (ad 35)) C0 34 wC_o34 rfl in_X7 0 (by decide) q23 rfl dX7_slot_141 ?_
      refine J_aload_n (pc := 144) C0 0 dX7_slot_144 rfl rfl ?_
      refine J_get (pc := 145) (v := .ref (ad 36)) C0 34 wC_o34 rfl in_X7 1 (by decide) q15 rfl dX7_slot_145 ?_
      refine J_iload_n (pc := 148) C0 1 dX7_slot_148 rfl rfl ?_
      refine J_aload_n (pc := 149) C0 0 dX7_slot_149 rfl rfl ?_
      refine J_get (pc := 150) (v := .ref (ad 35)) C0 34 wC_o34 rfl in_X7 0 (by decide) q23 rfl dX7_slot_150 ?_
      refine fin_P (fun r_ h_ => run_V (As := [.int x1, .ref (ad 35)]) (rest := [.ref (ad 35)]) (q0 := 36) C0 (c_X6_codeIn σ x1  r_ h_) v_X6_codeIn q228 wC_o36 rfl rfl ⟨rfl, rfl⟩ (Rm_ok (by decide) (by decide)) rfl (Nat.le_of_ble_eq_true rfl) dX7_slot_153) (fun r153 e153 => ?_)
      refine fin_P (fun r_ h_ => run_V (As := [.int r153]) (rest := []) (q0 := 35) C0 (c_X0_numberOf σ r153  r_ h_) v_X0_numberOf q174 wC_o35 rfl rfl ⟨rfl, rfl⟩ (Rm_ok (by decide) (by decide)) rfl (Nat.le_of_ble_eq_true rfl) dX7_slot_156) (fun r156 e156 => ?_)
      exact J_iret C0 dX7_slot_159
    refine J_if (fun h_12_7 => ?_) (fun h_12_7 => ?_)
    · refine J_tblIn (pc := 12) (tgt := 160) C0 dX7_slot_12 h_12_7 (by decide) (by decide) rfl (by decide) ?_
      refine J_aload_n (pc := 160) C0 0 dX7_slot_160 rfl rfl ?_
      refine J_iload_n (pc := 161) C0 1 dX7_slot_161 rfl rfl ?_
      refine fin_I (fun r_ h_ => run_V (As := [.int x1]) (rest := []) (q0 := 34) C0 (c_X7_wordInFirstFilling σ x1  r_ h_) v_X7_wordInFirstFilling q362 wC_o34 rfl rfl ⟨rfl, rfl⟩ (Rm_ok (by decide) (by decide)) rfl (Nat.le_of_ble_eq_true rfl) dX7_slot_162) (fun r162 σ162 e162 => ?_)
      exact J_iret C0 dX7_slot_165
    have t_12_0 := ne_toInt h_12_0 (k := 0) (by decide)
    have t_12_1 := ne_toInt h_12_1 (k := 1) (by decide)
    have t_12_2 := ne_toInt h_12_2 (k := 2) (by decide)
    have t_12_3 := ne_toInt h_12_3 (k := 3) (by decide)
    have t_12_4 := ne_toInt h_12_4 (k := 4) (by decide)
    have t_12_5 := ne_toInt h_12_5 (k := 5) (by decide)
    have t_12_6 := ne_toInt h_12_6 (k := 6) (by decide)
    have t_12_7 := ne_toInt h_12_7 (k := 7) (by decide)
    refine J_tblOut (pc := 12) (tgt := 166) C0 dX7_slot_12 (by omega) (by decide) ?_
    refine J_ldc (pc := 166) C0 q184 dX7_slot_166 ?_
    exact J_iret C0 dX7_slot_168
  · refine J_ldc (pc := 8) C0 q192 dX7_slot_8 ?_
    exact J_iret C0 dX7_slot_10
end SE

def f_X7_told (σ : SC) (x1 : Int32) : Option (Int32 × SC) :=
  (if x1 = 0 then (some ((σ 17 1), σ)) else (if x1 = 1 then (some ((σ 17 0), σ)) else (if x1 = (nI 2) then ((f_X0_blockedCells σ).bind fun r84 => (some (r84, σ))) else (if x1 = (nI 3) then ((f_X0_letteredCells σ).bind fun r92 => (some (r92, σ))) else (if x1 = (nI 4) then (some ((σ 17 3), σ)) else (if x1 = (nI 5) then ((f_X7_fullSlots σ).bind fun r105 => (some (r105, σ))) else (if x1 = (nI 6) then ((f_X7_wrongSlots σ).bind fun r110 => (some (r110, σ))) else (if x1 = (nI 7) then ((f_X7_hardestSlot σ).bind fun r115 => (some (r115, σ))) else (if x1 = (nI 8) then (bnd (f_X2_fillings σ (nI 999)) fun r126 σ126 => (some (r126, σ126))) else (if x1 = (nI 9) then (bnd (f_X7_knottedSlots σ) fun r131 σ131 => (some (r131, σ131))) else (if x1 = (nI 10) then ((f_X7_emptySlots σ).bind fun r136 => (some (r136, σ))) else (if x1 = (nI 11) then (some ((σ 17 6), σ)) else (some ((-1000000002), σ))))))))))))))
section SE
variable {p : Program} {l : Launch} {e : Env} {s : State} {m : MethodId} {args : Array Value} {below : List Frame} {meth : Method} {c : Code} {D : va_G} {cI cZ : ClassId} {A : Nat → Prop} {ad : Nat → Nat}
set_option maxRecDepth 100000 in
set_option maxHeartbeats 4000000 in
theorem c_X7_told {l : Launch} {D : va_G} {cI cZ : ClassId} {A : Nat → Prop} {ad : Nat → Nat} (σ : SC) (x1 : Int32)  (r : (Int32 × SC)) (h : f_X7_told σ x1 = some r) : Met l yX7_told (.code yX7_told cX7_told 2 (some .int) :: wG) (Rm 19) (PreW D (tyA cI cZ) A (wC ad cI) [.ref (ad 34), .int x1] σ) (QI D A (wC ad cI) r) 0 0 A := by
  refine met_of (M := f_X7_told σ x1) (Qc := (QI D A (wC ad cI))) (by decide) (Nat.le_of_ble_eq_true rfl) h (fun p e s m below meth c C0 => ?_)
  generalize hargs : ([.ref (ad 34), .int x1] : List Value).toArray = args at C0 ⊢
  have C0 : Cx D (tyA cI cZ) RX7 cX7_told 2 (some .int) p s m args meth c := C0
  refine J_sub (lv' := [(0, .ref (ad 34)), (1, .int x1)]) [0, 1] rfl ?_
  unfold f_X7_told
  refine J_iload_n (pc := 0) C0 1 dX7_told_0 rfl rfl ?_
  refine J_if (fun h_1_0 => ?_) (fun h_1_0 => ?_)
  · refine J_tblIn (pc := 1) (tgt := 64) C0 dX7_told_1 h_1_0 (by decide) (by decide) rfl (by decide) ?_
    refine J_aload_n (pc := 64) C0 0 dX7_told_64 rfl rfl ?_
    refine J_get (pc := 65) (v := .ref (ad 36)) C0 34 wC_o34 rfl in_X7 1 (by decide) q15 rfl dX7_told_65 ?_
    refine J_getN (pc := 68) (v := .int (σ 17 1)) C0 36 wC_o36 rfl in_X6 6 (by decide) q22 rfl dX7_told_68 ?_
    exact J_iret C0 dX7_told_71
  refine J_if (fun h_1_1 => ?_) (fun h_1_1 => ?_)
  · refine J_tblIn (pc := 1) (tgt := 72) C0 dX7_told_1 h_1_1 (by decide) (by decide) rfl (by decide) ?_
    refine J_aload_n (pc := 72) C0 0 dX7_told_72 rfl rfl ?_
    refine J_get (pc := 73) (v := .ref (ad 35)) C0 34 wC_o34 rfl in_X7 0 (by decide) q23 rfl dX7_told_73 ?_
    refine J_getN (pc := 76) (v := .int (σ 17 0)) C0 35 wC_o35 rfl in_X0 2 (by decide) q24 rfl dX7_told_76 ?_
    exact J_iret C0 dX7_told_79
  refine J_if (fun h_1_2 => ?_) (fun h_1_2 => ?_)
  · refine J_tblIn (pc := 1) (tgt := 80) C0 dX7_told_1 h_1_2 (by decide) (by decide) rfl (by decide) ?_
    refine J_aload_n (pc := 80) C0 0 dX7_told_80 rfl rfl ?_
    refine J_get (pc := 81) (v := .ref (ad 35)) C0 34 wC_o34 rfl in_X7 0 (by decide) q23 rfl dX7_told_81 ?_
    refine fin_P (fun r_ h_ => run_V (As := []) (rest := []) (q0 := 35) C0 (c_X0_blockedCells σ   r_ h_) v_X0_blockedCells q366 wC_o35 rfl rfl ⟨rfl, rfl⟩ (Rm_ok (by decide) (by decide)) rfl (Nat.le_of_ble_eq_true rfl) dX7_told_84) (fun r84 e84 => ?_)
    exact J_iret C0 dX7_told_87
  refine J_if (fun h_1_3 => ?_) (fun h_1_3 => ?_)
  · refine J_tblIn (pc := 1) (tgt := 88) C0 dX7_told_1 h_1_3 (by decide) (by decide) rfl (by decide) ?_
    refine J_aload_n (pc := 88) C0 0 dX7_told_88 rfl rfl ?_
    refine J_get (pc := 89) (v := .ref (ad 35)) C0 34 wC_o34 rfl in_X7 0 (by decide) q23 rfl dX7_told_89 ?_
    refine fin_P (fun r_ h_ => run_V (As := []) (rest := []) (q0 := 35) C0 (c_X0_letteredCells σ   r_ h_) v_X0_letteredCells q370 wC_o35 rfl rfl ⟨rfl, rfl⟩ (Rm_ok (by decide) (by decide)) rfl (Nat.le_of_ble_eq_true rfl) dX7_told_92) (fun r92 e92 => ?_)
    exact J_iret C0 dX7_told_95
  refine J_if (fun h_1_4 => ?_) (fun h_1_4 => ?_)
  · refine J_tblIn (pc := 1) (tgt := 96) C0 dX7_told_1 h_1_4 (by decide) (by decide) rfl (by decide) ?_
    refine J_aload_n (pc := 96) C0 0 dX7_told_96 rfl rfl ?_
    refine J_get (pc := 97) (v := .ref (ad 36)) C0 34 wC_o34 rfl in_X7 1 (by decide) q15 rfl dX7_told_97 ?_
    refine J_getN (pc := 100) (v := .int (σ 17 3)) C0 36 wC_o36 rfl in_X6 8 (by decide) q374 rfl dX7_told_100 ?_
    exact J_iret C0 dX7_told_103
  refine J_if (fun h_1_5 => ?_) (fun h_1_5 => ?_)
  · refine J_tblIn (pc := 1) (tgt := 104) C0 dX7_told_1 h_1_5 (by decide) (by decide) rfl (by decide) ?_
    refine J_aload_n (pc := 104) C0 0 dX7_told_104 rfl rfl ?_
    refine fin_P (fun r_ h_ => run_V (As := []) (rest := []) (q0 := 34) C0 (c_X7_fullSlots σ   r_ h_) v_X7_fullSlots q375 wC_o34 rfl rfl ⟨rfl, rfl⟩ (Rm_ok (by decide) (by decide)) rfl (Nat.le_of_ble_eq_true rfl) dX7_told_105) (fun r105 e105 => ?_)
    exact J_iret C0 dX7_told_108
  refine J_if (fun h_1_6 => ?_) (fun h_1_6 => ?_)
  · refine J_tblIn (pc := 1) (tgt := 109) C0 dX7_told_1 h_1_6 (by decide) (by decide) rfl (by decide) ?_
    refine J_aload_n (pc := 109) C0 0 dX7_told_109 rfl rfl ?_
    refine fin_P (fun r_ h_ => run_V (As := []) (rest := []) (q0 := 34) C0 (c_X7_wrongSlots σ   r_ h_) v_X7_wrongSlots q379 wC_o34 rfl rfl ⟨rfl, rfl⟩ (Rm_ok (by decide) (by decide)) rfl (Nat.le_of_ble_eq_true rfl) dX7_told_110) (fun r110 e110 => ?_)
    exact J_iret C0 dX7_told_113
  refine J_if (fun h_1_7 => ?_) (fun h_1_7 => ?_)
  · refine J_tblIn (pc := 1) (tgt := 114) C0 dX7_told_1 h_1_7 (by decide) (by decide) rfl (by decide) ?_
    refine J_aload_n (pc := 114) C0 0 dX7_told_114 rfl rfl ?_
    refine fin_P (fun r_ h_ => run_V (As := []) (rest := []) (q0 := 34) C0 (c_X7_hardestSlot σ   r_ h_) v_X7_hardestSlot q383 wC_o34 rfl rfl ⟨rfl, rfl⟩ (Rm_ok (by decide) (by decide)) rfl (Nat.le_of_ble_eq_true rfl) dX7_told_115) (fun r115 e115 => ?_)
    exact J_iret C0 dX7_told_118
  refine J_if (fun h_1_8 => ?_) (fun h_1_8 => ?_)
  · refine J_tblIn (pc := 1) (tgt := 119) C0 dX7_told_1 h_1_8 (by decide) (by decide) rfl (by decide) ?_
    refine J_aload_n (pc := 119) C0 0 dX7_told_119 rfl rfl ?_
    refine J_get (pc := 120) (v := .ref (ad 39)) C0 34 wC_o34 rfl in_X7 4 (by decide) q346 rfl dX7_told_120 ?_
    refine J_sipush (pc := 123) (v := (nI 999)) C0 dX7_told_123 (by decide) ?_
    refine fin_I (fun r_ h_ => run_V (As := [.int (nI 999)]) (rest := []) (q0 := 39) C0 (c_X2_fillings σ (nI 999)  r_ h_) v_X2_fillings q347 wC_o39 rfl rfl ⟨rfl, rfl⟩ (Rm_ok (by decide) (by decide)) rfl (Nat.le_of_ble_eq_true rfl) dX7_told_126) (fun r126 σ126 e126 => ?_)
    exact J_iret C0 dX7_told_129
  refine J_if (fun h_1_9 => ?_) (fun h_1_9 => ?_)
  · refine J_tblIn (pc := 1) (tgt := 130) C0 dX7_told_1 h_1_9 (by decide) (by decide) rfl (by decide) ?_
    refine J_aload_n (pc := 130) C0 0 dX7_told_130 rfl rfl ?_
    refine fin_I (fun r_ h_ => run_V (As := []) (rest := []) (q0 := 34) C0 (c_X7_knottedSlots σ   r_ h_) v_X7_knottedSlots q387 wC_o34 rfl rfl ⟨rfl, rfl⟩ (Rm_ok (by decide) (by decide)) rfl (Nat.le_of_ble_eq_true rfl) dX7_told_131) (fun r131 σ131 e131 => ?_)
    exact J_iret C0 dX7_told_134
  refine J_if (fun h_1_10 => ?_) (fun h_1_10 => ?_)
  · refine J_tblIn (pc := 1) (tgt := 135) C0 dX7_told_1 h_1_10 (by decide) (by decide) rfl (by decide) ?_
    refine J_aload_n (pc := 135) C0 0 dX7_told_135 rfl rfl ?_
    refine fin_P (fun r_ h_ => run_V (As := []) (rest := []) (q0 := 34) C0 (c_X7_emptySlots σ   r_ h_) v_X7_emptySlots q391 wC_o34 rfl rfl ⟨rfl, rfl⟩ (Rm_ok (by decide) (by decide)) rfl (Nat.le_of_ble_eq_true rfl) dX7_told_136) (fun r136 e136 => ?_)
    exact J_iret C0 dX7_told_139
  refine J_if (fun h_1_11 => ?_) (fun h_1_11 => ?_)
  · refine J_tblIn (pc := 1) (tgt := 140) C0 dX7_told_1 h_1_11 (by decide) (by decide) rfl (by decide) ?_
    refine J_aload_n (pc := 140) C0 0 dX7_told_140 rfl rfl ?_
    refine J_get (pc := 141) (v := .ref (ad 40)) C0 34 wC_o34 rfl in_X7 5 (by decide) q239 rfl dX7_told_141 ?_
    refine J_getN (pc := 144) (v := .int (σ 17 6)) C0 40 wC_o40 rfl in_X4 2 (by decide) q323 rfl dX7_told_144 ?_
    exact J_iret C0 dX7_told_147
  have t_1_0 := ne_toInt h_1_0 (k := 0) (by decide)
  have t_1_1 := ne_toInt h_1_1 (k := 1) (by decide)
  have t_1_2 := ne_toInt h_1_2 (k := 2) (by decide)
  have t_1_3 := ne_toInt h_1_3 (k := 3) (by decide)
  have t_1_4 := ne_toInt h_1_4 (k := 4) (by decide)
  have t_1_5 := ne_toInt h_1_5 (k := 5) (by decide)
  have t_1_6 := ne_toInt h_1_6 (k := 6) (by decide)
  have t_1_7 := ne_toInt h_1_7 (k := 7) (by decide)
  have t_1_8 := ne_toInt h_1_8 (k := 8) (by decide)
  have t_1_9 := ne_toInt h_1_9 (k := 9) (by decide)
  have t_1_10 := ne_toInt h_1_10 (k := 10) (by decide)
  have t_1_11 := ne_toInt h_1_11 (k := 11) (by decide)
  refine J_tblOut (pc := 1) (tgt := 148) C0 dX7_told_1 (by omega) (by decide) ?_
  refine J_ldc (pc := 148) C0 q184 dX7_told_148 ?_
  exact J_iret C0 dX7_told_150
end SE
