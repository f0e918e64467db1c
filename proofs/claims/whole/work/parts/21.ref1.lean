def f_X8_drift_L59 (x1 : Int32) (x3 : Int32) (x4 : Int32) (x5 : Int32) (kx88 : SR → Int32 → Option (Int32 × SR)) : Nat → SR → Int32 → Int32 → Option (Int32 × SR)
  | 0, _, _, _ => none
  | n + 1, σ, x6, x7 =>
  (if x5 ≤ x7 then (kx88 σ x6) else (bnd (f_X8_lots σ (nI 6)) fun r76 σ76 => (f_X8_drift_L59 x1 x3 x4 x5 kx88 n σ76 ((((nI 7) * x6) + 1) + r76) (x7 + 1))))
theorem f_X8_drift_L59_s (x1 : Int32) (x3 : Int32) (x4 : Int32) (x5 : Int32) (kx88 : SR → Int32 → Option (Int32 × SR)) (n : Nat) (σ : SR) (x6 : Int32) (x7 : Int32) : f_X8_drift_L59 x1 x3 x4 x5 kx88 (n + 1) σ x6 x7 = ((if x5 ≤ x7 then (kx88 σ x6) else (bnd (f_X8_lots σ (nI 6)) fun r76 σ76 => (f_X8_drift_L59 x1 x3 x4 x5 kx88 n σ76 ((((nI 7) * x6) + 1) + r76) (x7 + 1))))) := rfl
def f_X8_drift_L38 (x1 : Int32) : Nat → SR → Int32 → Int32 → Option (Int32 × SR)
  | 0, _, _, _ => none
  | n + 1, σ, x3, x4 =>
  (if x1 ≤ x4 then (some (x3, σ)) else (bnd (f_X8_lots σ (nI 3)) fun r47 σ47 => (f_X8_drift_L59 x1 x3 x4 ((nI 2) + r47) (fun σ_88 x6_88 => ((f_X8_findCode σ_88 x6_88).bind fun r91 => (if r91 = (-1) then (if inb (nI 16) 33 = true then (if (nI 16) ≤ (σ_88.1 0 (ix (nI 16))) then (f_X8_drift_L38 x1 n σ_88 x3 (x4 + 1)) else (if inb (nI 16) 33 = true then (if inb ((nI 17) + (σ_88.1 0 (ix (nI 16)))) 33 = true then (if inb (nI 16) 33 = true then (if inb (nI 16) 33 = true then (f_X8_drift_L38 x1 n (rsu (rsu σ_88 0 (ix ((nI 17) + (σ_88.1 0 (ix (nI 16))))) x6_88) 0 (ix (nI 16)) (((rsu σ_88 0 (ix ((nI 17) + (σ_88.1 0 (ix (nI 16))))) x6_88).1 0 (ix (nI 16))) + 1)) (x3 + 1) (x4 + 1)) else none) else none) else none) else none)) else none) else (f_X8_drift_L38 x1 n σ_88 x3 (x4 + 1))))) FU σ47 0 0)))
theorem f_X8_drift_L38_s (x1 : Int32) (n : Nat) (σ : SR) (x3 : Int32) (x4 : Int32) : f_X8_drift_L38 x1 (n + 1) σ x3 x4 = ((if x1 ≤ x4 then (some (x3, σ)) else (bnd (f_X8_lots σ (nI 3)) fun r47 σ47 => (f_X8_drift_L59 x1 x3 x4 ((nI 2) + r47) (fun σ_88 x6_88 => ((f_X8_findCode σ_88 x6_88).bind fun r91 => (if r91 = (-1) then (if inb (nI 16) 33 = true then (if (nI 16) ≤ (σ_88.1 0 (ix (nI 16))) then (f_X8_drift_L38 x1 n σ_88 x3 (x4 + 1)) else (if inb (nI 16) 33 = true then (if inb ((nI 17) + (σ_88.1 0 (ix (nI 16)))) 33 = true then (if inb (nI 16) 33 = true then (if inb (nI 16) 33 = true then (f_X8_drift_L38 x1 n (rsu (rsu σ_88 0 (ix ((nI 17) + (σ_88.1 0 (ix (nI 16))))) x6_88) 0 (ix (nI 16)) (((rsu σ_88 0 (ix ((nI 17) + (σ_88.1 0 (ix (nI 16))))) x6_88).1 0 (ix (nI 16))) + 1)) (x3 + 1) (x4 + 1)) else none) else none) else none) else none)) else none) else (f_X8_drift_L38 x1 n σ_88 x3 (x4 + 1))))) FU σ47 0 0)))) := rfl
def f_X8_drift (σ : SR) (x1 : Int32) (x2 : Int32) : Option (Int32 × SR) :=
  ((f_X8_in x1 1 (nI 16)).bind fun r4 => (if r4 = 0 then (some ((-1000000002), σ)) else ((f_X8_in x2 1 999999).bind fun r14 => (if r14 = 0 then (some ((-1000000002), σ)) else ((f_X8_remember σ).bind fun σ24 => (f_X8_drift_L38 x1 FU (rlt σ24 x2.toInt64) 0 0))))))
section SE
variable {p : Program} {l : Launch} {e : Env} {s : State} {m : MethodId} {args : Array Value} {below : List Frame} {meth : Method} {c : Code} {D : va_G} {cI cZ : ClassId} {A : Nat → Prop} {ad : Nat → Nat}
set_option maxRecDepth 100000 in
set_option maxHeartbeats 4000000 in
theorem j_X8_drift_L59 (C0 : Cx D (tyA cI cZ) RX8 cX8_drift 8 (some .int) p s m args meth c) (x1 : Int32) (x3 : Int32) (x4 : Int32) (x5 : Int32) (kx88 : SR → Int32 → Option (Int32 × SR)) (hkx88 : ∀ (σ : SR) (x6 : Int32), J p l e (Rm 3) s m args below meth c D A (wR ad cI cZ) 8 (QI D A (wR ad cI cZ)) (kx88 σ x6) σ [(0, .ref (ad 0)), (1, .int x1), (3, .int x3), (4, .int x4), (6, .int x6)] [] 88) : ∀ (n : Nat) (σ : SR) (x6 : Int32) (x7 : Int32), J p l e (Rm 3) s m args below meth c D A (wR ad cI cZ) 8 (QI D A (wR ad cI cZ)) (f_X8_drift_L59 x1 x3 x4 x5 kx88 n σ x6 x7) σ [(0, .ref (ad 0)), (1, .int x1), (3, .int x3), (4, .int x4), (5, .int x5), (6, .int x6), (7, .int x7)] [] 59 := by
  intro n
  induction n with
  | zero => intros; exact J_none
  | succ n ih =>
    intro σ x6 x7
    refine J_eq (f_X8_drift_L59_s x1 x3 x4 x5 kx88 n σ x6 x7) ?_
    refine J_iload (pc := 59) C0 6 dX8_drift_59 rfl ?_
    refine J_iload (pc := 61) C0 4 dX8_drift_61 rfl ?_
    refine J_icmp_ge (pc := 63) (tgt := 88) C0 dX8_drift_63 (by decide) (fun h_63 => ?_) (fun h_63 => ?_)
    · refine J_sub (lv' := [(0, .ref (ad 0)), (1, .int x1), (3, .int x3), (4, .int x4), (6, .int x6)]) [0, 1, 2, 3, 5] rfl ?_
      exact hkx88 σ x6
    · refine J_bipush (pc := 66) (v := (nI 7)) C0 dX8_drift_66 (by decide) ?_
      refine J_iload (pc := 68) C0 5 dX8_drift_68 rfl ?_
      refine J_imul (pc := 70) C0 dX8_drift_70 ?_
      refine J_iconst (pc := 71) (v := 1) C0 dX8_drift_71 (by decide) ?_
      refine J_iadd (pc := 72) C0 dX8_drift_72 ?_
      refine J_aload_n (pc := 73) C0 0 dX8_drift_73 rfl rfl ?_
      refine J_bipush (pc := 74) (v := (nI 6)) C0 dX8_drift_74 (by decide) ?_
      refine fin_I (fun r_ h_ => run_V (As := [.int (nI 6)]) (rest := [.int (((nI 7) * x6) + 1)]) (q0 := 0) C0 (c_X8_lots σ (nI 6)  r_ h_) v_X8_lots q459 wR_o rfl rfl ⟨rfl, rfl⟩ (Rm_ok (by decide) (by decide)) rfl (Nat.le_of_ble_eq_true rfl) dX8_drift_76) (fun r76 σ76 e76 => ?_)
      refine J_iadd (pc := 79) C0 dX8_drift_79 ?_
      refine J_istore (pc := 80) (lv' := [(6, .int ((((nI 7) * x6) + 1) + r76)), (0, .ref (ad 0)), (1, .int x1), (3, .int x3), (4, .int x4), (5, .int x5), (7, .int x7)]) C0 dX8_drift_80 (by decide) rfl ?_
      refine J_iinc (pc := 82) (d := 1) (lv' := [(7, .int (x7 + 1)), (6, .int ((((nI 7) * x6) + 1) + r76)), (0, .ref (ad 0)), (1, .int x1), (3, .int x3), (4, .int x4), (5, .int x5)]) C0 6 dX8_drift_82 rfl (by decide) (by decide) rfl ?_
      refine J_goto (pc := 85) (tgt := 59) C0 dX8_drift_85 (by decide) ?_
      refine J_sub (lv' := [(0, .ref (ad 0)), (1, .int x1), (3, .int x3), (4, .int x4), (5, .int x5), (6, .int ((((nI 7) * x6) + 1) + r76)), (7, .int (x7 + 1))]) [2, 3, 4, 5, 6, 1, 0] rfl ?_
      exact ih σ76 ((((nI 7) * x6) + 1) + r76) (x7 + 1)
set_option maxRecDepth 100000 in
set_option maxHeartbeats 4000000 in
theorem j_X8_drift_L38 (C0 : Cx D (tyA cI cZ) RX8 cX8_drift 8 (some .int) p s m args meth c) (x1 : Int32) : ∀ (n : Nat) (σ : SR) (x3 : Int32) (x4 : Int32), J p l e (Rm 3) s m args below meth c D A (wR ad cI cZ) 8 (QI D A (wR ad cI cZ)) (f_X8_drift_L38 x1 n σ x3 x4) σ [(0, .ref (ad 0)), (1, .int x1), (3, .int x3), (4, .int x4)] [] 38 := by
  intro n
  induction n with
  | zero => intros; exact J_none
  | succ n ih =>
    intro σ x3 x4
    refine J_eq (f_X8_drift_L38_s x1 n σ x3 x4) ?_
    refine J_iload (pc := 38) C0 3 dX8_drift_38 rfl ?_
    refine J_iload_n (pc := 40) C0 1 dX8_drift_40 rfl rfl ?_
    refine J_icmp_ge (pc := 41) (tgt := 147) C0 dX8_drift_41 (by decide) (fun h_41 => ?_) (fun h_41 => ?_)
    · refine J_iload_n (pc := 147) C0 2 dX8_drift_147 rfl rfl ?_
      exact J_iret C0 dX8_drift_148
    · refine J_iconst (pc := 44) (v := (nI 2)) C0 dX8_drift_44 (by decide) ?_
      refine J_aload_n (pc := 45) C0 0 dX8_drift_45 rfl rfl ?_
      refine J_iconst (pc := 46) (v := (nI 3)) C0 dX8_drift_46 (by decide) ?_
      refine fin_I (fun r_ h_ => run_V (As := [.int (nI 3)]) (rest := [.int (nI 2)]) (q0 := 0) C0 (c_X8_lots σ (nI 3)  r_ h_) v_X8_lots q459 wR_o rfl rfl ⟨rfl, rfl⟩ (Rm_ok (by decide) (by decide)) rfl (Nat.le_of_ble_eq_true rfl) dX8_drift_47) (fun r47 σ47 e47 => ?_)
      refine J_iadd (pc := 50) C0 dX8_drift_50 ?_
      refine J_istore (pc := 51) (lv' := [(5, .int ((nI 2) + r47)), (0, .ref (ad 0)), (1, .int x1), (3, .int x3), (4, .int x4)]) C0 dX8_drift_51 (by decide) rfl ?_
      refine J_iconst (pc := 53) (v := 0) C0 dX8_drift_53 (by decide) ?_
      refine J_istore (pc := 54) (lv' := [(6, .int 0), (5, .int ((nI 2) + r47)), (0, .ref (ad 0)), (1, .int x1), (3, .int x3), (4, .int x4)]) C0 dX8_drift_54 (by decide) rfl ?_
      refine J_iconst (pc := 56) (v := 0) C0 dX8_drift_56 (by decide) ?_
      refine J_istore (pc := 57) (lv' := [(7, .int 0), (6, .int 0), (5, .int ((nI 2) + r47)), (0, .ref (ad 0)), (1, .int x1), (3, .int x3), (4, .int x4)]) C0 dX8_drift_57 (by decide) rfl ?_
      refine J_sub (lv' := [(0, .ref (ad 0)), (1, .int x1), (3, .int x3), (4, .int x4), (5, .int ((nI 2) + r47)), (6, .int 0), (7, .int 0)]) [3, 4, 5, 6, 2, 1, 0] rfl ?_
      refine j_X8_drift_L59 C0 x1 x3 x4 ((nI 2) + r47) _ (fun σ_88 x6_88 => ?_) FU σ47 0 0
      refine J_aload_n (pc := 88) C0 0 dX8_drift_88 rfl rfl ?_
      refine J_iload (pc := 89) C0 4 dX8_drift_89 rfl ?_
      refine fin_P (fun r_ h_ => run_V (As := [.int x6_88]) (rest := []) (q0 := 0) C0 (c_X8_findCode σ_88 x6_88  r_ h_) v_X8_findCode q463 wR_o rfl rfl ⟨rfl, rfl⟩ (Rm_ok (by decide) (by decide)) rfl (Nat.le_of_ble_eq_true rfl) dX8_drift_91) (fun r91 e91 => ?_)
      refine J_iconst (pc := 94) (v := (-1)) C0 dX8_drift_94 (by decide) ?_
      refine J_icmp_ne (pc := 95) (tgt := 141) C0 dX8_drift_95 (by decide) (fun h_95 => ?_) (fun h_95 => ?_)
      · refine J_iinc (pc := 141) (d := 1) (lv' := [(4, .int (x4 + 1)), (0, .ref (ad 0)), (1, .int x1), (3, .int x3), (6, .int x6_88)]) C0 3 dX8_drift_141 rfl (by decide) (by decide) rfl ?_
        refine J_goto (pc := 144) (tgt := 38) C0 dX8_drift_144 (by decide) ?_
        refine J_sub (lv' := [(0, .ref (ad 0)), (1, .int x1), (3, .int x3), (4, .int (x4 + 1))]) [1, 2, 3, 0] rfl ?_
        exact ih σ_88 x3 (x4 + 1)
      · refine J_aload_n (pc := 98) C0 0 dX8_drift_98 rfl rfl ?_
        refine J_get (pc := 99) (v := .ref (ad 1)) C0 0 wR_o rfl in_X8 0 (by decide) q411 rfl dX8_drift_99 ?_
        refine J_bipush (pc := 102) (v := (nI 16)) C0 dX8_drift_102 (by decide) ?_
        refine J_iald (pc := 104) C0 1 0 wR_a1 rfl dX8_drift_104 (fun h_104 => ?_)
        refine J_bipush (pc := 105) (v := (nI 16)) C0 dX8_drift_105 (by decide) ?_
        refine J_icmp_ge (pc := 107) (tgt := 141) C0 dX8_drift_107 (by decide) (fun h_107 => ?_) (fun h_107 => ?_)
        · refine J_iinc (pc := 141) (d := 1) (lv' := [(4, .int (x4 + 1)), (0, .ref (ad 0)), (1, .int x1), (3, .int x3), (6, .int x6_88)]) C0 3 dX8_drift_141 rfl (by decide) (by decide) rfl ?_
          refine J_goto (pc := 144) (tgt := 38) C0 dX8_drift_144 (by decide) ?_
          refine J_sub (lv' := [(0, .ref (ad 0)), (1, .int x1), (3, .int x3), (4, .int (x4 + 1))]) [1, 2, 3, 0] rfl ?_
          exact ih σ_88 x3 (x4 + 1)
        · refine J_aload_n (pc := 110) C0 0 dX8_drift_110 rfl rfl ?_
          refine J_get (pc := 111) (v := .ref (ad 1)) C0 0 wR_o rfl in_X8 0 (by decide) q411 rfl dX8_drift_111 ?_
          refine J_bipush (pc := 114) (v := (nI 17)) C0 dX8_drift_114 (by decide) ?_
          refine J_aload_n (pc := 116) C0 0 dX8_drift_116 rfl rfl ?_
          refine J_get (pc := 117) (v := .ref (ad 1)) C0 0 wR_o rfl in_X8 0 (by decide) q411 rfl dX8_drift_117 ?_
          refine J_bipush (pc := 120) (v := (nI 16)) C0 dX8_drift_120 (by decide) ?_
          refine J_iald (pc := 122) C0 1 0 wR_a1 rfl dX8_drift_122 (fun h_122 => ?_)
          refine J_iadd (pc := 123) C0 dX8_drift_123 ?_
          refine J_iload (pc := 124) C0 4 dX8_drift_124 rfl ?_
          refine J_iast (pc := 126) (σ' := (rsu σ_88 0 (ix ((nI 17) + (σ_88.1 0 (ix (nI 16))))) x6_88)) C0 1 0 wR_a1 rfl wR_s1 dX8_drift_126 (fun h_126 => ?_)
          refine J_aload_n (pc := 127) C0 0 dX8_drift_127 rfl rfl ?_
          refine J_get (pc := 128) (v := .ref (ad 1)) C0 0 wR_o rfl in_X8 0 (by decide) q411 rfl dX8_drift_128 ?_
          refine J_bipush (pc := 131) (v := (nI 16)) C0 dX8_drift_131 (by decide) ?_
          refine J_dup2 (pc := 133) C0 dX8_drift_133 rfl rfl ?_
          refine J_iald (pc := 134) C0 1 0 wR_a1 rfl dX8_drift_134 (fun h_134 => ?_)
          refine J_iconst (pc := 135) (v := 1) C0 dX8_drift_135 (by decide) ?_
          refine J_iadd (pc := 136) C0 dX8_drift_136 ?_
          refine J_iast (pc := 137) (σ' := (rsu (rsu σ_88 0 (ix ((nI 17) + (σ_88.1 0 (ix (nI 16))))) x6_88) 0 (ix (nI 16)) (((rsu σ_88 0 (ix ((nI 17) + (σ_88.1 0 (ix (nI 16))))) x6_88).1 0 (ix (nI 16))) + 1))) C0 1 0 wR_a1 rfl wR_s1 dX8_drift_137 (fun h_137 => ?_)
          refine J_iinc (pc := 138) (d := 1) (lv' := [(3, .int (x3 + 1)), (0, .ref (ad 0)), (1, .int x1), (4, .int x4), (6, .int x6_88)]) C0 2 dX8_drift_138 rfl (by decide) (by decide) rfl ?_
          refine J_iinc (pc := 141) (d := 1) (lv' := [(4, .int (x4 + 1)), (3, .int (x3 + 1)), (0, .ref (ad 0)), (1, .int x1), (6, .int x6_88)]) C0 3 dX8_drift_141 rfl (by decide) (by decide) rfl ?_
          refine J_goto (pc := 144) (tgt := 38) C0 dX8_drift_144 (by decide) ?_
          refine J_sub (lv' := [(0, .ref (ad 0)), (1, .int x1), (3, .int (x3 + 1)), (4, .int (x4 + 1))]) [2, 3, 1, 0] rfl ?_
          exact ih (rsu (rsu σ_88 0 (ix ((nI 17) + (σ_88.1 0 (ix (nI 16))))) x6_88) 0 (ix (nI 16)) (((rsu σ_88 0 (ix ((nI 17) + (σ_88.1 0 (ix (nI 16))))) x6_88).1 0 (ix (nI 16))) + 1)) (x3 + 1) (x4 + 1)
set_option maxRecDepth 100000 in
set_option maxHeartbeats 4000000 in
theorem c_X8_drift {l : Launch} {D : va_G} {cI cZ : ClassId} {A : Nat → Prop} {ad : Nat → Nat} (σ : SR) (x1 : Int32) (x2 : Int32)  (r : (Int32 × SR)) (h : f_X8_drift σ x1 x2 = some r) : Met l yX8_drift (.code yX8_drift cX8_drift 8 (some .int) :: wG) (Rm 3) (PreW D (tyA cI cZ) A (wR ad cI cZ) [.ref (ad 0), .int x1, .int x2] σ) (QI D A (wR ad cI cZ) r) 0 0 A := by
  refine met_of (M := f_X8_drift σ x1 x2) (Qc := (QI D A (wR ad cI cZ))) (by decide) (Nat.le_of_ble_eq_true rfl) h (fun p e s m below meth c C0 => ?_)
  generalize hargs : ([.ref (ad 0), .int x1, .int x2] : List Value).toArray = args at C0 ⊢
  have C0 : Cx D (tyA cI cZ) RX8 cX8_drift 8 (some .int) p s m args meth c := C0
  refine J_sub (lv' := [(0, .ref (ad 0)), (1, .int x1), (2, .int x2)]) [0, 1, 2] rfl ?_
  unfold f_X8_drift
  refine J_iload_n (pc := 0) C0 1 dX8_drift_0 rfl rfl ?_
  refine J_iconst (pc := 1) (v := 1) C0 dX8_drift_1 (by decide) ?_
  refine J_bipush (pc := 2) (v := (nI 16)) C0 dX8_drift_2 (by decide) ?_
  refine fin_P (fun r_ h_ => run_S (As := [.int x1, .int 1, .int (nI 16)]) (rest := []) C0 (c_X8_in σ x1 1 (nI 16)  r_ h_) v_X8_in q425 rfl ⟨rfl, rfl⟩ (Rm_ok (by decide) (by decide)) rfl (Nat.le_of_ble_eq_true rfl) dX8_drift_4) (fun r4 e4 => ?_)
  refine J_if_eq (pc := 7) (tgt := 20) C0 dX8_drift_7 (by decide) (fun h_7 => ?_) (fun h_7 => ?_)
  · refine J_ldc (pc := 20) C0 q443 dX8_drift_20 ?_
    exact J_iret C0 dX8_drift_22
  · refine J_iload_n (pc := 10) C0 2 dX8_drift_10 rfl rfl ?_
    refine J_iconst (pc := 11) (v := 1) C0 dX8_drift_11 (by decide) ?_
    refine J_ldc (pc := 12) C0 q458 dX8_drift_12 ?_
    refine fin_P (fun r_ h_ => run_S (As := [.int x2, .int 1, .int 999999]) (rest := []) C0 (c_X8_in σ x2 1 999999  r_ h_) v_X8_in q425 rfl ⟨rfl, rfl⟩ (Rm_ok (by decide) (by decide)) rfl (Nat.le_of_ble_eq_true rfl) dX8_drift_14) (fun r14 e14 => ?_)
    refine J_if_ne (pc := 17) (tgt := 23) C0 dX8_drift_17 (by decide) (fun h_17 => ?_) (fun h_17 => ?_)
    · refine J_aload_n (pc := 23) C0 0 dX8_drift_23 rfl rfl ?_
      refine fin_V (fun r_ h_ => run_V (As := []) (rest := []) (q0 := 0) C0 (c_X8_remember σ   r_ h_) v_X8_remember q439 wR_o rfl rfl ⟨rfl, rfl⟩ (Rm_ok (by decide) (by decide)) rfl (Nat.le_of_ble_eq_true rfl) dX8_drift_24) (fun σ24 e24 => ?_)
      refine J_aload_n (pc := 27) C0 0 dX8_drift_27 rfl rfl ?_
      refine J_iload_n (pc := 28) C0 2 dX8_drift_28 rfl rfl ?_
      refine J_i2l (pc := 29) C0 dX8_drift_29 ?_
      refine J_put (pc := 30) (σ' := (rlt σ24 x2.toInt64)) (v := .long x2.toInt64) (ty := .long) C0 tyX8_ok nmX8 0 wR_o rfl in_X8 10 (by decide) q413 rfl (by decide +kernel) rfl rfl (Nat.le_of_ble_eq_true rfl) wR_pl dX8_drift_30 ?_
      refine J_iconst (pc := 33) (v := 0) C0 dX8_drift_33 (by decide) ?_
      refine J_istore_n (pc := 34) (lv' := [(3, .int 0), (0, .ref (ad 0)), (1, .int x1), (2, .int x2)]) C0 dX8_drift_34 rfl (by decide) rfl ?_
      refine J_iconst (pc := 35) (v := 0) C0 dX8_drift_35 (by decide) ?_
      refine J_istore (pc := 36) (lv' := [(4, .int 0), (3, .int 0), (0, .ref (ad 0)), (1, .int x1), (2, .int x2)]) C0 dX8_drift_36 (by decide) rfl ?_
      refine J_sub (lv' := [(0, .ref (ad 0)), (1, .int x1), (3, .int 0), (4, .int 0)]) [2, 3, 1, 0] rfl ?_
      exact j_X8_drift_L38 C0 x1 FU (rlt σ24 x2.toInt64) 0 0
    · refine J_ldc (pc := 20) C0 q443 dX8_drift_20 ?_
      exact J_iret C0 dX8_drift_22
end SE

def f_X8_fits_L29 (σ : SR) (x2 : Int32) (x3 : Int32) (kx88 : Int32 → Option Int32) : Nat → Int32 → Int32 → Option Int32
  | 0, _, _ => none
  | n + 1, x4, x5 =>
  (if x4 = 0 then (kx88 x4) else (if inb x2 8 = true then (if (σ.1 5 (ix x2)) ≤ x5 then (kx88 x4) else ((f_X8_cellOf σ x2 x5).bind fun r53 => (if inb r53 33 = true then (if (σ.1 0 (ix r53)) = 0 then (f_X8_fits_L29 σ x2 x3 kx88 n 1 (x5 + 1)) else ((f_X8_letterOf x3 x5).bind fun r69 => (if (σ.1 0 (ix r53)) = r69 then (f_X8_fits_L29 σ x2 x3 kx88 n 1 (x5 + 1)) else (f_X8_fits_L29 σ x2 x3 kx88 n 0 (x5 + 1))))) else none))) else none))
theorem f_X8_fits_L29_s (σ : SR) (x2 : Int32) (x3 : Int32) (kx88 : Int32 → Option Int32) (n : Nat) (x4 : Int32) (x5 : Int32) : f_X8_fits_L29 σ x2 x3 kx88 (n + 1) x4 x5 = ((if x4 = 0 then (kx88 x4) else (if inb x2 8 = true then (if (σ.1 5 (ix x2)) ≤ x5 then (kx88 x4) else ((f_X8_cellOf σ x2 x5).bind fun r53 => (if inb r53 33 = true then (if (σ.1 0 (ix r53)) = 0 then (f_X8_fits_L29 σ x2 x3 kx88 n 1 (x5 + 1)) else ((f_X8_letterOf x3 x5).bind fun r69 => (if (σ.1 0 (ix r53)) = r69 then (f_X8_fits_L29 σ x2 x3 kx88 n 1 (x5 + 1)) else (f_X8_fits_L29 σ x2 x3 kx88 n 0 (x5 + 1))))) else none))) else none))) := rfl
def f_X8_fits (σ : SR) (x1 : Int32) (x2 : Int32) : Option Int32 :=
  ((f_X8_codeAt σ x1).bind fun r2 => ((f_X8_lengthOf r2).bind fun r7 => (if inb x2 8 = true then (if r7 = (σ.1 5 (ix x2)) then (f_X8_fits_L29 σ x2 r2 (fun x4_88 => (if x4_88 = 0 ∨ x4_88 = 1 then some x4_88 else none)) FU 1 0) else (f_X8_fits_L29 σ x2 r2 (fun x4_88 => (if x4_88 = 0 ∨ x4_88 = 1 then some x4_88 else none)) FU 0 0)) else none)))
section SE
variable {p : Program} {l : Launch} {e : Env} {s : State} {m : MethodId} {args : Array Value} {below : List Frame} {meth : Method} {c : Code} {D : va_G} {cI cZ : ClassId} {A : Nat → Prop} {ad : Nat → Nat}
set_option maxRecDepth 100000 in
set_option maxHeartbeats 4000000 in
theorem j_X8_fits_L29 (C0 : Cx D (tyA cI cZ) RX8 cX8_fits 7 (some .boolean) p s m args meth c) (σ : SR) (x2 : Int32) (x3 : Int32) (kx88 : Int32 → Option Int32) (hkx88 : ∀ (x4 : Int32), J p l e (Rm 3) s m args below meth c D A (wR ad cI cZ) 7 (fun r => QI D A (wR ad cI cZ) (r, σ)) (kx88 x4) σ [(4, .int x4)] [] 88) : ∀ (n : Nat) (x4 : Int32) (x5 : Int32), J p l e (Rm 3) s m args below meth c D A (wR ad cI cZ) 7 (fun r => QI D A (wR ad cI cZ) (r, σ)) (f_X8_fits_L29 σ x2 x3 kx88 n x4 x5) σ [(0, .ref (ad 0)), (2, .int x2), (3, .int x3), (4, .int x4), (5, .int x5)] [] 29 := by
  intro n
  induction n with
  | zero => intros; exact J_none
  | succ n ih =>
    intro x4 x5
    refine J_eq (f_X8_fits_L29_s σ x2 x3 kx88 n x4 x5) ?_
    refine J_iload (pc := 29) C0 3 dX8_fits_29 rfl ?_
    refine J_if_eq (pc := 31) (tgt := 88) C0 dX8_fits_31 (by decide) (fun h_31 => ?_) (fun h_31 => ?_)
    · refine J_sub (lv' := [(4, .int x4)]) [3] rfl ?_
      exact hkx88 x4
    · refine J_iload (pc := 34) C0 4 dX8_fits_34 rfl ?_
      refine J_aload_n (pc := 36) C0 0 dX8_fits_36 rfl rfl ?_
      refine J_get (pc := 37) (v := .ref (ad 6)) C0 0 wR_o rfl in_X8 8 (by decide) q412 rfl dX8_fits_37 ?_
      refine J_iload_n (pc := 40) C0 1 dX8_fits_40 rfl rfl ?_
      refine J_iald (pc := 41) C0 6 0 wR_a6 rfl dX8_fits_41 (fun h_41 => ?_)
      refine J_icmp_ge (pc := 42) (tgt := 88) C0 dX8_fits_42 (by decide) (fun h_42 => ?_) (fun h_42 => ?_)
      · refine J_sub (lv' := [(4, .int x4)]) [3] rfl ?_
        exact hkx88 x4
      · refine J_aload_n (pc := 45) C0 0 dX8_fits_45 rfl rfl ?_
        refine J_get (pc := 46) (v := .ref (ad 1)) C0 0 wR_o rfl in_X8 0 (by decide) q411 rfl dX8_fits_46 ?_
        refine J_aload_n (pc := 49) C0 0 dX8_fits_49 rfl rfl ?_
        refine J_iload_n (pc := 50) C0 1 dX8_fits_50 rfl rfl ?_
        refine J_iload (pc := 51) C0 4 dX8_fits_51 rfl ?_
        refine fin_P (fun r_ h_ => run_V (As := [.int x2, .int x5]) (rest := [.ref (ad 1)]) (q0 := 0) C0 (c_X8_cellOf σ x2 x5  r_ h_) v_X8_cellOf q431 wR_o rfl rfl ⟨rfl, rfl⟩ (Rm_ok (by decide) (by decide)) rfl (Nat.le_of_ble_eq_true rfl) dX8_fits_53) (fun r53 e53 => ?_)
        refine J_iald (pc := 56) C0 1 0 wR_a1 rfl dX8_fits_56 (fun h_56 => ?_)
        refine J_istore (pc := 57) (lv' := [(6, .int (σ.1 0 (ix r53))), (0, .ref (ad 0)), (2, .int x2), (3, .int x3), (4, .int x4), (5, .int x5)]) C0 dX8_fits_57 (by decide) rfl ?_
        refine J_iload (pc := 59) C0 0 dX8_fits_59 rfl ?_
        refine J_if_eq (pc := 61) (tgt := 75) C0 dX8_fits_61 (by decide) (fun h_61 => ?_) (fun h_61 => ?_)
        · refine J_iconst (pc := 75) (v := 1) C0 dX8_fits_75 (by decide) ?_
          refine J_goto (pc := 76) (tgt := 80) C0 dX8_fits_76 (by decide) ?_
          refine J_istore (pc := 80) (lv' := [(4, .int 1), (6, .int (σ.1 0 (ix r53))), (0, .ref (ad 0)), (2, .int x2), (3, .int x3), (5, .int x5)]) C0 dX8_fits_80 (by decide) rfl ?_
          refine J_iinc (pc := 82) (d := 1) (lv' := [(5, .int (x5 + 1)), (4, .int 1), (6, .int (σ.1 0 (ix r53))), (0, .ref (ad 0)), (2, .int x2), (3, .int x3)]) C0 5 dX8_fits_82 rfl (by decide) (by decide) rfl ?_
          refine J_goto (pc := 85) (tgt := 29) C0 dX8_fits_85 (by decide) ?_
          refine J_sub (lv' := [(0, .ref (ad 0)), (2, .int x2), (3, .int x3), (4, .int 1), (5, .int (x5 + 1))]) [3, 4, 5, 1, 0] rfl ?_
          exact ih 1 (x5 + 1)
        · refine J_iload (pc := 64) C0 0 dX8_fits_64 rfl ?_
          refine J_iload_n (pc := 66) C0 3 dX8_fits_66 rfl rfl ?_
          refine J_iload (pc := 67) C0 5 dX8_fits_67 rfl ?_
          refine fin_P (fun r_ h_ => run_S (As := [.int x3, .int x5]) (rest := [.int (σ.1 0 (ix r53))]) C0 (c_X8_letterOf σ x3 x5  r_ h_) v_X8_letterOf q467 rfl ⟨rfl, rfl⟩ (Rm_ok (by decide) (by decide)) rfl (Nat.le_of_ble_eq_true rfl) dX8_fits_69) (fun r69 e69 => ?_)
          refine J_icmp_ne (pc := 72) (tgt := 79) C0 dX8_fits_72 (by decide) (fun h_72 => ?_) (fun h_72 => ?_)
          · refine J_iconst (pc := 79) (v := 0) C0 dX8_fits_79 (by decide) ?_
            refine J_istore (pc := 80) (lv' := [(4, .int 0), (6, .int (σ.1 0 (ix r53))), (0, .ref (ad 0)), (2, .int x2), (3, .int x3), (5, .int x5)]) C0 dX8_fits_80 (by decide) rfl ?_
            refine J_iinc (pc := 82) (d := 1) (lv' := [(5, .int (x5 + 1)), (4, .int 0), (6, .int (σ.1 0 (ix r53))), (0, .ref (ad 0)), (2, .int x2), (3, .int x3)]) C0 5 dX8_fits_82 rfl (by decide) (by decide) rfl ?_
            refine J_goto (pc := 85) (tgt := 29) C0 dX8_fits_85 (by decide) ?_
            refine J_sub (lv' := [(0, .ref (ad 0)), (2, .int x2), (3, .int x3), (4, .int 0), (5, .int (x5 + 1))]) [3, 4, 5, 1, 0] rfl ?_
            exact ih 0 (x5 + 1)
          · refine J_iconst (pc := 75) (v := 1) C0 dX8_fits_75 (by decide) ?_
            refine J_goto (pc := 76) (tgt := 80) C0 dX8_fits_76 (by decide) ?_
            refine J_istore (pc := 80) (lv' := [(4, .int 1), (6, .int (σ.1 0 (ix r53))), (0, .ref (ad 0)), (2, .int x2), (3, .int x3), (5, .int x5)]) C0 dX8_fits_80 (by decide) rfl ?_
            refine J_iinc (pc := 82) (d := 1) (lv' := [(5, .int (x5 + 1)), (4, .int 1), (6, .int (σ.1 0 (ix r53))), (0, .ref (ad 0)), (2, .int x2), (3, .int x3)]) C0 5 dX8_fits_82 rfl (by decide) (by decide) rfl ?_
            refine J_goto (pc := 85) (tgt := 29) C0 dX8_fits_85 (by decide) ?_
            refine J_sub (lv' := [(0, .ref (ad 0)), (2, .int x2), (3, .int x3), (4, .int 1), (5, .int (x5 + 1))]) [3, 4, 5, 1, 0] rfl ?_
            exact ih 1 (x5 + 1)
set_option maxRecDepth 100000 in
set_option maxHeartbeats 4000000 in
theorem c_X8_fits {l : Launch} {D : va_G} {cI cZ : ClassId} {A : Nat → Prop} {ad : Nat → Nat} (σ : SR) (x1 : Int32) (x2 : Int32)  (r : Int32) (h : f_X8_fits σ x1 x2 = some r) : Met l yX8_fits (.code yX8_fits cX8_fits 7 (some .boolean) :: wG) (Rm 3) (PreW D (tyA cI cZ) A (wR ad cI cZ) [.ref (ad 0), .int x1, .int x2] σ) (QI D A (wR ad cI cZ) (r, σ)) 0 0 A := by
  refine met_of (M := f_X8_fits σ x1 x2) (Qc := (fun r => QI D A (wR ad cI cZ) (r, σ))) (by decide) (Nat.le_of_ble_eq_true rfl) h (fun p e s m below meth c C0 => ?_)
  generalize hargs : ([.ref (ad 0), .int x1, .int x2] : List Value).toArray = args at C0 ⊢
  have C0 : Cx D (tyA cI cZ) RX8 cX8_fits 7 (some .boolean) p s m args meth c := C0
  refine J_sub (lv' := [(0, .ref (ad 0)), (1, .int x1), (2, .int x2)]) [0, 1, 2] rfl ?_
  unfold f_X8_fits
  refine J_aload_n (pc := 0) C0 0 dX8_fits_0 rfl rfl ?_
  refine J_iload_n (pc := 1) C0 1 dX8_fits_1 rfl rfl ?_
  refine fin_P (fun r_ h_ => run_V (As := [.int x1]) (rest := []) (q0 := 0) C0 (c_X8_codeAt σ x1  r_ h_) v_X8_codeAt q420 wR_o rfl rfl ⟨rfl, rfl⟩ (Rm_ok (by decide) (by decide)) rfl (Nat.le_of_ble_eq_true rfl) dX8_fits_2) (fun r2 e2 => ?_)
  refine J_istore_n (pc := 5) (lv' := [(3, .int r2), (0, .ref (ad 0)), (1, .int x1), (2, .int x2)]) C0 dX8_fits_5 rfl (by decide) rfl ?_
  refine J_iload_n (pc := 6) C0 0 dX8_fits_6 rfl rfl ?_
  refine fin_P (fun r_ h_ => run_S (As := [.int r2]) (rest := []) C0 (c_X8_lengthOf σ r2  r_ h_) v_X8_lengthOf q444 rfl ⟨rfl, rfl⟩ (Rm_ok (by decide) (by decide)) rfl (Nat.le_of_ble_eq_true rfl) dX8_fits_7) (fun r7 e7 => ?_)
  refine J_aload_n (pc := 10) C0 1 dX8_fits_10 rfl rfl ?_
  refine J_get (pc := 11) (v := .ref (ad 6)) C0 0 wR_o rfl in_X8 8 (by decide) q412 rfl dX8_fits_11 ?_
  refine J_iload_n (pc := 14) C0 3 dX8_fits_14 rfl rfl ?_
  refine J_iald (pc := 15) C0 6 0 wR_a6 rfl dX8_fits_15 (fun h_15 => ?_)
  refine J_icmp_ne (pc := 16) (tgt := 23) C0 dX8_fits_16 (by decide) (fun h_16 => ?_) (fun h_16 => ?_)
  · refine J_iconst (pc := 23) (v := 0) C0 dX8_fits_23 (by decide) ?_
    refine J_istore (pc := 24) (lv' := [(4, .int 0), (3, .int r2), (0, .ref (ad 0)), (1, .int x1), (2, .int x2)]) C0 dX8_fits_24 (by decide) rfl ?_
    refine J_iconst (pc := 26) (v := 0) C0 dX8_fits_26 (by decide) ?_
    refine J_istore (pc := 27) (lv' := [(5, .int 0), (4, .int 0), (3, .int r2), (0, .ref (ad 0)), (1, .int x1), (2, .int x2)]) C0 dX8_fits_27 (by decide) rfl ?_
    refine J_sub (lv' := [(0, .ref (ad 0)), (2, .int x2), (3, .int r2), (4, .int 0), (5, .int 0)]) [3, 5, 2, 1, 0] rfl ?_
    refine j_X8_fits_L29 C0 σ x2 r2 _ (fun x4_88 => ?_) FU 0 0
    refine J_iload (pc := 88) C0 0 dX8_fits_88 rfl ?_
    exact J_zretP C0 dX8_fits_90
  · refine J_iconst (pc := 19) (v := 1) C0 dX8_fits_19 (by decide) ?_
    refine J_goto (pc := 20) (tgt := 24) C0 dX8_fits_20 (by decide) ?_
    refine J_istore (pc := 24) (lv' := [(4, .int 1), (3, .int r2), (0, .ref (ad 0)), (1, .int x1), (2, .int x2)]) C0 dX8_fits_24 (by decide) rfl ?_
    refine J_iconst (pc := 26) (v := 0) C0 dX8_fits_26 (by decide) ?_
    refine J_istore (pc := 27) (lv' := [(5, .int 0), (4, .int 1), (3, .int r2), (0, .ref (ad 0)), (1, .int x1), (2, .int x2)]) C0 dX8_fits_27 (by decide) rfl ?_
    refine J_sub (lv' := [(0, .ref (ad 0)), (2, .int x2), (3, .int r2), (4, .int 1), (5, .int 0)]) [3, 5, 2, 1, 0] rfl ?_
    refine j_X8_fits_L29 C0 σ x2 r2 _ (fun x4_88 => ?_) FU 1 0
    refine J_iload (pc := 88) C0 0 dX8_fits_88 rfl ?_
    exact J_zretP C0 dX8_fits_90
end SE

def f_X8_isCode_L12 (x0 : Int32) (kx44 : Int32 → Option Int32) : Nat → Int32 → Int32 → Option Int32
  | 0, _, _ => none
  | n + 1, x1, x2 =>
  (if x1 = 0 then (kx44 x1) else ((f_X8_lengthOf x0).bind fun r18 => (if r18 ≤ x2 then (kx44 x1) else ((f_X8_letterOf x0 x2).bind fun r26 => (if r26 ≤ 0 then (f_X8_isCode_L12 x0 kx44 n 0 (x2 + 1)) else (f_X8_isCode_L12 x0 kx44 n 1 (x2 + 1)))))))
theorem f_X8_isCode_L12_s (x0 : Int32) (kx44 : Int32 → Option Int32) (n : Nat) (x1 : Int32) (x2 : Int32) : f_X8_isCode_L12 x0 kx44 (n + 1) x1 x2 = ((if x1 = 0 then (kx44 x1) else ((f_X8_lengthOf x0).bind fun r18 => (if r18 ≤ x2 then (kx44 x1) else ((f_X8_letterOf x0 x2).bind fun r26 => (if r26 ≤ 0 then (f_X8_isCode_L12 x0 kx44 n 0 (x2 + 1)) else (f_X8_isCode_L12 x0 kx44 n 1 (x2 + 1)))))))) := rfl
def f_X8_isCode (x0 : Int32) : Option Int32 :=
  ((f_X8_in x0 (nI 8) (nI 2400)).bind fun r6 => (f_X8_isCode_L12 x0 (fun x1_44 => (if x1_44 = 0 ∨ x1_44 = 1 then some x1_44 else none)) FU r6 0))
section SE
variable {p : Program} {l : Launch} {e : Env} {s : State} {m : MethodId} {args : Array Value} {below : List Frame} {meth : Method} {c : Code} {D : va_G} {cI cZ : ClassId} {A : Nat → Prop} {ad : Nat → Nat}
set_option maxRecDepth 100000 in
set_option maxHeartbeats 4000000 in
theorem j_X8_isCode_L12 (C0 : Cx D (tyA cI cZ) RX8 cX8_isCode 3 (some .boolean) p s m args meth c) (σ : SR) (x0 : Int32) (kx44 : Int32 → Option Int32) (hkx44 : ∀ (x1 : Int32), J p l e (Rm 3) s m args below meth c D A (wR ad cI cZ) 3 (fun r => QI D A (wR ad cI cZ) (r, σ)) (kx44 x1) σ [(1, .int x1)] [] 44) : ∀ (n : Nat) (x1 : Int32) (x2 : Int32), J p l e (Rm 3) s m args below meth c D A (wR ad cI cZ) 3 (fun r => QI D A (wR ad cI cZ) (r, σ)) (f_X8_isCode_L12 x0 kx44 n x1 x2) σ [(0, .int x0), (1, .int x1), (2, .int x2)] [] 12 := by
  intro n
  induction n with
  | zero => intros; exact J_none
  | succ n ih =>
    intro x1 x2
    refine J_eq (f_X8_isCode_L12_s x0 kx44 n x1 x2) ?_
    refine J_iload_n (pc := 12) C0 1 dX8_isCode_12 rfl rfl ?_
    refine J_if_eq (pc := 13) (tgt := 44) C0 dX8_isCode_13 (by decide) (fun h_13 => ?_) (fun h_13 => ?_)
    · refine J_sub (lv' := [(1, .int x1)]) [1] rfl ?_
      exact hkx44 x1
    · refine J_iload_n (pc := 16) C0 2 dX8_isCode_16 rfl rfl ?_
      refine J_iload_n (pc := 17) C0 0 dX8_isCode_17 rfl rfl ?_
      refine fin_P (fun r_ h_ => run_S (As := [.int x0]) (rest := [.int x2]) C0 (c_X8_lengthOf σ x0  r_ h_) v_X8_lengthOf q444 rfl ⟨rfl, rfl⟩ (Rm_ok (by decide) (by decide)) rfl (Nat.le_of_ble_eq_true rfl) dX8_isCode_18) (fun r18 e18 => ?_)
      refine J_icmp_ge (pc := 21) (tgt := 44) C0 dX8_isCode_21 (by decide) (fun h_21 => ?_) (fun h_21 => ?_)
      · refine J_sub (lv' := [(1, .int x1)]) [1] rfl ?_
        exact hkx44 x1
      · refine J_iload_n (pc := 24) C0 0 dX8_isCode_24 rfl rfl ?_
        refine J_iload_n (pc := 25) C0 2 dX8_isCode_25 rfl rfl ?_
        refine fin_P (fun r_ h_ => run_S (As := [.int x0, .int x2]) (rest := []) C0 (c_X8_letterOf σ x0 x2  r_ h_) v_X8_letterOf q467 rfl ⟨rfl, rfl⟩ (Rm_ok (by decide) (by decide)) rfl (Nat.le_of_ble_eq_true rfl) dX8_isCode_26) (fun r26 e26 => ?_)
        refine J_if_le (pc := 29) (tgt := 36) C0 dX8_isCode_29 (by decide) (fun h_29 => ?_) (fun h_29 => ?_)
        · refine J_iconst (pc := 36) (v := 0) C0 dX8_isCode_36 (by decide) ?_
          refine J_istore_n (pc := 37) (lv' := [(1, .int 0), (0, .int x0), (2, .int x2)]) C0 dX8_isCode_37 rfl (by decide) rfl ?_
          refine J_iinc (pc := 38) (d := 1) (lv' := [(2, .int (x2 + 1)), (1, .int 0), (0, .int x0)]) C0 2 dX8_isCode_38 rfl (by decide) (by decide) rfl ?_
          refine J_goto (pc := 41) (tgt := 12) C0 dX8_isCode_41 (by decide) ?_
          refine J_sub (lv' := [(0, .int x0), (1, .int 0), (2, .int (x2 + 1))]) [2, 1, 0] rfl ?_
          exact ih 0 (x2 + 1)
        · refine J_iconst (pc := 32) (v := 1) C0 dX8_isCode_32 (by decide) ?_
          refine J_goto (pc := 33) (tgt := 37) C0 dX8_isCode_33 (by decide) ?_
          refine J_istore_n (pc := 37) (lv' := [(1, .int 1), (0, .int x0), (2, .int x2)]) C0 dX8_isCode_37 rfl (by decide) rfl ?_
          refine J_iinc (pc := 38) (d := 1) (lv' := [(2, .int (x2 + 1)), (1, .int 1), (0, .int x0)]) C0 2 dX8_isCode_38 rfl (by decide) (by decide) rfl ?_
          refine J_goto (pc := 41) (tgt := 12) C0 dX8_isCode_41 (by decide) ?_
          refine J_sub (lv' := [(0, .int x0), (1, .int 1), (2, .int (x2 + 1))]) [2, 1, 0] rfl ?_
          exact ih 1 (x2 + 1)
set_option maxRecDepth 100000 in
set_option maxHeartbeats 4000000 in
theorem c_X8_isCode {l : Launch} {D : va_G} {cI cZ : ClassId} {A : Nat → Prop} {ad : Nat → Nat} (σ : SR) (x0 : Int32)  (r : Int32) (h : f_X8_isCode x0 = some r) : Met l yX8_isCode (.code yX8_isCode cX8_isCode 3 (some .boolean) :: wG) (Rm 3) (PreW D (tyA cI cZ) A (wR ad cI cZ) [.int x0] σ) (QI D A (wR ad cI cZ) (r, σ)) 0 0 A := by
  refine met_of (M := f_X8_isCode x0) (Qc := (fun r => QI D A (wR ad cI cZ) (r, σ))) (by decide) (Nat.le_of_ble_eq_true rfl) h (fun p e s m below meth c C0 => ?_)
  generalize hargs : ([.int x0] : List Value).toArray = args at C0 ⊢
  have C0 : Cx D (tyA cI cZ) RX8 cX8_isCode 3 (some .boolean) p s m args meth c := C0
  refine J_sub (lv' := [(0, .int x0)]) [0] rfl ?_
  unfold f_X8_isCode
  refine J_iload_n (pc := 0) C0 0 dX8_isCode_0 rfl rfl ?_
  refine J_bipush (pc := 1) (v := (nI 8)) C0 dX8_isCode_1 (by decide) ?_
  refine J_sipush (pc := 3) (v := (nI 2400)) C0 dX8_isCode_3 (by decide) ?_
  refine fin_P (fun r_ h_ => run_S (As := [.int x0, .int (nI 8), .int (nI 2400)]) (rest := []) C0 (c_X8_in σ x0 (nI 8) (nI 2400)  r_ h_) v_X8_in q425 rfl ⟨rfl, rfl⟩ (Rm_ok (by decide) (by decide)) rfl (Nat.le_of_ble_eq_true rfl) dX8_isCode_6) (fun r6 e6 => ?_)
  refine J_istore_n (pc := 9) (lv' := [(1, .int r6), (0, .int x0)]) C0 dX8_isCode_9 rfl (by decide) rfl ?_
  refine J_iconst (pc := 10) (v := 0) C0 dX8_isCode_10 (by decide) ?_
  refine J_istore_n (pc := 11) (lv' := [(2, .int 0), (1, .int r6), (0, .int x0)]) C0 dX8_isCode_11 rfl (by decide) rfl ?_
  refine J_sub (lv' := [(0, .int x0), (1, .int r6), (2, .int 0)]) [2, 1, 0] rfl ?_
  refine j_X8_isCode_L12 C0 σ x0 _ (fun x1_44 => ?_) FU r6 0
  refine J_iload_n (pc := 44) C0 0 dX8_isCode_44 rfl rfl ?_
  exact J_zretP C0 dX8_isCode_45
end SE

def f_X8_isSlot (σ : SR) (x1 : Int32) : Option (Int32 × SR) :=
  ((f_X8_laySlots σ).bind fun σ1 => ((f_X8_in x1 0 ((σ1.1 9 2) - 1)).bind fun r12 => (if r12 = 0 ∨ r12 = 1 then some (r12, σ1) else none)))
section SE
variable {p : Program} {l : Launch} {e : Env} {s : State} {m : MethodId} {args : Array Value} {below : List Frame} {meth : Method} {c : Code} {D : va_G} {cI cZ : ClassId} {A : Nat → Prop} {ad : Nat → Nat}
set_option maxRecDepth 100000 in
set_option maxHeartbeats 4000000 in
theorem c_X8_isSlot {l : Launch} {D : va_G} {cI cZ : ClassId} {A : Nat → Prop} {ad : Nat → Nat} (σ : SR) (x1 : Int32)  (r : (Int32 × SR)) (h : f_X8_isSlot σ x1 = some r) : Met l yX8_isSlot (.code yX8_isSlot cX8_isSlot 2 (some .boolean) :: wG) (Rm 3) (PreW D (tyA cI cZ) A (wR ad cI cZ) [.ref (ad 0), .int x1] σ) (QI D A (wR ad cI cZ) r) 0 0 A := by
  refine met_of (M := f_X8_isSlot σ x1) (Qc := (QI D A (wR ad cI cZ))) (by decide) (Nat.le_of_ble_eq_true rfl) h (fun p e s m below meth c C0 => ?_)
  generalize hargs : ([.ref (ad 0), .int x1] : List Value).toArray = args at C0 ⊢
  have C0 : Cx D (tyA cI cZ) RX8 cX8_isSlot 2 (some .boolean) p s m args meth c := C0
  refine J_sub (lv' := [(0, .ref (ad 0)), (1, .int x1)]) [0, 1] rfl ?_
  unfold f_X8_isSlot
  refine J_aload_n (pc := 0) C0 0 dX8_isSlot_0 rfl rfl ?_
  refine fin_V (fun r_ h_ => run_V (As := []) (rest := []) (q0 := 0) C0 (c_X8_laySlots σ   r_ h_) v_X8_laySlots q450 wR_o rfl rfl ⟨rfl, rfl⟩ (Rm_ok (by decide) (by decide)) rfl (Nat.le_of_ble_eq_true rfl) dX8_isSlot_1) (fun σ1 e1 => ?_)
  refine J_iload_n (pc := 4) C0 1 dX8_isSlot_4 rfl rfl ?_
  refine J_iconst (pc := 5) (v := 0) C0 dX8_isSlot_5 (by decide) ?_
  refine J_aload_n (pc := 6) C0 0 dX8_isSlot_6 rfl rfl ?_
  refine J_get (pc := 7) (v := .int (σ1.1 9 2)) C0 0 wR_o rfl in_X8 6 (by decide) q395 rfl dX8_isSlot_7 ?_
  refine J_iconst (pc := 10) (v := 1) C0 dX8_isSlot_10 (by decide) ?_
  refine J_isub (pc := 11) C0 dX8_isSlot_11 ?_
  refine fin_P (fun r_ h_ => run_S (As := [.int x1, .int 0, .int ((σ1.1 9 2) - 1)]) (rest := []) C0 (c_X8_in σ1 x1 0 ((σ1.1 9 2) - 1)  r_ h_) v_X8_in q425 rfl ⟨rfl, rfl⟩ (Rm_ok (by decide) (by decide)) rfl (Nat.le_of_ble_eq_true rfl) dX8_isSlot_12) (fun r12 e12 => ?_)
  exact J_zret C0 dX8_isSlot_15
end SE

def f_X8_letterIn (σ : SR) (x1 : Int32) (x2 : Int32) (x3 : Int32) : Option Int32 :=
  ((f_X8_codeAt σ x1).bind fun r2 => ((f_X8_placeIn σ x2 x3).bind fun r8 => ((f_X8_letterOf r2 r8).bind fun r11 => (some r11))))
section SE
variable {p : Program} {l : Launch} {e : Env} {s : State} {m : MethodId} {args : Array Value} {below : List Frame} {meth : Method} {c : Code} {D : va_G} {cI cZ : ClassId} {A : Nat → Prop} {ad : Nat → Nat}
set_option maxRecDepth 100000 in
set_option maxHeartbeats 4000000 in
theorem c_X8_letterIn {l : Launch} {D : va_G} {cI cZ : ClassId} {A : Nat → Prop} {ad : Nat → Nat} (σ : SR) (x1 : Int32) (x2 : Int32) (x3 : Int32)  (r : Int32) (h : f_X8_letterIn σ x1 x2 x3 = some r) : Met l yX8_letterIn (.code yX8_letterIn cX8_letterIn 4 (some .int) :: wG) (Rm 3) (PreW D (tyA cI cZ) A (wR ad cI cZ) [.ref (ad 0), .int x1, .int x2, .int x3] σ) (QI D A (wR ad cI cZ) (r, σ)) 0 0 A := by
  refine met_of (M := f_X8_letterIn σ x1 x2 x3) (Qc := (fun r => QI D A (wR ad cI cZ) (r, σ))) (by decide) (Nat.le_of_ble_eq_true rfl) h (fun p e s m below meth c C0 => ?_)
  generalize hargs : ([.ref (ad 0), .int x1, .int x2, .int x3] : List Value).toArray = args at C0 ⊢
  have C0 : Cx D (tyA cI cZ) RX8 cX8_letterIn 4 (some .int) p s m args meth c := C0
  refine J_sub (lv' := [(0, .ref (ad 0)), (1, .int x1), (2, .int x2), (3, .int x3)]) [0, 1, 2, 3] rfl ?_
  unfold f_X8_letterIn
  refine J_aload_n (pc := 0) C0 0 dX8_letterIn_0 rfl rfl ?_
  refine J_iload_n (pc := 1) C0 1 dX8_letterIn_1 rfl rfl ?_
  refine fin_P (fun r_ h_ => run_V (As := [.int x1]) (rest := []) (q0 := 0) C0 (c_X8_codeAt σ x1  r_ h_) v_X8_codeAt q420 wR_o rfl rfl ⟨rfl, rfl⟩ (Rm_ok (by decide) (by decide)) rfl (Nat.le_of_ble_eq_true rfl) dX8_letterIn_2) (fun r2 e2 => ?_)
  refine J_aload_n (pc := 5) C0 0 dX8_letterIn_5 rfl rfl ?_
  refine J_iload_n (pc := 6) C0 2 dX8_letterIn_6 rfl rfl ?_
  refine J_iload_n (pc := 7) C0 3 dX8_letterIn_7 rfl rfl ?_
  refine fin_P (fun r_ h_ => run_V (As := [.int x2, .int x3]) (rest := [.int r2]) (q0 := 0) C0 (c_X8_placeIn σ x2 x3  r_ h_) v_X8_placeIn q454 wR_o rfl rfl ⟨rfl, rfl⟩ (Rm_ok (by decide) (by decide)) rfl (Nat.le_of_ble_eq_true rfl) dX8_letterIn_8) (fun r8 e8 => ?_)
  refine fin_P (fun r_ h_ => run_S (As := [.int r2, .int r8]) (rest := []) C0 (c_X8_letterOf σ r2 r8  r_ h_) v_X8_letterOf q467 rfl ⟨rfl, rfl⟩ (Rm_ok (by decide) (by decide)) rfl (Nat.le_of_ble_eq_true rfl) dX8_letterIn_11) (fun r11 e11 => ?_)
  exact J_iretP C0 dX8_letterIn_14
end SE

def f_X8_strike_L28 : Nat → SR → Int32 → Option (Int32 × SR)
  | 0, _, _ => none
  | n + 1, σ, x2 =>
  (if inb (nI 16) 33 = true then (if (σ.1 0 (ix (nI 16))) ≤ x2 then (if inb (nI 16) 33 = true then (some ((σ.1 0 (ix (nI 16))), σ)) else none) else (if inb (((nI 17) + x2) + 1) 33 = true then (if inb ((nI 17) + x2) 33 = true then (f_X8_strike_L28 n (rsu σ 0 (ix ((nI 17) + x2)) (σ.1 0 (ix (((nI 17) + x2) + 1)))) (x2 + 1)) else none) else none)) else none)
theorem f_X8_strike_L28_s (n : Nat) (σ : SR) (x2 : Int32) : f_X8_strike_L28 (n + 1) σ x2 = ((if inb (nI 16) 33 = true then (if (σ.1 0 (ix (nI 16))) ≤ x2 then (if inb (nI 16) 33 = true then (some ((σ.1 0 (ix (nI 16))), σ)) else none) else (if inb (((nI 17) + x2) + 1) 33 = true then (if inb ((nI 17) + x2) 33 = true then (f_X8_strike_L28 n (rsu σ 0 (ix ((nI 17) + x2)) (σ.1 0 (ix (((nI 17) + x2) + 1)))) (x2 + 1)) else none) else none)) else none)) := rfl
def f_X8_strike (σ : SR) (x1 : Int32) : Option (Int32 × SR) :=
  ((f_X8_isWord σ x1).bind fun r2 => (if r2 = 0 then (some ((-1000000001), σ)) else ((f_X8_remember σ).bind fun σ12 => (if inb (nI 16) 33 = true then (if inb (nI 16) 33 = true then (f_X8_strike_L28 FU (rsu σ12 0 (ix (nI 16)) ((σ12.1 0 (ix (nI 16))) - 1)) x1) else none) else none))))
section SE
variable {p : Program} {l : Launch} {e : Env} {s : State} {m : MethodId} {args : Array Value} {below : List Frame} {meth : Method} {c : Code} {D : va_G} {cI cZ : ClassId} {A : Nat → Prop} {ad : Nat → Nat}
set_option maxRecDepth 100000 in
set_option maxHeartbeats 4000000 in
theorem j_X8_strike_L28 (C0 : Cx D (tyA cI cZ) RX8 cX8_strike 3 (some .int) p s m args meth c) : ∀ (n : Nat) (σ : SR) (x2 : Int32), J p l e (Rm 3) s m args below meth c D A (wR ad cI cZ) 3 (QI D A (wR ad cI cZ)) (f_X8_strike_L28 n σ x2) σ [(0, .ref (ad 0)), (2, .int x2)] [] 28 := by
  intro n
  induction n with
  | zero => intros; exact J_none
  | succ n ih =>
    intro σ x2
    refine J_eq (f_X8_strike_L28_s  n σ x2) ?_
    refine J_iload_n (pc := 28) C0 1 dX8_strike_28 rfl rfl ?_
    refine J_aload_n (pc := 29) C0 0 dX8_strike_29 rfl rfl ?_
    refine J_get (pc := 30) (v := .ref (ad 1)) C0 0 wR_o rfl in_X8 0 (by decide) q411 rfl dX8_strike_30 ?_
    refine J_bipush (pc := 33) (v := (nI 16)) C0 dX8_strike_33 (by decide) ?_
    refine J_iald (pc := 35) C0 1 0 wR_a1 rfl dX8_strike_35 (fun h_35 => ?_)
    refine J_icmp_ge (pc := 36) (tgt := 65) C0 dX8_strike_36 (by decide) (fun h_36 => ?_) (fun h_36 => ?_)
    · refine J_aload_n (pc := 65) C0 0 dX8_strike_65 rfl rfl ?_
      refine J_get (pc := 66) (v := .ref (ad 1)) C0 0 wR_o rfl in_X8 0 (by decide) q411 rfl dX8_strike_66 ?_
      refine J_bipush (pc := 69) (v := (nI 16)) C0 dX8_strike_69 (by decide) ?_
      refine J_iald (pc := 71) C0 1 0 wR_a1 rfl dX8_strike_71 (fun h_71 => ?_)
      exact J_iret C0 dX8_strike_72
    · refine J_aload_n (pc := 39) C0 0 dX8_strike_39 rfl rfl ?_
      refine J_get (pc := 40) (v := .ref (ad 1)) C0 0 wR_o rfl in_X8 0 (by decide) q411 rfl dX8_strike_40 ?_
      refine J_bipush (pc := 43) (v := (nI 17)) C0 dX8_strike_43 (by decide) ?_
      refine J_iload_n (pc := 45) C0 1 dX8_strike_45 rfl rfl ?_
      refine J_iadd (pc := 46) C0 dX8_strike_46 ?_
      refine J_aload_n (pc := 47) C0 0 dX8_strike_47 rfl rfl ?_
      refine J_get (pc := 48) (v := .ref (ad 1)) C0 0 wR_o rfl in_X8 0 (by decide) q411 rfl dX8_strike_48 ?_
      refine J_bipush (pc := 51) (v := (nI 17)) C0 dX8_strike_51 (by decide) ?_
      refine J_iload_n (pc := 53) C0 1 dX8_strike_53 rfl rfl ?_
      refine J_iadd (pc := 54) C0 dX8_strike_54 ?_
      refine J_iconst (pc := 55) (v := 1) C0 dX8_strike_55 (by decide) ?_
      refine J_iadd (pc := 56) C0 dX8_strike_56 ?_
      refine J_iald (pc := 57) C0 1 0 wR_a1 rfl dX8_strike_57 (fun h_57 => ?_)
      refine J_iast (pc := 58) (σ' := (rsu σ 0 (ix ((nI 17) + x2)) (σ.1 0 (ix (((nI 17) + x2) + 1))))) C0 1 0 wR_a1 rfl wR_s1 dX8_strike_58 (fun h_58 => ?_)
      refine J_iinc (pc := 59) (d := 1) (lv' := [(2, .int (x2 + 1)), (0, .ref (ad 0))]) C0 1 dX8_strike_59 rfl (by decide) (by decide) rfl ?_
      refine J_goto (pc := 62) (tgt := 28) C0 dX8_strike_62 (by decide) ?_
      refine J_sub (lv' := [(0, .ref (ad 0)), (2, .int (x2 + 1))]) [1, 0] rfl ?_
      exact ih (rsu σ 0 (ix ((nI 17) + x2)) (σ.1 0 (ix (((nI 17) + x2) + 1)))) (x2 + 1)
set_option maxRecDepth 100000 in
set_option maxHeartbeats 4000000 in
theorem c_X8_strike {l : Launch} {D : va_G} {cI cZ : ClassId} {A : Nat → Prop} {ad : Nat → Nat} (σ : SR) (x1 : Int32)  (r : (Int32 × SR)) (h : f_X8_strike σ x1 = some r) : Met l yX8_strike (.code yX8_strike cX8_strike 3 (some .int) :: wG) (Rm 3) (PreW D (tyA cI cZ) A (wR ad cI cZ) [.ref (ad 0), .int x1] σ) (QI D A (wR ad cI cZ) r) 0 0 A := by
  refine met_of (M := f_X8_strike σ x1) (Qc := (QI D A (wR ad cI cZ))) (by decide) (Nat.le_of_ble_eq_true rfl) h (fun p e s m below meth c C0 => ?_)
  generalize hargs : ([.ref (ad 0), .int x1] : List Value).toArray = args at C0 ⊢
  have C0 : Cx D (tyA cI cZ) RX8 cX8_strike 3 (some .int) p s m args meth c := C0
  refine J_sub (lv' := [(0, .ref (ad 0)), (1, .int x1)]) [0, 1] rfl ?_
  unfold f_X8_strike
  refine J_aload_n (pc := 0) C0 0 dX8_strike_0 rfl rfl ?_
  refine J_iload_n (pc := 1) C0 1 dX8_strike_1 rfl rfl ?_
  refine fin_P (fun r_ h_ => run_V (As := [.int x1]) (rest := []) (q0 := 0) C0 (c_X8_isWord σ x1  r_ h_) v_X8_isWord q470 wR_o rfl rfl ⟨rfl, rfl⟩ (Rm_ok (by decide) (by decide)) rfl (Nat.le_of_ble_eq_true rfl) dX8_strike_2) (fun r2 e2 => ?_)
  refine J_if_ne (pc := 5) (tgt := 11) C0 dX8_strike_5 (by decide) (fun h_5 => ?_) (fun h_5 => ?_)
  · refine J_aload_n (pc := 11) C0 0 dX8_strike_11 rfl rfl ?_
    refine fin_V (fun r_ h_ => run_V (As := []) (rest := []) (q0 := 0) C0 (c_X8_remember σ   r_ h_) v_X8_remember q439 wR_o rfl rfl ⟨rfl, rfl⟩ (Rm_ok (by decide) (by decide)) rfl (Nat.le_of_ble_eq_true rfl) dX8_strike_12) (fun σ12 e12 => ?_)
    refine J_aload_n (pc := 15) C0 0 dX8_strike_15 rfl rfl ?_
    refine J_get (pc := 16) (v := .ref (ad 1)) C0 0 wR_o rfl in_X8 0 (by decide) q411 rfl dX8_strike_16 ?_
    refine J_bipush (pc := 19) (v := (nI 16)) C0 dX8_strike_19 (by decide) ?_
    refine J_dup2 (pc := 21) C0 dX8_strike_21 rfl rfl ?_
    refine J_iald (pc := 22) C0 1 0 wR_a1 rfl dX8_strike_22 (fun h_22 => ?_)
    refine J_iconst (pc := 23) (v := 1) C0 dX8_strike_23 (by decide) ?_
    refine J_isub (pc := 24) C0 dX8_strike_24 ?_
    refine J_iast (pc := 25) (σ' := (rsu σ12 0 (ix (nI 16)) ((σ12.1 0 (ix (nI 16))) - 1))) C0 1 0 wR_a1 rfl wR_s1 dX8_strike_25 (fun h_25 => ?_)
    refine J_iload_n (pc := 26) C0 1 dX8_strike_26 rfl rfl ?_
    refine J_istore_n (pc := 27) (lv' := [(2, .int x1), (0, .ref (ad 0)), (1, .int x1)]) C0 dX8_strike_27 rfl (by decide) rfl ?_
    refine J_sub (lv' := [(0, .ref (ad 0)), (2, .int x1)]) [1, 0] rfl ?_
    exact j_X8_strike_L28 C0 FU (rsu σ12 0 (ix (nI 16)) ((σ12.1 0 (ix (nI 16))) - 1)) x1
  · refine J_ldc (pc := 8) C0 q430 dX8_strike_8 ?_
    exact J_iret C0 dX8_strike_10
end SE

def f_X8_wrong_L29 (x1 : Int32) (x2 : Int32) (kx90 : SR → Int32 → Option (Int32 × SR)) : Nat → SR → Int32 → Int32 → Option (Int32 × SR)
  | 0, _, _, _ => none
  | n + 1, σ, x3, x4 =>
  (if x2 ≤ x4 then (kx90 σ x3) else (if x3 = 0 then ((f_X8_isFull σ x4).bind fun r42 => (if r42 = 0 then (f_X8_wrong_L29 x1 x2 kx90 n σ 0 (x4 + 1)) else (if inb x4 8 = true then (if inb x2 8 = true then (if (σ.1 5 (ix x4)) = (σ.1 5 (ix x2)) then ((f_X8_lettersOf σ x4).bind fun r67 => ((f_X8_lettersOf σ x2).bind fun r72 => (if r67 = r72 then (f_X8_wrong_L29 x1 x2 kx90 n σ 1 (x4 + 1)) else (f_X8_wrong_L29 x1 x2 kx90 n σ 0 (x4 + 1))))) else (f_X8_wrong_L29 x1 x2 kx90 n σ 0 (x4 + 1))) else none) else none))) else (f_X8_wrong_L29 x1 x2 kx90 n σ 1 (x4 + 1))))
theorem f_X8_wrong_L29_s (x1 : Int32) (x2 : Int32) (kx90 : SR → Int32 → Option (Int32 × SR)) (n : Nat) (σ : SR) (x3 : Int32) (x4 : Int32) : f_X8_wrong_L29 x1 x2 kx90 (n + 1) σ x3 x4 = ((if x2 ≤ x4 then (kx90 σ x3) else (if x3 = 0 then ((f_X8_isFull σ x4).bind fun r42 => (if r42 = 0 then (f_X8_wrong_L29 x1 x2 kx90 n σ 0 (x4 + 1)) else (if inb x4 8 = true then (if inb x2 8 = true then (if (σ.1 5 (ix x4)) = (σ.1 5 (ix x2)) then ((f_X8_lettersOf σ x4).bind fun r67 => ((f_X8_lettersOf σ x2).bind fun r72 => (if r67 = r72 then (f_X8_wrong_L29 x1 x2 kx90 n σ 1 (x4 + 1)) else (f_X8_wrong_L29 x1 x2 kx90 n σ 0 (x4 + 1))))) else (f_X8_wrong_L29 x1 x2 kx90 n σ 0 (x4 + 1))) else none) else none))) else (f_X8_wrong_L29 x1 x2 kx90 n σ 1 (x4 + 1))))) := rfl
def f_X8_wrong_K109 (k8 : SR → Int32 → Int32 → Option (Int32 × SR)) (σ : SR) (x2 : Int32) (x3 : Int32) (y0 : Int32) (y1 : Int32) : Option (Int32 × SR) :=
  (if x3 = 0 then (k8 σ ((y1 + y0) + 0) (x2 + 1)) else (k8 σ ((y1 + y0) + 1) (x2 + 1)))
def f_X8_wrong_L8 : Nat → SR → Int32 → Int32 → Option (Int32 × SR)
  | 0, _, _, _ => none
  | n + 1, σ, x1, x2 =>
  (if (σ.1 9 2) ≤ x2 then (some (x1, σ)) else ((f_X8_isFull σ x2).bind fun r18 => (if r18 = 0 then (f_X8_wrong_L8 n σ x1 (x2 + 1)) else (f_X8_wrong_L29 x1 x2 (fun σ_90 x3_90 => ((f_X8_lettersOf σ_90 x2).bind fun r94 => ((f_X8_findCode σ_90 r94).bind fun r97 => (if r97 = (-1) then (f_X8_wrong_K109 (f_X8_wrong_L8 n) σ_90 x2 x3_90 1 x1) else (f_X8_wrong_K109 (f_X8_wrong_L8 n) σ_90 x2 x3_90 0 x1))))) FU σ 0 0))))
theorem f_X8_wrong_L8_s (n : Nat) (σ : SR) (x1 : Int32) (x2 : Int32) : f_X8_wrong_L8 (n + 1) σ x1 x2 = ((if (σ.1 9 2) ≤ x2 then (some (x1, σ)) else ((f_X8_isFull σ x2).bind fun r18 => (if r18 = 0 then (f_X8_wrong_L8 n σ x1 (x2 + 1)) else (f_X8_wrong_L29 x1 x2 (fun σ_90 x3_90 => ((f_X8_lettersOf σ_90 x2).bind fun r94 => ((f_X8_findCode σ_90 r94).bind fun r97 => (if r97 = (-1) then (f_X8_wrong_K109 (f_X8_wrong_L8 n) σ_90 x2 x3_90 1 x1) else (f_X8_wrong_K109 (f_X8_wrong_L8 n) σ_90 x2 x3_90 0 x1))))) FU σ 0 0))))) := rfl
def f_X8_wrong (σ : SR)  : Option (Int32 × SR) :=
  ((f_X8_laySlots σ).bind fun σ1 => (f_X8_wrong_L8 FU σ1 0 0))
section SE
variable {p : Program} {l : Launch} {e : Env} {s : State} {m : MethodId} {args : Array Value} {below : List Frame} {meth : Method} {c : Code} {D : va_G} {cI cZ : ClassId} {A : Nat → Prop} {ad : Nat → Nat}
set_option maxRecDepth 100000 in
set_option maxHeartbeats 4000000 in
theorem j_X8_wrong_L29 (C0 : Cx D (tyA cI cZ) RX8 cX8_wrong 5 (some .int) p s m args meth c) (x1 : Int32) (x2 : Int32) (kx90 : SR → Int32 → Option (Int32 × SR)) (hkx90 : ∀ (σ : SR) (x3 : Int32), J p l e (Rm 3) s m args below meth c D A (wR ad cI cZ) 5 (QI D A (wR ad cI cZ)) (kx90 σ x3) σ [(0, .ref (ad 0)), (1, .int x1), (2, .int x2), (3, .int x3)] [] 90) : ∀ (n : Nat) (σ : SR) (x3 : Int32) (x4 : Int32), J p l e (Rm 3) s m args below meth c D A (wR ad cI cZ) 5 (QI D A (wR ad cI cZ)) (f_X8_wrong_L29 x1 x2 kx90 n σ x3 x4) σ [(0, .ref (ad 0)), (1, .int x1), (2, .int x2), (3, .int x3), (4, .int x4)] [] 29 := by
  intro n
  induction n with
  | zero => intros; exact J_none
  | succ n ih =>
    intro σ x3 x4
    refine J_eq (f_X8_wrong_L29_s x1 x2 kx90 n σ x3 x4) ?_
    refine J_iload (pc := 29) C0 4 dX8_wrong_29 rfl ?_
    refine J_iload_n (pc := 31) C0 2 dX8_wrong_31 rfl rfl ?_
    refine J_icmp_ge (pc := 32) (tgt := 90) C0 dX8_wrong_32 (by decide) (fun h_32 => ?_) (fun h_32 => ?_)
    · refine J_sub (lv' := [(0, .ref (ad 0)), (1, .int x1), (2, .int x2), (3, .int x3)]) [0, 1, 2, 3] rfl ?_
      exact hkx90 σ x3
    · refine J_iload_n (pc := 35) C0 3 dX8_wrong_35 rfl rfl ?_
      refine J_if_ne (pc := 36) (tgt := 78) C0 dX8_wrong_36 (by decide) (fun h_36 => ?_) (fun h_36 => ?_)
      · refine J_iconst (pc := 78) (v := 1) C0 dX8_wrong_78 (by decide) ?_
        refine J_goto (pc := 79) (tgt := 83) C0 dX8_wrong_79 (by decide) ?_
        refine J_istore_n (pc := 83) (lv' := [(3, .int 1), (0, .ref (ad 0)), (1, .int x1), (2, .int x2), (4, .int x4)]) C0 dX8_wrong_83 rfl (by decide) rfl ?_
        refine J_iinc (pc := 84) (d := 1) (lv' := [(4, .int (x4 + 1)), (3, .int 1), (0, .ref (ad 0)), (1, .int x1), (2, .int x2)]) C0 4 dX8_wrong_84 rfl (by decide) (by decide) rfl ?_
        refine J_goto (pc := 87) (tgt := 29) C0 dX8_wrong_87 (by decide) ?_
        refine J_sub (lv' := [(0, .ref (ad 0)), (1, .int x1), (2, .int x2), (3, .int 1), (4, .int (x4 + 1))]) [2, 3, 4, 1, 0] rfl ?_
        exact ih σ 1 (x4 + 1)
      · refine J_aload_n (pc := 39) C0 0 dX8_wrong_39 rfl rfl ?_
        refine J_iload (pc := 40) C0 4 dX8_wrong_40 rfl ?_
        refine fin_P (fun r_ h_ => run_V (As := [.int x4]) (rest := []) (q0 := 0) C0 (c_X8_isFull σ x4  r_ h_) v_X8_isFull q474 wR_o rfl rfl ⟨rfl, rfl⟩ (Rm_ok (by decide) (by decide)) rfl (Nat.le_of_ble_eq_true rfl) dX8_wrong_42) (fun r42 e42 => ?_)
        refine J_if_eq (pc := 45) (tgt := 82) C0 dX8_wrong_45 (by decide) (fun h_45 => ?_) (fun h_45 => ?_)
        · refine J_iconst (pc := 82) (v := 0) C0 dX8_wrong_82 (by decide) ?_
          refine J_istore_n (pc := 83) (lv' := [(3, .int 0), (0, .ref (ad 0)), (1, .int x1), (2, .int x2), (4, .int x4)]) C0 dX8_wrong_83 rfl (by decide) rfl ?_
          refine J_iinc (pc := 84) (d := 1) (lv' := [(4, .int (x4 + 1)), (3, .int 0), (0, .ref (ad 0)), (1, .int x1), (2, .int x2)]) C0 4 dX8_wrong_84 rfl (by decide) (by decide) rfl ?_
          refine J_goto (pc := 87) (tgt := 29) C0 dX8_wrong_87 (by decide) ?_
          refine J_sub (lv' := [(0, .ref (ad 0)), (1, .int x1), (2, .int x2), (3, .int 0), (4, .int (x4 + 1))]) [2, 3, 4, 1, 0] rfl ?_
          exact ih σ 0 (x4 + 1)
        · refine J_aload_n (pc := 48) C0 0 dX8_wrong_48 rfl rfl ?_
          refine J_get (pc := 49) (v := .ref (ad 6)) C0 0 wR_o rfl in_X8 8 (by decide) q412 rfl dX8_wrong_49 ?_
          refine J_iload (pc := 52) C0 4 dX8_wrong_52 rfl ?_
          refine J_iald (pc := 54) C0 6 0 wR_a6 rfl dX8_wrong_54 (fun h_54 => ?_)
          refine J_aload_n (pc := 55) C0 0 dX8_wrong_55 rfl rfl ?_
          refine J_get (pc := 56) (v := .ref (ad 6)) C0 0 wR_o rfl in_X8 8 (by decide) q412 rfl dX8_wrong_56 ?_
          refine J_iload_n (pc := 59) C0 2 dX8_wrong_59 rfl rfl ?_
          refine J_iald (pc := 60) C0 6 0 wR_a6 rfl dX8_wrong_60 (fun h_60 => ?_)
          refine J_icmp_ne (pc := 61) (tgt := 82) C0 dX8_wrong_61 (by decide) (fun h_61 => ?_) (fun h_61 => ?_)
          · refine J_iconst (pc := 82) (v := 0) C0 dX8_wrong_82 (by decide) ?_
            refine J_istore_n (pc := 83) (lv' := [(3, .int 0), (0, .ref (ad 0)), (1, .int x1), (2, .int x2), (4, .int x4)]) C0 dX8_wrong_83 rfl (by decide) rfl ?_
            refine J_iinc (pc := 84) (d := 1) (lv' := [(4, .int (x4 + 1)), (3, .int 0), (0, .ref (ad 0)), (1, .int x1), (2, .int x2)]) C0 4 dX8_wrong_84 rfl (by decide) (by decide) rfl ?_
            refine J_goto (pc := 87) (tgt := 29) C0 dX8_wrong_87 (by decide) ?_
            refine J_sub (lv' := [(0, .ref (ad 0)), (1, .int x1), (2, .int x2), (3, .int 0), (4, .int (x4 + 1))]) [2, 3, 4, 1, 0] rfl ?_
            exact ih σ 0 (x4 + 1)
          · refine J_aload_n (pc := 64) C0 0 dX8_wrong_64 rfl rfl ?_
            refine J_iload (pc := 65) C0 4 dX8_wrong_65 rfl ?_
            refine fin_P (fun r_ h_ => run_V (As := [.int x4]) (rest := []) (q0 := 0) C0 (c_X8_lettersOf σ x4  r_ h_) v_X8_lettersOf q478 wR_o rfl rfl ⟨rfl, rfl⟩ (Rm_ok (by decide) (by decide)) rfl (Nat.le_of_ble_eq_true rfl) dX8_wrong_67) (fun r67 e67 => ?_)
            refine J_aload_n (pc := 70) C0 0 dX8_wrong_70 rfl rfl ?_
            refine J_iload_n (pc := 71) C0 2 dX8_wrong_71 rfl rfl ?_
            refine fin_P (fun r_ h_ => run_V (As := [.int x2]) (rest := [.int r67]) (q0 := 0) C0 (c_X8_lettersOf σ x2  r_ h_) v_X8_lettersOf q478 wR_o rfl rfl ⟨rfl, rfl⟩ (Rm_ok (by decide) (by decide)) rfl (Nat.le_of_ble_eq_true rfl) dX8_wrong_72) (fun r72 e72 => ?_)
            refine J_icmp_ne (pc := 75) (tgt := 82) C0 dX8_wrong_75 (by decide) (fun h_75 => ?_) (fun h_75 => ?_)
            · refine J_iconst (pc := 82) (v := 0) C0 dX8_wrong_82 (by decide) ?_
              refine J_istore_n (pc := 83) (lv' := [(3, .int 0), (0, .ref (ad 0)), (1, .int x1), (2, .int x2), (4, .int x4)]) C0 dX8_wrong_83 rfl (by decide) rfl ?_
              refine J_iinc (pc := 84) (d := 1) (lv' := [(4, .int (x4 + 1)), (3, .int 0), (0, .ref (ad 0)), (1, .int x1), (2, .int x2)]) C0 4 dX8_wrong_84 rfl (by decide) (by decide) rfl ?_
              refine J_goto (pc := 87) (tgt := 29) C0 dX8_wrong_87 (by decide) ?_
              refine J_sub (lv' := [(0, .ref (ad 0)), (1, .int x1), (2, .int x2), (3, .int 0), (4, .int (x4 + 1))]) [2, 3, 4, 1, 0] rfl ?_
              exact ih σ 0 (x4 + 1)
            · refine J_iconst (pc := 78) (v := 1) C0 dX8_wrong_78 (by decide) ?_
              refine J_goto (pc := 79) (tgt := 83) C0 dX8_wrong_79 (by decide) ?_
              refine J_istore_n (pc := 83) (lv' := [(3, .int 1), (0, .ref (ad 0)), (1, .int x1), (2, .int x2), (4, .int x4)]) C0 dX8_wrong_83 rfl (by decide) rfl ?_
              refine J_iinc (pc := 84) (d := 1) (lv' := [(4, .int (x4 + 1)), (3, .int 1), (0, .ref (ad 0)), (1, .int x1), (2, .int x2)]) C0 4 dX8_wrong_84 rfl (by decide) (by decide) rfl ?_
              refine J_goto (pc := 87) (tgt := 29) C0 dX8_wrong_87 (by decide) ?_
              refine J_sub (lv' := [(0, .ref (ad 0)), (1, .int x1), (2, .int x2), (3, .int 1), (4, .int (x4 + 1))]) [2, 3, 4, 1, 0] rfl ?_
              exact ih σ 1 (x4 + 1)
set_option maxRecDepth 100000 in
set_option maxHeartbeats 4000000 in
theorem j_X8_wrong_K109 (C0 : Cx D (tyA cI cZ) RX8 cX8_wrong 5 (some .int) p s m args meth c) (k8 : SR → Int32 → Int32 → Option (Int32 × SR)) (σ : SR) (x2 : Int32) (x3 : Int32) (y0 : Int32) (y1 : Int32) (hk8 : ∀ (σ : SR) (x1 : Int32) (x2 : Int32), J p l e (Rm 3) s m args below meth c D A (wR ad cI cZ) 5 (QI D A (wR ad cI cZ)) (k8 σ x1 x2) σ [(0, .ref (ad 0)), (1, .int x1), (2, .int x2)] [] 8) : J p l e (Rm 3) s m args below meth c D A (wR ad cI cZ) 5 (QI D A (wR ad cI cZ)) (f_X8_wrong_K109 k8 σ x2 x3 y0 y1) σ [(0, .ref (ad 0)), (2, .int x2), (3, .int x3)] [.int y0, .int y1] 109 := by
  unfold f_X8_wrong_K109
  refine J_iadd (pc := 109) C0 dX8_wrong_109 ?_
  refine J_istore_n (pc := 110) (lv' := [(1, .int (y1 + y0)), (0, .ref (ad 0)), (2, .int x2), (3, .int x3)]) C0 dX8_wrong_110 rfl (by decide) rfl ?_
  refine J_iload_n (pc := 111) C0 0 dX8_wrong_111 rfl rfl ?_
  refine J_iload_n (pc := 112) C0 3 dX8_wrong_112 rfl rfl ?_
  refine J_if_eq (pc := 113) (tgt := 120) C0 dX8_wrong_113 (by decide) (fun h_113 => ?_) (fun h_113 => ?_)
  · refine J_iconst (pc := 120) (v := 0) C0 dX8_wrong_120 (by decide) ?_
    refine J_iadd (pc := 121) C0 dX8_wrong_121 ?_
    refine J_istore_n (pc := 122) (lv' := [(1, .int ((y1 + y0) + 0)), (0, .ref (ad 0)), (2, .int x2), (3, .int x3)]) C0 dX8_wrong_122 rfl (by decide) rfl ?_
    refine J_iinc (pc := 123) (d := 1) (lv' := [(2, .int (x2 + 1)), (1, .int ((y1 + y0) + 0)), (0, .ref (ad 0)), (3, .int x3)]) C0 2 dX8_wrong_123 rfl (by decide) (by decide) rfl ?_
    refine J_goto (pc := 126) (tgt := 8) C0 dX8_wrong_126 (by decide) ?_
    refine J_sub (lv' := [(0, .ref (ad 0)), (1, .int ((y1 + y0) + 0)), (2, .int (x2 + 1))]) [2, 1, 0] rfl ?_
    exact hk8 σ ((y1 + y0) + 0) (x2 + 1)
  · refine J_iconst (pc := 116) (v := 1) C0 dX8_wrong_116 (by decide) ?_
    refine J_goto (pc := 117) (tgt := 121) C0 dX8_wrong_117 (by decide) ?_
    refine J_iadd (pc := 121) C0 dX8_wrong_121 ?_
    refine J_istore_n (pc := 122) (lv' := [(1, .int ((y1 + y0) + 1)), (0, .ref (ad 0)), (2, .int x2), (3, .int x3)]) C0 dX8_wrong_122 rfl (by decide) rfl ?_
    refine J_iinc (pc := 123) (d := 1) (lv' := [(2, .int (x2 + 1)), (1, .int ((y1 + y0) + 1)), (0, .ref (ad 0)), (3, .int x3)]) C0 2 dX8_wrong_123 rfl (by decide) (by decide) rfl ?_
    refine J_goto (pc := 126) (tgt := 8) C0 dX8_wrong_126 (by decide) ?_
    refine J_sub (lv' := [(0, .ref (ad 0)), (1, .int ((y1 + y0) + 1)), (2, .int (x2 + 1))]) [2, 1, 0] rfl ?_
    exact hk8 σ ((y1 + y0) + 1) (x2 + 1)
set_option maxRecDepth 100000 in
set_option maxHeartbeats 4000000 in
theorem j_X8_wrong_L8 (C0 : Cx D (tyA cI cZ) RX8 cX8_wrong 5 (some .int) p s m args meth c) : ∀ (n : Nat) (σ : SR) (x1 : Int32) (x2 : Int32), J p l e (Rm 3) s m args below meth c D A (wR ad cI cZ) 5 (QI D A (wR ad cI cZ)) (f_X8_wrong_L8 n σ x1 x2) σ [(0, .ref (ad 0)), (1, .int x1), (2, .int x2)] [] 8 := by
  intro n
  induction n with
  | zero => intros; exact J_none
  | succ n ih =>
    intro σ x1 x2
    refine J_eq (f_X8_wrong_L8_s  n σ x1 x2) ?_
    refine J_iload_n (pc := 8) C0 2 dX8_wrong_8 rfl rfl ?_
    refine J_aload_n (pc := 9) C0 0 dX8_wrong_9 rfl rfl ?_
    refine J_get (pc := 10) (v := .int (σ.1 9 2)) C0 0 wR_o rfl in_X8 6 (by decide) q395 rfl dX8_wrong_10 ?_
    refine J_icmp_ge (pc := 13) (tgt := 129) C0 dX8_wrong_13 (by decide) (fun h_13 => ?_) (fun h_13 => ?_)
    · refine J_iload_n (pc := 129) C0 1 dX8_wrong_129 rfl rfl ?_
      exact J_iret C0 dX8_wrong_130
    · refine J_aload_n (pc := 16) C0 0 dX8_wrong_16 rfl rfl ?_
      refine J_iload_n (pc := 17) C0 2 dX8_wrong_17 rfl rfl ?_
      refine fin_P (fun r_ h_ => run_V (As := [.int x2]) (rest := []) (q0 := 0) C0 (c_X8_isFull σ x2  r_ h_) v_X8_isFull q474 wR_o rfl rfl ⟨rfl, rfl⟩ (Rm_ok (by decide) (by decide)) rfl (Nat.le_of_ble_eq_true rfl) dX8_wrong_18) (fun r18 e18 => ?_)
      refine J_if_eq (pc := 21) (tgt := 123) C0 dX8_wrong_21 (by decide) (fun h_21 => ?_) (fun h_21 => ?_)
      · refine J_iinc (pc := 123) (d := 1) (lv' := [(2, .int (x2 + 1)), (0, .ref (ad 0)), (1, .int x1)]) C0 2 dX8_wrong_123 rfl (by decide) (by decide) rfl ?_
        refine J_goto (pc := 126) (tgt := 8) C0 dX8_wrong_126 (by decide) ?_
        refine J_sub (lv' := [(0, .ref (ad 0)), (1, .int x1), (2, .int (x2 + 1))]) [1, 2, 0] rfl ?_
        exact ih σ x1 (x2 + 1)
      · refine J_iconst (pc := 24) (v := 0) C0 dX8_wrong_24 (by decide) ?_
        refine J_istore_n (pc := 25) (lv' := [(3, .int 0), (0, .ref (ad 0)), (1, .int x1), (2, .int x2)]) C0 dX8_wrong_25 rfl (by decide) rfl ?_
        refine J_iconst (pc := 26) (v := 0) C0 dX8_wrong_26 (by decide) ?_
        refine J_istore (pc := 27) (lv' := [(4, .int 0), (3, .int 0), (0, .ref (ad 0)), (1, .int x1), (2, .int x2)]) C0 dX8_wrong_27 (by decide) rfl ?_
        refine J_sub (lv' := [(0, .ref (ad 0)), (1, .int x1), (2, .int x2), (3, .int 0), (4, .int 0)]) [2, 3, 4, 1, 0] rfl ?_
        refine j_X8_wrong_L29 C0 x1 x2 _ (fun σ_90 x3_90 => ?_) FU σ 0 0
        refine J_iload_n (pc := 90) C0 1 dX8_wrong_90 rfl rfl ?_
        refine J_aload_n (pc := 91) C0 0 dX8_wrong_91 rfl rfl ?_
        refine J_aload_n (pc := 92) C0 0 dX8_wrong_92 rfl rfl ?_
        refine J_iload_n (pc := 93) C0 2 dX8_wrong_93 rfl rfl ?_
        refine fin_P (fun r_ h_ => run_V (As := [.int x2]) (rest := [.ref (ad 0), .int x1]) (q0 := 0) C0 (c_X8_lettersOf σ_90 x2  r_ h_) v_X8_lettersOf q478 wR_o rfl rfl ⟨rfl, rfl⟩ (Rm_ok (by decide) (by decide)) rfl (Nat.le_of_ble_eq_true rfl) dX8_wrong_94) (fun r94 e94 => ?_)
        refine fin_P (fun r_ h_ => run_V (As := [.int r94]) (rest := [.int x1]) (q0 := 0) C0 (c_X8_findCode σ_90 r94  r_ h_) v_X8_findCode q463 wR_o rfl rfl ⟨rfl, rfl⟩ (Rm_ok (by decide) (by decide)) rfl (Nat.le_of_ble_eq_true rfl) dX8_wrong_97) (fun r97 e97 => ?_)
        refine J_iconst (pc := 100) (v := (-1)) C0 dX8_wrong_100 (by decide) ?_
        refine J_icmp_ne (pc := 101) (tgt := 108) C0 dX8_wrong_101 (by decide) (fun h_101 => ?_) (fun h_101 => ?_)
        · refine J_iconst (pc := 108) (v := 0) C0 dX8_wrong_108 (by decide) ?_
          refine J_sub (lv' := [(0, .ref (ad 0)), (2, .int x2), (3, .int x3_90)]) [0, 2, 3] rfl ?_
          exact j_X8_wrong_K109 C0 _ σ_90 x2 x3_90 0 x1 ih
        · refine J_iconst (pc := 104) (v := 1) C0 dX8_wrong_104 (by decide) ?_
          refine J_goto (pc := 105) (tgt := 109) C0 dX8_wrong_105 (by decide) ?_
          refine J_sub (lv' := [(0, .ref (ad 0)), (2, .int x2), (3, .int x3_90)]) [0, 2, 3] rfl ?_
          exact j_X8_wrong_K109 C0 _ σ_90 x2 x3_90 1 x1 ih
set_option maxRecDepth 100000 in
set_option maxHeartbeats 4000000 in
theorem c_X8_wrong {l : Launch} {D : va_G} {cI cZ : ClassId} {A : Nat → Prop} {ad : Nat → Nat} (σ : SR)   (r : (Int32 × SR)) (h : f_X8_wrong σ = some r) : Met l yX8_wrong (.code yX8_wrong cX8_wrong 5 (some .int) :: wG) (Rm 3) (PreW D (tyA cI cZ) A (wR ad cI cZ) [.ref (ad 0)] σ) (QI D A (wR ad cI cZ) r) 0 0 A := by
  refine met_of (M := f_X8_wrong σ) (Qc := (QI D A (wR ad cI cZ))) (by decide) (Nat.le_of_ble_eq_true rfl) h (fun p e s m below meth c C0 => ?_)
  generalize hargs : ([.ref (ad 0)] : List Value).toArray = args at C0 ⊢
  have C0 : Cx D (tyA cI cZ) RX8 cX8_wrong 5 (some .int) p s m args meth c := C0
  refine J_sub (lv' := [(0, .ref (ad 0))]) [0] rfl ?_
  unfold f_X8_wrong
  refine J_aload_n (pc := 0) C0 0 dX8_wrong_0 rfl rfl ?_
  refine fin_V (fun r_ h_ => run_V (As := []) (rest := []) (q0 := 0) C0 (c_X8_laySlots σ   r_ h_) v_X8_laySlots q450 wR_o rfl rfl ⟨rfl, rfl⟩ (Rm_ok (by decide) (by decide)) rfl (Nat.le_of_ble_eq_true rfl) dX8_wrong_1) (fun σ1 e1 => ?_)
  refine J_iconst (pc := 4) (v := 0) C0 dX8_wrong_4 (by decide) ?_
  refine J_istore_n (pc := 5) (lv' := [(1, .int 0), (0, .ref (ad 0))]) C0 dX8_wrong_5 rfl (by decide) rfl ?_
  refine J_iconst (pc := 6) (v := 0) C0 dX8_wrong_6 (by decide) ?_
  refine J_istore_n (pc := 7) (lv' := [(2, .int 0), (1, .int 0), (0, .ref (ad 0))]) C0 dX8_wrong_7 rfl (by decide) rfl ?_
  refine J_sub (lv' := [(0, .ref (ad 0)), (1, .int 0), (2, .int 0)]) [2, 1, 0] rfl ?_
  exact j_X8_wrong_L8 C0 FU σ1 0 0
end SE

def f_X8_add (σ : SR) (x1 : Int32) : Option (Int32 × SR) :=
  ((f_X8_isCode x1).bind fun r1 => (if r1 = 0 then (some ((-1000000002), σ)) else ((f_X8_findCode σ x1).bind fun r12 => (if r12 = (-1) then (if inb (nI 16) 33 = true then (if (σ.1 0 (ix (nI 16))) = (nI 16) then (some ((-1000000004), σ)) else ((f_X8_remember σ).bind fun σ38 => (if inb (nI 16) 33 = true then (if inb ((nI 17) + (σ38.1 0 (ix (nI 16)))) 33 = true then (if inb (nI 16) 33 = true then (if inb (nI 16) 33 = true then (if inb (nI 16) 33 = true then (some ((((rsu (rsu σ38 0 (ix ((nI 17) + (σ38.1 0 (ix (nI 16))))) x1) 0 (ix (nI 16)) (((rsu σ38 0 (ix ((nI 17) + (σ38.1 0 (ix (nI 16))))) x1).1 0 (ix (nI 16))) + 1)).1 0 (ix (nI 16))) - 1), (rsu (rsu σ38 0 (ix ((nI 17) + (σ38.1 0 (ix (nI 16))))) x1) 0 (ix (nI 16)) (((rsu σ38 0 (ix ((nI 17) + (σ38.1 0 (ix (nI 16))))) x1).1 0 (ix (nI 16))) + 1)))) else none) else none) else none) else none) else none))) else none) else (some ((-1000000003), σ))))))
section SE
variable {p : Program} {l : Launch} {e : Env} {s : State} {m : MethodId} {args : Array Value} {below : List Frame} {meth : Method} {c : Code} {D : va_G} {cI cZ : ClassId} {A : Nat → Prop} {ad : Nat → Nat}
set_option maxRecDepth 100000 in
set_option maxHeartbeats 4000000 in
theorem c_X8_add {l : Launch} {D : va_G} {cI cZ : ClassId} {A : Nat → Prop} {ad : Nat → Nat} (σ : SR) (x1 : Int32)  (r : (Int32 × SR)) (h : f_X8_add σ x1 = some r) : Met l yX8_add (.code yX8_add cX8_add 2 (some .int) :: wG) (Rm 4) (PreW D (tyA cI cZ) A (wR ad cI cZ) [.ref (ad 0), .int x1] σ) (QI D A (wR ad cI cZ) r) 0 0 A := by
  refine met_of (M := f_X8_add σ x1) (Qc := (QI D A (wR ad cI cZ))) (by decide) (Nat.le_of_ble_eq_true rfl) h (fun p e s m below meth c C0 => ?_)
  generalize hargs : ([.ref (ad 0), .int x1] : List Value).toArray = args at C0 ⊢
  have C0 : Cx D (tyA cI cZ) RX8 cX8_add 2 (some .int) p s m args meth c := C0
  refine J_sub (lv' := [(0, .ref (ad 0)), (1, .int x1)]) [0, 1] rfl ?_
  unfold f_X8_add
  refine J_iload_n (pc := 0) C0 1 dX8_add_0 rfl rfl ?_
  refine fin_P (fun r_ h_ => run_S (As := [.int x1]) (rest := []) C0 (c_X8_isCode σ x1  r_ h_) v_X8_isCode q482 rfl ⟨rfl, rfl⟩ (Rm_ok (by decide) (by decide)) rfl (Nat.le_of_ble_eq_true rfl) dX8_add_1) (fun r1 e1 => ?_)
  refine J_if_ne (pc := 4) (tgt := 10) C0 dX8_add_4 (by decide) (fun h_4 => ?_) (fun h_4 => ?_)
  · refine J_aload_n (pc := 10) C0 0 dX8_add_10 rfl rfl ?_
    refine J_iload_n (pc := 11) C0 1 dX8_add_11 rfl rfl ?_
    refine fin_P (fun r_ h_ => run_V (As := [.int x1]) (rest := []) (q0 := 0) C0 (c_X8_findCode σ x1  r_ h_) v_X8_findCode q463 wR_o rfl rfl ⟨rfl, rfl⟩ (Rm_ok (by decide) (by decide)) rfl (Nat.le_of_ble_eq_true rfl) dX8_add_12) (fun r12 e12 => ?_)
    refine J_iconst (pc := 15) (v := (-1)) C0 dX8_add_15 (by decide) ?_
    refine J_icmp_eq (pc := 16) (tgt := 22) C0 dX8_add_16 (by decide) (fun h_16 => ?_) (fun h_16 => ?_)
    · refine J_aload_n (pc := 22) C0 0 dX8_add_22 rfl rfl ?_
      refine J_get (pc := 23) (v := .ref (ad 1)) C0 0 wR_o rfl in_X8 0 (by decide) q411 rfl dX8_add_23 ?_
      refine J_bipush (pc := 26) (v := (nI 16)) C0 dX8_add_26 (by decide) ?_
      refine J_iald (pc := 28) C0 1 0 wR_a1 rfl dX8_add_28 (fun h_28 => ?_)
      refine J_bipush (pc := 29) (v := (nI 16)) C0 dX8_add_29 (by decide) ?_
      refine J_icmp_ne (pc := 31) (tgt := 37) C0 dX8_add_31 (by decide) (fun h_31 => ?_) (fun h_31 => ?_)
      · refine J_aload_n (pc := 37) C0 0 dX8_add_37 rfl rfl ?_
        refine fin_V (fun r_ h_ => run_V (As := []) (rest := []) (q0 := 0) C0 (c_X8_remember σ   r_ h_) v_X8_remember q439 wR_o rfl rfl ⟨rfl, rfl⟩ (Rm_ok (by decide) (by decide)) rfl (Nat.le_of_ble_eq_true rfl) dX8_add_38) (fun σ38 e38 => ?_)
        refine J_aload_n (pc := 41) C0 0 dX8_add_41 rfl rfl ?_
        refine J_get (pc := 42) (v := .ref (ad 1)) C0 0 wR_o rfl in_X8 0 (by decide) q411 rfl dX8_add_42 ?_
        refine J_bipush (pc := 45) (v := (nI 17)) C0 dX8_add_45 (by decide) ?_
        refine J_aload_n (pc := 47) C0 0 dX8_add_47 rfl rfl ?_
        refine J_get (pc := 48) (v := .ref (ad 1)) C0 0 wR_o rfl in_X8 0 (by decide) q411 rfl dX8_add_48 ?_
        refine J_bipush (pc := 51) (v := (nI 16)) C0 dX8_add_51 (by decide) ?_
        refine J_iald (pc := 53) C0 1 0 wR_a1 rfl dX8_add_53 (fun h_53 => ?_)
        refine J_iadd (pc := 54) C0 dX8_add_54 ?_
        refine J_iload_n (pc := 55) C0 1 dX8_add_55 rfl rfl ?_
        refine J_iast (pc := 56) (σ' := (rsu σ38 0 (ix ((nI 17) + (σ38.1 0 (ix (nI 16))))) x1)) C0 1 0 wR_a1 rfl wR_s1 dX8_add_56 (fun h_56 => ?_)
        refine J_aload_n (pc := 57) C0 0 dX8_add_57 rfl rfl ?_
        refine J_get (pc := 58) (v := .ref (ad 1)) C0 0 wR_o rfl in_X8 0 (by decide) q411 rfl dX8_add_58 ?_
        refine J_bipush (pc := 61) (v := (nI 16)) C0 dX8_add_61 (by decide) ?_
        refine J_dup2 (pc := 63) C0 dX8_add_63 rfl rfl ?_
        refine J_iald (pc := 64) C0 1 0 wR_a1 rfl dX8_add_64 (fun h_64 => ?_)
        refine J_iconst (pc := 65) (v := 1) C0 dX8_add_65 (by decide) ?_
        refine J_iadd (pc := 66) C0 dX8_add_66 ?_
        refine J_iast (pc := 67) (σ' := (rsu (rsu σ38 0 (ix ((nI 17) + (σ38.1 0 (ix (nI 16))))) x1) 0 (ix (nI 16)) (((rsu σ38 0 (ix ((nI 17) + (σ38.1 0 (ix (nI 16))))) x1).1 0 (ix (nI 16))) + 1))) C0 1 0 wR_a1 rfl wR_s1 dX8_add_67 (fun h_67 => ?_)
        refine J_aload_n (pc := 68) C0 0 dX8_add_68 rfl rfl ?_
        refine J_get (pc := 69) (v := .ref (ad 1)) C0 0 wR_o rfl in_X8 0 (by decide) q411 rfl dX8_add_69 ?_
        refine J_bipush (pc := 72) (v := (nI 16)) C0 dX8_add_72 (by decide) ?_
        refine J_iald (pc := 74) C0 1 0 wR_a1 rfl dX8_add_74 (fun h_74 => ?_)
        refine J_iconst (pc := 75) (v := 1) C0 dX8_add_75 (by decide) ?_
        refine J_isub (pc := 76) C0 dX8_add_76 ?_
        exact J_iret C0 dX8_add_77
      · refine J_ldc (pc := 34) C0 q485 dX8_add_34 ?_
        exact J_iret C0 dX8_add_36
    · refine J_ldc (pc := 19) C0 q419 dX8_add_19 ?_
      exact J_iret C0 dX8_add_21
  · refine J_ldc (pc := 7) C0 q443 dX8_add_7 ?_
    exact J_iret C0 dX8_add_9
end SE

def f_X8_block (σ : SR) (x1 : Int32) : Option (Int32 × SR) :=
  ((f_X8_in x1 0 (nI 15)).bind fun r4 => (if r4 = 0 then (some ((-1000000001), σ)) else (if inb x1 33 = true then (if (σ.1 0 (ix x1)) = (-1) then (some ((-1000000003), σ)) else ((f_X8_remember σ).bind fun σ27 => (if inb x1 33 = true then (bnd (f_X8_changed (rsu σ27 0 (ix x1) (-1))) fun r38 σ38 => (some (r38, σ38))) else none))) else none)))
section SE
variable {p : Program} {l : Launch} {e : Env} {s : State} {m : MethodId} {args : Array Value} {below : List Frame} {meth : Method} {c : Code} {D : va_G} {cI cZ : ClassId} {A : Nat → Prop} {ad : Nat → Nat}
set_option maxRecDepth 100000 in
set_option maxHeartbeats 4000000 in
theorem c_X8_block {l : Launch} {D : va_G} {cI cZ : ClassId} {A : Nat → Prop} {ad : Nat → Nat} (σ : SR) (x1 : Int32)  (r : (Int32 × SR)) (h : f_X8_block σ x1 = some r) : Met l yX8_block (.code yX8_block cX8_block 2 (some .int) :: wG) (Rm 4) (PreW D (tyA cI cZ) A (wR ad cI cZ) [.ref (ad 0), .int x1] σ) (QI D A (wR ad cI cZ) r) 0 0 A := by
  refine met_of (M := f_X8_block σ x1) (Qc := (QI D A (wR ad cI cZ))) (by decide) (Nat.le_of_ble_eq_true rfl) h (fun p e s m below meth c C0 => ?_)
  generalize hargs : ([.ref (ad 0), .int x1] : List Value).toArray = args at C0 ⊢
  have C0 : Cx D (tyA cI cZ) RX8 cX8_block 2 (some .int) p s m args meth c := C0
  refine J_sub (lv' := [(0, .ref (ad 0)), (1, .int x1)]) [0, 1] rfl ?_
  unfold f_X8_block
  refine J_iload_n (pc := 0) C0 1 dX8_block_0 rfl rfl ?_
  refine J_iconst (pc := 1) (v := 0) C0 dX8_block_1 (by decide) ?_
  refine J_bipush (pc := 2) (v := (nI 15)) C0 dX8_block_2 (by decide) ?_
  refine fin_P (fun r_ h_ => run_S (As := [.int x1, .int 0, .int (nI 15)]) (rest := []) C0 (c_X8_in σ x1 0 (nI 15)  r_ h_) v_X8_in q425 rfl ⟨rfl, rfl⟩ (Rm_ok (by decide) (by decide)) rfl (Nat.le_of_ble_eq_true rfl) dX8_block_4) (fun r4 e4 => ?_)
  refine J_if_ne (pc := 7) (tgt := 13) C0 dX8_block_7 (by decide) (fun h_7 => ?_) (fun h_7 => ?_)
  · refine J_aload_n (pc := 13) C0 0 dX8_block_13 rfl rfl ?_
    refine J_get (pc := 14) (v := .ref (ad 1)) C0 0 wR_o rfl in_X8 0 (by decide) q411 rfl dX8_block_14 ?_
    refine J_iload_n (pc := 17) C0 1 dX8_block_17 rfl rfl ?_
    refine J_iald (pc := 18) C0 1 0 wR_a1 rfl dX8_block_18 (fun h_18 => ?_)
    refine J_iconst (pc := 19) (v := (-1)) C0 dX8_block_19 (by decide) ?_
    refine J_icmp_ne (pc := 20) (tgt := 26) C0 dX8_block_20 (by decide) (fun h_20 => ?_) (fun h_20 => ?_)
    · refine J_aload_n (pc := 26) C0 0 dX8_block_26 rfl rfl ?_
      refine fin_V (fun r_ h_ => run_V (As := []) (rest := []) (q0 := 0) C0 (c_X8_remember σ   r_ h_) v_X8_remember q439 wR_o rfl rfl ⟨rfl, rfl⟩ (Rm_ok (by decide) (by decide)) rfl (Nat.le_of_ble_eq_true rfl) dX8_block_27) (fun σ27 e27 => ?_)
      refine J_aload_n (pc := 30) C0 0 dX8_block_30 rfl rfl ?_
      refine J_get (pc := 31) (v := .ref (ad 1)) C0 0 wR_o rfl in_X8 0 (by decide) q411 rfl dX8_block_31 ?_
      refine J_iload_n (pc := 34) C0 1 dX8_block_34 rfl rfl ?_
      refine J_iconst (pc := 35) (v := (-1)) C0 dX8_block_35 (by decide) ?_
      refine J_iast (pc := 36) (σ' := (rsu σ27 0 (ix x1) (-1))) C0 1 0 wR_a1 rfl wR_s1 dX8_block_36 (fun h_36 => ?_)
      refine J_aload_n (pc := 37) C0 0 dX8_block_37 rfl rfl ?_
      refine fin_I (fun r_ h_ => run_V (As := []) (rest := []) (q0 := 0) C0 (c_X8_changed (rsu σ27 0 (ix x1) (-1))   r_ h_) v_X8_changed q486 wR_o rfl rfl ⟨rfl, rfl⟩ (Rm_ok (by decide) (by decide)) rfl (Nat.le_of_ble_eq_true rfl) dX8_block_38) (fun r38 σ38 e38 => ?_)
      exact J_iret C0 dX8_block_41
    · refine J_ldc (pc := 23) C0 q419 dX8_block_23 ?_
      exact J_iret C0 dX8_block_25
  · refine J_ldc (pc := 10) C0 q430 dX8_block_10 ?_
    exact J_iret C0 dX8_block_12
end SE

def f_X8_crossed_L4 (σ : SR) (x1 : Int32) : Nat → Int32 → Int32 → Option Int32
  | 0, _, _ => none
  | n + 1, x2, x3 =>
  (if (σ.1 9 2) ≤ x3 then (some x2) else ((f_X8_common σ x1 x3).bind fun r16 => (if r16 = (-1) then (f_X8_crossed_L4 σ x1 n (x2 ||| (0 : Int32)) (x3 + 1)) else (f_X8_crossed_L4 σ x1 n (x2 ||| ((1 : Int32) <<< (x3 &&& 31))) (x3 + 1)))))
theorem f_X8_crossed_L4_s (σ : SR) (x1 : Int32) (n : Nat) (x2 : Int32) (x3 : Int32) : f_X8_crossed_L4 σ x1 (n + 1) x2 x3 = ((if (σ.1 9 2) ≤ x3 then (some x2) else ((f_X8_common σ x1 x3).bind fun r16 => (if r16 = (-1) then (f_X8_crossed_L4 σ x1 n (x2 ||| (0 : Int32)) (x3 + 1)) else (f_X8_crossed_L4 σ x1 n (x2 ||| ((1 : Int32) <<< (x3 &&& 31))) (x3 + 1)))))) := rfl
def f_X8_crossed (σ : SR) (x1 : Int32) : Option Int32 :=
  (f_X8_crossed_L4 σ x1 FU 0 0)
section SE
variable {p : Program} {l : Launch} {e : Env} {s : State} {m : MethodId} {args : Array Value} {below : List Frame} {meth : Method} {c : Code} {D : va_G} {cI cZ : ClassId} {A : Nat → Prop} {ad : Nat → Nat}
set_option maxRecDepth 100000 in
set_option maxHeartbeats 4000000 in
theorem j_X8_crossed_L4 (C0 : Cx D (tyA cI cZ) RX8 cX8_crossed 4 (some .int) p s m args meth c) (σ : SR) (x1 : Int32) : ∀ (n : Nat) (x2 : Int32) (x3 : Int32), J p l e (Rm 4) s m args below meth c D A (wR ad cI cZ) 4 (fun r => QI D A (wR ad cI cZ) (r, σ)) (f_X8_crossed_L4 σ x1 n x2 x3) σ [(0, .ref (ad 0)), (1, .int x1), (2, .int x2), (3, .int x3)] [] 4 := by
  intro n
  induction n with
  | zero => intros; exact J_none
  | succ n ih =>
    intro x2 x3
    refine J_eq (f_X8_crossed_L4_s σ x1 n x2 x3) ?_
    refine J_iload_n (pc := 4) C0 3 dX8_crossed_4 rfl rfl ?_
    refine J_aload_n (pc := 5) C0 0 dX8_crossed_5 rfl rfl ?_
    refine J_get (pc := 6) (v := .int (σ.1 9 2)) C0 0 wR_o rfl in_X8 6 (by decide) q395 rfl dX8_crossed_6 ?_
    refine J_icmp_ge (pc := 9) (tgt := 38) C0 dX8_crossed_9 (by decide) (fun h_9 => ?_) (fun h_9 => ?_)
    · refine J_iload_n (pc := 38) C0 2 dX8_crossed_38 rfl rfl ?_
      exact J_iretP C0 dX8_crossed_39
    · refine J_iload_n (pc := 12) C0 2 dX8_crossed_12 rfl rfl ?_
      refine J_aload_n (pc := 13) C0 0 dX8_crossed_13 rfl rfl ?_
      refine J_iload_n (pc := 14) C0 1 dX8_crossed_14 rfl rfl ?_
      refine J_iload_n (pc := 15) C0 3 dX8_crossed_15 rfl rfl ?_
      refine fin_P (fun r_ h_ => run_V (As := [.int x1, .int x3]) (rest := [.int x2]) (q0 := 0) C0 (c_X8_common σ x1 x3  r_ h_) v_X8_common q490 wR_o rfl rfl ⟨rfl, rfl⟩ (Rm_ok (by decide) (by decide)) rfl (Nat.le_of_ble_eq_true rfl) dX8_crossed_16) (fun r16 e16 => ?_)
      refine J_iconst (pc := 19) (v := (-1)) C0 dX8_crossed_19 (by decide) ?_
      refine J_icmp_eq (pc := 20) (tgt := 29) C0 dX8_crossed_20 (by decide) (fun h_20 => ?_) (fun h_20 => ?_)
      · refine J_iconst (pc := 29) (v := 0) C0 dX8_crossed_29 (by decide) ?_
        refine J_ior (pc := 30) C0 dX8_crossed_30 ?_
        refine J_istore_n (pc := 31) (lv' := [(2, .int (x2 ||| (0 : Int32))), (0, .ref (ad 0)), (1, .int x1), (3, .int x3)]) C0 dX8_crossed_31 rfl (by decide) rfl ?_
        refine J_iinc (pc := 32) (d := 1) (lv' := [(3, .int (x3 + 1)), (2, .int (x2 ||| (0 : Int32))), (0, .ref (ad 0)), (1, .int x1)]) C0 3 dX8_crossed_32 rfl (by decide) (by decide) rfl ?_
        refine J_goto (pc := 35) (tgt := 4) C0 dX8_crossed_35 (by decide) ?_
        refine J_sub (lv' := [(0, .ref (ad 0)), (1, .int x1), (2, .int (x2 ||| (0 : Int32))), (3, .int (x3 + 1))]) [2, 3, 1, 0] rfl ?_
        exact ih (x2 ||| (0 : Int32)) (x3 + 1)
      · refine J_iconst (pc := 23) (v := 1) C0 dX8_crossed_23 (by decide) ?_
        refine J_iload_n (pc := 24) C0 3 dX8_crossed_24 rfl rfl ?_
        refine J_ishl (pc := 25) C0 dX8_crossed_25 ?_
        refine J_goto (pc := 26) (tgt := 30) C0 dX8_crossed_26 (by decide) ?_
        refine J_ior (pc := 30) C0 dX8_crossed_30 ?_
        refine J_istore_n (pc := 31) (lv' := [(2, .int (x2 ||| ((1 : Int32) <<< (x3 &&& 31)))), (0, .ref (ad 0)), (1, .int x1), (3, .int x3)]) C0 dX8_crossed_31 rfl (by decide) rfl ?_
        refine J_iinc (pc := 32) (d := 1) (lv' := [(3, .int (x3 + 1)), (2, .int (x2 ||| ((1 : Int32) <<< (x3 &&& 31)))), (0, .ref (ad 0)), (1, .int x1)]) C0 3 dX8_crossed_32 rfl (by decide) (by decide) rfl ?_
        refine J_goto (pc := 35) (tgt := 4) C0 dX8_crossed_35 (by decide) ?_
        refine J_sub (lv' := [(0, .ref (ad 0)), (1, .int x1), (2, .int (x2 ||| ((1 : Int32) <<< (x3 &&& 31)))), (3, .int (x3 + 1))]) [2, 3, 1, 0] rfl ?_
        exact ih (x2 ||| ((1 : Int32) <<< (x3 &&& 31))) (x3 + 1)
set_option maxRecDepth 100000 in
set_option maxHeartbeats 4000000 in
theorem c_X8_crossed {l : Launch} {D : va_G} {cI cZ : ClassId} {A : Nat → Prop} {ad : Nat → Nat} (σ : SR) (x1 : Int32)  (r : Int32) (h : f_X8_crossed σ x1 = some r) : Met l yX8_crossed (.code yX8_crossed cX8_crossed 4 (some .int) :: wG) (Rm 4) (PreW D (tyA cI cZ) A (wR ad cI cZ) [.ref (ad 0), .int x1] σ) (QI D A (wR ad cI cZ) (r, σ)) 0 0 A := by
  refine met_of (M := f_X8_crossed σ x1) (Qc := (fun r => QI D A (wR ad cI cZ) (r, σ))) (by decide) (Nat.le_of_ble_eq_true rfl) h (fun p e s m below meth c C0 => ?_)
  generalize hargs : ([.ref (ad 0), .int x1] : List Value).toArray = args at C0 ⊢
  have C0 : Cx D (tyA cI cZ) RX8 cX8_crossed 4 (some .int) p s m args meth c := C0
  refine J_sub (lv' := [(0, .ref (ad 0)), (1, .int x1)]) [0, 1] rfl ?_
  unfold f_X8_crossed
  refine J_iconst (pc := 0) (v := 0) C0 dX8_crossed_0 (by decide) ?_
  refine J_istore_n (pc := 1) (lv' := [(2, .int 0), (0, .ref (ad 0)), (1, .int x1)]) C0 dX8_crossed_1 rfl (by decide) rfl ?_
  refine J_iconst (pc := 2) (v := 0) C0 dX8_crossed_2 (by decide) ?_
  refine J_istore_n (pc := 3) (lv' := [(3, .int 0), (2, .int 0), (0, .ref (ad 0)), (1, .int x1)]) C0 dX8_crossed_3 rfl (by decide) rfl ?_
  refine J_sub (lv' := [(0, .ref (ad 0)), (1, .int x1), (2, .int 0), (3, .int 0)]) [2, 3, 1, 0] rfl ?_
  exact j_X8_crossed_L4 C0 σ x1 FU 0 0
end SE

def f_X8_find (σ : SR) (x1 : Int32) : Option Int32 :=
  ((f_X8_isCode x1).bind fun r1 => (if r1 = 0 then (some (-1000000002)) else ((f_X8_findCode σ x1).bind fun r9 => (some r9))))
section SE
variable {p : Program} {l : Launch} {e : Env} {s : State} {m : MethodId} {args : Array Value} {below : List Frame} {meth : Method} {c : Code} {D : va_G} {cI cZ : ClassId} {A : Nat → Prop} {ad : Nat → Nat}
set_option maxRecDepth 100000 in
set_option maxHeartbeats 4000000 in
theorem c_X8_find {l : Launch} {D : va_G} {cI cZ : ClassId} {A : Nat → Prop} {ad : Nat → Nat} (σ : SR) (x1 : Int32)  (r : Int32) (h : f_X8_find σ x1 = some r) : Met l yX8_find (.code yX8_find cX8_find 2 (some .int) :: wG) (Rm 4) (PreW D (tyA cI cZ) A (wR ad cI cZ) [.ref (ad 0), .int x1] σ) (QI D A (wR ad cI cZ) (r, σ)) 0 0 A := by
  refine met_of (M := f_X8_find σ x1) (Qc := (fun r => QI D A (wR ad cI cZ) (r, σ))) (by decide) (Nat.le_of_ble_eq_true rfl) h (fun p e s m below meth c C0 => ?_)
  generalize hargs : ([.ref (ad 0), .int x1] : List Value).toArray = args at C0 ⊢
  have C0 : Cx D (tyA cI cZ) RX8 cX8_find 2 (some .int) p s m args meth c := C0
  refine J_sub (lv' := [(0, .ref (ad 0)), (1, .int x1)]) [0, 1] rfl ?_
  unfold f_X8_find
  refine J_iload_n (pc := 0) C0 1 dX8_find_0 rfl rfl ?_
  refine fin_P (fun r_ h_ => run_S (As := [.int x1]) (rest := []) C0 (c_X8_isCode σ x1  r_ h_) v_X8_isCode q482 rfl ⟨rfl, rfl⟩ (Rm_ok (by decide) (by decide)) rfl (Nat.le_of_ble_eq_true rfl) dX8_find_1) (fun r1 e1 => ?_)
  refine J_if_eq (pc := 4) (tgt := 15) C0 dX8_find_4 (by decide) (fun h_4 => ?_) (fun h_4 => ?_)
  · refine J_ldc (pc := 15) C0 q443 dX8_find_15 ?_
    exact J_iretP C0 dX8_find_17
  · refine J_aload_n (pc := 7) C0 0 dX8_find_7 rfl rfl ?_
    refine J_iload_n (pc := 8) C0 1 dX8_find_8 rfl rfl ?_
    refine fin_P (fun r_ h_ => run_V (As := [.int x1]) (rest := []) (q0 := 0) C0 (c_X8_findCode σ x1  r_ h_) v_X8_findCode q463 wR_o rfl rfl ⟨rfl, rfl⟩ (Rm_ok (by decide) (by decide)) rfl (Nat.le_of_ble_eq_true rfl) dX8_find_9) (fun r9 e9 => ?_)
    refine J_goto (pc := 12) (tgt := 17) C0 dX8_find_12 (by decide) ?_
    exact J_iretP C0 dX8_find_17
end SE

def f_X8_fittingWords_L4 (σ : SR) (x1 : Int32) : Nat → Int32 → Int32 → Option Int32
  | 0, _, _ => none
  | n + 1, x2, x3 =>
  (if inb (nI 16) 33 = true then (if (σ.1 0 (ix (nI 16))) ≤ x3 then (some x2) else ((f_X8_fits σ x3 x1).bind fun r19 => (if r19 = 0 then (f_X8_fittingWords_L4 σ x1 n (x2 + 0) (x3 + 1)) else (f_X8_fittingWords_L4 σ x1 n (x2 + 1) (x3 + 1))))) else none)
theorem f_X8_fittingWords_L4_s (σ : SR) (x1 : Int32) (n : Nat) (x2 : Int32) (x3 : Int32) : f_X8_fittingWords_L4 σ x1 (n + 1) x2 x3 = ((if inb (nI 16) 33 = true then (if (σ.1 0 (ix (nI 16))) ≤ x3 then (some x2) else ((f_X8_fits σ x3 x1).bind fun r19 => (if r19 = 0 then (f_X8_fittingWords_L4 σ x1 n (x2 + 0) (x3 + 1)) else (f_X8_fittingWords_L4 σ x1 n (x2 + 1) (x3 + 1))))) else none)) := rfl
def f_X8_fittingWords (σ : SR) (x1 : Int32) : Option Int32 :=
  (f_X8_fittingWords_L4 σ x1 FU 0 0)
section SE
variable {p : Program} {l : Launch} {e : Env} {s : State} {m : MethodId} {args : Array Value} {below : List Frame} {meth : Method} {c : Code} {D : va_G} {cI cZ : ClassId} {A : Nat → Prop} {ad : Nat → Nat}
set_option maxRecDepth 100000 in
set_option maxHeartbeats 4000000 in
theorem j_X8_fittingWords_L4 (C0 : Cx D (tyA cI cZ) RX8 cX8_fittingWords 4 (some .int) p s m args meth c) (σ : SR) (x1 : Int32) : ∀ (n : Nat) (x2 : Int32) (x3 : Int32), J p l e (Rm 4) s m args below meth c D A (wR ad cI cZ) 4 (fun r => QI D A (wR ad cI cZ) (r, σ)) (f_X8_fittingWords_L4 σ x1 n x2 x3) σ [(0, .ref (ad 0)), (1, .int x1), (2, .int x2), (3, .int x3)] [] 4 := by
  intro n
  induction n with
  | zero => intros; exact J_none
  | succ n ih =>
    intro x2 x3
    refine J_eq (f_X8_fittingWords_L4_s σ x1 n x2 x3) ?_
    refine J_iload_n (pc := 4) C0 3 dX8_fittingWords_4 rfl rfl ?_
    refine J_aload_n (pc := 5) C0 0 dX8_fittingWords_5 rfl rfl ?_
    refine J_get (pc := 6) (v := .ref (ad 1)) C0 0 wR_o rfl in_X8 0 (by decide) q411 rfl dX8_fittingWords_6 ?_
    refine J_bipush (pc := 9) (v := (nI 16)) C0 dX8_fittingWords_9 (by decide) ?_
    refine J_iald (pc := 11) C0 1 0 wR_a1 rfl dX8_fittingWords_11 (fun h_11 => ?_)
    refine J_icmp_ge (pc := 12) (tgt := 38) C0 dX8_fittingWords_12 (by decide) (fun h_12 => ?_) (fun h_12 => ?_)
    · refine J_iload_n (pc := 38) C0 2 dX8_fittingWords_38 rfl rfl ?_
      exact J_iretP C0 dX8_fittingWords_39
    · refine J_iload_n (pc := 15) C0 2 dX8_fittingWords_15 rfl rfl ?_
      refine J_aload_n (pc := 16) C0 0 dX8_fittingWords_16 rfl rfl ?_
      refine J_iload_n (pc := 17) C0 3 dX8_fittingWords_17 rfl rfl ?_
      refine J_iload_n (pc := 18) C0 1 dX8_fittingWords_18 rfl rfl ?_
      refine fin_P (fun r_ h_ => run_V (As := [.int x3, .int x1]) (rest := [.int x2]) (q0 := 0) C0 (c_X8_fits σ x3 x1  r_ h_) v_X8_fits q494 wR_o rfl rfl ⟨rfl, rfl⟩ (Rm_ok (by decide) (by decide)) rfl (Nat.le_of_ble_eq_true rfl) dX8_fittingWords_19) (fun r19 e19 => ?_)
      refine J_if_eq (pc := 22) (tgt := 29) C0 dX8_fittingWords_22 (by decide) (fun h_22 => ?_) (fun h_22 => ?_)
      · refine J_iconst (pc := 29) (v := 0) C0 dX8_fittingWords_29 (by decide) ?_
        refine J_iadd (pc := 30) C0 dX8_fittingWords_30 ?_
        refine J_istore_n (pc := 31) (lv' := [(2, .int (x2 + 0)), (0, .ref (ad 0)), (1, .int x1), (3, .int x3)]) C0 dX8_fittingWords_31 rfl (by decide) rfl ?_
        refine J_iinc (pc := 32) (d := 1) (lv' := [(3, .int (x3 + 1)), (2, .int (x2 + 0)), (0, .ref (ad 0)), (1, .int x1)]) C0 3 dX8_fittingWords_32 rfl (by decide) (by decide) rfl ?_
        refine J_goto (pc := 35) (tgt := 4) C0 dX8_fittingWords_35 (by decide) ?_
        refine J_sub (lv' := [(0, .ref (ad 0)), (1, .int x1), (2, .int (x2 + 0)), (3, .int (x3 + 1))]) [2, 3, 1, 0] rfl ?_
        exact ih (x2 + 0) (x3 + 1)
      · refine J_iconst (pc := 25) (v := 1) C0 dX8_fittingWords_25 (by decide) ?_
        refine J_goto (pc := 26) (tgt := 30) C0 dX8_fittingWords_26 (by decide) ?_
        refine J_iadd (pc := 30) C0 dX8_fittingWords_30 ?_
        refine J_istore_n (pc := 31) (lv' := [(2, .int (x2 + 1)), (0, .ref (ad 0)), (1, .int x1), (3, .int x3)]) C0 dX8_fittingWords_31 rfl (by decide) rfl ?_
        refine J_iinc (pc := 32) (d := 1) (lv' := [(3, .int (x3 + 1)), (2, .int (x2 + 1)), (0, .ref (ad 0)), (1, .int x1)]) C0 3 dX8_fittingWords_32 rfl (by decide) (by decide) rfl ?_
        refine J_goto (pc := 35) (tgt := 4) C0 dX8_fittingWords_35 (by decide) ?_
        refine J_sub (lv' := [(0, .ref (ad 0)), (1, .int x1), (2, .int (x2 + 1)), (3, .int (x3 + 1))]) [2, 3, 1, 0] rfl ?_
        exact ih (x2 + 1) (x3 + 1)
set_option maxRecDepth 100000 in
set_option maxHeartbeats 4000000 in
theorem c_X8_fittingWords {l : Launch} {D : va_G} {cI cZ : ClassId} {A : Nat → Prop} {ad : Nat → Nat} (σ : SR) (x1 : Int32)  (r : Int32) (h : f_X8_fittingWords σ x1 = some r) : Met l yX8_fittingWords (.code yX8_fittingWords cX8_fittingWords 4 (some .int) :: wG) (Rm 4) (PreW D (tyA cI cZ) A (wR ad cI cZ) [.ref (ad 0), .int x1] σ) (QI D A (wR ad cI cZ) (r, σ)) 0 0 A := by
  refine met_of (M := f_X8_fittingWords σ x1) (Qc := (fun r => QI D A (wR ad cI cZ) (r, σ))) (by decide) (Nat.le_of_ble_eq_true rfl) h (fun p e s m below meth c C0 => ?_)
  generalize hargs : ([.ref (ad 0), .int x1] : List Value).toArray = args at C0 ⊢
  have C0 : Cx D (tyA cI cZ) RX8 cX8_fittingWords 4 (some .int) p s m args meth c := C0
  refine J_sub (lv' := [(0, .ref (ad 0)), (1, .int x1)]) [0, 1] rfl ?_
  unfold f_X8_fittingWords
  refine J_iconst (pc := 0) (v := 0) C0 dX8_fittingWords_0 (by decide) ?_
  refine J_istore_n (pc := 1) (lv' := [(2, .int 0), (0, .ref (ad 0)), (1, .int x1)]) C0 dX8_fittingWords_1 rfl (by decide) rfl ?_
  refine J_iconst (pc := 2) (v := 0) C0 dX8_fittingWords_2 (by decide) ?_
  refine J_istore_n (pc := 3) (lv' := [(3, .int 0), (2, .int 0), (0, .ref (ad 0)), (1, .int x1)]) C0 dX8_fittingWords_3 rfl (by decide) rfl ?_
  refine J_sub (lv' := [(0, .ref (ad 0)), (1, .int x1), (2, .int 0), (3, .int 0)]) [2, 3, 1, 0] rfl ?_
  exact j_X8_fittingWords_L4 C0 σ x1 FU 0 0
end SE

def f_X8_goes_L14 (σ : SR) (x1 : Int32) (x2 : Int32) (x3 : Int32) (kx81 : Option Int32) : Nat → Int32 → Option Int32
  | 0, _ => none
  | n + 1, x4 =>
  (if x1 ≤ x4 then (some 1) else ((f_X8_has x3 x4).bind fun r23 => (if r23 = 0 then (f_X8_goes_L14 σ x1 x2 x3 kx81 n (x4 + 1)) else ((f_X8_common σ x1 x4).bind fun r33 => (if inb x4 8 = true then (if (σ.1 8 (ix x4)) = x2 then kx81 else (if r33 = (-1) then (f_X8_goes_L14 σ x1 x2 x3 kx81 n (x4 + 1)) else ((f_X8_letterIn σ x2 x1 r33).bind fun r60 => (if inb x4 8 = true then ((f_X8_letterIn σ (σ.1 8 (ix x4)) x4 r33).bind fun r75 => (if r60 = r75 then (f_X8_goes_L14 σ x1 x2 x3 kx81 n (x4 + 1)) else kx81)) else none)))) else none)))))
theorem f_X8_goes_L14_s (σ : SR) (x1 : Int32) (x2 : Int32) (x3 : Int32) (kx81 : Option Int32) (n : Nat) (x4 : Int32) : f_X8_goes_L14 σ x1 x2 x3 kx81 (n + 1) x4 = ((if x1 ≤ x4 then (some 1) else ((f_X8_has x3 x4).bind fun r23 => (if r23 = 0 then (f_X8_goes_L14 σ x1 x2 x3 kx81 n (x4 + 1)) else ((f_X8_common σ x1 x4).bind fun r33 => (if inb x4 8 = true then (if (σ.1 8 (ix x4)) = x2 then kx81 else (if r33 = (-1) then (f_X8_goes_L14 σ x1 x2 x3 kx81 n (x4 + 1)) else ((f_X8_letterIn σ x2 x1 r33).bind fun r60 => (if inb x4 8 = true then ((f_X8_letterIn σ (σ.1 8 (ix x4)) x4 r33).bind fun r75 => (if r60 = r75 then (f_X8_goes_L14 σ x1 x2 x3 kx81 n (x4 + 1)) else kx81)) else none)))) else none)))))) := rfl
def f_X8_goes (σ : SR) (x1 : Int32) (x2 : Int32) (x3 : Int32) : Option Int32 :=
  ((f_X8_fits σ x2 x1).bind fun r3 => (if r3 = 0 then (some 0) else (f_X8_goes_L14 σ x1 x2 x3 ((some 0)) FU 0)))
section SE
variable {p : Program} {l : Launch} {e : Env} {s : State} {m : MethodId} {args : Array Value} {below : List Frame} {meth : Method} {c : Code} {D : va_G} {cI cZ : ClassId} {A : Nat → Prop} {ad : Nat → Nat}
set_option maxRecDepth 100000 in
set_option maxHeartbeats 4000000 in
theorem j_X8_goes_L14 (C0 : Cx D (tyA cI cZ) RX8 cX8_goes 6 (some .boolean) p s m args meth c) (σ : SR) (x1 : Int32) (x2 : Int32) (x3 : Int32) (kx81 : Option Int32) (hkx81 : J p l e (Rm 4) s m args below meth c D A (wR ad cI cZ) 6 (fun r => QI D A (wR ad cI cZ) (r, σ)) kx81 σ [] [] 81) : ∀ (n : Nat) (x4 : Int32), J p l e (Rm 4) s m args below meth c D A (wR ad cI cZ) 6 (fun r => QI D A (wR ad cI cZ) (r, σ)) (f_X8_goes_L14 σ x1 x2 x3 kx81 n x4) σ [(0, .ref (ad 0)), (1, .int x1), (2, .int x2), (3, .int x3), (4, .int x4)] [] 14 := by
  intro n
  induction n with
  | zero => intros; exact J_none
  | succ n ih =>
    intro x4
    refine J_eq (f_X8_goes_L14_s σ x1 x2 x3 kx81 n x4) ?_
    refine J_iload (pc := 14) C0 4 dX8_goes_14 rfl ?_
    refine J_iload_n (pc := 16) C0 1 dX8_goes_16 rfl rfl ?_
    refine J_icmp_ge (pc := 17) (tgt := 89) C0 dX8_goes_17 (by decide) (fun h_17 => ?_) (fun h_17 => ?_)
    · refine J_iconst (pc := 89) (v := 1) C0 dX8_goes_89 (by decide) ?_
      exact J_zretP0 (Or.inr rfl) C0 dX8_goes_90
    · refine J_iload_n (pc := 20) C0 3 dX8_goes_20 rfl rfl ?_
      refine J_iload (pc := 21) C0 4 dX8_goes_21 rfl ?_
      refine fin_P (fun r_ h_ => run_S (As := [.int x3, .int x4]) (rest := []) C0 (c_X8_has σ x3 x4  r_ h_) v_X8_has q447 rfl ⟨rfl, rfl⟩ (Rm_ok (by decide) (by decide)) rfl (Nat.le_of_ble_eq_true rfl) dX8_goes_23) (fun r23 e23 => ?_)
      refine J_if_eq (pc := 26) (tgt := 83) C0 dX8_goes_26 (by decide) (fun h_26 => ?_) (fun h_26 => ?_)
      · refine J_iinc (pc := 83) (d := 1) (lv' := [(4, .int (x4 + 1)), (0, .ref (ad 0)), (1, .int x1), (2, .int x2), (3, .int x3)]) C0 4 dX8_goes_83 rfl (by decide) (by decide) rfl ?_
        refine J_goto (pc := 86) (tgt := 14) C0 dX8_goes_86 (by decide) ?_
        refine J_sub (lv' := [(0, .ref (ad 0)), (1, .int x1), (2, .int x2), (3, .int x3), (4, .int (x4 + 1))]) [1, 2, 3, 4, 0] rfl ?_
        exact ih (x4 + 1)
      · refine J_aload_n (pc := 29) C0 0 dX8_goes_29 rfl rfl ?_
        refine J_iload_n (pc := 30) C0 1 dX8_goes_30 rfl rfl ?_
        refine J_iload (pc := 31) C0 4 dX8_goes_31 rfl ?_
        refine fin_P (fun r_ h_ => run_V (As := [.int x1, .int x4]) (rest := []) (q0 := 0) C0 (c_X8_common σ x1 x4  r_ h_) v_X8_common q490 wR_o rfl rfl ⟨rfl, rfl⟩ (Rm_ok (by decide) (by decide)) rfl (Nat.le_of_ble_eq_true rfl) dX8_goes_33) (fun r33 e33 => ?_)
        refine J_istore (pc := 36) (lv' := [(5, .int r33), (0, .ref (ad 0)), (1, .int x1), (2, .int x2), (3, .int x3), (4, .int x4)]) C0 dX8_goes_36 (by decide) rfl ?_
        refine J_aload_n (pc := 38) C0 1 dX8_goes_38 rfl rfl ?_
        refine J_get (pc := 39) (v := .ref (ad 9)) C0 0 wR_o rfl in_X8 12 (by decide) q498 rfl dX8_goes_39 ?_
        refine J_iload (pc := 42) C0 5 dX8_goes_42 rfl ?_
        refine J_iald (pc := 44) C0 9 0 wR_a9 rfl dX8_goes_44 (fun h_44 => ?_)
        refine J_iload_n (pc := 45) C0 3 dX8_goes_45 rfl rfl ?_
        refine J_icmp_eq (pc := 46) (tgt := 81) C0 dX8_goes_46 (by decide) (fun h_46 => ?_) (fun h_46 => ?_)
        · refine J_sub (lv' := []) [] rfl ?_
          exact hkx81
        · refine J_iload (pc := 49) C0 0 dX8_goes_49 rfl ?_
          refine J_iconst (pc := 51) (v := (-1)) C0 dX8_goes_51 (by decide) ?_
          refine J_icmp_eq (pc := 52) (tgt := 83) C0 dX8_goes_52 (by decide) (fun h_52 => ?_) (fun h_52 => ?_)
          · refine J_iinc (pc := 83) (d := 1) (lv' := [(4, .int (x4 + 1)), (5, .int r33), (0, .ref (ad 0)), (1, .int x1), (2, .int x2), (3, .int x3)]) C0 5 dX8_goes_83 rfl (by decide) (by decide) rfl ?_
            refine J_goto (pc := 86) (tgt := 14) C0 dX8_goes_86 (by decide) ?_
            refine J_sub (lv' := [(0, .ref (ad 0)), (1, .int x1), (2, .int x2), (3, .int x3), (4, .int (x4 + 1))]) [2, 3, 4, 5, 0] rfl ?_
            exact ih (x4 + 1)
          · refine J_aload_n (pc := 55) C0 1 dX8_goes_55 rfl rfl ?_
            refine J_iload_n (pc := 56) C0 3 dX8_goes_56 rfl rfl ?_
            refine J_iload_n (pc := 57) C0 2 dX8_goes_57 rfl rfl ?_
            refine J_iload (pc := 58) C0 0 dX8_goes_58 rfl ?_
            refine fin_P (fun r_ h_ => run_V (As := [.int x2, .int x1, .int r33]) (rest := []) (q0 := 0) C0 (c_X8_letterIn σ x2 x1 r33  r_ h_) v_X8_letterIn q499 wR_o rfl rfl ⟨rfl, rfl⟩ (Rm_ok (by decide) (by decide)) rfl (Nat.le_of_ble_eq_true rfl) dX8_goes_60) (fun r60 e60 => ?_)
            refine J_aload_n (pc := 63) C0 1 dX8_goes_63 rfl rfl ?_
            refine J_aload_n (pc := 64) C0 1 dX8_goes_64 rfl rfl ?_
            refine J_get (pc := 65) (v := .ref (ad 9)) C0 0 wR_o rfl in_X8 12 (by decide) q498 rfl dX8_goes_65 ?_
            refine J_iload (pc := 68) C0 5 dX8_goes_68 rfl ?_
            refine J_iald (pc := 70) C0 9 0 wR_a9 rfl dX8_goes_70 (fun h_70 => ?_)
            refine J_iload (pc := 71) C0 5 dX8_goes_71 rfl ?_
            refine J_iload (pc := 73) C0 0 dX8_goes_73 rfl ?_
            refine fin_P (fun r_ h_ => run_V (As := [.int (σ.1 8 (ix x4)), .int x4, .int r33]) (rest := [.int r60]) (q0 := 0) C0 (c_X8_letterIn σ (σ.1 8 (ix x4)) x4 r33  r_ h_) v_X8_letterIn q499 wR_o rfl rfl ⟨rfl, rfl⟩ (Rm_ok (by decide) (by decide)) rfl (Nat.le_of_ble_eq_true rfl) dX8_goes_75) (fun r75 e75 => ?_)
            refine J_icmp_eq (pc := 78) (tgt := 83) C0 dX8_goes_78 (by decide) (fun h_78 => ?_) (fun h_78 => ?_)
            · refine J_iinc (pc := 83) (d := 1) (lv' := [(4, .int (x4 + 1)), (5, .int r33), (0, .ref (ad 0)), (1, .int x1), (2, .int x2), (3, .int x3)]) C0 5 dX8_goes_83 rfl (by decide) (by decide) rfl ?_
              refine J_goto (pc := 86) (tgt := 14) C0 dX8_goes_86 (by decide) ?_
              refine J_sub (lv' := [(0, .ref (ad 0)), (1, .int x1), (2, .int x2), (3, .int x3), (4, .int (x4 + 1))]) [2, 3, 4, 5, 0] rfl ?_
              exact ih (x4 + 1)
            · refine J_sub (lv' := []) [] rfl ?_
              exact hkx81
set_option maxRecDepth 100000 in
set_option maxHeartbeats 4000000 in
theorem c_X8_goes {l : Launch} {D : va_G} {cI cZ : ClassId} {A : Nat → Prop} {ad : Nat → Nat} (σ : SR) (x1 : Int32) (x2 : Int32) (x3 : Int32)  (r : Int32) (h : f_X8_goes σ x1 x2 x3 = some r) : Met l yX8_goes (.code yX8_goes cX8_goes 6 (some .boolean) :: wG) (Rm 4) (PreW D (tyA cI cZ) A (wR ad cI cZ) [.ref (ad 0), .int x1, .int x2, .int x3] σ) (QI D A (wR ad cI cZ) (r, σ)) 0 0 A := by
  refine met_of (M := f_X8_goes σ x1 x2 x3) (Qc := (fun r => QI D A (wR ad cI cZ) (r, σ))) (by decide) (Nat.le_of_ble_eq_true rfl) h (fun p e s m below meth c C0 => ?_)
  generalize hargs : ([.ref (ad 0), .int x1, .int x2, .int x3] : List Value).toArray = args at C0 ⊢
  have C0 : Cx D (tyA cI cZ) RX8 cX8_goes 6 (some .boolean) p s m args meth c := C0
  refine J_sub (lv' := [(0, .ref (ad 0)), (1, .int x1), (2, .int x2), (3, .int x3)]) [0, 1, 2, 3] rfl ?_
  unfold f_X8_goes
  refine J_aload_n (pc := 0) C0 0 dX8_goes_0 rfl rfl ?_
  refine J_iload_n (pc := 1) C0 2 dX8_goes_1 rfl rfl ?_
  refine J_iload_n (pc := 2) C0 1 dX8_goes_2 rfl rfl ?_
  refine fin_P (fun r_ h_ => run_V (As := [.int x2, .int x1]) (rest := []) (q0 := 0) C0 (c_X8_fits σ x2 x1  r_ h_) v_X8_fits q494 wR_o rfl rfl ⟨rfl, rfl⟩ (Rm_ok (by decide) (by decide)) rfl (Nat.le_of_ble_eq_true rfl) dX8_goes_3) (fun r3 e3 => ?_)
  refine J_if_ne (pc := 6) (tgt := 11) C0 dX8_goes_6 (by decide) (fun h_6 => ?_) (fun h_6 => ?_)
  · refine J_iconst (pc := 11) (v := 0) C0 dX8_goes_11 (by decide) ?_
    refine J_istore (pc := 12) (lv' := [(4, .int 0), (0, .ref (ad 0)), (1, .int x1), (2, .int x2), (3, .int x3)]) C0 dX8_goes_12 (by decide) rfl ?_
    refine J_sub (lv' := [(0, .ref (ad 0)), (1, .int x1), (2, .int x2), (3, .int x3), (4, .int 0)]) [1, 2, 3, 4, 0] rfl ?_
    refine j_X8_goes_L14 C0 σ x1 x2 x3 _ ?_ FU 0
    refine J_iconst (pc := 81) (v := 0) C0 dX8_goes_81 (by decide) ?_
    exact J_zretP0 (Or.inl rfl) C0 dX8_goes_82
  · refine J_iconst (pc := 9) (v := 0) C0 dX8_goes_9 (by decide) ?_
    exact J_zretP0 (Or.inl rfl) C0 dX8_goes_10
end SE

def f_X8_goesWith_L3 (σ : SR) (x1 : Int32) (x2 : Int32) (x3 : Int32) (x4 : Int32) : Nat → Int32 → Option Int32
  | 0, _ => none
  | n + 1, x5 =>
  (if inb (nI 16) 33 = true then (if (σ.1 0 (ix (nI 16))) ≤ x5 then (some 0) else (if x5 = x4 then (f_X8_goesWith_L3 σ x1 x2 x3 x4 n (x5 + 1)) else (if inb x1 8 = true then ((f_X8_has (σ.1 7 (ix x1)) x5).bind fun r30 => (if r30 = 0 then (f_X8_goesWith_L3 σ x1 x2 x3 x4 n (x5 + 1)) else ((f_X8_letterIn σ x5 x1 x2).bind fun r41 => (if r41 = x3 then (some 1) else (f_X8_goesWith_L3 σ x1 x2 x3 x4 n (x5 + 1)))))) else none))) else none)
theorem f_X8_goesWith_L3_s (σ : SR) (x1 : Int32) (x2 : Int32) (x3 : Int32) (x4 : Int32) (n : Nat) (x5 : Int32) : f_X8_goesWith_L3 σ x1 x2 x3 x4 (n + 1) x5 = ((if inb (nI 16) 33 = true then (if (σ.1 0 (ix (nI 16))) ≤ x5 then (some 0) else (if x5 = x4 then (f_X8_goesWith_L3 σ x1 x2 x3 x4 n (x5 + 1)) else (if inb x1 8 = true then ((f_X8_has (σ.1 7 (ix x1)) x5).bind fun r30 => (if r30 = 0 then (f_X8_goesWith_L3 σ x1 x2 x3 x4 n (x5 + 1)) else ((f_X8_letterIn σ x5 x1 x2).bind fun r41 => (if r41 = x3 then (some 1) else (f_X8_goesWith_L3 σ x1 x2 x3 x4 n (x5 + 1)))))) else none))) else none)) := rfl
def f_X8_goesWith (σ : SR) (x1 : Int32) (x2 : Int32) (x3 : Int32) (x4 : Int32) : Option Int32 :=
  (f_X8_goesWith_L3 σ x1 x2 x3 x4 FU 0)
section SE
variable {p : Program} {l : Launch} {e : Env} {s : State} {m : MethodId} {args : Array Value} {below : List Frame} {meth : Method} {c : Code} {D : va_G} {cI cZ : ClassId} {A : Nat → Prop} {ad : Nat → Nat}
set_option maxRecDepth 100000 in
set_option maxHeartbeats 4000000 in
theorem j_X8_goesWith_L3 (C0 : Cx D (tyA cI cZ) RX8 cX8_goesWith 6 (some .boolean) p s m args meth c) (σ : SR) (x1 : Int32) (x2 : Int32) (x3 : Int32) (x4 : Int32) : ∀ (n : Nat) (x5 : Int32), J p l e (Rm 4) s m args below meth c D A (wR ad cI cZ) 6 (fun r => QI D A (wR ad cI cZ) (r, σ)) (f_X8_goesWith_L3 σ x1 x2 x3 x4 n x5) σ [(0, .ref (ad 0)), (1, .int x1), (2, .int x2), (3, .int x3), (4, .int x4), (5, .int x5)] [] 3 := by
  intro n
  induction n with
  | zero => intros; exact J_none
  | succ n ih =>
    intro x5
    refine J_eq (f_X8_goesWith_L3_s σ x1 x2 x3 x4 n x5) ?_
    refine J_iload (pc := 3) C0 5 dX8_goesWith_3 rfl ?_
    refine J_aload_n (pc := 5) C0 0 dX8_goesWith_5 rfl rfl ?_
    refine J_get (pc := 6) (v := .ref (ad 1)) C0 0 wR_o rfl in_X8 0 (by decide) q411 rfl dX8_goesWith_6 ?_
    refine J_bipush (pc := 9) (v := (nI 16)) C0 dX8_goesWith_9 (by decide) ?_
    refine J_iald (pc := 11) C0 1 0 wR_a1 rfl dX8_goesWith_11 (fun h_11 => ?_)
    refine J_icmp_ge (pc := 12) (tgt := 56) C0 dX8_goesWith_12 (by decide) (fun h_12 => ?_) (fun h_12 => ?_)
    · refine J_iconst (pc := 56) (v := 0) C0 dX8_goesWith_56 (by decide) ?_
      exact J_zretP0 (Or.inl rfl) C0 dX8_goesWith_57
    · refine J_iload (pc := 15) C0 5 dX8_goesWith_15 rfl ?_
      refine J_iload (pc := 17) C0 4 dX8_goesWith_17 rfl ?_
      refine J_icmp_eq (pc := 19) (tgt := 50) C0 dX8_goesWith_19 (by decide) (fun h_19 => ?_) (fun h_19 => ?_)
      · refine J_iinc (pc := 50) (d := 1) (lv' := [(5, .int (x5 + 1)), (0, .ref (ad 0)), (1, .int x1), (2, .int x2), (3, .int x3), (4, .int x4)]) C0 5 dX8_goesWith_50 rfl (by decide) (by decide) rfl ?_
        refine J_goto (pc := 53) (tgt := 3) C0 dX8_goesWith_53 (by decide) ?_
        refine J_sub (lv' := [(0, .ref (ad 0)), (1, .int x1), (2, .int x2), (3, .int x3), (4, .int x4), (5, .int (x5 + 1))]) [1, 2, 3, 4, 5, 0] rfl ?_
        exact ih (x5 + 1)
      · refine J_aload_n (pc := 22) C0 0 dX8_goesWith_22 rfl rfl ?_
        refine J_get (pc := 23) (v := .ref (ad 8)) C0 0 wR_o rfl in_X8 11 (by decide) q503 rfl dX8_goesWith_23 ?_
        refine J_iload_n (pc := 26) C0 1 dX8_goesWith_26 rfl rfl ?_
        refine J_iald (pc := 27) C0 8 0 wR_a8 rfl dX8_goesWith_27 (fun h_27 => ?_)
        refine J_iload (pc := 28) C0 5 dX8_goesWith_28 rfl ?_
        refine fin_P (fun r_ h_ => run_S (As := [.int (σ.1 7 (ix x1)), .int x5]) (rest := []) C0 (c_X8_has σ (σ.1 7 (ix x1)) x5  r_ h_) v_X8_has q447 rfl ⟨rfl, rfl⟩ (Rm_ok (by decide) (by decide)) rfl (Nat.le_of_ble_eq_true rfl) dX8_goesWith_30) (fun r30 e30 => ?_)
        refine J_if_eq (pc := 33) (tgt := 50) C0 dX8_goesWith_33 (by decide) (fun h_33 => ?_) (fun h_33 => ?_)
        · refine J_iinc (pc := 50) (d := 1) (lv' := [(5, .int (x5 + 1)), (0, .ref (ad 0)), (1, .int x1), (2, .int x2), (3, .int x3), (4, .int x4)]) C0 5 dX8_goesWith_50 rfl (by decide) (by decide) rfl ?_
          refine J_goto (pc := 53) (tgt := 3) C0 dX8_goesWith_53 (by decide) ?_
          refine J_sub (lv' := [(0, .ref (ad 0)), (1, .int x1), (2, .int x2), (3, .int x3), (4, .int x4), (5, .int (x5 + 1))]) [1, 2, 3, 4, 5, 0] rfl ?_
          exact ih (x5 + 1)
        · refine J_aload_n (pc := 36) C0 0 dX8_goesWith_36 rfl rfl ?_
          refine J_iload (pc := 37) C0 5 dX8_goesWith_37 rfl ?_
          refine J_iload_n (pc := 39) C0 1 dX8_goesWith_39 rfl rfl ?_
          refine J_iload_n (pc := 40) C0 2 dX8_goesWith_40 rfl rfl ?_
          refine fin_P (fun r_ h_ => run_V (As := [.int x5, .int x1, .int x2]) (rest := []) (q0 := 0) C0 (c_X8_letterIn σ x5 x1 x2  r_ h_) v_X8_letterIn q499 wR_o rfl rfl ⟨rfl, rfl⟩ (Rm_ok (by decide) (by decide)) rfl (Nat.le_of_ble_eq_true rfl) dX8_goesWith_41) (fun r41 e41 => ?_)
          refine J_iload_n (pc := 44) C0 3 dX8_goesWith_44 rfl rfl ?_
          refine J_icmp_ne (pc := 45) (tgt := 50) C0 dX8_goesWith_45 (by decide) (fun h_45 => ?_) (fun h_45 => ?_)
          · refine J_iinc (pc := 50) (d := 1) (lv' := [(5, .int (x5 + 1)), (0, .ref (ad 0)), (1, .int x1), (2, .int x2), (3, .int x3), (4, .int x4)]) C0 5 dX8_goesWith_50 rfl (by decide) (by decide) rfl ?_
            refine J_goto (pc := 53) (tgt := 3) C0 dX8_goesWith_53 (by decide) ?_
            refine J_sub (lv' := [(0, .ref (ad 0)), (1, .int x1), (2, .int x2), (3, .int x3), (4, .int x4), (5, .int (x5 + 1))]) [1, 2, 3, 4, 5, 0] rfl ?_
            exact ih (x5 + 1)
          · refine J_iconst (pc := 48) (v := 1) C0 dX8_goesWith_48 (by decide) ?_
            exact J_zretP0 (Or.inr rfl) C0 dX8_goesWith_49
set_option maxRecDepth 100000 in
set_option maxHeartbeats 4000000 in
theorem c_X8_goesWith {l : Launch} {D : va_G} {cI cZ : ClassId} {A : Nat → Prop} {ad : Nat → Nat} (σ : SR) (x1 : Int32) (x2 : Int32) (x3 : Int32) (x4 : Int32)  (r : Int32) (h : f_X8_goesWith σ x1 x2 x3 x4 = some r) : Met l yX8_goesWith (.code yX8_goesWith cX8_goesWith 6 (some .boolean) :: wG) (Rm 4) (PreW D (tyA cI cZ) A (wR ad cI cZ) [.ref (ad 0), .int x1, .int x2, .int x3, .int x4] σ) (QI D A (wR ad cI cZ) (r, σ)) 0 0 A := by
  refine met_of (M := f_X8_goesWith σ x1 x2 x3 x4) (Qc := (fun r => QI D A (wR ad cI cZ) (r, σ))) (by decide) (Nat.le_of_ble_eq_true rfl) h (fun p e s m below meth c C0 => ?_)
  generalize hargs : ([.ref (ad 0), .int x1, .int x2, .int x3, .int x4] : List Value).toArray = args at C0 ⊢
  have C0 : Cx D (tyA cI cZ) RX8 cX8_goesWith 6 (some .boolean) p s m args meth c := C0
  refine J_sub (lv' := [(0, .ref (ad 0)), (1, .int x1), (2, .int x2), (3, .int x3), (4, .int x4)]) [0, 1, 2, 3, 4] rfl ?_
  unfold f_X8_goesWith
  refine J_iconst (pc := 0) (v := 0) C0 dX8_goesWith_0 (by decide) ?_
  refine J_istore (pc := 1) (lv' := [(5, .int 0), (0, .ref (ad 0)), (1, .int x1), (2, .int x2), (3, .int x3), (4, .int x4)]) C0 dX8_goesWith_1 (by decide) rfl ?_
  refine J_sub (lv' := [(0, .ref (ad 0)), (1, .int x1), (2, .int x2), (3, .int x3), (4, .int x4), (5, .int 0)]) [1, 2, 3, 4, 5, 0] rfl ?_
  exact j_X8_goesWith_L3 C0 σ x1 x2 x3 x4 FU 0
end SE

def f_X8_odds_K107 (σ : SR) (y0 : Int32) : Option (Int32 × SR) :=
  (if y0 = 0 then (some (1, σ)) else (some (0, σ)))
def f_X8_odds_K106 (σ : SR) : Option (Int32 × SR) :=
  (f_X8_odds_K107 σ 0)
def f_X8_odds (σ : SR) (x1 : Int32) (x2 : Int32) (x3 : Int32) (x4 : Int32) : Option (Int32 × SR) :=
  (bnd (f_X8_isSlot σ x1) fun r2 σ2 => (if r2 = 0 then (some ((-1000000001), σ2)) else ((f_X8_isWord σ2 x2).bind fun r10 => (if r10 = 0 then (some ((-1000000001), σ2)) else (bnd (f_X8_isSlot σ2 x3) fun r18 σ18 => (if r18 = 0 then (some ((-1000000001), σ18)) else ((f_X8_isWord σ18 x4).bind fun r27 => (if r27 = 0 then (some ((-1000000001), σ18)) else (if x1 = x3 then (some ((-1000000001), σ18)) else ((f_X8_common σ18 x1 x3).bind fun r44 => (if r44 = (-1) then (some ((-1), σ18)) else ((f_X8_fits σ18 x2 x1).bind fun r60 => (if r60 = 0 then (f_X8_odds_K106 σ18) else ((f_X8_fits σ18 x4 x3).bind fun r70 => (if r70 = 0 then (f_X8_odds_K106 σ18) else (if x2 = x4 then (f_X8_odds_K106 σ18) else ((f_X8_letterIn σ18 x2 x1 r44).bind fun r87 => ((f_X8_letterIn σ18 x4 x3 r44).bind fun r96 => (if r87 = r96 then (f_X8_odds_K107 σ18 1) else (f_X8_odds_K106 σ18))))))))))))))))))))
section SE
variable {p : Program} {l : Launch} {e : Env} {s : State} {m : MethodId} {args : Array Value} {below : List Frame} {meth : Method} {c : Code} {D : va_G} {cI cZ : ClassId} {A : Nat → Prop} {ad : Nat → Nat}
set_option maxRecDepth 100000 in
set_option maxHeartbeats 4000000 in
theorem j_X8_odds_K107 (C0 : Cx D (tyA cI cZ) RX8 cX8_odds 7 (some .int) p s m args meth c) (σ : SR) (y0 : Int32) : J p l e (Rm 4) s m args below meth c D A (wR ad cI cZ) 7 (QI D A (wR ad cI cZ)) (f_X8_odds_K107 σ y0) σ [] [.int y0] 107 := by
  unfold f_X8_odds_K107
  refine J_istore (pc := 107) (lv' := [(6, .int y0)]) C0 dX8_odds_107 (by decide) rfl ?_
  refine J_iload (pc := 109) C0 0 dX8_odds_109 rfl ?_
  refine J_if_eq (pc := 111) (tgt := 118) C0 dX8_odds_111 (by decide) (fun h_111 => ?_) (fun h_111 => ?_)
  · refine J_iconst (pc := 118) (v := 1) C0 dX8_odds_118 (by decide) ?_
    exact J_iret C0 dX8_odds_119
  · refine J_iconst (pc := 114) (v := 0) C0 dX8_odds_114 (by decide) ?_
    refine J_goto (pc := 115) (tgt := 119) C0 dX8_odds_115 (by decide) ?_
    exact J_iret C0 dX8_odds_119
set_option maxRecDepth 100000 in
set_option maxHeartbeats 4000000 in
theorem j_X8_odds_K106 (C0 : Cx D (tyA cI cZ) RX8 cX8_odds 7 (some .int) p s m args meth c) (σ : SR) : J p l e (Rm 4) s m args below meth c D A (wR ad cI cZ) 7 (QI D A (wR ad cI cZ)) (f_X8_odds_K106 σ) σ [] [] 106 := by
  unfold f_X8_odds_K106
  refine J_iconst (pc := 106) (v := 0) C0 dX8_odds_106 (by decide) ?_
  refine J_sub (lv' := []) [] rfl ?_
  exact j_X8_odds_K107 C0 σ 0
set_option maxRecDepth 100000 in
set_option maxHeartbeats 4000000 in
theorem c_X8_odds {l : Launch} {D : va_G} {cI cZ : ClassId} {A : Nat → Prop} {ad : Nat → Nat} (σ : SR) (x1 : Int32) (x2 : Int32) (x3 : Int32) (x4 : Int32)  (r : (Int32 × SR)) (h : f_X8_odds σ x1 x2 x3 x4 = some r) : Met l yX8_odds (.code yX8_odds cX8_odds 7 (some .int) :: wG) (Rm 4) (PreW D (tyA cI cZ) A (wR ad cI cZ) [.ref (ad 0), .int x1, .int x2, .int x3, .int x4] σ) (QI D A (wR ad cI cZ) r) 0 0 A := by
  refine met_of (M := f_X8_odds σ x1 x2 x3 x4) (Qc := (QI D A (wR ad cI cZ))) (by decide) (Nat.le_of_ble_eq_true rfl) h (fun p e s m below meth c C0 => ?_)
  generalize hargs : ([.ref (ad 0), .int x1, .int x2, .int x3, .int x4] : List Value).toArray = args at C0 ⊢
  have C0 : Cx D (tyA cI cZ) RX8 cX8_odds 7 (some .int) p s m args meth c := C0
  refine J_sub (lv' := [(0, .ref (ad 0)), (1, .int x1), (2, .int x2), (3, .int x3), (4, .int x4)]) [0, 1, 2, 3, 4] rfl ?_
  unfold f_X8_odds
  refine J_aload_n (pc := 0) C0 0 dX8_odds_0 rfl rfl ?_
  refine J_iload_n (pc := 1) C0 1 dX8_odds_1 rfl rfl ?_
  refine fin_I (fun r_ h_ => run_V (As := [.int x1]) (rest := []) (q0 := 0) C0 (c_X8_isSlot σ x1  r_ h_) v_X8_isSlot q504 wR_o rfl rfl ⟨rfl, rfl⟩ (Rm_ok (by decide) (by decide)) rfl (Nat.le_of_ble_eq_true rfl) dX8_odds_2) (fun r2 σ2 e2 => ?_)
  refine J_if_eq (pc := 5) (tgt := 38) C0 dX8_odds_5 (by decide) (fun h_5 => ?_) (fun h_5 => ?_)
  · refine J_ldc (pc := 38) C0 q430 dX8_odds_38 ?_
    exact J_iret C0 dX8_odds_40
  · refine J_aload_n (pc := 8) C0 0 dX8_odds_8 rfl rfl ?_
    refine J_iload_n (pc := 9) C0 2 dX8_odds_9 rfl rfl ?_
    refine fin_P (fun r_ h_ => run_V (As := [.int x2]) (rest := []) (q0 := 0) C0 (c_X8_isWord σ2 x2  r_ h_) v_X8_isWord q470 wR_o rfl rfl ⟨rfl, rfl⟩ (Rm_ok (by decide) (by decide)) rfl (Nat.le_of_ble_eq_true rfl) dX8_odds_10) (fun r10 e10 => ?_)
    refine J_if_eq (pc := 13) (tgt := 38) C0 dX8_odds_13 (by decide) (fun h_13 => ?_) (fun h_13 => ?_)
    · refine J_ldc (pc := 38) C0 q430 dX8_odds_38 ?_
      exact J_iret C0 dX8_odds_40
    · refine J_aload_n (pc := 16) C0 0 dX8_odds_16 rfl rfl ?_
      refine J_iload_n (pc := 17) C0 3 dX8_odds_17 rfl rfl ?_
      refine fin_I (fun r_ h_ => run_V (As := [.int x3]) (rest := []) (q0 := 0) C0 (c_X8_isSlot σ2 x3  r_ h_) v_X8_isSlot q504 wR_o rfl rfl ⟨rfl, rfl⟩ (Rm_ok (by decide) (by decide)) rfl (Nat.le_of_ble_eq_true rfl) dX8_odds_18) (fun r18 σ18 e18 => ?_)
      refine J_if_eq (pc := 21) (tgt := 38) C0 dX8_odds_21 (by decide) (fun h_21 => ?_) (fun h_21 => ?_)
      · refine J_ldc (pc := 38) C0 q430 dX8_odds_38 ?_
        exact J_iret C0 dX8_odds_40
      · refine J_aload_n (pc := 24) C0 0 dX8_odds_24 rfl rfl ?_
        refine J_iload (pc := 25) C0 4 dX8_odds_25 rfl ?_
        refine fin_P (fun r_ h_ => run_V (As := [.int x4]) (rest := []) (q0 := 0) C0 (c_X8_isWord σ18 x4  r_ h_) v_X8_isWord q470 wR_o rfl rfl ⟨rfl, rfl⟩ (Rm_ok (by decide) (by decide)) rfl (Nat.le_of_ble_eq_true rfl) dX8_odds_27) (fun r27 e27 => ?_)
        refine J_if_eq (pc := 30) (tgt := 38) C0 dX8_odds_30 (by decide) (fun h_30 => ?_) (fun h_30 => ?_)
        · refine J_ldc (pc := 38) C0 q430 dX8_odds_38 ?_
          exact J_iret C0 dX8_odds_40
        · refine J_iload_n (pc := 33) C0 1 dX8_odds_33 rfl rfl ?_
          refine J_iload_n (pc := 34) C0 3 dX8_odds_34 rfl rfl ?_
          refine J_icmp_ne (pc := 35) (tgt := 41) C0 dX8_odds_35 (by decide) (fun h_35 => ?_) (fun h_35 => ?_)
          · refine J_aload_n (pc := 41) C0 0 dX8_odds_41 rfl rfl ?_
            refine J_iload_n (pc := 42) C0 1 dX8_odds_42 rfl rfl ?_
            refine J_iload_n (pc := 43) C0 3 dX8_odds_43 rfl rfl ?_
            refine fin_P (fun r_ h_ => run_V (As := [.int x1, .int x3]) (rest := []) (q0 := 0) C0 (c_X8_common σ18 x1 x3  r_ h_) v_X8_common q490 wR_o rfl rfl ⟨rfl, rfl⟩ (Rm_ok (by decide) (by decide)) rfl (Nat.le_of_ble_eq_true rfl) dX8_odds_44) (fun r44 e44 => ?_)
            refine J_istore (pc := 47) (lv' := [(5, .int r44), (0, .ref (ad 0)), (1, .int x1), (2, .int x2), (3, .int x3), (4, .int x4)]) C0 dX8_odds_47 (by decide) rfl ?_
            refine J_iload (pc := 49) C0 0 dX8_odds_49 rfl ?_
            refine J_iconst (pc := 51) (v := (-1)) C0 dX8_odds_51 (by decide) ?_
            refine J_icmp_ne (pc := 52) (tgt := 57) C0 dX8_odds_52 (by decide) (fun h_52 => ?_) (fun h_52 => ?_)
            · refine J_aload_n (pc := 57) C0 1 dX8_odds_57 rfl rfl ?_
              refine J_iload_n (pc := 58) C0 3 dX8_odds_58 rfl rfl ?_
              refine J_iload_n (pc := 59) C0 2 dX8_odds_59 rfl rfl ?_
              refine fin_P (fun r_ h_ => run_V (As := [.int x2, .int x1]) (rest := []) (q0 := 0) C0 (c_X8_fits σ18 x2 x1  r_ h_) v_X8_fits q494 wR_o rfl rfl ⟨rfl, rfl⟩ (Rm_ok (by decide) (by decide)) rfl (Nat.le_of_ble_eq_true rfl) dX8_odds_60) (fun r60 e60 => ?_)
              refine J_if_eq (pc := 63) (tgt := 106) C0 dX8_odds_63 (by decide) (fun h_63 => ?_) (fun h_63 => ?_)
              · refine J_sub (lv' := []) [] rfl ?_
                exact j_X8_odds_K106 C0 σ18
              · refine J_aload_n (pc := 66) C0 1 dX8_odds_66 rfl rfl ?_
                refine J_iload (pc := 67) C0 5 dX8_odds_67 rfl ?_
                refine J_iload_n (pc := 69) C0 4 dX8_odds_69 rfl rfl ?_
                refine fin_P (fun r_ h_ => run_V (As := [.int x4, .int x3]) (rest := []) (q0 := 0) C0 (c_X8_fits σ18 x4 x3  r_ h_) v_X8_fits q494 wR_o rfl rfl ⟨rfl, rfl⟩ (Rm_ok (by decide) (by decide)) rfl (Nat.le_of_ble_eq_true rfl) dX8_odds_70) (fun r70 e70 => ?_)
                refine J_if_eq (pc := 73) (tgt := 106) C0 dX8_odds_73 (by decide) (fun h_73 => ?_) (fun h_73 => ?_)
                · refine J_sub (lv' := []) [] rfl ?_
                  exact j_X8_odds_K106 C0 σ18
                · refine J_iload_n (pc := 76) C0 3 dX8_odds_76 rfl rfl ?_
                  refine J_iload (pc := 77) C0 5 dX8_odds_77 rfl ?_
                  refine J_icmp_eq (pc := 79) (tgt := 106) C0 dX8_odds_79 (by decide) (fun h_79 => ?_) (fun h_79 => ?_)
                  · refine J_sub (lv' := []) [] rfl ?_
                    exact j_X8_odds_K106 C0 σ18
                  · refine J_aload_n (pc := 82) C0 1 dX8_odds_82 rfl rfl ?_
                    refine J_iload_n (pc := 83) C0 3 dX8_odds_83 rfl rfl ?_
                    refine J_iload_n (pc := 84) C0 2 dX8_odds_84 rfl rfl ?_
                    refine J_iload (pc := 85) C0 0 dX8_odds_85 rfl ?_
                    refine fin_P (fun r_ h_ => run_V (As := [.int x2, .int x1, .int r44]) (rest := []) (q0 := 0) C0 (c_X8_letterIn σ18 x2 x1 r44  r_ h_) v_X8_letterIn q499 wR_o rfl rfl ⟨rfl, rfl⟩ (Rm_ok (by decide) (by decide)) rfl (Nat.le_of_ble_eq_true rfl) dX8_odds_87) (fun r87 e87 => ?_)
                    refine J_aload_n (pc := 90) C0 1 dX8_odds_90 rfl rfl ?_
                    refine J_iload (pc := 91) C0 5 dX8_odds_91 rfl ?_
                    refine J_iload_n (pc := 93) C0 4 dX8_odds_93 rfl rfl ?_
                    refine J_iload (pc := 94) C0 0 dX8_odds_94 rfl ?_
                    refine fin_P (fun r_ h_ => run_V (As := [.int x4, .int x3, .int r44]) (rest := [.int r87]) (q0 := 0) C0 (c_X8_letterIn σ18 x4 x3 r44  r_ h_) v_X8_letterIn q499 wR_o rfl rfl ⟨rfl, rfl⟩ (Rm_ok (by decide) (by decide)) rfl (Nat.le_of_ble_eq_true rfl) dX8_odds_96) (fun r96 e96 => ?_)
                    refine J_icmp_ne (pc := 99) (tgt := 106) C0 dX8_odds_99 (by decide) (fun h_99 => ?_) (fun h_99 => ?_)
                    · refine J_sub (lv' := []) [] rfl ?_
                      exact j_X8_odds_K106 C0 σ18
                    · refine J_iconst (pc := 102) (v := 1) C0 dX8_odds_102 (by decide) ?_
                      refine J_goto (pc := 103) (tgt := 107) C0 dX8_odds_103 (by decide) ?_
                      refine J_sub (lv' := []) [] rfl ?_
                      exact j_X8_odds_K107 C0 σ18 1
            · refine J_iconst (pc := 55) (v := (-1)) C0 dX8_odds_55 (by decide) ?_
              exact J_iret C0 dX8_odds_56
          · refine J_ldc (pc := 38) C0 q430 dX8_odds_38 ?_
            exact J_iret C0 dX8_odds_40
end SE

def f_X8_open (σ : SR) (x1 : Int32) : Option (Int32 × SR) :=
  ((f_X8_in x1 0 (nI 15)).bind fun r4 => (if r4 = 0 then (some ((-1000000001), σ)) else (if inb x1 33 = true then (if (σ.1 0 (ix x1)) = (-1) then ((f_X8_remember σ).bind fun σ27 => (if inb x1 33 = true then (bnd (f_X8_changed (rsu σ27 0 (ix x1) 0)) fun r38 σ38 => (some (r38, σ38))) else none)) else (some ((-1000000003), σ))) else none)))
section SE
variable {p : Program} {l : Launch} {e : Env} {s : State} {m : MethodId} {args : Array Value} {below : List Frame} {meth : Method} {c : Code} {D : va_G} {cI cZ : ClassId} {A : Nat → Prop} {ad : Nat → Nat}
set_option maxRecDepth 100000 in
set_option maxHeartbeats 4000000 in
theorem c_X8_open {l : Launch} {D : va_G} {cI cZ : ClassId} {A : Nat → Prop} {ad : Nat → Nat} (σ : SR) (x1 : Int32)  (r : (Int32 × SR)) (h : f_X8_open σ x1 = some r) : Met l yX8_open (.code yX8_open cX8_open 2 (some .int) :: wG) (Rm 4) (PreW D (tyA cI cZ) A (wR ad cI cZ) [.ref (ad 0), .int x1] σ) (QI D A (wR ad cI cZ) r) 0 0 A := by
  refine met_of (M := f_X8_open σ x1) (Qc := (QI D A (wR ad cI cZ))) (by decide) (Nat.le_of_ble_eq_true rfl) h (fun p e s m below meth c C0 => ?_)
  generalize hargs : ([.ref (ad 0), .int x1] : List Value).toArray = args at C0 ⊢
  have C0 : Cx D (tyA cI cZ) RX8 cX8_open 2 (some .int) p s m args meth c := C0
  refine J_sub (lv' := [(0, .ref (ad 0)), (1, .int x1)]) [0, 1] rfl ?_
  unfold f_X8_open
  refine J_iload_n (pc := 0) C0 1 dX8_open_0 rfl rfl ?_
  refine J_iconst (pc := 1) (v := 0) C0 dX8_open_1 (by decide) ?_
  refine J_bipush (pc := 2) (v := (nI 15)) C0 dX8_open_2 (by decide) ?_
  refine fin_P (fun r_ h_ => run_S (As := [.int x1, .int 0, .int (nI 15)]) (rest := []) C0 (c_X8_in σ x1 0 (nI 15)  r_ h_) v_X8_in q425 rfl ⟨rfl, rfl⟩ (Rm_ok (by decide) (by decide)) rfl (Nat.le_of_ble_eq_true rfl) dX8_open_4) (fun r4 e4 => ?_)
  refine J_if_ne (pc := 7) (tgt := 13) C0 dX8_open_7 (by decide) (fun h_7 => ?_) (fun h_7 => ?_)
  · refine J_aload_n (pc := 13) C0 0 dX8_open_13 rfl rfl ?_
    refine J_get (pc := 14) (v := .ref (ad 1)) C0 0 wR_o rfl in_X8 0 (by decide) q411 rfl dX8_open_14 ?_
    refine J_iload_n (pc := 17) C0 1 dX8_open_17 rfl rfl ?_
    refine J_iald (pc := 18) C0 1 0 wR_a1 rfl dX8_open_18 (fun h_18 => ?_)
    refine J_iconst (pc := 19) (v := (-1)) C0 dX8_open_19 (by decide) ?_
    refine J_icmp_eq (pc := 20) (tgt := 26) C0 dX8_open_20 (by decide) (fun h_20 => ?_) (fun h_20 => ?_)
    · refine J_aload_n (pc := 26) C0 0 dX8_open_26 rfl rfl ?_
      refine fin_V (fun r_ h_ => run_V (As := []) (rest := []) (q0 := 0) C0 (c_X8_remember σ   r_ h_) v_X8_remember q439 wR_o rfl rfl ⟨rfl, rfl⟩ (Rm_ok (by decide) (by decide)) rfl (Nat.le_of_ble_eq_true rfl) dX8_open_27) (fun σ27 e27 => ?_)
      refine J_aload_n (pc := 30) C0 0 dX8_open_30 rfl rfl ?_
      refine J_get (pc := 31) (v := .ref (ad 1)) C0 0 wR_o rfl in_X8 0 (by decide) q411 rfl dX8_open_31 ?_
      refine J_iload_n (pc := 34) C0 1 dX8_open_34 rfl rfl ?_
      refine J_iconst (pc := 35) (v := 0) C0 dX8_open_35 (by decide) ?_
      refine J_iast (pc := 36) (σ' := (rsu σ27 0 (ix x1) 0)) C0 1 0 wR_a1 rfl wR_s1 dX8_open_36 (fun h_36 => ?_)
      refine J_aload_n (pc := 37) C0 0 dX8_open_37 rfl rfl ?_
      refine fin_I (fun r_ h_ => run_V (As := []) (rest := []) (q0 := 0) C0 (c_X8_changed (rsu σ27 0 (ix x1) 0)   r_ h_) v_X8_changed q486 wR_o rfl rfl ⟨rfl, rfl⟩ (Rm_ok (by decide) (by decide)) rfl (Nat.le_of_ble_eq_true rfl) dX8_open_38) (fun r38 σ38 e38 => ?_)
      exact J_iret C0 dX8_open_41
    · refine J_ldc (pc := 23) C0 q419 dX8_open_23 ?_
      exact J_iret C0 dX8_open_25
  · refine J_ldc (pc := 10) C0 q430 dX8_open_10 ?_
    exact J_iret C0 dX8_open_12
end SE

def f_X8_put_K94 (k51 : SR → Int32 → Int32 → Option (Int32 × SR)) (σ : SR) (x1 : Int32) (x3 : Int32) (x5 : Int32) (x6 : Int32) (y0 : Int32) (y1 : Int32) : Option (Int32 × SR) :=
  ((f_X8_letterOf x3 x5).bind fun r106 => (if inb x6 33 = true then (k51 (rsu σ 0 (ix x6) r106) (y1 + y0) (x5 + 1)) else none))
def f_X8_put_L51 (x1 : Int32) (x3 : Int32) : Nat → SR → Int32 → Int32 → Option (Int32 × SR)
  | 0, _, _, _ => none
  | n + 1, σ, x4, x5 =>
  (if inb x1 8 = true then (if (σ.1 5 (ix x1)) ≤ x5 then (some (x4, σ)) else ((f_X8_cellOf σ x1 x5).bind fun r66 => (if inb r66 33 = true then ((f_X8_letterOf x3 x5).bind fun r83 => (if (σ.1 0 (ix r66)) = r83 then (f_X8_put_K94 (f_X8_put_L51 x1 x3 n) σ x1 x3 x5 r66 0 x4) else (f_X8_put_K94 (f_X8_put_L51 x1 x3 n) σ x1 x3 x5 r66 1 x4))) else none))) else none)
theorem f_X8_put_L51_s (x1 : Int32) (x3 : Int32) (n : Nat) (σ : SR) (x4 : Int32) (x5 : Int32) : f_X8_put_L51 x1 x3 (n + 1) σ x4 x5 = ((if inb x1 8 = true then (if (σ.1 5 (ix x1)) ≤ x5 then (some (x4, σ)) else ((f_X8_cellOf σ x1 x5).bind fun r66 => (if inb r66 33 = true then ((f_X8_letterOf x3 x5).bind fun r83 => (if (σ.1 0 (ix r66)) = r83 then (f_X8_put_K94 (f_X8_put_L51 x1 x3 n) σ x1 x3 x5 r66 0 x4) else (f_X8_put_K94 (f_X8_put_L51 x1 x3 n) σ x1 x3 x5 r66 1 x4))) else none))) else none)) := rfl
def f_X8_put (σ : SR) (x1 : Int32) (x2 : Int32) : Option (Int32 × SR) :=
  (bnd (f_X8_isSlot σ x1) fun r2 σ2 => (if r2 = 0 then (some ((-1000000001), σ2)) else ((f_X8_isWord σ2 x2).bind fun r10 => (if r10 = 0 then (some ((-1000000001), σ2)) else ((f_X8_codeAt σ2 x2).bind fun r21 => ((f_X8_lengthOf r21).bind fun r26 => (if inb x1 8 = true then (if r26 = (σ2.1 5 (ix x1)) then ((f_X8_remember σ2).bind fun σ42 => (f_X8_put_L51 x1 r21 FU σ42 0 0)) else (some ((-1000000003), σ2))) else none)))))))
section SE
variable {p : Program} {l : Launch} {e : Env} {s : State} {m : MethodId} {args : Array Value} {below : List Frame} {meth : Method} {c : Code} {D : va_G} {cI cZ : ClassId} {A : Nat → Prop} {ad : Nat → Nat}
set_option maxRecDepth 100000 in
set_option maxHeartbeats 4000000 in
theorem j_X8_put_K94 (C0 : Cx D (tyA cI cZ) RX8 cX8_put 7 (some .int) p s m args meth c) (k51 : SR → Int32 → Int32 → Option (Int32 × SR)) (σ : SR) (x1 : Int32) (x3 : Int32) (x5 : Int32) (x6 : Int32) (y0 : Int32) (y1 : Int32) (hk51 : ∀ (σ : SR) (x4 : Int32) (x5 : Int32), J p l e (Rm 4) s m args below meth c D A (wR ad cI cZ) 7 (QI D A (wR ad cI cZ)) (k51 σ x4 x5) σ [(0, .ref (ad 0)), (1, .int x1), (3, .int x3), (4, .int x4), (5, .int x5)] [] 51) : J p l e (Rm 4) s m args below meth c D A (wR ad cI cZ) 7 (QI D A (wR ad cI cZ)) (f_X8_put_K94 k51 σ x1 x3 x5 x6 y0 y1) σ [(0, .ref (ad 0)), (1, .int x1), (3, .int x3), (5, .int x5), (6, .int x6)] [.int y0, .int y1] 94 := by
  unfold f_X8_put_K94
  refine J_iadd (pc := 94) C0 dX8_put_94 ?_
  refine J_istore (pc := 95) (lv' := [(4, .int (y1 + y0)), (0, .ref (ad 0)), (1, .int x1), (3, .int x3), (5, .int x5), (6, .int x6)]) C0 dX8_put_95 (by decide) rfl ?_
  refine J_aload_n (pc := 97) C0 1 dX8_put_97 rfl rfl ?_
  refine J_get (pc := 98) (v := .ref (ad 1)) C0 0 wR_o rfl in_X8 0 (by decide) q411 rfl dX8_put_98 ?_
  refine J_iload (pc := 101) C0 5 dX8_put_101 rfl ?_
  refine J_iload_n (pc := 103) C0 3 dX8_put_103 rfl rfl ?_
  refine J_iload (pc := 104) C0 4 dX8_put_104 rfl ?_
  refine fin_P (fun r_ h_ => run_S (As := [.int x3, .int x5]) (rest := [.int x6, .ref (ad 1)]) C0 (c_X8_letterOf σ x3 x5  r_ h_) v_X8_letterOf q467 rfl ⟨rfl, rfl⟩ (Rm_ok (by decide) (by decide)) rfl (Nat.le_of_ble_eq_true rfl) dX8_put_106) (fun r106 e106 => ?_)
  refine J_iast (pc := 109) (σ' := (rsu σ 0 (ix x6) r106)) C0 1 0 wR_a1 rfl wR_s1 dX8_put_109 (fun h_109 => ?_)
  refine J_iinc (pc := 110) (d := 1) (lv' := [(5, .int (x5 + 1)), (4, .int (y1 + y0)), (0, .ref (ad 0)), (1, .int x1), (3, .int x3), (6, .int x6)]) C0 4 dX8_put_110 rfl (by decide) (by decide) rfl ?_
  refine J_goto (pc := 113) (tgt := 51) C0 dX8_put_113 (by decide) ?_
  refine J_sub (lv' := [(0, .ref (ad 0)), (1, .int x1), (3, .int x3), (4, .int (y1 + y0)), (5, .int (x5 + 1))]) [2, 3, 4, 1, 0] rfl ?_
  exact hk51 (rsu σ 0 (ix x6) r106) (y1 + y0) (x5 + 1)
set_option maxRecDepth 100000 in
set_option maxHeartbeats 4000000 in
theorem j_X8_put_L51 (C0 : Cx D (tyA cI cZ) RX8 cX8_put 7 (some .int) p s m args meth c) (x1 : Int32) (x3 : Int32) : ∀ (n : Nat) (σ : SR) (x4 : Int32) (x5 : Int32), J p l e (Rm 4) s m args below meth c D A (wR ad cI cZ) 7 (QI D A (wR ad cI cZ)) (f_X8_put_L51 x1 x3 n σ x4 x5) σ [(0, .ref (ad 0)), (1, .int x1), (3, .int x3), (4, .int x4), (5, .int x5)] [] 51 := by
  intro n
  induction n with
  | zero => intros; exact J_none
  | succ n ih =>
    intro σ x4 x5
    refine J_eq (f_X8_put_L51_s x1 x3 n σ x4 x5) ?_
    refine J_iload (pc := 51) C0 4 dX8_put_51 rfl ?_
    refine J_aload_n (pc := 53) C0 0 dX8_put_53 rfl rfl ?_
    refine J_get (pc := 54) (v := .ref (ad 6)) C0 0 wR_o rfl in_X8 8 (by decide) q412 rfl dX8_put_54 ?_
    refine J_iload_n (pc := 57) C0 1 dX8_put_57 rfl rfl ?_
    refine J_iald (pc := 58) C0 6 0 wR_a6 rfl dX8_put_58 (fun h_58 => ?_)
    refine J_icmp_ge (pc := 59) (tgt := 116) C0 dX8_put_59 (by decide) (fun h_59 => ?_) (fun h_59 => ?_)
    · refine J_iload (pc := 116) C0 3 dX8_put_116 rfl ?_
      exact J_iret C0 dX8_put_118
    · refine J_aload_n (pc := 62) C0 0 dX8_put_62 rfl rfl ?_
      refine J_iload_n (pc := 63) C0 1 dX8_put_63 rfl rfl ?_
      refine J_iload (pc := 64) C0 4 dX8_put_64 rfl ?_
      refine fin_P (fun r_ h_ => run_V (As := [.int x1, .int x5]) (rest := []) (q0 := 0) C0 (c_X8_cellOf σ x1 x5  r_ h_) v_X8_cellOf q431 wR_o rfl rfl ⟨rfl, rfl⟩ (Rm_ok (by decide) (by decide)) rfl (Nat.le_of_ble_eq_true rfl) dX8_put_66) (fun r66 e66 => ?_)
      refine J_istore (pc := 69) (lv' := [(6, .int r66), (0, .ref (ad 0)), (1, .int x1), (3, .int x3), (4, .int x4), (5, .int x5)]) C0 dX8_put_69 (by decide) rfl ?_
      refine J_iload (pc := 71) C0 4 dX8_put_71 rfl ?_
      refine J_aload_n (pc := 73) C0 1 dX8_put_73 rfl rfl ?_
      refine J_get (pc := 74) (v := .ref (ad 1)) C0 0 wR_o rfl in_X8 0 (by decide) q411 rfl dX8_put_74 ?_
      refine J_iload (pc := 77) C0 0 dX8_put_77 rfl ?_
      refine J_iald (pc := 79) C0 1 0 wR_a1 rfl dX8_put_79 (fun h_79 => ?_)
      refine J_iload_n (pc := 80) C0 3 dX8_put_80 rfl rfl ?_
      refine J_iload (pc := 81) C0 5 dX8_put_81 rfl ?_
      refine fin_P (fun r_ h_ => run_S (As := [.int x3, .int x5]) (rest := [.int (σ.1 0 (ix r66)), .int x4]) C0 (c_X8_letterOf σ x3 x5  r_ h_) v_X8_letterOf q467 rfl ⟨rfl, rfl⟩ (Rm_ok (by decide) (by decide)) rfl (Nat.le_of_ble_eq_true rfl) dX8_put_83) (fun r83 e83 => ?_)
      refine J_icmp_eq (pc := 86) (tgt := 93) C0 dX8_put_86 (by decide) (fun h_86 => ?_) (fun h_86 => ?_)
      · refine J_iconst (pc := 93) (v := 0) C0 dX8_put_93 (by decide) ?_
        refine J_sub (lv' := [(0, .ref (ad 0)), (1, .int x1), (3, .int x3), (5, .int x5), (6, .int r66)]) [1, 2, 3, 5, 0] rfl ?_
        exact j_X8_put_K94 C0 _ σ x1 x3 x5 r66 0 x4 ih
      · refine J_iconst (pc := 89) (v := 1) C0 dX8_put_89 (by decide) ?_
        refine J_goto (pc := 90) (tgt := 94) C0 dX8_put_90 (by decide) ?_
        refine J_sub (lv' := [(0, .ref (ad 0)), (1, .int x1), (3, .int x3), (5, .int x5), (6, .int r66)]) [1, 2, 3, 5, 0] rfl ?_
        exact j_X8_put_K94 C0 _ σ x1 x3 x5 r66 1 x4 ih
set_option maxRecDepth 100000 in
set_option maxHeartbeats 4000000 in
theorem c_X8_put {l : Launch} {D : va_G} {cI cZ : ClassId} {A : Nat → Prop} {ad : Nat → Nat} (σ : SR) (x1 : Int32) (x2 : Int32)  (r : (Int32 × SR)) (h : f_X8_put σ x1 x2 = some r) : Met l yX8_put (.code yX8_put cX8_put 7 (some .int) :: wG) (Rm 4) (PreW D (tyA cI cZ) A (wR ad cI cZ) [.ref (ad 0), .int x1, .int x2] σ) (QI D A (wR ad cI cZ) r) 0 0 A := by
  refine met_of (M := f_X8_put σ x1 x2) (Qc := (QI D A (wR ad cI cZ))) (by decide) (Nat.le_of_ble_eq_true rfl) h (fun p e s m below meth c C0 => ?_)
  generalize hargs : ([.ref (ad 0), .int x1, .int x2] : List Value).toArray = args at C0 ⊢
  have C0 : Cx D (tyA cI cZ) RX8 cX8_put 7 (some .int) p s m args meth c := C0
  refine J_sub (lv' := [(0, .ref (ad 0)), (1, .int x1), (2, .int x2)]) [0, 1, 2] rfl ?_
  unfold f_X8_put
  refine J_aload_n (pc := 0) C0 0 dX8_put_0 rfl rfl ?_
  refine J_iload_n (pc := 1) C0 1 dX8_put_1 rfl rfl ?_
  refine fin_I (fun r_ h_ => run_V (As := [.int x1]) (rest := []) (q0 := 0) C0 (c_X8_isSlot σ x1  r_ h_) v_X8_isSlot q504 wR_o rfl rfl ⟨rfl, rfl⟩ (Rm_ok (by decide) (by decide)) rfl (Nat.le_of_ble_eq_true rfl) dX8_put_2) (fun r2 σ2 e2 => ?_)
  refine J_if_eq (pc := 5) (tgt := 16) C0 dX8_put_5 (by decide) (fun h_5 => ?_) (fun h_5 => ?_)
  · refine J_ldc (pc := 16) C0 q430 dX8_put_16 ?_
    exact J_iret C0 dX8_put_18
  · refine J_aload_n (pc := 8) C0 0 dX8_put_8 rfl rfl ?_
    refine J_iload_n (pc := 9) C0 2 dX8_put_9 rfl rfl ?_
    refine fin_P (fun r_ h_ => run_V (As := [.int x2]) (rest := []) (q0 := 0) C0 (c_X8_isWord σ2 x2  r_ h_) v_X8_isWord q470 wR_o rfl rfl ⟨rfl, rfl⟩ (Rm_ok (by decide) (by decide)) rfl (Nat.le_of_ble_eq_true rfl) dX8_put_10) (fun r10 e10 => ?_)
    refine J_if_ne (pc := 13) (tgt := 19) C0 dX8_put_13 (by decide) (fun h_13 => ?_) (fun h_13 => ?_)
    · refine J_aload_n (pc := 19) C0 0 dX8_put_19 rfl rfl ?_
      refine J_iload_n (pc := 20) C0 2 dX8_put_20 rfl rfl ?_
      refine fin_P (fun r_ h_ => run_V (As := [.int x2]) (rest := []) (q0 := 0) C0 (c_X8_codeAt σ2 x2  r_ h_) v_X8_codeAt q420 wR_o rfl rfl ⟨rfl, rfl⟩ (Rm_ok (by decide) (by decide)) rfl (Nat.le_of_ble_eq_true rfl) dX8_put_21) (fun r21 e21 => ?_)
      refine J_istore_n (pc := 24) (lv' := [(3, .int r21), (0, .ref (ad 0)), (1, .int x1), (2, .int x2)]) C0 dX8_put_24 rfl (by decide) rfl ?_
      refine J_iload_n (pc := 25) C0 0 dX8_put_25 rfl rfl ?_
      refine fin_P (fun r_ h_ => run_S (As := [.int r21]) (rest := []) C0 (c_X8_lengthOf σ2 r21  r_ h_) v_X8_lengthOf q444 rfl ⟨rfl, rfl⟩ (Rm_ok (by decide) (by decide)) rfl (Nat.le_of_ble_eq_true rfl) dX8_put_26) (fun r26 e26 => ?_)
      refine J_aload_n (pc := 29) C0 1 dX8_put_29 rfl rfl ?_
      refine J_get (pc := 30) (v := .ref (ad 6)) C0 0 wR_o rfl in_X8 8 (by decide) q412 rfl dX8_put_30 ?_
      refine J_iload_n (pc := 33) C0 2 dX8_put_33 rfl rfl ?_
      refine J_iald (pc := 34) C0 6 0 wR_a6 rfl dX8_put_34 (fun h_34 => ?_)
      refine J_icmp_eq (pc := 35) (tgt := 41) C0 dX8_put_35 (by decide) (fun h_35 => ?_) (fun h_35 => ?_)
      · refine J_aload_n (pc := 41) C0 1 dX8_put_41 rfl rfl ?_
        refine fin_V (fun r_ h_ => run_V (As := []) (rest := []) (q0 := 0) C0 (c_X8_remember σ2   r_ h_) v_X8_remember q439 wR_o rfl rfl ⟨rfl, rfl⟩ (Rm_ok (by decide) (by decide)) rfl (Nat.le_of_ble_eq_true rfl) dX8_put_42) (fun σ42 e42 => ?_)
        refine J_iconst (pc := 45) (v := 0) C0 dX8_put_45 (by decide) ?_
        refine J_istore (pc := 46) (lv' := [(4, .int 0), (3, .int r21), (0, .ref (ad 0)), (1, .int x1), (2, .int x2)]) C0 dX8_put_46 (by decide) rfl ?_
        refine J_iconst (pc := 48) (v := 0) C0 dX8_put_48 (by decide) ?_
        refine J_istore (pc := 49) (lv' := [(5, .int 0), (4, .int 0), (3, .int r21), (0, .ref (ad 0)), (1, .int x1), (2, .int x2)]) C0 dX8_put_49 (by decide) rfl ?_
        refine J_sub (lv' := [(0, .ref (ad 0)), (1, .int x1), (3, .int r21), (4, .int 0), (5, .int 0)]) [3, 4, 2, 1, 0] rfl ?_
        exact j_X8_put_L51 C0 x1 r21 FU σ42 0 0
      · refine J_ldc (pc := 38) C0 q419 dX8_put_38 ?_
        exact J_iret C0 dX8_put_40
    · refine J_ldc (pc := 16) C0 q430 dX8_put_16 ?_
      exact J_iret C0 dX8_put_18
end SE
