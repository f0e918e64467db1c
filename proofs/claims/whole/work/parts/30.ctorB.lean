/-! ===== the constructors: worlds that grow ===== -/
theorem arr_same {D : va_G} {tys : List (ClassId × FieldType)} {cA cB : ClassId} {ty : FieldType} {U : State} (hty : ∀ C, ty ≠ .object C) (h : va_K D vwCl (tys ++ [(cA, ty)]) U) {k : Nat} (hk : tys[k]? = some (cB, ty)) : cA = cB := by
  have h1 := (h.2 tys.length (cA, ty) (by simp)).2
  have hlt : k < tys.length := (List.getElem?_eq_some_iff.mp hk).1
  have h2 := (h.2 k (cB, ty) (by rw [List.getElem?_append_left hlt]; exact hk)).2
  have key : ∀ t : FieldType, (∀ C, t ≠ .object C) → va_RA U cA t → va_RA U cB t → cA = cB := by
    intro t ht a b
    cases t with
    | object C => exact absurd rfl (ht C)
    | _ => exact Option.some.inj (a.symm.trans b)
  exact key ty hty h1 h2
def Rc (k mc ms : Nat) : Room := { frames := k, cells := mc, slots := ms, locals := 40 * k }
theorem Rc_ok {j k a b a' b' maxL : Nat} (h : j + 1 ≤ k) (hm : maxL ≤ 21) : (Rc j a b).frames + 1 ≤ (Rc k a' b').frames ∧ 8 + (maxL + 11) + (Rc j a b).locals ≤ (Rc k a' b').locals := by
  constructor
  · exact h
  · show 8 + (maxL + 11) + 40 * j ≤ 40 * k
    omega
theorem Rmc_ok {j k a' b' maxL : Nat} (h : j + 1 ≤ k) (hm : maxL ≤ 21) : (Rm j).frames + 1 ≤ (Rc k a' b').frames ∧ 8 + (maxL + 11) + (Rm j).locals ≤ (Rc k a' b').locals := by
  constructor
  · exact h
  · show 8 + (maxL + 11) + 40 * j ≤ 40 * k
    omega
def PreC (D : va_G) (tys : List (ClassId × FieldType)) (av : List Value) (wc : va_W) (sz : Nat) : Array Value → State → Prop := va_Pc av (fun U => U.heap.size = sz ∧ va_P D vwCl wc U.heap ∧ va_K D vwCl tys U ∧ va_D (fun _ => True) wc ∧ NW U)
def QC (D : va_G) (post : (Nat → Nat) → Prop) (w1 : (Nat → Nat) → va_W) (A : Nat → Prop) : Array Value → State → Outcome → State → Prop := va_Qv post (fun u t => va_P D vwCl (w1 u) t.heap ∧ va_D A (w1 u)) A
theorem PreC.blind {D : va_G} {tys : List (ClassId × FieldType)} {av : List Value} {wc : va_W} {sz : Nat} : FrameBlind (PreC D tys av wc sz) := by
  intro a U g mk h
  obtain ⟨h1, h2, h3, h4, h5, h6⟩ := h
  exact ⟨h1, h2, h3, va_K.moved (u := U) (U := U.calling g mk a) (Vm.Alike.refl U.vm) h4, h5, NW.same (u := U) (U := U.calling g mk a) rfl h6⟩
def Cy (D : va_G) (tys : List (ClassId × FieldType)) (own : String) (cc : ByteArray) (nL : Nat) (p : Program) (s : State) (m : MethodId) (args : Array Value) (meth : Method) (c : Code) (A : Nat → Prop) : Prop := Cx D tys own cc nL none p s m args meth c ∧ meth.name = "<init>" ∧ ∀ q, s.heap.size ≤ q → A q
def G (p : Program) (l : Launch) (e : Env) (R : Room) (s : State) (m : MethodId) (args : Array Value) (below : List Frame) (meth : Method) (c : Code) (D : va_G) (A : Nat → Prop) (nL : Nat) (Qc : Array Value → State → Outcome → State → Prop) (mc ms : Nat) (ws : va_W) (cells slots : Nat) (lv : List (Nat × Value)) (st : List Value) (pc : Nat) : Prop :=
  ∀ (H : Heap) (locs : List Loc) (ls : Array Slot), lv_has ls nL lv → va_P D vwCl ws H → va_D A ws → va_S A s.heap H locs → W p l e R s m args below meth c H locs cells slots (MQ below Qc args s mc ms A) (F0 m pc ls st)
section GR
variable {p : Program} {l : Launch} {e : Env} {R : Room} {s : State} {m : MethodId} {args : Array Value} {below : List Frame} {meth : Method} {c : Code} {D : va_G} {tys : List (ClassId × FieldType)} {A : Nat → Prop} {nL : Nat} {Qc : Array Value → State → Outcome → State → Prop} {mc ms : Nat} {ws : va_W} {cells slots : Nat} {lv : List (Nat × Value)} {st rest : List Value} {pc : Nat} {own : String} {cc : ByteArray}

theorem G_aload_n (C0 : Cy D tys own cc nL p s m args meth c A) {j : Fin 4} (q : Nat) {i x : Nat} (hdg : decode cc pc = .ok (.aload_n j, 1)) (hi : (j : Nat) = i) (hq : lv[q]? = some (i, .ref x)) (k : G p l e R s m args below meth c D A nL Qc mc ms ws cells slots lv (.ref x :: st) (pc + 1)) : G p l e R s m args below meth c D A nL Qc mc ms ws cells slots lv st pc := fun H locs ls hl hP hD hS => lv_aload_n C0.1.1 C0.1.2.1 hdg hi (lv_at hl q hq) (k H locs ls hl hP hD hS)
theorem G_iload_n (C0 : Cy D tys own cc nL p s m args meth c A) {j : Fin 4} (q : Nat) {i : Nat} {x : Int32} (hdg : decode cc pc = .ok (.iload_n j, 1)) (hi : (j : Nat) = i) (hq : lv[q]? = some (i, .int x)) (k : G p l e R s m args below meth c D A nL Qc mc ms ws cells slots lv (.int x :: st) (pc + 1)) : G p l e R s m args below meth c D A nL Qc mc ms ws cells slots lv st pc := fun H locs ls hl hP hD hS => lv_iload_n C0.1.1 C0.1.2.1 hdg hi (lv_at hl q hq) (k H locs ls hl hP hD hS)
theorem G_iconst (C0 : Cy D tys own cc nL p s m args meth c A) {n : Int} {v : Int32} (hdg : decode cc pc = .ok (.iconst n, 1)) (hv : Int32.ofInt n = v) (k : G p l e R s m args below meth c D A nL Qc mc ms ws cells slots lv (.int v :: st) (pc + 1)) : G p l e R s m args below meth c D A nL Qc mc ms ws cells slots lv st pc := fun H locs ls hl hP hD hS => lv_iconst C0.1.1 C0.1.2.1 hdg hv (k H locs ls hl hP hD hS)
theorem G_bipush (C0 : Cy D tys own cc nL p s m args meth c A) {n : Int} {v : Int32} (hdg : decode cc pc = .ok (.bipush n, 2)) (hv : (Int8.ofInt n).toInt32 = v) (k : G p l e R s m args below meth c D A nL Qc mc ms ws cells slots lv (.int v :: st) (pc + 2)) : G p l e R s m args below meth c D A nL Qc mc ms ws cells slots lv st pc := fun H locs ls hl hP hD hS => lv_bipush C0.1.1 C0.1.2.1 hdg hv (k H locs ls hl hP hD hS)
theorem G_sipush (C0 : Cy D tys own cc nL p s m args meth c A) {n : Int} {v : Int32} (hdg : decode cc pc = .ok (.sipush n, 3)) (hv : (Int16.ofInt n).toInt32 = v) (k : G p l e R s m args below meth c D A nL Qc mc ms ws cells slots lv (.int v :: st) (pc + 3)) : G p l e R s m args below meth c D A nL Qc mc ms ws cells slots lv st pc := fun H locs ls hl hP hD hS => lv_sipush C0.1.1 C0.1.2.1 hdg hv (k H locs ls hl hP hD hS)
theorem G_dup (C0 : Cy D tys own cc nL p s m args meth c A) {v : Value} (hdg : decode cc pc = .ok (.dup, 1)) (hv : v.category = 1) (k : G p l e R s m args below meth c D A nL Qc mc ms ws cells slots lv (v :: v :: st) (pc + 1)) : G p l e R s m args below meth c D A nL Qc mc ms ws cells slots lv (v :: st) pc := fun H locs ls hl hP hD hS => lv_dup C0.1.1 C0.1.2.1 hdg hv (k H locs ls hl hP hD hS)
theorem G_objInit (C0 : Cy D tys own cc nL p s m args meth c A) {idx a : Nat} (h1 : Cond.methodLink own idx Lib.objectInit ∈ wG) (h2 : Cond.instanceMethod Lib.objectInit ∈ wG) (h3 : Cond.code Lib.objectInit ⟨#[0xb1]⟩ 1 none ∈ wG) (hf : 1 ≤ R.frames) (hlo : (st.map fun v => v.category).sum + 12 ≤ R.locals) (hdg : decode cc pc = .ok (.invokespecial idx, 3)) (k : G p l e R s m args below meth c D A nL Qc mc ms ws cells slots lv st (pc + 3)) : G p l e R s m args below meth c D A nL Qc mc ms ws cells slots lv (.ref a :: st) pc := fun H locs ls hl hP hD hS => by
  refine W.objInit C0.1.1 C0.1.2.1 C0.1.2.2.2.1 (C0.1.2.2.2.2.1 _ h1) (C0.1.2.2.2.2.1 _ h2) (C0.1.2.2.2.2.1 _ h3) rfl (hl.1.trans C0.1.2.2.1.symm) rfl hdg hf (by simpa [JFrame.monitorRoom] using hlo) ?_
  exact W.eq (g2 := F0 m (pc + 3) ls st) rfl (k H locs ls hl hP hD hS)
theorem G_mmax (C0 : Cy D tys own cc nL p s m args meth c A) {index : Nat} {x y : Int32} (h1 : Cond.methodLink own index Lib.Math.max.name ∈ wG) (h2 : Cond.static Lib.Math.max.name ∈ wG) (h3 : Cond.initialized "java/lang/Math" ∈ wG) (h4 : Cond.code Lib.Math.max.name Lib.Math.max.code 2 (some .int) ∈ wG) (hf : 1 ≤ R.frames) (hlo : (st.map fun v => v.category).sum + 13 ≤ R.locals) (hc : cells ≤ R.cells) (hs : slots ≤ R.slots) (hdg : decode cc pc = .ok (.invokestatic index, 3)) (k : G p l e R s m args below meth c D A nL Qc mc ms ws cells slots lv (.int (if x < y then y else x) :: st) (pc + 3)) : G p l e R s m args below meth c D A nL Qc mc ms ws cells slots lv (.int y :: .int x :: st) pc := fun H locs ls hl hP hD hS => va_mmax C0.1.1 C0.1.2.1 (C0.1.2.2.1.trans hl.1.symm) C0.1.2.2.2.1 (C0.1.2.2.2.2.1 _ h1) (C0.1.2.2.2.2.1 _ h2) (C0.1.2.2.2.2.1 _ h3) (C0.1.2.2.2.2.1 _ h4) hf hlo hc hs hdg (k H locs ls hl hP hD hS)
theorem G_newa (C0 : Cy D tys own cc nL p s m args meth c A) {cA0 : ClassId} {atype : ArrayType} {ty : FieldType} (t0 : Nat) (ht : tys[t0]? = some (cA0, ty)) (hno : ∀ C, ty ≠ .object C) (harr : Cond.arrayClass (newarray.typeOf atype) ∈ wG) (hty : newarray.typeOf atype = ty) {n : Int32} {N' : Nat} {a0 : vp_A} (ha : ∀ cA : ClassId, vp_cell cA a0 = arrV cA N' (fun _ => defaultValue ty)) (hn : ¬ n < 0) (hN : n.toNatClampNeg = N') (hbytes : N' * componentBytes ty ≤ 536870912) (hcells : cells + 1 ≤ R.cells) (hslots : slots + N' ≤ R.slots) (hdg : decode cc pc = .ok (.newarray atype, 2)) (k : ∀ q : Nat, G p l e R s m args below meth c D A nL Qc mc ms (ws ++ [(q, .inl (cA0, a0))]) (cells + 1) (slots + N') lv (.ref q :: st) (pc + 2)) : G p l e R s m args below meth c D A nL Qc mc ms ws cells slots lv (.int n :: st) pc := fun H locs ls hl hP hD hS => by
  refine va_newa (atype := atype) C0.1.1 C0.1.2.1 (C0.1.2.2.2.2.1 _ harr) hty C0.1.2.2.2.2.2.2.2.2 hP hD hS C0.2.2 ha hn hN hbytes hcells hslots hdg (fun q cA H1 hK1 hP1 hD1 hS1 => ?_)
  have e := arr_same hno hK1 ht
  subst e
  exact k q H1 locs ls hl hP1 hD1 hS1
theorem G_new (C0 : Cy D tys own cc nL p s m args meth c A) {C : String} {T : u_T} {N ci index : Nat} {ty : Nat → FieldType} (hin : ∀ w ∈ u_ws C T N, w ∈ wG) (hty : ∀ k, k < N → parseFieldDescriptor (T k).2.2.1 = some (ty k)) (hcl : Cond.classLink own index C ∈ wG) (hinst : Cond.instantiable C N ∈ wG) (hini : Cond.initialized C ∈ wG) (hc : vwCl[ci]? = some (C, T, N)) {fs : List Value} (hfs : ∀ j, j < N → defaultValue (ty j) = vp_V fs j) (hcells : cells + 1 ≤ R.cells) (hslots : slots + N ≤ R.slots) (hdg : decode cc pc = .ok (.new index, 3)) (k : ∀ q : Nat, G p l e R s m args below meth c D A nL Qc mc ms (ws ++ [(q, .inr (ci, fs))]) (cells + 1) (slots + N) lv (.ref q :: st) (pc + 3)) : G p l e R s m args below meth c D A nL Qc mc ms ws cells slots lv st pc := fun H locs ls hl hP hD hS =>
  va_new C0.1.1 C0.1.2.1 C0.1.2.2.2.2.1 hin ty hty C0.1.2.2.2.1 (C0.1.2.2.2.2.1 _ hcl) (C0.1.2.2.2.2.1 _ hinst) (C0.1.2.2.2.2.1 _ hini) C0.1.2.2.2.2.2.2.2.2 hP hD hS C0.2.2 hc hfs hcells hslots hdg (fun q H1 hP1 hD1 hS1 => k q H1 locs ls hl hP1 hD1 hS1)
theorem G_get (C0 : Cy D tys own cc nL p s m args meth c A) {C : String} {T : u_T} {N ci index a : Nat} {fs : List Value} {v : Value} (q0 : Nat) (he : ws[q0]? = some (a, .inr (ci, fs))) (hc : vwCl[ci]? = some (C, T, N)) (hin : ∀ w ∈ u_ws C T N, w ∈ wG) (k : Nat) (hk : k < N) (hlink : Cond.fieldLink own index (T k).1 (T k).2.1 (T k).2.2.1 ∈ wG) (hv : fs[k]? = some v) (hdg : decode cc pc = .ok (.getfield index, 3)) (kk : G p l e R s m args below meth c D A nL Qc mc ms ws cells slots lv (v :: st) (pc + 3)) : G p l e R s m args below meth c D A nL Qc mc ms ws cells slots lv (.ref a :: st) pc := fun H locs ls hl hP hD hS => va_get (D := D) (ref := (T k).1) C0.1.1 C0.1.2.1 C0.1.2.2.2.2.1 hin C0.1.2.2.2.1 C0.1.2.2.2.2.2.2.2.2 hP q0 he hc k hk (C0.1.2.2.2.2.1 _ hlink) (fun _ h9 => h9) hv hdg (kk H locs ls hl hP hD hS)
theorem G_putF (C0 : Cy D tys own cc nL p s m args meth c A) {C : String} {T : u_T} {N ci index a : Nat} {fs : List Value} {v : Value} {ty : FieldType} {ws' : va_W} {ty0 : Nat → FieldType} (hty : ∀ k, k < N → parseFieldDescriptor (T k).2.2.1 = some (ty0 k)) (hnm : ∀ a, a < N → ∀ b, b < N → a ≠ b → (T a).2.1 ≠ (T b).2.1) (q0 : Nat) (he : ws[q0]? = some (a, .inr (ci, fs))) (hc : vwCl[ci]? = some (C, T, N)) (hin : ∀ w ∈ u_ws C T N, w ∈ wG) (k : Nat) (hk : k < N) (hlink : Cond.fieldLink own index (T k).1 (T k).2.1 (T k).2.2.1 ∈ wG) (hfin : (T k).2.2.2 = true) (hdecl : (T k).1 = own) (hd : parseFieldDescriptor (T k).2.2.1 = some ty) (hn : narrow ty v = v) (hfit : fits ty v = true) (hl0 : k < fs.length) (hset : ws.set q0 (a, .inr (ci, fs.set k v)) = ws') (hdg : decode cc pc = .ok (.putfield index, 3)) (kk : G p l e R s m args below meth c D A nL Qc mc ms ws' cells slots lv st (pc + 3)) : G p l e R s m args below meth c D A nL Qc mc ms ws cells slots lv (v :: .ref a :: st) pc := fun H locs ls hl hP hD hS => va_putF (D := D) (ref := (T k).1) C0.1.1 C0.1.2.1 C0.1.2.2.2.2.1 hin ty0 hty hnm C0.1.2.2.2.1 C0.1.2.2.2.2.2.2.2.2 hP hD hS q0 he hc k hk (C0.1.2.2.2.2.1 _ hlink) (fun _ h9 => h9) hfin C0.2.1 hdecl hd hn hfit hl0 hdg (fun H1 locs1 hP1 hD1 hS1 => kk H1 locs1 ls hl (hset ▸ hP1) (hset ▸ hD1) hS1)
theorem G_perm {ws' : va_W} (is : List Nat) (h1 : is.filterMap (fun i => ws[i]?) = ws') (hn : va_nd is = true) (h2 : is.map (fun i => ws[i]?) = ws'.map some) (k : G p l e R s m args below meth c D A nL Qc mc ms ws' cells slots lv st pc) : G p l e R s m args below meth c D A nL Qc mc ms ws cells slots lv st pc := fun H locs ls hl hP hD hS => k H locs ls hl (hP.sub is h1) (hD.sub is hn h2) hS
theorem G_vret (C0 : Cy D tys own cc nL p s m args meth c A) {w1 : (Nat → Nat) → va_W} {post : (Nat → Nat) → Prop} (u : Nat → Nat) (hpost : post u) (hw : ws = w1 u) (hdg : decode cc pc = .ok (.return_, 1)) : G p l e R s m args below meth c D A nL (QC D post w1 A) cells slots ws cells slots lv [] pc := by
  intro H locs ls hl hP hD hS
  rw [hw] at hP hD
  exact W.vret C0.1.1 C0.1.2.1 C0.1.2.2.2.2.2.1 (fun t ht hW => ⟨⟨u, rfl, hpost, by rw [ht]; exact hP, hD⟩, hS.F ht⟩) hS.2.2 hdg (hlocks := C0.1.2.2.2.2.2.2.1)
def MI (y : MethodName) (bytes : ByteArray) (maxL n : Nat) : Prop := Cond.instanceMethod y ∈ wG ∧ Cond.initialized y.cls ∈ wG ∧ Cond.code y bytes maxL none ∈ wG ∧ y.name = "<init>" ∧ y.cls ≠ "java/lang/invoke/MethodHandle" ∧ y.cls ≠ "java/lang/invoke/VarHandle" ∧ (parseMethodDescriptor y.desc).map (fun d => d.parameters.length) = some n
theorem G_callI (C0 : Cy D tys own cc nL p s m args meth c A) {y : MethodName} {bytes : ByteArray} {maxL n index b mc' ms' : Nat} {rm : Room} {As : List Value} {wc wr : va_W} {w1 : (Nat → Nat) → va_W} (hM : ∀ sz, Met l y (.code y bytes maxL none :: wG) rm (PreC D tys (.ref b :: As) wc sz) (QC D (fun _ => True) w1 (va_A wc sz)) mc' ms' (va_A wc sz)) (hmi : MI y bytes maxL n) (hlink : Cond.methodLink own index y ∈ wG) (isC isR : List Nat) (hC2 : isC.filterMap (fun i => ws[i]?) = wc) (hC : isC.map (fun i => ws[i]?) = wc.map some) (hR2 : isR.map (fun i => ws[i]?) = wr.map some) (hnc : va_nd isC = true) (hnr : va_nd isR = true) (hdis : ∀ i ∈ isR, i ∉ isC) (hn : As.length = n) (hrm : rm.cells = mc' ∧ rm.slots = ms') (hR : rm.frames + 1 ≤ R.frames ∧ 8 + (maxL + 11) + rm.locals ≤ R.locals) (hst : st = As.reverse ++ .ref b :: rest) (hw : (rest.map fun v => v.category).sum ≤ 8) (hf : cells + mc' ≤ R.cells ∧ slots + ms' ≤ R.slots) (hdg : decode cc pc = .ok (.invokespecial index, 3)) (k : ∀ u : Nat → Nat, G p l e R s m args below meth c D A nL Qc mc ms (wr ++ w1 u) (cells + mc') (slots + ms') lv rest (pc + 3)) : G p l e R s m args below meth c D A nL Qc mc ms ws cells slots lv st pc := by
  intro H locs ls hl hP hD hS
  have hPc := hP.sub isC hC2
  have hDc := hD.sub isC hnc hC
  have hFc := va_free hD hS C0.2.2 isC hC
  refine va_callv (va_runI (As := As) (rest := rest) (Ts := wG) (nL := nL) ⟨C0.1.1, C0.1.2.1, C0.1.2.2.1, C0.1.2.2.2.1, C0.1.2.2.2.2.1⟩ (hM H.size) (cwI n C0.1.2.2.2.2.1 (wG_gc hmi.2.2.1 wG_gd) rfl hrm.1 hrm.2 (C0.1.2.2.2.2.1 _ hmi.2.1) (C0.1.2.2.2.2.1 _ hlink) (C0.1.2.2.2.2.1 _ hmi.1) hmi.2.2.2.1 hmi.2.2.2.2 hR) ⟨PreC.blind, fun U hU hW => ⟨rfl, by rw [hU], by rw [hU]; exact hPc, va_K.moved hW.alike C0.1.2.2.2.2.2.2.2.2, hDc.weaken (fun _ _ _ _ => trivial), NW.warm hW C0.1.2.2.2.2.2.2.2.1⟩⟩ rfl hn hl.1 hst (by simpa [JFrame.monitorRoom] using hw) hdg hf) hS (fun q _ h => hFc q h) hFc (fun u t H1 locs1 ht hvm hp hB hz1 hk1 hS1 => ?_)
  obtain ⟨hP1, hD1⟩ := hB
  rw [ht] at hP1
  obtain ⟨hP2, hD2⟩ := va_join (wr := wr) (w1 := w1 u) hP hD isC isR hC hR2 hnr hdis hk1 hFc hP1 hD1
  exact k u H1 locs1 ls hl hP2 hD2 hS1
theorem G_callIN (C0 : Cy D tys own cc nL p s m args meth c A) {y : MethodName} {bytes : ByteArray} {maxL n index b mc' ms' : Nat} {host : String} {rm : Room} {As : List Value} {wc wr : va_W} {w1 : (Nat → Nat) → va_W} (hM : ∀ sz, Met l y (.code y bytes maxL none :: wG) rm (PreC D tys (.ref b :: As) wc sz) (QC D (fun _ => True) w1 (va_A wc sz)) mc' ms' (va_A wc sz)) (hmi : MI y bytes maxL n) (hlink : Cond.methodLinkNest own index y host ∈ wN) (isC isR : List Nat) (hC2 : isC.filterMap (fun i => ws[i]?) = wc) (hC : isC.map (fun i => ws[i]?) = wc.map some) (hR2 : isR.map (fun i => ws[i]?) = wr.map some) (hnc : va_nd isC = true) (hnr : va_nd isR = true) (hdis : ∀ i ∈ isR, i ∉ isC) (hn : As.length = n) (hrm : rm.cells = mc' ∧ rm.slots = ms') (hR : rm.frames + 1 ≤ R.frames ∧ 8 + (maxL + 11) + rm.locals ≤ R.locals) (hst : st = As.reverse ++ .ref b :: rest) (hw : (rest.map fun v => v.category).sum ≤ 8) (hf : cells + mc' ≤ R.cells ∧ slots + ms' ≤ R.slots) (hdg : decode cc pc = .ok (.invokespecial index, 3)) (k : ∀ u : Nat → Nat, G p l e R s m args below meth c D A nL Qc mc ms (wr ++ w1 u) (cells + mc') (slots + ms') lv rest (pc + 3)) : G p l e R s m args below meth c D A nL Qc mc ms ws cells slots lv st pc := by
  intro H locs ls hl hP hD hS
  have hPc := hP.sub isC hC2
  have hDc := hD.sub isC hnc hC
  have hFc := va_free hD hS C0.2.2 isC hC
  refine va_callv (va_runIN (As := As) (rest := rest) (Ts := wG) (nL := nL) ⟨C0.1.1, C0.1.2.1, C0.1.2.2.1, C0.1.2.2.2.1, C0.1.2.2.2.2.1⟩ (hM H.size) ⟨va_cnB n C0.1.2.2.2.2.1 (wG_gc hmi.2.2.1 wG_gd) rfl hrm.1 hrm.2 (C0.1.2.2.2.2.2.2.2.1 _ hlink) (C0.1.2.2.2.2.1 _ hmi.2.1) hmi.2.2.2.2 hR, hmi.2.2.2.1, C0.1.2.2.2.2.1 _ hmi.1⟩ ⟨PreC.blind, fun U hU hW => ⟨rfl, by rw [hU], by rw [hU]; exact hPc, va_K.moved hW.alike C0.1.2.2.2.2.2.2.2.2, hDc.weaken (fun _ _ _ _ => trivial), NW.warm hW C0.1.2.2.2.2.2.2.2.1⟩⟩ rfl hn hl.1 hst (by simpa [JFrame.monitorRoom] using hw) hdg hf) hS (fun q _ h => hFc q h) hFc (fun u t H1 locs1 ht hvm hp hB hz1 hk1 hS1 => ?_)
  obtain ⟨hP1, hD1⟩ := hB
  rw [ht] at hP1
  obtain ⟨hP2, hD2⟩ := va_join (wr := wr) (w1 := w1 u) hP hD isC isR hC hR2 hnr hdis hk1 hFc hP1 hD1
  exact k u H1 locs1 ls hl hP2 hD2 hS1
theorem G_callW (C0 : Cy D tys own cc nL p s m args meth c A) {S : Type} {wd : S → va_W} {σ σ' : S} {C : String} {y : MethodName} {bytes : ByteArray} {maxL n index ci q0 b N : Nat} {T : u_T} {fs : List Value} {rm : Room} {As : List Value} (hM : Met l y (.code y bytes maxL none :: wG) rm (PreW D tys A wd (.ref b :: As) σ) (QV D A wd σ') 0 0 A) (hmv : MV C y bytes maxL none n) (hlink : Cond.methodLink own index y ∈ wG) (he : (wd σ)[q0]? = some (b, .inr (ci, fs))) (hc : vwCl[ci]? = some (C, T, N)) (hn : As.length = n) (hrm : rm.cells = 0 ∧ rm.slots = 0) (hR : rm.frames + 1 ≤ R.frames ∧ 8 + (maxL + 11) + rm.locals ≤ R.locals) (hst : st = As.reverse ++ .ref b :: rest) (hw : (rest.map fun v => v.category).sum ≤ 8) (hf : cells ≤ R.cells ∧ slots ≤ R.slots) (hdg : decode cc pc = .ok (.invokevirtual index, 3)) (k : G p l e R s m args below meth c D A nL Qc mc ms (wd σ') cells slots lv rest (pc + 3)) : G p l e R s m args below meth c D A nL Qc mc ms (wd σ) cells slots lv st pc := by
  intro H locs ls hl hP hD hS
  obtain ⟨h2, h3, h4, h5, h6⟩ := hmv
  have hx := C0.1
  obtain ⟨hx, hb, hml, hown, hts, -, -, hN, hK⟩ := hx
  refine va_callv (va_runV (As := As) (rest := rest) (Ts := wG) (nL := nL) ⟨hx, hb, hml, hown, hts⟩ hM (cwV n hts (wG_gc hlink (wG_gc h2 (wG_gc h3 (wG_gc h4 (wG_gc h5 wG_gd))))) rfl hrm.1 hrm.2 h6 hR) ⟨PreW.blind, va_recv hK hP hc he, fun U hU hW => ⟨rfl, by rw [hU]; exact hP, va_K.moved hW.alike hK, hD, NW.warm hW hN⟩⟩ rfl hn hl.1 hst (by simpa [JFrame.monitorRoom] using hw) hdg hf) hS (fun _ _ h => h) (fun _ h => h) (fun u t H1 locs1 ht _ hp hB _ _ hS1 => ?_)
  subst hp
  exact k H1 locs1 ls hl (ht ▸ hB.1) hB.2 hS1
theorem metC_of {y : MethodName} {cc : ByteArray} {maxL : Nat} {rm : Room} {av : List Value} {wc : va_W} {sz : Nat} {post : (Nat → Nat) → Prop} {w1 : (Nat → Nat) → va_W} (hy : plainName y.cls = true) (hini : y.name = "<init>") (hle : (lg_sl av).length ≤ maxL)
    (h : ∀ (p : Program) (e : Env) (s : State) (m : MethodId) (below : List Frame) (meth : Method) (c : Code) (A : Nat → Prop), Cy D tys y.cls cc maxL p s m av.toArray meth c A → G p l e rm s m av.toArray below meth c D A maxL (QC D post w1 A) mc ms wc 0 0 (lv_args 0 av) [] 0) :
    Met l y (.code y cc maxL none :: wG) rm (PreC D tys av wc sz) (QC D post w1 (va_A wc sz)) mc ms (va_A wc sz) := by
  refine Met.ofW (cc := cc) (maxL := maxL) (ret := none) hy rfl ?_
  intro p e s m args below meth c s₁ B hml hv
  obtain ⟨rfl, hsz, hP, hK, hD0, hN⟩ := hv
  have hts := atoms_spec (ws := .code y cc maxL none :: wG) B.pre
  have hin : meth.name = "<init>" := (name_of_methodNamed B.named B.method).1.trans hini
  subst hsz
  have hD := hD0.self (sz := s.heap.size)
  have C0 : Cy D tys y.cls cc maxL p s m av.toArray meth c (va_A wc s.heap.size) := ⟨⟨B.exec, B.bytes, hml, findClass_of_methodNamed B.named, fun w hw => hts w (List.mem_cons_of_mem _ hw), B.returns, B.notSynchronized, hN, hK⟩, hin, fun q h => Or.inr h⟩
  have hl := lv_entry av (n := maxL) hle
  rw [lg_entry_eq]
  exact h p e s m below meth c _ C0 s.heap [] _ hl hP hD va_S.rf
end GR
section GN
variable {p : Program} {l : Launch} {e : Env} {R : Room} {s : State} {m : MethodId} {args : Array Value} {below : List Frame} {meth : Method} {c : Code} {D : va_G} {A : Nat → Prop} {nL : Nat} {Qc : Array Value → State → Outcome → State → Prop} {mc ms : Nat} {ws : va_W} {cells slots : Nat} {lv : List (Nat × Value)} {st : List Value} {pc : Nat}
theorem G_num {ws' : va_W} {cells' slots' : Nat} (h1 : ws = ws') (h2 : cells = cells') (h3 : slots = slots') (k : G p l e R s m args below meth c D A nL Qc mc ms ws' cells' slots' lv st pc) : G p l e R s m args below meth c D A nL Qc mc ms ws cells slots lv st pc := by
  subst h1; subst h2; subst h3; exact k
theorem G_sub {lv' : List (Nat × Value)} (ks : List Nat) (h : lv_pick lv ks = lv') (k : G p l e R s m args below meth c D A nL Qc mc ms ws cells slots lv' st pc) : G p l e R s m args below meth c D A nL Qc mc ms ws cells slots lv st pc := fun H locs ls hl hP hD hS => k H locs ls (lv_sub hl ks h) hP hD hS
end GN
theorem mx_nI {N : Nat} (h : N ≤ 1000 := by assumption) : (if (0 : Int32) < nI N then nI N else 0) = nI N := by
  by_cases h0 : N = 0
  · subst h0; rfl
  · rw [if_pos]
    have := nI_lt (a := 0) (b := N) (by omega) (by omega)
    rwa [nI_0] at this
