/-! THE CLAIM OUT OF ONE WALK OF THE LAW'S BODY. Your part is whole_start (and what it stands on); all else here is the same for every law, but numbers. -/
def R_law : String := "CrossedWordsLaw"
def lw_P (b : Addr) (xs : List Int32) (args : Array Value) (s : State) : Prop := args = #[.ref b] ∧ s.IntsAt b xs ∧ xs.length ≤ 2560 ∧ (Jvm.Cond.and given_1 narrow_1).before args s = true
def lw_Q (_ : Array Value) (s : State) (o : Outcome) (t : State) : Prop := o = .returned (some (.int 1)) ∧ Framed s o t [] 600000 7302250
def lw_Z (below : List Frame) (a : Array Value) (s : State) : State → Prop := fun t => ∃ o, t.status = .running ∧ Ended t below o ∧ lw_Q a s o t
/-- the law's own end, with 1 on the stack, nothing written that was there before, its room as the claim has it -/
theorem lw_ret {p : Program} {l : Launch} {e : Env} {s : State} {m : MethodId} {below : List Frame} {meth : Method} {c : Code} {b : Nat} (hx : p.tables.exec = Jvm.exec) (hb : c.code = code) (hr : meth.sig.returnType = ret) (hlocks : meth.locks = false) {pc : Nat} {H : Heap} {ls : Array Slot} (hdg : decode code pc = .ok (.ireturn, 1)) : W p l e room_1 s m #[Value.ref b] below meth c H [] 600000 7302250 (lw_Z below #[Value.ref b] s) (F0 m pc ls [.int 1]) := by
  intro T hT X
  obtain ⟨fs, hret, hrun, hended, hW, hframe⟩ := X.leave (v := some (.int 1)) (hlocks := hlocks) (fun h => by rw [hr] at h; cases h)
  have hmeth' : T.vm.method? m = some meth := X.method'
  refine ⟨T.setFrames fs, ?_, .returned (some (.int 1)), hrun, hended, rfl, ⟨_, rfl⟩, hW, hframe⟩
  jvm_step X.here [X.here.top, hx, hb, hdg, hmeth', hr, ret, narrow_b1]
  (try refine ⟨rfl, ?_⟩); (try refine ⟨rfl, ?_⟩)
  first | (intro acts; rw [hret _ acts rfl rfl rfl]) | rw [hret _ _ rfl rfl rfl]
  exact Steps.refl _
/-- what holds at the law's entry: the machine, the code, the tables' words (any of lw_tbl by 'hts w (by decide +kernel)'), the script of L ints xs at the cell b, what the Statement gives of the start (any of its parts by flat_of_before) -/
def lw_At (p : Program) (s : State) (m : MethodId) (meth : Method) (c : Code) (b L : Nat) (xs : Nat → Int32) : Prop :=
  p.tables.exec = Jvm.exec ∧ c.code = code ∧ meth.sig.returnType = ret ∧ c.maxLocals = 4 ∧ s.vm.findClass R_law = some m.cls ∧ (∀ w ∈ lw_tbl, w.before #[Value.ref b] s = true) ∧ va_X b L xs s s.heap ∧ b < s.heap.size ∧ meth.locks = false ∧ (Jvm.Cond.and given_1 narrow_1).before #[Value.ref b] s = true
def AC (ad : Nat → Nat) (q : Nat) : Prop := ∃ k, k < 41 ∧ q = ad k
def AR (ad : Nat → Nat) (q : Nat) : Prop := ∃ k, k < 10 ∧ q = ad k
theorem D_map {A : Nat → Prop} {w1 w2 : va_W} (h : w1.map Prod.fst = w2.map Prod.fst) (hD : va_D A w1) : va_D A w2 := by
  have key : ∀ (k : Nat) (q : Nat × va_E), w2[k]? = some q → ∃ e, w1[k]? = some (q.1, e) := by
    intro k q hk
    have h1 : (w2.map Prod.fst)[k]? = some q.1 := by rw [List.getElem?_map, hk]; rfl
    rw [← h, List.getElem?_map] at h1
    cases h2 : w1[k]? with
    | none => rw [h2] at h1; cases h1
    | some x =>
      rw [h2] at h1
      have h3 : x.1 = q.1 := Option.some.inj h1
      exact ⟨x.2, by rw [← h3]⟩
  constructor
  · intro i j a b ha hb hab
    obtain ⟨e1, h1⟩ := key i a ha
    obtain ⟨e2, h2⟩ := key j b hb
    exact hD.1 i j _ _ h1 h2 hab
  · intro k q hk
    obtain ⟨e1, h1⟩ := key k q hk
    exact hD.2 k (q.1, e1) h1
/-- what the law's body stands on: the machine, the two systems' cells apart -/
def CL (D : va_G) (cI cZ : ClassId) (ad ad2 : Nat → Nat) (p : Program) (s : State) (m : MethodId) (b L : Nat) (xs : Nat → Int32) (meth : Method) (c : Code) : Prop :=
  p.tables.exec = Jvm.exec ∧ c.code = code ∧ c.maxLocals = 4 ∧ s.vm.findClass RL = some m.cls ∧ (∀ w ∈ wG, w.before #[Value.ref b] s = true) ∧ meth.sig.returnType = ret ∧ meth.locks = false ∧ NW s ∧ va_K D vwCl (tyA cI cZ) s ∧ va_X b L xs s s.heap ∧ b < s.heap.size ∧ (∀ σ, va_D (AC ad) (wC ad cI σ)) ∧ (∀ τ, va_D (AR ad2) (wR ad2 cI cZ τ)) ∧ (∀ q, AC ad q → ¬ AR ad2 q) ∧ (∀ q, AC ad q → s.heap.size ≤ q) ∧ (∀ q, AR ad2 q → s.heap.size ≤ q)
def JL (p : Program) (l : Launch) (e : Env) (s : State) (m : MethodId) (b : Nat) (below : List Frame) (meth : Method) (c : Code) (D : va_G) (cI cZ : ClassId) (ad ad2 : Nat → Nat) (σ : SC) (τ : SR) (lv : List (Nat × Value)) (st : List Value) (pc : Nat) : Prop :=
  ∀ (H : Heap) (locs : List Loc) (ls : Array Slot), lv_has ls 4 lv → va_P D vwCl (wC ad cI σ) H → va_P D vwCl (wR ad2 cI cZ τ) H → va_S (fun q => s.heap.size ≤ q) s.heap H locs → W p l e room_1 s m #[Value.ref b] below meth c H locs 51 1273 (lw_Z below #[Value.ref b] s) (F0 m pc ls st)
section LR
variable {p : Program} {l : Launch} {e : Env} {s : State} {m : MethodId} {b L : Nat} {xs : Nat → Int32} {below : List Frame} {meth : Method} {c : Code} {D : va_G} {cI cZ : ClassId} {ad ad2 : Nat → Nat} {σ σ' : SC} {τ τ' : SR} {lv : List (Nat × Value)} {st rest : List Value} {pc : Nat}

theorem JL_aload_n (C0 : CL D cI cZ ad ad2 p s m b L xs meth c) {j : Fin 4} (q : Nat) {i x : Nat} (hdg : decode code pc = .ok (.aload_n j, 1)) (hi : (j : Nat) = i) (hq : lv[q]? = some (i, .ref x)) (k : JL p l e s m b below meth c D cI cZ ad ad2 σ τ lv (.ref x :: st) (pc + 1)) : JL p l e s m b below meth c D cI cZ ad ad2 σ τ lv st pc := fun H locs ls hl h1 h2 hS => lv_aload_n C0.1 C0.2.1 hdg hi (lv_at hl q hq) (k H locs ls hl h1 h2 hS)
theorem JL_iload_n (C0 : CL D cI cZ ad ad2 p s m b L xs meth c) {j : Fin 4} (q : Nat) {i : Nat} {x : Int32} (hdg : decode code pc = .ok (.iload_n j, 1)) (hi : (j : Nat) = i) (hq : lv[q]? = some (i, .int x)) (k : JL p l e s m b below meth c D cI cZ ad ad2 σ τ lv (.int x :: st) (pc + 1)) : JL p l e s m b below meth c D cI cZ ad ad2 σ τ lv st pc := fun H locs ls hl h1 h2 hS => lv_iload_n C0.1 C0.2.1 hdg hi (lv_at hl q hq) (k H locs ls hl h1 h2 hS)
theorem JL_iconst (C0 : CL D cI cZ ad ad2 p s m b L xs meth c) {n : Int} {v : Int32} (hdg : decode code pc = .ok (.iconst n, 1)) (hv : Int32.ofInt n = v) (k : JL p l e s m b below meth c D cI cZ ad ad2 σ τ lv (.int v :: st) (pc + 1)) : JL p l e s m b below meth c D cI cZ ad ad2 σ τ lv st pc := fun H locs ls hl h1 h2 hS => lv_iconst C0.1 C0.2.1 hdg hv (k H locs ls hl h1 h2 hS)
theorem JL_bipush (C0 : CL D cI cZ ad ad2 p s m b L xs meth c) {n : Int} {v : Int32} (hdg : decode code pc = .ok (.bipush n, 2)) (hv : (Int8.ofInt n).toInt32 = v) (k : JL p l e s m b below meth c D cI cZ ad ad2 σ τ lv (.int v :: st) (pc + 2)) : JL p l e s m b below meth c D cI cZ ad ad2 σ τ lv st pc := fun H locs ls hl h1 h2 hS => lv_bipush C0.1 C0.2.1 hdg hv (k H locs ls hl h1 h2 hS)
theorem JL_iadd (C0 : CL D cI cZ ad ad2 p s m b L xs meth c) {x y : Int32} (hdg : decode code pc = .ok (.iadd, 1))  (k : JL p l e s m b below meth c D cI cZ ad ad2 σ τ lv (.int (x + y) :: st) (pc + 1)) : JL p l e s m b below meth c D cI cZ ad ad2 σ τ lv (.int y :: .int x :: st) pc := fun H locs ls hl h1 h2 hS => lv_iadd C0.1 C0.2.1 hdg (k H locs ls hl h1 h2 hS)
theorem JL_isub (C0 : CL D cI cZ ad ad2 p s m b L xs meth c) {x y : Int32} (hdg : decode code pc = .ok (.isub, 1))  (k : JL p l e s m b below meth c D cI cZ ad ad2 σ τ lv (.int (x - y) :: st) (pc + 1)) : JL p l e s m b below meth c D cI cZ ad ad2 σ τ lv (.int y :: .int x :: st) pc := fun H locs ls hl h1 h2 hS => lv_isub C0.1 C0.2.1 hdg (k H locs ls hl h1 h2 hS)
theorem JL_iand (C0 : CL D cI cZ ad ad2 p s m b L xs meth c) {x y : Int32} (hdg : decode code pc = .ok (.iand, 1))  (k : JL p l e s m b below meth c D cI cZ ad ad2 σ τ lv (.int (x &&& y) :: st) (pc + 1)) : JL p l e s m b below meth c D cI cZ ad ad2 σ τ lv (.int y :: .int x :: st) pc := fun H locs ls hl h1 h2 hS => lv_iand C0.1 C0.2.1 hdg (k H locs ls hl h1 h2 hS)
theorem JL_slen (C0 : CL D cI cZ ad ad2 p s m b L xs meth c)  (hdg : decode code pc = .ok (.arraylength, 1))  (k : JL p l e s m b below meth c D cI cZ ad ad2 σ τ lv (.int (nI L) :: st) (pc + 1)) : JL p l e s m b below meth c D cI cZ ad ad2 σ τ lv (.ref b :: st) pc := fun H locs ls hl h1 h2 hS => va_slen (A := fun q => s.heap.size ≤ q) C0.1 C0.2.1 C0.2.2.2.2.2.2.2.2.2.1 C0.2.2.2.2.2.2.2.2.2.2.1 (Nat.not_le.mpr C0.2.2.2.2.2.2.2.2.2.2.1) hS hdg (k H locs ls hl h1 h2 hS)
theorem JL_sld (C0 : CL D cI cZ ad ad2 p s m b L xs meth c) {i : Int32} (hdg : decode code pc = .ok (.iaload, 1)) (hin : vp_in i L) (k : JL p l e s m b below meth c D cI cZ ad ad2 σ τ lv (.int (xs (ix i)) :: st) (pc + 1)) : JL p l e s m b below meth c D cI cZ ad ad2 σ τ lv (.int i :: .ref b :: st) pc := fun H locs ls hl h1 h2 hS => va_sld (A := fun q => s.heap.size ≤ q) C0.1 C0.2.1 C0.2.2.2.2.2.2.2.2.2.1 C0.2.2.2.2.2.2.2.2.2.2.1 (Nat.not_le.mpr C0.2.2.2.2.2.2.2.2.2.2.1) hS hin hdg (k H locs ls hl h1 h2 hS)
theorem JL_goto (C0 : CL D cI cZ ad ad2 p s m b L xs meth c) {off : Int} {tgt : Nat} (hdg : decode code pc = .ok (.goto off, 3)) (ht : (pc : Int) + off = (tgt : Int)) (k : JL p l e s m b below meth c D cI cZ ad ad2 σ τ lv st tgt) : JL p l e s m b below meth c D cI cZ ad ad2 σ τ lv st pc := fun H locs ls hl h1 h2 hS => lv_goto C0.1 C0.2.1 hdg ht (k H locs ls hl h1 h2 hS)
theorem JL_icmp_gt (C0 : CL D cI cZ ad ad2 p s m b L xs meth c) {x y : Int32} {off : Int} {tgt : Nat} (hdg : decode code pc = .ok (.if_icmp .gt off, 3)) (ht : (pc : Int) + off = (tgt : Int)) (kt : y < x → JL p l e s m b below meth c D cI cZ ad ad2 σ τ lv st tgt) (kf : ¬ y < x → JL p l e s m b below meth c D cI cZ ad ad2 σ τ lv st (pc + 3)) : JL p l e s m b below meth c D cI cZ ad ad2 σ τ lv (.int y :: .int x :: st) pc := fun H locs ls hl h1 h2 hS => lv_icmp_gt C0.1 C0.2.1 hdg ht (fun h => kt h H locs ls hl h1 h2 hS) (fun h => kf h H locs ls hl h1 h2 hS)
theorem JL_same (C0 : CL D cI cZ ad ad2 p s m b L xs meth c) {x : Int32} {off : Int} {tgt : Nat} (hdg : decode code pc = .ok (.if_icmp .eq off, 3)) (ht : (pc : Int) + off = (tgt : Int)) (kt : JL p l e s m b below meth c D cI cZ ad ad2 σ τ lv st tgt) : JL p l e s m b below meth c D cI cZ ad ad2 σ τ lv (.int x :: .int x :: st) pc := fun H locs ls hl h1 h2 hS => lv_icmp_eq C0.1 C0.2.1 hdg ht (fun _ => kt H locs ls hl h1 h2 hS) (fun h => absurd rfl h)
theorem JL_tblIn (C0 : CL D cI cZ ad ad2 p s m b L xs meth c) {dflt lo hi : Int} {offs : Array Int} {len : Nat} {x v : Int32} {off : Int} {tgt : Nat} (hdg : decode code pc = .ok (.tableswitch dflt lo hi offs, len)) (hx : x = v) (h1 : ¬ v.toInt < lo) (h2 : ¬ hi < v.toInt) (ho : offs[(v.toInt - lo).toNat]? = some off) (ht : (pc : Int) + off = (tgt : Int)) (k : JL p l e s m b below meth c D cI cZ ad ad2 σ τ lv st tgt) : JL p l e s m b below meth c D cI cZ ad ad2 σ τ lv (.int x :: st) pc := by
  subst hx
  exact fun H locs ls hl g1 g2 hS => lv_tableIn C0.1 C0.2.1 hdg h1 h2 ho ht (k H locs ls hl g1 g2 hS)
theorem JL_tblOut (C0 : CL D cI cZ ad ad2 p s m b L xs meth c) {dflt lo hi : Int} {offs : Array Int} {len : Nat} {x : Int32} {tgt : Nat} (hdg : decode code pc = .ok (.tableswitch dflt lo hi offs, len)) (h : x.toInt < lo ∨ hi < x.toInt) (ht : (pc : Int) + dflt = (tgt : Int)) (k : JL p l e s m b below meth c D cI cZ ad ad2 σ τ lv st tgt) : JL p l e s m b below meth c D cI cZ ad ad2 σ τ lv (.int x :: st) pc := fun H locs ls hl h1 h2 hS => lv_tableOut C0.1 C0.2.1 hdg h ht (k H locs ls hl h1 h2 hS)
theorem JL_iinc (C0 : CL D cI cZ ad ad2 p s m b L xs meth c) {i : Nat} (q : Nat) {n : Int} {x d : Int32} {lv' : List (Nat × Value)} (hdg : decode code pc = .ok (.iinc i n, 3)) (hq : lv[q]? = some (i, .int x)) (hv : Int32.ofInt n = d) (hn : i < 4) (hlv : (i, Value.int (x + d)) :: lv.filter (fun q => !(q.1 == i) && !(q.1 + 1 == i && q.2.category == 2)) = lv') (k : JL p l e s m b below meth c D cI cZ ad ad2 σ τ lv' st (pc + 3)) : JL p l e s m b below meth c D cI cZ ad ad2 σ τ lv st pc := fun H locs ls hl h1 h2 hS => lv_iinc C0.1 C0.2.1 hdg hl hq (by rw [hv]) hn hlv (fun ls' hl' => k H locs ls' hl' h1 h2 hS)
theorem JL_sub {lv' : List (Nat × Value)} (ks : List Nat) (h : lv_pick lv ks = lv') (k : JL p l e s m b below meth c D cI cZ ad ad2 σ τ lv' st pc) : JL p l e s m b below meth c D cI cZ ad ad2 σ τ lv st pc := fun H locs ls hl h1 h2 hS => k H locs ls (lv_sub hl ks h) h1 h2 hS
theorem JL_ret (C0 : CL D cI cZ ad ad2 p s m b L xs meth c) (hdg : decode code pc = .ok (.ireturn, 1)) : JL p l e s m b below meth c D cI cZ ad ad2 σ τ lv [.int 1] pc := fun H locs ls hl h1 h2 hS => by
  refine va_forget (fun q hq => hS.2.2 q hq) ?_
  refine W.widen (k := 600000) (n := 7302250) (Nat.le_of_ble_eq_true rfl) (Nat.le_of_ble_eq_true rfl) ?_
  exact lw_ret C0.1 C0.2.1 C0.2.2.2.2.2.1 C0.2.2.2.2.2.2.1 hdg
theorem JL_callC (C0 : CL D cI cZ ad ad2 p s m b L xs meth c) {r : Int32} {C : String} {y : MethodName} {bytes : ByteArray} {maxL n index ci q0 b0 N : Nat} {T : u_T} {fs : List Value} {ret : Option FieldType} {rm : Room} {As : List Value} (hM : Met l y (.code y bytes maxL ret :: wG) rm (PreW D (tyA cI cZ) (AC ad) (wC ad cI) (.ref b0 :: As) σ) (QI D (AC ad) (wC ad cI) (r, σ')) 0 0 (AC ad)) (hmv : MV C y bytes maxL ret n) (hlink : Cond.methodLink RL index y ∈ wG) (he : ((wC ad cI) σ)[q0]? = some (b0, .inr (ci, fs))) (hc : vwCl[ci]? = some (C, T, N)) (hn : As.length = n) (hrm : rm.cells = 0 ∧ rm.slots = 0) (hR : rm.frames + 1 ≤ room_1.frames ∧ 8 + (maxL + 11) + rm.locals ≤ room_1.locals) (hst : st = As.reverse ++ .ref b0 :: rest) (hw : (rest.map fun v => v.category).sum ≤ 8) (hdg : decode code pc = .ok (.invokevirtual index, 3)) (k : JL p l e s m b below meth c D cI cZ ad ad2 σ' τ lv (.int r :: rest) (pc + 3)) : JL p l e s m b below meth c D cI cZ ad ad2 σ τ lv st pc := by
  intro H locs ls hl h1 h2 hS
  obtain ⟨g2, g3, g4, g5, g6⟩ := hmv
  have hts := C0.2.2.2.2.1
  have hK := C0.2.2.2.2.2.2.2.2.1
  refine va_calli (va_runV (As := As) (rest := rest) (Ts := wG) (nL := 4) ⟨C0.1, C0.2.1, C0.2.2.1, C0.2.2.2.1, hts⟩ hM (cwV n hts (wG_gc hlink (wG_gc g2 (wG_gc g3 (wG_gc g4 (wG_gc g5 wG_gd))))) rfl hrm.1 hrm.2 g6 hR) ⟨PreW.blind, va_recv hK h1 hc he, fun U hU hW => ⟨rfl, by rw [hU]; exact h1, va_K.moved hW.alike hK, C0.2.2.2.2.2.2.2.2.2.2.2.1 σ, NW.warm hW C0.2.2.2.2.2.2.2.1⟩⟩ rfl hn hl.1 hst (by simpa [JFrame.monitorRoom] using hw) hdg ⟨Nat.le_of_ble_eq_true rfl, Nat.le_of_ble_eq_true rfl⟩) hS (fun q _ h => C0.2.2.2.2.2.2.2.2.2.2.2.2.2.2.1 q h) C0.2.2.2.2.2.2.2.2.2.2.2.2.2.2.1 (fun v u t H1 locs1 ht _ hp hB hz hk hS1 => ?_)
  obtain ⟨rfl, rfl⟩ := hp
  have hk2 : va_P D vwCl ((wR ad2 cI cZ) τ) H1 := h2.kept (fun i q hq => hk q.1 ((h2 i q hq).lt) (fun ha => ((fun q a b => C0.2.2.2.2.2.2.2.2.2.2.2.2.2.1 q b a) q.1 ((C0.2.2.2.2.2.2.2.2.2.2.2.2.1 τ).2 i q hq) ha)))
  exact k H1 locs1 ls hl (ht ▸ hB.1) hk2 hS1
theorem JL_callR (C0 : CL D cI cZ ad ad2 p s m b L xs meth c) {r : Int32} {C : String} {y : MethodName} {bytes : ByteArray} {maxL n index ci q0 b0 N : Nat} {T : u_T} {fs : List Value} {ret : Option FieldType} {rm : Room} {As : List Value} (hM : Met l y (.code y bytes maxL ret :: wG) rm (PreW D (tyA cI cZ) (AR ad2) (wR ad2 cI cZ) (.ref b0 :: As) τ) (QI D (AR ad2) (wR ad2 cI cZ) (r, τ')) 0 0 (AR ad2)) (hmv : MV C y bytes maxL ret n) (hlink : Cond.methodLink RL index y ∈ wG) (he : ((wR ad2 cI cZ) τ)[q0]? = some (b0, .inr (ci, fs))) (hc : vwCl[ci]? = some (C, T, N)) (hn : As.length = n) (hrm : rm.cells = 0 ∧ rm.slots = 0) (hR : rm.frames + 1 ≤ room_1.frames ∧ 8 + (maxL + 11) + rm.locals ≤ room_1.locals) (hst : st = As.reverse ++ .ref b0 :: rest) (hw : (rest.map fun v => v.category).sum ≤ 8) (hdg : decode code pc = .ok (.invokevirtual index, 3)) (k : JL p l e s m b below meth c D cI cZ ad ad2 σ τ' lv (.int r :: rest) (pc + 3)) : JL p l e s m b below meth c D cI cZ ad ad2 σ τ lv st pc := by
  intro H locs ls hl h1 h2 hS
  obtain ⟨g2, g3, g4, g5, g6⟩ := hmv
  have hts := C0.2.2.2.2.1
  have hK := C0.2.2.2.2.2.2.2.2.1
  refine va_calli (va_runV (As := As) (rest := rest) (Ts := wG) (nL := 4) ⟨C0.1, C0.2.1, C0.2.2.1, C0.2.2.2.1, hts⟩ hM (cwV n hts (wG_gc hlink (wG_gc g2 (wG_gc g3 (wG_gc g4 (wG_gc g5 wG_gd))))) rfl hrm.1 hrm.2 g6 hR) ⟨PreW.blind, va_recv hK h2 hc he, fun U hU hW => ⟨rfl, by rw [hU]; exact h2, va_K.moved hW.alike hK, C0.2.2.2.2.2.2.2.2.2.2.2.2.1 τ, NW.warm hW C0.2.2.2.2.2.2.2.1⟩⟩ rfl hn hl.1 hst (by simpa [JFrame.monitorRoom] using hw) hdg ⟨Nat.le_of_ble_eq_true rfl, Nat.le_of_ble_eq_true rfl⟩) hS (fun q _ h => C0.2.2.2.2.2.2.2.2.2.2.2.2.2.2.2 q h) C0.2.2.2.2.2.2.2.2.2.2.2.2.2.2.2 (fun v u t H1 locs1 ht _ hp hB hz hk hS1 => ?_)
  obtain ⟨rfl, rfl⟩ := hp
  have hk2 : va_P D vwCl ((wC ad cI) σ) H1 := h1.kept (fun i q hq => hk q.1 ((h1 i q hq).lt) (fun ha => ((fun q a b => C0.2.2.2.2.2.2.2.2.2.2.2.2.2.1 q a b) q.1 ((C0.2.2.2.2.2.2.2.2.2.2.2.1 σ).2 i q hq) ha)))
  exact k H1 locs1 ls hl hk2 (ht ▸ hB.1) hS1
end LR
