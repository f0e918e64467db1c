/-! one list of words for every contract; the nest words beside it -/
def wG : List Cond := lw_tbl.filter goodWord
theorem wG_in {w : Cond} (h : w ∈ lw_tbl) (hg : goodWord w = true) : w ∈ wG := List.mem_filter.mpr ⟨h, hg⟩
theorem wG_t1 {w : Cond} (k : Nat) (h : tables_1_1[k]? = some w) (hg : goodWord w = true) : w ∈ wG := wG_in (List.mem_append_right _ (List.mem_append_left _ (List.mem_of_getElem? h))) hg
theorem wG_t2 {w : Cond} (k : Nat) (h : tables_1_2[k]? = some w) (hg : goodWord w = true) : w ∈ wG := wG_in (List.mem_append_right _ (List.mem_append_right _ (List.mem_append_left _ (List.mem_of_getElem? h)))) hg
theorem wG_t3 {w : Cond} (k : Nat) (h : tables_1_3[k]? = some w) (hg : goodWord w = true) : w ∈ wG := wG_in (List.mem_append_right _ (List.mem_append_right _ (List.mem_append_right _ (List.mem_append_left _ (List.mem_of_getElem? h))))) hg
theorem wG_t4 {w : Cond} (k : Nat) (h : tables_1_4[k]? = some w) (hg : goodWord w = true) : w ∈ wG := wG_in (List.mem_append_right _ (List.mem_append_right _ (List.mem_append_right _ (List.mem_append_right _ (List.mem_of_getElem? h))))) hg
theorem wG_s {q : MethodName × Nat} (h : q ∈ lw_privs) : Cond.selects q.1.cls q.1 q.1 ∈ wG := wG_in (List.mem_append_left _ (List.mem_map.mpr ⟨q, h, rfl⟩)) rfl
theorem wG_s1 {q : MethodName × Nat} (k : Nat) (h : lw_privs_1[k]? = some q) : Cond.selects q.1.cls q.1 q.1 ∈ wG := wG_s (List.mem_append_left _ (List.mem_of_getElem? h))
theorem wG_s2 {q : MethodName × Nat} (k : Nat) (h : lw_privs_2[k]? = some q) : Cond.selects q.1.cls q.1 q.1 ∈ wG := wG_s (List.mem_append_right _ (List.mem_append_left _ (List.mem_of_getElem? h)))
theorem wG_s3 {q : MethodName × Nat} (k : Nat) (h : lw_privs_3[k]? = some q) : Cond.selects q.1.cls q.1 q.1 ∈ wG := wG_s (List.mem_append_right _ (List.mem_append_right _ (List.mem_append_left _ (List.mem_of_getElem? h))))
theorem wG_s4 {q : MethodName × Nat} (k : Nat) (h : lw_privs_4[k]? = some q) : Cond.selects q.1.cls q.1 q.1 ∈ wG := wG_s (List.mem_append_right _ (List.mem_append_right _ (List.mem_append_right _ (List.mem_of_getElem? h))))
theorem wG_gd : GoodIn wG wG := fun _ h => ⟨h, good_of_word (List.mem_filter.mp h).2⟩
theorem wG_gc {w : Cond} {ws : List Cond} (h : w ∈ wG) (hw : GoodIn wG ws) : GoodIn wG (w :: ws) := fun v hv => (List.mem_cons.mp hv).elim (fun e => e ▸ wG_gd w h) (hw v)
def isNest : Cond → Bool
  | .fieldLinkNest .. => true
  | .methodLinkNest .. => true
  | _ => false
def wN : List Cond := tables_1.filter isNest
def NW (U : State) : Prop := ∀ w ∈ wN, va_Nw w U
theorem wN_t1 {w : Cond} (k : Nat) (h : tables_1_1[k]? = some w) (hg : isNest w = true) : w ∈ wN := List.mem_filter.mpr ⟨List.mem_append_left _ (List.mem_of_getElem? h), hg⟩
theorem wN_t2 {w : Cond} (k : Nat) (h : tables_1_2[k]? = some w) (hg : isNest w = true) : w ∈ wN := List.mem_filter.mpr ⟨List.mem_append_right _ (List.mem_append_left _ (List.mem_of_getElem? h)), hg⟩
theorem wN_t3 {w : Cond} (k : Nat) (h : tables_1_3[k]? = some w) (hg : isNest w = true) : w ∈ wN := List.mem_filter.mpr ⟨List.mem_append_right _ (List.mem_append_right _ (List.mem_append_left _ (List.mem_of_getElem? h))), hg⟩
theorem wN_t4 {w : Cond} (k : Nat) (h : tables_1_4[k]? = some w) (hg : isNest w = true) : w ∈ wN := List.mem_filter.mpr ⟨List.mem_append_right _ (List.mem_append_right _ (List.mem_append_right _ (List.mem_of_getElem? h))), hg⟩
theorem NW.warm {s U : State} (hW : s.WarmedH U.vm) (h : NW s) : NW U := by
  intro w hw
  have h1 := h w hw
  have h2 := (List.mem_filter.mp hw).2
  cases w <;> first | exact va_Nw.warmF hW h1 | exact va_Nw.warmM hW h1 | (exact absurd h2 (by decide)) | (exact absurd h2 Bool.false_ne_true)
theorem NW.same {u U : State} (h : u.vm = U.vm) (hZ : NW u) : NW U := by
  intro w hw
  have h1 := hZ w hw
  have h2 := (List.mem_filter.mp hw).2
  cases w <;> first | exact va_Nw.same rfl h h1 | (exact absurd h2 (by decide)) | (exact absurd h2 Bool.false_ne_true)
def Rm (k : Nat) : Room := { frames := k, cells := 0, slots := 0, locals := 40 * k }
theorem Rm_ok {j k maxL : Nat} (h : j + 1 ≤ k) (hm : maxL ≤ 21) : (Rm j).frames + 1 ≤ (Rm k).frames ∧ 8 + (maxL + 11) + (Rm j).locals ≤ (Rm k).locals := by
  constructor
  · exact h
  · show 8 + (maxL + 11) + 40 * j ≤ 40 * k
    omega
/-- an index in its bounds, as a truth value -/
def inb (i : Int32) (n : Nat) : Bool := decide (¬ (i < 0 ∨ n ≤ i.toNatClampNeg))
theorem inb_in {i : Int32} {n : Nat} (h : inb i n = true) : vp_in i n := of_decide_eq_true (p := ¬ (i < 0 ∨ n ≤ i.toNatClampNeg)) h
abbrev ix (i : Int32) : Nat := i.toNatClampNeg
/-- a pair handed on -/
def bnd {α S ρ : Type} (G : Option (α × S)) (K : α → S → Option ρ) : Option ρ := G.bind (fun q => K q.1 q.2)
/-- as often as any loop can need -/
def FU : Nat := 1000000000000000000
section PW
variable {S : Type}
def PreW (D : va_G) (tys : List (ClassId × FieldType)) (A : Nat → Prop) (wd : S → va_W) (av : List Value) (σ : S) : Array Value → State → Prop := va_Pc av (fun U => va_P D vwCl (wd σ) U.heap ∧ va_K D vwCl tys U ∧ va_D A (wd σ) ∧ NW U)
def QI (D : va_G) (A : Nat → Prop) (wd : S → va_W) (r : Int32 × S) : Array Value → State → Outcome → State → Prop := va_Qi (fun a u => a = r.1 ∧ u = r.2) (fun u t => va_P D vwCl (wd u) t.heap ∧ va_D A (wd u)) A
def QL (D : va_G) (A : Nat → Prop) (wd : S → va_W) (r : Int64 × S) : Array Value → State → Outcome → State → Prop := va_Ql (fun a u => a = r.1 ∧ u = r.2) (fun u t => va_P D vwCl (wd u) t.heap ∧ va_D A (wd u)) A
def QV (D : va_G) (A : Nat → Prop) (wd : S → va_W) (r : S) : Array Value → State → Outcome → State → Prop := va_Qv (fun u => u = r) (fun u t => va_P D vwCl (wd u) t.heap ∧ va_D A (wd u)) A
theorem PreW.blind {D : va_G} {tys : List (ClassId × FieldType)} {A : Nat → Prop} {wd : S → va_W} {av : List Value} {σ : S} : FrameBlind (PreW D tys A wd av σ) := by
  intro a U g mk h
  obtain ⟨h1, h2, h3, h4, h5⟩ := h
  exact ⟨h1, h2, va_K.moved (u := U) (U := U.calling g mk a) (Vm.Alike.refl U.vm) h3, h4, NW.same (u := U) (U := U.calling g mk a) rfl h5⟩
end PW
def MV (C : String) (y : MethodName) (bytes : ByteArray) (maxL : Nat) (ret : Option FieldType) (n : Nat) : Prop := Cond.instanceMethod y ∈ wG ∧ Cond.selects C y y ∈ wG ∧ Cond.initialized C ∈ wG ∧ Cond.code y bytes maxL ret ∈ wG ∧ y.cls = C ∧ y.cls ≠ "java/lang/invoke/MethodHandle" ∧ y.cls ≠ "java/lang/invoke/VarHandle" ∧ (parseMethodDescriptor y.desc).map (fun d => d.parameters.length) = some n
def MS (y : MethodName) (bytes : ByteArray) (maxL : Nat) (ret : Option FieldType) (n : Nat) : Prop := Cond.static y ∈ wG ∧ Cond.initialized y.cls ∈ wG ∧ Cond.code y bytes maxL ret ∈ wG ∧ y.cls ≠ "java/lang/invoke/MethodHandle" ∧ y.cls ≠ "java/lang/invoke/VarHandle" ∧ (parseMethodDescriptor y.desc).map (fun d => d.parameters.length) = some n
/-- what a method's body stands on -/
def Cx (D : va_G) (tys : List (ClassId × FieldType)) (own : String) (cc : ByteArray) (nL : Nat) (rt : Option FieldType) (p : Program) (s : State) (m : MethodId) (args : Array Value) (meth : Method) (c : Code) : Prop :=
  p.tables.exec = Jvm.exec ∧ c.code = cc ∧ c.maxLocals = nL ∧ s.vm.findClass own = some m.cls ∧ (∀ w ∈ wG, w.before args s = true) ∧ meth.sig.returnType = rt ∧ meth.locks = false ∧ NW s ∧ va_K D vwCl tys s
/-- from this point on the method ends as the pure text M says -/
def J {S ρ : Type} (p : Program) (l : Launch) (e : Env) (R : Room) (s : State) (m : MethodId) (args : Array Value) (below : List Frame) (meth : Method) (c : Code) (D : va_G) (A : Nat → Prop) (wd : S → va_W) (nL : Nat) (Qc : ρ → Array Value → State → Outcome → State → Prop) (M : Option ρ) (σ : S) (lv : List (Nat × Value)) (st : List Value) (pc : Nat) : Prop :=
  ∀ r, M = some r → ∀ (H : Heap) (locs : List Loc) (ls : Array Slot), lv_has ls nL lv → va_P D vwCl (wd σ) H → va_D A (wd σ) → va_S A s.heap H locs → W p l e R s m args below meth c H locs 0 0 (MQ below (Qc r) args s 0 0 A) (F0 m pc ls st)
section JR
variable {S ρ : Type} {p : Program} {l : Launch} {e : Env} {R : Room} {s : State} {m : MethodId} {args : Array Value} {below : List Frame} {meth : Method} {c : Code} {D : va_G} {tys : List (ClassId × FieldType)} {A : Nat → Prop} {wd : S → va_W} {nL : Nat} {Qc : ρ → Array Value → State → Outcome → State → Prop} {M M1 M2 : Option ρ} {σ : S} {lv : List (Nat × Value)} {st rest : List Value} {pc : Nat} {own : String} {cc : ByteArray} {rt : Option FieldType}
theorem J_none : J p l e R s m args below meth c D A wd nL Qc none σ lv st pc := fun _ hr => by cases hr
theorem J_if {q : Prop} {dq : Decidable q} (kt : q → J p l e R s m args below meth c D A wd nL Qc M1 σ lv st pc) (kf : ¬ q → J p l e R s m args below meth c D A wd nL Qc M2 σ lv st pc) : J p l e R s m args below meth c D A wd nL Qc (if q then M1 else M2) σ lv st pc := by
  intro r hr
  by_cases h : q
  · exact kt h r (by rwa [if_pos h] at hr)
  · exact kf h r (by rwa [if_neg h] at hr)
theorem J_eq {M' : Option ρ} (h : M = M') (k : J p l e R s m args below meth c D A wd nL Qc M' σ lv st pc) : J p l e R s m args below meth c D A wd nL Qc M σ lv st pc := h ▸ k
theorem J_sub {lv' : List (Nat × Value)} (ks : List Nat) (h : lv_pick lv ks = lv') (k : J p l e R s m args below meth c D A wd nL Qc M σ lv' st pc) : J p l e R s m args below meth c D A wd nL Qc M σ lv st pc := fun r hr H locs ls hl hP hD hS => k r hr H locs ls (lv_sub hl ks h) hP hD hS
theorem J_iconst (C0 : Cx D tys own cc nL rt p s m args meth c) {n : Int} {v : Int32} (hdg : decode cc pc = .ok (.iconst n, 1)) (hv : Int32.ofInt n = v)
    (k : J p l e R s m args below meth c D A wd nL Qc M σ lv (.int v :: st) (pc + 1)) : J p l e R s m args below meth c D A wd nL Qc M σ lv st pc := fun r hr H locs ls hl hP hD hS => lv_iconst C0.1 C0.2.1 hdg hv (k r hr H locs ls hl hP hD hS)
theorem J_bipush (C0 : Cx D tys own cc nL rt p s m args meth c) {n : Int} {v : Int32} (hdg : decode cc pc = .ok (.bipush n, 2)) (hv : (Int8.ofInt n).toInt32 = v)
    (k : J p l e R s m args below meth c D A wd nL Qc M σ lv (.int v :: st) (pc + 2)) : J p l e R s m args below meth c D A wd nL Qc M σ lv st pc := fun r hr H locs ls hl hP hD hS => lv_bipush C0.1 C0.2.1 hdg hv (k r hr H locs ls hl hP hD hS)
theorem J_sipush (C0 : Cx D tys own cc nL rt p s m args meth c) {n : Int} {v : Int32} (hdg : decode cc pc = .ok (.sipush n, 3)) (hv : (Int16.ofInt n).toInt32 = v)
    (k : J p l e R s m args below meth c D A wd nL Qc M σ lv (.int v :: st) (pc + 3)) : J p l e R s m args below meth c D A wd nL Qc M σ lv st pc := fun r hr H locs ls hl hP hD hS => lv_sipush C0.1 C0.2.1 hdg hv (k r hr H locs ls hl hP hD hS)
theorem J_ldc (C0 : Cx D tys own cc nL rt p s m args meth c) {index : Nat} {v : Int32} (hw : Cond.constant own index v ∈ wG) (hdg : decode cc pc = .ok (.ldc index, 2)) (k : J p l e R s m args below meth c D A wd nL Qc M σ lv (.int v :: st) (pc + 2)) : J p l e R s m args below meth c D A wd nL Qc M σ lv st pc := fun r hr H locs ls hl hP hD hS => lv_ldc C0.1 C0.2.1 C0.2.2.2.1 (C0.2.2.2.2.1 _ hw) hdg (k r hr H locs ls hl hP hD hS)
theorem J_ldcw (C0 : Cx D tys own cc nL rt p s m args meth c) {index : Nat} {v : Int32} (hw : Cond.constant own index v ∈ wG) (hdg : decode cc pc = .ok (.ldc_w index, 3)) (k : J p l e R s m args below meth c D A wd nL Qc M σ lv (.int v :: st) (pc + 3)) : J p l e R s m args below meth c D A wd nL Qc M σ lv st pc := fun r hr H locs ls hl hP hD hS => lv_ldcw C0.1 C0.2.1 C0.2.2.2.1 (C0.2.2.2.2.1 _ hw) hdg (k r hr H locs ls hl hP hD hS)
theorem J_ldc2 (C0 : Cx D tys own cc nL rt p s m args meth c) {index : Nat} {v : Int64} (hw : Cond.constantLong own index v ∈ wG) (hdg : decode cc pc = .ok (.ldc2_w index, 3)) (k : J p l e R s m args below meth c D A wd nL Qc M σ lv (.long v :: st) (pc + 3)) : J p l e R s m args below meth c D A wd nL Qc M σ lv st pc := fun r hr H locs ls hl hP hD hS => lv_ldc2 C0.1 C0.2.1 C0.2.2.2.1 (C0.2.2.2.2.1 _ hw) hdg (k r hr H locs ls hl hP hD hS)
theorem J_iload_n (C0 : Cx D tys own cc nL rt p s m args meth c) {j : Fin 4} (q : Nat) {i : Nat} {x : Int32} (hdg : decode cc pc = .ok (.iload_n j, 1)) (hi : (j : Nat) = i) (hq : lv[q]? = some (i, .int x))
    (k : J p l e R s m args below meth c D A wd nL Qc M σ lv (.int x :: st) (pc + 1)) : J p l e R s m args below meth c D A wd nL Qc M σ lv st pc := fun r hr H locs ls hl hP hD hS => lv_iload_n C0.1 C0.2.1 hdg hi (lv_at hl q hq) (k r hr H locs ls hl hP hD hS)
theorem J_iload (C0 : Cx D tys own cc nL rt p s m args meth c) (q : Nat) {i : Nat} {x : Int32} (hdg : decode cc pc = .ok (.iload i, 2)) (hq : lv[q]? = some (i, .int x))
    (k : J p l e R s m args below meth c D A wd nL Qc M σ lv (.int x :: st) (pc + 2)) : J p l e R s m args below meth c D A wd nL Qc M σ lv st pc := fun r hr H locs ls hl hP hD hS => lv_iload C0.1 C0.2.1 hdg (lv_at hl q hq) (k r hr H locs ls hl hP hD hS)
theorem J_lload_n (C0 : Cx D tys own cc nL rt p s m args meth c) {j : Fin 4} (q : Nat) {i : Nat} {x : Int64} (hdg : decode cc pc = .ok (.lload_n j, 1)) (hi : (j : Nat) = i) (hq : lv[q]? = some (i, .long x))
    (k : J p l e R s m args below meth c D A wd nL Qc M σ lv (.long x :: st) (pc + 1)) : J p l e R s m args below meth c D A wd nL Qc M σ lv st pc := fun r hr H locs ls hl hP hD hS => lv_lload_n C0.1 C0.2.1 hdg hi (lv_at hl q hq) (k r hr H locs ls hl hP hD hS)
theorem J_lload (C0 : Cx D tys own cc nL rt p s m args meth c) (q : Nat) {i : Nat} {x : Int64} (hdg : decode cc pc = .ok (.lload i, 2)) (hq : lv[q]? = some (i, .long x))
    (k : J p l e R s m args below meth c D A wd nL Qc M σ lv (.long x :: st) (pc + 2)) : J p l e R s m args below meth c D A wd nL Qc M σ lv st pc := fun r hr H locs ls hl hP hD hS => lv_lload C0.1 C0.2.1 hdg (lv_at hl q hq) (k r hr H locs ls hl hP hD hS)
theorem J_aload_n (C0 : Cx D tys own cc nL rt p s m args meth c) {j : Fin 4} (q : Nat) {i : Nat} {x : Nat} (hdg : decode cc pc = .ok (.aload_n j, 1)) (hi : (j : Nat) = i) (hq : lv[q]? = some (i, .ref x))
    (k : J p l e R s m args below meth c D A wd nL Qc M σ lv (.ref x :: st) (pc + 1)) : J p l e R s m args below meth c D A wd nL Qc M σ lv st pc := fun r hr H locs ls hl hP hD hS => lv_aload_n C0.1 C0.2.1 hdg hi (lv_at hl q hq) (k r hr H locs ls hl hP hD hS)
theorem J_aload (C0 : Cx D tys own cc nL rt p s m args meth c) (q : Nat) {i : Nat} {x : Nat} (hdg : decode cc pc = .ok (.aload i, 2)) (hq : lv[q]? = some (i, .ref x))
    (k : J p l e R s m args below meth c D A wd nL Qc M σ lv (.ref x :: st) (pc + 2)) : J p l e R s m args below meth c D A wd nL Qc M σ lv st pc := fun r hr H locs ls hl hP hD hS => lv_aload C0.1 C0.2.1 hdg (lv_at hl q hq) (k r hr H locs ls hl hP hD hS)
theorem J_istore_n (C0 : Cx D tys own cc nL rt p s m args meth c) {j : Fin 4} {i : Nat} {x : Int32} {lv' : List (Nat × Value)} (hdg : decode cc pc = .ok (.istore_n j, 1)) (hi : (j : Nat) = i) (hn : i < nL) (hlv : (i, Value.int x) :: lv.filter (fun q => !(q.1 == i) && !(q.1 + 1 == i && q.2.category == 2)) = lv')
    (k : J p l e R s m args below meth c D A wd nL Qc M σ lv' st (pc + 1)) : J p l e R s m args below meth c D A wd nL Qc M σ lv (Value.int x :: st) pc := fun r hr H locs ls hl hP hD hS => lv_istore_n C0.1 C0.2.1 hdg hi hl hn hlv (fun ls' hl' => k r hr H locs ls' hl' hP hD hS)
theorem J_istore (C0 : Cx D tys own cc nL rt p s m args meth c) {i : Nat} {x : Int32} {lv' : List (Nat × Value)} (hdg : decode cc pc = .ok (.istore i, 2))  (hn : i < nL) (hlv : (i, Value.int x) :: lv.filter (fun q => !(q.1 == i) && !(q.1 + 1 == i && q.2.category == 2)) = lv')
    (k : J p l e R s m args below meth c D A wd nL Qc M σ lv' st (pc + 2)) : J p l e R s m args below meth c D A wd nL Qc M σ lv (Value.int x :: st) pc := fun r hr H locs ls hl hP hD hS => lv_istore C0.1 C0.2.1 hdg  hl hn hlv (fun ls' hl' => k r hr H locs ls' hl' hP hD hS)
theorem J_lstore_n (C0 : Cx D tys own cc nL rt p s m args meth c) {j : Fin 4} {i : Nat} {x : Int64} {lv' : List (Nat × Value)} (hdg : decode cc pc = .ok (.lstore_n j, 1)) (hi : (j : Nat) = i) (hn : i + 1 < nL) (hlv : (i, Value.long x) :: lv.filter (fun q => !(q.1 == i) && (!(q.1 == i + 1) && !(q.1 + 1 == i && q.2.category == 2))) = lv')
    (k : J p l e R s m args below meth c D A wd nL Qc M σ lv' st (pc + 1)) : J p l e R s m args below meth c D A wd nL Qc M σ lv (Value.long x :: st) pc := fun r hr H locs ls hl hP hD hS => lv_lstore_n C0.1 C0.2.1 hdg hi hl hn hlv (fun ls' hl' => k r hr H locs ls' hl' hP hD hS)
theorem J_lstore (C0 : Cx D tys own cc nL rt p s m args meth c) {i : Nat} {x : Int64} {lv' : List (Nat × Value)} (hdg : decode cc pc = .ok (.lstore i, 2))  (hn : i + 1 < nL) (hlv : (i, Value.long x) :: lv.filter (fun q => !(q.1 == i) && (!(q.1 == i + 1) && !(q.1 + 1 == i && q.2.category == 2))) = lv')
    (k : J p l e R s m args below meth c D A wd nL Qc M σ lv' st (pc + 2)) : J p l e R s m args below meth c D A wd nL Qc M σ lv (Value.long x :: st) pc := fun r hr H locs ls hl hP hD hS => lv_lstore C0.1 C0.2.1 hdg  hl hn hlv (fun ls' hl' => k r hr H locs ls' hl' hP hD hS)
theorem J_astore_n (C0 : Cx D tys own cc nL rt p s m args meth c) {j : Fin 4} {i : Nat} {x : Nat} {lv' : List (Nat × Value)} (hdg : decode cc pc = .ok (.astore_n j, 1)) (hi : (j : Nat) = i) (hn : i < nL) (hlv : (i, Value.ref x) :: lv.filter (fun q => !(q.1 == i) && !(q.1 + 1 == i && q.2.category == 2)) = lv')
    (k : J p l e R s m args below meth c D A wd nL Qc M σ lv' st (pc + 1)) : J p l e R s m args below meth c D A wd nL Qc M σ lv (Value.ref x :: st) pc := fun r hr H locs ls hl hP hD hS => lv_astore_n C0.1 C0.2.1 hdg hi hl hn hlv (fun ls' hl' => k r hr H locs ls' hl' hP hD hS)
theorem J_astore (C0 : Cx D tys own cc nL rt p s m args meth c) {i : Nat} {x : Nat} {lv' : List (Nat × Value)} (hdg : decode cc pc = .ok (.astore i, 2))  (hn : i < nL) (hlv : (i, Value.ref x) :: lv.filter (fun q => !(q.1 == i) && !(q.1 + 1 == i && q.2.category == 2)) = lv')
    (k : J p l e R s m args below meth c D A wd nL Qc M σ lv' st (pc + 2)) : J p l e R s m args below meth c D A wd nL Qc M σ lv (Value.ref x :: st) pc := fun r hr H locs ls hl hP hD hS => lv_astore C0.1 C0.2.1 hdg  hl hn hlv (fun ls' hl' => k r hr H locs ls' hl' hP hD hS)
theorem J_iinc (C0 : Cx D tys own cc nL rt p s m args meth c) {i : Nat} (q : Nat) {n : Int} {x d : Int32} {lv' : List (Nat × Value)} (hdg : decode cc pc = .ok (.iinc i n, 3)) (hq : lv[q]? = some (i, .int x)) (hv : Int32.ofInt n = d) (hn : i < nL) (hlv : (i, Value.int (x + d)) :: lv.filter (fun q => !(q.1 == i) && !(q.1 + 1 == i && q.2.category == 2)) = lv')
    (k : J p l e R s m args below meth c D A wd nL Qc M σ lv' st (pc + 3)) : J p l e R s m args below meth c D A wd nL Qc M σ lv st pc := fun r hr H locs ls hl hP hD hS => lv_iinc C0.1 C0.2.1 hdg hl hq (by rw [hv]) hn hlv (fun ls' hl' => k r hr H locs ls' hl' hP hD hS)
theorem J_iadd (C0 : Cx D tys own cc nL rt p s m args meth c) {x y : Int32} (hdg : decode cc pc = .ok (.iadd, 1)) 
    (k : J p l e R s m args below meth c D A wd nL Qc M σ lv (.int (x + y) :: st) (pc + 1)) : J p l e R s m args below meth c D A wd nL Qc M σ lv (.int y :: .int x :: st) pc := fun r hr H locs ls hl hP hD hS => lv_iadd C0.1 C0.2.1 hdg (k r hr H locs ls hl hP hD hS)
theorem J_isub (C0 : Cx D tys own cc nL rt p s m args meth c) {x y : Int32} (hdg : decode cc pc = .ok (.isub, 1)) 
    (k : J p l e R s m args below meth c D A wd nL Qc M σ lv (.int (x - y) :: st) (pc + 1)) : J p l e R s m args below meth c D A wd nL Qc M σ lv (.int y :: .int x :: st) pc := fun r hr H locs ls hl hP hD hS => lv_isub C0.1 C0.2.1 hdg (k r hr H locs ls hl hP hD hS)
theorem J_imul (C0 : Cx D tys own cc nL rt p s m args meth c) {x y : Int32} (hdg : decode cc pc = .ok (.imul, 1)) 
    (k : J p l e R s m args below meth c D A wd nL Qc M σ lv (.int (x * y) :: st) (pc + 1)) : J p l e R s m args below meth c D A wd nL Qc M σ lv (.int y :: .int x :: st) pc := fun r hr H locs ls hl hP hD hS => lv_imul C0.1 C0.2.1 hdg (k r hr H locs ls hl hP hD hS)
theorem J_iand (C0 : Cx D tys own cc nL rt p s m args meth c) {x y : Int32} (hdg : decode cc pc = .ok (.iand, 1)) 
    (k : J p l e R s m args below meth c D A wd nL Qc M σ lv (.int (x &&& y) :: st) (pc + 1)) : J p l e R s m args below meth c D A wd nL Qc M σ lv (.int y :: .int x :: st) pc := fun r hr H locs ls hl hP hD hS => lv_iand C0.1 C0.2.1 hdg (k r hr H locs ls hl hP hD hS)
theorem J_ior (C0 : Cx D tys own cc nL rt p s m args meth c) {x y : Int32} (hdg : decode cc pc = .ok (.ior, 1)) 
    (k : J p l e R s m args below meth c D A wd nL Qc M σ lv (.int (x ||| y) :: st) (pc + 1)) : J p l e R s m args below meth c D A wd nL Qc M σ lv (.int y :: .int x :: st) pc := fun r hr H locs ls hl hP hD hS => lv_ior C0.1 C0.2.1 hdg (k r hr H locs ls hl hP hD hS)
theorem J_ixor (C0 : Cx D tys own cc nL rt p s m args meth c) {x y : Int32} (hdg : decode cc pc = .ok (.ixor, 1)) 
    (k : J p l e R s m args below meth c D A wd nL Qc M σ lv (.int (x ^^^ y) :: st) (pc + 1)) : J p l e R s m args below meth c D A wd nL Qc M σ lv (.int y :: .int x :: st) pc := fun r hr H locs ls hl hP hD hS => lv_ixor C0.1 C0.2.1 hdg (k r hr H locs ls hl hP hD hS)
theorem J_ishl (C0 : Cx D tys own cc nL rt p s m args meth c) {x y : Int32} (hdg : decode cc pc = .ok (.ishl, 1)) 
    (k : J p l e R s m args below meth c D A wd nL Qc M σ lv (.int (x <<< (y &&& 31)) :: st) (pc + 1)) : J p l e R s m args below meth c D A wd nL Qc M σ lv (.int y :: .int x :: st) pc := fun r hr H locs ls hl hP hD hS => lv_ishl C0.1 C0.2.1 hdg (k r hr H locs ls hl hP hD hS)
theorem J_ishr (C0 : Cx D tys own cc nL rt p s m args meth c) {x y : Int32} (hdg : decode cc pc = .ok (.ishr, 1)) 
    (k : J p l e R s m args below meth c D A wd nL Qc M σ lv (.int (x >>> (y &&& 31)) :: st) (pc + 1)) : J p l e R s m args below meth c D A wd nL Qc M σ lv (.int y :: .int x :: st) pc := fun r hr H locs ls hl hP hD hS => lv_ishr C0.1 C0.2.1 hdg (k r hr H locs ls hl hP hD hS)
theorem J_idiv (C0 : Cx D tys own cc nL rt p s m args meth c) {x y : Int32} (hdg : decode cc pc = .ok (.idiv, 1)) (hne : ¬ y = 0)
    (k : J p l e R s m args below meth c D A wd nL Qc M σ lv (.int (x / y) :: st) (pc + 1)) : J p l e R s m args below meth c D A wd nL Qc M σ lv (.int y :: .int x :: st) pc := fun r hr H locs ls hl hP hD hS => lv_idiv C0.1 C0.2.1 hdg hne (k r hr H locs ls hl hP hD hS)
theorem J_irem (C0 : Cx D tys own cc nL rt p s m args meth c) {x y : Int32} (hdg : decode cc pc = .ok (.irem, 1)) (hne : ¬ y = 0)
    (k : J p l e R s m args below meth c D A wd nL Qc M σ lv (.int (x - x / y * y) :: st) (pc + 1)) : J p l e R s m args below meth c D A wd nL Qc M σ lv (.int y :: .int x :: st) pc := fun r hr H locs ls hl hP hD hS => lv_irem C0.1 C0.2.1 hdg hne (k r hr H locs ls hl hP hD hS)
theorem J_lmul (C0 : Cx D tys own cc nL rt p s m args meth c) {x y : Int64} (hdg : decode cc pc = .ok (.lmul, 1)) 
    (k : J p l e R s m args below meth c D A wd nL Qc M σ lv (.long (x * y) :: st) (pc + 1)) : J p l e R s m args below meth c D A wd nL Qc M σ lv (.long y :: .long x :: st) pc := fun r hr H locs ls hl hP hD hS => lv_lmul C0.1 C0.2.1 hdg (k r hr H locs ls hl hP hD hS)
theorem J_lrem (C0 : Cx D tys own cc nL rt p s m args meth c) {x y : Int64} (hdg : decode cc pc = .ok (.lrem, 1)) (hne : ¬ y = 0)
    (k : J p l e R s m args below meth c D A wd nL Qc M σ lv (.long (x - x / y * y) :: st) (pc + 1)) : J p l e R s m args below meth c D A wd nL Qc M σ lv (.long y :: .long x :: st) pc := fun r hr H locs ls hl hP hD hS => lv_lrem C0.1 C0.2.1 hdg hne (k r hr H locs ls hl hP hD hS)
/-- a shift to the right without sign -/
def ushr (x y : Int32) : Int32 := (x.toUInt32 >>> (y.toUInt32 &&& Int32.toUInt32 31)).toInt32
theorem J_lremG (C0 : Cx D tys own cc nL rt p s m args meth c) {x y : Int64} (hdg : decode cc pc = .ok (.lrem, 1)) (k : ¬ y = 0 → J p l e R s m args below meth c D A wd nL Qc M σ lv (.long (x - x / y * y) :: st) (pc + 1)) : J p l e R s m args below meth c D A wd nL Qc (if y = 0 then none else M) σ lv (.long y :: .long x :: st) pc := by
  intro r hr H locs ls hl hP hD hS
  by_cases h : y = 0
  · rw [if_pos h] at hr; cases hr
  · rw [if_neg h] at hr
    exact lv_lrem C0.1 C0.2.1 hdg h (k h r hr H locs ls hl hP hD hS)
theorem J_idivG (C0 : Cx D tys own cc nL rt p s m args meth c) {x y : Int32} (hdg : decode cc pc = .ok (.idiv, 1)) (k : ¬ y = 0 → J p l e R s m args below meth c D A wd nL Qc M σ lv (.int (x / y) :: st) (pc + 1)) : J p l e R s m args below meth c D A wd nL Qc (if y = 0 then none else M) σ lv (.int y :: .int x :: st) pc := by
  intro r hr H locs ls hl hP hD hS
  by_cases h : y = 0
  · rw [if_pos h] at hr; cases hr
  · rw [if_neg h] at hr
    exact lv_idiv C0.1 C0.2.1 hdg h (k h r hr H locs ls hl hP hD hS)
theorem J_iushr (C0 : Cx D tys own cc nL rt p s m args meth c) {x y : Int32} (hdg : decode cc pc = .ok (.iushr, 1)) 
    (k : J p l e R s m args below meth c D A wd nL Qc M σ lv (.int (ushr x y) :: st) (pc + 1)) : J p l e R s m args below meth c D A wd nL Qc M σ lv (.int y :: .int x :: st) pc := fun r hr H locs ls hl hP hD hS => lv_iushr C0.1 C0.2.1 hdg rfl (k r hr H locs ls hl hP hD hS)
theorem J_i2l (C0 : Cx D tys own cc nL rt p s m args meth c) {x : Int32} (hdg : decode cc pc = .ok (.i2l, 1)) 
    (k : J p l e R s m args below meth c D A wd nL Qc M σ lv (.long x.toInt64 :: st) (pc + 1)) : J p l e R s m args below meth c D A wd nL Qc M σ lv (.int x :: st) pc := fun r hr H locs ls hl hP hD hS => lv_i2l C0.1 C0.2.1 hdg rfl (k r hr H locs ls hl hP hD hS)
theorem J_l2i (C0 : Cx D tys own cc nL rt p s m args meth c) {x : Int64} (hdg : decode cc pc = .ok (.l2i, 1)) 
    (k : J p l e R s m args below meth c D A wd nL Qc M σ lv (.int x.toInt32 :: st) (pc + 1)) : J p l e R s m args below meth c D A wd nL Qc M σ lv (.long x :: st) pc := fun r hr H locs ls hl hP hD hS => lv_l2i C0.1 C0.2.1 hdg rfl (k r hr H locs ls hl hP hD hS)
theorem J_dup (C0 : Cx D tys own cc nL rt p s m args meth c) {v : Value} (hdg : decode cc pc = .ok (.dup, 1)) (hv : v.category = 1)
    (k : J p l e R s m args below meth c D A wd nL Qc M σ lv (v :: v :: st) (pc + 1)) : J p l e R s m args below meth c D A wd nL Qc M σ lv (v :: st) pc := fun r hr H locs ls hl hP hD hS => lv_dup C0.1 C0.2.1 hdg hv (k r hr H locs ls hl hP hD hS)
theorem J_dup2 (C0 : Cx D tys own cc nL rt p s m args meth c) {v u : Value} (hdg : decode cc pc = .ok (.dup2, 1)) (hv : v.category = 1) (hu : u.category = 1)
    (k : J p l e R s m args below meth c D A wd nL Qc M σ lv (v :: u :: v :: u :: st) (pc + 1)) : J p l e R s m args below meth c D A wd nL Qc M σ lv (v :: u :: st) pc := fun r hr H locs ls hl hP hD hS => lv_dup2_11 C0.1 C0.2.1 hdg hv hu (k r hr H locs ls hl hP hD hS)
theorem J_icmp_eq (C0 : Cx D tys own cc nL rt p s m args meth c) {x y : Int32} {off : Int} {tgt : Nat} (hdg : decode cc pc = .ok (.if_icmp .eq off, 3)) (ht : (pc : Int) + off = (tgt : Int))
    (kt : x = y → J p l e R s m args below meth c D A wd nL Qc M1 σ lv st tgt) (kf : ¬ x = y → J p l e R s m args below meth c D A wd nL Qc M2 σ lv st (pc + 3)) : J p l e R s m args below meth c D A wd nL Qc (if x = y then M1 else M2) σ lv (.int y :: .int x :: st) pc :=
  fun r hr H locs ls hl hP hD hS => lv_icmp_eq C0.1 C0.2.1 hdg ht (fun h => kt h r (by rwa [if_pos h] at hr) H locs ls hl hP hD hS) (fun h => kf h r (by rwa [if_neg h] at hr) H locs ls hl hP hD hS)
theorem J_if_eq (C0 : Cx D tys own cc nL rt p s m args meth c) {x : Int32} {off : Int} {tgt : Nat} (hdg : decode cc pc = .ok (.ifCond .eq off, 3)) (ht : (pc : Int) + off = (tgt : Int))
    (kt : x = 0 → J p l e R s m args below meth c D A wd nL Qc M1 σ lv st tgt) (kf : ¬ x = 0 → J p l e R s m args below meth c D A wd nL Qc M2 σ lv st (pc + 3)) : J p l e R s m args below meth c D A wd nL Qc (if x = 0 then M1 else M2) σ lv (.int x :: st) pc :=
  fun r hr H locs ls hl hP hD hS => lv_if_eq C0.1 C0.2.1 hdg ht (fun h => kt h r (by rwa [if_pos h] at hr) H locs ls hl hP hD hS) (fun h => kf h r (by rwa [if_neg h] at hr) H locs ls hl hP hD hS)
theorem J_icmp_ne (C0 : Cx D tys own cc nL rt p s m args meth c) {x y : Int32} {off : Int} {tgt : Nat} (hdg : decode cc pc = .ok (.if_icmp .ne off, 3)) (ht : (pc : Int) + off = (tgt : Int))
    (kt : ¬ x = y → J p l e R s m args below meth c D A wd nL Qc M1 σ lv st tgt) (kf : x = y → J p l e R s m args below meth c D A wd nL Qc M2 σ lv st (pc + 3)) : J p l e R s m args below meth c D A wd nL Qc (if x = y then M2 else M1) σ lv (.int y :: .int x :: st) pc :=
  fun r hr H locs ls hl hP hD hS => lv_icmp_ne C0.1 C0.2.1 hdg ht (fun h => kt h r (by rwa [if_neg h] at hr) H locs ls hl hP hD hS) (fun h => kf h r (by rwa [if_pos h] at hr) H locs ls hl hP hD hS)
theorem J_if_ne (C0 : Cx D tys own cc nL rt p s m args meth c) {x : Int32} {off : Int} {tgt : Nat} (hdg : decode cc pc = .ok (.ifCond .ne off, 3)) (ht : (pc : Int) + off = (tgt : Int))
    (kt : ¬ x = 0 → J p l e R s m args below meth c D A wd nL Qc M1 σ lv st tgt) (kf : x = 0 → J p l e R s m args below meth c D A wd nL Qc M2 σ lv st (pc + 3)) : J p l e R s m args below meth c D A wd nL Qc (if x = 0 then M2 else M1) σ lv (.int x :: st) pc :=
  fun r hr H locs ls hl hP hD hS => lv_if_ne C0.1 C0.2.1 hdg ht (fun h => kt h r (by rwa [if_neg h] at hr) H locs ls hl hP hD hS) (fun h => kf h r (by rwa [if_pos h] at hr) H locs ls hl hP hD hS)
theorem J_icmp_lt (C0 : Cx D tys own cc nL rt p s m args meth c) {x y : Int32} {off : Int} {tgt : Nat} (hdg : decode cc pc = .ok (.if_icmp .lt off, 3)) (ht : (pc : Int) + off = (tgt : Int))
    (kt : x < y → J p l e R s m args below meth c D A wd nL Qc M1 σ lv st tgt) (kf : ¬ x < y → J p l e R s m args below meth c D A wd nL Qc M2 σ lv st (pc + 3)) : J p l e R s m args below meth c D A wd nL Qc (if x < y then M1 else M2) σ lv (.int y :: .int x :: st) pc :=
  fun r hr H locs ls hl hP hD hS => lv_icmp_lt C0.1 C0.2.1 hdg ht (fun h => kt h r (by rwa [if_pos h] at hr) H locs ls hl hP hD hS) (fun h => kf h r (by rwa [if_neg h] at hr) H locs ls hl hP hD hS)
theorem J_if_lt (C0 : Cx D tys own cc nL rt p s m args meth c) {x : Int32} {off : Int} {tgt : Nat} (hdg : decode cc pc = .ok (.ifCond .lt off, 3)) (ht : (pc : Int) + off = (tgt : Int))
    (kt : x < 0 → J p l e R s m args below meth c D A wd nL Qc M1 σ lv st tgt) (kf : ¬ x < 0 → J p l e R s m args below meth c D A wd nL Qc M2 σ lv st (pc + 3)) : J p l e R s m args below meth c D A wd nL Qc (if x < 0 then M1 else M2) σ lv (.int x :: st) pc :=
  fun r hr H locs ls hl hP hD hS => lv_if_lt C0.1 C0.2.1 hdg ht (fun h => kt h r (by rwa [if_pos h] at hr) H locs ls hl hP hD hS) (fun h => kf h r (by rwa [if_neg h] at hr) H locs ls hl hP hD hS)
theorem J_icmp_ge (C0 : Cx D tys own cc nL rt p s m args meth c) {x y : Int32} {off : Int} {tgt : Nat} (hdg : decode cc pc = .ok (.if_icmp .ge off, 3)) (ht : (pc : Int) + off = (tgt : Int))
    (kt : y ≤ x → J p l e R s m args below meth c D A wd nL Qc M1 σ lv st tgt) (kf : ¬ y ≤ x → J p l e R s m args below meth c D A wd nL Qc M2 σ lv st (pc + 3)) : J p l e R s m args below meth c D A wd nL Qc (if y ≤ x then M1 else M2) σ lv (.int y :: .int x :: st) pc :=
  fun r hr H locs ls hl hP hD hS => lv_icmp_ge C0.1 C0.2.1 hdg ht (fun h => kt h r (by rwa [if_pos h] at hr) H locs ls hl hP hD hS) (fun h => kf h r (by rwa [if_neg h] at hr) H locs ls hl hP hD hS)
theorem J_if_ge (C0 : Cx D tys own cc nL rt p s m args meth c) {x : Int32} {off : Int} {tgt : Nat} (hdg : decode cc pc = .ok (.ifCond .ge off, 3)) (ht : (pc : Int) + off = (tgt : Int))
    (kt : 0 ≤ x → J p l e R s m args below meth c D A wd nL Qc M1 σ lv st tgt) (kf : ¬ 0 ≤ x → J p l e R s m args below meth c D A wd nL Qc M2 σ lv st (pc + 3)) : J p l e R s m args below meth c D A wd nL Qc (if 0 ≤ x then M1 else M2) σ lv (.int x :: st) pc :=
  fun r hr H locs ls hl hP hD hS => lv_if_ge C0.1 C0.2.1 hdg ht (fun h => kt h r (by rwa [if_pos h] at hr) H locs ls hl hP hD hS) (fun h => kf h r (by rwa [if_neg h] at hr) H locs ls hl hP hD hS)
theorem J_icmp_gt (C0 : Cx D tys own cc nL rt p s m args meth c) {x y : Int32} {off : Int} {tgt : Nat} (hdg : decode cc pc = .ok (.if_icmp .gt off, 3)) (ht : (pc : Int) + off = (tgt : Int))
    (kt : y < x → J p l e R s m args below meth c D A wd nL Qc M1 σ lv st tgt) (kf : ¬ y < x → J p l e R s m args below meth c D A wd nL Qc M2 σ lv st (pc + 3)) : J p l e R s m args below meth c D A wd nL Qc (if y < x then M1 else M2) σ lv (.int y :: .int x :: st) pc :=
  fun r hr H locs ls hl hP hD hS => lv_icmp_gt C0.1 C0.2.1 hdg ht (fun h => kt h r (by rwa [if_pos h] at hr) H locs ls hl hP hD hS) (fun h => kf h r (by rwa [if_neg h] at hr) H locs ls hl hP hD hS)
theorem J_if_gt (C0 : Cx D tys own cc nL rt p s m args meth c) {x : Int32} {off : Int} {tgt : Nat} (hdg : decode cc pc = .ok (.ifCond .gt off, 3)) (ht : (pc : Int) + off = (tgt : Int))
    (kt : 0 < x → J p l e R s m args below meth c D A wd nL Qc M1 σ lv st tgt) (kf : ¬ 0 < x → J p l e R s m args below meth c D A wd nL Qc M2 σ lv st (pc + 3)) : J p l e R s m args below meth c D A wd nL Qc (if 0 < x then M1 else M2) σ lv (.int x :: st) pc :=
  fun r hr H locs ls hl hP hD hS => lv_if_gt C0.1 C0.2.1 hdg ht (fun h => kt h r (by rwa [if_pos h] at hr) H locs ls hl hP hD hS) (fun h => kf h r (by rwa [if_neg h] at hr) H locs ls hl hP hD hS)
theorem J_icmp_le (C0 : Cx D tys own cc nL rt p s m args meth c) {x y : Int32} {off : Int} {tgt : Nat} (hdg : decode cc pc = .ok (.if_icmp .le off, 3)) (ht : (pc : Int) + off = (tgt : Int))
    (kt : x ≤ y → J p l e R s m args below meth c D A wd nL Qc M1 σ lv st tgt) (kf : ¬ x ≤ y → J p l e R s m args below meth c D A wd nL Qc M2 σ lv st (pc + 3)) : J p l e R s m args below meth c D A wd nL Qc (if x ≤ y then M1 else M2) σ lv (.int y :: .int x :: st) pc :=
  fun r hr H locs ls hl hP hD hS => lv_icmp_le C0.1 C0.2.1 hdg ht (fun h => kt h r (by rwa [if_pos h] at hr) H locs ls hl hP hD hS) (fun h => kf h r (by rwa [if_neg h] at hr) H locs ls hl hP hD hS)
theorem J_if_le (C0 : Cx D tys own cc nL rt p s m args meth c) {x : Int32} {off : Int} {tgt : Nat} (hdg : decode cc pc = .ok (.ifCond .le off, 3)) (ht : (pc : Int) + off = (tgt : Int))
    (kt : x ≤ 0 → J p l e R s m args below meth c D A wd nL Qc M1 σ lv st tgt) (kf : ¬ x ≤ 0 → J p l e R s m args below meth c D A wd nL Qc M2 σ lv st (pc + 3)) : J p l e R s m args below meth c D A wd nL Qc (if x ≤ 0 then M1 else M2) σ lv (.int x :: st) pc :=
  fun r hr H locs ls hl hP hD hS => lv_if_le C0.1 C0.2.1 hdg ht (fun h => kt h r (by rwa [if_pos h] at hr) H locs ls hl hP hD hS) (fun h => kf h r (by rwa [if_neg h] at hr) H locs ls hl hP hD hS)
theorem J_goto (C0 : Cx D tys own cc nL rt p s m args meth c) {off : Int} {tgt : Nat} (hdg : decode cc pc = .ok (.goto off, 3)) (ht : (pc : Int) + off = (tgt : Int)) (k : J p l e R s m args below meth c D A wd nL Qc M σ lv st tgt) : J p l e R s m args below meth c D A wd nL Qc M σ lv st pc := fun r hr H locs ls hl hP hD hS => lv_goto C0.1 C0.2.1 hdg ht (k r hr H locs ls hl hP hD hS)
theorem J_tblIn (C0 : Cx D tys own cc nL rt p s m args meth c) {dflt lo hi : Int} {offs : Array Int} {len : Nat} {x v : Int32} {off : Int} {tgt : Nat} (hdg : decode cc pc = .ok (.tableswitch dflt lo hi offs, len)) (hx : x = v) (h1 : ¬ v.toInt < lo) (h2 : ¬ hi < v.toInt) (ho : offs[(v.toInt - lo).toNat]? = some off) (ht : (pc : Int) + off = (tgt : Int)) (k : J p l e R s m args below meth c D A wd nL Qc M σ lv st tgt) : J p l e R s m args below meth c D A wd nL Qc M σ lv (.int x :: st) pc := by
  subst hx
  exact fun r hr H locs ls hl hP hD hS => lv_tableIn C0.1 C0.2.1 hdg h1 h2 ho ht (k r hr H locs ls hl hP hD hS)
theorem J_tblOut (C0 : Cx D tys own cc nL rt p s m args meth c) {dflt lo hi : Int} {offs : Array Int} {len : Nat} {x : Int32} {tgt : Nat} (hdg : decode cc pc = .ok (.tableswitch dflt lo hi offs, len)) (h : x.toInt < lo ∨ hi < x.toInt) (ht : (pc : Int) + dflt = (tgt : Int)) (k : J p l e R s m args below meth c D A wd nL Qc M σ lv st tgt) : J p l e R s m args below meth c D A wd nL Qc M σ lv (.int x :: st) pc := fun r hr H locs ls hl hP hD hS => lv_tableOut C0.1 C0.2.1 hdg h ht (k r hr H locs ls hl hP hD hS)
theorem J_get (C0 : Cx D tys own cc nL rt p s m args meth c) {C : String} {T : u_T} {N ci index : Nat} {a : Nat} {fs : List Value} {v : Value} (q0 : Nat) (he : (wd σ)[q0]? = some (a, .inr (ci, fs))) (hc : vwCl[ci]? = some (C, T, N)) (hin : ∀ w ∈ u_ws C T N, w ∈ wG) (k : Nat) (hk : k < N) (hlink : Cond.fieldLink own index (T k).1 (T k).2.1 (T k).2.2.1 ∈ wG) (hv : fs[k]? = some v) (hdg : decode cc pc = .ok (.getfield index, 3))
    (kk : J p l e R s m args below meth c D A wd nL Qc M σ lv (v :: st) (pc + 3)) : J p l e R s m args below meth c D A wd nL Qc M σ lv (.ref a :: st) pc := fun r hr H locs ls hl hP hD hS => va_get (D := D) (ref := (T k).1) C0.1 C0.2.1 C0.2.2.2.2.1 hin C0.2.2.2.1 C0.2.2.2.2.2.2.2.2 hP q0 he hc k hk (C0.2.2.2.2.1 _ hlink) (fun _ h9 => h9) hv hdg (kk r hr H locs ls hl hP hD hS)
theorem J_getN (C0 : Cx D tys own cc nL rt p s m args meth c) {C : String} {T : u_T} {N ci index : Nat} {a : Nat} {fs : List Value} {v : Value} {host : String} (q0 : Nat) (he : (wd σ)[q0]? = some (a, .inr (ci, fs))) (hc : vwCl[ci]? = some (C, T, N)) (hin : ∀ w ∈ u_ws C T N, w ∈ wG) (k : Nat) (hk : k < N) (hlink : Cond.fieldLinkNest own index (T k).1 (T k).2.1 (T k).2.2.1 host ∈ wN) (hv : fs[k]? = some v) (hdg : decode cc pc = .ok (.getfield index, 3))
    (kk : J p l e R s m args below meth c D A wd nL Qc M σ lv (v :: st) (pc + 3)) : J p l e R s m args below meth c D A wd nL Qc M σ lv (.ref a :: st) pc := fun r hr H locs ls hl hP hD hS => va_getN (D := D) (ref := (T k).1) C0.1 C0.2.1 C0.2.2.2.2.1 hin C0.2.2.2.1 C0.2.2.2.2.2.2.2.2 hP q0 he hc k hk (va_Nw.use rfl (C0.2.2.2.2.2.2.2.1 _ hlink)) (fun _ h9 => h9) hv hdg (kk r hr H locs ls hl hP hD hS)
theorem J_put (C0 : Cx D tys own cc nL rt p s m args meth c) {C : String} {T : u_T} {N ci index : Nat} {a : Nat} {fs : List Value} {v : Value} {ty : FieldType} {σ' : S} {ty0 : Nat → FieldType} (hty : ∀ k, k < N → parseFieldDescriptor (T k).2.2.1 = some (ty0 k)) (hnm : ∀ a, a < N → ∀ b, b < N → a ≠ b → (T a).2.1 ≠ (T b).2.1) (q0 : Nat) (he : (wd σ)[q0]? = some (a, .inr (ci, fs))) (hc : vwCl[ci]? = some (C, T, N)) (hin : ∀ w ∈ u_ws C T N, w ∈ wG) (k : Nat) (hk : k < N) (hlink : Cond.fieldLink own index (T k).1 (T k).2.1 (T k).2.2.1 ∈ wG) (hfin : (T k).2.2.2 = false) (hd : parseFieldDescriptor (T k).2.2.1 = some ty) (hn : narrow ty v = v) (hfit : fits ty v = true) (hl0 : k < fs.length) (hset : (wd σ).set q0 (a, .inr (ci, fs.set k v)) = wd σ') (hdg : decode cc pc = .ok (.putfield index, 3))
    (kk : J p l e R s m args below meth c D A wd nL Qc M σ' lv st (pc + 3)) : J p l e R s m args below meth c D A wd nL Qc M σ lv (v :: .ref a :: st) pc := fun r hr H locs ls hl hP hD hS => va_put (D := D) (ref := (T k).1) C0.1 C0.2.1 C0.2.2.2.2.1 hin ty0 hty hnm C0.2.2.2.1 C0.2.2.2.2.2.2.2.2 hP hD hS q0 he hc k hk (C0.2.2.2.2.1 _ hlink) (fun _ h9 => h9) hfin hd hn hfit hl0 hdg (fun H1 locs1 hP1 hD1 hS1 => kk r hr H1 locs1 ls hl (hset ▸ hP1) (hset ▸ hD1) hS1)
theorem J_putN (C0 : Cx D tys own cc nL rt p s m args meth c) {C : String} {T : u_T} {N ci index : Nat} {a : Nat} {fs : List Value} {v : Value} {ty : FieldType} {host : String} {σ' : S} {ty0 : Nat → FieldType} (hty : ∀ k, k < N → parseFieldDescriptor (T k).2.2.1 = some (ty0 k)) (hnm : ∀ a, a < N → ∀ b, b < N → a ≠ b → (T a).2.1 ≠ (T b).2.1) (q0 : Nat) (he : (wd σ)[q0]? = some (a, .inr (ci, fs))) (hc : vwCl[ci]? = some (C, T, N)) (hin : ∀ w ∈ u_ws C T N, w ∈ wG) (k : Nat) (hk : k < N) (hlink : Cond.fieldLinkNest own index (T k).1 (T k).2.1 (T k).2.2.1 host ∈ wN) (hfin : (T k).2.2.2 = false) (hd : parseFieldDescriptor (T k).2.2.1 = some ty) (hn : narrow ty v = v) (hfit : fits ty v = true) (hl0 : k < fs.length) (hset : (wd σ).set q0 (a, .inr (ci, fs.set k v)) = wd σ') (hdg : decode cc pc = .ok (.putfield index, 3))
    (kk : J p l e R s m args below meth c D A wd nL Qc M σ' lv st (pc + 3)) : J p l e R s m args below meth c D A wd nL Qc M σ lv (v :: .ref a :: st) pc := fun r hr H locs ls hl hP hD hS => va_putN (D := D) (ref := (T k).1) C0.1 C0.2.1 C0.2.2.2.2.1 hin ty0 hty hnm C0.2.2.2.1 C0.2.2.2.2.2.2.2.2 hP hD hS q0 he hc k hk (va_Nw.use rfl (C0.2.2.2.2.2.2.2.1 _ hlink)) (fun _ h9 => h9) hfin hd hn hfit hl0 hdg (fun H1 locs1 hP1 hD1 hS1 => kk r hr H1 locs1 ls hl (hset ▸ hP1) (hset ▸ hD1) hS1)
theorem J_iald (C0 : Cx D tys own cc nL rt p s m args meth c) {cA : ClassId} {n a : Nat} {f : Nat → Int32} {i : Int32} (q0 t0 : Nat) (he : (wd σ)[q0]? = some (a, .inl (cA, n, .inl f))) (ht : tys[t0]? = some (cA, .int)) (hdg : decode cc pc = .ok (.iaload, 1))
    (kk : inb i n = true → J p l e R s m args below meth c D A wd nL Qc M σ lv (.int (f (ix i)) :: st) (pc + 1)) : J p l e R s m args below meth c D A wd nL Qc (if inb i n = true then M else none) σ lv (.int i :: .ref a :: st) pc := by
  intro r hr H locs ls hl hP hD hS
  by_cases h : inb i n = true
  · rw [if_pos h] at hr
    exact va_iald C0.1 C0.2.1 C0.2.2.2.2.2.2.2.2 hP q0 t0 he ht (inb_in h) hdg (kk h r hr H locs ls hl hP hD hS)
  · rw [if_neg h] at hr; cases hr
theorem J_zald (C0 : Cx D tys own cc nL rt p s m args meth c) {cA : ClassId} {n a : Nat} {f : Nat → Int32} {i : Int32} (q0 t0 : Nat) (he : (wd σ)[q0]? = some (a, .inl (cA, n, .inl f))) (ht : tys[t0]? = some (cA, .boolean)) (hdg : decode cc pc = .ok (.baload, 1))
    (kk : inb i n = true → J p l e R s m args below meth c D A wd nL Qc M σ lv (.int (f (ix i)) :: st) (pc + 1)) : J p l e R s m args below meth c D A wd nL Qc (if inb i n = true then M else none) σ lv (.int i :: .ref a :: st) pc := by
  intro r hr H locs ls hl hP hD hS
  by_cases h : inb i n = true
  · rw [if_pos h] at hr
    exact va_zald C0.1 C0.2.1 C0.2.2.2.2.2.2.2.2 hP q0 t0 he ht (inb_in h) hdg (kk h r hr H locs ls hl hP hD hS)
  · rw [if_neg h] at hr; cases hr
theorem J_iast (C0 : Cx D tys own cc nL rt p s m args meth c) {cA : ClassId} {n a : Nat} {f : Nat → Int32} {i x : Int32} {σ' : S} (q0 t0 : Nat) (he : (wd σ)[q0]? = some (a, .inl (cA, n, .inl f))) (ht : tys[t0]? = some (cA, .int)) (hset : (wd σ).set q0 (a, .inl (cA, n, .inl (upd f (ix i) x))) = wd σ') (hdg : decode cc pc = .ok (.iastore, 1))
    (kk : inb i n = true → J p l e R s m args below meth c D A wd nL Qc M σ' lv st (pc + 1)) : J p l e R s m args below meth c D A wd nL Qc (if inb i n = true then M else none) σ lv (.int x :: .int i :: .ref a :: st) pc := by
  intro r hr H locs ls hl hP hD hS
  by_cases h : inb i n = true
  · rw [if_pos h] at hr
    exact va_iast C0.1 C0.2.1 C0.2.2.2.2.2.2.2.2 hP hD hS q0 t0 he ht (inb_in h) hdg (fun H1 locs1 hP1 hD1 hS1 => kk h r hr H1 locs1 ls hl (hset ▸ hP1) (hset ▸ hD1) hS1)
  · rw [if_neg h] at hr; cases hr
theorem J_zast (C0 : Cx D tys own cc nL rt p s m args meth c) {cA : ClassId} {n a : Nat} {f : Nat → Int32} {i x : Int32} {σ' : S} (q0 t0 : Nat) (he : (wd σ)[q0]? = some (a, .inl (cA, n, .inl f))) (ht : tys[t0]? = some (cA, .boolean)) (hset : (wd σ).set q0 (a, .inl (cA, n, .inl (upd f (ix i) (vp_nar .boolean x)))) = wd σ') (hdg : decode cc pc = .ok (.bastore, 1))
    (kk : inb i n = true → J p l e R s m args below meth c D A wd nL Qc M σ' lv st (pc + 1)) : J p l e R s m args below meth c D A wd nL Qc (if inb i n = true then M else none) σ lv (.int x :: .int i :: .ref a :: st) pc := by
  intro r hr H locs ls hl hP hD hS
  by_cases h : inb i n = true
  · rw [if_pos h] at hr
    exact va_zast C0.1 C0.2.1 C0.2.2.2.2.2.2.2.2 hP hD hS q0 t0 he ht (inb_in h) hdg (fun H1 locs1 hP1 hD1 hS1 => kk h r hr H1 locs1 ls hl (hset ▸ hP1) (hset ▸ hD1) hS1)
  · rw [if_neg h] at hr; cases hr
theorem J_alen (C0 : Cx D tys own cc nL rt p s m args meth c) {cA : ClassId} {n a : Nat} {f : Nat → Int32} {ty : FieldType} (q0 t0 : Nat) (he : (wd σ)[q0]? = some (a, .inl (cA, n, .inl f))) (ht : tys[t0]? = some (cA, ty)) (hdg : decode cc pc = .ok (.arraylength, 1))
    (kk : J p l e R s m args below meth c D A wd nL Qc M σ lv (.int (nI n) :: st) (pc + 1)) : J p l e R s m args below meth c D A wd nL Qc M σ lv (.ref a :: st) pc := fun r hr H locs ls hl hP hD hS => va_alen C0.1 C0.2.1 C0.2.2.2.2.2.2.2.2 hP q0 t0 he ht rfl hdg (kk r hr H locs ls hl hP hD hS)
theorem J_mmin (C0 : Cx D tys own cc nL rt p s m args meth c) {index : Nat} {x y : Int32} (h1 : Cond.methodLink own index Lib.Math.min.name ∈ wG) (h2 : Cond.static Lib.Math.min.name ∈ wG) (h3 : Cond.initialized "java/lang/Math" ∈ wG) (h4 : Cond.code Lib.Math.min.name Lib.Math.min.code 2 (some .int) ∈ wG) (hf : 1 ≤ R.frames) (hlo : (st.map fun v => v.category).sum + 13 ≤ R.locals) (hdg : decode cc pc = .ok (.invokestatic index, 3))
    (k : J p l e R s m args below meth c D A wd nL Qc M σ lv (.int (if y < x then y else x) :: st) (pc + 3)) : J p l e R s m args below meth c D A wd nL Qc M σ lv (.int y :: .int x :: st) pc := fun r hr H locs ls hl hP hD hS => va_mmin C0.1 C0.2.1 (C0.2.2.1.trans hl.1.symm) C0.2.2.2.1 (C0.2.2.2.2.1 _ h1) (C0.2.2.2.2.1 _ h2) (C0.2.2.2.2.1 _ h3) (C0.2.2.2.2.1 _ h4) hf hlo (Nat.zero_le _) (Nat.zero_le _) hdg (k r hr H locs ls hl hP hD hS)
theorem J_iret {v : Int32} (C0 : Cx D tys own cc nL (some .int) p s m args meth c) (hdg : decode cc pc = .ok (.ireturn, 1)) : J p l e R s m args below meth c D A wd nL (QI D A wd) (some (v, σ)) σ lv [.int v] pc := by
  intro r hr H locs ls hl hP hD hS
  cases hr
  exact W.iret (v := v) C0.1 C0.2.1 C0.2.2.2.2.2.1 (fun t ht hW => ⟨⟨v, σ, rfl, ⟨rfl, rfl⟩, by rw [ht]; exact hP, hD⟩, hS.F ht⟩) hS.2.2 hdg (hlocks := C0.2.2.2.2.2.2.1)
theorem J_iretP {v : Int32} (C0 : Cx D tys own cc nL (some .int) p s m args meth c) (hdg : decode cc pc = .ok (.ireturn, 1)) : J p l e R s m args below meth c D A wd nL (fun r => QI D A wd (r, σ)) (some v) σ lv [.int v] pc := by
  intro r hr H locs ls hl hP hD hS
  cases hr
  exact W.iret (v := v) C0.1 C0.2.1 C0.2.2.2.2.2.1 (fun t ht hW => ⟨⟨v, σ, rfl, ⟨rfl, rfl⟩, by rw [ht]; exact hP, hD⟩, hS.F ht⟩) hS.2.2 hdg (hlocks := C0.2.2.2.2.2.2.1)
theorem J_lretP {v : Int64} (C0 : Cx D tys own cc nL (some .long) p s m args meth c) (hdg : decode cc pc = .ok (.lreturn, 1)) : J p l e R s m args below meth c D A wd nL (fun r => QL D A wd (r, σ)) (some v) σ lv [.long v] pc := by
  intro r hr H locs ls hl hP hD hS
  cases hr
  exact W.lret (v := v) C0.1 C0.2.1 C0.2.2.2.2.2.1 (fun t ht hW => ⟨⟨v, σ, rfl, ⟨rfl, rfl⟩, by rw [ht]; exact hP, hD⟩, hS.F ht⟩) hS.2.2 hdg (hlocks := C0.2.2.2.2.2.2.1)
theorem J_vret (C0 : Cx D tys own cc nL none p s m args meth c) (hdg : decode cc pc = .ok (.return_, 1)) : J p l e R s m args below meth c D A wd nL (QV D A wd) (some σ) σ lv [] pc := by
  intro r hr H locs ls hl hP hD hS
  cases hr
  exact W.vret C0.1 C0.2.1 C0.2.2.2.2.2.1 (fun t ht hW => ⟨⟨σ, rfl, rfl, by rw [ht]; exact hP, hD⟩, hS.F ht⟩) hS.2.2 hdg (hlocks := C0.2.2.2.2.2.2.1)
theorem nar_b {v : Int32} (h : v = 0 ∨ v = 1) : narrow .boolean (.int v) = .int v := by
  rcases h with rfl | rfl <;> rfl
theorem J_zret {v : Int32} (C0 : Cx D tys own cc nL (some .boolean) p s m args meth c) (hdg : decode cc pc = .ok (.ireturn, 1)) : J p l e R s m args below meth c D A wd nL (QI D A wd) (if v = 0 ∨ v = 1 then some (v, σ) else none) σ lv [.int v] pc := by
  intro r hr H locs ls hl hP hD hS
  by_cases h : v = 0 ∨ v = 1
  · rw [if_pos h] at hr
    cases hr
    exact W.zret (v := v) C0.1 C0.2.1 C0.2.2.2.2.2.1 (nar_b h) (fun t ht hW => ⟨⟨v, σ, rfl, ⟨rfl, rfl⟩, by rw [ht]; exact hP, hD⟩, hS.F ht⟩) hS.2.2 hdg (hlocks := C0.2.2.2.2.2.2.1)
  · rw [if_neg h] at hr; cases hr
theorem J_zretP {v : Int32} (C0 : Cx D tys own cc nL (some .boolean) p s m args meth c) (hdg : decode cc pc = .ok (.ireturn, 1)) : J p l e R s m args below meth c D A wd nL (fun r => QI D A wd (r, σ)) (if v = 0 ∨ v = 1 then some v else none) σ lv [.int v] pc := by
  intro r hr H locs ls hl hP hD hS
  by_cases h : v = 0 ∨ v = 1
  · rw [if_pos h] at hr
    cases hr
    exact W.zret (v := v) C0.1 C0.2.1 C0.2.2.2.2.2.1 (nar_b h) (fun t ht hW => ⟨⟨v, σ, rfl, ⟨rfl, rfl⟩, by rw [ht]; exact hP, hD⟩, hS.F ht⟩) hS.2.2 hdg (hlocks := C0.2.2.2.2.2.2.1)
  · rw [if_neg h] at hr; cases hr
theorem J_zret0 {v : Int32} (hv : v = 0 ∨ v = 1) (C0 : Cx D tys own cc nL (some .boolean) p s m args meth c) (hdg : decode cc pc = .ok (.ireturn, 1)) : J p l e R s m args below meth c D A wd nL (QI D A wd) (some (v, σ)) σ lv [.int v] pc := by
  have h := J_zret (v := v) (σ := σ) (lv := lv) (l := l) (e := e) (R := R) (below := below) (A := A) (wd := wd) C0 hdg
  rwa [if_pos hv] at h
theorem J_zretP0 {v : Int32} (hv : v = 0 ∨ v = 1) (C0 : Cx D tys own cc nL (some .boolean) p s m args meth c) (hdg : decode cc pc = .ok (.ireturn, 1)) : J p l e R s m args below meth c D A wd nL (fun r => QI D A wd (r, σ)) (some v) σ lv [.int v] pc := by
  have h := J_zretP (v := v) (σ := σ) (lv := lv) (l := l) (e := e) (R := R) (below := below) (A := A) (wd := wd) C0 hdg
  rwa [if_pos hv] at h
theorem run_V (C0 : Cx D tys own cc nL rt p s m args meth c) {C : String} {y : MethodName} {bytes : ByteArray} {maxL n index ci q0 b N : Nat} {T : u_T} {fs : List Value} {ret : Option FieldType} {rm : Room} {As : List Value} {Qm : Array Value → State → Outcome → State → Prop} (hM : Met l y (.code y bytes maxL ret :: wG) rm (PreW D tys A wd (.ref b :: As) σ) Qm 0 0 A) (hmv : MV C y bytes maxL ret n) (hlink : Cond.methodLink own index y ∈ wG) (he : (wd σ)[q0]? = some (b, .inr (ci, fs))) (hc : vwCl[ci]? = some (C, T, N)) (hn : As.length = n) (hrm : rm.cells = 0 ∧ rm.slots = 0) (hR : rm.frames + 1 ≤ R.frames ∧ 8 + (maxL + 11) + rm.locals ≤ R.locals) (hst : st = As.reverse ++ .ref b :: rest) (hw : (rest.map fun v => v.category).sum ≤ 8) (hdg : decode cc pc = .ok (.invokevirtual index, 3)) :
    ∀ (H : Heap) (locs : List Loc) (ls : Array Slot), lv_has ls nL lv → va_P D vwCl (wd σ) H → va_D A (wd σ) → va_S A s.heap H locs → va_Run p l e R s m args below meth c H locs 0 0 0 0 (F0 m pc ls st) rest (Qm (Value.ref b :: As).toArray) A := by
  intro H locs ls hl hP hD hS
  obtain ⟨h2, h3, h4, h5, h6⟩ := hmv
  obtain ⟨hx, hb, hml, hown, hts, -, -, hN, hK⟩ := C0
  exact va_runV (As := As) (rest := rest) (Ts := wG) (nL := nL) ⟨hx, hb, hml, hown, hts⟩ hM (cwV n hts (wG_gc hlink (wG_gc h2 (wG_gc h3 (wG_gc h4 (wG_gc h5 wG_gd))))) rfl hrm.1 hrm.2 h6 hR) ⟨PreW.blind, va_recv hK hP hc he, fun U hU hW => ⟨rfl, by rw [hU]; exact hP, va_K.moved hW.alike hK, hD, NW.warm hW hN⟩⟩ rfl hn hl.1 hst (by simpa [JFrame.monitorRoom] using hw) hdg ⟨Nat.zero_le _, Nat.zero_le _⟩
theorem run_S (C0 : Cx D tys own cc nL rt p s m args meth c) {y : MethodName} {bytes : ByteArray} {maxL n index : Nat} {ret : Option FieldType} {rm : Room} {As : List Value} {Qm : Array Value → State → Outcome → State → Prop} (hM : Met l y (.code y bytes maxL ret :: wG) rm (PreW D tys A wd As σ) Qm 0 0 A) (hms : MS y bytes maxL ret n) (hlink : Cond.methodLink own index y ∈ wG) (hn : As.length = n) (hrm : rm.cells = 0 ∧ rm.slots = 0) (hR : rm.frames + 1 ≤ R.frames ∧ 8 + (maxL + 11) + rm.locals ≤ R.locals) (hst : st = As.reverse ++ rest) (hw : (rest.map fun v => v.category).sum ≤ 8) (hdg : decode cc pc = .ok (.invokestatic index, 3)) :
    ∀ (H : Heap) (locs : List Loc) (ls : Array Slot), lv_has ls nL lv → va_P D vwCl (wd σ) H → va_D A (wd σ) → va_S A s.heap H locs → va_Run p l e R s m args below meth c H locs 0 0 0 0 (F0 m pc ls st) rest (Qm As.toArray) A := by
  intro H locs ls hl hP hD hS
  obtain ⟨h2, h4, h5, h6⟩ := hms
  obtain ⟨hx, hb, hml, hown, hts, -, -, hN, hK⟩ := C0
  exact va_runS (As := As) (rest := rest) (Ts := wG) (nL := nL) ⟨hx, hb, hml, hown, hts⟩ hM (va_cwS n hts (wG_gc hlink (wG_gc h2 (wG_gc h4 (wG_gc h5 wG_gd)))) rfl hrm.1 hrm.2 h6 hR) ⟨PreW.blind, fun U hU hW => ⟨rfl, by rw [hU]; exact hP, va_K.moved hW.alike hK, hD, NW.warm hW hN⟩⟩ rfl hn hl.1 hst (by simpa [JFrame.monitorRoom] using hw) hdg ⟨Nat.zero_le _, Nat.zero_le _⟩
theorem run_SN (C0 : Cx D tys own cc nL rt p s m args meth c) {y : MethodName} {bytes : ByteArray} {maxL n index : Nat} {host : String} {ret : Option FieldType} {rm : Room} {As : List Value} {Qm : Array Value → State → Outcome → State → Prop} (hM : Met l y (.code y bytes maxL ret :: wG) rm (PreW D tys A wd As σ) Qm 0 0 A) (hms : MS y bytes maxL ret n) (hlink : Cond.methodLinkNest own index y host ∈ wN) (hn : As.length = n) (hrm : rm.cells = 0 ∧ rm.slots = 0) (hR : rm.frames + 1 ≤ R.frames ∧ 8 + (maxL + 11) + rm.locals ≤ R.locals) (hst : st = As.reverse ++ rest) (hw : (rest.map fun v => v.category).sum ≤ 8) (hdg : decode cc pc = .ok (.invokestatic index, 3)) :
    ∀ (H : Heap) (locs : List Loc) (ls : Array Slot), lv_has ls nL lv → va_P D vwCl (wd σ) H → va_D A (wd σ) → va_S A s.heap H locs → va_Run p l e R s m args below meth c H locs 0 0 0 0 (F0 m pc ls st) rest (Qm As.toArray) A := by
  intro H locs ls hl hP hD hS
  obtain ⟨h2, h4, h5, h6⟩ := hms
  obtain ⟨hx, hb, hml, hown, hts, -, -, hN, hK⟩ := C0
  exact va_runSN (As := As) (rest := rest) (Ts := wG) (nL := nL) ⟨hx, hb, hml, hown, hts⟩ hM ⟨va_cnB n hts (wG_gc h5 wG_gd) rfl hrm.1 hrm.2 (hN _ hlink) (hts _ h4) h6 hR, hts _ h2, trivial⟩ ⟨PreW.blind, fun U hU hW => ⟨rfl, by rw [hU]; exact hP, va_K.moved hW.alike hK, hD, NW.warm hW hN⟩⟩ rfl hn hl.1 hst (by simpa [JFrame.monitorRoom] using hw) hdg ⟨Nat.zero_le _, Nat.zero_le _⟩
theorem fin_I {a : Array Value} {G : Option (Int32 × S)} {K : Int32 → S → Option ρ} (hrun : ∀ r, G = some r → ∀ (H : Heap) (locs : List Loc) (ls : Array Slot), lv_has ls nL lv → va_P D vwCl (wd σ) H → va_D A (wd σ) → va_S A s.heap H locs → va_Run p l e R s m args below meth c H locs 0 0 0 0 (F0 m pc ls st) rest (QI D A wd r a) A) (k : ∀ (v : Int32) (σ' : S), G = some (v, σ') → J p l e R s m args below meth c D A wd nL Qc (K v σ') σ' lv (.int v :: rest) (pc + 3)) : J p l e R s m args below meth c D A wd nL Qc (bnd G K) σ lv st pc := by
  intro r hr H locs ls hl hP hD hS
  obtain ⟨g, hg, hk⟩ := Option.bind_eq_some_iff.mp hr
  refine va_calli (hrun g hg H locs ls hl hP hD hS) hS (fun _ _ h => h) (fun _ h => h) (fun v u t H1 locs1 ht _ hp hB _ _ hS1 => ?_)
  obtain ⟨rfl, rfl⟩ := hp
  exact k g.1 g.2 hg r hk H1 locs1 ls hl (ht ▸ hB.1) hB.2 hS1
theorem fin_P {a : Array Value} {G : Option Int32} {K : Int32 → Option ρ} (hrun : ∀ r, G = some r → ∀ (H : Heap) (locs : List Loc) (ls : Array Slot), lv_has ls nL lv → va_P D vwCl (wd σ) H → va_D A (wd σ) → va_S A s.heap H locs → va_Run p l e R s m args below meth c H locs 0 0 0 0 (F0 m pc ls st) rest (QI D A wd (r, σ) a) A) (k : ∀ (v : Int32), G = some v → J p l e R s m args below meth c D A wd nL Qc (K v) σ lv (.int v :: rest) (pc + 3)) : J p l e R s m args below meth c D A wd nL Qc (G.bind K) σ lv st pc := by
  intro r hr H locs ls hl hP hD hS
  obtain ⟨g, hg, hk⟩ := Option.bind_eq_some_iff.mp hr
  refine va_calli (hrun g hg H locs ls hl hP hD hS) hS (fun _ _ h => h) (fun _ h => h) (fun v u t H1 locs1 ht _ hp hB _ _ hS1 => ?_)
  obtain ⟨rfl, rfl⟩ := hp
  exact k v hg r hk H1 locs1 ls hl (ht ▸ hB.1) hB.2 hS1
theorem fin_L {a : Array Value} {G : Option Int64} {K : Int64 → Option ρ} (hrun : ∀ r, G = some r → ∀ (H : Heap) (locs : List Loc) (ls : Array Slot), lv_has ls nL lv → va_P D vwCl (wd σ) H → va_D A (wd σ) → va_S A s.heap H locs → va_Run p l e R s m args below meth c H locs 0 0 0 0 (F0 m pc ls st) rest (QL D A wd (r, σ) a) A) (k : ∀ (v : Int64), G = some v → J p l e R s m args below meth c D A wd nL Qc (K v) σ lv (.long v :: rest) (pc + 3)) : J p l e R s m args below meth c D A wd nL Qc (G.bind K) σ lv st pc := by
  intro r hr H locs ls hl hP hD hS
  obtain ⟨g, hg, hk⟩ := Option.bind_eq_some_iff.mp hr
  refine va_calll (hrun g hg H locs ls hl hP hD hS) hS (fun _ _ h => h) (fun _ h => h) (fun v u t H1 locs1 ht _ hp hB _ _ hS1 => ?_)
  obtain ⟨rfl, rfl⟩ := hp
  exact k v hg r hk H1 locs1 ls hl (ht ▸ hB.1) hB.2 hS1
theorem fin_V {a : Array Value} {G : Option S} {K : S → Option ρ} (hrun : ∀ r, G = some r → ∀ (H : Heap) (locs : List Loc) (ls : Array Slot), lv_has ls nL lv → va_P D vwCl (wd σ) H → va_D A (wd σ) → va_S A s.heap H locs → va_Run p l e R s m args below meth c H locs 0 0 0 0 (F0 m pc ls st) rest (QV D A wd r a) A) (k : ∀ (σ' : S), G = some σ' → J p l e R s m args below meth c D A wd nL Qc (K σ') σ' lv rest (pc + 3)) : J p l e R s m args below meth c D A wd nL Qc (G.bind K) σ lv st pc := by
  intro r hr H locs ls hl hP hD hS
  obtain ⟨g, hg, hk⟩ := Option.bind_eq_some_iff.mp hr
  refine va_callv (hrun g hg H locs ls hl hP hD hS) hS (fun _ _ h => h) (fun _ h => h) (fun u t H1 locs1 ht _ hp hB _ _ hS1 => ?_)
  subst hp
  exact k u hg r hk H1 locs1 ls hl (ht ▸ hB.1) hB.2 hS1
theorem fin_T {a : Array Value} {v : Int32} (hrun : ∀ (H : Heap) (locs : List Loc) (ls : Array Slot), lv_has ls nL lv → va_P D vwCl (wd σ) H → va_D A (wd σ) → va_S A s.heap H locs → va_Run p l e R s m args below meth c H locs 0 0 0 0 (F0 m pc ls st) rest (QI D A wd (v, σ) a) A) (k : J p l e R s m args below meth c D A wd nL Qc M σ lv (.int v :: rest) (pc + 3)) : J p l e R s m args below meth c D A wd nL Qc M σ lv st pc := by
  intro r hr H locs ls hl hP hD hS
  refine va_calli (hrun H locs ls hl hP hD hS) hS (fun _ _ h => h) (fun _ h => h) (fun v u t H1 locs1 ht _ hp hB _ _ hS1 => ?_)
  obtain ⟨rfl, rfl⟩ := hp
  exact k r hr H1 locs1 ls hl (ht ▸ hB.1) hB.2 hS1
theorem fin_TL {a : Array Value} {v : Int64} (hrun : ∀ (H : Heap) (locs : List Loc) (ls : Array Slot), lv_has ls nL lv → va_P D vwCl (wd σ) H → va_D A (wd σ) → va_S A s.heap H locs → va_Run p l e R s m args below meth c H locs 0 0 0 0 (F0 m pc ls st) rest (QL D A wd (v, σ) a) A) (k : J p l e R s m args below meth c D A wd nL Qc M σ lv (.long v :: rest) (pc + 3)) : J p l e R s m args below meth c D A wd nL Qc M σ lv st pc := by
  intro r hr H locs ls hl hP hD hS
  refine va_calll (hrun H locs ls hl hP hD hS) hS (fun _ _ h => h) (fun _ h => h) (fun v u t H1 locs1 ht _ hp hB _ _ hS1 => ?_)
  obtain ⟨rfl, rfl⟩ := hp
  exact k r hr H1 locs1 ls hl (ht ▸ hB.1) hB.2 hS1
theorem fin_TV {a : Array Value} {σ' : S} (hrun : ∀ (H : Heap) (locs : List Loc) (ls : Array Slot), lv_has ls nL lv → va_P D vwCl (wd σ) H → va_D A (wd σ) → va_S A s.heap H locs → va_Run p l e R s m args below meth c H locs 0 0 0 0 (F0 m pc ls st) rest (QV D A wd σ' a) A) (k : J p l e R s m args below meth c D A wd nL Qc M σ' lv rest (pc + 3)) : J p l e R s m args below meth c D A wd nL Qc M σ lv st pc := by
  intro r hr H locs ls hl hP hD hS
  refine va_callv (hrun H locs ls hl hP hD hS) hS (fun _ _ h => h) (fun _ h => h) (fun u t H1 locs1 ht _ hp hB _ _ hS1 => ?_)
  subst hp
  exact k r hr H1 locs1 ls hl (ht ▸ hB.1) hB.2 hS1
theorem fin_TI {a : Array Value} {v : Int32} {σ' : S} (hrun : ∀ (H : Heap) (locs : List Loc) (ls : Array Slot), lv_has ls nL lv → va_P D vwCl (wd σ) H → va_D A (wd σ) → va_S A s.heap H locs → va_Run p l e R s m args below meth c H locs 0 0 0 0 (F0 m pc ls st) rest (QI D A wd (v, σ') a) A) (k : J p l e R s m args below meth c D A wd nL Qc M σ' lv (.int v :: rest) (pc + 3)) : J p l e R s m args below meth c D A wd nL Qc M σ lv st pc := by
  intro r hr H locs ls hl hP hD hS
  refine va_calli (hrun H locs ls hl hP hD hS) hS (fun _ _ h => h) (fun _ h => h) (fun v u t H1 locs1 ht _ hp hB _ _ hS1 => ?_)
  obtain ⟨rfl, rfl⟩ := hp
  exact k r hr H1 locs1 ls hl (ht ▸ hB.1) hB.2 hS1
/-- a contract out of a walk from its entry -/
theorem met_of {y : MethodName} {cc : ByteArray} {maxL : Nat} {rt : Option FieldType} {rm : Room} {av : List Value} {r : ρ} (hy : plainName y.cls = true) (hle : (lg_sl av).length ≤ maxL) (hM : M = some r)
    (h : ∀ (p : Program) (e : Env) (s : State) (m : MethodId) (below : List Frame) (meth : Method) (c : Code), Cx D tys y.cls cc maxL rt p s m av.toArray meth c → J p l e rm s m av.toArray below meth c D A wd maxL Qc M σ (lv_args 0 av) [] 0) :
    Met l y (.code y cc maxL rt :: wG) rm (PreW D tys A wd av σ) (Qc r) 0 0 A := by
  refine Met.ofW (cc := cc) (maxL := maxL) (ret := rt) hy rfl ?_
  intro p e s m args below meth c s₁ B hml hv
  obtain ⟨rfl, hP, hK, hD, hN⟩ := hv
  have hts := atoms_spec (ws := .code y cc maxL rt :: wG) B.pre
  have C0 : Cx D tys y.cls cc maxL rt p s m av.toArray meth c := ⟨B.exec, B.bytes, hml, findClass_of_methodNamed B.named, fun w hw => hts w (List.mem_cons_of_mem _ hw), B.returns, B.notSynchronized, hN, hK⟩
  have hl := lv_entry av (n := maxL) hle
  rw [lg_entry_eq]
  exact h p e s m below meth c C0 r hM s.heap [] _ hl hP hD va_S.rf
end JR
