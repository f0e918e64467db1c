/-! wrong, hardest, pairs -/
section Q2
variable {b : Bd} {σ : SC} {τ : SR}
def noW (b : Bd) (s : Nat) : Bool := decide (fnd (fun j => decide (nI (b.2.2 j) = nI (lcd b s (sZ b s)))) b.2.1 0 = -1)
def tw (b : Bd) (s : Nat) : Bool := (List.range s).any (fun t => full b t && decide (lcd b t (sZ b t) = lcd b s (sZ b s)))
theorem tw_iff {s : Nat} : tw b s = true ↔ ∃ t, t < s ∧ full b t = true ∧ lcd b t (sZ b t) = lcd b s (sZ b s) := by
  unfold tw
  simp only [List.any_eq_true, List.mem_range, Bool.and_eq_true, decide_eq_true_eq]
def wrN (b : Bd) : Nat → Nat
  | 0 => 0
  | s + 1 => if full b s = true then wrN b s + (if noW b s = true then 1 else 0) + (if tw b s = true then 1 else 0) else wrN b s
theorem wrN_le (b : Bd) : ∀ s, wrN b s ≤ 2 * s
  | 0 => by simp [wrN]
  | s + 1 => by
    have := wrN_le b s
    show (if full b s = true then wrN b s + (if noW b s = true then 1 else 0) + (if tw b s = true then 1 else 0) else wrN b s) ≤ _
    split
    · split <;> split <;> omega
    · omega
theorem wrongC_ok (hc : CB b σ) (hv : VB b) (hd : DS b σ) : f_X7_wrongSlots σ = some (nI (wrN b (nS b))) := by
  have h8 := nS_le b
  have key : ∀ (m n s : Nat), s + m = nS b → m < n → f_X7_wrongSlots_L4 σ n (nI (wrN b s)) (nI s) = some (nI (wrN b (nS b))) := by
    intro m
    induction m with
    | zero =>
      intro n s h1 h2
      obtain ⟨n, rfl⟩ := succ_of h2
      rw [f_X7_wrongSlots_L4_s, hd.1, if_le (by omega) (by omega), show s = nS b by omega]
    | succ m ih =>
      intro n s h1 h2
      obtain ⟨n, rfl⟩ := succ_of h2
      have hs' : s < nS b := by omega
      have hl := cdv_lt hv hs'
      have ih' := ih n (s + 1) (by omega) (by omega)
      rw [f_X7_wrongSlots_L4_s, hd.1, if_nle (by omega) (by omega), codeIn_v hc hv hd hs', Option.bind_some]
      by_cases g : full b s = true
      · have hne : cdv b s ≠ 0 := fun z => by rw [(cdv_0 hs').mp z] at g; cases g
        have ecd : cdv b s = lcd b s (sZ b s) := by unfold cdv; rw [if_pos g]
        have eS : wrN b (s + 1) = wrN b s + (if noW b s = true then 1 else 0) + (if tw b s = true then 1 else 0) := if_pos g
        have hK : ∀ y0 : Nat, f_X7_wrongSlots_K50 (f_X7_wrongSlots_L4 σ n) σ (nI s) (nI (cdv b s)) (nI y0) (nI (wrN b s)) = f_X7_wrongSlots_L4 σ n (nI (wrN b s + y0 + (if tw b s = true then 1 else 0))) (nI (s + 1)) := by
          intro y0
          unfold f_X7_wrongSlots_K50
          rw [firstReads_ok hc hv hd, Option.bind_some, nI_1]
          by_cases q : tw b s = true
          · obtain ⟨t, t1, t2, t3⟩ := tw_iff.mp q
            rw [if_pos q]
            rcases fnd_cases (fun u => decide (nI (cdv b u) = nI (cdv b s))) (nS b) 0 with ⟨z1, z2⟩ | ⟨i, z1, z2, z3, z4, z5⟩
            · have := z2 s (by omega) (by omega)
              simp at this
            · have hi : i ≤ t := by
                rcases Nat.lt_or_ge t i with y | y
                · have := z4 t (by omega) y
                  have e : cdv b t = cdv b s := by rw [ecd]; unfold cdv; rw [if_pos t2, t3]
                  rw [e] at this
                  simp at this
                · exact y
              rw [z5, if_neq (show i ≠ s by omega) (by omega) (by omega), nI_add, nI_1]
          · rw [if_neg q, fnd_some (i := s) (by omega) (by omega) (decide_eq_true rfl), if_eq rfl, nI_add, Int32.add_zero]
            · rfl
            · intro t _ ht
              apply decide_eq_false
              intro z
              have hlt := cdv_lt hv (show t < nS b by omega)
              have e := (nI_eq (by omega) (by omega)).mp z
              have ft : full b t = true := by
                by_cases y : full b t = true
                · exact y
                · rw [(cdv_0 (show t < nS b by omega)).mpr (by simpa using y)] at e; omega
              apply q
              refine tw_iff.mpr ⟨t, ht, ft, ?_⟩
              rw [← ecd, ← e]; unfold cdv; rw [if_pos ft]
        have hK1 := hK 1
        have hK0 := hK 0
        rw [show nI 1 = (1 : Int32) from rfl] at hK1
        rw [show nI 0 = (0 : Int32) from rfl] at hK0
        rw [if_ne0 (by omega) (by omega), numberOf_ok hc hv, Option.bind_some, hK1, hK0]
        rw [eS] at ih'
        by_cases q : fnd (fun j => decide (nI (b.2.2 j) = nI (cdv b s))) b.2.1 0 = -1
        · rw [if_pos q]
          rw [if_pos (show noW b s = true by unfold noW; rw [← ecd]; exact decide_eq_true q)] at ih'
          exact ih'
        · rw [if_neg q]
          rw [if_neg (show ¬ noW b s = true by unfold noW; rw [← ecd]; simpa using q)] at ih'
          exact ih'
      · have g' : full b s = false := by simpa using g
        have eS : wrN b (s + 1) = wrN b s := if_neg g
        rw [(cdv_0 hs').mpr g', nI_0, if00, nI_1, ← eS]
        exact ih'
  have := key (nS b) FU 0 (by omega) (by have := FU_big; omega)
  rw [nI_0] at this
  exact this
theorem wrongR_ok (hr : RB b τ) (hv : VB b) : ∃ τ', f_X8_wrong τ = some (nI (wrN b (nS b)), τ') ∧ FR τ τ' := by
  have h8 := nS_le b
  obtain ⟨τ1, e1, e2, e3, -⟩ := lay_ok hr hv
  have hr1 := e3.rb hr
  have inner : ∀ (s : Nat) (x1 : Int32) (kx : SR → Int32 → Option (Int32 × SR)), s < nS b → full b s = true → ∀ (m n t : Nat) (q : Bool), t + m = s → m < n → f_X8_wrong_L29 x1 (nI s) kx n τ1 (b2 q) (nI t) = kx τ1 (b2 (q || (List.range s).any (fun u => decide (t ≤ u) && (full b u && decide (lcd b u (sZ b u) = lcd b s (sZ b s)))))) := by
    intro s x1 kx hs' hf m
    induction m with
    | zero =>
      intro n t q h1 h2
      obtain ⟨n, rfl⟩ := succ_of h2
      rw [f_X8_wrong_L29_s, if_le (by omega) (by omega)]
      have : (List.range s).any (fun u => decide (t ≤ u) && (full b u && decide (lcd b u (sZ b u) = lcd b s (sZ b s)))) = false := by
        apply Bool.eq_false_iff.mpr
        intro z
        simp only [List.any_eq_true, List.mem_range, Bool.and_eq_true, decide_eq_true_eq] at z
        obtain ⟨u, u1, u2, -⟩ := z; omega
      rw [this, Bool.or_false]
    | succ m ih =>
      intro n t q h1 h2
      obtain ⟨n, rfl⟩ := succ_of h2
      have ht : t < nS b := by omega
      have z1 := sZ_24 hs'
      have z2 := sZ_24 ht
      have l1 := lcd_2401 hv hs'
      have l2 := lcd_2401 hv ht
      have e0 : (0 : Int32) = b2 false := rfl
      have e1' : (1 : Int32) = b2 true := rfl
      have hsplit : ∀ g : Bool, g = (full b t && decide (lcd b t (sZ b t) = lcd b s (sZ b s))) → (List.range s).any (fun u => decide (t ≤ u) && (full b u && decide (lcd b u (sZ b u) = lcd b s (sZ b s)))) = (g || (List.range s).any (fun u => decide (t + 1 ≤ u) && (full b u && decide (lcd b u (sZ b u) = lcd b s (sZ b s))))) := by
        rintro g rfl
        apply Bool.eq_iff_iff.mpr
        simp only [Bool.or_eq_true, List.any_eq_true, List.mem_range, Bool.and_eq_true, decide_eq_true_eq]
        constructor
        · rintro ⟨u, u1, u2, u3⟩
          by_cases e : u = t
          · left; rw [← e]; exact u3
          · right; exact ⟨u, u1, by omega, u3⟩
        · rintro (h | ⟨u, u1, u2, u3⟩)
          · exact ⟨t, by omega, Nat.le_refl _, h⟩
          · exact ⟨u, u1, by omega, u3⟩
      rw [f_X8_wrong_L29_s, if_nle (by omega) (by omega), nI_1]
      cases q with
      | true =>
        rw [if_b1 rfl, e1', ih n (t + 1) true (by omega) (by omega), Bool.true_or, Bool.true_or]
      | false =>
        rw [if_b0 rfl, isFull_ok hr1 hv e2 ht, Option.bind_some, Bool.false_or]
        by_cases g : full b t = true
        · rw [if_b1 g, if_in (by omega), if_in (by omega), ix_nI (by omega), ix_nI (by omega), (e2.2 t ht).2.1, (e2.2 s hs').2.1]
          by_cases gz : sZ b t = sZ b s
          · rw [if_eq gz, lettersOf_ok hr1 hv e2 ht, Option.bind_some, lettersOf_ok hr1 hv e2 hs', Option.bind_some]
            by_cases gl : lcd b t (sZ b t) = lcd b s (sZ b s)
            · rw [if_eq gl, e1', ih n (t + 1) true (by omega) (by omega), hsplit true (by simp [g, gl])]
            · rw [if_neq gl (by omega) (by omega), e0, ih n (t + 1) false (by omega) (by omega), hsplit false (by simp [gl])]
          · have gl : lcd b t (sZ b t) ≠ lcd b s (sZ b s) := fun z => gz (lcd_size hv ht hs' g hf z)
            rw [if_neq gz (by omega) (by omega), e0, ih n (t + 1) false (by omega) (by omega), hsplit false (by simp [gl])]
        · have g' : full b t = false := by simpa using g
          rw [if_b0 g', e0, ih n (t + 1) false (by omega) (by omega), hsplit false (by simp [g'])]
  have key : ∀ (m n s : Nat), s + m = nS b → m < n → f_X8_wrong_L8 n τ1 (nI (wrN b s)) (nI s) = some (nI (wrN b (nS b)), τ1) := by
    intro m
    induction m with
    | zero =>
      intro n s h1 h2
      obtain ⟨n, rfl⟩ := succ_of h2
      rw [f_X8_wrong_L8_s, e2.1, if_le (by omega) (by omega), show s = nS b by omega]
    | succ m ih =>
      intro n s h1 h2
      obtain ⟨n, rfl⟩ := succ_of h2
      have hs' : s < nS b := by omega
      have ih' := ih n (s + 1) (by omega) (by omega)
      rw [f_X8_wrong_L8_s, e2.1, if_nle (by omega) (by omega), isFull_ok hr1 hv e2 hs', Option.bind_some, nI_1]
      by_cases g : full b s = true
      · have eS : wrN b (s + 1) = wrN b s + (if noW b s = true then 1 else 0) + (if tw b s = true then 1 else 0) := if_pos g
        rw [eS] at ih'
        have hi := inner s (nI (wrN b s)) (fun σ_90 x3_90 => ((f_X8_lettersOf σ_90 (nI s)).bind fun r94 => ((f_X8_findCode σ_90 r94).bind fun r97 => (if r97 = (-1) then (f_X8_wrong_K109 (f_X8_wrong_L8 n) σ_90 (nI s) x3_90 1 (nI (wrN b s))) else (f_X8_wrong_K109 (f_X8_wrong_L8 n) σ_90 (nI s) x3_90 0 (nI (wrN b s))))))) hs' g s FU 0 false (by omega) (by have := FU_big; omega)
        rw [nI_0] at hi
        rw [if_b1 g]
        refine Eq.trans hi ?_
        have etw : (false || (List.range s).any (fun u => decide (0 ≤ u) && (full b u && decide (lcd b u (sZ b u) = lcd b s (sZ b s))))) = tw b s := by
          rw [Bool.false_or]; unfold tw; simp
        rw [etw]
        show ((f_X8_lettersOf τ1 (nI s)).bind _) = _
        have hK : ∀ y0 : Nat, f_X8_wrong_K109 (f_X8_wrong_L8 n) τ1 (nI s) (b2 (tw b s)) (nI y0) (nI (wrN b s)) = f_X8_wrong_L8 n τ1 (nI (wrN b s + y0 + (if tw b s = true then 1 else 0))) (nI (s + 1)) := by
          intro y0
          unfold f_X8_wrong_K109
          rw [nI_add, nI_1]
          by_cases q : tw b s = true
          · rw [if_b1 q, if_pos q, nI_1]
          · rw [if_b0 (by simpa using q), if_neg q, Int32.add_zero]; rfl
        have hK1 := hK 1
        have hK0 := hK 0
        rw [show nI 1 = (1 : Int32) from rfl] at hK1
        rw [show nI 0 = (0 : Int32) from rfl] at hK0
        rw [lettersOf_ok hr1 hv e2 hs', Option.bind_some, findCode_ok hr1 hv, Option.bind_some, hK1, hK0]
        by_cases q : fnd (fun j => decide (nI (b.2.2 j) = nI (lcd b s (sZ b s)))) b.2.1 0 = -1
        · rw [if_pos q]
          rw [if_pos (show noW b s = true from decide_eq_true q)] at ih'
          exact ih'
        · rw [if_neg q]
          rw [if_neg (show ¬ noW b s = true by unfold noW; simpa using q)] at ih'
          exact ih'
      · have eS : wrN b (s + 1) = wrN b s := if_neg g
        rw [if_b0 (by simpa using g), ← eS]
        exact ih'
  refine ⟨τ1, ?_, e3⟩
  unfold f_X8_wrong
  have := key (nS b) FU 0 (by omega) (by have := FU_big; omega)
  rw [nI_0] at this
  rw [e1, Option.bind_some]
  exact this
/-! hardest -/
def xN (b : Bd) (s : Nat) : Nat := ct (fun t => decide (t < nS b) && X b s t) 16
def lN' (b : Bd) (s : Nat) : Nat := ct (leftB b s) 16
def harder (b : Bd) (s h : Nat) : Bool := decide (lN' b s < lN' b h) || (decide (lN' b s = lN' b h) && decide (xN b h < xN b s))
def hN (b : Bd) : Nat → Option Nat
  | 0 => none
  | s + 1 => if full b s = true then hN b s else match hN b s with
    | none => some s
    | some h => if harder b s h = true then some s else some h
def enc : Option Nat → Int32
  | none => -1
  | some h => nI h
theorem hN_lt : ∀ {s h : Nat}, hN b s = some h → h < s
  | 0, h, e => by cases e
  | s + 1, h, e => by
    have e' : (if full b s = true then hN b s else match hN b s with
      | none => some s
      | some h => if harder b s h = true then some s else some h) = some h := e
    by_cases g : full b s = true
    · rw [if_pos g] at e'
      have := hN_lt e'; omega
    · rw [if_neg g] at e'
      cases q : hN b s with
      | none => rw [q] at e'; cases e'; omega
      | some h2 =>
        rw [q] at e'
        have := hN_lt q
        by_cases y : harder b s h2 = true
        · simp only [if_pos y] at e'; cases e'; omega
        · simp only [if_neg y] at e'; cases e'; omega
theorem left_16 (hv : VB b) {s : Nat} : ∀ k, 16 ≤ k → leftB b s k = false := by
  intro k hk
  apply Bool.eq_false_iff.mpr
  intro z
  have hsup : Sup b (leftB b) := it_sup (fun _ _ h => h)
  have := (hsup.len z).1
  have := hv.2.1
  omega
theorem cross_16 {s : Nat} : ∀ k, 16 ≤ k → (decide (k < nS b) && X b s k) = false := by
  intro k hk
  have := nS_le b
  rw [decide_eq_false (by omega), Bool.false_and]
theorem isHarder_ok (hv : VB b) (hd : DS b σ) (hl : DC b σ) {s h : Nat} (hs' : s < nS b) (hh : h < nS b) : f_X7_isHarder σ (nI s) (nI h) = some (b2 (harder b s h)) := by
  have h8 := nS_le b
  have c1 := ct_le (leftB b s) 16
  have c2 := ct_le (leftB b h) 16
  have c3 := ct_le (fun t => decide (t < nS b) && X b s t) 16
  have c4 := ct_le (fun t => decide (t < nS b) && X b h t) 16
  unfold f_X7_isHarder
  rw [rd_in σ (show s < lnC 12 by show s < 8; omega), rd_in σ (show h < lnC 12 by show h < 8; omega), bitCount_ok (hl.2 s hs') (left_16 hv), Option.bind_some, bitCount_ok (hl.2 h hh) (left_16 hv), Option.bind_some, rd_in σ (show s < lnC 4 by show s < 8; omega), rd_in σ (show h < lnC 4 by show h < 8; omega), bitCount_ok (hd.2.2.2.1 s hs').2.2.1 cross_16, bitCount_ok (hd.2.2.2.1 h hh).2.2.1 cross_16]
  simp only [Option.bind_some]
  unfold harder
  show (if nI (lN' b s) = nI (lN' b h) then _ else _) = _
  have d1 : lN' b s ≤ 16 := c1
  have d2 : lN' b h ≤ 16 := c2
  have d3 : xN b s ≤ 16 := c3
  have d4 : xN b h ≤ 16 := c4
  by_cases g : lN' b s = lN' b h
  · rw [if_eq g]
    show (if nI (xN b s) ≤ nI (xN b h) then _ else _) = _
    by_cases q : xN b h < xN b s
    · rw [if_nle q (by omega)]; simp [g, q, b2]
    · rw [if_le (by omega) (by omega)]; simp [g, q, b2]
  · rw [if_neq g (by omega) (by omega)]
    show (if nI (lN' b h) ≤ nI (lN' b s) then _ else _) = _
    by_cases q : lN' b s < lN' b h
    · rw [if_nle q (by omega)]; simp [q, b2]
    · rw [if_le (by omega) (by omega)]; simp [g, q, b2]
theorem hardestC_ok (hc : CB b σ) (hv : VB b) (hd : DS b σ) (hl : DC b σ) : f_X7_hardestSlot σ = some (enc (hN b (nS b))) := by
  have h8 := nS_le b
  have key : ∀ (m n s : Nat), s + m = nS b → m < n → f_X7_hardestSlot_L4 σ n (enc (hN b s)) (nI s) = some (enc (hN b (nS b))) := by
    intro m
    induction m with
    | zero =>
      intro n s h1 h2
      obtain ⟨n, rfl⟩ := succ_of h2
      rw [f_X7_hardestSlot_L4_s, hd.1, if_le (by omega) (by omega), show s = nS b by omega]
    | succ m ih =>
      intro n s h1 h2
      obtain ⟨n, rfl⟩ := succ_of h2
      have hs' : s < nS b := by omega
      have hlt := cdv_lt hv hs'
      have ih' := ih n (s + 1) (by omega) (by omega)
      have eS : hN b (s + 1) = if full b s = true then hN b s else match hN b s with
        | none => some s
        | some h => if harder b s h = true then some s else some h := rfl
      rw [eS] at ih'
      rw [f_X7_hardestSlot_L4_s, hd.1, if_nle (by omega) (by omega), codeIn_v hc hv hd hs', Option.bind_some, nI_1]
      by_cases g : full b s = true
      · have hne : cdv b s ≠ 0 := fun z => by rw [(cdv_0 hs').mp z] at g; cases g
        rw [if_pos g] at ih'
        rw [if_ne0 (by omega) (by omega)]
        exact ih'
      · have g' : full b s = false := by simpa using g
        rw [if_neg g] at ih'
        rw [(cdv_0 hs').mpr g', nI_0, if00]
        cases q : hN b s with
        | none =>
          rw [q] at ih'
          rw [if_t (show enc none = -1 from rfl)]
          exact ih'
        | some h =>
          rw [q] at ih'
          have hh := hN_lt q
          show (if nI h = -1 then _ else _) = _
          rw [if_nm1 (by omega)]
          show ((f_X7_isHarder σ (nI s) (nI h)).bind _) = _
          rw [isHarder_ok hv hd hl hs' (by omega), Option.bind_some]
          by_cases y : harder b s h = true
          · rw [if_b1 y]
            simp only [if_pos y] at ih'
            exact ih'
          · rw [if_b0 (by simpa using y)]
            simp only [if_neg y] at ih'
            exact ih'
  have := key (nS b) FU 0 (by omega) (by have := FU_big; omega)
  rw [nI_0] at this
  exact this
theorem neg_of {a c : Nat} (ha : a ≤ 16) (hc : c ≤ 16) : (0 ≤ nI a - nI c ↔ c ≤ a) ∧ (nI a - nI c = 0 ↔ a = c) := by
  have key : ∀ a, a ≤ 16 → ∀ c, c ≤ 16 → (0 ≤ nI a - nI c ↔ c ≤ a) ∧ (nI a - nI c = 0 ↔ a = c) := by decide +kernel
  exact key a ha c hc
theorem hardestR_ok (hr : RB b τ) (hv : VB b) : ∃ τ', f_X8_hardest τ = some (enc (hN b (nS b)), τ') ∧ FR τ τ' := by
  have h8 := nS_le b
  obtain ⟨τ1, e1, hr1, e2, e3, e4⟩ := layLeft_ok hr hv
  have key : ∀ (m n s : Nat), s + m = nS b → m < n → f_X8_hardest_L8 n τ1 (enc (hN b s)) (nI s) = some (enc (hN b (nS b)), τ1) := by
    intro m
    induction m with
    | zero =>
      intro n s h1 h2
      obtain ⟨n, rfl⟩ := succ_of h2
      rw [f_X8_hardest_L8_s, e2.1, if_le (by omega) (by omega), show s = nS b by omega]
    | succ m ih =>
      intro n s h1 h2
      obtain ⟨n, rfl⟩ := succ_of h2
      have hs' : s < nS b := by omega
      have ih' := ih n (s + 1) (by omega) (by omega)
      have eS : hN b (s + 1) = if full b s = true then hN b s else match hN b s with
        | none => some s
        | some h => if harder b s h = true then some s else some h := rfl
      rw [eS] at ih'
      rw [f_X8_hardest_L8_s, e2.1, if_nle (by omega) (by omega), isFull_ok hr1 hv e2 hs', Option.bind_some, nI_1]
      by_cases g : full b s = true
      · rw [if_pos g] at ih'
        rw [if_b1 g]
        exact ih'
      · rw [if_neg g] at ih'
        rw [if_b0 (by simpa using g)]
        cases q : hN b s with
        | none =>
          rw [q] at ih'
          rw [if_t (show enc none = -1 from rfl)]
          unfold f_X8_hardest_K52 f_X8_hardest_K78
          rw [if_neg (by decide), if_neg (by decide), nI_1]
          exact ih'
        | some h =>
          rw [q] at ih'
          have hh := hN_lt q
          have hh' : h < nS b := by omega
          have d1 : lN' b s ≤ 16 := ct_le _ _
          have d2 : lN' b h ≤ 16 := ct_le _ _
          have d3 : xN b s ≤ 16 := ct_le _ _
          have d4 : xN b h ≤ 16 := ct_le _ _
          show (if nI h = -1 then _ else _) = _
          rw [if_nm1 (by omega), if_in (by omega), ix_nI (by omega), bits_ok (e4 s hs') (left_16 hv), Option.bind_some]
          show (if inb (nI h) 8 = true then _ else _) = _
          rw [if_in (by omega)]
          show ((f_X8_bits (τ1.1 7 (ix (nI h)))).bind _) = _
          rw [ix_nI (by omega), bits_ok (e4 h hh') (left_16 hv), Option.bind_some]
          show f_X8_hardest_K52 (f_X8_hardest_L8 n) τ1 (nI h) (nI s) (nI (lN' b s) - nI (lN' b h)) = _
          have hK : ∀ a c : Nat, a ≤ 16 → c ≤ 16 → f_X8_hardest_K78 (f_X8_hardest_L8 n) τ1 (nI h) (nI s) (nI a - nI c) = if c ≤ a then f_X8_hardest_L8 n τ1 (nI h) (nI (s + 1)) else f_X8_hardest_L8 n τ1 (nI s) (nI (s + 1)) := by
            intro a c ha hc
            unfold f_X8_hardest_K78
            rw [nI_1]
            by_cases y : c ≤ a
            · rw [if_pos ((neg_of ha hc).1.mpr y), if_pos y]
            · rw [if_neg (fun z => y ((neg_of ha hc).1.mp z)), if_neg y]
          unfold f_X8_hardest_K52
          by_cases y : lN' b s = lN' b h
          · obtain ⟨x1, x2, x3⟩ := crossed_ok e2 hh'
            obtain ⟨x4, x5, x6⟩ := crossed_ok e2 hs'
            rw [if_pos ((neg_of d1 d2).2.mpr y), x2, Option.bind_some, bits_ok x3 cross_16, Option.bind_some, x5, Option.bind_some, bits_ok x6 cross_16, Option.bind_some]
            show f_X8_hardest_K78 (f_X8_hardest_L8 n) τ1 (nI h) (nI s) (nI (xN b h) - nI (xN b s)) = _
            rw [hK _ _ d4 d3]
            by_cases z : xN b h < xN b s
            · have hd' : harder b s h = true := by unfold harder; simp [y, z]
              simp only [if_pos hd'] at ih'
              rw [if_neg (by omega)]
              exact ih'
            · have hd' : harder b s h = false := by unfold harder; simp [y, z]
              simp only [hd', Bool.false_eq_true, if_false] at ih'
              rw [if_pos (by omega)]
              exact ih'
          · rw [if_neg (fun z => y ((neg_of d1 d2).2.mp z)), hK _ _ d1 d2]
            by_cases z : lN' b s < lN' b h
            · have hd' : harder b s h = true := by unfold harder; simp [z]
              simp only [if_pos hd'] at ih'
              rw [if_neg (by omega)]
              exact ih'
            · have hd' : harder b s h = false := by unfold harder; simp [y, z]
              simp only [hd', Bool.false_eq_true, if_false] at ih'
              rw [if_pos (by omega)]
              exact ih'
  refine ⟨τ1, ?_, e3⟩
  unfold f_X8_hardest
  have := key (nS b) FU 0 (by omega) (by have := FU_big; omega)
  rw [nI_0] at this
  rw [e1, Option.bind_some]
  exact this
end Q2
