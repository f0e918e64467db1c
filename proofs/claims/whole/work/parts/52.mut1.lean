section IFC
variable {α : Type} {M N : α} {k j : Nat}
theorem if10 : (if (1 : Int32) = 0 then M else N) = N := if_neg (by decide)
theorem if00 : (if (0 : Int32) = 0 then M else N) = M := if_pos rfl
theorem if_cm (h : k ≤ 7) (g : k = 7) : (if cV k = -1 then M else N) = M := if_pos (by rw [cV_m1 h]; exact g)
theorem if_cn (h : k ≤ 7) (g : k ≠ 7) : (if cV k = -1 then M else N) = N := if_neg (by rw [cV_m1 h]; exact g)
theorem if_rm (h : k ≤ 7) (g : k = 7) : (if rV k = -1 then M else N) = M := if_pos (by rw [rV_m1 h]; exact g)
theorem if_rn (h : k ≤ 7) (g : k ≠ 7) : (if rV k = -1 then M else N) = N := if_neg (by rw [rV_m1 h]; exact g)
theorem if_ceq (g : k = j) : (if cV k = cV j then M else N) = M := if_pos (by rw [g])
theorem if_cne (h : k ≤ 7) (h2 : j ≤ 7) (g : k ≠ j) : (if cV k = cV j then M else N) = N := if_neg (fun z => g ((cV_inj _ h _ h2).mp z))
theorem if_req (g : k = j) : (if rV k = rV j then M else N) = M := if_pos (by rw [g])
theorem if_rne (h : k ≤ 7) (h2 : j ≤ 7) (g : k ≠ j) : (if rV k = rV j then M else N) = N := if_neg (fun z => g ((rV_inj _ h _ h2).mp z))
theorem if_c0 (g : k = 0) : (if cV k = 0 then M else N) = M := if_pos (by rw [g]; rfl)
theorem if_cn0 (h : k ≤ 7) (g : k ≠ 0) : (if cV k = 0 then M else N) = N := if_neg (fun z => g ((cV_dec _ h).2.2.mp z))
theorem if_r0 (g : k = 0) : (if rV k = 0 then M else N) = M := if_pos (by rw [g]; rfl)
theorem if_rn0 (h : k ≤ 7) (g : k ≠ 0) : (if rV k = 0 then M else N) = N := if_neg (fun z => g ((rV_dec _ h).2.2.mp z))
theorem if_clo (h : k ≤ 7) (g : k = 0 ∨ k = 7) : (if cV k < nI 97 then M else N) = M := if_pos ((cV_dec _ h).1.mpr g)
theorem if_chi (h : k ≤ 7) (g : ¬ (k = 0 ∨ k = 7)) : (if cV k < nI 97 then M else N) = N := if_neg (fun z => g ((cV_dec _ h).1.mp z))
theorem if_rlo (h : k ≤ 7) (g : k = 0 ∨ k = 7) : (if rV k ≤ 0 then M else N) = M := if_pos ((rV_dec _ h).1.mpr g)
theorem if_rhi (h : k ≤ 7) (g : ¬ (k = 0 ∨ k = 7)) : (if rV k ≤ 0 then M else N) = N := if_neg (fun z => g ((rV_dec _ h).1.mp z))
theorem if_t {c : Prop} {d : Decidable c} (h : c) : (if c then M else N) = M := if_pos h
theorem if_f {c : Prop} {d : Decidable c} (h : ¬ c) : (if c then M else N) = N := if_neg h
end IFC
/-! ranges, for both sides -/
theorem rng (x : Int32) (n : Nat) (hn : n < 2147483648) : (x < 0 ∨ nI n ≤ x) ∨ ∃ i, i < n ∧ x = nI i := by
  rcases pk_ix x hn with h | h | h
  · exact Or.inl (Or.inl h)
  · exact Or.inl (Or.inr h)
  · exact Or.inr h
theorem rng0 {x : Int32} {n : Nat} (h : x < 0 ∨ nI n ≤ x) : (if x < 0 then (some 0 : Option Int32) else if nI n ≤ x then some 0 else some 1) = some 0 := by
  by_cases g : x < 0
  · rw [if_pos g]
  · rw [if_neg g, if_pos (h.resolve_left g)]
theorem rng1 {i n : Nat} (h : i < n) (hn : n < 2147483648) : (if nI i < 0 then (some 0 : Option Int32) else if nI n ≤ nI i then some 0 else some 1) = some 1 := by
  rw [if_neg (nI_pos (by omega)), if_nle h hn]
theorem in0 {x : Int32} {n : Nat} (hn : n < 2147483648) (h : x < 0 ∨ nI n ≤ x) : f_X8_in x 0 (nI n - 1) = some 0 := by
  unfold f_X8_in
  by_cases g : x < 0
  · rw [if_pos g]
  · rw [if_neg g, if_pos]
    have h2 := h.resolve_left g
    by_cases e : n = 0
    · subst e
      have : nI 0 - 1 = (-1 : Int32) := by decide
      rw [this]
      exact Int32.lt_of_lt_of_le (by decide) h2
    · rw [nI_m1 (by omega)]
      exact Int32.lt_of_lt_of_le (nI_lt (show n - 1 < n by omega) hn) h2
theorem in1 {i n : Nat} (h : i < n) (hn : n < 2147483648) : f_X8_in (nI i) 0 (nI n - 1) = some 1 := by
  unfold f_X8_in
  rw [if_neg (nI_pos (by omega)), nI_m1 (by omega), if_nlt (by omega) (by omega)]
theorem cell_any (x : Int32) : (f_X7_isCell x = some 0 ∧ f_X8_in x 0 (nI 15) = some 0) ∨ ∃ i, i < 16 ∧ x = nI i ∧ f_X7_isCell x = some 1 ∧ f_X8_in x 0 (nI 15) = some 1 := by
  have e : nI 15 = nI 16 - 1 := by decide
  rw [e]
  rcases rng x 16 (by decide) with h | ⟨i, hi, rfl⟩
  · exact Or.inl ⟨rng0 h, in0 (by decide) h⟩
  · exact Or.inr ⟨i, hi, rfl, rng1 hi (by decide), in1 hi (by decide)⟩
theorem image_any (x : Int32) : (f_X7_isImage x = some 0 ∧ f_X8_in x 0 1 = some 0) ∨ ∃ i, i < 2 ∧ x = nI i ∧ f_X7_isImage x = some 1 ∧ f_X8_in x 0 1 = some 1 := by
  have e : (1 : Int32) = nI 2 - 1 := by decide
  have e2 : f_X8_in x 0 1 = f_X8_in x 0 (nI 2 - 1) := congrArg (f_X8_in x 0) e
  rw [e2]
  rcases rng x 2 (by decide) with h | ⟨i, hi, rfl⟩
  · exact Or.inl ⟨rng0 h, in0 (by decide) h⟩
  · exact Or.inr ⟨i, hi, rfl, rng1 hi (by decide), in1 hi (by decide)⟩
theorem word_any {b : Bd} {σ : SC} {τ : SR} (hc : CB b σ) (hr : RB b τ) (hv : VB b) (x : Int32) : (f_X7_isWord σ x = some 0 ∧ f_X8_isWord τ x = some 0) ∨ ∃ w, w < b.2.1 ∧ x = nI w ∧ f_X7_isWord σ x = some 1 ∧ f_X8_isWord τ x = some 1 := by
  have hw := hv.2.1
  unfold f_X7_isWord f_X8_isWord
  rw [hc.2.1, if_in16, ix16, hr.2.1]
  rcases rng x b.2.1 (by omega) with h | ⟨i, hi, rfl⟩
  · left; rw [in0 (by omega) h]; exact ⟨rng0 h, rfl⟩
  · right; refine ⟨i, hi, rfl, rng1 hi (by omega), ?_⟩; rw [in1 hi (by omega)]; rfl
theorem slot_any {b : Bd} {σ : SC} {τ : SR} (hd : DS b σ) (hr : RB b τ) (hv : VB b) (x : Int32) : ∃ τ1, RB b τ1 ∧ RS b τ1 ∧ FR τ τ1 ∧ ((f_X7_isSlot σ x = some 0 ∧ f_X8_isSlot τ x = some (0, τ1)) ∨ ∃ s, s < nS b ∧ x = nI s ∧ f_X7_isSlot σ x = some 1 ∧ f_X8_isSlot τ x = some (1, τ1)) := by
  have h8 := nS_le b
  obtain ⟨τ1, e1, e2, e3, -⟩ := lay_ok hr hv
  refine ⟨τ1, e3.rb hr, e2, e3, ?_⟩
  unfold f_X7_isSlot f_X8_isSlot
  rw [hd.1, e1, Option.bind_some, e2.1]
  rcases rng x (nS b) (by omega) with h | ⟨i, hi, rfl⟩
  · left; rw [in0 (by omega) h]; exact ⟨rng0 h, rfl⟩
  · right; refine ⟨i, hi, rfl, rng1 hi (by omega), ?_⟩; rw [in1 hi (by omega)]; rfl
/-! one cell changed -/
def setc (b : Bd) (i k : Nat) : Bd := (fun j => if j = i then k else b.1 j, b.2)
theorem setc_V {b : Bd} {i k : Nat} (hv : VB b) (hk : k ≤ 7) : VB (setc b i k) := by
  refine ⟨fun j hj => ?_, hv.2⟩
  show (if j = i then k else b.1 j) ≤ 7
  split
  · exact hk
  · exact hv.1 j hj
theorem setc_C {b : Bd} {σ : SC} {i k : Nat} (hc : CB b σ) : CB (setc b i k) (su σ 0 i (cV k)) := by
  refine ⟨fun j hj => ?_, ?_, fun j hj => ?_⟩
  · rw [su_at]
    show _ = cV (if j = i then k else b.1 j)
    by_cases e : j = i
    · rw [if_pos ⟨rfl, e⟩, if_pos e]
    · rw [if_neg (fun z => e z.2), if_neg e]; exact hc.1 j hj
  · rw [su_at, if_neg (fun z => absurd z.1 (by decide))]; exact hc.2.1
  · rw [su_at, if_neg (fun z => absurd z.1 (by decide))]; exact hc.2.2 j hj
theorem setc_R {b : Bd} {τ : SR} {i k : Nat} (hr : RB b τ) (hi : i < 16) : RB (setc b i k) (rsu τ 0 i (rV k)) := by
  refine ⟨fun j hj => ?_, ?_, fun j hj => ?_⟩
  · rw [rsu_at]
    show _ = rV (if j = i then k else b.1 j)
    by_cases e : j = i
    · rw [if_pos ⟨rfl, e⟩, if_pos e]
    · rw [if_neg (fun z => e z.2), if_neg e]; exact hr.1 j hj
  · rw [rsu_at, if_neg (by omega)]; exact hr.2.1
  · rw [rsu_at, if_neg (by omega)]; exact hr.2.2 j hj
theorem changed_ok {b : Bd} {τ : SR} (hr : RB b τ) (hv : VB b) : ∃ τ', f_X8_changed τ = some (nI (nS b), τ') ∧ FR τ τ' := by
  obtain ⟨τ1, e1, e2, e3, -⟩ := lay_ok hr hv
  exact ⟨τ1, by unfold f_X8_changed; rw [e1, Option.bind_some, e2.1], e3⟩
theorem noted {b : Bd} {σ : SC} {τ : SR} (hv : VB b) (hc : CB b σ) (hr : RB b τ) (hp : PR σ τ) : ∃ σ' τ', f_X4_note σ = some σ' ∧ f_X8_remember τ = some τ' ∧ CB b σ' ∧ RB b τ' ∧ PR σ' τ' ∧ (∀ r, r ≠ 16 → r ≠ 17 → σ' r = σ r) ∧ (∀ j, j < 5 → σ' 17 j = σ 17 j) ∧ (∀ r, r ≠ 1 → r ≠ 9 → τ'.1 r = τ.1 r) ∧ τ'.1 9 2 = τ.1 9 2 := by
  obtain ⟨σ', τ', e1, e2, e3, e4, e5, e6, e7⟩ := note_rel hv hc hr hp
  refine ⟨σ', τ', e1, e2, ?_, ?_, e3, e4, e5, e6, e7⟩
  · unfold CB; rw [e4 0 (by decide) (by decide), e4 1 (by decide) (by decide), e5 0 (by decide)]; exact hc
  · unfold RB; rw [e6 0 (by decide) (by decide)]; exact hr
theorem PR.c0 {σ : SC} {τ : SR} (h : PR σ τ) (i j : Nat) (v w : Int32) : PR (su σ 0 i v) (rsu τ 0 j w) := h.keep (su_row _ _ _ _ (by decide)) (fun k _ _ => by rw [su_row _ _ _ _ (by decide)]) (rsu_row _ _ _ _ (by decide)) (rsu_row _ _ _ _ (by decide)) (rsu_row _ _ _ _ (by decide)) (by rw [rsu_row _ _ _ _ (by decide)]) (by rw [rsu_row _ _ _ _ (by decide)])
theorem s_block {σ : SC} {τ : SR} (h : Rel σ τ) (a0 : Int32) : ∃ (r : Int32) (σ' : SC) (τ' : SR), f_X7_block σ a0 = some (r, σ') ∧ f_X8_block τ a0 = some (r, τ') ∧ Rel σ' τ' := by
  obtain ⟨b, hv, hc, hr, hd, hp⟩ := id h
  unfold f_X7_block f_X8_block
  rcases cell_any a0 with ⟨e1, e2⟩ | ⟨i, hi, rfl, e1, e2⟩
  · rw [e1, e2]; exact ⟨_, σ, τ, rfl, rfl, h⟩
  · rw [e1, e2, Option.bind_some, Option.bind_some, if10, if10, rd_in σ (show i < lnC 0 from hi), hc.1 i hi, if_in (by omega), ix_nI (by omega), hr.1 i hi]
    by_cases g : b.1 i = 7
    · rw [if_cm (hv.1 i hi) g, if_rm (hv.1 i hi) g]
      exact ⟨_, σ, τ, rfl, rfl, h⟩
    · rw [if_cn (hv.1 i hi) g, if_rn (hv.1 i hi) g]
      obtain ⟨σ1, τ1, n1, n2, n3, n4, n5, -, -, -, -⟩ := noted hv hc hr hp
      have hv2 := setc_V (i := i) hv (Nat.le_refl 7)
      have hc2 := setc_C (i := i) (k := 7) n3
      have hr2 := setc_R (i := i) (k := 7) n4 hi
      obtain ⟨σ2, f1, f2, f3, -⟩ := finish hv2 hc2 hr2 (n5.c0 i i _ _)
      obtain ⟨τ2, c1, c2⟩ := changed_ok hr2 hv2
      rw [n1, n2, Option.bind_some, Option.bind_some, wr_in _ _ (show i < lnC 0 from hi), if_in (by omega), show (-1 : Int32) = cV 7 from rfl, f1, Option.bind_some, f3]
      have c1' : f_X8_changed (rsu τ1 0 i (cV 7)) = some (nI (nS (setc b i 7)), τ2) := c1
      rw [c1']
      exact ⟨_, σ2, τ2, rfl, rfl, f2.fr c2⟩
theorem s_open {σ : SC} {τ : SR} (h : Rel σ τ) (a0 : Int32) : ∃ (r : Int32) (σ' : SC) (τ' : SR), f_X7_open σ a0 = some (r, σ') ∧ f_X8_open τ a0 = some (r, τ') ∧ Rel σ' τ' := by
  obtain ⟨b, hv, hc, hr, hd, hp⟩ := id h
  unfold f_X7_open f_X8_open
  rcases cell_any a0 with ⟨e1, e2⟩ | ⟨i, hi, rfl, e1, e2⟩
  · rw [e1, e2]; exact ⟨_, σ, τ, rfl, rfl, h⟩
  · rw [e1, e2, Option.bind_some, Option.bind_some, if10, if10, rd_in σ (show i < lnC 0 from hi), hc.1 i hi, if_in (by omega), ix_nI (by omega), hr.1 i hi]
    by_cases g : b.1 i = 7
    · rw [if_cm (hv.1 i hi) g, if_rm (hv.1 i hi) g]
      obtain ⟨σ1, τ1, n1, n2, n3, n4, n5, -, -, -, -⟩ := noted hv hc hr hp
      have hv2 := setc_V (i := i) hv (show 0 ≤ 7 by decide)
      have hc2 := setc_C (i := i) (k := 0) n3
      have hr2 := setc_R (i := i) (k := 0) n4 hi
      obtain ⟨σ2, f1, f2, f3, -⟩ := finish hv2 hc2 hr2 (n5.c0 i i _ _)
      obtain ⟨τ2, c1, c2⟩ := changed_ok hr2 hv2
      rw [n1, n2, Option.bind_some, Option.bind_some, wr_in _ _ (show i < lnC 0 from hi), if_in (by omega)]
      have f1' : f_X7_renew (su σ1 0 i 0) = some σ2 := f1
      have c1' : f_X8_changed (rsu τ1 0 i 0) = some (nI (nS (setc b i 0)), τ2) := c1
      rw [f1', c1', Option.bind_some, f3]
      exact ⟨_, σ2, τ2, rfl, rfl, f2.fr c2⟩
    · rw [if_cn (hv.1 i hi) g, if_rn (hv.1 i hi) g]
      exact ⟨_, σ, τ, rfl, rfl, h⟩
theorem letter_core {σ : SC} {τ : SR} (h : Rel σ τ) {i k : Nat} (hi : i < 16) (hk : k ≤ 6) : ∃ (r : Int32) (σ' : SC) (τ' : SR), f_X7_letter_K35 σ (nI i) (cV k) = some (r, σ') ∧ f_X8_letter_K45 τ (nI i) (rV k) = some (r, τ') ∧ Rel σ' τ' := by
  obtain ⟨b, hv, hc, hr, hd, hp⟩ := id h
  have h7 := hv.1 i hi
  unfold f_X7_letter_K35 f_X8_letter_K45
  rw [rd_in σ (show i < lnC 0 from hi), hc.1 i hi, if_in (by omega), ix_nI (by omega), hr.1 i hi]
  by_cases g : b.1 i = 7
  · rw [if_cm h7 g, if_rm h7 g]
    exact ⟨_, σ, τ, rfl, rfl, h⟩
  · rw [if_cn h7 g, if_rn h7 g]
    by_cases g2 : b.1 i = k
    · rw [if_ceq g2, if_req g2]
      exact ⟨_, σ, τ, rfl, rfl, h⟩
    · rw [if_cne h7 (by omega) g2, if_rne h7 (by omega) g2]
      obtain ⟨σ1, τ1, n1, n2, n3, n4, n5, -, -, -, -⟩ := noted hv hc hr hp
      have hv2 := setc_V (i := i) hv (show k ≤ 7 by omega)
      have hc2 := setc_C (i := i) (k := k) n3
      have hr2 := setc_R (i := i) (k := k) n4 hi
      obtain ⟨σ2, f1, f2, f3, -⟩ := finish hv2 hc2 hr2 (n5.c0 i i _ _)
      rw [n1, n2, Option.bind_some, Option.bind_some, wr_in _ _ (show i < lnC 0 from hi), f1, Option.bind_some, if_in (by omega)]
      by_cases g3 : b.1 i = 0
      · rw [if_c0 g3, if_r0 g3]
        exact ⟨_, σ2, _, rfl, rfl, f2⟩
      · rw [if_cn0 h7 g3, if_rn0 h7 g3, cV_let (by omega) (by omega), rV_let (k := b.1 i) (by omega), nI_add, Nat.add_comm (b.1 i) 96]
        exact ⟨_, σ2, _, rfl, rfl, f2⟩
theorem s_letter {σ : SC} {τ : SR} (h : Rel σ τ) (a0 a1 : Int32) : ∃ (r : Int32) (σ' : SC) (τ' : SR), f_X7_letter σ a0 a1 = some (r, σ') ∧ f_X8_letter τ a0 a1 = some (r, τ') ∧ Rel σ' τ' := by
  unfold f_X7_letter f_X8_letter
  rcases cell_any a0 with ⟨e1, e2⟩ | ⟨i, hi, rfl, e1, e2⟩
  · rw [e1, e2]; exact ⟨_, σ, τ, rfl, rfl, h⟩
  · rw [e1, e2, Option.bind_some, Option.bind_some, if10, if10]
    by_cases g : a1 = -1
    · rw [if_pos g, if_pos g]
      unfold f_X7_letter_K25 f_X8_letter_K32
      rw [if_pos g, if_pos g]
      exact letter_core h hi (k := 0) (by decide)
    · rw [if_neg g, if_neg g]
      by_cases g1 : a1 < nI 97
      · have : f_X7_isLetter a1 = some 0 := by unfold f_X7_isLetter; rw [if_pos g1]
        have t2 : f_X8_in a1 (nI 97) (nI 102) = some 0 := by unfold f_X8_in; rw [if_pos g1]
        rw [this, t2]; exact ⟨_, σ, τ, rfl, rfl, h⟩
      · by_cases g2 : nI 103 ≤ a1
        · have : f_X7_isLetter a1 = some 0 := by unfold f_X7_isLetter; rw [if_neg g1, if_pos g2]
          have t2 : f_X8_in a1 (nI 97) (nI 102) = some 0 := by unfold f_X8_in; rw [if_neg g1, if_pos (Int32.lt_of_lt_of_le (by decide) g2)]
          rw [this, t2]; exact ⟨_, σ, τ, rfl, rfl, h⟩
        · obtain ⟨k, hk1, hk2, rfl⟩ : ∃ k, 1 ≤ k ∧ k ≤ 6 ∧ a1 = nI (96 + k) := by
            rcases pk_ix a1 (n := 103) (by decide) with z | z | ⟨j, hj, rfl⟩
            · exact absurd (Int32.lt_trans z (by decide)) g1
            · exact absurd z g2
            · have : 97 ≤ j := by
                rcases Nat.lt_or_ge j 97 with y | y
                · exact absurd (nI_lt y (by omega)) g1
                · exact y
              exact ⟨j - 96, by omega, by omega, by congr 1; omega⟩
          have : f_X7_isLetter (nI (96 + k)) = some 1 := by unfold f_X7_isLetter; rw [if_neg g1, if_neg g2]
          have t2 : f_X8_in (nI (96 + k)) (nI 97) (nI 102) = some 1 := by unfold f_X8_in; rw [if_neg g1, if_nlt (by omega) (by omega)]
          rw [this, t2, Option.bind_some, Option.bind_some, if10, if10]
          unfold f_X7_letter_K25 f_X8_letter_K32
          rw [if_neg g, if_neg g, pk_sub (by omega), show 96 + k - 96 = k by omega, ← cV_let hk1 hk2, ← rV_let hk2]
          exact letter_core h hi hk2
theorem s_undo {σ : SC} {τ : SR} (h : Rel σ τ) : ∃ (r : Int32) (σ' : SC) (τ' : SR), f_X7_undo σ = some (r, σ') ∧ f_X8_undo τ = some (r, τ') ∧ Rel σ' τ' := by
  obtain ⟨b, hv, hc, hr, hd, hp⟩ := id h
  obtain ⟨E, a, d, m, p1, p2, p3, p4, p5, p6, p7, p8, p9, p10, p11, p12⟩ := id hp
  unfold f_X7_undo f_X8_undo
  rw [p8, p9]
  by_cases g : d = 0
  · subst g
    rw [nI_0, if00, if00]
    exact ⟨_, σ, τ, rfl, rfl, h⟩
  · rw [if_ne0 (by omega) (by omega), if_ne0 (by omega) (by omega), p7, nI_add, nI_m1 (by omega), nI_m1 (by omega), pk_rem (by omega) (by decide) (by decide)]
    generalize hx : (a + 10 - 1) % 10 = x
    have hx10 : x < 10 := by omega
    -- the class
    unfold f_X4_stepBack
    rw [p6, p8, nI_add, nI_m1 (by omega), nI_m1 (by omega), pk_rem (by omega) (by decide) (by decide), hx]
    obtain ⟨s, l1, l2, l3, l4, l5, l6⟩ := load_ok (σ := su (su σ 17 5 (nI x)) 17 6 (nI (d - 1))) (k := x) (by omega)
    rw [l1, Option.bind_some]
    obtain ⟨q1, q2, q3, q4⟩ := p1 x (by omega)
    have h16 : su (su σ 17 5 (nI x)) 17 6 (nI (d - 1)) 16 = σ 16 := by rw [su_row _ _ _ _ (by decide), su_row _ _ _ _ (by decide)]
    rw [h16] at l3 l4 l5
    have hcs : CB (E x) s := ⟨fun i hi => (l3 i hi).trans (q2 i hi), l5.trans q3, fun j hj => (l4 j hj).trans (q4 j hj)⟩
    -- the reference
    have loop : ∀ (k n j : Nat) (t : SR), j + k = 33 → k < n → (∀ r, r ≠ 0 → t.1 r = (rsu (rsu τ 9 1 (nI x)) 9 0 (nI (d - 1))).1 r) → (∀ i, i < j → t.1 0 i = τ.1 1 (33 * x + i)) → ∃ t', f_X8_undo_L38 n t (nI j) = some (nI (d - 1), t') ∧ (∀ r, r ≠ 0 → t'.1 r = (rsu (rsu τ 9 1 (nI x)) 9 0 (nI (d - 1))).1 r) ∧ (∀ i, i < 33 → t'.1 0 i = τ.1 1 (33 * x + i)) := by
      intro k
      induction k with
      | zero =>
        intro n j t h1 h2 h3 h4
        obtain ⟨n, rfl⟩ := succ_of h2
        rw [f_X8_undo_L38_s, if_le (by omega) (by omega), h3 9 (by decide), rsu_at, if_pos ⟨rfl, rfl⟩]
        exact ⟨t, rfl, h3, fun i hi => h4 i (by omega)⟩
      | succ k ih =>
        intro n j t h1 h2 h3 h4
        obtain ⟨n, rfl⟩ := succ_of h2
        have e91 : t.1 9 1 = nI x := by rw [h3 9 (by decide), rsu_at, if_neg (by decide), rsu_at, if_pos ⟨rfl, rfl⟩]
        have e1 : t.1 1 = τ.1 1 := by rw [h3 1 (by decide), rsu_row _ _ _ _ (by decide), rsu_row _ _ _ _ (by decide)]
        rw [f_X8_undo_L38_s, if_nle (by omega) (by omega), e91, pk_mul, nI_add, if_in (by omega), if_in (by omega), ix_nI (by omega), ix_nI (by omega), e1, nI_1]
        refine ih n (j + 1) _ (by omega) (by omega) (fun r hr' => by rw [rsu_row _ _ _ _ hr', h3 r hr']) (fun i hi => ?_)
        rw [rsu_at]
        by_cases e : i = j
        · rw [if_pos ⟨rfl, e⟩, e]
        · rw [if_neg (fun z => e z.2)]; exact h4 i (by omega)
    obtain ⟨t', u1, u2, u3⟩ := loop 33 FU 0 (rsu (rsu τ 9 1 (nI x)) 9 0 (nI (d - 1))) (by omega) (by have := FU_big; omega) (fun _ _ => rfl) (fun i hi => by omega)
    rw [nI_0] at u1
    obtain ⟨w1, w2, w3⟩ := p2 x hx10
    have hrs : RB (E x) t' := ⟨fun i hi => (u3 i (by omega)).trans (w1 i hi), (u3 16 (by omega)).trans w2, fun j hj => (u3 (17 + j) (by omega)).trans (w3 j hj)⟩
    have hps : PR s t' := by
      refine ⟨E, x, d - 1, m, fun k hk => ?_, fun k hk => ?_, fun k hk => ?_, hx10, by omega, ?_, ?_, ?_, ?_, p10, ?_, fun k hk => ?_⟩
      · rw [l2 16 (by decide) (by decide) (by decide), h16]; exact p1 k hk
      · rw [u2 1 (by decide), rsu_row _ _ _ _ (by decide), rsu_row _ _ _ _ (by decide)]; exact p2 k hk
      · rw [u2 3 (by decide), rsu_row _ _ _ _ (by decide), rsu_row _ _ _ _ (by decide)]; exact p3 k hk
      · rw [l6 5 (by decide), su_at, if_neg (by decide), su_at, if_pos ⟨rfl, rfl⟩]
      · rw [u2 9 (by decide), rsu_at, if_neg (by decide), rsu_at, if_pos ⟨rfl, rfl⟩]
      · rw [l6 6 (by decide), su_at, if_pos ⟨rfl, rfl⟩]
      · rw [u2 9 (by decide), rsu_at, if_pos ⟨rfl, rfl⟩]
      · rw [l6 7 (by decide), su_at, if_neg (by decide), su_at, if_neg (by decide)]; exact p11
      · rw [u2 2 (by decide), rsu_row _ _ _ _ (by decide), rsu_row _ _ _ _ (by decide)]; exact p12 k hk
    obtain ⟨σ2, f1, f2, f3, f4⟩ := finish q1 hcs hrs hps
    rw [Option.bind_some, f1, Option.bind_some, u1, f4 6 (by decide), l6 6 (by decide), su_at, if_pos ⟨rfl, rfl⟩]
    exact ⟨_, σ2, t', rfl, rfl, f2⟩
theorem or_bit : ∀ i, i < 2 → ∀ m, m < 4 → nI m ||| (1 : Int32) <<< (nI i &&& 31) = nI (m ||| 2 ^ i) ∧ m ||| 2 ^ i < 4 ∧ ∀ k, k < 2 → (m ||| 2 ^ i).testBit k = (m.testBit k || decide (k = i)) := by decide +kernel
theorem s_keep {σ : SC} {τ : SR} (h : Rel σ τ) (a0 : Int32) : ∃ (r : Int32) (σ' : SC) (τ' : SR), f_X7_keep σ a0 = some (r, σ') ∧ f_X8_keep τ a0 = some (r, τ') ∧ Rel σ' τ' := by
  obtain ⟨b, hv, hc, hr, hd, hp⟩ := id h
  obtain ⟨E, a, d, m, p1, p2, p3, p4, p5, p6, p7, p8, p9, p10, p11, p12⟩ := id hp
  unfold f_X7_keep f_X8_keep
  rcases image_any a0 with ⟨e1, e2⟩ | ⟨i, hi, rfl, e1, e2⟩
  · rw [e1, e2]; exact ⟨_, σ, τ, rfl, rfl, h⟩
  · rw [e1, e2, Option.bind_some, Option.bind_some, if10, if10, if_in (by omega), ix_nI (by omega)]
    unfold f_X4_keepImage
    rw [nI_add]
    obtain ⟨s, s1, s2, s3, s4, s5, s6⟩ := save_ok (σ := σ) (k := 10 + i) (by omega)
    obtain ⟨o1, o2, o3⟩ := or_bit i hi m p10
    rw [s1, Option.bind_some, s2 17 (by decide), p11, o1, Option.bind_some]
    have loop : ∀ (k n j : Nat) (t : SR), j + k = 33 → k < n → (∀ r, r ≠ 3 → t.1 r = (rsu τ 2 i (vp_nar .boolean 1)).1 r) → (∀ q, q < 33 * i ∨ 33 * i + 33 ≤ q → t.1 3 q = τ.1 3 q) → (∀ q, q < j → t.1 3 (33 * i + q) = τ.1 0 q) → ∃ t', f_X8_keep_L21 (nI i) n t (nI j) = some (nI b.2.1, rsu t' 9 0 0) ∧ (∀ r, r ≠ 3 → t'.1 r = (rsu τ 2 i (vp_nar .boolean 1)).1 r) ∧ (∀ q, q < 33 * i ∨ 33 * i + 33 ≤ q → t'.1 3 q = τ.1 3 q) ∧ (∀ q, q < 33 → t'.1 3 (33 * i + q) = τ.1 0 q) := by
      intro k
      induction k with
      | zero =>
        intro n j t h1 h2 h3 h4 h5
        obtain ⟨n, rfl⟩ := succ_of h2
        rw [f_X8_keep_L21_s, if_le (by omega) (by omega), if_in16, ix16, rsu_row _ _ _ _ (by decide), h3 0 (by decide), rsu_row _ _ _ _ (by decide), hr.2.1]
        exact ⟨t, rfl, h3, h4, fun q hq => h5 q (by omega)⟩
      | succ k ih =>
        intro n j t h1 h2 h3 h4 h5
        obtain ⟨n, rfl⟩ := succ_of h2
        have e0 : t.1 0 = τ.1 0 := by rw [h3 0 (by decide), rsu_row _ _ _ _ (by decide)]
        rw [f_X8_keep_L21_s, if_nle (by omega) (by omega), if_in (by omega), pk_mul, nI_add, if_in (by omega), ix_nI (by omega), ix_nI (by omega), e0, nI_1]
        refine ih n (j + 1) _ (by omega) (by omega) (fun r hr' => by rw [rsu_row _ _ _ _ hr', h3 r hr']) (fun q hq => ?_) (fun q hq => ?_)
        · rw [rsu_at, if_neg (by omega)]; exact h4 q hq
        · rw [rsu_at]
          by_cases e : q = j
          · rw [if_pos ⟨rfl, by omega⟩, e]
          · rw [if_neg (by omega)]; exact h5 q (by omega)
    obtain ⟨t', u1, u2, u3, u4⟩ := loop 33 FU 0 (rsu τ 2 i (vp_nar .boolean 1)) (by omega) (by have := FU_big; omega) (fun _ _ => rfl) (fun q hq => by rw [rsu_row _ _ _ _ (by decide)]) (fun q hq => by omega)
    rw [nI_0] at u1
    rw [u1]
    have hw : su (su s 17 7 (nI (m ||| 2 ^ i))) 17 6 0 17 0 = nI b.2.1 := by rw [su_at, if_neg (by decide), su_at, if_neg (by decide), s2 17 (by decide)]; exact hc.2.1
    rw [hw]
    refine ⟨_, _, _, rfl, rfl, ⟨b, hv, ?_, ?_, ?_, ?_⟩⟩
    · unfold CB; rw [su_row _ _ _ _ (show 0 ≠ 17 by decide), su_row _ _ _ _ (show 0 ≠ 17 by decide), su_row _ _ _ _ (show 1 ≠ 17 by decide), su_row _ _ _ _ (show 1 ≠ 17 by decide), s2 0 (by decide), s2 1 (by decide), hw]; exact ⟨hc.1, rfl, hc.2.2⟩
    · unfold RB; rw [rsu_row _ _ _ _ (by decide), u2 0 (by decide), rsu_row _ _ _ _ (by decide)]; exact hr
    · have f : ∀ r, r ≠ 16 → r ≠ 17 → su (su s 17 7 (nI (m ||| 2 ^ i))) 17 6 0 r = σ r := fun r a1 a2 => by rw [su_row _ _ _ _ a2, su_row _ _ _ _ a2, s2 r a1]
      refine ⟨hd.1.keep (fun r _ _ => f r (by omega) (by omega)) (fun j _ _ => by rw [su_at, if_neg (by omega), su_at, if_neg (by omega), s2 17 (by decide)]), hd.2.1.keep (f 8 (by decide) (by decide)) (f 9 (by decide) (by decide)) (f 10 (by decide) (by decide)), ?_⟩
      unfold DC; rw [f 11 (by decide) (by decide), f 12 (by decide) (by decide)]; exact hd.2.2
    · refine ⟨fun k => if k = 10 + i then b else E k, a, 0, m ||| 2 ^ i, fun k hk => ?_, fun k hk => ?_, fun k hk => ?_, p4, by omega, ?_, ?_, ?_, ?_, o2, ?_, fun k hk => ?_⟩
      · rw [su_row _ _ _ _ (show 16 ≠ 17 by decide), su_row _ _ _ _ (show 16 ≠ 17 by decide)]
        by_cases e : k = 10 + i
        · simp only [if_pos e]
          rw [e]
          exact ⟨hv, fun j hj => (s3 j hj).trans (hc.1 j hj), s5.trans hc.2.1, fun j hj => (s4 j hj).trans (hc.2.2 j hj)⟩
        · simp only [if_neg e]
          obtain ⟨q1, q2, q3, q4⟩ := p1 k hk
          exact ⟨q1, fun j hj => (s6 _ (by omega)).trans (q2 j hj), (s6 _ (by omega)).trans q3, fun j hj => (s6 _ (by omega)).trans (q4 j hj)⟩
      · simp only [if_neg (show k ≠ 10 + i by omega)]
        rw [rsu_row _ _ _ _ (by decide), u2 1 (by decide), rsu_row _ _ _ _ (by decide)]; exact p2 k hk
      · rw [rsu_row _ _ _ _ (by decide)]
        by_cases e : k = i
        · simp only [if_pos (show 10 + k = 10 + i by omega)]
          rw [e]
          exact ⟨fun j hj => (u4 j (by omega)).trans (hr.1 j hj), (u4 16 (by omega)).trans hr.2.1, fun j hj => (u4 (17 + j) (by omega)).trans (hr.2.2 j hj)⟩
        · simp only [if_neg (show 10 + k ≠ 10 + i by omega)]
          obtain ⟨q2, q3, q4⟩ := p3 k hk
          exact ⟨fun j hj => (u3 _ (by omega)).trans (q2 j hj), (u3 _ (by omega)).trans q3, fun j hj => (u3 _ (by omega)).trans (q4 j hj)⟩
      · rw [su_at, if_neg (by decide), su_at, if_neg (by decide), s2 17 (by decide)]; exact p6
      · rw [rsu_at, if_neg (by decide), u2 9 (by decide), rsu_row _ _ _ _ (by decide)]; exact p7
      · rw [su_at, if_pos ⟨rfl, rfl⟩]; rfl
      · rw [rsu_at, if_pos ⟨rfl, rfl⟩]; rfl
      · rw [su_at, if_neg (by decide), su_at, if_pos ⟨rfl, rfl⟩]
      · rw [rsu_row _ _ _ _ (by decide), u2 2 (by decide), rsu_at, o3 k hk]
        by_cases e : k = i
        · rw [if_pos ⟨rfl, e⟩]; simp [e]; rfl
        · rw [if_neg (fun z => e z.2), p12 k hk]; simp [e]
theorem s_goBack {σ : SC} {τ : SR} (h : Rel σ τ) (a0 : Int32) : ∃ (r : Int32) (σ' : SC) (τ' : SR), f_X7_goBack σ a0 = some (r, σ') ∧ f_X8_goBack τ a0 = some (r, τ') ∧ Rel σ' τ' := by
  obtain ⟨b, hv, hc, hr, hd, hp⟩ := id h
  obtain ⟨E, a, d, m, p1, p2, p3, p4, p5, p6, p7, p8, p9, p10, p11, p12⟩ := id hp
  unfold f_X7_goBack f_X8_goBack
  rcases image_any a0 with ⟨e1, e2⟩ | ⟨i, hi, rfl, e1, e2⟩
  · rw [e1, e2]; exact ⟨_, σ, τ, rfl, rfl, h⟩
  · rw [e1, e2, Option.bind_some, Option.bind_some, if10, if10, if_in (by omega), ix_nI (by omega), p11, (IsSet.ofN m).cnv (by omega), p12 i hi]
    by_cases g : m.testBit i = true
    · rw [if_pos g, if_neg (by decide), if_b1 g]
      unfold f_X4_bringImage
      rw [nI_add]
      obtain ⟨s, l1, l2, l3, l4, l5, l6⟩ := load_ok (σ := σ) (k := 10 + i) (by omega)
      rw [l1, Option.bind_some]
      obtain ⟨q1, q2, q3, q4⟩ := p1 (10 + i) (by omega)
      have hcs : CB (E (10 + i)) (su s 17 6 0) := by
        unfold CB
        rw [su_row _ _ _ _ (show 0 ≠ 17 by decide), su_row _ _ _ _ (show 1 ≠ 17 by decide), su_at, if_neg (by decide)]
        exact ⟨fun j hj => (l3 j hj).trans (q2 j hj), l5.trans q3, fun j hj => (l4 j hj).trans (q4 j hj)⟩
      obtain ⟨w1, w2, w3⟩ := p3 i hi
      have loop : ∀ (k n j : Nat) (t : SR), j + k = 33 → k < n → (∀ r, r ≠ 0 → t.1 r = τ.1 r) → (∀ q, q < j → t.1 0 q = τ.1 3 (33 * i + q)) → ∃ t', f_X8_goBack_L26 (nI i) n t (nI j) = some (nI (E (10 + i)).2.1, rsu t' 9 0 0) ∧ (∀ r, r ≠ 0 → t'.1 r = τ.1 r) ∧ (∀ q, q < 33 → t'.1 0 q = τ.1 3 (33 * i + q)) := by
        intro k
        induction k with
        | zero =>
          intro n j t h1 h2 h3 h4
          obtain ⟨n, rfl⟩ := succ_of h2
          rw [f_X8_goBack_L26_s, if_le (by omega) (by omega), if_in16, ix16, rsu_row _ _ _ _ (by decide), h4 16 (by omega), show τ.1 3 (33 * i + 16) = nI (E (10 + i)).2.1 from w2]
          exact ⟨t, rfl, h3, fun q hq => h4 q (by omega)⟩
        | succ k ih =>
          intro n j t h1 h2 h3 h4
          obtain ⟨n, rfl⟩ := succ_of h2
          rw [f_X8_goBack_L26_s, if_nle (by omega) (by omega), pk_mul, nI_add, if_in (by omega), if_in (by omega), ix_nI (by omega), ix_nI (by omega), h3 3 (by decide), nI_1]
          refine ih n (j + 1) _ (by omega) (by omega) (fun r hr' => by rw [rsu_row _ _ _ _ hr', h3 r hr']) (fun q hq => ?_)
          rw [rsu_at]
          by_cases e : q = j
          · rw [if_pos ⟨rfl, e⟩, e]
          · rw [if_neg (fun z => e z.2)]; exact h4 q (by omega)
      obtain ⟨t', u1, u2, u3⟩ := loop 33 FU 0 τ (by omega) (by have := FU_big; omega) (fun _ _ => rfl) (fun q hq => by omega)
      rw [nI_0] at u1
      have hrs : RB (E (10 + i)) (rsu t' 9 0 0) := by
        unfold RB; rw [rsu_row _ _ _ _ (by decide)]
        exact ⟨fun j hj => (u3 j (by omega)).trans (w1 j hj), (u3 16 (by omega)).trans w2, fun j hj => (u3 (17 + j) (by omega)).trans (w3 j hj)⟩
      have hps : PR (su s 17 6 0) (rsu t' 9 0 0) := by
        refine ⟨E, a, 0, m, fun k hk => ?_, fun k hk => ?_, fun k hk => ?_, p4, by omega, ?_, ?_, ?_, ?_, p10, ?_, fun k hk => ?_⟩
        · rw [su_row _ _ _ _ (by decide), l2 16 (by decide) (by decide) (by decide)]; exact p1 k hk
        · rw [rsu_row _ _ _ _ (by decide), u2 1 (by decide)]; exact p2 k hk
        · rw [rsu_row _ _ _ _ (by decide), u2 3 (by decide)]; exact p3 k hk
        · rw [su_at, if_neg (by decide), l6 5 (by decide)]; exact p6
        · rw [rsu_at, if_neg (by decide), u2 9 (by decide)]; exact p7
        · rw [su_at, if_pos ⟨rfl, rfl⟩]; rfl
        · rw [rsu_at, if_pos ⟨rfl, rfl⟩]; rfl
        · rw [su_at, if_neg (by decide), l6 7 (by decide)]; exact p11
        · rw [rsu_row _ _ _ _ (by decide), u2 2 (by decide)]; exact p12 k hk
      obtain ⟨σ2, f1, f2, f3, f4⟩ := finish q1 hcs hrs hps
      rw [Option.bind_some, f1, Option.bind_some, u1, f4 0 (by decide), hcs.2.1]
      exact ⟨_, σ2, _, rfl, rfl, f2⟩
    · rw [if_neg g, if_pos rfl, if_b0 (by simpa using g)]
      exact ⟨_, σ, τ, rfl, rfl, h⟩
