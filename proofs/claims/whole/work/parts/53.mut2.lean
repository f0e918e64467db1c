theorem bnd_some {α S ρ : Type} {v : α} {s : S} {K : α → S → Option ρ} : bnd (some (v, s)) K = K v s := rfl
/-! changes of many cells, of the list -/
/-- only the cells differ, on both sides -/
def G0 (σ σ' : SC) (τ τ' : SR) : Prop := (∀ r, r ≠ 0 → σ' r = σ r) ∧ (∀ r, r ≠ 0 → τ'.1 r = τ.1 r)
theorem G0.rf {σ : SC} {τ : SR} : G0 σ σ τ τ := ⟨fun _ _ => rfl, fun _ _ => rfl⟩
theorem G0.up {σ s : SC} {τ t : SR} (h : G0 σ s τ t) (i j : Nat) (v w : Int32) : G0 σ (su s 0 i v) τ (rsu t 0 j w) := ⟨fun r hr => by rw [su_row _ _ _ _ hr, h.1 r hr], fun r hr => by rw [rsu_row _ _ _ _ hr, h.2 r hr]⟩
theorem G0.pr {σ σ' : SC} {τ τ' : SR} (h : G0 σ σ' τ τ') (hp : PR σ τ) : PR σ' τ' := hp.keep (h.1 16 (by decide)) (fun j _ _ => by rw [h.1 17 (by decide)]) (h.2 1 (by decide)) (h.2 2 (by decide)) (h.2 3 (by decide)) (by rw [h.2 9 (by decide)]) (by rw [h.2 9 (by decide)])
theorem wipe_loop {σ0 : SC} {τ0 : SR} : ∀ (m n n' j c : Nat) (b : Bd) (σ : SC) (τ : SR), j + m = 16 → m < n → m < n' → VB b → CB b σ → RB b τ → G0 σ0 σ τ0 τ → ∃ (r : Int32) (b' : Bd) (σ' : SC) (τ' : SR), f_X0_clearLetters_L4 n σ (nI c) (nI j) = some (r, σ') ∧ f_X8_wipe_L8 n' τ (nI c) (nI j) = some (r, τ') ∧ VB b' ∧ CB b' σ' ∧ RB b' τ' ∧ G0 σ0 σ' τ0 τ' := by
  intro m
  induction m with
  | zero =>
    intro n n' j c b σ τ h1 h2 h3 hv hc hr hg
    obtain ⟨n, rfl⟩ := succ_of h2
    obtain ⟨n', rfl⟩ := succ_of h3
    rw [f_X0_clearLetters_L4_s, f_X8_wipe_L8_s, if_le (by omega) (by omega), if_le (by omega) (by omega)]
    exact ⟨_, b, σ, τ, rfl, rfl, hv, hc, hr, hg⟩
  | succ m ih =>
    intro n n' j c b σ τ h1 h2 h3 hv hc hr hg
    obtain ⟨n, rfl⟩ := succ_of h2
    obtain ⟨n', rfl⟩ := succ_of h3
    have hj : j < 16 := by omega
    have h7 := hv.1 j hj
    have hK : ∀ y0 y1 : Int32, f_X8_wipe_K29 (f_X8_wipe_L8 n') τ (nI j) y0 y1 = if b.1 j = 0 ∨ b.1 j = 7 then f_X8_wipe_L8 n' (rsu τ 0 j (rV (b.1 j))) (y1 + y0) (nI (j + 1)) else f_X8_wipe_L8 n' (rsu τ 0 j (rV 0)) (y1 + y0) (nI (j + 1)) := by
      intro y0 y1
      unfold f_X8_wipe_K29
      rw [if_in (by omega), ix_nI (by omega), hr.1 j hj, nI_1]
      by_cases g : b.1 j = 0 ∨ b.1 j = 7
      · rw [if_rlo h7 g, if_in (by omega), if_in (by omega), if_pos g]
      · rw [if_rhi h7 g, if_in (by omega), if_neg g]; rfl
    rw [f_X0_clearLetters_L4_s, f_X8_wipe_L8_s, if_nle (by omega) (by omega), if_nle (by omega) (by omega), rd_in σ (show j < lnC 0 from hj), hc.1 j hj, if_in (by omega), ix_nI (by omega), hr.1 j hj, hK, hK]
    by_cases g : b.1 j = 0 ∨ b.1 j = 7
    · rw [if_clo h7 g, if_rlo h7 g, if_pos g, nI_1, Int32.add_zero]
      have hr2 : RB b (rsu τ 0 j (rV (b.1 j))) := by
        have := setc_R (i := j) (k := b.1 j) hr hj
        have e : setc b j (b.1 j) = b := by
          unfold setc
          refine Prod.ext ?_ rfl
          funext q
          show (if q = j then b.1 j else b.1 q) = b.1 q
          split
          · rename_i z; rw [z]
          · rfl
        rwa [e] at this
      exact ih n n' (j + 1) c b σ _ (by omega) (by omega) (by omega) hv hc hr2 ⟨hg.1, fun r hr' => by rw [rsu_row _ _ _ _ hr', hg.2 r hr']⟩
    · rw [if_chi h7 g, if_rhi h7 g, if_neg g, nI_1, nI_1, wr_in _ _ (show j < lnC 0 from hj)]
      exact ih n n' (j + 1) (c + 1) (setc b j 0) (su σ 0 j (cV 0)) _ (by omega) (by omega) (by omega) (setc_V hv (by decide)) (setc_C hc) (setc_R hr hj) (hg.up j j _ _)
theorem s_wipe {σ : SC} {τ : SR} (h : Rel σ τ) : ∃ (r : Int32) (σ' : SC) (τ' : SR), f_X7_wipe σ = some (r, σ') ∧ f_X8_wipe τ = some (r, τ') ∧ Rel σ' τ' := by
  obtain ⟨b, hv, hc, hr, hd, hp⟩ := id h
  obtain ⟨σ1, τ1, n1, n2, n3, n4, n5, -, -, -, -⟩ := noted hv hc hr hp
  obtain ⟨r, b', σ2, τ2, w1, w2, w3, w4, w5, w6⟩ := wipe_loop (σ0 := σ1) (τ0 := τ1) 16 FU FU 0 0 b σ1 τ1 (by omega) (by have := FU_big; omega) (by have := FU_big; omega) hv n3 n4 G0.rf
  obtain ⟨σ3, f1, f2, f3, -⟩ := finish w3 w4 w5 (w6.pr n5)
  rw [nI_0] at w1 w2
  unfold f_X7_wipe f_X8_wipe f_X0_clearLetters
  rw [n1, n2, Option.bind_some, Option.bind_some, w1, w2]
  show ∃ (r' : Int32) (σ' : SC) (τ' : SR), ((f_X7_renew σ2).bind fun σ20 => some (r, σ20)) = _ ∧ _
  rw [f1]
  exact ⟨_, σ3, τ2, rfl, rfl, f2⟩
def swc (b : Bd) (i j : Nat) : Bd := setc (setc b i (b.1 j)) j (b.1 i)
theorem swap_in {σ0 : SC} {τ0 : SR} {x : Nat} (hx : x < 4) (kc : SC → Option SC) (kr : SR → Option (Int32 × SR)) : ∀ (m n n' y : Nat) (b : Bd) (σ : SC) (τ : SR), y + m = x → m < n → m < n' → VB b → CB b σ → RB b τ → G0 σ0 σ τ0 τ → ∃ (b' : Bd) (σ' : SC) (τ' : SR), f_X0_swapRowsAndColumns_L9 (nI x) kc n σ (nI y) = kc σ' ∧ f_X8_turn_L13 (nI x) kr n' τ (nI y) = kr τ' ∧ VB b' ∧ CB b' σ' ∧ RB b' τ' ∧ G0 σ0 σ' τ0 τ' := by
  intro m
  induction m with
  | zero =>
    intro n n' y b σ τ h1 h2 h3 hv hc hr hg
    obtain ⟨n, rfl⟩ := succ_of h2
    obtain ⟨n', rfl⟩ := succ_of h3
    rw [f_X0_swapRowsAndColumns_L9_s, f_X8_turn_L13_s, if_le (by omega) (by omega), if_le (by omega) (by omega)]
    exact ⟨b, σ, τ, rfl, rfl, hv, hc, hr, hg⟩
  | succ m ih =>
    intro n n' y b σ τ h1 h2 h3 hv hc hr hg
    obtain ⟨n, rfl⟩ := succ_of h2
    obtain ⟨n', rfl⟩ := succ_of h3
    have e1 : x * 4 + y < 16 := by omega
    have e2 : y * 4 + x < 16 := by omega
    rw [f_X0_swapRowsAndColumns_L9_s, f_X8_turn_L13_s, if_nle (by omega) (by omega), if_nle (by omega) (by omega), pk_mul, pk_mul, pk_mul, pk_mul, nI_add, nI_add, nI_add, nI_add, Nat.mul_comm 4 x, Nat.mul_comm 4 y, if_in (by omega), if_in (by omega), if_in (by omega), if_in (by omega), ix_nI (by omega), ix_nI (by omega), rd_in σ (show x * 4 + y < lnC 0 from e1), rd_in σ (show y * 4 + x < lnC 0 from e2), wr_in _ _ (show x * 4 + y < lnC 0 from e1), wr_in _ _ (show y * 4 + x < lnC 0 from e2), hc.1 _ e1, hc.1 _ e2, hr.1 _ e1, hr.1 _ e2, nI_1]
    exact ih n n' (y + 1) (swc b (x * 4 + y) (y * 4 + x)) _ _ (by omega) (by omega) (by omega) (setc_V (setc_V hv (hv.1 _ e2)) (hv.1 _ e1)) (setc_C (setc_C hc)) (setc_R (setc_R hr e1) e2) ((hg.up _ _ _ _).up _ _ _ _)
theorem swap_out {σ0 : SC} {τ0 : SR} : ∀ (m n n' x : Nat) (b : Bd) (σ : SC) (τ : SR), x + m = 4 → m < n → m < n' → VB b → CB b σ → RB b τ → G0 σ0 σ τ0 τ → ∃ (b' : Bd) (σ' : SC) (τ' : SR), f_X0_swapRowsAndColumns_L2 n σ (nI x) = some σ' ∧ f_X8_turn_L6 n' τ (nI x) = bnd (f_X8_changed τ') (fun r73 σ73 => some (r73, σ73)) ∧ VB b' ∧ CB b' σ' ∧ RB b' τ' ∧ G0 σ0 σ' τ0 τ' := by
  intro m
  induction m with
  | zero =>
    intro n n' y b σ τ h1 h2 h3 hv hc hr hg
    obtain ⟨n, rfl⟩ := succ_of h2
    obtain ⟨n', rfl⟩ := succ_of h3
    rw [f_X0_swapRowsAndColumns_L2_s, f_X8_turn_L6_s, if_le (by omega) (by omega), if_le (by omega) (by omega)]
    exact ⟨b, σ, τ, rfl, rfl, hv, hc, hr, hg⟩
  | succ m ih =>
    intro n n' x b σ τ h1 h2 h3 hv hc hr hg
    obtain ⟨n, rfl⟩ := succ_of h2
    obtain ⟨n', rfl⟩ := succ_of h3
    rw [f_X0_swapRowsAndColumns_L2_s, f_X8_turn_L6_s, if_nle (by omega) (by omega), if_nle (by omega) (by omega)]
    obtain ⟨b1, σ1, τ1, a1, a2, a3, a4, a5, a6⟩ := swap_in (σ0 := σ0) (τ0 := τ0) (show x < 4 by omega) (fun σ_70 => f_X0_swapRowsAndColumns_L2 n σ_70 (nI x + 1)) (fun σ_66 => f_X8_turn_L6 n' σ_66 (nI x + 1)) x FU FU 0 b σ τ (by omega) (by have := FU_big; omega) (by have := FU_big; omega) hv hc hr hg
    rw [nI_0] at a1 a2
    rw [a1, a2]
    show ∃ (b' : Bd) (σ' : SC) (τ' : SR), f_X0_swapRowsAndColumns_L2 n σ1 (nI x + 1) = some σ' ∧ f_X8_turn_L6 n' τ1 (nI x + 1) = _ ∧ _
    rw [nI_1]
    exact ih n n' (x + 1) b1 σ1 τ1 (by omega) (by omega) (by omega) a3 a4 a5 a6
theorem s_turn {σ : SC} {τ : SR} (h : Rel σ τ) : ∃ (r : Int32) (σ' : SC) (τ' : SR), f_X7_turn σ = some (r, σ') ∧ f_X8_turn τ = some (r, τ') ∧ Rel σ' τ' := by
  obtain ⟨b, hv, hc, hr, hd, hp⟩ := id h
  obtain ⟨σ1, τ1, n1, n2, n3, n4, n5, -, -, -, -⟩ := noted hv hc hr hp
  obtain ⟨b', σ2, τ2, w1, w2, w3, w4, w5, w6⟩ := swap_out (σ0 := σ1) (τ0 := τ1) 4 FU FU 0 b σ1 τ1 (by omega) (by have := FU_big; omega) (by have := FU_big; omega) hv n3 n4 G0.rf
  obtain ⟨σ3, f1, f2, f3, -⟩ := finish w3 w4 w5 (w6.pr n5)
  obtain ⟨τ3, c1, c2⟩ := changed_ok w5 w3
  rw [nI_0] at w1 w2
  unfold f_X7_turn f_X8_turn f_X0_swapRowsAndColumns
  rw [n1, n2, Option.bind_some, Option.bind_some, w1, w2, Option.bind_some, f1, Option.bind_some, c1, f3]
  exact ⟨_, σ3, τ3, rfl, rfl, f2.fr c2⟩
/-! the list -/
def addw (b : Bd) (v : Nat) : Bd := (b.1, b.2.1 + 1, fun j => if j = b.2.1 then v else b.2.2 j)
theorem addw_V {b : Bd} {v : Nat} (hv : VB b) (hw : b.2.1 < 16) (hok : okN v = true) (hno : ∀ j, j < b.2.1 → b.2.2 j ≠ v) : VB (addw b v) := by
  refine ⟨hv.1, by show b.2.1 + 1 ≤ 16; omega, fun j hj => ?_, fun j hj => ?_, fun i j hi hj he => ?_⟩
  · show (if j = b.2.1 then v else b.2.2 j) ≤ 2400
    split
    · exact (okN_le hok).2
    · exact hv.2.2.1 j hj
  · have hj : j < b.2.1 + 1 := hj
    show okN (if j = b.2.1 then v else b.2.2 j) = true
    split
    · exact hok
    · exact hv.2.2.2.1 j (by omega)
  · have hi : i < b.2.1 + 1 := hi
    have hj : j < b.2.1 + 1 := hj
    have he : (if i = b.2.1 then v else b.2.2 i) = (if j = b.2.1 then v else b.2.2 j) := he
    by_cases e1 : i = b.2.1
    · by_cases e2 : j = b.2.1
      · omega
      · rw [if_pos e1, if_neg e2] at he; exact absurd he.symm (hno j (by omega))
    · by_cases e2 : j = b.2.1
      · rw [if_neg e1, if_pos e2] at he; exact absurd he (hno i (by omega))
      · rw [if_neg e1, if_neg e2] at he; exact hv.2.2.2.2 i j (by omega) (by omega) he
/-- only the list differs, on both sides -/
def G1 (σ σ' : SC) (τ τ' : SR) : Prop := (∀ r, r ≠ 1 → r ≠ 17 → σ' r = σ r) ∧ (∀ j, j ≠ 0 → σ' 17 j = σ 17 j) ∧ (∀ r, r ≠ 0 → τ'.1 r = τ.1 r)
theorem G1.rf {σ : SC} {τ : SR} : G1 σ σ τ τ := ⟨fun _ _ _ => rfl, fun _ _ => rfl, fun _ _ => rfl⟩
theorem G1.tr {σ s u : SC} {τ t v : SR} (h : G1 σ s τ t) (g : G1 s u t v) : G1 σ u τ v := ⟨fun r a c => by rw [g.1 r a c, h.1 r a c], fun j hj => by rw [g.2.1 j hj, h.2.1 j hj], fun r hr => by rw [g.2.2 r hr, h.2.2 r hr]⟩
theorem G1.pr {σ σ' : SC} {τ τ' : SR} (h : G1 σ σ' τ τ') (hp : PR σ τ) : PR σ' τ' := hp.keep (h.1 16 (by decide) (by decide)) (fun j _ _ => h.2.1 j (by omega)) (h.2.2 1 (by decide)) (h.2.2 2 (by decide)) (h.2.2 3 (by decide)) (by rw [h.2.2 9 (by decide)]) (by rw [h.2.2 9 (by decide)])
theorem append_ok {b : Bd} {σ : SC} {τ : SR} {v : Nat} (hc : CB b σ) (hr : RB b τ) (hw : b.2.1 < 16) : ∃ σ', f_X0_append σ (nI v) = some σ' ∧ CB (addw b v) σ' ∧ RB (addw b v) (rsu (rsu τ 0 (17 + b.2.1) (nI v)) 0 16 (nI (b.2.1 + 1))) ∧ G1 σ σ' τ (rsu (rsu τ 0 (17 + b.2.1) (nI v)) 0 16 (nI (b.2.1 + 1))) := by
  refine ⟨su (su σ 1 b.2.1 (nI v)) 17 0 (nI (b.2.1 + 1)), ?_, ⟨?_, ?_, ?_⟩, ⟨?_, ?_, ?_⟩, ?_, ?_, ?_⟩
  · unfold f_X0_append
    rw [hc.2.1, if_nle hw (by omega), wr_in _ _ (show b.2.1 < lnC 1 from hw), su_at, if_neg (fun z => absurd z.1 (by decide)), hc.2.1, nI_1]
  · intro i hi
    rw [su_row _ _ _ _ (by decide), su_row _ _ _ _ (by decide)]; exact hc.1 i hi
  · rw [su_at, if_pos ⟨rfl, rfl⟩]; rfl
  · intro j hj
    rw [su_row _ _ _ _ (by decide), su_at]
    show _ = nI (if j = b.2.1 then v else b.2.2 j)
    by_cases e : j = b.2.1
    · rw [if_pos ⟨rfl, e⟩, if_pos e]
    · rw [if_neg (fun z => e z.2), if_neg e]; exact hc.2.2 j hj
  · intro i hi
    rw [rsu_at, if_neg (by omega), rsu_at, if_neg (by omega)]; exact hr.1 i hi
  · rw [rsu_at, if_pos ⟨rfl, rfl⟩]; rfl
  · intro j hj
    rw [rsu_at, if_neg (by omega), rsu_at]
    show _ = nI (if j = b.2.1 then v else b.2.2 j)
    by_cases e : j = b.2.1
    · rw [if_pos ⟨rfl, by omega⟩, if_pos e]
    · rw [if_neg (by omega), if_neg e]; exact hr.2.2 j hj
  · intro r a c; rw [su_row _ _ _ _ c, su_row _ _ _ _ a]
  · intro j hj; rw [su_at, if_neg (fun z => hj z.2), su_row _ _ _ _ (by decide)]
  · intro r hr'; rw [rsu_row _ _ _ _ hr', rsu_row _ _ _ _ hr']
theorem fnd_code {b : Bd} (hv : VB b) {v : Nat} (hvl : v ≤ 2400) : (fnd (fun j => decide (nI (b.2.2 j) = nI v)) b.2.1 0 = -1 ∧ ∀ j, j < b.2.1 → b.2.2 j ≠ v) ∨ ∃ i, i < b.2.1 ∧ fnd (fun j => decide (nI (b.2.2 j) = nI v)) b.2.1 0 = nI i := by
  rcases fnd_cases (fun j => decide (nI (b.2.2 j) = nI v)) b.2.1 0 with ⟨h1, h2⟩ | ⟨i, h1, h2, h3, h4, h5⟩
  · left
    refine ⟨h1, fun j hj e => ?_⟩
    have := h2 j (by omega) (by omega)
    rw [e] at this
    simp at this
  · right; exact ⟨i, by omega, h5⟩
theorem s_add {σ : SC} {τ : SR} (h : Rel σ τ) (a0 : Int32) : ∃ (r : Int32) (σ' : SC) (τ' : SR), f_X7_add σ a0 = some (r, σ') ∧ f_X8_add τ a0 = some (r, τ') ∧ Rel σ' τ' := by
  obtain ⟨b, hv, hc, hr, hd, hp⟩ := id h
  have hw16 := hv.2.1
  unfold f_X7_add f_X8_add
  rcases code_any a0 with ⟨v, hok, rfl, e1, e2⟩ | ⟨e1, e2⟩
  · have hl := lenN_le v
    have hvl := (okN_le hok).2
    rw [e1, e2, Option.bind_some, Option.bind_some, if_ne0 (by omega) (by omega), if10, numberOf_ok hc hv, findCode_ok hr hv, Option.bind_some, Option.bind_some]
    rcases fnd_code hv hvl with ⟨g1, g2⟩ | ⟨i, g1, g2⟩
    · rw [g1, if_t (show (-1 : Int32) = -1 from rfl), if_t (show (-1 : Int32) = -1 from rfl), if_in16, ix16, hc.2.1, hr.2.1]
      by_cases gw : b.2.1 < 16
      · rw [if_lt gw (by omega), if_neq (by omega) (by omega) (by omega)]
        obtain ⟨σ1, τ1, n1, n2, n3, n4, n5, -, -, -, -⟩ := noted hv hc hr hp
        obtain ⟨σ2, a1, a2, a3, a4⟩ := append_ok (v := v) n3 n4 gw
        obtain ⟨σ3, f1, f2, f3, f4⟩ := finish (addw_V hv gw hok g2) a2 a3 (a4.pr n5)
        rw [n1, n2, Option.bind_some, Option.bind_some, a1, Option.bind_some, f1, Option.bind_some, if_in16, n4.2.1, nI_add, if_in (by omega), if_in16, if_in16, if_in16, ix_nI (by omega), f4 0 (by decide), a2.2.1]
        have e16 : (rsu τ1 0 (17 + b.2.1) (nI v)).1 0 16 = nI b.2.1 := by rw [rsu_at, if_neg (by omega)]; exact n4.2.1
        rw [e16, nI_1, rsu_at, if_t (show 0 = 0 ∧ 16 = 16 from ⟨rfl, rfl⟩)]
        exact ⟨_, σ3, _, rfl, rfl, f2⟩
      · rw [if_nlt (by omega) (by omega), if_eq (by omega)]
        exact ⟨_, σ, τ, rfl, rfl, h⟩
    · rw [g2, if_nm1 (by omega), if_nm1 (by omega)]
      exact ⟨_, σ, τ, rfl, rfl, h⟩
  · rw [e1, e2]; exact ⟨_, σ, τ, rfl, rfl, h⟩
def delw (b : Bd) (x : Nat) : Bd := (b.1, b.2.1 - 1, fun j => if x ≤ j ∧ j < b.2.1 - 1 then b.2.2 (j + 1) else b.2.2 j)
theorem delw_V {b : Bd} {x : Nat} (hv : VB b) (hx : x < b.2.1) : VB (delw b x) := by
  have hw := hv.2.1
  refine ⟨hv.1, by show b.2.1 - 1 ≤ 16; omega, fun j hj => ?_, fun j hj => ?_, fun i j hi hj he => ?_⟩
  · show (if x ≤ j ∧ j < b.2.1 - 1 then b.2.2 (j + 1) else b.2.2 j) ≤ 2400
    split
    · exact hv.2.2.1 (j + 1) (by omega)
    · exact hv.2.2.1 j hj
  · have hj : j < b.2.1 - 1 := hj
    show okN (if x ≤ j ∧ j < b.2.1 - 1 then b.2.2 (j + 1) else b.2.2 j) = true
    split
    · exact hv.2.2.2.1 (j + 1) (by omega)
    · exact hv.2.2.2.1 j (by omega)
  · have hi : i < b.2.1 - 1 := hi
    have hj : j < b.2.1 - 1 := hj
    have he : (if x ≤ i ∧ i < b.2.1 - 1 then b.2.2 (i + 1) else b.2.2 i) = (if x ≤ j ∧ j < b.2.1 - 1 then b.2.2 (j + 1) else b.2.2 j) := he
    have inj := hv.2.2.2.2
    by_cases e1 : x ≤ i
    · by_cases e2 : x ≤ j
      · rw [if_pos ⟨e1, hi⟩, if_pos ⟨e2, hj⟩] at he
        have := inj (i + 1) (j + 1) (by omega) (by omega) he; omega
      · rw [if_pos ⟨e1, hi⟩, if_neg (by omega)] at he
        have := inj (i + 1) j (by omega) (by omega) he; omega
    · by_cases e2 : x ≤ j
      · rw [if_neg (by omega), if_pos ⟨e2, hj⟩] at he
        have := inj i (j + 1) (by omega) (by omega) he; omega
      · rw [if_neg (by omega), if_neg (by omega)] at he
        exact inj i j (by omega) (by omega) he
theorem takeOut_ok {b : Bd} {σ : SC} {x : Nat} (hc : CB b σ) (hv : VB b) (hx : x < b.2.1) : ∃ σ', f_X0_takeOut σ (nI x) = some σ' ∧ CB (delw b x) σ' ∧ (∀ r, r ≠ 1 → r ≠ 17 → σ' r = σ r) ∧ ∀ j, j ≠ 0 → σ' 17 j = σ 17 j := by
  have hw := hv.2.1
  have loop : ∀ (k n i : Nat) (s : SC), x ≤ i → i + k = b.2.1 - 1 → k < n → (∀ r, r ≠ 1 → s r = σ r) → (∀ j, j < 16 → s 1 j = nI (if x ≤ j ∧ j < i then b.2.2 (j + 1) else b.2.2 j)) → ∃ σ', f_X0_takeOut_L2 n s (nI i) = some σ' ∧ CB (delw b x) σ' ∧ (∀ r, r ≠ 1 → r ≠ 17 → σ' r = σ r) ∧ ∀ j, j ≠ 0 → σ' 17 j = σ 17 j := by
    intro k
    induction k with
    | zero =>
      intro n i s h0 h1 h2 h3 h4
      obtain ⟨n, rfl⟩ := succ_of h2
      rw [f_X0_takeOut_L2_s, h3 17 (by decide), hc.2.1, nI_m1 (by omega), if_le (by omega) (by omega)]
      refine ⟨_, rfl, ⟨fun j hj => ?_, ?_, fun j hj => ?_⟩, fun r a c => by rw [su_row _ _ _ _ c, h3 r a], fun j hj => by rw [su_at, if_neg (fun z => hj z.2), h3 17 (by decide)]⟩
      · rw [su_row _ _ _ _ (by decide), h3 0 (by decide)]; exact hc.1 j hj
      · rw [su_at, if_pos ⟨rfl, rfl⟩]; rfl
      · rw [su_row _ _ _ _ (by decide), h4 j hj]
        show _ = nI (if x ≤ j ∧ j < b.2.1 - 1 then b.2.2 (j + 1) else b.2.2 j)
        rw [show i = b.2.1 - 1 by omega]
    | succ k ih =>
      intro n i s h0 h1 h2 h3 h4
      obtain ⟨n, rfl⟩ := succ_of h2
      rw [f_X0_takeOut_L2_s, h3 17 (by decide), hc.2.1, nI_m1 (by omega), if_nle (by omega) (by omega), nI_1, wr_in _ _ (show i < lnC 1 by show i < 16; omega), rd_in s (show i + 1 < lnC 1 by show i + 1 < 16; omega), h4 (i + 1) (by omega), if_neg (by omega)]
      refine ih n (i + 1) _ (by omega) (by omega) (by omega) (fun r hr => by rw [su_row _ _ _ _ hr, h3 r hr]) (fun j hj => ?_)
      rw [su_at]
      by_cases e : j = i
      · rw [if_pos ⟨rfl, e⟩, if_pos (by omega), e]
      · rw [if_neg (fun z => e z.2), h4 j hj]
        by_cases g : x ≤ j ∧ j < i
        · rw [if_pos g, if_pos (by omega)]
        · rw [if_neg g, if_neg (by omega)]
  unfold f_X0_takeOut
  exact loop (b.2.1 - 1 - x) FU x σ (Nat.le_refl _) (by omega) (by have := FU_big; omega) (fun _ _ => rfl) (fun j hj => by rw [if_neg (by omega)]; exact hc.2.2 j hj)
theorem strike_ok {b : Bd} {τ : SR} {x : Nat} (hr : RB b τ) (hv : VB b) (hx : x < b.2.1) : ∃ τ', f_X8_strike_L28 FU (rsu τ 0 16 (nI (b.2.1 - 1))) (nI x) = some (nI (b.2.1 - 1), τ') ∧ RB (delw b x) τ' ∧ ∀ r, r ≠ 0 → τ'.1 r = τ.1 r := by
  have hw := hv.2.1
  have loop : ∀ (k n i : Nat) (t : SR), x ≤ i → i + k = b.2.1 - 1 → k < n → (∀ r, r ≠ 0 → t.1 r = τ.1 r) → (∀ q, q < 16 → t.1 0 q = rV (b.1 q)) → t.1 0 16 = nI (b.2.1 - 1) → (∀ j, j < 16 → t.1 0 (17 + j) = nI (if x ≤ j ∧ j < i then b.2.2 (j + 1) else b.2.2 j)) → ∃ τ', f_X8_strike_L28 n t (nI i) = some (nI (b.2.1 - 1), τ') ∧ RB (delw b x) τ' ∧ ∀ r, r ≠ 0 → τ'.1 r = τ.1 r := by
    intro k
    induction k with
    | zero =>
      intro n i t h0 h1 h2 h3 h4 h5 h6
      obtain ⟨n, rfl⟩ := succ_of h2
      rw [f_X8_strike_L28_s, if_in16, ix16, h5, if_le (by omega) (by omega), if_in16]
      refine ⟨t, rfl, ⟨h4, h5, fun j hj => ?_⟩, h3⟩
      rw [h6 j hj]
      show _ = nI (if x ≤ j ∧ j < b.2.1 - 1 then b.2.2 (j + 1) else b.2.2 j)
      rw [show i = b.2.1 - 1 by omega]
    | succ k ih =>
      intro n i t h0 h1 h2 h3 h4 h5 h6
      obtain ⟨n, rfl⟩ := succ_of h2
      rw [f_X8_strike_L28_s, if_in16, ix16, h5, if_nle (by omega) (by omega), nI_add, nI_1, if_in (by omega), if_in (by omega), ix_nI (by omega), ix_nI (by omega), nI_1, show 17 + i + 1 = 17 + (i + 1) by omega, h6 (i + 1) (by omega), if_neg (by omega)]
      refine ih n (i + 1) _ (by omega) (by omega) (by omega) (fun r hr => by rw [rsu_row _ _ _ _ hr, h3 r hr]) (fun q hq => ?_) ?_ (fun j hj => ?_)
      · rw [rsu_at, if_neg (by omega)]; exact h4 q hq
      · rw [rsu_at, if_neg (by omega)]; exact h5
      · rw [rsu_at]
        by_cases e : j = i
        · rw [if_pos ⟨rfl, by omega⟩, if_pos (by omega), e]
        · rw [if_neg (by omega), h6 j hj]
          by_cases g : x ≤ j ∧ j < i
          · rw [if_pos g, if_pos (by omega)]
          · rw [if_neg g, if_neg (by omega)]
  exact loop (b.2.1 - 1 - x) FU x (rsu τ 0 16 (nI (b.2.1 - 1))) (Nat.le_refl _) (by omega) (by have := FU_big; omega) (fun r hr' => by rw [rsu_row _ _ _ _ hr']) (fun q hq => by rw [rsu_at, if_neg (by omega)]; exact hr.1 q hq) (by rw [rsu_at, if_pos ⟨rfl, rfl⟩]) (fun j hj => by rw [rsu_at, if_neg (by omega), if_neg (by omega)]; exact hr.2.2 j hj)
theorem s_strike {σ : SC} {τ : SR} (h : Rel σ τ) (a0 : Int32) : ∃ (r : Int32) (σ' : SC) (τ' : SR), f_X7_strike σ a0 = some (r, σ') ∧ f_X8_strike τ a0 = some (r, τ') ∧ Rel σ' τ' := by
  obtain ⟨b, hv, hc, hr, hd, hp⟩ := id h
  have hw16 := hv.2.1
  unfold f_X7_strike f_X8_strike
  rcases word_any hc hr hv a0 with ⟨e1, e2⟩ | ⟨x, hx, rfl, e1, e2⟩
  · rw [e1, e2]; exact ⟨_, σ, τ, rfl, rfl, h⟩
  · rw [e1, e2, Option.bind_some, Option.bind_some, if10, if10]
    obtain ⟨σ1, τ1, n1, n2, n3, n4, n5, -, -, -, -⟩ := noted hv hc hr hp
    obtain ⟨σ2, a1, a2, a3, a4⟩ := takeOut_ok n3 hv hx
    obtain ⟨τ2, c1, c2, c3⟩ := strike_ok n4 hv hx
    obtain ⟨σ3, f1, f2, f3, f4⟩ := finish (delw_V hv hx) a2 c2 (n5.keep (a3 16 (by decide) (by decide)) (fun j _ _ => a4 j (by omega)) (c3 1 (by decide)) (c3 2 (by decide)) (c3 3 (by decide)) (by rw [c3 9 (by decide)]) (by rw [c3 9 (by decide)]))
    rw [n1, n2, Option.bind_some, Option.bind_some, a1, Option.bind_some, f1, Option.bind_some, if_in16, if_in16, ix16, n4.2.1, nI_m1 (by omega), c1, f4 0 (by decide), a2.2.1]
    exact ⟨_, σ3, τ2, rfl, rfl, f2⟩
theorem put_loop {b0 : Bd} {s w : Nat} (hs' : s < nS b0) (hv0 : VB b0) (hw : w < b0.2.1) (hl : lenN (b0.2.2 w) = sZ b0 s) {σ0 : SC} {τ0 : SR} (hd : DS b0 σ0) (hi : DI b0 σ0) (hrs : RS b0 τ0) : ∀ (m n n' p c : Nat) (b : Bd) (σ : SC) (τ : SR), p + m = sZ b0 s → m < n → m < n' → VB b → b.2 = b0.2 → CB b σ → RB b τ → G0 σ0 σ τ0 τ → ∃ (r : Int32) (b' : Bd) (σ' : SC) (τ' : SR), f_X7_writeWord_L5 (nI s) (nI w) n σ (nI c) (nI p) = some (r, σ') ∧ f_X8_put_L51 (nI s) (nI (b0.2.2 w)) n' τ (nI c) (nI p) = some (r, τ') ∧ VB b' ∧ CB b' σ' ∧ RB b' τ' ∧ G0 σ0 σ' τ0 τ' := by
  have h8 := nS_le b0
  have hw16 := hv0.2.1
  have hz := sZ_24 hs'
  intro m
  induction m with
  | zero =>
    intro n n' p c b σ τ h1 h2 h3 hv hb2 hc hr hg
    obtain ⟨n, rfl⟩ := succ_of h2
    obtain ⟨n', rfl⟩ := succ_of h3
    rw [f_X7_writeWord_L5_s, f_X8_put_L51_s, rd_in σ (show s < lnC 3 by show s < 8; omega), hg.1 3 (by decide), (hd.2.2.2.1 s hs').2.1, if_in (by omega), ix_nI (by omega), hg.2 5 (by decide), (hrs.2 s hs').2.1, if_le (by omega) (by omega), if_le (by omega) (by omega)]
    exact ⟨_, b, σ, τ, rfl, rfl, hv, hc, hr, hg⟩
  | succ m ih =>
    intro n n' p c b σ τ h1 h2 h3 hv hb2 hc hr hg
    obtain ⟨n, rfl⟩ := succ_of h2
    obtain ⟨n', rfl⟩ := succ_of h3
    have hd1 : DS b0 σ := hd.keep (fun r _ _ => hg.1 r (by omega)) (fun j _ _ => by rw [hg.1 17 (by decide)])
    have hrs1 : RS b0 τ := by unfold RS; rw [hg.2 4 (by decide), hg.2 5 (by decide), hg.2 6 (by decide), hg.2 9 (by decide)]; exact hrs
    have hcl := cS_lt hs' (show p < sZ b0 s by omega)
    have h7 := hv.1 _ hcl
    have hcd := hv0.2.2.1 w (by omega)
    have hl1 := okN_let (hv0.2.2.2.1 w hw) (show p < lenN (b0.2.2 w) by omega)
    have hl2 := letN_lt (b0.2.2 w) p
    have hlet : σ 10 (4 * w + p) = nI (letN (b0.2.2 w) p - 1) := by rw [hg.1 10 (by decide)]; exact hi.2.2 w hw p (by omega)
    have hK : ∀ y0 y1 : Int32, f_X8_put_K94 (f_X8_put_L51 (nI s) (nI (b0.2.2 w)) n') τ (nI s) (nI (b0.2.2 w)) (nI p) (nI (cS b0 s p)) y0 y1 = f_X8_put_L51 (nI s) (nI (b0.2.2 w)) n' (rsu τ 0 (cS b0 s p) (rV (letN (b0.2.2 w) p))) (y1 + y0) (nI (p + 1)) := by
      intro y0 y1
      unfold f_X8_put_K94
      rw [letterOf_ok hcd (by omega), Option.bind_some, if_in (by omega), ix_nI (by omega), nI_1, rV_let (by omega)]
    rw [f_X7_writeWord_L5_s, f_X8_put_L51_s, rd_in σ (show s < lnC 3 by show s < 8; omega), (hd1.2.2.2.1 s hs').2.1, if_in (by omega), ix_nI (by omega), (hrs1.2 s hs').2.1, if_nle (by omega) (by omega), if_nle (by omega) (by omega), cellAt_ok hd1 hs', cellOf_ok hrs1 hs', Option.bind_some, Option.bind_some, letterOf_ok hcd (by omega), if_in (by omega), ix_nI (by omega), hr.1 _ hcl, Option.bind_some, hK, hK]
    unfold f_X3_letterOf
    rw [Option.bind_some, pk_mul, nI_add, rd_in σ (show w * 4 + p < lnC 10 by show _ < 64; omega), Nat.mul_comm w 4, hlet, nI_add, rd_in σ (show cS b0 s p < lnC 0 from hcl), hc.1 _ hcl, show 97 + (letN (b0.2.2 w) p - 1) = 96 + letN (b0.2.2 w) p by omega, ← cV_let hl1 (by omega), ← rV_let (k := letN (b0.2.2 w) p) (by omega)]
    by_cases g : b.1 (cS b0 s p) = letN (b0.2.2 w) p
    · rw [if_ceq g, if_req g, nI_1, Int32.add_zero]
      have hr2 : RB b (rsu τ 0 (cS b0 s p) (rV (letN (b0.2.2 w) p))) := by
        have := setc_R (i := cS b0 s p) (k := letN (b0.2.2 w) p) hr hcl
        have e : setc b (cS b0 s p) (letN (b0.2.2 w) p) = b := by
          unfold setc
          refine Prod.ext ?_ rfl
          funext q
          show (if q = cS b0 s p then letN (b0.2.2 w) p else b.1 q) = b.1 q
          split
          · rename_i z; rw [z, g]
          · rfl
        rwa [e] at this
      exact ih n n' (p + 1) c b σ _ (by omega) (by omega) (by omega) hv hb2 hc hr2 ⟨hg.1, fun r hr' => by rw [rsu_row _ _ _ _ hr', hg.2 r hr']⟩
    · rw [if_cne h7 (by omega) g, if_rne h7 (by omega) g, nI_1, nI_1, wr_in _ _ (show cS b0 s p < lnC 0 from hcl)]
      exact ih n n' (p + 1) (c + 1) (setc b (cS b0 s p) (letN (b0.2.2 w) p)) _ _ (by omega) (by omega) (by omega) (setc_V hv (by omega)) hb2 (setc_C hc) (setc_R hr hcl) (hg.up _ _ _ _)
theorem s_put {σ : SC} {τ : SR} (h : Rel σ τ) (a0 a1 : Int32) : ∃ (r : Int32) (σ' : SC) (τ' : SR), f_X7_put σ a0 a1 = some (r, σ') ∧ f_X8_put τ a0 a1 = some (r, τ') ∧ Rel σ' τ' := by
  obtain ⟨b, hv, hc, hr, hd, hp⟩ := id h
  have hw16 := hv.2.1
  have h8 := nS_le b
  obtain ⟨τ1, b1, b2', b3, hs⟩ := slot_any hd.1 hr hv a0
  unfold f_X7_put f_X8_put
  rcases hs with ⟨e1, e2⟩ | ⟨s, hs', rfl, e1, e2⟩
  · rw [e1, e2]; exact ⟨_, σ, τ1, rfl, rfl, h.fr b3⟩
  · rw [e1, e2, Option.bind_some, bnd_some, if10, if10]
    rcases word_any hc b1 hv a1 with ⟨e3, e4⟩ | ⟨w, hw, rfl, e3, e4⟩
    · rw [e3, e4]; exact ⟨_, σ, τ1, rfl, rfl, h.fr b3⟩
    · have hz := sZ_24 hs'
      have hcd := hv.2.2.1 w (by omega)
      have hln := lenN_le (b.2.2 w)
      rw [e3, e4, Option.bind_some, Option.bind_some, if10, if10, codeAt_ok b1 (by omega), Option.bind_some, rlength_ok hcd, Option.bind_some, if_in (by omega), ix_nI (by omega), (b2'.2 s hs').2.1, rd_in σ (show s < lnC 3 by show s < 8; omega), (hd.1.2.2.2.1 s hs').2.1, rd_in σ (show sZ b s < lnC 8 by show _ < 5; omega), (hd.2.1.1 (sZ b s) (by omega)).cnv (by omega)]
      by_cases g : lenN (b.2.2 w) = sZ b s
      · rw [if_t (show (decide (w < b.2.1) && decide (lenN (b.2.2 w) = sZ b s)) = true by simp [hw, g]), if10, if_eq g]
        have hp1 : PR σ τ1 := hp.keep rfl (fun _ _ _ => rfl) b3.2.1 b3.2.2.1 b3.2.2.2.1 b3.2.2.2.2.1 b3.2.2.2.2.2
        obtain ⟨σ1, τ2, n1, n2, n3, n4, n5, n6, n7, n8, n9⟩ := noted hv hc b1 hp1
        have hd1 : DS b σ1 := hd.1.keep (fun r _ _ => n6 r (by omega) (by omega)) (fun j _ _ => n7 j (by omega))
        have hi1 : DI b σ1 := hd.2.1.keep (n6 8 (by decide) (by decide)) (n6 9 (by decide) (by decide)) (n6 10 (by decide) (by decide))
        have hrs1 : RS b τ2 := by unfold RS; rw [n8 4 (by decide) (by decide), n8 5 (by decide) (by decide), n8 6 (by decide) (by decide), n9]; exact b2'
        obtain ⟨r, b', σ2, τ3, w1, w2, w3, w4, w5, w6⟩ := put_loop hs' hv hw g hd1 hi1 hrs1 (sZ b s) FU FU 0 0 b σ1 τ2 (by omega) (by have := FU_big; omega) (by have := FU_big; omega) hv rfl n3 n4 G0.rf
        obtain ⟨σ3, f1, f2, f3, -⟩ := finish w3 w4 w5 (w6.pr n5)
        rw [nI_0] at w1 w2
        unfold f_X7_writeWord
        rw [n1, n2, Option.bind_some, Option.bind_some, w1, w2]
        show ∃ (r' : Int32) (σ' : SC) (τ' : SR), ((f_X7_renew σ2).bind fun σ69 => some (r, σ69)) = _ ∧ _
        rw [f1]
        exact ⟨_, σ3, τ3, rfl, rfl, f2⟩
      · rw [if_f (show ¬ (decide (w < b.2.1) && decide (lenN (b.2.2 w) = sZ b s)) = true by simp [g]), if00, if_neq g (by omega) (by omega)]
        exact ⟨_, σ, τ1, rfl, rfl, h.fr b3⟩
