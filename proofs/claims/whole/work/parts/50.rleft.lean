/-! the reference's words left -/
section RLf
variable {b : Bd} {τ : SR}
/-- only the row of the words left differs -/
def F7 (τ τ' : SR) : Prop := (∀ r, r ≠ 7 → τ'.1 r = τ.1 r) ∧ τ'.2 = τ.2
theorem F7.rf : F7 τ τ := ⟨fun _ _ => rfl, rfl⟩
theorem F7.tr {a c d : SR} (h1 : F7 a c) (h2 : F7 c d) : F7 a d := ⟨fun r hr => (h2.1 r hr).trans (h1.1 r hr), h2.2.trans h1.2⟩
theorem F7.up (τ : SR) (i : Nat) (v : Int32) : F7 τ (rsu τ 7 i v) := ⟨fun _ hr => rsu_row _ _ _ _ hr, rfl⟩
theorem F7.rb {τ' : SR} (h : F7 τ τ') (hb : RB b τ) : RB b τ' := by unfold RB; rw [h.1 0 (by decide)]; exact hb
theorem F7.rs {τ' : SR} (h : F7 τ τ') (hr : RS b τ) : RS b τ' := by unfold RS; rw [h.1 4 (by decide), h.1 5 (by decide), h.1 6 (by decide), h.1 9 (by decide)]; exact hr
theorem F7.fr {τ' : SR} (h : F7 τ τ') : FR τ τ' := ⟨h.1 0 (by decide), h.1 1 (by decide), h.1 2 (by decide), h.1 3 (by decide), by rw [h.1 9 (by decide)], by rw [h.1 9 (by decide)]⟩
theorem goesWith_ok (hb : RB b τ) (hv : VB b) (hr : RS b τ) {L : LL} (hL : Sup b L) {t q c w : Nat} (ht : t < nS b) (hq : q < sZ b t) (hc : c < 7) (hw : w < b.2.1) (hset : IsSet (τ.1 7 t) (L t)) : f_X8_goesWith τ (nI t) (nI (cS b t q)) (nI c) (nI w) = some (b2 ((List.range b.2.1).any (fun v => decide (v ≠ w) && (L t v && decide (letN (b.2.2 v) q = c))))) := by
  have h8 := nS_le b
  have hw16 := hv.2.1
  have key : ∀ (k n v : Nat), v + k = b.2.1 → k < n → (∀ u, u < v → (decide (u ≠ w) && (L t u && decide (letN (b.2.2 u) q = c))) = false) → f_X8_goesWith_L3 τ (nI t) (nI (cS b t q)) (nI c) (nI w) n (nI v) = some (b2 ((List.range b.2.1).any (fun v => decide (v ≠ w) && (L t v && decide (letN (b.2.2 v) q = c))))) := by
    intro k
    induction k with
    | zero =>
      intro n v h1 h2 h3
      obtain ⟨n, rfl⟩ := succ_of h2
      rw [f_X8_goesWith_L3_s, if_in16, ix16, hb.2.1, if_le (by omega) (by omega)]
      have : (List.range b.2.1).any (fun v => decide (v ≠ w) && (L t v && decide (letN (b.2.2 v) q = c))) = false := by
        apply Bool.eq_false_iff.mpr
        intro z
        obtain ⟨u, u1, u2⟩ := List.any_eq_true.mp z
        rw [h3 u (by have := List.mem_range.mp u1; omega)] at u2; cases u2
      rw [this]; rfl
    | succ k ih =>
      intro n v h1 h2 h3
      obtain ⟨n, rfl⟩ := succ_of h2
      rw [f_X8_goesWith_L3_s, if_in16, ix16, hb.2.1, if_nle (by omega) (by omega), nI_1]
      have go : (decide (v ≠ w) && (L t v && decide (letN (b.2.2 v) q = c))) = false → f_X8_goesWith_L3 τ (nI t) (nI (cS b t q)) (nI c) (nI w) n (nI (v + 1)) = some (b2 ((List.range b.2.1).any (fun v => decide (v ≠ w) && (L t v && decide (letN (b.2.2 v) q = c))))) := by
        intro z
        refine ih n (v + 1) (by omega) (by omega) (fun u hu => ?_)
        by_cases e : u = v
        · rw [e]; exact z
        · exact h3 u (by omega)
      by_cases e : v = w
      · rw [if_eq e]
        exact go (by simp [e])
      · rw [if_neq e (by omega) (by omega), if_in (by omega), ix_nI (by omega), hset.hasv (by omega), Option.bind_some]
        by_cases g : L t v = true
        · have hlv := hL.len g
          rw [if_pos g, if_neg (by decide), letterIn_ok hb hv hr ht (by omega) hq hlv.2, Option.bind_some]
          have := letN_lt (b.2.2 v) q
          by_cases g2 : letN (b.2.2 v) q = c
          · rw [if_eq g2]
            have : (List.range b.2.1).any (fun v => decide (v ≠ w) && (L t v && decide (letN (b.2.2 v) q = c))) = true := List.any_eq_true.mpr ⟨v, List.mem_range.mpr (by omega), by simp [e, g, g2]⟩
            rw [this]; rfl
          · rw [if_neq g2 (by omega) (by omega)]
            exact go (by simp [g2])
        · rw [if_neg g, if_pos rfl]
          exact go (by simp [g])
  unfold f_X8_goesWith
  have := key b.2.1 FU 0 (by omega) (by have := FU_big; omega) (fun u hu => by omega)
  rwa [nI_0] at this
theorem stays_ok (hb : RB b τ) (hv : VB b) (hr : RS b τ) {L : LL} (hL : Sup b L) {s w : Nat} (hs' : s < nS b) (hw : w < b.2.1) (hl : lenN (b.2.2 w) = sZ b s) (hset : ∀ t, t < nS b → IsSet (τ.1 7 t) (L t)) : f_X8_stays τ (nI w) (nI s) = some (b2 (stay b L s w)) := by
  have h8 := nS_le b
  have hw16 := hv.2.1
  have key : ∀ (k n t : Nat), t + k = nS b → k < n → (∀ u, u < t → X b s u = true → goesW b L s w u = true) → f_X8_stays_L2 τ (nI w) (nI s) n (nI t) = some (b2 (stay b L s w)) := by
    intro k
    induction k with
    | zero =>
      intro n t h1 h2 h3
      obtain ⟨n, rfl⟩ := succ_of h2
      rw [f_X8_stays_L2_s, hr.1, if_le (by omega) (by omega), stay_iff.mpr (fun u hu => h3 u (by omega))]
      rfl
    | succ k ih =>
      intro n t h1 h2 h3
      obtain ⟨n, rfl⟩ := succ_of h2
      have ht : t < nS b := by omega
      rw [f_X8_stays_L2_s, hr.1, if_nle (by omega) (by omega), common_ok hr hs' ht, Option.bind_some, nI_1]
      by_cases g : X b s t = true
      · obtain ⟨g1, g2, g3, g4⟩ := X_place hs' ht g
        have hc := cS_lt hs' g2
        have hlt := letN_lt (b.2.2 w) (pX b s t)
        rw [if_pos g, if_nm1 (by omega), letterIn_ok hb hv hr hs' hw g2 hl, Option.bind_some, g4, goesWith_ok hb hv hr hL ht g3 hlt hw (hset t ht), Option.bind_some]
        by_cases q : goesW b L s w t = true
        · rw [if_b1 (show (List.range b.2.1).any (fun v => decide (v ≠ w) && (L t v && decide (letN (b.2.2 v) (pX b t s) = letN (b.2.2 w) (pX b s t)))) = true from q)]
          refine ih n (t + 1) (by omega) (by omega) (fun u hu hxu => ?_)
          by_cases e2 : u = t
          · rw [e2]; exact q
          · exact h3 u (by omega) hxu
        · have q' : goesW b L s w t = false := by simpa using q
          rw [if_b0 (show (List.range b.2.1).any (fun v => decide (v ≠ w) && (L t v && decide (letN (b.2.2 v) (pX b t s) = letN (b.2.2 w) (pX b s t)))) = false from q')]
          have : stay b L s w = false := by
            apply Bool.eq_false_iff.mpr
            intro z
            exact q (stay_iff.mp z t ht g)
          rw [this]; rfl
      · rw [if_neg g, if_pos rfl]
        refine ih n (t + 1) (by omega) (by omega) (fun u hu hxu => ?_)
        by_cases e2 : u = t
        · rw [e2] at hxu; exact absurd hxu g
        · exact h3 u (by omega) hxu
  unfold f_X8_stays
  have := key (nS b) FU 0 (by omega) (by have := FU_big; omega) (fun u hu => by omega)
  rwa [nI_0] at this
theorem lay23 (hv : VB b) {s : Nat} (hs' : s < nS b) (kx : SR → Option SR) : ∀ (k n w : Nat) (τ : SR), RB b τ → RS b τ → w + k = b.2.1 → k < n → IsSet (τ.1 7 s) (fun v => decide (v < w) && fitB b s v) → ∃ τ', f_X8_layLeft_L23 (nI s) kx n τ (nI w) = kx τ' ∧ F7 τ τ' ∧ IsSet (τ'.1 7 s) (fitW b s) ∧ ∀ t, t ≠ s → τ'.1 7 t = τ.1 7 t := by
  have h8 := nS_le b
  have hw16 := hv.2.1
  intro k
  induction k with
  | zero =>
    intro n w τ hb hr h1 h2 h3
    obtain ⟨n, rfl⟩ := succ_of h2
    rw [f_X8_layLeft_L23_s, if_in16, ix16, hb.2.1, if_le (by omega) (by omega)]
    rw [show w = b.2.1 by omega] at h3
    exact ⟨τ, rfl, F7.rf, h3, fun _ _ => rfl⟩
  | succ k ih =>
    intro n w τ hb hr h1 h2 h3
    obtain ⟨n, rfl⟩ := succ_of h2
    rw [f_X8_layLeft_L23_s, if_in16, ix16, hb.2.1, if_nle (by omega) (by omega), if_in (by omega), fits_ok hb hv hr hs' (by omega), Option.bind_some, ix_nI (by omega), nI_1]
    have go : ∀ x, IsSet x (fun v => decide (v < w + 1) && fitB b s v) → ∃ τ', f_X8_layLeft_L23 (nI s) kx n (rsu τ 7 s x) (nI (w + 1)) = kx τ' ∧ F7 τ τ' ∧ IsSet (τ'.1 7 s) (fitW b s) ∧ ∀ t, t ≠ s → τ'.1 7 t = τ.1 7 t := by
      intro x hx
      have hF := F7.up τ s x
      obtain ⟨τ', a1, a2, a3, a4⟩ := ih n (w + 1) (rsu τ 7 s x) (hF.rb hb) (hF.rs hr) (by omega) (by omega) (by rw [rsu_at, if_pos ⟨rfl, rfl⟩]; exact hx)
      exact ⟨τ', a1, hF.tr a2, a3, fun t ht => by rw [a4 t ht, rsu_at, if_neg (fun z => ht z.2)]⟩
    by_cases g : fitB b s w = true
    · rw [if_b1 g, if_in (by omega)]
      refine go _ ((h3.ins (by omega)).cong (fun v _ => ?_))
      apply Bool.eq_iff_iff.mpr
      simp only [Bool.or_eq_true, Bool.and_eq_true, decide_eq_true_eq]
      constructor
      · rintro (⟨a1, a2⟩ | rfl)
        · exact ⟨by omega, a2⟩
        · exact ⟨by omega, g⟩
      · rintro ⟨a1, a2⟩
        by_cases e : v = w
        · right; exact e
        · left; exact ⟨by omega, a2⟩
    · have g' : fitB b s w = false := by simpa using g
      rw [if_b0 g', if_in (by omega)]
      refine go _ (h3.ins0.cong (fun v _ => ?_))
      apply Bool.eq_iff_iff.mpr
      simp only [Bool.and_eq_true, decide_eq_true_eq]
      constructor
      · rintro ⟨a1, a2⟩; exact ⟨by omega, a2⟩
      · rintro ⟨a1, a2⟩
        refine ⟨?_, a2⟩
        by_cases e : v = w
        · rw [e] at a2; exact absurd a2 g
        · omega
theorem lay6 (hv : VB b) (kx : SR → Option SR) : ∀ (k n s : Nat) (τ : SR), RB b τ → RS b τ → s + k = nS b → k < n → (∀ t, t < s → IsSet (τ.1 7 t) (fitW b t)) → ∃ τ', f_X8_layLeft_L6 kx n τ (nI s) = kx τ' ∧ F7 τ τ' ∧ ∀ t, t < nS b → IsSet (τ'.1 7 t) (fitW b t) := by
  have h8 := nS_le b
  have hw16 := hv.2.1
  intro k
  induction k with
  | zero =>
    intro n s τ hb hr h1 h2 h3
    obtain ⟨n, rfl⟩ := succ_of h2
    rw [f_X8_layLeft_L6_s, hr.1, if_le (by omega) (by omega)]
    exact ⟨τ, rfl, F7.rf, fun t ht => h3 t (by omega)⟩
  | succ k ih =>
    intro n s τ hb hr h1 h2 h3
    obtain ⟨n, rfl⟩ := succ_of h2
    have hF := F7.up τ s 0
    obtain ⟨τ1, a1, a2, a3, a4⟩ := lay23 (b := b) hv (show s < nS b by omega) (fun σ_65 => f_X8_layLeft_L6 kx n σ_65 (nI s + 1)) b.2.1 FU 0 (rsu τ 7 s 0) (hF.rb hb) (hF.rs hr) (by omega) (by have := FU_big; omega) (by rw [rsu_at, if_pos ⟨rfl, rfl⟩]; exact IsSet.zero.cong (fun _ _ => by simp))
    rw [nI_0] at a1
    have hF2 := hF.tr a2
    obtain ⟨τ', c1, c2, c3⟩ := ih n (s + 1) τ1 (hF2.rb hb) (hF2.rs hr) (by omega) (by omega) (fun t ht => by
      by_cases e : t = s
      · rw [e]; exact a3
      · rw [a4 t e, rsu_at, if_neg (fun z => e z.2)]; exact h3 t (by omega))
    refine ⟨τ', ?_, hF2.tr c2, c3⟩
    rw [f_X8_layLeft_L6_s, hr.1, if_nle (by omega) (by omega), if_in (by omega), ix_nI (by omega), a1]
    show f_X8_layLeft_L6 kx n τ1 (nI s + 1) = _
    rw [nI_1, c1]
theorem lay91 (hv : VB b) {a0 : LL × Bool} (hL : Sup b a0.1) {s : Nat} (hs' : s < nS b) (kx : SR → Int32 → Option SR) : ∀ (k n w : Nat) (τ : SR), RB b τ → RS b τ → w + k = b.2.1 → k < n → (∀ t, t < nS b → IsSet (τ.1 7 t) ((wp b s w a0).1 t)) → ∃ τ', f_X8_layLeft_L91 (nI s) kx n τ (b2 (wp b s w a0).2) (nI w) = kx τ' (b2 (wp b s b.2.1 a0).2) ∧ F7 τ τ' ∧ ∀ t, t < nS b → IsSet (τ'.1 7 t) ((wp b s b.2.1 a0).1 t) := by
  have h8 := nS_le b
  have hw16 := hv.2.1
  intro k
  induction k with
  | zero =>
    intro n w τ hb hr h1 h2 h3
    obtain ⟨n, rfl⟩ := succ_of h2
    have e : w = b.2.1 := by omega
    subst e
    rw [f_X8_layLeft_L91_s, if_in16, ix16, hb.2.1, if_le (by omega) (by omega)]
    exact ⟨τ, rfl, F7.rf, h3⟩
  | succ k ih =>
    intro n w τ hb hr h1 h2 h3
    obtain ⟨n, rfl⟩ := succ_of h2
    have hsup : Sup b (wp b s w a0).1 := wp_sup hL
    have es : wp b s (w + 1) a0 = st1 b s w (wp b s w a0) := rfl
    rw [f_X8_layLeft_L91_s, if_in16, ix16, hb.2.1, if_nle (by omega) (by omega), if_in (by omega), ix_nI (by omega), (h3 s hs').hasv (by omega), Option.bind_some, nI_1]
    by_cases g : (wp b s w a0).1 s w = true
    · have hln := hsup.len g
      rw [if_pos g, if_neg (by decide), stays_ok hb hv hr hsup hs' (by omega) hln.2 h3, Option.bind_some]
      by_cases q : stay b (wp b s w a0).1 s w = true
      · rw [if_b1 q]
        have e2 : st1 b s w (wp b s w a0) = wp b s w a0 := by unfold st1; rw [if_neg]; rw [q]; simp
        have := ih n (w + 1) τ hb hr (by omega) (by omega) (by rw [es, e2]; exact h3)
        rwa [es, e2] at this
      · have q' : stay b (wp b s w a0).1 s w = false := by simpa using q
        rw [if_b0 q', if_in (by omega), if_in (by omega)]
        have e2 : st1 b s w (wp b s w a0) = (del (wp b s w a0).1 s w, true) := by unfold st1; rw [if_pos]; rw [g, q']; rfl
        have hF := F7.up τ s (τ.1 7 s &&& ((1 : Int32) <<< (nI w &&& 31) ^^^ (-1 : Int32)))
        obtain ⟨τ', c1, c2, c3⟩ := ih n (w + 1) _ (hF.rb hb) (hF.rs hr) (by omega) (by omega) (by
          rw [es, e2]
          intro t ht
          show IsSet _ (del (wp b s w a0).1 s w t)
          rw [rsu_at]
          by_cases e : t = s
          · rw [if_pos ⟨rfl, e⟩, e]
            refine ((h3 s hs').del (by omega)).cong (fun v _ => ?_)
            unfold del; simp
          · rw [if_neg (fun z => e z.2)]
            refine (h3 t ht).cong (fun v _ => ?_)
            unfold del; simp [e])
        rw [es, e2] at c1
        exact ⟨τ', c1, hF.tr c2, c3⟩
    · rw [if_neg g, if_pos rfl]
      have e2 : st1 b s w (wp b s w a0) = wp b s w a0 := by unfold st1; rw [if_neg]; simp [g]
      have := ih n (w + 1) τ hb hr (by omega) (by omega) (by rw [es, e2]; exact h3)
      rwa [es, e2] at this
theorem lay81 (hv : VB b) {L : LL} (hL : Sup b L) (kx : SR → Int32 → Option SR) : ∀ (k n s : Nat) (τ : SR), RB b τ → RS b τ → s + k = nS b → k < n → (∀ t, t < nS b → IsSet (τ.1 7 t) ((sp b s (L, false)).1 t)) → ∃ τ', f_X8_layLeft_L81 kx n τ (b2 (sp b s (L, false)).2) (nI s) = kx τ' (b2 (pass b L).2) ∧ F7 τ τ' ∧ ∀ t, t < nS b → IsSet (τ'.1 7 t) ((pass b L).1 t) := by
  have h8 := nS_le b
  have hw16 := hv.2.1
  intro k
  induction k with
  | zero =>
    intro n s τ hb hr h1 h2 h3
    obtain ⟨n, rfl⟩ := succ_of h2
    have e : s = nS b := by omega
    subst e
    rw [f_X8_layLeft_L81_s, hr.1, if_le (by omega) (by omega)]
    exact ⟨τ, rfl, F7.rf, h3⟩
  | succ k ih =>
    intro n s τ hb hr h1 h2 h3
    obtain ⟨n, rfl⟩ := succ_of h2
    have hsup : Sup b (sp b s (L, false)).1 := sp_sup (a := (L, false)) hL
    obtain ⟨τ1, a1, a2, a3⟩ := lay91 hv hsup (show s < nS b by omega) (fun σ_146 x1_146 => f_X8_layLeft_L81 kx n σ_146 x1_146 (nI s + 1)) b.2.1 FU 0 τ hb hr (by omega) (by have := FU_big; omega) h3
    rw [nI_0] at a1
    obtain ⟨τ', c1, c2, c3⟩ := ih n (s + 1) τ1 (a2.rb hb) (a2.rs hr) (by omega) (by omega) a3
    refine ⟨τ', ?_, a2.tr c2, c3⟩
    rw [f_X8_layLeft_L81_s, hr.1, if_nle (by omega) (by omega)]
    refine Eq.trans a1 ?_
    show f_X8_layLeft_L81 kx n τ1 _ (nI s + 1) = _
    rw [nI_1]
    exact c1
theorem lay73 (hv : VB b) : ∀ (k n : Nat) (L : LL) (τ : SR), RB b τ → RS b τ → Sup b L → mu b L (nS b) < k → k < n → (∀ t, t < nS b → IsSet (τ.1 7 t) (L t)) → ∃ τ', f_X8_layLeft_L73 n τ 1 = some τ' ∧ F7 τ τ' ∧ ∀ t, t < nS b → IsSet (τ'.1 7 t) (it b k L t) := by
  intro k
  induction k with
  | zero => intro n L τ _ _ _ h; omega
  | succ k ih =>
    intro n L τ hb hr hL h1 h2 h3
    obtain ⟨n, rfl⟩ := succ_of h2
    obtain ⟨τ1, a1, a2, a3⟩ := lay81 hv hL (fun σ_152 x1_152 => f_X8_layLeft_L73 n σ_152 x1_152) (nS b) FU 0 τ hb hr (by omega) (by have := FU_big; have := nS_le b; omega) h3
    rw [nI_0] at a1
    rw [f_X8_layLeft_L73_s, if_neg (by decide)]
    have a1' : f_X8_layLeft_L81 (fun σ_152 x1_152 => f_X8_layLeft_L73 n σ_152 x1_152) FU τ 0 0 = f_X8_layLeft_L73 n τ1 (b2 (pass b L).2) := a1
    rw [a1', it_succ]
    rcases pass_inv b L with ⟨z, -⟩ | ⟨z, z2⟩
    · rw [z, if_neg Bool.false_ne_true]
      obtain ⟨n, rfl⟩ : ∃ m, n = m + 1 := ⟨n - 1, by omega⟩
      rw [f_X8_layLeft_L73_s, if_b0 rfl]
      exact ⟨τ1, rfl, a2, a3⟩
    · rw [z, if_pos rfl]
      obtain ⟨τ', c1, c2, c3⟩ := ih n (pass b L).1 τ1 (a2.rb hb) (a2.rs hr) (sp_sup (k := nS b) (a := (L, false)) hL) (by omega) (by omega) a3
      exact ⟨τ', c1, a2.tr c2, c3⟩
/-- the reference lays slots and words left -/
theorem layLeft_ok (hb : RB b τ) (hv : VB b) : ∃ τ', f_X8_layLeft τ = some τ' ∧ RB b τ' ∧ RS b τ' ∧ FR τ τ' ∧ ∀ s, s < nS b → IsSet (τ'.1 7 s) (leftB b s) := by
  have h8 := nS_le b
  obtain ⟨τ1, a1, a2, a3, -⟩ := lay_ok hb hv
  obtain ⟨τ2, c1, c2, c3⟩ := lay6 hv (fun σ_71 => f_X8_layLeft_L73 FU σ_71 1) (nS b) FU 0 τ1 (a3.rb hb) a2 (by omega) (by have := FU_big; omega) (fun t ht => by omega)
  rw [nI_0] at c1
  obtain ⟨τ3, d1, d2, d3⟩ := lay73 hv 129 FU (fitW b) τ2 (c2.rb (a3.rb hb)) (c2.rs a2) (fun _ _ h => h) (mu_128 hv _) (by have := FU_big; omega) c3
  have hF := c2.tr d2
  refine ⟨τ3, ?_, hF.rb (a3.rb hb), hF.rs a2, a3.tr hF.fr, d3⟩
  unfold f_X8_layLeft
  rw [a1, Option.bind_some, c1]
  exact d1
end RLf
