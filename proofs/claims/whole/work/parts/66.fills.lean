/-! fillings, both sides -/
def z0 : Nat → Nat := fun _ => 0
def alls (b : Bd) : Nat → Bool := fun s => decide (s < nS b)
theorem alls_ct (b : Bd) : ct (alls b) (nS b) = nS b := by
  have : ∀ n, n ≤ nS b → ct (alls b) n = n := by
    intro n
    induction n with
    | zero => intro _; rfl
    | succ n ih =>
      intro h
      rw [ct_succ, ih (by omega), if_pos (show alls b n = true from decide_eq_true (by omega))]
  exact this _ (Nat.le_refl _)
theorem alls_ct' (b : Bd) {k : Nat} (h : k ≤ nS b) : ct (alls b) k = k := by
  induction k with
  | zero => rfl
  | succ n ih => rw [ct_succ, ih (by omega), if_pos (show alls b n = true from decide_eq_true (by omega))]
theorem alls_kth (b : Bd) {i : Nat} (h : i < nS b) : kth (alls b) i = i := by
  have h8 := nS_le b
  have := kth_ct (p := alls b) (k := i) (by omega) (decide_eq_true h)
  rw [alls_ct' b (by omega)] at this
  exact this
theorem shl_ok : ∀ n, n ≤ 8 → ((1 : Int32) <<< (nI n &&& 31)) = nI (2 ^ n) := by decide +kernel
theorem alls_set (b : Bd) : IsSet (((1 : Int32) <<< (nI (nS b) &&& 31)) - 1) (alls b) := by
  have hp : 1 ≤ 2 ^ nS b := Nat.one_le_two_pow
  rw [shl_ok _ (nS_le b), nI_m1 hp]
  refine (IsSet.ofN _).cong (fun k _ => ?_)
  rw [Nat.testBit_two_pow_sub_one]
  rfl
section FS
variable {b : Bd} {σ : SC} {τ : SR} {p : Nat → Bool} {x : Int32}
theorem fillR (hr : RB b τ) (hv : VB b) (hs : RS b τ) (hx : IsSet x p) {P R : Nat → Nat → Bool} {x3 x4 : Int32} {L : Nat} (hL1 : 1 ≤ L) (hL : L ≤ 999) (hP : ∀ i v, P i v = (R i v && fitW b (kth p i) v)) (hR : ∀ i, i < ct p (nS b) → ∀ v, v < b.2.1 → (nI (kth p i) = x3 → R i v = decide (nI v = x4)) ∧ (nI (kth p i) ≠ x3 → R i v = true)) : ∃ τ', f_X8_fillings τ x (nI L) x3 x4 = some (nI (min L (KP b (kth p) P (ct p (nS b)) 0 z0)), τ') ∧ F8 τ τ' ∧ (L = 1 → KP b (kth p) P (ct p (nS b)) 0 z0 ≠ 0 → ∃ ψ, FstP b (kth p) P (ct p (nS b)) 0 z0 ψ ∧ ∀ k, k < ct p (nS b) → τ'.1 8 (kth p k) = nI (ψ k)) := by
  have h8 := nS_le b
  have hct := ct_le p (nS b)
  have hnx : f_X8_nextSlot τ (-1) x 1 = some (nI (if 0 < ct p (nS b) then kth p 0 else nS b)) := by
    unfold f_X8_nextSlot
    have := next_up hs hx (nS b) FU 0 (by omega) (by have := FU_big; omega)
    rw [show ((-1 : Int32) + 1) = nI 0 by decide]
    exact this
  unfold f_X8_fillings
  rw [hnx, Option.bind_some, hs.1]
  generalize hm : ct p (nS b) = m at *
  cases m with
  | zero =>
    rw [if_neg (show ¬ 0 < 0 by omega), if_nlt (by omega) (by omega)]
    refine ⟨τ, ?_, F8.rf, fun _ _ => ⟨z0, rfl, fun k hk => by omega⟩⟩
    have : min L (KP b (kth p) P 0 0 z0) = 1 := by show min L 1 = 1; omega
    rw [this]; rfl
  | succ h =>
    obtain ⟨q1, q2, q3⟩ := kth_ok (p := p) (i := 0) (n := nS b) (by omega) h8
    rw [if_pos (show 0 < h + 1 by omega), if_lt q1 (by omega), if_in (by omega), ix_nI (by omega)]
    have hu := F8.up τ (kth p 0) (-1)
    have hTm := Tm_fu (h + 1) (by omega)
    have hfu := FU_big
    have hW := rways_ok (P := P) (R := R) (x := x) (x3 := x3) (x4 := x4) (L := L) (m := h + 1) hv hx hm.symm hL hP hR (h + 1) (by omega)
    obtain ⟨A, B⟩ := hW 0 z0 (rsu τ 8 (kth p 0) (-1)) 0 FU (by omega) (by omega) (hu.rb hr) (hu.rs hs) (fun j hj => by omega) (fun j hj => by omega) (by rw [rsu_at, if_pos ⟨rfl, rfl⟩]) (by omega)
    rw [nI_0, Nat.zero_add] at A B
    by_cases g : KP b (kth p) P (h + 1) 0 z0 < L
    · obtain ⟨n', τ', a1, a2, a3, a4⟩ := A g
      obtain ⟨n', rfl⟩ := succ_of (show 0 < n' by omega)
      refine ⟨τ', ?_, hu.tr a3, fun l1 l2 => by omega⟩
      rw [a2, f_X8_fillings_L31_s, show prv p 0 = -1 from rfl, if_pos (by decide), Nat.min_eq_right (by omega)]
    · obtain ⟨τ', a1, a2, a3⟩ := B (by omega)
      refine ⟨τ', ?_, hu.tr a2, fun l1 _ => a3 l1⟩
      rw [a1, Nat.min_eq_left (by omega)]
theorem stt0 {C : Nat → Nat → Bool} {O : Nat → Nat} {m : Nat} {σ : SC} (h1 : σ 17 4 = nI m) (h2 : ∀ j, j < m → σ 13 j = nI (O j)) (h3 : ∀ j, j < m → IsSet (σ 14 j) (C j)) : Stt b O C m 0 z0 σ := by
  refine ⟨h1, h2, fun j _ hj => ?_, fun k hk => by omega⟩
  rw [show 8 * 0 + j = j by omega]
  refine (h3 j hj).cong (fun v _ => ?_)
  unfold cs
  simp
theorem fillC (hv : VB b) (hd : DS b σ) (hi : DI b σ) (hx : IsSet x p) {r : Nat} (hr : lnC r = 8) (hr2 : r ≠ 13 ∧ r ≠ 14 ∧ r ≠ 15 ∧ r ≠ 17) {B : LL} (hB : ∀ s, s < nS b → IsSet (σ r s) (B s)) (hS : Sup b B) {L : Nat} (hL1 : 1 ≤ L) (hL : L ≤ 999) : ∃ σ1 σ', f_X2_begin σ x r = some σ1 ∧ f_X2_ways 12 σ1 0 (nI L) = some (nI (min L (KP b (kth p) (fun i v => B (kth p i) v) (ct p (nS b)) 0 z0)), σ') ∧ FQ σ σ' ∧ (L = 1 → KP b (kth p) (fun i v => B (kth p i) v) (ct p (nS b)) 0 z0 ≠ 0 → ∃ ψ, FstP b (kth p) (fun i v => B (kth p i) v) (ct p (nS b)) 0 z0 ψ ∧ ∀ k, k < ct p (nS b) → σ' 15 k = nI (ψ k)) := by
  have h8 := nS_le b
  have hct := ct_le p (nS b)
  obtain ⟨σ1, b1, b2, b3, b4⟩ := begin_ok hd hx hr hr2
  have hO : ∀ j, j < ct p (nS b) → kth p j < nS b := fun j hj => (kth_ok hj h8).1
  have he : Env2 b σ1 := ⟨hd.keep (fun r _ _ => b2.1 r (by omega) (by omega) (by omega) (by omega)) (fun j _ _ => b2.2 j (by omega)), hi.keep (b2.1 8 (by decide) (by decide) (by decide) (by decide)) (b2.1 9 (by decide) (by decide) (by decide) (by decide)) (b2.1 10 (by decide) (by decide) (by decide) (by decide))⟩
  have hst : Stt b (kth p) (fun i v => B (kth p i) v) (ct p (nS b)) 0 z0 σ1 := stt0 b3 (fun j hj => (b4 j hj).1) (fun j hj => by
    rw [(b4 j hj).2]; exact hB _ (hO j hj))
  obtain ⟨σ', w1, w2, w3⟩ := ways_ok (C := fun i v => B (kth p i) v) hv (by omega) hO (fun j _ v h => hS _ _ h) (ct p (nS b)) 12 0 z0 σ1 L (by omega) (by omega) he hst hL1 hL
  rw [nI_0] at w1
  exact ⟨σ1, σ', b1, w1, b2.tr w2.fq, w3⟩
theorem fillW (hv : VB b) (hd : DS b σ) (hi : DI b σ) (hl : DC b σ) {s w : Nat} (hs' : s < nS b) (hw : w < b.2.1) : ∃ σ', f_X2_fillingsWith σ (nI s) (nI w) (nI 999) = some (nI (min 999 (KP b (kth (alls b)) (fun i v => leftB b (kth (alls b) i) v && (!decide (i = s) || decide (v = w))) (nS b) 0 z0)), σ') ∧ FQ σ σ' := by
  have h8 := nS_le b
  have hw16 := hv.2.1
  have hsup : Sup b (leftB b) := it_sup (fun _ _ h => h)
  obtain ⟨σ1, b1, b2, b3, b4⟩ := begin_ok hd (alls_set b) (r := 12) rfl (by decide)
  rw [alls_ct] at b3 b4
  have he : Env2 b σ1 := ⟨hd.keep (fun r _ _ => b2.1 r (by omega) (by omega) (by omega) (by omega)) (fun j _ _ => b2.2 j (by omega)), hi.keep (b2.1 8 (by decide) (by decide) (by decide) (by decide)) (b2.1 9 (by decide) (by decide) (by decide) (by decide)) (b2.1 10 (by decide) (by decide) (by decide) (by decide))⟩
  have hO : ∀ j, j < nS b → kth (alls b) j < nS b := fun j hj => by rw [alls_kth b hj]; exact hj
  have hset : ∀ j, j < nS b → IsSet (σ1 14 j) (leftB b (kth (alls b) j)) := fun j hj => by
    rw [(b4 j hj).2]; exact hl.2 _ (hO j hj)
  unfold f_X2_fillingsWith
  rw [hd.1, b1, Option.bind_some, rd_in σ1 (show s < lnC 14 by show s < 64; omega), wr_in σ1 _ (show s < lnC 14 by show s < 64; omega)]
  generalize hσ2 : su σ1 14 s (σ1 14 s &&& (1 : Int32) <<< (nI w &&& 31)) = σ2
  have hrow : ∀ r, r ≠ 14 → r ≠ 15 → σ2 r = σ1 r := fun r h1 _ => by rw [← hσ2]; exact su_row _ _ _ _ h1
  have hst : Stt b (kth (alls b)) (fun i v => leftB b (kth (alls b) i) v && (!decide (i = s) || decide (v = w))) (nS b) 0 z0 σ2 := by
    refine stt0 (by rw [hrow 17 (by decide) (by decide)]; exact b3) (fun j hj => by rw [hrow 13 (by decide) (by decide)]; exact (b4 j hj).1) (fun j hj => ?_)
    rw [← hσ2, su_at]
    by_cases e : j = s
    · rw [if_pos ⟨rfl, e⟩]
      refine ((hset s hs').and (IsSet.one (show w < 32 by omega))).cong (fun v _ => ?_)
      rw [e]; simp
    · rw [if_neg (fun z => e z.2)]
      refine (hset j hj).cong (fun v _ => ?_)
      simp [e]
  have he2 : Env2 b σ2 := he.keep hrow
  obtain ⟨σ', w1, w2, w3⟩ := ways_ok (O := kth (alls b)) (C := fun i v => leftB b (kth (alls b) i) v && (!decide (i = s) || decide (v = w))) hv h8 hO (fun j _ v h => by
    simp only [Bool.and_eq_true] at h
    exact hsup _ _ h.1) (nS b) 12 0 z0 σ2 999 (by omega) (by omega) he2 hst (by omega) (by omega)
  rw [nI_0] at w1
  rw [w1, bnd_some]
  refine ⟨σ', rfl, b2.tr (FQ.tr ⟨fun r _ h14 h15 _ => hrow r h14 h15, fun j _ => by rw [hrow 17 (by decide) (by decide)]⟩ w2.fq)⟩
theorem left_fit (R : Nat → Nat → Bool) : KP b (kth (alls b)) (fun i v => leftB b (kth (alls b) i) v && R i v) (nS b) 0 z0 = KP b (kth (alls b)) (fun i v => R i v && fitW b (kth (alls b) i) v) (nS b) 0 z0 ∧ ∀ ψ, FstP b (kth (alls b)) (fun i v => leftB b (kth (alls b) i) v && R i v) (nS b) 0 z0 ψ → FstP b (kth (alls b)) (fun i v => R i v && fitW b (kth (alls b) i) v) (nS b) 0 z0 ψ := by
  have hsup : Sup b (leftB b) := it_sup (fun _ _ h => h)
  refine KP_same (m := nS b) (fun i v h => ?_) (fun ψ h j hj => ?_) (by omega) (fun j hj => by omega)
  · simp only [Bool.and_eq_true] at h ⊢
    exact ⟨h.2, hsup _ _ h.1⟩
  · have hf : ∀ j, j < nS b → okP b (fun s => s) (fitW b) ψ j (ψ j) = true := by
      intro j hj
      obtain ⟨h1, h2⟩ := okP_iff.mp (h j hj).2
      simp only [Bool.and_eq_true, alls_kth b hj] at h1
      refine okP_iff.mpr ⟨h1.2, fun k hk => ?_⟩
      have := h2 k hk
      rw [alls_kth b (show k < nS b by omega), alls_kth b hj] at this
      exact this
    have h1 := (okP_iff.mp (h j hj).2).1
    simp only [Bool.and_eq_true] at h1 ⊢
    rw [alls_kth b hj]
    exact ⟨hold_left hf j hj, h1.1⟩
theorem KP_ext {O : Nat → Nat} {P Q : Nat → Nat → Bool} (h : P = Q) {m i : Nat} {φ : Nat → Nat} : KP b O P m i φ = KP b O Q m i φ := by rw [h]
/-- all slots, no word fixed -/
def KA (b : Bd) : Nat := KP b (kth (alls b)) (fun i v => fitW b (kth (alls b) i) v) (nS b) 0 z0
def FA1 (b : Bd) (ψ : Nat → Nat) : Prop := FstP b (kth (alls b)) (fun i v => fitW b (kth (alls b) i) v) (nS b) 0 z0 ψ
theorem left_fit1 : KP b (kth (alls b)) (fun i v => leftB b (kth (alls b) i) v) (nS b) 0 z0 = KA b ∧ ∀ ψ, FstP b (kth (alls b)) (fun i v => leftB b (kth (alls b) i) v) (nS b) 0 z0 ψ → FA1 b ψ := by
  have := left_fit (b := b) (fun _ _ => true)
  have e1 : (fun i v => leftB b (kth (alls b) i) v && (fun (_ _ : Nat) => true) i v) = (fun i v => leftB b (kth (alls b) i) v) := by funext i v; simp
  have e2 : (fun i v => (fun (_ _ : Nat) => true) i v && fitW b (kth (alls b) i) v) = (fun i v => fitW b (kth (alls b) i) v) := by funext i v; simp
  rw [e1, e2] at this
  exact this
theorem fillingsC (hv : VB b) (hd : DS b σ) (hi : DI b σ) (hl : DC b σ) {L : Nat} (hL1 : 1 ≤ L) (hL : L ≤ 999) : ∃ σ', f_X2_fillings σ (nI L) = some (nI (min L (KA b)), σ') ∧ FQ σ σ' ∧ (L = 1 → KA b ≠ 0 → ∃ ψ, FA1 b ψ ∧ ∀ k, k < nS b → σ' 15 k = nI (ψ k)) := by
  obtain ⟨σ1, σ', c1, c2, c3, c4⟩ := fillC hv hd hi (alls_set b) (r := 12) rfl (by decide) hl.2 (it_sup (fun _ _ h => h)) hL1 hL
  rw [alls_ct] at c2 c4
  rw [show KP b (kth (alls b)) (fun i v => leftB b (kth (alls b) i) v) (nS b) 0 z0 = KA b from left_fit1.1] at c2 c4
  refine ⟨σ', ?_, c3, fun l1 l2 => ?_⟩
  · unfold f_X2_fillings
    rw [hd.1, c1, Option.bind_some, c2, bnd_some]
  · obtain ⟨ψ, z1, z2⟩ := c4 l1 l2
    exact ⟨ψ, left_fit1.2 ψ z1, z2⟩
theorem m1_kth {i : Nat} (h : i < 8) : nI i ≠ -1 := fun z => by rw [m1_nI (by omega)] at z; exact z
theorem fillSet (hr : RB b τ) (hv : VB b) (hs : RS b τ) (hx : IsSet x p) {L : Nat} (hL1 : 1 ≤ L) (hL : L ≤ 999) : ∃ τ', f_X8_fillings τ x (nI L) (-1) 0 = some (nI (min L (KP b (kth p) (fun i v => fitW b (kth p i) v) (ct p (nS b)) 0 z0)), τ') ∧ F8 τ τ' ∧ (L = 1 → KP b (kth p) (fun i v => fitW b (kth p i) v) (ct p (nS b)) 0 z0 ≠ 0 → ∃ ψ, FstP b (kth p) (fun i v => fitW b (kth p i) v) (ct p (nS b)) 0 z0 ψ ∧ ∀ k, k < ct p (nS b) → τ'.1 8 (kth p k) = nI (ψ k)) := by
  have h8 := nS_le b
  refine fillR (R := fun _ _ => true) hr hv hs hx hL1 hL (fun i v => by simp) (fun i hi v _ => ⟨fun z => ?_, fun _ => rfl⟩)
  have := (kth_ok (p := p) hi h8).1
  exact absurd z (m1_kth (by omega))
theorem all_set (hs : RS b τ) : ∃ y, f_X8_all τ = some y ∧ IsSet y (alls b) ∧ y = nI (2 ^ nS b - 1) := by
  refine ⟨_, rfl, by rw [hs.1]; exact alls_set b, ?_⟩
  rw [hs.1, shl_ok _ (nS_le b), nI_m1 Nat.one_le_two_pow]
theorem fillingsR (hr : RB b τ) (hv : VB b) (hs : RS b τ) (hx : IsSet x (alls b)) {L : Nat} (hL1 : 1 ≤ L) (hL : L ≤ 999) : ∃ τ', f_X8_fillings τ x (nI L) (-1) 0 = some (nI (min L (KA b)), τ') ∧ F8 τ τ' ∧ (L = 1 → KA b ≠ 0 → ∃ ψ, FA1 b ψ ∧ ∀ k, k < nS b → τ'.1 8 k = nI (ψ k)) := by
  obtain ⟨τ', c1, c2, c3⟩ := fillSet hr hv hs hx hL1 hL
  rw [alls_ct] at c1 c3
  refine ⟨τ', c1, c2, fun l1 l2 => ?_⟩
  obtain ⟨ψ, z1, z2⟩ := c3 l1 l2
  refine ⟨ψ, z1, fun k hk => ?_⟩
  have := z2 k hk
  rw [alls_kth b hk] at this
  exact this
end FS
theorem s_with {σ : SC} {τ : SR} (h : Rel σ τ) (a0 a1 : Int32) : ∃ (r : Int32) (σ' : SC) (τ' : SR), f_X7_with σ a0 a1 = some (r, σ') ∧ f_X8_with τ a0 a1 = some (r, τ') ∧ Rel σ' τ' := by
  obtain ⟨b, hv, hc, hr, hd, hp⟩ := id h
  have hw16 := hv.2.1
  have h8 := nS_le b
  obtain ⟨τ1, b1, b2', b3, hs⟩ := slot_any hd.1 hr hv a0
  have h1 := h.fr b3
  unfold f_X7_with f_X8_with
  rcases hs with ⟨e1, e2⟩ | ⟨s, hs', rfl, e1, e2⟩
  · rw [e1, e2]; exact ⟨_, σ, τ1, rfl, rfl, h1⟩
  · rw [e1, e2, Option.bind_some, bnd_some, if10, if10]
    rcases word_any hc b1 hv a1 with ⟨e3, e4⟩ | ⟨w, hw, rfl, e3, e4⟩
    · rw [e3, e4]; exact ⟨_, σ, τ1, rfl, rfl, h1⟩
    · rw [e3, e4, Option.bind_some, Option.bind_some, if10, if10]
      obtain ⟨σ2, c1, c2⟩ := fillW hv hd.1 hd.2.1 hd.2.2 hs' hw
      obtain ⟨y, y1, y2, -⟩ := all_set b2'
      obtain ⟨τ2, d1, d2, -⟩ := fillR (P := fun i v => (!decide (i = s) || decide (v = w)) && fitW b (kth (alls b) i) v) (R := fun i v => (!decide (i = s) || decide (v = w))) (x3 := nI s) (x4 := nI w) (L := 999) b1 hv b2' y2 (by omega) (by omega) (fun i v => rfl) (fun i hi v hvw => by
        rw [alls_ct] at hi
        rw [alls_kth b hi]
        constructor
        · intro z
          have e := (nI_eq (by omega) (by omega)).mp z
          apply Bool.eq_iff_iff.mpr
          simp only [e, decide_true, Bool.not_true, Bool.false_or, decide_eq_true_eq]
          exact ⟨fun z => by rw [z], fun z => (nI_eq (by omega) (by omega)).mp z⟩
        · intro z
          have : i ≠ s := fun e => z (by rw [e])
          simp [this])
      rw [alls_ct, ← (left_fit (b := b) (fun i v => (!decide (i = s) || decide (v = w)))).1] at d1
      rw [c1, bnd_some, y1, Option.bind_some, d1, bnd_some]
      exact ⟨_, σ2, τ2, rfl, rfl, (h1.fr d2.fr).fq c2⟩
