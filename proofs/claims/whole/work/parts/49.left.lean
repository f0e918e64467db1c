/-! the words left: one way of going through slots and words, for both sides -/
abbrev LL : Type := Nat → Nat → Bool
def fitW (b : Bd) : LL := fun s w => decide (w < b.2.1) && fitB b s w
def goesW (b : Bd) (L : LL) (s w t : Nat) : Bool := (List.range b.2.1).any (fun v => decide (v ≠ w) && (L t v && decide (letN (b.2.2 v) (pX b t s) = letN (b.2.2 w) (pX b s t))))
theorem goesW_iff {b : Bd} {L : LL} {s w t : Nat} : goesW b L s w t = true ↔ ∃ v, v < b.2.1 ∧ v ≠ w ∧ L t v = true ∧ letN (b.2.2 v) (pX b t s) = letN (b.2.2 w) (pX b s t) := by
  unfold goesW
  simp only [List.any_eq_true, List.mem_range, Bool.and_eq_true, decide_eq_true_eq]
def stay (b : Bd) (L : LL) (s w : Nat) : Bool := (List.range (nS b)).all (fun t => !X b s t || goesW b L s w t)
theorem stay_iff {b : Bd} {L : LL} {s w : Nat} : stay b L s w = true ↔ ∀ t, t < nS b → X b s t = true → goesW b L s w t = true := by
  unfold stay
  simp only [List.all_eq_true, List.mem_range, Bool.or_eq_true, Bool.not_eq_true']
  constructor
  · intro a t ht hx
    rcases a t ht with z | z
    · rw [hx] at z; cases z
    · exact z
  · intro a t ht
    by_cases hx : X b s t = true
    · right; exact a t ht hx
    · left; simpa using hx
def del (L : LL) (s w : Nat) : LL := fun t v => L t v && !(decide (t = s) && decide (v = w))
def st1 (b : Bd) (s w : Nat) (a : LL × Bool) : LL × Bool := if (a.1 s w && !stay b a.1 s w) = true then (del a.1 s w, true) else a
def wp (b : Bd) (s : Nat) : Nat → LL × Bool → LL × Bool
  | 0, a => a
  | m + 1, a => st1 b s m (wp b s m a)
def sp (b : Bd) : Nat → LL × Bool → LL × Bool
  | 0, a => a
  | k + 1, a => wp b k b.2.1 (sp b k a)
def pass (b : Bd) (L : LL) : LL × Bool := sp b (nS b) (L, false)
def it (b : Bd) : Nat → LL → LL
  | 0, L => L
  | n + 1, L => if (pass b L).2 = true then it b n (pass b L).1 else (pass b L).1
theorem it_succ (b : Bd) (n : Nat) (L : LL) : it b (n + 1) L = if (pass b L).2 = true then it b n (pass b L).1 else (pass b L).1 := rfl
def leftB (b : Bd) : LL := it b 129 (fitW b)
/-- only words that fit -/
def Sup (b : Bd) (L : LL) : Prop := ∀ s w, L s w = true → fitW b s w = true
theorem fitW_iff {b : Bd} {s w : Nat} : fitW b s w = true ↔ w < b.2.1 ∧ fitB b s w = true := by
  unfold fitW; simp only [Bool.and_eq_true, decide_eq_true_eq]
theorem Sup.del {b : Bd} {L : LL} (h : Sup b L) {s w : Nat} : Sup b (del L s w) := by
  intro t v g
  have : L t v = true := by
    have g' : (L t v && !(decide (t = s) && decide (v = w))) = true := g
    exact (Bool.and_eq_true_iff.mp g').1
  exact h t v this
theorem st1_sup {b : Bd} {a : LL × Bool} (h : Sup b a.1) {s w : Nat} : Sup b (st1 b s w a).1 := by
  unfold st1
  split
  · exact h.del
  · exact h
theorem wp_sup {b : Bd} {s : Nat} : ∀ {m : Nat} {a : LL × Bool}, Sup b a.1 → Sup b (wp b s m a).1
  | 0, _, h => h
  | m + 1, _, h => st1_sup (wp_sup (m := m) h)
theorem sp_sup {b : Bd} : ∀ {k : Nat} {a : LL × Bool}, Sup b a.1 → Sup b (sp b k a).1
  | 0, _, h => h
  | k + 1, _, h => wp_sup (sp_sup (k := k) h)
theorem it_sup {b : Bd} : ∀ {n : Nat} {L : LL}, Sup b L → Sup b (it b n L)
  | 0, _, h => h
  | n + 1, L, h => by
    have h1 : Sup b (pass b L).1 := sp_sup (k := nS b) (a := (L, false)) h
    rw [it_succ]
    split
    · exact it_sup h1
    · exact h1
/-- how many are left in all -/
def mu (b : Bd) (L : LL) : Nat → Nat
  | 0 => 0
  | k + 1 => mu b L k + ct (L k) b.2.1
theorem mu_same {b : Bd} {L L' : LL} : ∀ {k : Nat}, (∀ t, t < k → L' t = L t) → mu b L' k = mu b L k
  | 0, _ => rfl
  | k + 1, h => by
    show mu b L' k + ct (L' k) _ = mu b L k + ct (L k) _
    rw [mu_same (fun t ht => h t (by omega)), h k (by omega)]
theorem mu_del {b : Bd} {L : LL} {s w : Nat} (hw : w < b.2.1) (h : L s w = true) : ∀ {k : Nat}, s < k → mu b (del L s w) k + 1 = mu b L k := by
  intro k
  induction k with
  | zero => intro h; omega
  | succ k ih =>
    intro hk
    show mu b (del L s w) k + ct (del L s w k) _ + 1 = mu b L k + ct (L k) _
    by_cases e : k = s
    · subst e
      rw [mu_same (L := L) (L' := del L k w) (fun t ht => by funext v; unfold del; simp [show t ≠ k by omega])]
      have := ct_del (p := L k) (q := del L k w k) h (fun v => by unfold del; simp) hw
      omega
    · have h1 := ih (by omega)
      have h2 : del L s w k = L k := by funext v; unfold del; simp [e]
      rw [h2]; omega
theorem mu_le (b : Bd) (L : LL) : ∀ k, mu b L k ≤ k * b.2.1
  | 0 => by simp [mu]
  | k + 1 => by
    have h1 := mu_le b L k
    have h2 := ct_le (L k) b.2.1
    show mu b L k + ct (L k) _ ≤ _
    rw [Nat.succ_mul]; omega
def Inv0 (b : Bd) (L0 : LL) (a : LL × Bool) : Prop := (a.2 = false ∧ a.1 = L0) ∨ (a.2 = true ∧ mu b a.1 (nS b) < mu b L0 (nS b))
theorem st1_inv {b : Bd} {L0 : LL} {a : LL × Bool} {s w : Nat} (hs' : s < nS b) (hw : w < b.2.1) (h : Inv0 b L0 a) : Inv0 b L0 (st1 b s w a) := by
  unfold st1
  by_cases g : (a.1 s w && !stay b a.1 s w) = true
  · rw [if_pos g]
    have := mu_del (b := b) hw (Bool.and_eq_true_iff.mp g).1 hs'
    right
    refine ⟨rfl, ?_⟩
    rcases h with ⟨-, h2⟩ | ⟨-, h2⟩
    · rw [h2] at this ⊢; show mu b (del L0 s w) (nS b) < _; omega
    · show mu b (del a.1 s w) (nS b) < _; omega
  · rw [if_neg g]; exact h
theorem wp_inv {b : Bd} {L0 : LL} {s : Nat} (hs' : s < nS b) : ∀ {m : Nat} {a : LL × Bool}, m ≤ b.2.1 → Inv0 b L0 a → Inv0 b L0 (wp b s m a)
  | 0, _, _, h => h
  | m + 1, _, hm, h => st1_inv hs' (by omega) (wp_inv hs' (m := m) (by omega) h)
theorem sp_inv {b : Bd} {L0 : LL} : ∀ {k : Nat} {a : LL × Bool}, k ≤ nS b → Inv0 b L0 a → Inv0 b L0 (sp b k a)
  | 0, _, _, h => h
  | k + 1, _, hk, h => wp_inv (by omega) (Nat.le_refl _) (sp_inv (k := k) (by omega) h)
theorem pass_inv (b : Bd) (L : LL) : Inv0 b L (pass b L) := sp_inv (Nat.le_refl _) (Or.inl ⟨rfl, rfl⟩)
theorem it_enough {b : Bd} : ∀ {n m : Nat} {L : LL}, mu b L (nS b) < n → mu b L (nS b) < m → it b n L = it b m L
  | 0, _, _, h, _ => by omega
  | _ + 1, 0, _, _, h => by omega
  | n + 1, m + 1, L, h1, h2 => by
    rw [it_succ, it_succ]
    by_cases g : (pass b L).2 = true
    · rw [if_pos g, if_pos g]
      rcases pass_inv b L with ⟨z, -⟩ | ⟨-, z⟩
      · rw [g] at z; cases z
      · exact it_enough (by omega) (by omega)
    · rw [if_neg g, if_neg g]
theorem mu_128 {b : Bd} (hv : VB b) (L : LL) : mu b L (nS b) < 129 := by
  have h1 := mu_le b L (nS b)
  have h2 := nS_le b
  have h3 := hv.2.1
  have : nS b * b.2.1 ≤ 8 * 16 := Nat.mul_le_mul h2 h3
  omega
/-! the class -/
section CLf
variable {b : Bd} {σ : SC}
theorem Sup.len {L : LL} (h : Sup b L) {s w : Nat} (g : L s w = true) : w < b.2.1 ∧ lenN (b.2.2 w) = sZ b s := by
  have h1 := fitW_iff.mp (h s w g)
  exact ⟨h1.1, (fitB_iff.mp h1.2).1⟩
theorem canBeCrossed_ok (hv : VB b) (hd : DS b σ) (hi : DI b σ) {L : LL} (hL : Sup b L) {s w : Nat} (hs' : s < nS b) (hw : w < b.2.1) (hl : lenN (b.2.2 w) = sZ b s) (hset : ∀ t, t < nS b → t ≠ s → IsSet (σ 12 t) (L t)) : f_X1_canBeCrossed σ (nI s) (nI w) = some (b2 (stay b L s w)) := by
  have h8 := nS_le b
  have key : ∀ (k n t : Nat), t + k = nS b → k < n → (∀ u, u < t → X b s u = true → goesW b L s w u = true) → f_X1_canBeCrossed_L2 σ (nI s) (nI w) n (nI t) = some (b2 (stay b L s w)) := by
    intro k
    induction k with
    | zero =>
      intro n t h1 h2 h3
      obtain ⟨n, rfl⟩ := succ_of h2
      rw [f_X1_canBeCrossed_L2_s, hd.1, if_le (by omega) (by omega), stay_iff.mpr (fun u hu => h3 u (by omega))]
      rfl
    | succ k ih =>
      intro n t h1 h2 h3
      obtain ⟨n, rfl⟩ := succ_of h2
      have ht : t < nS b := by omega
      rw [f_X1_canBeCrossed_L2_s, hd.1, if_nle (by omega) (by omega), rd_in σ (show s < lnC 4 by show s < 8; omega), nI_1, (hd.2.2.2.1 s hs').2.2.1.cnv (by omega)]
      have e : (decide (t < nS b) && X b s t) = X b s t := by simp [ht]
      rw [e]
      by_cases g : X b s t = true
      · obtain ⟨g1, g2, g3, g4⟩ := X_place hs' ht g
        obtain ⟨x, hx1, hx2⟩ := besides_ok hv hd hi hs' ht hw hl
        rw [if_pos g, if_neg (by decide), hx1, Option.bind_some, rd_in σ (show t < lnC 12 by show t < 8; omega)]
        have hand := (hset t ht (Ne.symm g1)).and hx2
        have hiff : ((σ 12 t &&& x) = 0) ↔ goesW b L s w t = false := by
          rw [hand.eq0]
          constructor
          · intro a
            apply Bool.eq_false_iff.mpr
            intro z
            obtain ⟨v, v1, v2, v3, v4⟩ := goesW_iff.mp z
            have hlv := hL.len v3
            have hz2 := sZ_24 ht
            have := a v (by have := hv.2.1; omega)
            rw [v3, Bool.true_and] at this
            have hb' : bes b s w t v = true := by
              unfold bes
              simp only [Bool.and_eq_true, Bool.or_eq_true, decide_eq_true_eq]
              exact ⟨by have := hv.2.1; omega, v2, Or.inr ⟨v1, by omega, v4⟩⟩
            rw [hb'] at this; cases this
          · intro a v hv32
            apply Bool.eq_false_iff.mpr
            intro z
            obtain ⟨z1, z2⟩ := Bool.and_eq_true_iff.mp z
            have hlv := hL.len z1
            unfold bes at z2
            simp only [Bool.and_eq_true, Bool.or_eq_true, decide_eq_true_eq, Bool.not_eq_true'] at z2
            obtain ⟨-, z3, z4⟩ := z2
            rcases z4 with z4 | z4
            · rw [g] at z4; cases z4
            · have : goesW b L s w t = true := goesW_iff.mpr ⟨v, hlv.1, z3, z1, z4.2.2⟩
              rw [this] at a; cases a
        by_cases q : goesW b L s w t = true
        · rw [if_neg (fun z => by rw [hiff.mp z] at q; cases q)]
          refine ih n (t + 1) (by omega) (by omega) (fun u hu hxu => ?_)
          by_cases e2 : u = t
          · rw [e2]; exact q
          · exact h3 u (by omega) hxu
        · rw [if_pos (hiff.mpr (by simpa using q))]
          have : stay b L s w = false := by
            apply Bool.eq_false_iff.mpr
            intro z
            exact q (stay_iff.mp z t ht g)
          rw [this]; rfl
      · rw [if_neg g, if_pos rfl]
        refine ih n (t + 1) (by omega) (by omega) (fun u hu hxu => ?_)
        by_cases e2 : u = t
        · rw [e2] at hxu; exact absurd hxu g
        · exact h3 u (by omega) hxu
  unfold f_X1_canBeCrossed
  have := key (nS b) FU 0 (by omega) (by have := FU_big; omega) (fun u hu => by omega)
  rwa [nI_0] at this
theorem st1_other {a : LL × Bool} {s w t : Nat} (h : t ≠ s) : (st1 b s w a).1 t = a.1 t := by
  unfold st1
  split
  · funext v; show del a.1 s w t v = _; unfold del; simp [h]
  · rfl
theorem wp_other {s t : Nat} (h : t ≠ s) : ∀ {m : Nat} {a : LL × Bool}, (wp b s m a).1 t = a.1 t
  | 0, _ => rfl
  | m + 1, a => by
    show (st1 b s m (wp b s m a)).1 t = _
    rw [st1_other h, wp_other h]
theorem dropLoop_ok (hv : VB b) (hd : DS b σ) (hi : DI b σ) {a0 : LL × Bool} (hL : Sup b a0.1) {s : Nat} (hs' : s < nS b) (hset : ∀ t, t < nS b → t ≠ s → IsSet (σ 12 t) (a0.1 t)) (kx : SC → Int32 → Int32 → Option (Int32 × SC)) : ∀ (k n w : Nat) (x3 : Int32), w + k = 16 → k < n → IsSet x3 ((wp b s (min w b.2.1) a0).1 s) → ∃ y, f_X1_dropWords_L27 (nI s) kx n σ (b2 (wp b s (min w b.2.1) a0).2) x3 (nI w) = kx σ (b2 (wp b s b.2.1 a0).2) y ∧ IsSet y ((wp b s b.2.1 a0).1 s) := by
  have hw16 := hv.2.1
  intro k
  induction k with
  | zero =>
    intro n w x3 h1 h2 h3
    obtain ⟨n, rfl⟩ := succ_of h2
    have e : min w b.2.1 = b.2.1 := by omega
    rw [e] at h3
    rw [f_X1_dropWords_L27_s, if_le (by omega) (by omega), e]
    exact ⟨x3, rfl, h3⟩
  | succ k ih =>
    intro n w x3 h1 h2 h3
    obtain ⟨n, rfl⟩ := succ_of h2
    have hsup : Sup b (wp b s (min w b.2.1) a0).1 := wp_sup hL
    rw [f_X1_dropWords_L27_s, if_nle (by omega) (by omega), h3.cnv (by omega), nI_1]
    by_cases hwn : w < b.2.1
    · have e : min w b.2.1 = w := by omega
      have e' : min (w + 1) b.2.1 = w + 1 := by omega
      have es : wp b s (min (w + 1) b.2.1) a0 = st1 b s w (wp b s w a0) := by rw [e']; rfl
      rw [e] at h3 hsup ⊢
      by_cases g : (wp b s w a0).1 s w = true
      · have hln := hsup.len g
        rw [if_pos g, if_neg (by decide), canBeCrossed_ok hv hd hi hsup hs' hwn hln.2 (fun t ht hne => by rw [wp_other hne]; exact hset t ht hne), Option.bind_some]
        by_cases q : stay b (wp b s w a0).1 s w = true
        · rw [if_b1 q]
          have e2 : st1 b s w (wp b s w a0) = wp b s w a0 := by unfold st1; rw [if_neg]; rw [q]; simp
          have := ih n (w + 1) x3 (by omega) (by omega) (by rw [es, e2]; exact h3)
          rwa [es, e2] at this
        · have q' : stay b (wp b s w a0).1 s w = false := by simpa using q
          rw [if_b0 q']
          have e2 : st1 b s w (wp b s w a0) = (del (wp b s w a0).1 s w, true) := by unfold st1; rw [if_pos]; rw [g, q']; rfl
          have := ih n (w + 1) (x3 &&& ((1 : Int32) <<< (nI w &&& 31) ^^^ (-1 : Int32))) (by omega) (by omega) (by
            rw [es, e2]
            refine (h3.del (by omega)).cong (fun v _ => ?_)
            show _ = del (wp b s w a0).1 s w s v
            unfold del; simp)
          rw [es, e2] at this
          exact this
      · rw [if_neg g, if_pos rfl]
        have e2 : st1 b s w (wp b s w a0) = wp b s w a0 := by unfold st1; rw [if_neg]; simp [g]
        have := ih n (w + 1) x3 (by omega) (by omega) (by rw [es, e2]; exact h3)
        rwa [es, e2] at this
    · have e : min w b.2.1 = b.2.1 := by omega
      have e' : min (w + 1) b.2.1 = b.2.1 := by omega
      rw [e] at h3 hsup ⊢
      have g : (wp b s b.2.1 a0).1 s w = false := by
        apply Bool.eq_false_iff.mpr
        intro z
        exact hwn (hsup.len z).1
      rw [g, if_neg Bool.false_ne_true, if_pos rfl]
      have := ih n (w + 1) x3 (by omega) (by omega) (by rw [e']; exact h3)
      rwa [e'] at this
theorem dropWords_ok (hv : VB b) (hd : DS b σ) (hi : DI b σ) {L : LL} (hL : Sup b L) (hset : ∀ t, t < nS b → IsSet (σ 12 t) (L t)) : ∃ σ', f_X1_dropWords σ = some (b2 (pass b L).2, σ') ∧ (∀ t, t < nS b → IsSet (σ' 12 t) ((pass b L).1 t)) ∧ ∀ r, r ≠ 12 → σ' r = σ r := by
  have h8 := nS_le b
  have key : ∀ (k n s : Nat) (σ1 : SC), s + k = nS b → k < n → (∀ t, t < nS b → IsSet (σ1 12 t) ((sp b s (L, false)).1 t)) → (∀ r, r ≠ 12 → σ1 r = σ r) → ∃ σ', f_X1_dropWords_L4 n σ1 (b2 (sp b s (L, false)).2) (nI s) = some (b2 (pass b L).2, σ') ∧ (∀ t, t < nS b → IsSet (σ' 12 t) ((pass b L).1 t)) ∧ ∀ r, r ≠ 12 → σ' r = σ r := by
    intro k
    induction k with
    | zero =>
      intro n s σ1 h1 h2 h3 h4
      obtain ⟨n, rfl⟩ := succ_of h2
      have es : s = nS b := by omega
      rw [es] at h3 ⊢
      rw [f_X1_dropWords_L4_s, h4 17 (by decide), hd.1, if_le (by omega) (by omega), if_b01]
      exact ⟨σ1, rfl, h3, h4⟩
    | succ k ih =>
      intro n s σ1 h1 h2 h3 h4
      obtain ⟨n, rfl⟩ := succ_of h2
      have hs' : s < nS b := by omega
      have hd1 : DS b σ1 := hd.keep (fun r _ _ => h4 r (by omega)) (fun j _ _ => by rw [h4 17 (by decide)])
      have hi1 : DI b σ1 := hi.keep (h4 8 (by decide)) (h4 9 (by decide)) (h4 10 (by decide))
      have hsup : Sup b (sp b s (L, false)).1 := sp_sup (a := (L, false)) hL
      rw [f_X1_dropWords_L4_s, h4 17 (by decide), hd.1, if_nle (by omega) (by omega), rd_in σ1 (show s < lnC 12 by show s < 8; omega)]
      have hw0 : wp b s (min 0 b.2.1) (sp b s (L, false)) = sp b s (L, false) := by rw [Nat.zero_min]; rfl
      obtain ⟨y, hy1, hy2⟩ := dropLoop_ok hv hd1 hi1 hsup hs' (fun t ht _ => h3 t ht) (fun σ_70 x1_70 x3_70 => f_X1_dropWords_L4 n (wr σ_70 12 (nI s) x3_70) x1_70 (nI s + 1)) 16 FU 0 (σ1 12 s) (by omega) (by have := FU_big; omega) (by rw [hw0]; exact h3 s hs')
      rw [hw0, nI_0] at hy1
      rw [hy1]
      show ∃ σ', f_X1_dropWords_L4 n (wr σ1 12 (nI s) y) _ (nI s + 1) = _ ∧ _
      rw [wr_in _ _ (show s < lnC 12 by show s < 8; omega), nI_1]
      refine ih n (s + 1) (su σ1 12 s y) (by omega) (by omega) (fun t ht => ?_) (fun r hr => by rw [su_row _ _ _ _ hr, h4 r hr])
      show IsSet (su σ1 12 s y 12 t) ((wp b s b.2.1 (sp b s (L, false))).1 t)
      rw [su_at]
      by_cases e : t = s
      · rw [if_pos ⟨rfl, e⟩, e]; exact hy2
      · rw [if_neg (fun z => e z.2), wp_other e]; exact h3 t ht
  unfold f_X1_dropWords
  have := key (nS b) FU 0 σ (by omega) (by have := FU_big; omega) hset (fun _ _ => rfl)
  rw [nI_0] at this
  exact this
/-- the class's words: which fit, which are left -/
def DC (b : Bd) (σ : SC) : Prop := (∀ s, s < nS b → IsSet (σ 11 s) (fitW b s)) ∧ ∀ s, s < nS b → IsSet (σ 12 s) (leftB b s)
theorem chances_ok (hb : CB b σ) (hv : VB b) (hd : DS b σ) (hi : DI b σ) : ∃ σ', f_X1_read σ = some σ' ∧ DC b σ' ∧ ∀ r, r ≠ 11 → r ≠ 12 → σ' r = σ r := by
  have h8 := nS_le b
  have loop2 : ∀ (k n j : Nat) (L : LL) (σ1 : SC), j + k = 129 → k < n → Sup b L → it b k L = leftB b → (∀ t, t < nS b → IsSet (σ1 12 t) (L t)) → (∀ t, t < nS b → IsSet (σ1 11 t) (fitW b t)) → (∀ r, r ≠ 11 → r ≠ 12 → σ1 r = σ r) → ∃ σ', f_X1_read_L48 (fun σ_70 => some σ_70) n σ1 1 (nI j) = some σ' ∧ DC b σ' ∧ ∀ r, r ≠ 11 → r ≠ 12 → σ' r = σ r := by
    intro k
    induction k with
    | zero =>
      intro n j L σ1 h1 h2 hL hit h3 h4 h5
      obtain ⟨n, rfl⟩ := succ_of h2
      have hit : L = leftB b := hit
      rw [f_X1_read_L48_s, if_neg (by decide), if_lt (by omega) (by omega)]
      exact ⟨σ1, rfl, ⟨h4, by rw [← hit]; exact h3⟩, h5⟩
    | succ k ih =>
      intro n j L σ1 h1 h2 hL hit h3 h4 h5
      obtain ⟨n, rfl⟩ := succ_of h2
      have hd1 : DS b σ1 := hd.keep (fun r _ _ => h5 r (by omega) (by omega)) (fun j _ _ => by rw [h5 17 (by decide) (by decide)])
      have hi1 : DI b σ1 := hi.keep (h5 8 (by decide) (by decide)) (h5 9 (by decide) (by decide)) (h5 10 (by decide) (by decide))
      obtain ⟨σ2, e1, e2, e3⟩ := dropWords_ok hv hd1 hi1 hL h3
      rw [f_X1_read_L48_s, if_neg (by decide), if_nlt (by omega) (by omega), e1]
      show ∃ σ', f_X1_read_L48 _ n σ2 (b2 (pass b L).2) (nI j + 1) = _ ∧ _
      rw [nI_1]
      rw [it_succ] at hit
      have h4' : ∀ t, t < nS b → IsSet (σ2 11 t) (fitW b t) := fun t ht => by rw [e3 11 (by decide)]; exact h4 t ht
      have h5' : ∀ r, r ≠ 11 → r ≠ 12 → σ2 r = σ r := fun r a c => by rw [e3 r c, h5 r a c]
      by_cases g : (pass b L).2 = true
      · rw [if_pos g] at hit
        rw [g]
        exact ih n (j + 1) (pass b L).1 σ2 (by omega) (by omega) (sp_sup (k := nS b) (a := (L, false)) hL) hit e2 h4' h5'
      · rw [if_neg g] at hit
        have g' : (pass b L).2 = false := by simpa using g
        obtain ⟨n, rfl⟩ : ∃ m, n = m + 1 := ⟨n - 1, by omega⟩
        rw [f_X1_read_L48_s, if_b0 g']
        exact ⟨σ2, rfl, ⟨h4', by rw [← hit]; exact e2⟩, h5'⟩
  have loop1 : ∀ (k n s : Nat) (σ1 : SC), s + k = nS b → k < n → (∀ t, t < s → IsSet (σ1 11 t) (fitW b t) ∧ IsSet (σ1 12 t) (fitW b t)) → (∀ r, r ≠ 11 → r ≠ 12 → σ1 r = σ r) → ∃ σ', f_X1_read_L2 (fun σ_44 => f_X1_read_L48 (fun σ_70 => some σ_70) FU σ_44 1 0) n σ1 (nI s) = some σ' ∧ DC b σ' ∧ ∀ r, r ≠ 11 → r ≠ 12 → σ' r = σ r := by
    intro k
    induction k with
    | zero =>
      intro n s σ1 h1 h2 h3 h5
      obtain ⟨n, rfl⟩ := succ_of h2
      rw [f_X1_read_L2_s, h5 17 (by decide) (by decide), hd.1, if_le (by omega) (by omega)]
      have := loop2 129 FU 0 (fitW b) σ1 (by omega) (by have := FU_big; omega) (fun _ _ h => h) rfl (fun t ht => (h3 t (by omega)).2) (fun t ht => (h3 t (by omega)).1) h5
      rwa [nI_0] at this
    | succ k ih =>
      intro n s σ1 h1 h2 h3 h5
      obtain ⟨n, rfl⟩ := succ_of h2
      have hs' : s < nS b := by omega
      have hd1 : DS b σ1 := hd.keep (fun r _ _ => h5 r (by omega) (by omega)) (fun j _ _ => by rw [h5 17 (by decide) (by decide)])
      have hi1 : DI b σ1 := hi.keep (h5 8 (by decide) (by decide)) (h5 9 (by decide) (by decide)) (h5 10 (by decide) (by decide))
      have hb1 : CB b σ1 := by unfold CB; rw [h5 0 (by decide) (by decide), h5 1 (by decide) (by decide), h5 17 (by decide) (by decide)]; exact hb
      obtain ⟨x, e1, e2⟩ := wordsThatFit_ok hb1 hv hd1 hi1 hs'
      rw [f_X1_read_L2_s, h5 17 (by decide) (by decide), hd.1, if_nle (by omega) (by omega), e1, Option.bind_some, wr_in _ _ (show s < lnC 11 by show s < 8; omega), wr_in _ _ (show s < lnC 12 by show s < 8; omega), nI_1]
      refine ih n (s + 1) _ (by omega) (by omega) (fun t ht => ?_) (fun r a c => by rw [su_row _ _ _ _ c, su_row _ _ _ _ a, h5 r a c])
      rw [su_row _ _ _ _ (show 11 ≠ 12 by decide), su_at, su_at, su_row _ _ _ _ (show 12 ≠ 11 by decide)]
      by_cases e : t = s
      · rw [if_pos ⟨rfl, e⟩, if_pos ⟨rfl, e⟩, e]; exact ⟨e2, e2⟩
      · rw [if_neg (fun z => e z.2), if_neg (fun z => e z.2)]; exact h3 t (by omega)
  unfold f_X1_read
  have := loop1 (nS b) FU 0 σ (by omega) (by have := FU_big; omega) (fun t ht => by omega) (fun _ _ _ => rfl)
  rwa [nI_0] at this
end CLf
/-- all that follows from the board, in the class -/
def Der (b : Bd) (σ : SC) : Prop := DS b σ ∧ DI b σ ∧ DC b σ
theorem renew_ok {b : Bd} {σ : SC} (hb : CB b σ) (hv : VB b) : ∃ σ', f_X7_renew σ = some σ' ∧ CB b σ' ∧ Der b σ' ∧ (∀ r, r < 2 ∨ 12 < r → r ≠ 17 → σ' r = σ r) ∧ ∀ j, j < 1 ∨ 3 < j → σ' 17 j = σ 17 j := by
  obtain ⟨σ1, e1, d1, f1, g1⟩ := read_ok hb hv
  have hb1 : CB b σ1 := by unfold CB; rw [f1 0 (by decide) (by decide), f1 1 (by decide) (by decide), g1 0 (by decide)]; exact hb
  obtain ⟨σ2, e2, d2, f2⟩ := index_ok hb1 hv
  have hb2 : CB b σ2 := by unfold CB; rw [f2 0 (by decide) (by decide) (by decide), f2 1 (by decide) (by decide) (by decide), f2 17 (by decide) (by decide) (by decide)]; exact hb1
  have d12 : DS b σ2 := d1.keep (fun r _ _ => f2 r (by omega) (by omega) (by omega)) (fun j _ _ => by rw [f2 17 (by decide) (by decide) (by decide)])
  obtain ⟨σ3, e3, d3, f3⟩ := chances_ok hb2 hv d12 d2
  refine ⟨σ3, ?_, ?_, ⟨?_, ?_, d3⟩, ?_, ?_⟩
  · unfold f_X7_renew
    rw [e1, Option.bind_some, e2, Option.bind_some, e3, Option.bind_some]
  · unfold CB; rw [f3 0 (by decide) (by decide), f3 1 (by decide) (by decide), f3 17 (by decide) (by decide)]; exact hb2
  · exact d12.keep (fun r _ _ => f3 r (by omega) (by omega)) (fun j _ _ => by rw [f3 17 (by decide) (by decide)])
  · exact d2.keep (f3 8 (by decide) (by decide)) (f3 9 (by decide) (by decide)) (f3 10 (by decide) (by decide))
  · intro r h1 h2
    rw [f3 r (by omega) (by omega), f2 r (by omega) (by omega) (by omega), f1 r (by omega) h2]
  · intro j h
    rw [f3 17 (by decide) (by decide), f2 17 (by decide) (by decide) (by decide), g1 j h]
