/-! fillings, counted -/
def up (φ : Nat → Nat) (i v : Nat) : Nat → Nat := fun j => if j = i then v else φ j
theorem up_at (φ : Nat → Nat) (i v : Nat) : up φ i v i = v := if_pos rfl
theorem up_ne (φ : Nat → Nat) {i j : Nat} (v : Nat) (h : j ≠ i) : up φ i v j = φ j := if_neg h
def okP (b : Bd) (O : Nat → Nat) (P : Nat → Nat → Bool) (φ : Nat → Nat) (i v : Nat) : Bool := P i v && (List.range i).all (fun j => bes b (O j) (φ j) (O i) v)
def KP (b : Bd) (O : Nat → Nat) (P : Nat → Nat → Bool) : Nat → Nat → (Nat → Nat) → Nat
  | 0, _, _ => 1
  | h + 1, i, φ => sm (fun v => if okP b O P φ i v = true then KP b O P h (i + 1) (up φ i v) else 0) 16
def DP (b : Bd) (O : Nat → Nat) (P : Nat → Nat → Bool) (h i : Nat) (φ : Nat → Nat) (n : Nat) : Nat := sm (fun v => if okP b O P φ i v = true then KP b O P h (i + 1) (up φ i v) else 0) n
def FstP (b : Bd) (O : Nat → Nat) (P : Nat → Nat → Bool) : Nat → Nat → (Nat → Nat) → (Nat → Nat) → Prop
  | 0, _, φ, ψ => ψ = φ
  | h + 1, i, φ, ψ => ∃ v, v < 16 ∧ okP b O P φ i v = true ∧ DP b O P h i φ v = 0 ∧ FstP b O P h (i + 1) (up φ i v) ψ
theorem sm_mono (g : Nat → Nat) : ∀ {m n : Nat}, m ≤ n → sm g m ≤ sm g n
  | m, 0, h => by rw [Nat.le_zero.mp h]; exact Nat.le_refl _
  | m, n + 1, h => by
    by_cases e : m = n + 1
    · rw [e]; exact Nat.le_refl _
    · have := sm_mono g (show m ≤ n by omega)
      show _ ≤ sm g n + g n
      omega
theorem sm_ne {g : Nat → Nat} : ∀ {n : Nat}, sm g n ≠ 0 → ∃ v, v < n ∧ g v ≠ 0
  | 0, h => absurd rfl h
  | n + 1, h => by
    by_cases e : g n = 0
    · have h' : sm g n + g n ≠ 0 := h
      rw [e] at h'
      obtain ⟨v, v1, v2⟩ := sm_ne h'
      exact ⟨v, by omega, v2⟩
    · exact ⟨n, by omega, e⟩
theorem sm_pos {g : Nat → Nat} {n v : Nat} (hv : v < n) (h : g v ≠ 0) : sm g n ≠ 0 := by
  have := sm_mono g (show v + 1 ≤ n by omega)
  have e : sm g (v + 1) = sm g v + g v := rfl
  omega
section FL
variable {b : Bd} {O : Nat → Nat} {P : Nat → Nat → Bool}
theorem okP_iff {φ : Nat → Nat} {i v : Nat} : okP b O P φ i v = true ↔ P i v = true ∧ ∀ j, j < i → bes b (O j) (φ j) (O i) v = true := by
  unfold okP
  simp only [Bool.and_eq_true, List.all_eq_true, List.mem_range]
theorem okP_cong {φ ψ : Nat → Nat} {i v : Nat} (h : ∀ j, j < i → ψ j = φ j) : okP b O P ψ i v = okP b O P φ i v := by
  apply Bool.eq_iff_iff.mpr
  rw [okP_iff, okP_iff]
  constructor
  · rintro ⟨h1, h2⟩
    exact ⟨h1, fun j hj => by rw [← h j hj]; exact h2 j hj⟩
  · rintro ⟨h1, h2⟩
    exact ⟨h1, fun j hj => by rw [h j hj]; exact h2 j hj⟩
theorem KP_pos : ∀ {h i : Nat} {φ : Nat → Nat}, KP b O P h i φ ≠ 0 ↔ ∃ ψ : Nat → Nat, (∀ j, j < i → ψ j = φ j) ∧ ∀ j, i ≤ j → j < i + h → ψ j < 16 ∧ okP b O P ψ j (ψ j) = true
  | 0, i, φ => ⟨fun _ => ⟨φ, fun _ _ => rfl, fun j h1 h2 => by omega⟩, fun _ => by show (1 : Nat) ≠ 0; omega⟩
  | h + 1, i, φ => by
    constructor
    · intro hk
      obtain ⟨v, v1, v2⟩ := sm_ne (show sm (fun v => if okP b O P φ i v = true then KP b O P h (i + 1) (up φ i v) else 0) 16 ≠ 0 from hk)
      by_cases g : okP b O P φ i v = true
      · rw [if_pos g] at v2
        obtain ⟨ψ, p1, p2⟩ := KP_pos.mp v2
        have e1 : ∀ j, j < i → ψ j = φ j := fun j hj => by rw [p1 j (by omega), up_ne φ v (by omega)]
        have e2 : ψ i = v := by rw [p1 i (by omega), up_at]
        refine ⟨ψ, e1, fun j h1 h2 => ?_⟩
        by_cases e : j = i
        · rw [e, e2]
          exact ⟨v1, by rw [okP_cong e1]; exact g⟩
        · exact p2 j (by omega) (by omega)
      · rw [if_neg g] at v2; exact absurd rfl v2
    · rintro ⟨ψ, p1, p2⟩
      obtain ⟨q1, q2⟩ := p2 i (by omega) (by omega)
      rw [okP_cong p1] at q2
      refine sm_pos (v := ψ i) q1 ?_
      show (if okP b O P φ i (ψ i) = true then KP b O P h (i + 1) (up φ i (ψ i)) else 0) ≠ 0
      rw [if_pos q2]
      refine KP_pos.mpr ⟨ψ, fun j hj => ?_, fun j h1 h2 => p2 j (by omega) (by omega)⟩
      by_cases e : j = i
      · rw [e, up_at]
      · rw [up_ne φ _ e]; exact p1 j (by omega)
theorem KP_zero {h i j : Nat} {φ : Nat → Nat} (h1 : i ≤ j) (h2 : j < i + h) (hn : ∀ v, v < 16 → ¬ (P j v = true ∧ ∀ k, k < i → bes b (O k) (φ k) (O j) v = true)) : KP b O P h i φ = 0 := by
  by_cases g : KP b O P h i φ = 0
  · exact g
  · obtain ⟨ψ, p1, p2⟩ := KP_pos.mp g
    obtain ⟨q1, q2⟩ := p2 j h1 h2
    obtain ⟨q3, q4⟩ := okP_iff.mp q2
    exact absurd ⟨q3, fun k hk => by rw [← p1 k hk]; exact q4 k (by omega)⟩ (hn _ q1)
theorem Fst_pos : ∀ {h i : Nat} {φ ψ : Nat → Nat}, FstP b O P h i φ ψ → KP b O P h i φ ≠ 0
  | 0, _, _, _, _ => by show (1 : Nat) ≠ 0; omega
  | h + 1, i, φ, ψ, hf => by
    obtain ⟨v, v1, v2, v3, v4⟩ := hf
    refine sm_pos (v := v) v1 ?_
    show (if okP b O P φ i v = true then KP b O P h (i + 1) (up φ i v) else 0) ≠ 0
    rw [if_pos v2]
    exact Fst_pos v4
theorem DP_pos {h i v n : Nat} {φ : Nat → Nat} (hv : v < n) (ho : okP b O P φ i v = true) (hk : KP b O P h (i + 1) (up φ i v) ≠ 0) : DP b O P h i φ n ≠ 0 := by
  refine sm_pos (v := v) hv ?_
  show (if okP b O P φ i v = true then KP b O P h (i + 1) (up φ i v) else 0) ≠ 0
  rw [if_pos ho]; exact hk
theorem Fst_uniq : ∀ {h i : Nat} {φ ψ χ : Nat → Nat}, FstP b O P h i φ ψ → FstP b O P h i φ χ → ψ = χ
  | 0, _, _, _, _, h1, h2 => Eq.trans h1 (Eq.symm h2)
  | h + 1, i, φ, ψ, χ, h1, h2 => by
    obtain ⟨v, v1, v2, v3, v4⟩ := h1
    obtain ⟨w, w1, w2, w3, w4⟩ := h2
    have e : v = w := by
      rcases Nat.lt_trichotomy v w with g | g | g
      · exact absurd w3 (DP_pos g v2 (Fst_pos v4))
      · exact g
      · exact absurd v3 (DP_pos g w2 (Fst_pos w4))
    subst e
    exact Fst_uniq v4 w4
theorem KP_same {Q : Nat → Nat → Bool} {m : Nat} (hPQ : ∀ i v, P i v = true → Q i v = true) (H : ∀ ψ : Nat → Nat, (∀ j, j < m → ψ j < 16 ∧ okP b O Q ψ j (ψ j) = true) → ∀ j, j < m → P j (ψ j) = true) : ∀ {h i : Nat} {φ : Nat → Nat}, i + h = m → (∀ j, j < i → φ j < 16 ∧ okP b O Q φ j (φ j) = true) → KP b O P h i φ = KP b O Q h i φ ∧ ∀ ψ, FstP b O P h i φ ψ → FstP b O Q h i φ ψ
  | 0, i, φ, _, _ => ⟨rfl, fun ψ h => h⟩
  | h + 1, i, φ, hm, hpre => by
    have hok : ∀ v, okP b O P φ i v = true → okP b O Q φ i v = true := by
      intro v g
      obtain ⟨g1, g2⟩ := okP_iff.mp g
      exact okP_iff.mpr ⟨hPQ _ _ g1, g2⟩
    have hpre2 : ∀ v, v < 16 → okP b O Q φ i v = true → ∀ j, j < i + 1 → up φ i v j < 16 ∧ okP b O Q (up φ i v) j (up φ i v j) = true := by
      intro v hv g j hj
      have hc : okP b O Q (up φ i v) j (up φ i v j) = okP b O Q φ j (up φ i v j) := okP_cong (fun k hk => up_ne φ v (by omega))
      rw [hc]
      by_cases e : j = i
      · rw [e, up_at]; exact ⟨hv, g⟩
      · rw [up_ne φ v e]; exact hpre j (by omega)
    have hterm : ∀ v, v < 16 → (if okP b O P φ i v = true then KP b O P h (i + 1) (up φ i v) else 0) = if okP b O Q φ i v = true then KP b O Q h (i + 1) (up φ i v) else 0 := by
      intro v hv
      by_cases g : okP b O Q φ i v = true
      · rw [if_pos g]
        by_cases gp : okP b O P φ i v = true
        · rw [if_pos gp]
          exact (KP_same hPQ H (by omega) (hpre2 v hv g)).1
        · rw [if_neg gp]
          by_cases z : KP b O Q h (i + 1) (up φ i v) = 0
          · exact z.symm
          · obtain ⟨ψ, p1, p2⟩ := KP_pos.mp z
            have hall : ∀ j, j < m → ψ j < 16 ∧ okP b O Q ψ j (ψ j) = true := by
              intro j hj
              by_cases e : j < i + 1
              · have q := hpre2 v hv g j e
                have e2 := p1 j e
                rw [e2, okP_cong (fun k hk => p1 k (by omega))]
                exact q
              · exact p2 j (by omega) (by omega)
            have := H ψ hall i (by omega)
            rw [p1 i (by omega), up_at] at this
            exact absurd (okP_iff.mpr ⟨this, (okP_iff.mp g).2⟩) gp
      · rw [if_neg g, if_neg (fun z => g (hok v z))]
    refine ⟨sm_cong hterm, ?_⟩
    rintro ψ ⟨v, v1, v2, v3, v4⟩
    refine ⟨v, v1, hok v v2, ?_, (KP_same hPQ H (by omega) (hpre2 v v1 (hok v v2))).2 ψ v4⟩
    have e : DP b O P h i φ v = DP b O Q h i φ v := sm_cong (fun u hu => hterm u (by omega))
    rw [← e]; exact v3
end FL
/-! a word of a filling of all slots is left -/
section FA
variable {b : Bd} {ψ : Nat → Nat}
theorem bes_iff {s w t v : Nat} : bes b s w t v = true ↔ v < 16 ∧ v ≠ w ∧ (X b s t = true → v < b.2.1 ∧ pX b t s < lenN (b.2.2 v) ∧ letN (b.2.2 v) (pX b t s) = letN (b.2.2 w) (pX b s t)) := by
  unfold bes
  cases X b s t <;> simp
def Hld (b : Bd) (ψ : Nat → Nat) (L : LL) : Prop := ∀ j, j < nS b → L j (ψ j) = true
theorem hold_stay (hf : ∀ j, j < nS b → okP b (fun s => s) (fitW b) ψ j (ψ j) = true) {L : LL} (hL : Hld b ψ L) {s : Nat} (hs' : s < nS b) : stay b L s (ψ s) = true := by
  refine stay_iff.mpr (fun t ht hx => ?_)
  have hne := (X_place hs' ht hx).1
  refine goesW_iff.mpr ⟨ψ t, ?_, ?_, hL t ht, ?_⟩
  · exact (fitW_iff.mp (okP_iff.mp (hf t ht)).1).1
  · rcases Nat.lt_or_ge s t with g | g
    · exact (bes_iff.mp ((okP_iff.mp (hf t ht)).2 s g)).2.1
    · exact fun e => (bes_iff.mp ((okP_iff.mp (hf s hs')).2 t (by omega))).2.1 e.symm
  · rcases Nat.lt_or_ge s t with g | g
    · exact ((bes_iff.mp ((okP_iff.mp (hf t ht)).2 s g)).2.2 hx).2.2
    · exact (((bes_iff.mp ((okP_iff.mp (hf s hs')).2 t (by omega))).2.2 (by rw [X_symm]; exact hx)).2.2).symm
theorem hold_st1 (hf : ∀ j, j < nS b → okP b (fun s => s) (fitW b) ψ j (ψ j) = true) {a : LL × Bool} (hL : Hld b ψ a.1) {s w : Nat} (hs' : s < nS b) : Hld b ψ (st1 b s w a).1 := by
  unfold st1
  by_cases g : (a.1 s w && !stay b a.1 s w) = true
  · rw [if_pos g]
    simp only [Bool.and_eq_true, Bool.not_eq_true'] at g
    intro j hj
    show (a.1 j (ψ j) && !(decide (j = s) && decide (ψ j = w))) = true
    rw [hL j hj, Bool.true_and, Bool.not_eq_true']
    apply Bool.eq_false_iff.mpr
    intro z
    simp only [Bool.and_eq_true, decide_eq_true_eq] at z
    have := hold_stay hf hL hs'
    rw [← z.1, z.2, z.1, g.2] at this
    cases this
  · rw [if_neg g]; exact hL
theorem hold_wp (hf : ∀ j, j < nS b → okP b (fun s => s) (fitW b) ψ j (ψ j) = true) {s : Nat} (hs' : s < nS b) : ∀ {m : Nat} {a : LL × Bool}, Hld b ψ a.1 → Hld b ψ (wp b s m a).1
  | 0, a, h => h
  | m + 1, a, h => hold_st1 hf (hold_wp hf hs' h) hs'
theorem hold_sp (hf : ∀ j, j < nS b → okP b (fun s => s) (fitW b) ψ j (ψ j) = true) : ∀ {k : Nat} {a : LL × Bool}, k ≤ nS b → Hld b ψ a.1 → Hld b ψ (sp b k a).1
  | 0, a, _, h => h
  | k + 1, a, hk, h => hold_wp hf (by omega) (hold_sp hf (by omega) h)
theorem hold_it (hf : ∀ j, j < nS b → okP b (fun s => s) (fitW b) ψ j (ψ j) = true) : ∀ {n : Nat} {L : LL}, Hld b ψ L → Hld b ψ (it b n L)
  | 0, L, h => h
  | n + 1, L, h => by
    have hp : Hld b ψ (pass b L).1 := hold_sp hf (Nat.le_refl _) h
    rw [it_succ]
    by_cases g : (pass b L).2 = true
    · rw [if_pos g]; exact hold_it hf hp
    · rw [if_neg g]; exact hp
theorem hold_left (hf : ∀ j, j < nS b → okP b (fun s => s) (fitW b) ψ j (ψ j) = true) : ∀ j, j < nS b → leftB b j (ψ j) = true :=
  hold_it hf (fun j hj => (okP_iff.mp (hf j hj)).1)
end FA
