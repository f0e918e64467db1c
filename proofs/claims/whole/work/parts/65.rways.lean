/-! the reference's search -/
section RW
variable {b : Bd} {p : Nat → Bool} {P R : Nat → Nat → Bool} {x x3 x4 : Int32} {L m : Nat}
def prv (p : Nat → Bool) (i : Nat) : Int32 := if 0 < i then nI (kth p (i - 1)) else -1
def RWs (b : Bd) (p : Nat → Bool) (P : Nat → Nat → Bool) (x x3 x4 : Int32) (L m h : Nat) : Prop := ∀ (i : Nat) (φ : Nat → Nat) (τ : SR) (c n : Nat), i + h = m → Tm h < n → RB b τ → RS b τ → (∀ j, j < i → τ.1 8 (kth p j) = nI (φ j)) → (∀ j, j < i → fitW b (kth p j) (φ j) = true) → τ.1 8 (kth p i) = -1 → c < L →
  (c + KP b (kth p) P h i φ < L → ∃ n' τ', n ≤ n' + Tm h ∧ f_X8_fillings_L31 x (nI L) x3 x4 n τ (nI c) (nI (kth p i)) = f_X8_fillings_L31 x (nI L) x3 x4 n' τ' (nI (c + KP b (kth p) P h i φ)) (prv p i) ∧ F8 τ τ' ∧ ∀ j, j < i → τ'.1 8 (kth p j) = τ.1 8 (kth p j))
  ∧ (L ≤ c + KP b (kth p) P h i φ → ∃ τ', f_X8_fillings_L31 x (nI L) x3 x4 n τ (nI c) (nI (kth p i)) = some (nI L, τ') ∧ F8 τ τ' ∧ (L = 1 → ∃ ψ, FstP b (kth p) P h i φ ψ ∧ ∀ k, k < m → τ'.1 8 (kth p k) = nI (ψ k)))
def chl (x : Int32) (L : Nat) (x3 x4 : Int32) (n : Nat) (τ : SR) (c : Int32) (s : Int32) : Option (Int32 × SR) := ((f_X8_nextSlot τ s x 1).bind fun r117 => (if r117 < (τ.1 9 2) then (if inb r117 8 = true then (f_X8_fillings_L31 x (nI L) x3 x4 n (rsu τ 8 (ix r117) (-1)) c r117) else none) else (if (c + 1) = (nI L) then (some ((c + 1), τ)) else (f_X8_fillings_L31 x (nI L) x3 x4 n τ (c + 1) s))))
theorem chl_ok (hv : VB b) (hx : IsSet x p) (hm : m = ct p (nS b)) (hL : L ≤ 999) {h i : Nat} (hh : i + 1 + h = m) (hS : 0 < h → RWs b p P x x3 x4 L m h) (φ : Nat → Nat) (τ : SR) (c n : Nat) (hn : Tm h < n) (hr : RB b τ) (hs : RS b τ) (h8 : ∀ j, j < i + 1 → τ.1 8 (kth p j) = nI (φ j)) (hwd : ∀ j, j < i + 1 → fitW b (kth p j) (φ j) = true) (hc : c < L) :
    (c + KP b (kth p) P h (i + 1) φ < L → ∃ n' τ', n ≤ n' + Tm h ∧ chl x L x3 x4 n τ (nI c) (nI (kth p i)) = f_X8_fillings_L31 x (nI L) x3 x4 n' τ' (nI (c + KP b (kth p) P h (i + 1) φ)) (nI (kth p i)) ∧ F8 τ τ' ∧ ∀ j, j < i + 1 → τ'.1 8 (kth p j) = τ.1 8 (kth p j))
    ∧ (L ≤ c + KP b (kth p) P h (i + 1) φ → ∃ τ', chl x L x3 x4 n τ (nI c) (nI (kth p i)) = some (nI L, τ') ∧ F8 τ τ' ∧ (L = 1 → ∃ ψ, FstP b (kth p) P h (i + 1) φ ψ ∧ ∀ k, k < m → τ'.1 8 (kth p k) = nI (ψ k))) := by
  have h8n := nS_le b
  obtain ⟨o1, o2, o3⟩ := kth_ok (p := p) (i := i) (n := nS b) (by omega) h8n
  have ec : ct p (kth p i + 1) = i + 1 := by rw [ct_succ, if_pos o2, o3]
  have hnx : f_X8_nextSlot τ (nI (kth p i)) x 1 = some (nI (if i + 1 < m then kth p (i + 1) else nS b)) := by
    unfold f_X8_nextSlot
    rw [nI_1, next_up hs hx (nS b - (kth p i + 1)) FU (kth p i + 1) (by omega) (by have := FU_big; omega), ec, hm]
  have e9 := hs.1
  unfold chl
  rw [hnx, Option.bind_some, e9]
  cases h with
  | zero =>
    have hk : KP b (kth p) P 0 (i + 1) φ = 1 := rfl
    rw [if_neg (show ¬ i + 1 < m by omega), if_nlt (by omega) (by omega), nI_1, hk]
    constructor
    · intro hlt
      rw [if_neq (show c + 1 ≠ L by omega) (by omega) (by omega)]
      exact ⟨n, τ, by omega, rfl, F8.rf, fun _ _ => rfl⟩
    · intro hge
      have e : c + 1 = L := by omega
      rw [if_eq e, e]
      exact ⟨τ, rfl, F8.rf, fun _ => ⟨φ, rfl, fun k hk => h8 k (by omega)⟩⟩
  | succ h =>
    have hi1 : i + 1 < m := by omega
    obtain ⟨q1, q2, q3⟩ := kth_ok (p := p) (i := i + 1) (n := nS b) (by omega) h8n
    rw [if_pos hi1, if_lt q1 (by omega), if_in (by omega), ix_nI (by omega)]
    have hu := F8.up τ (kth p (i + 1)) (-1)
    have hkeep : ∀ j, j < i + 1 → (rsu τ 8 (kth p (i + 1)) (-1)).1 8 (kth p j) = τ.1 8 (kth p j) := by
      intro j hj
      have := kth_lt (p := p) h8n hj (show i + 1 < ct p (nS b) by omega)
      rw [rsu_at, if_neg (by omega)]
    have hS' := hS (by omega) (i + 1) φ (rsu τ 8 (kth p (i + 1)) (-1)) c n (by omega) hn (hu.rb hr) (hu.rs hs) (fun j hj => by rw [hkeep j hj]; exact h8 j hj) hwd (by rw [rsu_at, if_pos ⟨rfl, rfl⟩]) hc
    obtain ⟨A, B⟩ := hS'
    constructor
    · intro hlt
      obtain ⟨n', τ', a1, a2, a3, a4⟩ := A hlt
      refine ⟨n', τ', a1, ?_, hu.tr a3, fun j hj => by rw [a4 j hj, hkeep j hj]⟩
      rw [a2]
      have : prv p (i + 1) = nI (kth p i) := by unfold prv; rw [if_pos (by omega), Nat.add_sub_cancel]
      rw [this]
    · intro hge
      obtain ⟨τ', a1, a2, a3⟩ := B hge
      exact ⟨τ', a1, hu.tr a2, a3⟩
theorem sm_tail {g : Nat → Nat} {m : Nat} (h : ∀ k, m ≤ k → g k = 0) : ∀ n, sm g (m + n) = sm g m
  | 0 => rfl
  | n + 1 => by
    show sm g (m + n) + g (m + n) = _
    rw [sm_tail h n, h _ (by omega), Nat.add_zero]
theorem rways_ok (hv : VB b) (hx : IsSet x p) (hm : m = ct p (nS b)) (hL : L ≤ 999) (hP : ∀ i v, P i v = (R i v && fitW b (kth p i) v)) (hR : ∀ i, i < m → ∀ v, v < b.2.1 → (nI (kth p i) = x3 → R i v = decide (nI v = x4)) ∧ (nI (kth p i) ≠ x3 → R i v = true)) : ∀ h, 0 < h → RWs b p P x x3 x4 L m h := by
  have h8n := nS_le b
  have hw16 := hv.2.1
  intro h
  induction h with
  | zero => intro h0; omega
  | succ h IH =>
    intro _ i φ τ c n him hn hr hs h8 hwd hm1 hc
    have him' : i < m := by omega
    obtain ⟨o1, o2, o3⟩ := kth_ok (p := p) (i := i) (n := nS b) (by omega) h8n
    have hne : ∀ j, j < i → kth p j ≠ kth p i := fun j hj => by
      have := kth_lt (p := p) h8n hj (show i < ct p (nS b) by omega)
      omega
    have hok : ∀ v, okP b (kth p) P φ i v = (R i v && okP b (kth p) (fun i v => fitW b (kth p i) v) φ i v) := by
      intro v
      unfold okP
      rw [hP, Bool.and_assoc]
    have ekp : KP b (kth p) P (h + 1) i φ = DP b (kth p) P h i φ b.2.1 := by
      have := sm_tail (g := fun v => if okP b (kth p) P φ i v = true then KP b (kth p) P h (i + 1) (up φ i v) else 0) (m := b.2.1) (fun k hk => by
        show (if okP b (kth p) P φ i k = true then _ else 0) = 0
        rw [if_neg]
        intro z
        have z1 := (okP_iff.mp z).1
        rw [hP] at z1
        simp only [Bool.and_eq_true] at z1
        have := (fitW_iff.mp z1.2).1
        omega) (16 - b.2.1)
      rw [show b.2.1 + (16 - b.2.1) = 16 by omega] at this
      exact this
    have key : ∀ (k n v : Nat) (τv : SR), v + k = b.2.1 → k * (Tm h + 1) + 1 ≤ n → F8 τ τv → (∀ j, j < i → τv.1 8 (kth p j) = τ.1 8 (kth p j)) → τv.1 8 (kth p i) = nI v - 1 → c + DP b (kth p) P h i φ v < L → (L = 1 → DP b (kth p) P h i φ v = 0) →
        (c + DP b (kth p) P h i φ b.2.1 < L → ∃ n' τ', n ≤ n' + (k * (Tm h + 1) + 1) ∧ f_X8_fillings_L31 x (nI L) x3 x4 n τv (nI (c + DP b (kth p) P h i φ v)) (nI (kth p i)) = f_X8_fillings_L31 x (nI L) x3 x4 n' τ' (nI (c + DP b (kth p) P h i φ b.2.1)) (prv p i) ∧ F8 τ τ' ∧ ∀ j, j < i → τ'.1 8 (kth p j) = τ.1 8 (kth p j))
        ∧ (L ≤ c + DP b (kth p) P h i φ b.2.1 → ∃ τ', f_X8_fillings_L31 x (nI L) x3 x4 n τv (nI (c + DP b (kth p) P h i φ v)) (nI (kth p i)) = some (nI L, τ') ∧ F8 τ τ' ∧ (L = 1 → ∃ ψ, FstP b (kth p) P (h + 1) i φ ψ ∧ ∀ k, k < m → τ'.1 8 (kth p k) = nI (ψ k))) := by
      intro k
      induction k with
      | zero =>
        intro n v τv a1 a2 hF hk8 hcur hlt hL1
        obtain ⟨n, rfl⟩ := succ_of (show 0 < n by omega)
        have e : v = b.2.1 := by omega
        have hu := F8.up τv (kth p i) (nI v)
        have hnx : f_X8_nextSlot (rsu τv 8 (kth p i) (nI v)) (nI (kth p i)) x (-1) = some (prv p i) := by
          unfold f_X8_nextSlot
          rw [dn_m1, next_dn (hu.rs (hF.rs hs)) hx (kth p i) FU (by omega) (by have := FU_big; omega), o3]
          rfl
        rw [f_X8_fillings_L31_s, if_neg (nI_pos (by omega)), if_in (by omega), if_in (by omega), if_in (by omega), if_in16, ix_nI (by omega), hcur, Int32.sub_add_cancel, ix16, show (rsu τv 8 (kth p i) (nI v)).1 8 (kth p i) = nI v by rw [rsu_at, if_pos ⟨rfl, rfl⟩], (hu.rb (hF.rb hr)).2.1, if_nlt (by omega) (by omega), hnx, Option.bind_some, e]
        refine ⟨fun _ => ⟨n, _, by omega, rfl, hF.tr (by rw [e] at hu; exact hu), fun j hj => ?_⟩, fun z => ?_⟩
        · rw [rsu_at, if_neg (fun z => hne j hj z.2)]; exact hk8 j hj
        · rw [e] at hlt; omega
      | succ k ih =>
        intro n v τv a1 a2 hF hk8 hcur hlt hL1
        obtain ⟨n, rfl⟩ := succ_of (show 0 < n by omega)
        have hvw : v < b.2.1 := by omega
        have hu := F8.up τv (kth p i) (nI v)
        have emul : (k + 1) * (Tm h + 1) = k * (Tm h + 1) + (Tm h + 1) := by rw [Nat.add_mul, Nat.one_mul]
        have hF1 : F8 τ (rsu τv 8 (kth p i) (nI v)) := hF.tr hu
        have hk81 : ∀ j, j < i → (rsu τv 8 (kth p i) (nI v)).1 8 (kth p j) = τ.1 8 (kth p j) := fun j hj => by
          rw [rsu_at, if_neg (fun z => hne j hj z.2)]; exact hk8 j hj
        have hcur1 : (rsu τv 8 (kth p i) (nI v)).1 8 (kth p i) = nI v := by rw [rsu_at, if_pos ⟨rfl, rfl⟩]
        generalize hτ1 : rsu τv 8 (kth p i) (nI v) = τ1 at *
        have enx : nI (v + 1) - 1 = nI v := by rw [nI_m1 (by omega)]; rfl
        have eD : DP b (kth p) P h i φ (v + 1) = DP b (kth p) P h i φ v + (if okP b (kth p) P φ i v = true then KP b (kth p) P h (i + 1) (up φ i v) else 0) := rfl
        have hmono : DP b (kth p) P h i φ (v + 1) ≤ DP b (kth p) P h i φ b.2.1 := sm_mono _ (by omega)
        rw [f_X8_fillings_L31_s, if_neg (nI_pos (by omega)), if_in (by omega), if_in (by omega), if_in (by omega), if_in16, ix_nI (by omega), hcur, Int32.sub_add_cancel, ix16, hτ1, hcur1, (hF1.rb hr).2.1, if_lt (by omega) (by omega)]
        have hskip : okP b (kth p) P φ i v = false → ∀ goal : Option (Int32 × SR), goal = f_X8_fillings_L31 x (nI L) x3 x4 n τ1 (nI (c + DP b (kth p) P h i φ v)) (nI (kth p i)) →
            (c + DP b (kth p) P h i φ b.2.1 < L → ∃ n' τ', n + 1 ≤ n' + ((k + 1) * (Tm h + 1) + 1) ∧ goal = f_X8_fillings_L31 x (nI L) x3 x4 n' τ' (nI (c + DP b (kth p) P h i φ b.2.1)) (prv p i) ∧ F8 τ τ' ∧ ∀ j, j < i → τ'.1 8 (kth p j) = τ.1 8 (kth p j))
            ∧ (L ≤ c + DP b (kth p) P h i φ b.2.1 → ∃ τ', goal = some (nI L, τ') ∧ F8 τ τ' ∧ (L = 1 → ∃ ψ, FstP b (kth p) P (h + 1) i φ ψ ∧ ∀ k, k < m → τ'.1 8 (kth p k) = nI (ψ k))) := by
          rintro hz goal rfl
          rw [hz] at eD
          have eD' : DP b (kth p) P h i φ (v + 1) = DP b (kth p) P h i φ v := eD
          have := ih n (v + 1) τ1 (by omega) (by omega) hF1 hk81 (by rw [enx]; exact hcur1) (by omega) (fun l => by rw [eD']; exact hL1 l)
          rw [eD'] at this
          refine ⟨fun z => ?_, this.2⟩
          obtain ⟨n', τ', b1, b2, b3, b4⟩ := this.1 z
          exact ⟨n', τ', by omega, b2, b3, b4⟩
        have hmain : ∀ goal : Option (Int32 × SR), R i v = true → goal = f_X8_fillings_K95 (f_X8_fillings_L31 x (nI L) x3 x4 n) τ1 x (nI L) x3 x4 (nI (c + DP b (kth p) P h i φ v)) (nI (kth p i)) →
            (c + DP b (kth p) P h i φ b.2.1 < L → ∃ n' τ', n + 1 ≤ n' + ((k + 1) * (Tm h + 1) + 1) ∧ goal = f_X8_fillings_L31 x (nI L) x3 x4 n' τ' (nI (c + DP b (kth p) P h i φ b.2.1)) (prv p i) ∧ F8 τ τ' ∧ ∀ j, j < i → τ'.1 8 (kth p j) = τ.1 8 (kth p j))
            ∧ (L ≤ c + DP b (kth p) P h i φ b.2.1 → ∃ τ', goal = some (nI L, τ') ∧ F8 τ τ' ∧ (L = 1 → ∃ ψ, FstP b (kth p) P (h + 1) i φ ψ ∧ ∀ k, k < m → τ'.1 8 (kth p k) = nI (ψ k))) := by
          intro goal hRv hgoal
          have hg := goes_ok (hF1.rb hr) hv (hF1.rs hs) hx (show i < ct p (nS b) by omega) hvw (fun j hj => by rw [hk81 j hj]; exact h8 j hj) hwd
          have hok' := hok v
          rw [hRv, Bool.true_and] at hok'
          rw [← hok'] at hg
          unfold f_X8_fillings_K95 at hgoal
          rw [if_in (by omega), ix_nI (by omega), hcur1, hg, Option.bind_some] at hgoal
          by_cases go : okP b (kth p) P φ i v = true
          · rw [if_b1 go] at hgoal
            rw [if_pos go] at eD
            have hfv : fitW b (kth p i) v = true := by
              have z1 := (okP_iff.mp go).1
              rw [hP] at z1
              simp only [Bool.and_eq_true] at z1
              exact z1.2
            have hch := chl_ok (P := P) (x3 := x3) (x4 := x4) (h := h) (i := i) hv hx hm hL (by omega) (fun h0 => IH h0) (up φ i v) τ1 (c + DP b (kth p) P h i φ v) n (by omega) (hF1.rb hr) (hF1.rs hs) (fun j hj => by
              by_cases e : j = i
              · rw [e, up_at]; exact hcur1
              · rw [up_ne φ v e, hk81 j (by omega)]; exact h8 j (by omega)) (fun j hj => by
              by_cases e : j = i
              · rw [e, up_at]; exact hfv
              · rw [up_ne φ v e]; exact hwd j (by omega)) hlt
            have hgoal' : goal = chl x L x3 x4 n τ1 (nI (c + DP b (kth p) P h i φ v)) (nI (kth p i)) := hgoal
            rw [hgoal']
            rw [Nat.add_assoc, ← eD] at hch
            by_cases gl : c + DP b (kth p) P h i φ (v + 1) < L
            · obtain ⟨n1, τ2, d1, d2, d3, d4⟩ := hch.1 gl
              have hF2 : F8 τ τ2 := hF1.tr d3
              have := ih n1 (v + 1) τ2 (by omega) (by omega) hF2 (fun j hj => by rw [d4 j (by omega)]; exact hk81 j hj) (by rw [enx, d4 i (by omega)]; exact hcur1) gl (fun l => by omega)
              rw [d2]
              refine ⟨fun z => ?_, this.2⟩
              obtain ⟨n', τ', b1, b2, b3, b4⟩ := this.1 z
              exact ⟨n', τ', by omega, b2, b3, b4⟩
            · obtain ⟨τ2, d1, d2, d3⟩ := hch.2 (by omega)
              refine ⟨fun z => by omega, fun _ => ⟨τ2, d1, hF1.tr d2, fun l => ?_⟩⟩
              obtain ⟨ψ, z1, z2⟩ := d3 l
              exact ⟨ψ, ⟨v, by omega, go, hL1 l, z1⟩, z2⟩
          · rw [if_b0 (by simpa using go)] at hgoal
            exact hskip (by simpa using go) goal hgoal
        have hRR := hR i him' v hvw
        by_cases gx : nI (kth p i) = x3
        · have hRv := hRR.1 gx
          rw [if_pos gx, if_in (by omega)]
          by_cases gw : nI v = x4
          · rw [if_pos gw]
            exact hmain _ (by rw [hRv]; exact decide_eq_true gw) rfl
          · rw [if_neg gw]
            exact hskip (by rw [hok, hRv, decide_eq_false gw, Bool.false_and]) _ rfl
        · rw [if_neg gx]
          exact hmain _ (hRR.2 gx) rfl
    have hfu : b.2.1 * (Tm h + 1) + 1 ≤ 17 * (Tm h + 1) := by
      have : b.2.1 * (Tm h + 1) ≤ 16 * (Tm h + 1) := Nat.mul_le_mul_right _ hw16
      omega
    have eT : Tm (h + 1) = 17 * (Tm h + 1) := rfl
    have := key b.2.1 n 0 τ (by omega) (by omega) F8.rf (fun _ _ => rfl) (by rw [hm1]; rfl) hc (fun _ => rfl)
    rw [ekp]
    have e0 : c + DP b (kth p) P h i φ 0 = c := rfl
    rw [e0] at this
    refine ⟨fun z => ?_, this.2⟩
    obtain ⟨n', τ', b1, b2, b3, b4⟩ := this.1 z
    exact ⟨n', τ', by omega, b2, b3, b4⟩
end RW
