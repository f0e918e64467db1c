/-! the class's filler -/
def kth (p : Nat → Bool) (i : Nat) : Nat := ((List.range 8).find? (fun k => p k && decide (ct p k = i))).getD 0
theorem ct_lt {p : Nat → Bool} {j k : Nat} (hp : p j = true) (h : j < k) : ct p j < ct p k := by
  have := ct_mono' p (show j + 1 ≤ k by omega)
  rw [ct_succ, if_pos hp] at this
  omega
theorem kth_ok {p : Nat → Bool} {i n : Nat} (h : i < ct p n) (hn : n ≤ 8) : kth p i < n ∧ p (kth p i) = true ∧ ct p (kth p i) = i := by
  obtain ⟨k, h1, h2, h3⟩ := ct_kth h
  unfold kth
  cases hf : (List.range 8).find? (fun k => p k && decide (ct p k = i)) with
  | none =>
    have := List.find?_eq_none.mp hf k (List.mem_range.mpr (by omega))
    simp only [Bool.and_eq_true, decide_eq_true_eq] at this
    exact absurd ⟨h2, h3⟩ this
  | some j =>
    have h4 := List.find?_some hf
    simp only [Bool.and_eq_true, decide_eq_true_eq] at h4
    refine ⟨?_, h4.1, h4.2⟩
    rcases Nat.lt_or_ge j n with y | y
    · exact y
    · have := ct_mono' p y
      have h5 := h4.2
      omega
theorem kth_ct {p : Nat → Bool} {k : Nat} (hk : k < 8) (hp : p k = true) : kth p (ct p k) = k := by
  obtain ⟨h1, h2, h3⟩ := kth_ok (p := p) (i := ct p k) (n := 8) (ct_lt hp hk) (by omega)
  rcases Nat.lt_trichotomy (kth p (ct p k)) k with g | g | g
  · have := ct_lt h2 g; omega
  · exact g
  · have := ct_lt hp g; omega
theorem kth_lt {p : Nat → Bool} {i j n : Nat} (hn : n ≤ 8) (hij : i < j) (hj : j < ct p n) : kth p i < kth p j := by
  obtain ⟨a1, a2, a3⟩ := kth_ok (p := p) (i := i) (n := n) (by omega) hn
  obtain ⟨c1, c2, c3⟩ := kth_ok hj hn
  rcases Nat.lt_or_ge (kth p i) (kth p j) with g | g
  · exact g
  · have := ct_mono' p g; omega
def cs (b : Bd) (O : Nat → Nat) (C : Nat → Nat → Bool) (φ : Nat → Nat) (i j v : Nat) : Bool := C j v && (List.range i).all (fun k => bes b (O k) (φ k) (O j) v)
def Stt (b : Bd) (O : Nat → Nat) (C : Nat → Nat → Bool) (m i : Nat) (φ : Nat → Nat) (σ : SC) : Prop := σ 17 4 = nI m ∧ (∀ j, j < m → σ 13 j = nI (O j)) ∧ (∀ j, i ≤ j → j < m → IsSet (σ 14 (8 * i + j)) (cs b O C φ i j)) ∧ ∀ k, k < i → σ 15 k = nI (φ k)
def WF (i : Nat) (σ σ' : SC) : Prop := (∀ r, r ≠ 14 → r ≠ 15 → σ' r = σ r) ∧ (∀ q, q < 8 * (i + 1) → σ' 14 q = σ 14 q) ∧ ∀ k, k < i → σ' 15 k = σ 15 k
theorem WF.rf {i : Nat} {σ : SC} : WF i σ σ := ⟨fun _ _ _ => rfl, fun _ _ => rfl, fun _ _ => rfl⟩
theorem WF.tr {i : Nat} {a c d : SC} (h1 : WF i a c) (h2 : WF i c d) : WF i a d := ⟨fun r x y => (h2.1 r x y).trans (h1.1 r x y), fun q hq => (h2.2.1 q hq).trans (h1.2.1 q hq), fun k hk => (h2.2.2 k hk).trans (h1.2.2 k hk)⟩
theorem WF.dn {i : Nat} {a c : SC} (h : WF (i + 1) a c) : WF i a c := ⟨h.1, fun q hq => h.2.1 q (by omega), fun k hk => h.2.2 k (by omega)⟩
theorem WF.fq {i : Nat} {a c : SC} (h : WF i a c) : FQ a c := ⟨fun r _ h14 h15 _ => h.1 r h14 h15, fun j _ => by rw [h.1 17 (by decide) (by decide)]⟩
def Env2 (b : Bd) (σ : SC) : Prop := DS b σ ∧ DI b σ
section CF
variable {b : Bd} {O : Nat → Nat} {C : Nat → Nat → Bool} {m : Nat}
theorem Env2.keep {σ σ' : SC} (h : Env2 b σ) (hr : ∀ r, r ≠ 14 → r ≠ 15 → σ' r = σ r) : Env2 b σ' :=
  ⟨h.1.keep (fun r _ _ => hr r (by omega) (by omega)) (fun j _ _ => by rw [hr 17 (by decide) (by decide)]), h.2.keep (hr 8 (by decide) (by decide)) (hr 9 (by decide) (by decide)) (hr 10 (by decide) (by decide))⟩
theorem Stt.keep {i : Nat} {φ : Nat → Nat} {σ σ' : SC} (hm : m ≤ 8) (h : Stt b O C m i φ σ) (hw : WF i σ σ') : Stt b O C m i φ σ' := by
  refine ⟨by rw [hw.1 17 (by decide) (by decide)]; exact h.1, fun j hj => by rw [hw.1 13 (by decide) (by decide)]; exact h.2.1 j hj, fun j h1 h2 => ?_, fun k hk => by rw [hw.2.2 k hk]; exact h.2.2.2 k hk⟩
  rw [hw.2.1 _ (by omega)]
  exact h.2.2.1 j h1 h2
theorem cs_up {φ : Nat → Nat} {i j v u : Nat} : (cs b O C φ i j u && bes b (O i) v (O j) u) = cs b O C (up φ i v) (i + 1) j u := by
  unfold cs
  rw [List.range_succ, List.all_append, ← Bool.and_assoc]
  congr 1
  · congr 1
    apply Bool.eq_iff_iff.mpr
    simp only [List.all_eq_true, List.mem_range]
    constructor
    · intro h k hk
      rw [up_ne φ v (by omega)]; exact h k hk
    · intro h k hk
      have := h k hk
      rw [up_ne φ v (by omega)] at this; exact this
  · simp [up_at]
theorem choose_ok (hv : VB b) (hm : m ≤ 8) (hO : ∀ j, j < m → O j < nS b) (hC : ∀ j, j < m → ∀ v, C j v = true → fitW b (O j) v = true) {σ : SC} {i h v : Nat} {φ : Nat → Nat} (hi : i < m) (hh : i + 1 + h = m) (he : Env2 b σ) (hs : Stt b O C m i φ σ) (ho : okP b O C φ i v = true) : ∃ σ', WF i σ σ' ∧ ((f_X2_choose σ (nI i) (nI v) = some (0, σ') ∧ KP b O C h (i + 1) (up φ i v) = 0) ∨ (f_X2_choose σ (nI i) (nI v) = some (1, σ') ∧ Stt b O C m (i + 1) (up φ i v) σ')) := by
  have h8 := nS_le b
  have hw16 := hv.2.1
  obtain ⟨c1, c2⟩ := okP_iff.mp ho
  have hf := fitW_iff.mp (hC i hi v c1)
  have hlen := (fitB_iff.mp hf.2).1
  have key : ∀ (k n j : Nat) (σj : SC), j + k = m → i + 1 ≤ j → k < n → WF i σ σj → σj 15 i = nI v → (∀ j', i + 1 ≤ j' → j' < j → IsSet (σj 14 (8 * (i + 1) + j')) (cs b O C (up φ i v) (i + 1) j')) → ∃ σ', WF i σ σ' ∧ ((f_X2_choose_L23 (nI i) (nI v) (nI (O i)) n σj (nI j) = some (0, σ') ∧ KP b O C h (i + 1) (up φ i v) = 0) ∨ (f_X2_choose_L23 (nI i) (nI v) (nI (O i)) n σj (nI j) = some (1, σ') ∧ Stt b O C m (i + 1) (up φ i v) σ')) := by
    intro k
    induction k with
    | zero =>
      intro n j σj h1 h2 h3 hw h15 hset
      obtain ⟨n, rfl⟩ := succ_of h3
      have e : j = m := by omega
      refine ⟨σj, hw, Or.inr ⟨?_, ?_, ?_, ?_, ?_⟩⟩
      · rw [f_X2_choose_L23_s, hw.1 17 (by decide) (by decide), hs.1, if_le (by omega) (by omega)]
      · rw [hw.1 17 (by decide) (by decide)]; exact hs.1
      · intro j' hj'; rw [hw.1 13 (by decide) (by decide)]; exact hs.2.1 j' hj'
      · intro j' a1 a2; exact hset j' a1 (by omega)
      · intro k hk
        by_cases e : k = i
        · rw [e, up_at]; exact h15
        · rw [up_ne φ v e, hw.2.2 k (by omega)]; exact hs.2.2.2 k (by omega)
    | succ k ih =>
      intro n j σj h1 h2 h3 hw h15 hset
      obtain ⟨n, rfl⟩ := succ_of h3
      have hjm : j < m := by omega
      have hej : Env2 b σj := he.keep hw.1
      obtain ⟨x, x1, x2⟩ := besides_ok hv hej.1 hej.2 (hO i hi) (hO j hjm) hf.1 hlen
      have e13 : rd σj 13 (nI j) = nI (O j) := by
        rw [rd_in σj (show j < lnC 13 by show j < 8; omega), hw.1 13 (by decide) (by decide)]; exact hs.2.1 j hjm
      have hold : IsSet (σj 14 (8 * i + j)) (cs b O C φ i j) := by
        rw [hw.2.1 _ (by omega)]; exact hs.2.2.1 j (by omega) hjm
      have hset2 : IsSet (σj 14 (8 * i + j) &&& x) (cs b O C (up φ i v) (i + 1) j) := (hold.and x2).cong (fun u _ => cs_up)
      rw [f_X2_choose_L23_s, hw.1 17 (by decide) (by decide), hs.1, if_nle (by omega) (by omega), e13, x1, Option.bind_some, pk_mul, nI_add, nI_1, nI_1, pk_mul, nI_add, Nat.mul_comm i 8, Nat.mul_comm (i + 1) 8, rd_in σj (show 8 * i + j < lnC 14 by show _ < 64; omega)]
      by_cases g : σj 14 (8 * i + j) &&& x = 0
      · rw [if_pos g]
        refine ⟨σj, hw, Or.inl ⟨rfl, ?_⟩⟩
        rw [hset2.eq0] at g
        refine KP_zero (j := j) (by omega) (by omega) (fun u hu z => ?_)
        have := g u (by omega)
        unfold cs at this
        rw [z.1, Bool.true_and] at this
        have z2 : ((List.range (i + 1)).all fun k => bes b (O k) (up φ i v k) (O j) u) = true := by
          simp only [List.all_eq_true, List.mem_range]; exact z.2
        rw [z2] at this; cases this
      · rw [if_neg g, wr_in σj _ (show 8 * (i + 1) + j < lnC 14 by show _ < 64; omega)]
        refine ih n (j + 1) _ (by omega) (by omega) (by omega) (hw.tr ⟨fun r a1 _ => su_row _ _ _ _ a1, fun q hq => ?_, fun q _ => ?_⟩) ?_ ?_
        · rw [su_at, if_neg (by omega)]
        · rw [su_at, if_neg (by omega)]
        · rw [su_at, if_neg (by omega)]; exact h15
        · intro j' a1 a2
          rw [su_at]
          by_cases e : j' = j
          · rw [if_pos ⟨rfl, by rw [e]⟩, e]; exact hset2
          · rw [if_neg (by omega)]; exact hset j' a1 (by omega)
  unfold f_X2_choose
  rw [rd_in σ (show i < lnC 13 by show i < 8; omega), hs.2.1 i hi, wr_in σ _ (show i < lnC 15 by show i < 8; omega), nI_1]
  refine key h FU (i + 1) _ (by omega) (by omega) (by have := FU_big; omega) ⟨fun r _ a => su_row _ _ _ _ a, fun q _ => ?_, fun q hq => ?_⟩ ?_ (fun j' a1 a2 => by omega)
  · rw [su_at, if_neg (by omega)]
  · rw [su_at, if_neg (by omega)]
  · rw [su_at, if_pos ⟨rfl, rfl⟩]
theorem ways_ok (hv : VB b) (hm : m ≤ 8) (hO : ∀ j, j < m → O j < nS b) (hC : ∀ j, j < m → ∀ v, C j v = true → fitW b (O j) v = true) : ∀ (h d i : Nat) (φ : Nat → Nat) (σ : SC) (L : Nat), i + h = m → h < d → Env2 b σ → Stt b O C m i φ σ → 1 ≤ L → L ≤ 999 → ∃ σ', f_X2_ways d σ (nI i) (nI L) = some (nI (min L (KP b O C h i φ)), σ') ∧ WF i σ σ' ∧ (L = 1 → KP b O C h i φ ≠ 0 → ∃ ψ, FstP b O C h i φ ψ ∧ ∀ k, k < m → σ' 15 k = nI (ψ k)) := by
  intro h
  induction h with
  | zero =>
    intro d i φ σ L h1 h2 he hs hL1 hL2
    obtain ⟨d, rfl⟩ := succ_of h2
    refine ⟨σ, ?_, WF.rf, fun _ _ => ⟨φ, rfl, fun k hk => hs.2.2.2 k (by omega)⟩⟩
    show f_X2_ways_B (f_X2_ways d) σ (nI i) (nI L) = _
    unfold f_X2_ways_B
    rw [hs.1, if_le (by omega) (by omega)]
    have : min L (KP b O C 0 i φ) = 1 := by show min L 1 = 1; omega
    rw [this]; rfl
  | succ h IH =>
    intro d i φ σ L h1 h2 he hs hL1 hL2
    obtain ⟨d, rfl⟩ := succ_of h2
    have him : i < m := by omega
    have hset : IsSet (σ 14 (8 * i + i)) (okP b O C φ i) := hs.2.2.1 i (by omega) him
    have key : ∀ (k n v : Nat) (σv : SC), v + k = 16 → k < n → WF i σ σv → (L = 1 → DP b O C h i φ v ≠ 0 → ∃ ψ, FstP b O C (h + 1) i φ ψ ∧ ∀ k, k < m → σv 15 k = nI (ψ k)) → ∃ σ', f_X2_ways_L36 (f_X2_ways d) (nI i) (nI L) (σ 14 (8 * i + i)) (fun σ_90 x4_90 => (some (x4_90, σ_90))) n σv (nI (min L (DP b O C h i φ v))) (nI v) = some (nI (min L (DP b O C h i φ 16)), σ') ∧ WF i σ σ' ∧ (L = 1 → DP b O C h i φ 16 ≠ 0 → ∃ ψ, FstP b O C (h + 1) i φ ψ ∧ ∀ k, k < m → σ' 15 k = nI (ψ k)) := by
      intro k
      induction k with
      | zero =>
        intro n v σv a1 a2 hw hF
        obtain ⟨n, rfl⟩ := succ_of a2
        have e : v = 16 := by omega
        subst e
        refine ⟨σv, ?_, hw, hF⟩
        rw [f_X2_ways_L36_s, if_le (by omega) (by omega)]
      | succ k ih =>
        intro n v σv a1 a2 hw hF
        obtain ⟨n, rfl⟩ := succ_of a2
        have hv16 : v < 16 := by omega
        have hmono : DP b O C h i φ v ≤ DP b O C h i φ 16 := sm_mono _ (by omega)
        have eD : DP b O C h i φ (v + 1) = DP b O C h i φ v + (if okP b O C φ i v = true then KP b O C h (i + 1) (up φ i v) else 0) := rfl
        rw [f_X2_ways_L36_s, if_nle (by omega) (by omega)]
        by_cases gL : L ≤ DP b O C h i φ v
        · rw [if_le (show L ≤ min L (DP b O C h i φ v) by omega) (by omega), show min L (DP b O C h i φ v) = L by omega, show min L (DP b O C h i φ 16) = L by omega]
          exact ⟨σv, rfl, hw, fun l1 _ => hF l1 (by omega)⟩
        · have emin : min L (DP b O C h i φ v) = DP b O C h i φ v := by omega
          rw [emin, if_nle (by omega) (by omega), hset.cnv (by omega), nI_1]
          by_cases go : okP b O C φ i v = true
          · rw [if_pos go, if10]
            rw [if_pos go] at eD
            obtain ⟨σ2, hw2, hch⟩ := choose_ok (h := h) hv hm hO hC him (by omega) (he.keep hw.1) (hs.keep hm hw) go
            rcases hch with ⟨x1, x2⟩ | ⟨x1, x2⟩
            · rw [x1, bnd_some, if00]
              rw [x2] at eD
              have := ih n (v + 1) σ2 (by omega) (by omega) (hw.tr hw2) (fun l1 l2 => by omega)
              rw [show min L (DP b O C h i φ (v + 1)) = DP b O C h i φ v by omega] at this
              exact this
            · obtain ⟨σ3, y1, y2, y3⟩ := IH d (i + 1) (up φ i v) σ2 (L - DP b O C h i φ v) (by omega) (by omega) ((he.keep hw.1).keep hw2.1) x2 (by omega) (by omega)
              rw [x1, bnd_some, if10, nI_1, pk_sub (by omega), y1, bnd_some, nI_add]
              have := ih n (v + 1) σ3 (by omega) (by omega) (hw.tr (hw2.tr y2.dn)) (fun l1 l2 => by
                obtain ⟨ψ, z1, z2⟩ := y3 (by omega) (by omega)
                exact ⟨ψ, ⟨v, hv16, go, by omega, z1⟩, z2⟩)
              rw [show min L (DP b O C h i φ (v + 1)) = DP b O C h i φ v + min (L - DP b O C h i φ v) (KP b O C h (i + 1) (up φ i v)) by omega] at this
              exact this
          · rw [if_neg go, if00]
            rw [if_neg go] at eD
            have := ih n (v + 1) σv (by omega) (by omega) hw (fun l1 l2 => by omega)
            rw [show min L (DP b O C h i φ (v + 1)) = DP b O C h i φ v by omega] at this
            exact this
    obtain ⟨σ', k1, k2, k3⟩ := key 16 FU 0 σ (by omega) (by have := FU_big; omega) WF.rf (fun _ z => absurd rfl z)
    refine ⟨σ', ?_, k2, k3⟩
    show f_X2_ways_B (f_X2_ways d) σ (nI i) (nI L) = _
    unfold f_X2_ways_B
    rw [hs.1, if_nle (by omega) (by omega), if_lt (by omega) (by omega), pk_mul, nI_add, Nat.mul_comm i 8, rd_in σ (show 8 * i + i < lnC 14 by show _ < 64; omega)]
    have e0 : min L (DP b O C h i φ 0) = 0 := Nat.min_eq_right (Nat.zero_le _)
    rw [e0, nI_0] at k1
    exact k1
theorem begin_ok {σ : SC} {p : Nat → Bool} {x : Int32} (hd : DS b σ) (hx : IsSet x p) {r : Nat} (hr : lnC r = 8) (hr2 : r ≠ 13 ∧ r ≠ 14 ∧ r ≠ 15 ∧ r ≠ 17) : ∃ σ', f_X2_begin σ x r = some σ' ∧ FQ σ σ' ∧ σ' 17 4 = nI (ct p (nS b)) ∧ ∀ i, i < ct p (nS b) → σ' 13 i = nI (kth p i) ∧ σ' 14 i = σ r (kth p i) := by
  have h8 := nS_le b
  have key : ∀ (k n s : Nat) (σs : SC), s + k = nS b → k < n → FQ σ σs → σs 17 4 = nI (ct p s) → (∀ i, i < ct p s → σs 13 i = nI (kth p i) ∧ σs 14 i = σ r (kth p i)) → ∃ σ', f_X2_begin_L7 r x n σs (nI s) = some σ' ∧ FQ σ σ' ∧ σ' 17 4 = nI (ct p (nS b)) ∧ ∀ i, i < ct p (nS b) → σ' 13 i = nI (kth p i) ∧ σ' 14 i = σ r (kth p i) := by
    intro k
    induction k with
    | zero =>
      intro n s σs h1 h2 hq h4 hi
      obtain ⟨n, rfl⟩ := succ_of h2
      have e : s = nS b := by omega
      rw [f_X2_begin_L7_s, hq.2 1 (by decide), hd.1, if_le (by omega) (by omega)]
      rw [e] at h4 hi
      exact ⟨σs, rfl, hq, h4, hi⟩
    | succ k ih =>
      intro n s σs h1 h2 hq h4 hi
      obtain ⟨n, rfl⟩ := succ_of h2
      have hs' : s < nS b := by omega
      have hcs := ct_le p s
      rw [f_X2_begin_L7_s, hq.2 1 (by decide), hd.1, if_nle (by omega) (by omega), hx.cnv (by omega), nI_1]
      by_cases g : p s = true
      · have hk := kth_ct (show s < 8 by omega) g
        have ec : ct p (s + 1) = ct p s + 1 := by rw [ct_succ, if_pos g]
        rw [if_pos g, if10, h4, wr_in σs _ (show ct p s < lnC 13 by show _ < 8; omega), su_row _ _ _ _ (show (17 : Nat) ≠ 13 by decide), h4]
        rw [wr_in _ _ (show ct p s < lnC 14 by show _ < 64; omega), su_row _ 14 _ _ (show (17 : Nat) ≠ 14 by decide), su_row _ _ _ _ (show (17 : Nat) ≠ 13 by decide), h4, nI_1, rd_in _ (show s < lnC r by rw [hr]; omega), su_row σs 13 _ _ (show r ≠ 13 from hr2.1), hq.1 r hr2.1 hr2.2.1 hr2.2.2.1 hr2.2.2.2]
        refine ih n (s + 1) _ (by omega) (by omega) ⟨fun q a1 a2 a3 a4 => ?_, fun j hj => ?_⟩ ?_ (fun i hi' => ?_)
        · rw [su_row _ _ _ _ a4, su_row _ _ _ _ a2, su_row _ _ _ _ a1]; exact hq.1 q a1 a2 a3 a4
        · rw [su_at, if_neg (by omega), su_row _ _ _ _ (by decide), su_row _ _ _ _ (by decide)]; exact hq.2 j hj
        · rw [su_at, if_pos ⟨rfl, rfl⟩, ec]
        · rw [su_row _ 17 _ _ (show (13 : Nat) ≠ 17 by decide), su_row _ 17 _ _ (show (14 : Nat) ≠ 17 by decide), su_row _ 14 _ _ (show (13 : Nat) ≠ 14 by decide), su_at _ 13, su_at _ 14, su_row _ 13 _ _ (show (14 : Nat) ≠ 13 by decide)]
          by_cases e : i = ct p s
          · rw [if_pos ⟨rfl, e⟩, if_pos ⟨rfl, e⟩, e, hk]; exact ⟨rfl, rfl⟩
          · rw [if_neg (fun z => e z.2), if_neg (fun z => e z.2)]; exact hi i (by omega)
      · have ec : ct p (s + 1) = ct p s := by rw [ct_succ, if_neg g]; rfl
        rw [if_neg g, if00]
        refine ih n (s + 1) σs (by omega) (by omega) hq (by rw [ec]; exact h4) (by rw [ec]; exact hi)
  have := key (nS b) FU 0 (su σ 17 4 0) (by omega) (by have := FU_big; omega) ⟨fun q _ _ _ a => su_row _ _ _ _ a, fun j hj => by rw [su_at, if_neg (by omega)]⟩ (by rw [su_at, if_pos ⟨rfl, rfl⟩]; rfl) (fun i hi => by have : ct p 0 = 0 := rfl; omega)
  rw [nI_0] at this
  exact this
end CF
