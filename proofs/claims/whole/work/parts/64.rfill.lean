/-! the reference's filler -/
def F8 (τ τ' : SR) : Prop := (∀ r, r ≠ 8 → τ'.1 r = τ.1 r) ∧ τ'.2 = τ.2
def Tm : Nat → Nat
  | 0 => 0
  | h + 1 => 17 * (Tm h + 1)
theorem Tm_fu : ∀ m, m ≤ 8 → Tm m < 1000000000000000000 := by decide
section RF
variable {b : Bd} {τ : SR}
theorem F8.rf : F8 τ τ := ⟨fun _ _ => rfl, rfl⟩
theorem F8.tr {a c d : SR} (h1 : F8 a c) (h2 : F8 c d) : F8 a d := ⟨fun r hr => (h2.1 r hr).trans (h1.1 r hr), h2.2.trans h1.2⟩
theorem F8.up (τ : SR) (i : Nat) (v : Int32) : F8 τ (rsu τ 8 i v) := ⟨fun _ hr => rsu_row _ _ _ _ hr, rfl⟩
theorem F8.rb {τ' : SR} (h : F8 τ τ') (hb : RB b τ) : RB b τ' := by unfold RB; rw [h.1 0 (by decide)]; exact hb
theorem F8.rs {τ' : SR} (h : F8 τ τ') (hr : RS b τ) : RS b τ' := by unfold RS; rw [h.1 4 (by decide), h.1 5 (by decide), h.1 6 (by decide), h.1 9 (by decide)]; exact hr
theorem F8.fr {τ' : SR} (h : F8 τ τ') : FR τ τ' := ⟨h.1 0 (by decide), h.1 1 (by decide), h.1 2 (by decide), h.1 3 (by decide), by rw [h.1 9 (by decide)], by rw [h.1 9 (by decide)]⟩
variable {p : Nat → Bool} {x : Int32}
theorem next_up (hs : RS b τ) (hx : IsSet x p) : ∀ (k n a : Nat), a + k = nS b → k < n → f_X8_nextSlot_L5 τ x 1 (fun x4_37 => (some x4_37)) n (nI a) = some (nI (if ct p a < ct p (nS b) then kth p (ct p a) else nS b)) := by
  have h8 := nS_le b
  intro k
  induction k with
  | zero =>
    intro n a h1 h2
    obtain ⟨n, rfl⟩ := succ_of h2
    have e : a = nS b := by omega
    rw [f_X8_nextSlot_L5_s, if_neg (nI_pos (by omega)), hs.1, if_le (by omega) (by omega), e, if_neg (by omega)]
  | succ k ih =>
    intro n a h1 h2
    obtain ⟨n, rfl⟩ := succ_of h2
    rw [f_X8_nextSlot_L5_s, if_neg (nI_pos (by omega)), hs.1, if_nle (by omega) (by omega), hx.hasv (by omega), Option.bind_some, nI_1]
    by_cases g : p a = true
    · rw [if_pos g, if10, if_pos (ct_lt g (by omega)), kth_ct (by omega) g]
    · have ec : ct p (a + 1) = ct p a := by rw [ct_succ, if_neg g]; rfl
      rw [if_neg g, if00, ih n (a + 1) (by omega) (by omega), ec]
theorem next_dn (hs : RS b τ) (hx : IsSet x p) : ∀ (a n : Nat), a ≤ nS b → a < n → f_X8_nextSlot_L5 τ x (-1) (fun x4_37 => (some x4_37)) n (nI a - 1) = some (if 0 < ct p a then nI (kth p (ct p a - 1)) else -1) := by
  have h8 := nS_le b
  intro a
  induction a with
  | zero =>
    intro n h1 h2
    obtain ⟨n, rfl⟩ := succ_of h2
    rw [f_X8_nextSlot_L5_s, if_pos (by decide)]
    rfl
  | succ a ih =>
    intro n h1 h2
    obtain ⟨n, rfl⟩ := succ_of h2
    have esub : nI (a + 1) - 1 = nI a := by rw [nI_m1 (by omega)]; rfl
    rw [f_X8_nextSlot_L5_s, esub, if_neg (nI_pos (by omega)), hs.1, if_nle (by omega) (by omega), hx.hasv (by omega), Option.bind_some, dn_m1]
    by_cases g : p a = true
    · have ec : ct p (a + 1) = ct p a + 1 := by rw [ct_succ, if_pos g]
      rw [if_pos g, if10, ec, if_pos (by omega), Nat.add_sub_cancel, kth_ct (by omega) g]
    · have ec : ct p (a + 1) = ct p a := by rw [ct_succ, if_neg g]; rfl
      rw [if_neg g, if00, ih n (by omega) (by omega), ec]
theorem goes_ok (hr : RB b τ) (hv : VB b) (hs : RS b τ) (hx : IsSet x p) {i v : Nat} {φ : Nat → Nat} (hi : i < ct p (nS b)) (hw : v < b.2.1) (h8' : ∀ j, j < i → τ.1 8 (kth p j) = nI (φ j)) (hwd : ∀ j, j < i → fitW b (kth p j) (φ j) = true) : f_X8_goes τ (nI (kth p i)) (nI v) x = some (b2 (okP b (kth p) (fun i v => fitW b (kth p i) v) φ i v)) := by
  have h8 := nS_le b
  have hw16 := hv.2.1
  obtain ⟨o1, o2, o3⟩ := kth_ok hi h8
  generalize hO : kth p i = s at o1 o2 o3
  have hu : ∀ u, u < s → p u = true → ∃ j, j < i ∧ kth p j = u ∧ ct p u = j := by
    intro u h1 h2
    refine ⟨ct p u, ?_, kth_ct (by omega) h2, rfl⟩
    have := ct_lt h2 h1; omega
  by_cases gf : fitB b s v = true
  · have hlen := (fitB_iff.mp gf).1
    have key : ∀ (k n t : Nat), t + k = s → k < n → f_X8_goes_L14 τ (nI s) (nI v) x (some 0) n (nI t) = some (b2 ((List.range s).all (fun u => decide (u < t) || (!p u || bes b u (φ (ct p u)) s v)))) := by
      intro k
      induction k with
      | zero =>
        intro n t h1 h2
        obtain ⟨n, rfl⟩ := succ_of h2
        have : ((List.range s).all (fun u => decide (u < t) || (!p u || bes b u (φ (ct p u)) s v))) = true := by
          simp only [List.all_eq_true, List.mem_range]
          intro u hu
          rw [decide_eq_true (by omega), Bool.true_or]
        rw [f_X8_goes_L14_s, if_le (by omega) (by omega), this]; rfl
      | succ k ih =>
        intro n t h1 h2
        obtain ⟨n, rfl⟩ := succ_of h2
        have hts : t < s := by omega
        have ht : t < nS b := by omega
        have hgo : (p t = true → bes b t (φ (ct p t)) s v = true) → ((List.range s).all (fun u => decide (u < t) || (!p u || bes b u (φ (ct p u)) s v))) = ((List.range s).all (fun u => decide (u < t + 1) || (!p u || bes b u (φ (ct p u)) s v))) := by
          intro hb
          apply Bool.eq_iff_iff.mpr
          simp only [List.all_eq_true, List.mem_range, Bool.or_eq_true, decide_eq_true_eq, Bool.not_eq_true']
          constructor
          · intro h u hu
            rcases h u hu with z | z
            · left; omega
            · right; exact z
          · intro h u hu
            rcases h u hu with z | z
            · by_cases e : u = t
              · right
                rw [e]
                by_cases y : p t = true
                · right; exact hb y
                · left; simpa using y
              · left; omega
            · right; exact z
        have hno : p t = true → bes b t (φ (ct p t)) s v = false → ((List.range s).all (fun u => decide (u < t) || (!p u || bes b u (φ (ct p u)) s v))) = false := by
          intro hp hb
          apply Bool.eq_false_iff.mpr
          intro z
          simp only [List.all_eq_true, List.mem_range, Bool.or_eq_true, decide_eq_true_eq, Bool.not_eq_true'] at z
          rcases z t hts with y | y | y
          · omega
          · rw [hp] at y; cases y
          · rw [hb] at y; cases y
        rw [f_X8_goes_L14_s, if_nle (by omega) (by omega), hx.hasv (by omega), Option.bind_some, nI_1]
        by_cases g : p t = true
        · obtain ⟨j, j1, j2, j3⟩ := hu t hts g
          have hfj := fitW_iff.mp (hwd j j1)
          rw [j2] at hfj
          have hlj := (fitB_iff.mp hfj.2).1
          have e8 : τ.1 8 t = nI (φ (ct p t)) := by rw [j3, ← j2]; exact h8' j j1
          rw [j3] at e8 hgo hno
          rw [if_pos g, if10, common_ok hs o1 ht, Option.bind_some, if_in (by omega), ix_nI (by omega), e8]
          by_cases ev : φ j = v
          · rw [if_eq ev, hno g (by
              apply Bool.eq_false_iff.mpr
              intro z
              exact (bes_iff.mp z).2.1 ev.symm)]
            rfl
          · rw [if_neq ev (by omega) (by omega)]
            by_cases gx : X b s t = true
            · obtain ⟨x1, x2, x3, x4⟩ := X_place o1 ht gx
              have gx' : X b t s = true := by rw [X_symm]; exact gx
              have hcl := cS_lt o1 x2
              have l1 := letN_lt (b.2.2 v) (pX b s t)
              have l2 := letN_lt (b.2.2 (φ j)) (pX b t s)
              rw [if_pos gx, if_nm1 (by omega), letterIn_ok hr hv hs o1 hw x2 hlen, Option.bind_some, if_in (by omega), x4, letterIn_ok hr hv hs ht hfj.1 x3 hlj, Option.bind_some]
              by_cases gl : letN (b.2.2 v) (pX b s t) = letN (b.2.2 (φ j)) (pX b t s)
              · rw [if_eq gl, ih n (t + 1) (by omega) (by omega), hgo (fun _ => bes_iff.mpr ⟨by omega, fun z => ev z.symm, fun _ => ⟨hw, by omega, gl⟩⟩)]
              · rw [if_neq gl (by omega) (by omega), hno g (by
                  apply Bool.eq_false_iff.mpr
                  intro z
                  exact gl ((bes_iff.mp z).2.2 gx').2.2)]
                rfl
            · rw [if_neg gx, if_t rfl, ih n (t + 1) (by omega) (by omega), hgo (fun _ => bes_iff.mpr ⟨by omega, fun z => ev z.symm, fun z => absurd (by rw [X_symm]; exact z) gx⟩)]
        · rw [if_neg g, if00, ih n (t + 1) (by omega) (by omega), hgo (fun z => absurd z g)]
    unfold f_X8_goes
    rw [fits_ok hr hv hs o1 hw, Option.bind_some, if_b1 gf]
    have := key s FU 0 (by omega) (by have := FU_big; omega)
    rw [nI_0] at this
    rw [this]
    congr 2
    apply Bool.eq_iff_iff.mpr
    rw [okP_iff]
    simp only [List.all_eq_true, List.mem_range, Bool.or_eq_true, decide_eq_true_eq, Bool.not_eq_true', hO]
    constructor
    · intro h
      refine ⟨fitW_iff.mpr ⟨hw, gf⟩, fun j hj => ?_⟩
      obtain ⟨k1, k2, k3⟩ := kth_ok (p := p) (i := j) (n := nS b) (by omega) h8
      have hlt := kth_lt h8 hj hi
      rcases h (kth p j) (by omega) with z | z | z
      · omega
      · rw [k2] at z; cases z
      · rw [k3] at z; exact z
    · rintro ⟨h1, h2⟩ u hus
      by_cases y : p u = true
      · obtain ⟨j, j1, j2, j3⟩ := hu u hus y
        right; right
        rw [j3]
        have := h2 j j1
        rw [j2] at this; exact this
      · right; left; simpa using y
  · unfold f_X8_goes
    rw [fits_ok hr hv hs o1 hw, Option.bind_some, if_b0 (by simpa using gf)]
    have : okP b (kth p) (fun i v => fitW b (kth p i) v) φ i v = false := by
      apply Bool.eq_false_iff.mpr
      intro z
      have z1 := (okP_iff.mp z).1
      rw [hO] at z1
      exact gf (fitW_iff.mp z1).2
    rw [this]; rfl
end RF
