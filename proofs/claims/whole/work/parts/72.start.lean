theorem arrs {args : Array Value} {s : State} {ty : FieldType} (h : (Cond.arrayClass ty).before args s = true) : ∃ cA, ArrOfT s cA ty ∧ s.vm.findClass ("[" ++ ty.toString) = some cA := by
  obtain ⟨cA, kA, comp, h1, h2, h3⟩ := Cond.arrayClass_spec h
  exact ⟨cA, fun n z => ⟨fun k h => (by cases h), kA, h2, comp, h3⟩, h1⟩
theorem wC_at {ad : Nat → Nat} {cI : ClassId} {σ : SC} (k : Nat) (h : k < 41) : ∃ e, (wC ad cI σ)[k]? = some (ad k, e) := by
  match k, h with
  | 0, _ => exact ⟨_, rfl⟩
  | 1, _ => exact ⟨_, rfl⟩
  | 2, _ => exact ⟨_, rfl⟩
  | 3, _ => exact ⟨_, rfl⟩
  | 4, _ => exact ⟨_, rfl⟩
  | 5, _ => exact ⟨_, rfl⟩
  | 6, _ => exact ⟨_, rfl⟩
  | 7, _ => exact ⟨_, rfl⟩
  | 8, _ => exact ⟨_, rfl⟩
  | 9, _ => exact ⟨_, rfl⟩
  | 10, _ => exact ⟨_, rfl⟩
  | 11, _ => exact ⟨_, rfl⟩
  | 12, _ => exact ⟨_, rfl⟩
  | 13, _ => exact ⟨_, rfl⟩
  | 14, _ => exact ⟨_, rfl⟩
  | 15, _ => exact ⟨_, rfl⟩
  | 16, _ => exact ⟨_, rfl⟩
  | 17, _ => exact ⟨_, rfl⟩
  | 18, _ => exact ⟨_, rfl⟩
  | 19, _ => exact ⟨_, rfl⟩
  | 20, _ => exact ⟨_, rfl⟩
  | 21, _ => exact ⟨_, rfl⟩
  | 22, _ => exact ⟨_, rfl⟩
  | 23, _ => exact ⟨_, rfl⟩
  | 24, _ => exact ⟨_, rfl⟩
  | 25, _ => exact ⟨_, rfl⟩
  | 26, _ => exact ⟨_, rfl⟩
  | 27, _ => exact ⟨_, rfl⟩
  | 28, _ => exact ⟨_, rfl⟩
  | 29, _ => exact ⟨_, rfl⟩
  | 30, _ => exact ⟨_, rfl⟩
  | 31, _ => exact ⟨_, rfl⟩
  | 32, _ => exact ⟨_, rfl⟩
  | 33, _ => exact ⟨_, rfl⟩
  | 34, _ => exact ⟨_, rfl⟩
  | 35, _ => exact ⟨_, rfl⟩
  | 36, _ => exact ⟨_, rfl⟩
  | 37, _ => exact ⟨_, rfl⟩
  | 38, _ => exact ⟨_, rfl⟩
  | 39, _ => exact ⟨_, rfl⟩
  | 40, _ => exact ⟨_, rfl⟩
  | n + 41, h => omega
theorem wC_in {ad : Nat → Nat} {cI : ClassId} {σ : SC} {k : Nat} {q : Nat × va_E} (h : (wC ad cI σ)[k]? = some q) : k < 41 ∧ q.1 = ad k := by
  have hk : k < 41 := (List.getElem?_eq_some_iff.mp h).1
  obtain ⟨e, he⟩ := wC_at (ad := ad) (cI := cI) (σ := σ) k hk
  rw [he] at h
  exact ⟨hk, by rw [← Option.some.inj h]⟩
theorem wR_at {ad : Nat → Nat} {cI cZ : ClassId} {τ : SR} (k : Nat) (h : k < 10) : ∃ e, (wR ad cI cZ τ)[k]? = some (ad k, e) := by
  match k, h with
  | 0, _ => exact ⟨_, rfl⟩
  | 1, _ => exact ⟨_, rfl⟩
  | 2, _ => exact ⟨_, rfl⟩
  | 3, _ => exact ⟨_, rfl⟩
  | 4, _ => exact ⟨_, rfl⟩
  | 5, _ => exact ⟨_, rfl⟩
  | 6, _ => exact ⟨_, rfl⟩
  | 7, _ => exact ⟨_, rfl⟩
  | 8, _ => exact ⟨_, rfl⟩
  | 9, _ => exact ⟨_, rfl⟩
  | n + 10, h => omega
theorem wR_in {ad : Nat → Nat} {cI cZ : ClassId} {τ : SR} {k : Nat} {q : Nat × va_E} (h : (wR ad cI cZ τ)[k]? = some q) : k < 10 ∧ q.1 = ad k := by
  have hk : k < 10 := (List.getElem?_eq_some_iff.mp h).1
  obtain ⟨e, he⟩ := wR_at (ad := ad) (cI := cI) (cZ := cZ) (τ := τ) k hk
  rw [he] at h
  exact ⟨hk, by rw [← Option.some.inj h]⟩
set_option maxHeartbeats 8000000 in
set_option maxRecDepth 100000 in
theorem whole_start {p : Program} {e : Env} {s : State} {m : MethodId} {below : List Frame} {meth : Method} {c : Code} (l : Launch) (hflags : l.flags = flags0) {b L : Nat} {xs : Nat → Int32} (hL : L ≤ 2560) (C0 : lw_At p s m meth c b L xs) : W p l e room_1 s m #[Value.ref b] below meth c s.heap [] 0 0 (lw_Z below #[Value.ref b] s) (entryFrame m ([Value.ref b] : List Value).toArray 4) := by
  obtain ⟨hx, hb, hr, hml, hown, hts0, hX, hbl, hlocks, hgv⟩ := id C0
  have hts : ∀ w ∈ wG, w.before #[Value.ref b] s = true := fun w hw => hts0 w (List.mem_filter.mp hw).1
  have hN : NW s := fun w hw => va_Nw.of (by
    have h2 := (List.mem_filter.mp hw).2
    cases w <;> first | rfl | (exact absurd h2 (by decide)) | (exact absurd h2 Bool.false_ne_true)) (hts0 w (List.mem_append_right _ (List.mem_filter.mp hw).1))
  obtain ⟨σ0, hren, hR0⟩ := s_start
  have hA : ∀ q : Nat, s.heap.size ≤ q → (fun q : Nat => s.heap.size ≤ q) q := fun _ h => h
  obtain ⟨c0, iS0, hKn0⟩ := u_known (C := RX0) (T := TX0) (N := 3) (n := 3) hts in_X0 (hts _ q607)
  obtain ⟨c1, iS1, hKn1⟩ := u_known (C := RX1) (T := TX1) (N := 4) (n := 4) hts in_X1 (hts _ q622)
  obtain ⟨c2, iS2, hKn2⟩ := u_known (C := RX2) (T := TX2) (N := 6) (n := 6) hts in_X2 (hts _ q627)
  obtain ⟨c3, iS3, hKn3⟩ := u_known (C := RX3) (T := TX3) (N := 3) (n := 3) hts in_X3 (hts _ q617)
  obtain ⟨c4, iS4, hKn4⟩ := u_known (C := RX4) (T := TX4) (N := 4) (n := 4) hts in_X4 (hts _ q632)
  obtain ⟨c5, iS5, hKn5⟩ := u_known (C := RX5) (T := TX5) (N := 1) (n := 1) hts in_X5 (hts _ q584)
  obtain ⟨c6, iS6, hKn6⟩ := u_known (C := RX6) (T := TX6) (N := 9) (n := 9) hts in_X6 (hts _ q612)
  obtain ⟨c7, iS7, hKn7⟩ := u_known (C := RX7) (T := TX7) (N := 6) (n := 6) hts in_X7 (hts _ q788)
  obtain ⟨c8, iS8, hKn8⟩ := u_known (C := RX8) (T := TX8) (N := 13) (n := 13) hts in_X8 (hts _ q789)
  obtain ⟨cI, hI1, hI2⟩ := arrs (hts _ q581)
  obtain ⟨cZ, hZ1, hZ2⟩ := arrs (hts _ q604)
  obtain ⟨dC, dI, hKc⟩ : ∃ (dC : Nat → ClassId) (dI : Nat → Nat → Nat), ∀ (k : Nat) (q : vw_C), vwCl[k]? = some q → u_Kn s q.1 q.2.1 q.2.2 (dC k) (dI k) := by
    refine ⟨fun k => match k with
      | 0 => c0
      | 1 => c1
      | 2 => c2
      | 3 => c3
      | 4 => c4
      | 5 => c5
      | 6 => c6
      | 7 => c7
      | _ => c8, fun k => match k with
      | 0 => iS0
      | 1 => iS1
      | 2 => iS2
      | 3 => iS3
      | 4 => iS4
      | 5 => iS5
      | 6 => iS6
      | 7 => iS7
      | _ => iS8, ?_⟩
    intro k q hq
    match k, hq with
    | 0, hq => cases hq; exact hKn0
    | 1, hq => cases hq; exact hKn1
    | 2, hq => cases hq; exact hKn2
    | 3, hq => cases hq; exact hKn3
    | 4, hq => cases hq; exact hKn4
    | 5, hq => cases hq; exact hKn5
    | 6, hq => cases hq; exact hKn6
    | 7, hq => cases hq; exact hKn7
    | 8, hq => cases hq; exact hKn8
    | k + 9, hq => simp [vwCl] at hq
  have hS : va_S (fun q : Nat => s.heap.size ≤ q) s.heap s.heap [] := va_S.rf
  have hK : va_K (dC, dI) vwCl (tyA cI cZ) s := by
    refine ⟨hKc, fun k q h => ?_⟩
    match k, h with
    | 0, h => cases h; exact ⟨hI1, hI2⟩
    | 1, h => cases h; exact ⟨hZ1, hZ2⟩
    | k + 2, h => simp [tyA] at h
  have hP : va_P (dC, dI) vwCl [] s.heap := fun k q h => by simp at h
  have hD : va_D (fun q : Nat => s.heap.size ≤ q) [] := ⟨fun i j p q h => by simp at h, fun k q h => by simp at h⟩
  have hl := lv_entry ([.ref b]) (n := 4) (Nat.le_of_ble_eq_true rfl)
  rw [lg_entry_eq]
  generalize (lg_sl ([.ref b]) ++ List.replicate (4 - (lg_sl ([.ref b])).length) Slot.unset).toArray = ls at hl ⊢
  have hl : lv_has ls 4 [(0, .ref b)] := hl
  have hownL : s.vm.findClass RL = some m.cls := hown
  refine va_new (ci := 7) (fs := [.null, .null, .null, .null, .null, .null]) (C := RX7) (T := TX7) (N := 6) hx hb hts in_X7 tyX7 tyX7_ok hownL (hts _ q790) (hts _ q788) (hts _ q59) hK hP hD hS hA rfl (fun j hj => by rcases (show j = 0 ∨ j = 1 ∨ j = 2 ∨ j = 3 ∨ j = 4 ∨ j = 5 by omega) with rfl | rfl | rfl | rfl | rfl | rfl <;> rfl) (Nat.le_of_ble_eq_true rfl) (Nat.le_of_ble_eq_true rfl) dL_law_0 (fun q0 H hP hD hS => ?_)
  have hP : va_P (dC, dI) vwCl [(q0, .inr (7, [.null, .null, .null, .null, .null, .null]))] H := hP
  have hD : va_D (fun q : Nat => s.heap.size ≤ q) [(q0, .inr (7, [.null, .null, .null, .null, .null, .null]))] := hD
  refine W.widen (k := 1) (n := 6) (by omega) (by omega) ?_
  refine lv_dup hx hb dL_law_3 rfl ?_
  have hFc := va_free (wc := [(q0, .inr (7, [.null, .null, .null, .null, .null, .null]))]) hD hS hA [0] rfl
  refine va_callv (va_runI (As := []) (rest := [.ref q0]) (Ts := wG) ⟨hx, hb, hml, hownL, hts⟩ (c_X7_init (l := l) (D := (dC, dI)) (cI := cI) (cZ := cZ) σ0 hren q0 H.size) (cwI 0 hts (wG_gc vi_X7_init.2.2.1 wG_gd) rfl rfl rfl (hts _ vi_X7_init.2.1) (hts _ q792) (hts _ vi_X7_init.1) rfl vi_X7_init.2.2.2.2 ⟨Nat.le_of_ble_eq_true rfl, Nat.le_of_ble_eq_true rfl⟩) ⟨PreC.blind, fun U hU hW => ⟨rfl, by rw [hU], by rw [hU]; exact hP, va_K.moved hW.alike hK, hD.weaken (fun _ _ _ _ => trivial), NW.warm hW hN⟩⟩ rfl rfl hl.1 rfl (lv_room (Nat.le_of_ble_eq_true rfl)) dL_law_4 ⟨Nat.le_of_ble_eq_true rfl, Nat.le_of_ble_eq_true rfl⟩) hS (fun q _ h => hFc q h) hFc (fun ad t H1 locs1 ht hvm hp hB hz1 hk1 hS => ?_)
  obtain ⟨hP1, hD1⟩ := hB
  rw [ht] at hP1
  have hp : ad 34 = q0 := hp
  subst hp
  have hP : va_P (dC, dI) vwCl (wC ad cI σ0) H1 := hP1
  have hD : va_D (fun q : Nat => s.heap.size ≤ q) (wC ad cI σ0) := hD1.weaken (fun k q _ h => hFc q.1 h)
  refine W.widen (k := 41) (n := 789) (Nat.le_of_ble_eq_true rfl) (Nat.le_of_ble_eq_true rfl) ?_
  refine lv_astore_n (lv' := [(1, .ref (ad 34)), (0, .ref b)]) hx hb dL_law_7 rfl hl (by decide) rfl (fun ls hl => ?_)
  refine va_new (ci := 8) (fs := [.null, .int 0, .int 0, .null, .null, .null, .int 0, .null, .null, .null, .long 0, .null, .null]) (C := RX8) (T := TX8) (N := 13) hx hb hts in_X8 tyX8 tyX8_ok hownL (hts _ q791) (hts _ q789) (hts _ q423) hK hP hD hS hA rfl (fun j hj => by rcases (show j = 0 ∨ j = 1 ∨ j = 2 ∨ j = 3 ∨ j = 4 ∨ j = 5 ∨ j = 6 ∨ j = 7 ∨ j = 8 ∨ j = 9 ∨ j = 10 ∨ j = 11 ∨ j = 12 by omega) with rfl | rfl | rfl | rfl | rfl | rfl | rfl | rfl | rfl | rfl | rfl | rfl | rfl <;> rfl) (Nat.le_of_ble_eq_true rfl) (Nat.le_of_ble_eq_true rfl) dL_law_8 (fun q1 H2 hP hD hS => ?_)
  refine W.widen (k := 42) (n := 802) (Nat.le_of_ble_eq_true rfl) (Nat.le_of_ble_eq_true rfl) ?_
  refine lv_dup hx hb dL_law_11 rfl ?_
  have hFc8 := va_free (wc := [(q1, .inr (8, [.null, .int 0, .int 0, .null, .null, .null, .int 0, .null, .null, .null, .long 0, .null, .null]))]) hD hS hA [41] rfl
  have hPc8 := hP.sub (ws' := [(q1, .inr (8, [.null, .int 0, .int 0, .null, .null, .null, .int 0, .null, .null, .null, .long 0, .null, .null]))]) [41] rfl
  have hDc8 := hD.sub (ws' := [(q1, .inr (8, [.null, .int 0, .int 0, .null, .null, .null, .int 0, .null, .null, .null, .long 0, .null, .null]))]) [41] (by decide) rfl
  refine va_callv (va_runI (As := []) (rest := [.ref q1]) (Ts := wG) ⟨hx, hb, hml, hownL, hts⟩ (c_X8_init (l := l) (D := (dC, dI)) (cI := cI) (cZ := cZ) q1 H2.size) (cwI 0 hts (wG_gc vi_X8_init.2.2.1 wG_gd) rfl rfl rfl (hts _ vi_X8_init.2.1) (hts _ q793) (hts _ vi_X8_init.1) rfl vi_X8_init.2.2.2.2 ⟨Nat.le_of_ble_eq_true rfl, Nat.le_of_ble_eq_true rfl⟩) ⟨PreC.blind, fun U hU hW => ⟨rfl, by rw [hU], by rw [hU]; exact hPc8, va_K.moved hW.alike hK, hDc8.weaken (fun _ _ _ _ => trivial), NW.warm hW hN⟩⟩ rfl rfl hl.1 rfl (lv_room (Nat.le_of_ble_eq_true rfl)) dL_law_12 ⟨Nat.le_of_ble_eq_true rfl, Nat.le_of_ble_eq_true rfl⟩) hS (fun q _ h => hFc8 q h) hFc8 (fun u8 t2 H3 locs3 ht2 hvm2 hp2 hB2 hz2 hk2 hS => ?_)
  obtain ⟨hP3, hD3⟩ := hB2
  rw [ht2] at hP3
  obtain ⟨hP4, hD4⟩ := va_join (wr := wC ad cI σ0) (w1 := [(q1, .inr (8, [.ref (u8 0), .int 0, .int 0, .ref (u8 1), .ref (u8 2), .ref (u8 3), .int 0, .ref (u8 4), .ref (u8 5), .ref (u8 6), .long 0, .ref (u8 7), .ref (u8 8)])), ((u8 0), .inl (cI, 33, .inl (fun _ => (0 : Int32)))), ((u8 1), .inl (cI, 330, .inl (fun _ => (0 : Int32)))), ((u8 2), .inl (cZ, 2, .inl (fun _ => (0 : Int32)))), ((u8 3), .inl (cI, 66, .inl (fun _ => (0 : Int32)))), ((u8 4), .inl (cI, 8, .inl (fun _ => (0 : Int32)))), ((u8 5), .inl (cI, 8, .inl (fun _ => (0 : Int32)))), ((u8 6), .inl (cI, 8, .inl (fun _ => (0 : Int32)))), ((u8 7), .inl (cI, 8, .inl (fun _ => (0 : Int32)))), ((u8 8), .inl (cI, 8, .inl (fun _ => (0 : Int32))))]) hP hD [41] (List.range 41) rfl rfl (by decide) (by decide) hk2 hFc8 hP3 hD3
  obtain ⟨ad2, had2⟩ : ∃ ad2 : Nat → Nat, ad2 = (fun k => match k with | 0 => q1 | k + 1 => u8 k) := ⟨_, rfl⟩
  have e0 : ad2 0 = q1 := by rw [had2]
  have hw8 : [(q1, .inr (8, [.ref (u8 0), .int 0, .int 0, .ref (u8 1), .ref (u8 2), .ref (u8 3), .int 0, .ref (u8 4), .ref (u8 5), .ref (u8 6), .long 0, .ref (u8 7), .ref (u8 8)])), ((u8 0), .inl (cI, 33, .inl (fun _ => (0 : Int32)))), ((u8 1), .inl (cI, 330, .inl (fun _ => (0 : Int32)))), ((u8 2), .inl (cZ, 2, .inl (fun _ => (0 : Int32)))), ((u8 3), .inl (cI, 66, .inl (fun _ => (0 : Int32)))), ((u8 4), .inl (cI, 8, .inl (fun _ => (0 : Int32)))), ((u8 5), .inl (cI, 8, .inl (fun _ => (0 : Int32)))), ((u8 6), .inl (cI, 8, .inl (fun _ => (0 : Int32)))), ((u8 7), .inl (cI, 8, .inl (fun _ => (0 : Int32)))), ((u8 8), .inl (cI, 8, .inl (fun _ => (0 : Int32))))] = wR ad2 cI cZ ((fun _ _ => 0), 0) := by rw [had2]; rfl
  rw [hw8] at hP4 hD4
  have hPC : va_P (dC, dI) vwCl (wC ad cI σ0) H3 := hP4.sub (List.range 41) rfl
  have hPR : va_P (dC, dI) vwCl (wR ad2 cI cZ ((fun _ _ => 0), 0)) H3 := hP4.sub [41, 42, 43, 44, 45, 46, 47, 48, 49, 50] rfl
  have hDC := hD4.sub (ws' := wC ad cI σ0) (List.range 41) (by decide) rfl
  have hDR := hD4.sub (ws' := wR ad2 cI cZ ((fun _ _ => 0), 0)) [41, 42, 43, 44, 45, 46, 47, 48, 49, 50] (by decide) rfl
  have hdis : ∀ q, AC ad q → ¬ AR ad2 q := by
    rintro q ⟨k, hk, rfl⟩ ⟨j, hj, hq⟩
    obtain ⟨x1, g1⟩ := wC_at (ad := ad) (cI := cI) (σ := σ0) k hk
    obtain ⟨x2, g2⟩ := wR_at (ad := ad2) (cI := cI) (cZ := cZ) (τ := ((fun _ _ => 0), 0)) j hj
    have g3 : (wC ad cI σ0 ++ wR ad2 cI cZ ((fun _ _ => 0), 0))[k]? = some (ad k, x1) := by rw [List.getElem?_append_left (show k < (wC ad cI σ0).length from hk)]; exact g1
    have g4 : (wC ad cI σ0 ++ wR ad2 cI cZ ((fun _ _ => 0), 0))[41 + j]? = some (ad2 j, x2) := by rw [List.getElem?_append_right (show (wC ad cI σ0).length ≤ 41 + j from Nat.le_add_right 41 j)]; rw [show 41 + j - (wC ad cI σ0).length = j from Nat.add_sub_cancel_left 41 j]; exact g2
    have := hD4.1 k (41 + j) _ _ g3 g4 hq
    omega
  have C1 : CL (dC, dI) cI cZ ad ad2 p s m b L xs meth c := by
    refine ⟨hx, hb, hml, hownL, hts, hr, hlocks, hN, hK, hX, hbl, fun σ => ?_, fun τ => ?_, hdis, ?_, ?_⟩
    · exact D_map (w1 := wC ad cI σ0) rfl ⟨hDC.1, fun k q h => ⟨k, (wC_in h).1, (wC_in h).2⟩⟩
    · exact D_map (w1 := wR ad2 cI cZ ((fun _ _ => 0), 0)) rfl ⟨hDR.1, fun k q h => ⟨k, (wR_in h).1, (wR_in h).2⟩⟩
    · rintro q ⟨k, hk, rfl⟩
      obtain ⟨x1, g1⟩ := wC_at (ad := ad) (cI := cI) (σ := σ0) k hk
      exact hDC.2 k _ g1
    · rintro q ⟨k, hk, rfl⟩
      obtain ⟨x1, g1⟩ := wR_at (ad := ad2) (cI := cI) (cZ := cZ) (τ := ((fun _ _ => 0), 0)) k hk
      exact hDR.2 k _ g1
  rw [← e0]
  refine W.widen (k := 51) (n := 1273) (Nat.le_of_ble_eq_true rfl) (Nat.le_of_ble_eq_true rfl) ?_
  refine lv_astore_n (lv' := [(2, .ref (ad2 0)), (1, .ref (ad 34)), (0, .ref b)]) hx hb dL_law_15 rfl hl (by decide) rfl (fun ls hl => ?_)
  refine lv_iconst (v := 0) hx hb dL_law_16 (by decide) ?_
  refine lv_istore_n (lv' := [(3, .int 0), (2, .ref (ad2 0)), (1, .ref (ad 34)), (0, .ref b)]) hx hb dL_law_17 rfl hl (by decide) rfl (fun ls hl => ?_)
  exact law_loop hL C1 (L + 6) 0 σ0 ((fun _ _ => 0), 0) (by omega) (by omega) hR0 H3 _ ls (lv_sub hl [3, 2, 1, 0] rfl) hPC hPR hS
