theorem lw_more {L i : Nat} (hL : L ≤ 2560) (hi : i ≤ 3000) (h : ¬ nI L - 5 < nI i) : i + 5 ≤ L := by
  have h1 : ¬ (nI L - nI 5).toInt < (nI i).toInt := fun g => h (Int32.lt_iff_toInt_lt.mpr g)
  rw [pk_sub_toInt (by omega) (by omega), nI_toInt (by omega)] at h1
  omega
set_option maxRecDepth 100000 in
set_option maxHeartbeats 8000000 in
theorem law_loop {p : Program} {l : Launch} {e : Env} {s : State} {m : MethodId} {b L : Nat} {xs : Nat → Int32} {below : List Frame} {meth : Method} {c : Code} {D : va_G} {cI cZ : ClassId} {ad ad2 : Nat → Nat} (hL : L ≤ 2560) (C0 : CL D cI cZ ad ad2 p s m b L xs meth c) : ∀ (n i : Nat) (σ : SC) (τ : SR), i ≤ L + 5 → L + 6 ≤ i + n → Rel σ τ → JL p l e s m b below meth c D cI cZ ad ad2 σ τ [(0, .ref b), (1, .ref (ad 34)), (2, .ref (ad2 0)), (3, .int (nI i))] [] 18 := by
  intro n
  induction n with
  | zero => intro i σ τ h1 h2; omega
  | succ n ih =>
    intro i σ τ hi hn hR
    refine JL_iload_n (pc := 18) C0 3 dL_law_18 rfl rfl ?_
    refine JL_aload_n (pc := 19) C0 0 dL_law_19 rfl rfl ?_
    refine JL_slen (pc := 20) C0 dL_law_20 ?_
    refine JL_iconst (pc := 21) (v := 5) C0 dL_law_21 (by decide) ?_
    refine JL_isub (pc := 22) C0 dL_law_22 ?_
    refine JL_icmp_gt (pc := 23) (tgt := 637) C0 dL_law_23 (by decide) (fun hgt => ?_) (fun hgt => ?_)
    · refine JL_iconst (pc := 637) (v := 1) C0 dL_law_637 (by decide) ?_
      exact JL_ret (pc := 638) C0 dL_law_638
    · have hmore := lw_more hL (by omega) hgt
      have hv0 : vp_in (nI i) L := vp_in_nI (by omega) (by omega)
      have hv1 : vp_in (nI i + 1) L := by rw [nI_1]; exact vp_in_nI (by omega) (by omega)
      have hv2 : vp_in (nI i + 2) L := by rw [show (2 : Int32) = nI 2 from rfl, nI_add]; exact vp_in_nI (by omega) (by omega)
      have hv3 : vp_in (nI i + 3) L := by rw [show (3 : Int32) = nI 3 from rfl, nI_add]; exact vp_in_nI (by omega) (by omega)
      have hv4 : vp_in (nI i + 4) L := by rw [show (4 : Int32) = nI 4 from rfl, nI_add]; exact vp_in_nI (by omega) (by omega)
      have hback : ∀ σ1 τ1, Rel σ1 τ1 → JL p l e s m b below meth c D cI cZ ad ad2 σ1 τ1 [(0, .ref b), (1, .ref (ad 34)), (2, .ref (ad2 0)), (3, .int (nI i))] [] 631 := by
        intro σ1 τ1 hR1
        refine JL_iinc (pc := 631) (d := 5) (lv' := [(3, .int (nI i + 5)), (0, .ref b), (1, .ref (ad 34)), (2, .ref (ad2 0))]) C0 3 dL_law_631 rfl (by decide) (by decide) rfl ?_
        refine JL_goto (pc := 634) (tgt := 18) C0 dL_law_634 (by decide) ?_
        have e5 : nI i + 5 = nI (i + 5) := by rw [show (5 : Int32) = nI 5 from rfl, nI_add]
        rw [e5]
        refine JL_sub (lv' := [(0, .ref b), (1, .ref (ad 34)), (2, .ref (ad2 0)), (3, .int (nI (i + 5)))]) [1, 2, 3, 0] rfl ?_
        exact ih (i + 5) σ1 τ1 (by omega) (by omega) hR1
      refine JL_aload_n (pc := 26) C0 0 dL_law_26 rfl rfl ?_
      refine JL_iload_n (pc := 27) C0 3 dL_law_27 rfl rfl ?_
      refine JL_sld (pc := 28) C0 dL_law_28 hv0 ?_
      refine JL_bipush (pc := 29) (v := 31) C0 dL_law_29 (by decide) ?_
      refine JL_iand (pc := 31) C0 dL_law_31 ?_
      by_cases h_0 : xs (ix (nI i)) &&& 31 = 0
      · refine JL_tblIn (pc := 32) (tgt := 124) C0 dL_law_32 h_0 (by decide) (by decide) rfl (by decide) ?_
        obtain ⟨r, σ1, τ1, e1, e2, hR1⟩ := s_block hR (xs (ix (nI i + 1)))
        refine JL_aload_n (pc := 124) C0 1 dL_law_124 rfl rfl ?_
        refine JL_aload_n (pc := 125) C0 0 dL_law_125 rfl rfl ?_
        refine JL_iload_n (pc := 126) C0 3 dL_law_126 rfl rfl ?_
        refine JL_iconst (pc := 127) (v := 1) C0 dL_law_127 (by decide) ?_
        refine JL_iadd (pc := 128) C0 dL_law_128 ?_
        refine JL_sld (pc := 129) C0 dL_law_129 hv1 ?_
        refine JL_callC (pc := 130) (q0 := 34) (As := [.int (xs (ix (nI i + 1)))]) (rest := []) C0 (c_X7_block _ (xs (ix (nI i + 1))) _ e1) v_X7_block q636 wC_o34 rfl rfl ⟨rfl, rfl⟩ ⟨Nat.le_of_ble_eq_true rfl, Nat.le_of_ble_eq_true rfl⟩ rfl (Nat.le_of_ble_eq_true rfl) dL_law_130 ?_
        refine JL_aload_n (pc := 133) C0 2 dL_law_133 rfl rfl ?_
        refine JL_aload_n (pc := 134) C0 0 dL_law_134 rfl rfl ?_
        refine JL_iload_n (pc := 135) C0 3 dL_law_135 rfl rfl ?_
        refine JL_iconst (pc := 136) (v := 1) C0 dL_law_136 (by decide) ?_
        refine JL_iadd (pc := 137) C0 dL_law_137 ?_
        refine JL_sld (pc := 138) C0 dL_law_138 hv1 ?_
        refine JL_callR (pc := 139) (q0 := 0) (As := [.int (xs (ix (nI i + 1)))]) (rest := [.int r]) C0 (c_X8_block _ (xs (ix (nI i + 1))) _ e2) v_X8_block q640 wR_o rfl rfl ⟨rfl, rfl⟩ ⟨Nat.le_of_ble_eq_true rfl, Nat.le_of_ble_eq_true rfl⟩ rfl (Nat.le_of_ble_eq_true rfl) dL_law_139 ?_
        refine JL_same (pc := 142) (tgt := 631) C0 dL_law_142 (by decide) ?_
        exact hback σ1 τ1 hR1
      by_cases h_1 : xs (ix (nI i)) &&& 31 = 1
      · refine JL_tblIn (pc := 32) (tgt := 147) C0 dL_law_32 h_1 (by decide) (by decide) rfl (by decide) ?_
        obtain ⟨r, σ1, τ1, e1, e2, hR1⟩ := s_open hR (xs (ix (nI i + 1)))
        refine JL_aload_n (pc := 147) C0 1 dL_law_147 rfl rfl ?_
        refine JL_aload_n (pc := 148) C0 0 dL_law_148 rfl rfl ?_
        refine JL_iload_n (pc := 149) C0 3 dL_law_149 rfl rfl ?_
        refine JL_iconst (pc := 150) (v := 1) C0 dL_law_150 (by decide) ?_
        refine JL_iadd (pc := 151) C0 dL_law_151 ?_
        refine JL_sld (pc := 152) C0 dL_law_152 hv1 ?_
        refine JL_callC (pc := 153) (q0 := 34) (As := [.int (xs (ix (nI i + 1)))]) (rest := []) C0 (c_X7_open _ (xs (ix (nI i + 1))) _ e1) v_X7_open q644 wC_o34 rfl rfl ⟨rfl, rfl⟩ ⟨Nat.le_of_ble_eq_true rfl, Nat.le_of_ble_eq_true rfl⟩ rfl (Nat.le_of_ble_eq_true rfl) dL_law_153 ?_
        refine JL_aload_n (pc := 156) C0 2 dL_law_156 rfl rfl ?_
        refine JL_aload_n (pc := 157) C0 0 dL_law_157 rfl rfl ?_
        refine JL_iload_n (pc := 158) C0 3 dL_law_158 rfl rfl ?_
        refine JL_iconst (pc := 159) (v := 1) C0 dL_law_159 (by decide) ?_
        refine JL_iadd (pc := 160) C0 dL_law_160 ?_
        refine JL_sld (pc := 161) C0 dL_law_161 hv1 ?_
        refine JL_callR (pc := 162) (q0 := 0) (As := [.int (xs (ix (nI i + 1)))]) (rest := [.int r]) C0 (c_X8_open _ (xs (ix (nI i + 1))) _ e2) v_X8_open q648 wR_o rfl rfl ⟨rfl, rfl⟩ ⟨Nat.le_of_ble_eq_true rfl, Nat.le_of_ble_eq_true rfl⟩ rfl (Nat.le_of_ble_eq_true rfl) dL_law_162 ?_
        refine JL_same (pc := 165) (tgt := 631) C0 dL_law_165 (by decide) ?_
        exact hback σ1 τ1 hR1
      by_cases h_2 : xs (ix (nI i)) &&& 31 = 2
      · refine JL_tblIn (pc := 32) (tgt := 170) C0 dL_law_32 h_2 (by decide) (by decide) rfl (by decide) ?_
        obtain ⟨r, σ1, τ1, e1, e2, hR1⟩ := s_letter hR (xs (ix (nI i + 1))) (xs (ix (nI i + 2)))
        refine JL_aload_n (pc := 170) C0 1 dL_law_170 rfl rfl ?_
        refine JL_aload_n (pc := 171) C0 0 dL_law_171 rfl rfl ?_
        refine JL_iload_n (pc := 172) C0 3 dL_law_172 rfl rfl ?_
        refine JL_iconst (pc := 173) (v := 1) C0 dL_law_173 (by decide) ?_
        refine JL_iadd (pc := 174) C0 dL_law_174 ?_
        refine JL_sld (pc := 175) C0 dL_law_175 hv1 ?_
        refine JL_aload_n (pc := 176) C0 0 dL_law_176 rfl rfl ?_
        refine JL_iload_n (pc := 177) C0 3 dL_law_177 rfl rfl ?_
        refine JL_iconst (pc := 178) (v := 2) C0 dL_law_178 (by decide) ?_
        refine JL_iadd (pc := 179) C0 dL_law_179 ?_
        refine JL_sld (pc := 180) C0 dL_law_180 hv2 ?_
        refine JL_callC (pc := 181) (q0 := 34) (As := [.int (xs (ix (nI i + 1))), .int (xs (ix (nI i + 2)))]) (rest := []) C0 (c_X7_letter _ (xs (ix (nI i + 1))) (xs (ix (nI i + 2))) _ e1) v_X7_letter q652 wC_o34 rfl rfl ⟨rfl, rfl⟩ ⟨Nat.le_of_ble_eq_true rfl, Nat.le_of_ble_eq_true rfl⟩ rfl (Nat.le_of_ble_eq_true rfl) dL_law_181 ?_
        refine JL_aload_n (pc := 184) C0 2 dL_law_184 rfl rfl ?_
        refine JL_aload_n (pc := 185) C0 0 dL_law_185 rfl rfl ?_
        refine JL_iload_n (pc := 186) C0 3 dL_law_186 rfl rfl ?_
        refine JL_iconst (pc := 187) (v := 1) C0 dL_law_187 (by decide) ?_
        refine JL_iadd (pc := 188) C0 dL_law_188 ?_
        refine JL_sld (pc := 189) C0 dL_law_189 hv1 ?_
        refine JL_aload_n (pc := 190) C0 0 dL_law_190 rfl rfl ?_
        refine JL_iload_n (pc := 191) C0 3 dL_law_191 rfl rfl ?_
        refine JL_iconst (pc := 192) (v := 2) C0 dL_law_192 (by decide) ?_
        refine JL_iadd (pc := 193) C0 dL_law_193 ?_
        refine JL_sld (pc := 194) C0 dL_law_194 hv2 ?_
        refine JL_callR (pc := 195) (q0 := 0) (As := [.int (xs (ix (nI i + 1))), .int (xs (ix (nI i + 2)))]) (rest := [.int r]) C0 (c_X8_letter _ (xs (ix (nI i + 1))) (xs (ix (nI i + 2))) _ e2) v_X8_letter q656 wR_o rfl rfl ⟨rfl, rfl⟩ ⟨Nat.le_of_ble_eq_true rfl, Nat.le_of_ble_eq_true rfl⟩ rfl (Nat.le_of_ble_eq_true rfl) dL_law_195 ?_
        refine JL_same (pc := 198) (tgt := 631) C0 dL_law_198 (by decide) ?_
        exact hback σ1 τ1 hR1
      by_cases h_3 : xs (ix (nI i)) &&& 31 = 3
      · refine JL_tblIn (pc := 32) (tgt := 203) C0 dL_law_32 h_3 (by decide) (by decide) rfl (by decide) ?_
        obtain ⟨r, σ1, τ1, e1, e2, hR1⟩ := s_put hR (xs (ix (nI i + 1))) (xs (ix (nI i + 2)))
        refine JL_aload_n (pc := 203) C0 1 dL_law_203 rfl rfl ?_
        refine JL_aload_n (pc := 204) C0 0 dL_law_204 rfl rfl ?_
        refine JL_iload_n (pc := 205) C0 3 dL_law_205 rfl rfl ?_
        refine JL_iconst (pc := 206) (v := 1) C0 dL_law_206 (by decide) ?_
        refine JL_iadd (pc := 207) C0 dL_law_207 ?_
        refine JL_sld (pc := 208) C0 dL_law_208 hv1 ?_
        refine JL_aload_n (pc := 209) C0 0 dL_law_209 rfl rfl ?_
        refine JL_iload_n (pc := 210) C0 3 dL_law_210 rfl rfl ?_
        refine JL_iconst (pc := 211) (v := 2) C0 dL_law_211 (by decide) ?_
        refine JL_iadd (pc := 212) C0 dL_law_212 ?_
        refine JL_sld (pc := 213) C0 dL_law_213 hv2 ?_
        refine JL_callC (pc := 214) (q0 := 34) (As := [.int (xs (ix (nI i + 1))), .int (xs (ix (nI i + 2)))]) (rest := []) C0 (c_X7_put _ (xs (ix (nI i + 1))) (xs (ix (nI i + 2))) _ e1) v_X7_put q660 wC_o34 rfl rfl ⟨rfl, rfl⟩ ⟨Nat.le_of_ble_eq_true rfl, Nat.le_of_ble_eq_true rfl⟩ rfl (Nat.le_of_ble_eq_true rfl) dL_law_214 ?_
        refine JL_aload_n (pc := 217) C0 2 dL_law_217 rfl rfl ?_
        refine JL_aload_n (pc := 218) C0 0 dL_law_218 rfl rfl ?_
        refine JL_iload_n (pc := 219) C0 3 dL_law_219 rfl rfl ?_
        refine JL_iconst (pc := 220) (v := 1) C0 dL_law_220 (by decide) ?_
        refine JL_iadd (pc := 221) C0 dL_law_221 ?_
        refine JL_sld (pc := 222) C0 dL_law_222 hv1 ?_
        refine JL_aload_n (pc := 223) C0 0 dL_law_223 rfl rfl ?_
        refine JL_iload_n (pc := 224) C0 3 dL_law_224 rfl rfl ?_
        refine JL_iconst (pc := 225) (v := 2) C0 dL_law_225 (by decide) ?_
        refine JL_iadd (pc := 226) C0 dL_law_226 ?_
        refine JL_sld (pc := 227) C0 dL_law_227 hv2 ?_
        refine JL_callR (pc := 228) (q0 := 0) (As := [.int (xs (ix (nI i + 1))), .int (xs (ix (nI i + 2)))]) (rest := [.int r]) C0 (c_X8_put _ (xs (ix (nI i + 1))) (xs (ix (nI i + 2))) _ e2) v_X8_put q664 wR_o rfl rfl ⟨rfl, rfl⟩ ⟨Nat.le_of_ble_eq_true rfl, Nat.le_of_ble_eq_true rfl⟩ rfl (Nat.le_of_ble_eq_true rfl) dL_law_228 ?_
        refine JL_same (pc := 231) (tgt := 631) C0 dL_law_231 (by decide) ?_
        exact hback σ1 τ1 hR1
      by_cases h_4 : xs (ix (nI i)) &&& 31 = 4
      · refine JL_tblIn (pc := 32) (tgt := 236) C0 dL_law_32 h_4 (by decide) (by decide) rfl (by decide) ?_
        obtain ⟨r, σ1, τ1, e1, e2, hR1⟩ := s_wipe hR
        refine JL_aload_n (pc := 236) C0 1 dL_law_236 rfl rfl ?_
        refine JL_callC (pc := 237) (q0 := 34) (As := []) (rest := []) C0 (c_X7_wipe _  _ e1) v_X7_wipe q668 wC_o34 rfl rfl ⟨rfl, rfl⟩ ⟨Nat.le_of_ble_eq_true rfl, Nat.le_of_ble_eq_true rfl⟩ rfl (Nat.le_of_ble_eq_true rfl) dL_law_237 ?_
        refine JL_aload_n (pc := 240) C0 2 dL_law_240 rfl rfl ?_
        refine JL_callR (pc := 241) (q0 := 0) (As := []) (rest := [.int r]) C0 (c_X8_wipe _  _ e2) v_X8_wipe q672 wR_o rfl rfl ⟨rfl, rfl⟩ ⟨Nat.le_of_ble_eq_true rfl, Nat.le_of_ble_eq_true rfl⟩ rfl (Nat.le_of_ble_eq_true rfl) dL_law_241 ?_
        refine JL_same (pc := 244) (tgt := 631) C0 dL_law_244 (by decide) ?_
        exact hback σ1 τ1 hR1
      by_cases h_5 : xs (ix (nI i)) &&& 31 = 5
      · refine JL_tblIn (pc := 32) (tgt := 249) C0 dL_law_32 h_5 (by decide) (by decide) rfl (by decide) ?_
        obtain ⟨r, σ1, τ1, e1, e2, hR1⟩ := s_turn hR
        refine JL_aload_n (pc := 249) C0 1 dL_law_249 rfl rfl ?_
        refine JL_callC (pc := 250) (q0 := 34) (As := []) (rest := []) C0 (c_X7_turn _  _ e1) v_X7_turn q676 wC_o34 rfl rfl ⟨rfl, rfl⟩ ⟨Nat.le_of_ble_eq_true rfl, Nat.le_of_ble_eq_true rfl⟩ rfl (Nat.le_of_ble_eq_true rfl) dL_law_250 ?_
        refine JL_aload_n (pc := 253) C0 2 dL_law_253 rfl rfl ?_
        refine JL_callR (pc := 254) (q0 := 0) (As := []) (rest := [.int r]) C0 (c_X8_turn _  _ e2) v_X8_turn q680 wR_o rfl rfl ⟨rfl, rfl⟩ ⟨Nat.le_of_ble_eq_true rfl, Nat.le_of_ble_eq_true rfl⟩ rfl (Nat.le_of_ble_eq_true rfl) dL_law_254 ?_
        refine JL_same (pc := 257) (tgt := 631) C0 dL_law_257 (by decide) ?_
        exact hback σ1 τ1 hR1
      by_cases h_6 : xs (ix (nI i)) &&& 31 = 6
      · refine JL_tblIn (pc := 32) (tgt := 262) C0 dL_law_32 h_6 (by decide) (by decide) rfl (by decide) ?_
        obtain ⟨r, σ1, τ1, e1, e2, hR1⟩ := s_add hR (xs (ix (nI i + 1)))
        refine JL_aload_n (pc := 262) C0 1 dL_law_262 rfl rfl ?_
        refine JL_aload_n (pc := 263) C0 0 dL_law_263 rfl rfl ?_
        refine JL_iload_n (pc := 264) C0 3 dL_law_264 rfl rfl ?_
        refine JL_iconst (pc := 265) (v := 1) C0 dL_law_265 (by decide) ?_
        refine JL_iadd (pc := 266) C0 dL_law_266 ?_
        refine JL_sld (pc := 267) C0 dL_law_267 hv1 ?_
        refine JL_callC (pc := 268) (q0 := 34) (As := [.int (xs (ix (nI i + 1)))]) (rest := []) C0 (c_X7_add _ (xs (ix (nI i + 1))) _ e1) v_X7_add q684 wC_o34 rfl rfl ⟨rfl, rfl⟩ ⟨Nat.le_of_ble_eq_true rfl, Nat.le_of_ble_eq_true rfl⟩ rfl (Nat.le_of_ble_eq_true rfl) dL_law_268 ?_
        refine JL_aload_n (pc := 271) C0 2 dL_law_271 rfl rfl ?_
        refine JL_aload_n (pc := 272) C0 0 dL_law_272 rfl rfl ?_
        refine JL_iload_n (pc := 273) C0 3 dL_law_273 rfl rfl ?_
        refine JL_iconst (pc := 274) (v := 1) C0 dL_law_274 (by decide) ?_
        refine JL_iadd (pc := 275) C0 dL_law_275 ?_
        refine JL_sld (pc := 276) C0 dL_law_276 hv1 ?_
        refine JL_callR (pc := 277) (q0 := 0) (As := [.int (xs (ix (nI i + 1)))]) (rest := [.int r]) C0 (c_X8_add _ (xs (ix (nI i + 1))) _ e2) v_X8_add q688 wR_o rfl rfl ⟨rfl, rfl⟩ ⟨Nat.le_of_ble_eq_true rfl, Nat.le_of_ble_eq_true rfl⟩ rfl (Nat.le_of_ble_eq_true rfl) dL_law_277 ?_
        refine JL_same (pc := 280) (tgt := 631) C0 dL_law_280 (by decide) ?_
        exact hback σ1 τ1 hR1
      by_cases h_7 : xs (ix (nI i)) &&& 31 = 7
      · refine JL_tblIn (pc := 32) (tgt := 285) C0 dL_law_32 h_7 (by decide) (by decide) rfl (by decide) ?_
        obtain ⟨r, σ1, τ1, e1, e2, hR1⟩ := s_strike hR (xs (ix (nI i + 1)))
        refine JL_aload_n (pc := 285) C0 1 dL_law_285 rfl rfl ?_
        refine JL_aload_n (pc := 286) C0 0 dL_law_286 rfl rfl ?_
        refine JL_iload_n (pc := 287) C0 3 dL_law_287 rfl rfl ?_
        refine JL_iconst (pc := 288) (v := 1) C0 dL_law_288 (by decide) ?_
        refine JL_iadd (pc := 289) C0 dL_law_289 ?_
        refine JL_sld (pc := 290) C0 dL_law_290 hv1 ?_
        refine JL_callC (pc := 291) (q0 := 34) (As := [.int (xs (ix (nI i + 1)))]) (rest := []) C0 (c_X7_strike _ (xs (ix (nI i + 1))) _ e1) v_X7_strike q692 wC_o34 rfl rfl ⟨rfl, rfl⟩ ⟨Nat.le_of_ble_eq_true rfl, Nat.le_of_ble_eq_true rfl⟩ rfl (Nat.le_of_ble_eq_true rfl) dL_law_291 ?_
        refine JL_aload_n (pc := 294) C0 2 dL_law_294 rfl rfl ?_
        refine JL_aload_n (pc := 295) C0 0 dL_law_295 rfl rfl ?_
        refine JL_iload_n (pc := 296) C0 3 dL_law_296 rfl rfl ?_
        refine JL_iconst (pc := 297) (v := 1) C0 dL_law_297 (by decide) ?_
        refine JL_iadd (pc := 298) C0 dL_law_298 ?_
        refine JL_sld (pc := 299) C0 dL_law_299 hv1 ?_
        refine JL_callR (pc := 300) (q0 := 0) (As := [.int (xs (ix (nI i + 1)))]) (rest := [.int r]) C0 (c_X8_strike _ (xs (ix (nI i + 1))) _ e2) v_X8_strike q696 wR_o rfl rfl ⟨rfl, rfl⟩ ⟨Nat.le_of_ble_eq_true rfl, Nat.le_of_ble_eq_true rfl⟩ rfl (Nat.le_of_ble_eq_true rfl) dL_law_300 ?_
        refine JL_same (pc := 303) (tgt := 631) C0 dL_law_303 (by decide) ?_
        exact hback σ1 τ1 hR1
      by_cases h_8 : xs (ix (nI i)) &&& 31 = 8
      · refine JL_tblIn (pc := 32) (tgt := 308) C0 dL_law_32 h_8 (by decide) (by decide) rfl (by decide) ?_
        obtain ⟨r, σ1, τ1, e1, e2, hR1⟩ := s_drift hR (xs (ix (nI i + 1))) (xs (ix (nI i + 2)))
        refine JL_aload_n (pc := 308) C0 1 dL_law_308 rfl rfl ?_
        refine JL_aload_n (pc := 309) C0 0 dL_law_309 rfl rfl ?_
        refine JL_iload_n (pc := 310) C0 3 dL_law_310 rfl rfl ?_
        refine JL_iconst (pc := 311) (v := 1) C0 dL_law_311 (by decide) ?_
        refine JL_iadd (pc := 312) C0 dL_law_312 ?_
        refine JL_sld (pc := 313) C0 dL_law_313 hv1 ?_
        refine JL_aload_n (pc := 314) C0 0 dL_law_314 rfl rfl ?_
        refine JL_iload_n (pc := 315) C0 3 dL_law_315 rfl rfl ?_
        refine JL_iconst (pc := 316) (v := 2) C0 dL_law_316 (by decide) ?_
        refine JL_iadd (pc := 317) C0 dL_law_317 ?_
        refine JL_sld (pc := 318) C0 dL_law_318 hv2 ?_
        refine JL_callC (pc := 319) (q0 := 34) (As := [.int (xs (ix (nI i + 1))), .int (xs (ix (nI i + 2)))]) (rest := []) C0 (c_X7_drift _ (xs (ix (nI i + 1))) (xs (ix (nI i + 2))) _ e1) v_X7_drift q700 wC_o34 rfl rfl ⟨rfl, rfl⟩ ⟨Nat.le_of_ble_eq_true rfl, Nat.le_of_ble_eq_true rfl⟩ rfl (Nat.le_of_ble_eq_true rfl) dL_law_319 ?_
        refine JL_aload_n (pc := 322) C0 2 dL_law_322 rfl rfl ?_
        refine JL_aload_n (pc := 323) C0 0 dL_law_323 rfl rfl ?_
        refine JL_iload_n (pc := 324) C0 3 dL_law_324 rfl rfl ?_
        refine JL_iconst (pc := 325) (v := 1) C0 dL_law_325 (by decide) ?_
        refine JL_iadd (pc := 326) C0 dL_law_326 ?_
        refine JL_sld (pc := 327) C0 dL_law_327 hv1 ?_
        refine JL_aload_n (pc := 328) C0 0 dL_law_328 rfl rfl ?_
        refine JL_iload_n (pc := 329) C0 3 dL_law_329 rfl rfl ?_
        refine JL_iconst (pc := 330) (v := 2) C0 dL_law_330 (by decide) ?_
        refine JL_iadd (pc := 331) C0 dL_law_331 ?_
        refine JL_sld (pc := 332) C0 dL_law_332 hv2 ?_
        refine JL_callR (pc := 333) (q0 := 0) (As := [.int (xs (ix (nI i + 1))), .int (xs (ix (nI i + 2)))]) (rest := [.int r]) C0 (c_X8_drift _ (xs (ix (nI i + 1))) (xs (ix (nI i + 2))) _ e2) v_X8_drift q704 wR_o rfl rfl ⟨rfl, rfl⟩ ⟨Nat.le_of_ble_eq_true rfl, Nat.le_of_ble_eq_true rfl⟩ rfl (Nat.le_of_ble_eq_true rfl) dL_law_333 ?_
        refine JL_same (pc := 336) (tgt := 631) C0 dL_law_336 (by decide) ?_
        exact hback σ1 τ1 hR1
      by_cases h_9 : xs (ix (nI i)) &&& 31 = 9
      · refine JL_tblIn (pc := 32) (tgt := 341) C0 dL_law_32 h_9 (by decide) (by decide) rfl (by decide) ?_
        obtain ⟨r, σ1, τ1, e1, e2, hR1⟩ := s_undo hR
        refine JL_aload_n (pc := 341) C0 1 dL_law_341 rfl rfl ?_
        refine JL_callC (pc := 342) (q0 := 34) (As := []) (rest := []) C0 (c_X7_undo _  _ e1) v_X7_undo q708 wC_o34 rfl rfl ⟨rfl, rfl⟩ ⟨Nat.le_of_ble_eq_true rfl, Nat.le_of_ble_eq_true rfl⟩ rfl (Nat.le_of_ble_eq_true rfl) dL_law_342 ?_
        refine JL_aload_n (pc := 345) C0 2 dL_law_345 rfl rfl ?_
        refine JL_callR (pc := 346) (q0 := 0) (As := []) (rest := [.int r]) C0 (c_X8_undo _  _ e2) v_X8_undo q712 wR_o rfl rfl ⟨rfl, rfl⟩ ⟨Nat.le_of_ble_eq_true rfl, Nat.le_of_ble_eq_true rfl⟩ rfl (Nat.le_of_ble_eq_true rfl) dL_law_346 ?_
        refine JL_same (pc := 349) (tgt := 631) C0 dL_law_349 (by decide) ?_
        exact hback σ1 τ1 hR1
      by_cases h_10 : xs (ix (nI i)) &&& 31 = 10
      · refine JL_tblIn (pc := 32) (tgt := 354) C0 dL_law_32 h_10 (by decide) (by decide) rfl (by decide) ?_
        obtain ⟨r, σ1, τ1, e1, e2, hR1⟩ := s_told hR (xs (ix (nI i + 1)))
        refine JL_aload_n (pc := 354) C0 1 dL_law_354 rfl rfl ?_
        refine JL_aload_n (pc := 355) C0 0 dL_law_355 rfl rfl ?_
        refine JL_iload_n (pc := 356) C0 3 dL_law_356 rfl rfl ?_
        refine JL_iconst (pc := 357) (v := 1) C0 dL_law_357 (by decide) ?_
        refine JL_iadd (pc := 358) C0 dL_law_358 ?_
        refine JL_sld (pc := 359) C0 dL_law_359 hv1 ?_
        refine JL_callC (pc := 360) (q0 := 34) (As := [.int (xs (ix (nI i + 1)))]) (rest := []) C0 (c_X7_told _ (xs (ix (nI i + 1))) _ e1) v_X7_told q716 wC_o34 rfl rfl ⟨rfl, rfl⟩ ⟨Nat.le_of_ble_eq_true rfl, Nat.le_of_ble_eq_true rfl⟩ rfl (Nat.le_of_ble_eq_true rfl) dL_law_360 ?_
        refine JL_aload_n (pc := 363) C0 2 dL_law_363 rfl rfl ?_
        refine JL_aload_n (pc := 364) C0 0 dL_law_364 rfl rfl ?_
        refine JL_iload_n (pc := 365) C0 3 dL_law_365 rfl rfl ?_
        refine JL_iconst (pc := 366) (v := 1) C0 dL_law_366 (by decide) ?_
        refine JL_iadd (pc := 367) C0 dL_law_367 ?_
        refine JL_sld (pc := 368) C0 dL_law_368 hv1 ?_
        refine JL_callR (pc := 369) (q0 := 0) (As := [.int (xs (ix (nI i + 1)))]) (rest := [.int r]) C0 (c_X8_told _ (xs (ix (nI i + 1))) _ e2) v_X8_told q720 wR_o rfl rfl ⟨rfl, rfl⟩ ⟨Nat.le_of_ble_eq_true rfl, Nat.le_of_ble_eq_true rfl⟩ rfl (Nat.le_of_ble_eq_true rfl) dL_law_369 ?_
        refine JL_same (pc := 372) (tgt := 631) C0 dL_law_372 (by decide) ?_
        exact hback σ1 τ1 hR1
      by_cases h_11 : xs (ix (nI i)) &&& 31 = 11
      · refine JL_tblIn (pc := 32) (tgt := 377) C0 dL_law_32 h_11 (by decide) (by decide) rfl (by decide) ?_
        obtain ⟨r, σ1, τ1, e1, e2, e3, hR1⟩ := s_cell hR (xs (ix (nI i + 1))) (xs (ix (nI i + 2)))
        subst e3
        refine JL_aload_n (pc := 377) C0 1 dL_law_377 rfl rfl ?_
        refine JL_aload_n (pc := 378) C0 0 dL_law_378 rfl rfl ?_
        refine JL_iload_n (pc := 379) C0 3 dL_law_379 rfl rfl ?_
        refine JL_iconst (pc := 380) (v := 1) C0 dL_law_380 (by decide) ?_
        refine JL_iadd (pc := 381) C0 dL_law_381 ?_
        refine JL_sld (pc := 382) C0 dL_law_382 hv1 ?_
        refine JL_aload_n (pc := 383) C0 0 dL_law_383 rfl rfl ?_
        refine JL_iload_n (pc := 384) C0 3 dL_law_384 rfl rfl ?_
        refine JL_iconst (pc := 385) (v := 2) C0 dL_law_385 (by decide) ?_
        refine JL_iadd (pc := 386) C0 dL_law_386 ?_
        refine JL_sld (pc := 387) C0 dL_law_387 hv2 ?_
        refine JL_callC (pc := 388) (q0 := 34) (As := [.int (xs (ix (nI i + 1))), .int (xs (ix (nI i + 2)))]) (rest := []) C0 (c_X7_cell _ (xs (ix (nI i + 1))) (xs (ix (nI i + 2))) _ e1) v_X7_cell q724 wC_o34 rfl rfl ⟨rfl, rfl⟩ ⟨Nat.le_of_ble_eq_true rfl, Nat.le_of_ble_eq_true rfl⟩ rfl (Nat.le_of_ble_eq_true rfl) dL_law_388 ?_
        refine JL_aload_n (pc := 391) C0 2 dL_law_391 rfl rfl ?_
        refine JL_aload_n (pc := 392) C0 0 dL_law_392 rfl rfl ?_
        refine JL_iload_n (pc := 393) C0 3 dL_law_393 rfl rfl ?_
        refine JL_iconst (pc := 394) (v := 1) C0 dL_law_394 (by decide) ?_
        refine JL_iadd (pc := 395) C0 dL_law_395 ?_
        refine JL_sld (pc := 396) C0 dL_law_396 hv1 ?_
        refine JL_aload_n (pc := 397) C0 0 dL_law_397 rfl rfl ?_
        refine JL_iload_n (pc := 398) C0 3 dL_law_398 rfl rfl ?_
        refine JL_iconst (pc := 399) (v := 2) C0 dL_law_399 (by decide) ?_
        refine JL_iadd (pc := 400) C0 dL_law_400 ?_
        refine JL_sld (pc := 401) C0 dL_law_401 hv2 ?_
        refine JL_callR (pc := 402) (q0 := 0) (As := [.int (xs (ix (nI i + 1))), .int (xs (ix (nI i + 2)))]) (rest := [.int r]) C0 (c_X8_cell _ (xs (ix (nI i + 1))) (xs (ix (nI i + 2))) _ e2) v_X8_cell q728 wR_o rfl rfl ⟨rfl, rfl⟩ ⟨Nat.le_of_ble_eq_true rfl, Nat.le_of_ble_eq_true rfl⟩ rfl (Nat.le_of_ble_eq_true rfl) dL_law_402 ?_
        refine JL_same (pc := 405) (tgt := 631) C0 dL_law_405 (by decide) ?_
        exact hback σ1 τ1 hR1
      by_cases h_12 : xs (ix (nI i)) &&& 31 = 12
      · refine JL_tblIn (pc := 32) (tgt := 410) C0 dL_law_32 h_12 (by decide) (by decide) rfl (by decide) ?_
        obtain ⟨r, σ1, τ1, e1, e2, hR1⟩ := s_slot hR (xs (ix (nI i + 1))) (xs (ix (nI i + 2)))
        refine JL_aload_n (pc := 410) C0 1 dL_law_410 rfl rfl ?_
        refine JL_aload_n (pc := 411) C0 0 dL_law_411 rfl rfl ?_
        refine JL_iload_n (pc := 412) C0 3 dL_law_412 rfl rfl ?_
        refine JL_iconst (pc := 413) (v := 1) C0 dL_law_413 (by decide) ?_
        refine JL_iadd (pc := 414) C0 dL_law_414 ?_
        refine JL_sld (pc := 415) C0 dL_law_415 hv1 ?_
        refine JL_aload_n (pc := 416) C0 0 dL_law_416 rfl rfl ?_
        refine JL_iload_n (pc := 417) C0 3 dL_law_417 rfl rfl ?_
        refine JL_iconst (pc := 418) (v := 2) C0 dL_law_418 (by decide) ?_
        refine JL_iadd (pc := 419) C0 dL_law_419 ?_
        refine JL_sld (pc := 420) C0 dL_law_420 hv2 ?_
        refine JL_callC (pc := 421) (q0 := 34) (As := [.int (xs (ix (nI i + 1))), .int (xs (ix (nI i + 2)))]) (rest := []) C0 (c_X7_slot _ (xs (ix (nI i + 1))) (xs (ix (nI i + 2))) _ e1) v_X7_slot q732 wC_o34 rfl rfl ⟨rfl, rfl⟩ ⟨Nat.le_of_ble_eq_true rfl, Nat.le_of_ble_eq_true rfl⟩ rfl (Nat.le_of_ble_eq_true rfl) dL_law_421 ?_
        refine JL_aload_n (pc := 424) C0 2 dL_law_424 rfl rfl ?_
        refine JL_aload_n (pc := 425) C0 0 dL_law_425 rfl rfl ?_
        refine JL_iload_n (pc := 426) C0 3 dL_law_426 rfl rfl ?_
        refine JL_iconst (pc := 427) (v := 1) C0 dL_law_427 (by decide) ?_
        refine JL_iadd (pc := 428) C0 dL_law_428 ?_
        refine JL_sld (pc := 429) C0 dL_law_429 hv1 ?_
        refine JL_aload_n (pc := 430) C0 0 dL_law_430 rfl rfl ?_
        refine JL_iload_n (pc := 431) C0 3 dL_law_431 rfl rfl ?_
        refine JL_iconst (pc := 432) (v := 2) C0 dL_law_432 (by decide) ?_
        refine JL_iadd (pc := 433) C0 dL_law_433 ?_
        refine JL_sld (pc := 434) C0 dL_law_434 hv2 ?_
        refine JL_callR (pc := 435) (q0 := 0) (As := [.int (xs (ix (nI i + 1))), .int (xs (ix (nI i + 2)))]) (rest := [.int r]) C0 (c_X8_slot _ (xs (ix (nI i + 1))) (xs (ix (nI i + 2))) _ e2) v_X8_slot q736 wR_o rfl rfl ⟨rfl, rfl⟩ ⟨Nat.le_of_ble_eq_true rfl, Nat.le_of_ble_eq_true rfl⟩ rfl (Nat.le_of_ble_eq_true rfl) dL_law_435 ?_
        refine JL_same (pc := 438) (tgt := 631) C0 dL_law_438 (by decide) ?_
        exact hback σ1 τ1 hR1
      by_cases h_13 : xs (ix (nI i)) &&& 31 = 13
      · refine JL_tblIn (pc := 32) (tgt := 443) C0 dL_law_32 h_13 (by decide) (by decide) rfl (by decide) ?_
        obtain ⟨r, σ1, τ1, e1, e2, e3, hR1⟩ := s_word hR (xs (ix (nI i + 1))) (xs (ix (nI i + 2)))
        subst e3
        refine JL_aload_n (pc := 443) C0 1 dL_law_443 rfl rfl ?_
        refine JL_aload_n (pc := 444) C0 0 dL_law_444 rfl rfl ?_
        refine JL_iload_n (pc := 445) C0 3 dL_law_445 rfl rfl ?_
        refine JL_iconst (pc := 446) (v := 1) C0 dL_law_446 (by decide) ?_
        refine JL_iadd (pc := 447) C0 dL_law_447 ?_
        refine JL_sld (pc := 448) C0 dL_law_448 hv1 ?_
        refine JL_aload_n (pc := 449) C0 0 dL_law_449 rfl rfl ?_
        refine JL_iload_n (pc := 450) C0 3 dL_law_450 rfl rfl ?_
        refine JL_iconst (pc := 451) (v := 2) C0 dL_law_451 (by decide) ?_
        refine JL_iadd (pc := 452) C0 dL_law_452 ?_
        refine JL_sld (pc := 453) C0 dL_law_453 hv2 ?_
        refine JL_callC (pc := 454) (q0 := 34) (As := [.int (xs (ix (nI i + 1))), .int (xs (ix (nI i + 2)))]) (rest := []) C0 (c_X7_word _ (xs (ix (nI i + 1))) (xs (ix (nI i + 2))) _ e1) v_X7_word q740 wC_o34 rfl rfl ⟨rfl, rfl⟩ ⟨Nat.le_of_ble_eq_true rfl, Nat.le_of_ble_eq_true rfl⟩ rfl (Nat.le_of_ble_eq_true rfl) dL_law_454 ?_
        refine JL_aload_n (pc := 457) C0 2 dL_law_457 rfl rfl ?_
        refine JL_aload_n (pc := 458) C0 0 dL_law_458 rfl rfl ?_
        refine JL_iload_n (pc := 459) C0 3 dL_law_459 rfl rfl ?_
        refine JL_iconst (pc := 460) (v := 1) C0 dL_law_460 (by decide) ?_
        refine JL_iadd (pc := 461) C0 dL_law_461 ?_
        refine JL_sld (pc := 462) C0 dL_law_462 hv1 ?_
        refine JL_aload_n (pc := 463) C0 0 dL_law_463 rfl rfl ?_
        refine JL_iload_n (pc := 464) C0 3 dL_law_464 rfl rfl ?_
        refine JL_iconst (pc := 465) (v := 2) C0 dL_law_465 (by decide) ?_
        refine JL_iadd (pc := 466) C0 dL_law_466 ?_
        refine JL_sld (pc := 467) C0 dL_law_467 hv2 ?_
        refine JL_callR (pc := 468) (q0 := 0) (As := [.int (xs (ix (nI i + 1))), .int (xs (ix (nI i + 2)))]) (rest := [.int r]) C0 (c_X8_word _ (xs (ix (nI i + 1))) (xs (ix (nI i + 2))) _ e2) v_X8_word q744 wR_o rfl rfl ⟨rfl, rfl⟩ ⟨Nat.le_of_ble_eq_true rfl, Nat.le_of_ble_eq_true rfl⟩ rfl (Nat.le_of_ble_eq_true rfl) dL_law_468 ?_
        refine JL_same (pc := 471) (tgt := 631) C0 dL_law_471 (by decide) ?_
        exact hback σ1 τ1 hR1
      by_cases h_14 : xs (ix (nI i)) &&& 31 = 14
      · refine JL_tblIn (pc := 32) (tgt := 476) C0 dL_law_32 h_14 (by decide) (by decide) rfl (by decide) ?_
        obtain ⟨r, σ1, τ1, e1, e2, e3, e4, hR1⟩ := s_find hR (xs (ix (nI i + 1)))
        subst e3
        subst e4
        refine JL_aload_n (pc := 476) C0 1 dL_law_476 rfl rfl ?_
        refine JL_aload_n (pc := 477) C0 0 dL_law_477 rfl rfl ?_
        refine JL_iload_n (pc := 478) C0 3 dL_law_478 rfl rfl ?_
        refine JL_iconst (pc := 479) (v := 1) C0 dL_law_479 (by decide) ?_
        refine JL_iadd (pc := 480) C0 dL_law_480 ?_
        refine JL_sld (pc := 481) C0 dL_law_481 hv1 ?_
        refine JL_callC (pc := 482) (q0 := 34) (As := [.int (xs (ix (nI i + 1)))]) (rest := []) C0 (c_X7_find _ (xs (ix (nI i + 1))) _ e1) v_X7_find q748 wC_o34 rfl rfl ⟨rfl, rfl⟩ ⟨Nat.le_of_ble_eq_true rfl, Nat.le_of_ble_eq_true rfl⟩ rfl (Nat.le_of_ble_eq_true rfl) dL_law_482 ?_
        refine JL_aload_n (pc := 485) C0 2 dL_law_485 rfl rfl ?_
        refine JL_aload_n (pc := 486) C0 0 dL_law_486 rfl rfl ?_
        refine JL_iload_n (pc := 487) C0 3 dL_law_487 rfl rfl ?_
        refine JL_iconst (pc := 488) (v := 1) C0 dL_law_488 (by decide) ?_
        refine JL_iadd (pc := 489) C0 dL_law_489 ?_
        refine JL_sld (pc := 490) C0 dL_law_490 hv1 ?_
        refine JL_callR (pc := 491) (q0 := 0) (As := [.int (xs (ix (nI i + 1)))]) (rest := [.int r]) C0 (c_X8_find _ (xs (ix (nI i + 1))) _ e2) v_X8_find q752 wR_o rfl rfl ⟨rfl, rfl⟩ ⟨Nat.le_of_ble_eq_true rfl, Nat.le_of_ble_eq_true rfl⟩ rfl (Nat.le_of_ble_eq_true rfl) dL_law_491 ?_
        refine JL_same (pc := 494) (tgt := 631) C0 dL_law_494 (by decide) ?_
        exact hback _ _ hR1
      by_cases h_15 : xs (ix (nI i)) &&& 31 = 15
      · refine JL_tblIn (pc := 32) (tgt := 499) C0 dL_law_32 h_15 (by decide) (by decide) rfl (by decide) ?_
        obtain ⟨r, σ1, τ1, e1, e2, e3, hR1⟩ := s_odds hR (xs (ix (nI i + 1))) (xs (ix (nI i + 2))) (xs (ix (nI i + 3))) (xs (ix (nI i + 4)))
        subst e3
        refine JL_aload_n (pc := 499) C0 1 dL_law_499 rfl rfl ?_
        refine JL_aload_n (pc := 500) C0 0 dL_law_500 rfl rfl ?_
        refine JL_iload_n (pc := 501) C0 3 dL_law_501 rfl rfl ?_
        refine JL_iconst (pc := 502) (v := 1) C0 dL_law_502 (by decide) ?_
        refine JL_iadd (pc := 503) C0 dL_law_503 ?_
        refine JL_sld (pc := 504) C0 dL_law_504 hv1 ?_
        refine JL_aload_n (pc := 505) C0 0 dL_law_505 rfl rfl ?_
        refine JL_iload_n (pc := 506) C0 3 dL_law_506 rfl rfl ?_
        refine JL_iconst (pc := 507) (v := 2) C0 dL_law_507 (by decide) ?_
        refine JL_iadd (pc := 508) C0 dL_law_508 ?_
        refine JL_sld (pc := 509) C0 dL_law_509 hv2 ?_
        refine JL_aload_n (pc := 510) C0 0 dL_law_510 rfl rfl ?_
        refine JL_iload_n (pc := 511) C0 3 dL_law_511 rfl rfl ?_
        refine JL_iconst (pc := 512) (v := 3) C0 dL_law_512 (by decide) ?_
        refine JL_iadd (pc := 513) C0 dL_law_513 ?_
        refine JL_sld (pc := 514) C0 dL_law_514 hv3 ?_
        refine JL_aload_n (pc := 515) C0 0 dL_law_515 rfl rfl ?_
        refine JL_iload_n (pc := 516) C0 3 dL_law_516 rfl rfl ?_
        refine JL_iconst (pc := 517) (v := 4) C0 dL_law_517 (by decide) ?_
        refine JL_iadd (pc := 518) C0 dL_law_518 ?_
        refine JL_sld (pc := 519) C0 dL_law_519 hv4 ?_
        refine JL_callC (pc := 520) (q0 := 34) (As := [.int (xs (ix (nI i + 1))), .int (xs (ix (nI i + 2))), .int (xs (ix (nI i + 3))), .int (xs (ix (nI i + 4)))]) (rest := []) C0 (c_X7_odds _ (xs (ix (nI i + 1))) (xs (ix (nI i + 2))) (xs (ix (nI i + 3))) (xs (ix (nI i + 4))) _ e1) v_X7_odds q756 wC_o34 rfl rfl ⟨rfl, rfl⟩ ⟨Nat.le_of_ble_eq_true rfl, Nat.le_of_ble_eq_true rfl⟩ rfl (Nat.le_of_ble_eq_true rfl) dL_law_520 ?_
        refine JL_aload_n (pc := 523) C0 2 dL_law_523 rfl rfl ?_
        refine JL_aload_n (pc := 524) C0 0 dL_law_524 rfl rfl ?_
        refine JL_iload_n (pc := 525) C0 3 dL_law_525 rfl rfl ?_
        refine JL_iconst (pc := 526) (v := 1) C0 dL_law_526 (by decide) ?_
        refine JL_iadd (pc := 527) C0 dL_law_527 ?_
        refine JL_sld (pc := 528) C0 dL_law_528 hv1 ?_
        refine JL_aload_n (pc := 529) C0 0 dL_law_529 rfl rfl ?_
        refine JL_iload_n (pc := 530) C0 3 dL_law_530 rfl rfl ?_
        refine JL_iconst (pc := 531) (v := 2) C0 dL_law_531 (by decide) ?_
        refine JL_iadd (pc := 532) C0 dL_law_532 ?_
        refine JL_sld (pc := 533) C0 dL_law_533 hv2 ?_
        refine JL_aload_n (pc := 534) C0 0 dL_law_534 rfl rfl ?_
        refine JL_iload_n (pc := 535) C0 3 dL_law_535 rfl rfl ?_
        refine JL_iconst (pc := 536) (v := 3) C0 dL_law_536 (by decide) ?_
        refine JL_iadd (pc := 537) C0 dL_law_537 ?_
        refine JL_sld (pc := 538) C0 dL_law_538 hv3 ?_
        refine JL_aload_n (pc := 539) C0 0 dL_law_539 rfl rfl ?_
        refine JL_iload_n (pc := 540) C0 3 dL_law_540 rfl rfl ?_
        refine JL_iconst (pc := 541) (v := 4) C0 dL_law_541 (by decide) ?_
        refine JL_iadd (pc := 542) C0 dL_law_542 ?_
        refine JL_sld (pc := 543) C0 dL_law_543 hv4 ?_
        refine JL_callR (pc := 544) (q0 := 0) (As := [.int (xs (ix (nI i + 1))), .int (xs (ix (nI i + 2))), .int (xs (ix (nI i + 3))), .int (xs (ix (nI i + 4)))]) (rest := [.int r]) C0 (c_X8_odds _ (xs (ix (nI i + 1))) (xs (ix (nI i + 2))) (xs (ix (nI i + 3))) (xs (ix (nI i + 4))) _ e2) v_X8_odds q760 wR_o rfl rfl ⟨rfl, rfl⟩ ⟨Nat.le_of_ble_eq_true rfl, Nat.le_of_ble_eq_true rfl⟩ rfl (Nat.le_of_ble_eq_true rfl) dL_law_544 ?_
        refine JL_same (pc := 547) (tgt := 631) C0 dL_law_547 (by decide) ?_
        exact hback σ1 τ1 hR1
      by_cases h_16 : xs (ix (nI i)) &&& 31 = 16
      · refine JL_tblIn (pc := 32) (tgt := 552) C0 dL_law_32 h_16 (by decide) (by decide) rfl (by decide) ?_
        obtain ⟨r, σ1, τ1, e1, e2, hR1⟩ := s_with hR (xs (ix (nI i + 1))) (xs (ix (nI i + 2)))
        refine JL_aload_n (pc := 552) C0 1 dL_law_552 rfl rfl ?_
        refine JL_aload_n (pc := 553) C0 0 dL_law_553 rfl rfl ?_
        refine JL_iload_n (pc := 554) C0 3 dL_law_554 rfl rfl ?_
        refine JL_iconst (pc := 555) (v := 1) C0 dL_law_555 (by decide) ?_
        refine JL_iadd (pc := 556) C0 dL_law_556 ?_
        refine JL_sld (pc := 557) C0 dL_law_557 hv1 ?_
        refine JL_aload_n (pc := 558) C0 0 dL_law_558 rfl rfl ?_
        refine JL_iload_n (pc := 559) C0 3 dL_law_559 rfl rfl ?_
        refine JL_iconst (pc := 560) (v := 2) C0 dL_law_560 (by decide) ?_
        refine JL_iadd (pc := 561) C0 dL_law_561 ?_
        refine JL_sld (pc := 562) C0 dL_law_562 hv2 ?_
        refine JL_callC (pc := 563) (q0 := 34) (As := [.int (xs (ix (nI i + 1))), .int (xs (ix (nI i + 2)))]) (rest := []) C0 (c_X7_with _ (xs (ix (nI i + 1))) (xs (ix (nI i + 2))) _ e1) v_X7_with q764 wC_o34 rfl rfl ⟨rfl, rfl⟩ ⟨Nat.le_of_ble_eq_true rfl, Nat.le_of_ble_eq_true rfl⟩ rfl (Nat.le_of_ble_eq_true rfl) dL_law_563 ?_
        refine JL_aload_n (pc := 566) C0 2 dL_law_566 rfl rfl ?_
        refine JL_aload_n (pc := 567) C0 0 dL_law_567 rfl rfl ?_
        refine JL_iload_n (pc := 568) C0 3 dL_law_568 rfl rfl ?_
        refine JL_iconst (pc := 569) (v := 1) C0 dL_law_569 (by decide) ?_
        refine JL_iadd (pc := 570) C0 dL_law_570 ?_
        refine JL_sld (pc := 571) C0 dL_law_571 hv1 ?_
        refine JL_aload_n (pc := 572) C0 0 dL_law_572 rfl rfl ?_
        refine JL_iload_n (pc := 573) C0 3 dL_law_573 rfl rfl ?_
        refine JL_iconst (pc := 574) (v := 2) C0 dL_law_574 (by decide) ?_
        refine JL_iadd (pc := 575) C0 dL_law_575 ?_
        refine JL_sld (pc := 576) C0 dL_law_576 hv2 ?_
        refine JL_callR (pc := 577) (q0 := 0) (As := [.int (xs (ix (nI i + 1))), .int (xs (ix (nI i + 2)))]) (rest := [.int r]) C0 (c_X8_with _ (xs (ix (nI i + 1))) (xs (ix (nI i + 2))) _ e2) v_X8_with q768 wR_o rfl rfl ⟨rfl, rfl⟩ ⟨Nat.le_of_ble_eq_true rfl, Nat.le_of_ble_eq_true rfl⟩ rfl (Nat.le_of_ble_eq_true rfl) dL_law_577 ?_
        refine JL_same (pc := 580) (tgt := 631) C0 dL_law_580 (by decide) ?_
        exact hback σ1 τ1 hR1
      by_cases h_17 : xs (ix (nI i)) &&& 31 = 17
      · refine JL_tblIn (pc := 32) (tgt := 585) C0 dL_law_32 h_17 (by decide) (by decide) rfl (by decide) ?_
        obtain ⟨r, σ1, τ1, e1, e2, hR1⟩ := s_keep hR (xs (ix (nI i + 1)))
        refine JL_aload_n (pc := 585) C0 1 dL_law_585 rfl rfl ?_
        refine JL_aload_n (pc := 586) C0 0 dL_law_586 rfl rfl ?_
        refine JL_iload_n (pc := 587) C0 3 dL_law_587 rfl rfl ?_
        refine JL_iconst (pc := 588) (v := 1) C0 dL_law_588 (by decide) ?_
        refine JL_iadd (pc := 589) C0 dL_law_589 ?_
        refine JL_sld (pc := 590) C0 dL_law_590 hv1 ?_
        refine JL_callC (pc := 591) (q0 := 34) (As := [.int (xs (ix (nI i + 1)))]) (rest := []) C0 (c_X7_keep _ (xs (ix (nI i + 1))) _ e1) v_X7_keep q772 wC_o34 rfl rfl ⟨rfl, rfl⟩ ⟨Nat.le_of_ble_eq_true rfl, Nat.le_of_ble_eq_true rfl⟩ rfl (Nat.le_of_ble_eq_true rfl) dL_law_591 ?_
        refine JL_aload_n (pc := 594) C0 2 dL_law_594 rfl rfl ?_
        refine JL_aload_n (pc := 595) C0 0 dL_law_595 rfl rfl ?_
        refine JL_iload_n (pc := 596) C0 3 dL_law_596 rfl rfl ?_
        refine JL_iconst (pc := 597) (v := 1) C0 dL_law_597 (by decide) ?_
        refine JL_iadd (pc := 598) C0 dL_law_598 ?_
        refine JL_sld (pc := 599) C0 dL_law_599 hv1 ?_
        refine JL_callR (pc := 600) (q0 := 0) (As := [.int (xs (ix (nI i + 1)))]) (rest := [.int r]) C0 (c_X8_keep _ (xs (ix (nI i + 1))) _ e2) v_X8_keep q776 wR_o rfl rfl ⟨rfl, rfl⟩ ⟨Nat.le_of_ble_eq_true rfl, Nat.le_of_ble_eq_true rfl⟩ rfl (Nat.le_of_ble_eq_true rfl) dL_law_600 ?_
        refine JL_same (pc := 603) (tgt := 631) C0 dL_law_603 (by decide) ?_
        exact hback σ1 τ1 hR1
      by_cases h_18 : xs (ix (nI i)) &&& 31 = 18
      · refine JL_tblIn (pc := 32) (tgt := 608) C0 dL_law_32 h_18 (by decide) (by decide) rfl (by decide) ?_
        obtain ⟨r, σ1, τ1, e1, e2, hR1⟩ := s_goBack hR (xs (ix (nI i + 1)))
        refine JL_aload_n (pc := 608) C0 1 dL_law_608 rfl rfl ?_
        refine JL_aload_n (pc := 609) C0 0 dL_law_609 rfl rfl ?_
        refine JL_iload_n (pc := 610) C0 3 dL_law_610 rfl rfl ?_
        refine JL_iconst (pc := 611) (v := 1) C0 dL_law_611 (by decide) ?_
        refine JL_iadd (pc := 612) C0 dL_law_612 ?_
        refine JL_sld (pc := 613) C0 dL_law_613 hv1 ?_
        refine JL_callC (pc := 614) (q0 := 34) (As := [.int (xs (ix (nI i + 1)))]) (rest := []) C0 (c_X7_goBack _ (xs (ix (nI i + 1))) _ e1) v_X7_goBack q780 wC_o34 rfl rfl ⟨rfl, rfl⟩ ⟨Nat.le_of_ble_eq_true rfl, Nat.le_of_ble_eq_true rfl⟩ rfl (Nat.le_of_ble_eq_true rfl) dL_law_614 ?_
        refine JL_aload_n (pc := 617) C0 2 dL_law_617 rfl rfl ?_
        refine JL_aload_n (pc := 618) C0 0 dL_law_618 rfl rfl ?_
        refine JL_iload_n (pc := 619) C0 3 dL_law_619 rfl rfl ?_
        refine JL_iconst (pc := 620) (v := 1) C0 dL_law_620 (by decide) ?_
        refine JL_iadd (pc := 621) C0 dL_law_621 ?_
        refine JL_sld (pc := 622) C0 dL_law_622 hv1 ?_
        refine JL_callR (pc := 623) (q0 := 0) (As := [.int (xs (ix (nI i + 1)))]) (rest := [.int r]) C0 (c_X8_goBack _ (xs (ix (nI i + 1))) _ e2) v_X8_goBack q784 wR_o rfl rfl ⟨rfl, rfl⟩ ⟨Nat.le_of_ble_eq_true rfl, Nat.le_of_ble_eq_true rfl⟩ rfl (Nat.le_of_ble_eq_true rfl) dL_law_623 ?_
        refine JL_same (pc := 626) (tgt := 631) C0 dL_law_626 (by decide) ?_
        exact hback σ1 τ1 hR1
      have t_0 := ne_toInt h_0 (k := 0) (by decide)
      have t_1 := ne_toInt h_1 (k := 1) (by decide)
      have t_2 := ne_toInt h_2 (k := 2) (by decide)
      have t_3 := ne_toInt h_3 (k := 3) (by decide)
      have t_4 := ne_toInt h_4 (k := 4) (by decide)
      have t_5 := ne_toInt h_5 (k := 5) (by decide)
      have t_6 := ne_toInt h_6 (k := 6) (by decide)
      have t_7 := ne_toInt h_7 (k := 7) (by decide)
      have t_8 := ne_toInt h_8 (k := 8) (by decide)
      have t_9 := ne_toInt h_9 (k := 9) (by decide)
      have t_10 := ne_toInt h_10 (k := 10) (by decide)
      have t_11 := ne_toInt h_11 (k := 11) (by decide)
      have t_12 := ne_toInt h_12 (k := 12) (by decide)
      have t_13 := ne_toInt h_13 (k := 13) (by decide)
      have t_14 := ne_toInt h_14 (k := 14) (by decide)
      have t_15 := ne_toInt h_15 (k := 15) (by decide)
      have t_16 := ne_toInt h_16 (k := 16) (by decide)
      have t_17 := ne_toInt h_17 (k := 17) (by decide)
      have t_18 := ne_toInt h_18 (k := 18) (by decide)
      refine JL_tblOut (pc := 32) (tgt := 631) C0 dL_law_32 (by omega) (by decide) ?_
      exact hback σ τ hR
