set_option maxHeartbeats 4000000 in
set_option maxRecDepth 100000 in
theorem lc_0 {p : Program} {l : Launch} {e : Env} {s : State} {m : MethodId} {below : List Frame} {meth : Method} {c : Code} {b L i aX aM : Nat} {xs : Nat → Int32} {H : Heap} {locs : List Loc} {ls : Array Slot} {cells slots : Nat} {Q : State → Prop} (S : CallFix p m c cL_law 4 s #[.ref b] lw_tbl RL) (hX : va_X b L xs s s.heap) (hbl : b < s.heap.size) (hi : i + 7 ≤ L) (hL : L ≤ 3584) (I : LI (fun q => s.heap.size ≤ q) s aX aM H locs) (hl : lv_has ls 4 [(3, .int (iI (i : Int))), (2, .ref aM), (1, .ref aX), (0, .ref b)]) (hc : cells + 3 ≤ 600000) (hs : slots + 165 ≤ 7302250) (kk : ∀ (H1 : Heap) (locs1 : List Loc), LI (fun q => s.heap.size ≤ q) s aX aM H1 locs1 → W p l e room_1 s m #[.ref b] below meth c H1 locs1 (cells + 3) (slots + 165) Q (F0 m 1283 ls [])) : W p l e room_1 s m #[.ref b] below meth c H locs cells slots Q (F0 m 180 ls []) := by
  obtain ⟨G, K, N, ln, x, y, cT, cS, hG, hM, hKX, hKM, hwX, hwM, hap, hrel, rfl, rfl⟩ := I
  obtain ⟨hx, hb, hml, hown, hts⟩ := id S
  have hA : ∀ q : Nat, s.heap.size ≤ q → (fun q : Nat => s.heap.size ≤ q) q := fun _ h => h
  have hbA : ¬ (fun q : Nat => s.heap.size ≤ q) b := Nat.not_le.mpr hbl
  have hc0 : cells ≤ room_1.cells := by show cells ≤ 600000; omega
  have hs0 : slots ≤ room_1.slots := by show slots ≤ 7302250; omega
  have hcl : ∀ k : Nat, k ≤ 6 → (iI ((i + k : Nat) : Int)).toNatClampNeg = i + k := fun k hk => by rw [iI_cl (by omega)]; exact Int.toNat_natCast _
  have hin : ∀ k : Nat, k ≤ 6 → vp_in (iI ((i + k : Nat) : Int)) L := fun k hk h => by
    rcases h with h | h
    · rw [show (0 : Int32) = iI 0 from rfl, iI_lt (by omega) (by omega)] at h; omega
    · rw [hcl k hk] at h; omega
  refine lv_aload_n hx hb dL_law_180 rfl (lv_at hl 2 rfl) ?_
  refine lv_aload_n hx hb dL_law_181 rfl (lv_at hl 3 rfl) ?_
  refine lv_iload_n hx hb dL_law_182 rfl (lv_at hl 0 rfl) ?_
  refine lv_iconst (v := 1) hx hb dL_law_183 (by decide) ?_
  refine lv_iadd hx hb dL_law_184 ?_
  rw [ix_k (i := i) (k := 1) (z := 1) rfl]
  refine va_sld hx hb hX hbl hbA hwX.2.2 (hin 1 (by omega)) dL_law_185 ?_
  rw [hcl 1 (by omega)]
  obtain ⟨x2, y2, r, eX, eM, hR⟩ := k_count (F := 60000) hrel (xs (i + 1))
  refine r_iV2 (As := [.int (xs (i + 1))]) (rest := []) S hA hKX hwX hwM hap (c_X6_count l hG eX) (cwV 1 hts gW_X6_count rfl rfl rfl (by decide +kernel) ⟨Nat.le_of_ble_eq_true rfl, Nat.le_of_ble_eq_true rfl⟩) (r_recv hKX hwX (kX_0 hG).1 (kX_0 hG).2 rfl) rfl hl.1 (Nat.le_of_ble_eq_true rfl) dL_law_186 ⟨hc0, hs0⟩ rfl (fun H locs hwX hwM => ?_)
  refine lv_aload_n hx hb dL_law_189 rfl (lv_at hl 1 rfl) ?_
  refine lv_aload_n hx hb dL_law_190 rfl (lv_at hl 3 rfl) ?_
  refine lv_iload_n hx hb dL_law_191 rfl (lv_at hl 0 rfl) ?_
  refine lv_iconst (v := 1) hx hb dL_law_192 (by decide) ?_
  refine lv_iadd hx hb dL_law_193 ?_
  rw [ix_k (i := i) (k := 1) (z := 1) rfl]
  refine va_sld hx hb hX hbl hbA hwX.2.2 (hin 1 (by omega)) dL_law_194 ?_
  rw [hcl 1 (by omega)]
  refine r_iV2 (As := [.int (xs (i + 1))]) (rest := [.int r]) S hA hKM hwM hwX (apG_s hap) (c_X7_count l hM eM) (cwV 1 hts gW_X7_count rfl rfl rfl (by decide +kernel) ⟨Nat.le_of_ble_eq_true rfl, Nat.le_of_ble_eq_true rfl⟩) (r_recv hKM hwM (kM_0 hM).1 (kM_0 hM).2 rfl) rfl hl.1 (Nat.le_of_ble_eq_true rfl) dL_law_195 ⟨hc0, hs0⟩ rfl (fun H locs hwM hwX => ?_)
  refine lv_icmp_eq (tgt := 1283) hx hb dL_law_198 (by decide) (fun c_ => ?_) (fun c_ => ?_)
  · exact W.widen (Nat.le_add_right _ _) (Nat.le_add_right _ _) (kk _ _ ⟨G, K, N, ln, x2, y2, cT, cS, hG, hM, hKX, hKM, hwX, hwM, hap, hR, rfl, rfl⟩)
  · exact absurd rfl c_
set_option maxHeartbeats 4000000 in
set_option maxRecDepth 100000 in
theorem lc_1 {p : Program} {l : Launch} {e : Env} {s : State} {m : MethodId} {below : List Frame} {meth : Method} {c : Code} {b L i aX aM : Nat} {xs : Nat → Int32} {H : Heap} {locs : List Loc} {ls : Array Slot} {cells slots : Nat} {Q : State → Prop} (S : CallFix p m c cL_law 4 s #[.ref b] lw_tbl RL) (hX : va_X b L xs s s.heap) (hbl : b < s.heap.size) (hi : i + 7 ≤ L) (hL : L ≤ 3584) (I : LI (fun q => s.heap.size ≤ q) s aX aM H locs) (hl : lv_has ls 4 [(3, .int (iI (i : Int))), (2, .ref aM), (1, .ref aX), (0, .ref b)]) (hc : cells + 3 ≤ 600000) (hs : slots + 165 ≤ 7302250) (kk : ∀ (H1 : Heap) (locs1 : List Loc), LI (fun q => s.heap.size ≤ q) s aX aM H1 locs1 → W p l e room_1 s m #[.ref b] below meth c H1 locs1 (cells + 3) (slots + 165) Q (F0 m 1283 ls [])) : W p l e room_1 s m #[.ref b] below meth c H locs cells slots Q (F0 m 203 ls []) := by
  obtain ⟨G, K, N, ln, x, y, cT, cS, hG, hM, hKX, hKM, hwX, hwM, hap, hrel, rfl, rfl⟩ := I
  obtain ⟨hx, hb, hml, hown, hts⟩ := id S
  have hA : ∀ q : Nat, s.heap.size ≤ q → (fun q : Nat => s.heap.size ≤ q) q := fun _ h => h
  have hbA : ¬ (fun q : Nat => s.heap.size ≤ q) b := Nat.not_le.mpr hbl
  have hc0 : cells ≤ room_1.cells := by show cells ≤ 600000; omega
  have hs0 : slots ≤ room_1.slots := by show slots ≤ 7302250; omega
  have hcl : ∀ k : Nat, k ≤ 6 → (iI ((i + k : Nat) : Int)).toNatClampNeg = i + k := fun k hk => by rw [iI_cl (by omega)]; exact Int.toNat_natCast _
  have hin : ∀ k : Nat, k ≤ 6 → vp_in (iI ((i + k : Nat) : Int)) L := fun k hk h => by
    rcases h with h | h
    · rw [show (0 : Int32) = iI 0 from rfl, iI_lt (by omega) (by omega)] at h; omega
    · rw [hcl k hk] at h; omega
  refine lv_aload_n hx hb dL_law_203 rfl (lv_at hl 2 rfl) ?_
  refine lv_aload_n hx hb dL_law_204 rfl (lv_at hl 3 rfl) ?_
  refine lv_iload_n hx hb dL_law_205 rfl (lv_at hl 0 rfl) ?_
  refine lv_iconst (v := 1) hx hb dL_law_206 (by decide) ?_
  refine lv_iadd hx hb dL_law_207 ?_
  rw [ix_k (i := i) (k := 1) (z := 1) rfl]
  refine va_sld hx hb hX hbl hbA hwX.2.2 (hin 1 (by omega)) dL_law_208 ?_
  rw [hcl 1 (by omega)]
  refine lv_aload_n hx hb dL_law_209 rfl (lv_at hl 3 rfl) ?_
  refine lv_iload_n hx hb dL_law_210 rfl (lv_at hl 0 rfl) ?_
  refine lv_iconst (v := 2) hx hb dL_law_211 (by decide) ?_
  refine lv_iadd hx hb dL_law_212 ?_
  rw [ix_k (i := i) (k := 2) (z := 2) rfl]
  refine va_sld hx hb hX hbl hbA hwX.2.2 (hin 2 (by omega)) dL_law_213 ?_
  rw [hcl 2 (by omega)]
  obtain ⟨x2, y2, r, eX, eM, hR⟩ := k_brings (F := 60000) hrel (xs (i + 1)) (xs (i + 2))
  refine r_iV2 (As := [.int (xs (i + 1)), .int (xs (i + 2))]) (rest := []) S hA hKX hwX hwM hap (c_X6_brings l hG eX) (cwV 2 hts gW_X6_brings rfl rfl rfl (by decide +kernel) ⟨Nat.le_of_ble_eq_true rfl, Nat.le_of_ble_eq_true rfl⟩) (r_recv hKX hwX (kX_0 hG).1 (kX_0 hG).2 rfl) rfl hl.1 (Nat.le_of_ble_eq_true rfl) dL_law_214 ⟨hc0, hs0⟩ rfl (fun H locs hwX hwM => ?_)
  refine lv_aload_n hx hb dL_law_217 rfl (lv_at hl 1 rfl) ?_
  refine lv_aload_n hx hb dL_law_218 rfl (lv_at hl 3 rfl) ?_
  refine lv_iload_n hx hb dL_law_219 rfl (lv_at hl 0 rfl) ?_
  refine lv_iconst (v := 1) hx hb dL_law_220 (by decide) ?_
  refine lv_iadd hx hb dL_law_221 ?_
  rw [ix_k (i := i) (k := 1) (z := 1) rfl]
  refine va_sld hx hb hX hbl hbA hwX.2.2 (hin 1 (by omega)) dL_law_222 ?_
  rw [hcl 1 (by omega)]
  refine lv_aload_n hx hb dL_law_223 rfl (lv_at hl 3 rfl) ?_
  refine lv_iload_n hx hb dL_law_224 rfl (lv_at hl 0 rfl) ?_
  refine lv_iconst (v := 2) hx hb dL_law_225 (by decide) ?_
  refine lv_iadd hx hb dL_law_226 ?_
  rw [ix_k (i := i) (k := 2) (z := 2) rfl]
  refine va_sld hx hb hX hbl hbA hwX.2.2 (hin 2 (by omega)) dL_law_227 ?_
  rw [hcl 2 (by omega)]
  refine r_iV2 (As := [.int (xs (i + 1)), .int (xs (i + 2))]) (rest := [.int r]) S hA hKM hwM hwX (apG_s hap) (c_X7_brings l hM eM) (cwV 2 hts gW_X7_brings rfl rfl rfl (by decide +kernel) ⟨Nat.le_of_ble_eq_true rfl, Nat.le_of_ble_eq_true rfl⟩) (r_recv hKM hwM (kM_0 hM).1 (kM_0 hM).2 rfl) rfl hl.1 (Nat.le_of_ble_eq_true rfl) dL_law_228 ⟨hc0, hs0⟩ rfl (fun H locs hwM hwX => ?_)
  refine lv_icmp_eq (tgt := 1283) hx hb dL_law_231 (by decide) (fun c_ => ?_) (fun c_ => ?_)
  · exact W.widen (Nat.le_add_right _ _) (Nat.le_add_right _ _) (kk _ _ ⟨G, K, N, ln, x2, y2, cT, cS, hG, hM, hKX, hKM, hwX, hwM, hap, hR, rfl, rfl⟩)
  · exact absurd rfl c_
set_option maxHeartbeats 4000000 in
set_option maxRecDepth 100000 in
theorem lc_2 {p : Program} {l : Launch} {e : Env} {s : State} {m : MethodId} {below : List Frame} {meth : Method} {c : Code} {b L i aX aM : Nat} {xs : Nat → Int32} {H : Heap} {locs : List Loc} {ls : Array Slot} {cells slots : Nat} {Q : State → Prop} (S : CallFix p m c cL_law 4 s #[.ref b] lw_tbl RL) (hX : va_X b L xs s s.heap) (hbl : b < s.heap.size) (hi : i + 7 ≤ L) (hL : L ≤ 3584) (I : LI (fun q => s.heap.size ≤ q) s aX aM H locs) (hl : lv_has ls 4 [(3, .int (iI (i : Int))), (2, .ref aM), (1, .ref aX), (0, .ref b)]) (hc : cells + 3 ≤ 600000) (hs : slots + 165 ≤ 7302250) (kk : ∀ (H1 : Heap) (locs1 : List Loc), LI (fun q => s.heap.size ≤ q) s aX aM H1 locs1 → W p l e room_1 s m #[.ref b] below meth c H1 locs1 (cells + 3) (slots + 165) Q (F0 m 1283 ls [])) : W p l e room_1 s m #[.ref b] below meth c H locs cells slots Q (F0 m 236 ls []) := by
  obtain ⟨G, K, N, ln, x, y, cT, cS, hG, hM, hKX, hKM, hwX, hwM, hap, hrel, rfl, rfl⟩ := I
  obtain ⟨hx, hb, hml, hown, hts⟩ := id S
  have hA : ∀ q : Nat, s.heap.size ≤ q → (fun q : Nat => s.heap.size ≤ q) q := fun _ h => h
  have hbA : ¬ (fun q : Nat => s.heap.size ≤ q) b := Nat.not_le.mpr hbl
  have hc0 : cells ≤ room_1.cells := by show cells ≤ 600000; omega
  have hs0 : slots ≤ room_1.slots := by show slots ≤ 7302250; omega
  have hcl : ∀ k : Nat, k ≤ 6 → (iI ((i + k : Nat) : Int)).toNatClampNeg = i + k := fun k hk => by rw [iI_cl (by omega)]; exact Int.toNat_natCast _
  have hin : ∀ k : Nat, k ≤ 6 → vp_in (iI ((i + k : Nat) : Int)) L := fun k hk h => by
    rcases h with h | h
    · rw [show (0 : Int32) = iI 0 from rfl, iI_lt (by omega) (by omega)] at h; omega
    · rw [hcl k hk] at h; omega
  refine lv_aload_n hx hb dL_law_236 rfl (lv_at hl 2 rfl) ?_
  refine lv_aload_n hx hb dL_law_237 rfl (lv_at hl 3 rfl) ?_
  refine lv_iload_n hx hb dL_law_238 rfl (lv_at hl 0 rfl) ?_
  refine lv_iconst (v := 1) hx hb dL_law_239 (by decide) ?_
  refine lv_iadd hx hb dL_law_240 ?_
  rw [ix_k (i := i) (k := 1) (z := 1) rfl]
  refine va_sld hx hb hX hbl hbA hwX.2.2 (hin 1 (by omega)) dL_law_241 ?_
  rw [hcl 1 (by omega)]
  refine lv_aload_n hx hb dL_law_242 rfl (lv_at hl 3 rfl) ?_
  refine lv_iload_n hx hb dL_law_243 rfl (lv_at hl 0 rfl) ?_
  refine lv_iconst (v := 2) hx hb dL_law_244 (by decide) ?_
  refine lv_iadd hx hb dL_law_245 ?_
  rw [ix_k (i := i) (k := 2) (z := 2) rfl]
  refine va_sld hx hb hX hbl hbA hwX.2.2 (hin 2 (by omega)) dL_law_246 ?_
  rw [hcl 2 (by omega)]
  refine lv_aload_n hx hb dL_law_247 rfl (lv_at hl 3 rfl) ?_
  refine lv_iload_n hx hb dL_law_248 rfl (lv_at hl 0 rfl) ?_
  refine lv_iconst (v := 3) hx hb dL_law_249 (by decide) ?_
  refine lv_iadd hx hb dL_law_250 ?_
  rw [ix_k (i := i) (k := 3) (z := 3) rfl]
  refine va_sld hx hb hX hbl hbA hwX.2.2 (hin 3 (by omega)) dL_law_251 ?_
  rw [hcl 3 (by omega)]
  refine lv_aload_n hx hb dL_law_252 rfl (lv_at hl 3 rfl) ?_
  refine lv_iload_n hx hb dL_law_253 rfl (lv_at hl 0 rfl) ?_
  refine lv_iconst (v := 4) hx hb dL_law_254 (by decide) ?_
  refine lv_iadd hx hb dL_law_255 ?_
  rw [ix_k (i := i) (k := 4) (z := 4) rfl]
  refine va_sld hx hb hX hbl hbA hwX.2.2 (hin 4 (by omega)) dL_law_256 ?_
  rw [hcl 4 (by omega)]
  refine lv_aload_n hx hb dL_law_257 rfl (lv_at hl 3 rfl) ?_
  refine lv_iload_n hx hb dL_law_258 rfl (lv_at hl 0 rfl) ?_
  refine lv_iconst (v := 5) hx hb dL_law_259 (by decide) ?_
  refine lv_iadd hx hb dL_law_260 ?_
  rw [ix_k (i := i) (k := 5) (z := 5) rfl]
  refine va_sld hx hb hX hbl hbA hwX.2.2 (hin 5 (by omega)) dL_law_261 ?_
  rw [hcl 5 (by omega)]
  refine lv_aload_n hx hb dL_law_262 rfl (lv_at hl 3 rfl) ?_
  refine lv_iload_n hx hb dL_law_263 rfl (lv_at hl 0 rfl) ?_
  refine lv_bipush (v := 6) hx hb dL_law_264 (by decide) ?_
  refine lv_iadd hx hb dL_law_266 ?_
  rw [ix_k (i := i) (k := 6) (z := 6) rfl]
  refine va_sld hx hb hX hbl hbA hwX.2.2 (hin 6 (by omega)) dL_law_267 ?_
  rw [hcl 6 (by omega)]
  obtain ⟨x2, y2, r, eX, eM, hR⟩ := k_feed (F := 60000) (by omega) hrel (xs (i + 1)) (xs (i + 2)) (xs (i + 3)) (xs (i + 4)) (xs (i + 5)) (xs (i + 6))
  refine r_iV2 (As := [.int (xs (i + 1)), .int (xs (i + 2)), .int (xs (i + 3)), .int (xs (i + 4)), .int (xs (i + 5)), .int (xs (i + 6))]) (rest := []) S hA hKX hwX hwM hap (c_X6_feed l hG eX) (cwV 6 hts gW_X6_feed rfl rfl rfl (by decide +kernel) ⟨Nat.le_of_ble_eq_true rfl, Nat.le_of_ble_eq_true rfl⟩) (r_recv hKX hwX (kX_0 hG).1 (kX_0 hG).2 rfl) rfl hl.1 (Nat.le_of_ble_eq_true rfl) dL_law_268 ⟨hc0, hs0⟩ rfl (fun H locs hwX hwM => ?_)
  refine lv_aload_n hx hb dL_law_271 rfl (lv_at hl 1 rfl) ?_
  refine lv_aload_n hx hb dL_law_272 rfl (lv_at hl 3 rfl) ?_
  refine lv_iload_n hx hb dL_law_273 rfl (lv_at hl 0 rfl) ?_
  refine lv_iconst (v := 1) hx hb dL_law_274 (by decide) ?_
  refine lv_iadd hx hb dL_law_275 ?_
  rw [ix_k (i := i) (k := 1) (z := 1) rfl]
  refine va_sld hx hb hX hbl hbA hwX.2.2 (hin 1 (by omega)) dL_law_276 ?_
  rw [hcl 1 (by omega)]
  refine lv_aload_n hx hb dL_law_277 rfl (lv_at hl 3 rfl) ?_
  refine lv_iload_n hx hb dL_law_278 rfl (lv_at hl 0 rfl) ?_
  refine lv_iconst (v := 2) hx hb dL_law_279 (by decide) ?_
  refine lv_iadd hx hb dL_law_280 ?_
  rw [ix_k (i := i) (k := 2) (z := 2) rfl]
  refine va_sld hx hb hX hbl hbA hwX.2.2 (hin 2 (by omega)) dL_law_281 ?_
  rw [hcl 2 (by omega)]
  refine lv_aload_n hx hb dL_law_282 rfl (lv_at hl 3 rfl) ?_
  refine lv_iload_n hx hb dL_law_283 rfl (lv_at hl 0 rfl) ?_
  refine lv_iconst (v := 3) hx hb dL_law_284 (by decide) ?_
  refine lv_iadd hx hb dL_law_285 ?_
  rw [ix_k (i := i) (k := 3) (z := 3) rfl]
  refine va_sld hx hb hX hbl hbA hwX.2.2 (hin 3 (by omega)) dL_law_286 ?_
  rw [hcl 3 (by omega)]
  refine lv_aload_n hx hb dL_law_287 rfl (lv_at hl 3 rfl) ?_
  refine lv_iload_n hx hb dL_law_288 rfl (lv_at hl 0 rfl) ?_
  refine lv_iconst (v := 4) hx hb dL_law_289 (by decide) ?_
  refine lv_iadd hx hb dL_law_290 ?_
  rw [ix_k (i := i) (k := 4) (z := 4) rfl]
  refine va_sld hx hb hX hbl hbA hwX.2.2 (hin 4 (by omega)) dL_law_291 ?_
  rw [hcl 4 (by omega)]
  refine lv_aload_n hx hb dL_law_292 rfl (lv_at hl 3 rfl) ?_
  refine lv_iload_n hx hb dL_law_293 rfl (lv_at hl 0 rfl) ?_
  refine lv_iconst (v := 5) hx hb dL_law_294 (by decide) ?_
  refine lv_iadd hx hb dL_law_295 ?_
  rw [ix_k (i := i) (k := 5) (z := 5) rfl]
  refine va_sld hx hb hX hbl hbA hwX.2.2 (hin 5 (by omega)) dL_law_296 ?_
  rw [hcl 5 (by omega)]
  refine lv_aload_n hx hb dL_law_297 rfl (lv_at hl 3 rfl) ?_
  refine lv_iload_n hx hb dL_law_298 rfl (lv_at hl 0 rfl) ?_
  refine lv_bipush (v := 6) hx hb dL_law_299 (by decide) ?_
  refine lv_iadd hx hb dL_law_301 ?_
  rw [ix_k (i := i) (k := 6) (z := 6) rfl]
  refine va_sld hx hb hX hbl hbA hwX.2.2 (hin 6 (by omega)) dL_law_302 ?_
  rw [hcl 6 (by omega)]
  refine r_iV2 (As := [.int (xs (i + 1)), .int (xs (i + 2)), .int (xs (i + 3)), .int (xs (i + 4)), .int (xs (i + 5)), .int (xs (i + 6))]) (rest := [.int r]) S hA hKM hwM hwX (apG_s hap) (c_X7_feed l hM eM) (cwV 6 hts gW_X7_feed rfl rfl rfl (by decide +kernel) ⟨Nat.le_of_ble_eq_true rfl, Nat.le_of_ble_eq_true rfl⟩) (r_recv hKM hwM (kM_0 hM).1 (kM_0 hM).2 rfl) rfl hl.1 (Nat.le_of_ble_eq_true rfl) dL_law_303 ⟨hc0, hs0⟩ rfl (fun H locs hwM hwX => ?_)
  refine lv_icmp_eq (tgt := 1283) hx hb dL_law_306 (by decide) (fun c_ => ?_) (fun c_ => ?_)
  · exact W.widen (Nat.le_add_right _ _) (Nat.le_add_right _ _) (kk _ _ ⟨G, K, N, ln, x2, y2, cT, cS, hG, hM, hKX, hKM, hwX, hwM, hap, hR, rfl, rfl⟩)
  · exact absurd rfl c_
set_option maxHeartbeats 4000000 in
set_option maxRecDepth 100000 in
theorem lc_3 {p : Program} {l : Launch} {e : Env} {s : State} {m : MethodId} {below : List Frame} {meth : Method} {c : Code} {b L i aX aM : Nat} {xs : Nat → Int32} {H : Heap} {locs : List Loc} {ls : Array Slot} {cells slots : Nat} {Q : State → Prop} (S : CallFix p m c cL_law 4 s #[.ref b] lw_tbl RL) (hX : va_X b L xs s s.heap) (hbl : b < s.heap.size) (hi : i + 7 ≤ L) (hL : L ≤ 3584) (I : LI (fun q => s.heap.size ≤ q) s aX aM H locs) (hl : lv_has ls 4 [(3, .int (iI (i : Int))), (2, .ref aM), (1, .ref aX), (0, .ref b)]) (hc : cells + 3 ≤ 600000) (hs : slots + 165 ≤ 7302250) (kk : ∀ (H1 : Heap) (locs1 : List Loc), LI (fun q => s.heap.size ≤ q) s aX aM H1 locs1 → W p l e room_1 s m #[.ref b] below meth c H1 locs1 (cells + 3) (slots + 165) Q (F0 m 1283 ls [])) : W p l e room_1 s m #[.ref b] below meth c H locs cells slots Q (F0 m 311 ls []) := by
  obtain ⟨G, K, N, ln, x, y, cT, cS, hG, hM, hKX, hKM, hwX, hwM, hap, hrel, rfl, rfl⟩ := I
  obtain ⟨hx, hb, hml, hown, hts⟩ := id S
  have hA : ∀ q : Nat, s.heap.size ≤ q → (fun q : Nat => s.heap.size ≤ q) q := fun _ h => h
  have hbA : ¬ (fun q : Nat => s.heap.size ≤ q) b := Nat.not_le.mpr hbl
  have hc0 : cells ≤ room_1.cells := by show cells ≤ 600000; omega
  have hs0 : slots ≤ room_1.slots := by show slots ≤ 7302250; omega
  have hcl : ∀ k : Nat, k ≤ 6 → (iI ((i + k : Nat) : Int)).toNatClampNeg = i + k := fun k hk => by rw [iI_cl (by omega)]; exact Int.toNat_natCast _
  have hin : ∀ k : Nat, k ≤ 6 → vp_in (iI ((i + k : Nat) : Int)) L := fun k hk h => by
    rcases h with h | h
    · rw [show (0 : Int32) = iI 0 from rfl, iI_lt (by omega) (by omega)] at h; omega
    · rw [hcl k hk] at h; omega
  refine lv_aload_n hx hb dL_law_311 rfl (lv_at hl 2 rfl) ?_
  obtain ⟨bo, x2, y2, r, eX, eM, hR⟩ := k_text (F := 60000) (by omega) hrel
  refine r_tV2 (P := grB G N ln cT cS bo) (As := []) (rest := []) S hA hKX hwX hwM hap (c_X6_text l hG eX) (fun G2 h => grB_gD h) (cwV 0 hts gW_X6_text rfl rfl rfl (by decide +kernel) ⟨Nat.le_of_ble_eq_true rfl, Nat.le_of_ble_eq_true rfl⟩) (r_recv hKX hwX (kX_0 hG).1 (kX_0 hG).2 rfl) rfl hl.1 (Nat.le_of_ble_eq_true rfl) dL_law_312 ⟨hc, hs⟩ rfl (fun G2 H locs hgr hwX hwM hap => ?_)
  refine lv_aload_n hx hb dL_law_315 rfl (lv_at hl 1 rfl) ?_
  refine r_iV2 (As := []) (rest := [.int r]) S hA hKM hwM hwX (apG_s hap) (c_X7_text l hM eM) (cwV 0 hts gW_X7_text rfl rfl rfl (by decide +kernel) ⟨Nat.le_of_ble_eq_true rfl, Nat.le_of_ble_eq_true rfl⟩) (r_recv hKM hwM (kM_0 hM).1 (kM_0 hM).2 rfl) rfl hl.1 (Nat.le_of_ble_eq_true rfl) dL_law_316 ⟨hc, hs⟩ rfl (fun H locs hwM hwX => ?_)
  refine lv_icmp_eq (tgt := 1283) hx hb dL_law_319 (by decide) (fun c_ => ?_) (fun c_ => ?_)
  · rcases hR with ⟨rfl, hR⟩ | ⟨n2, rfl, hN6, hn2, hR⟩
    · have e2 : G2 = G := hgr
      exact kk _ _ ⟨G2, K, N, ln, x2, y2, cT, cS, by rw [e2]; exact hG, hM, grB_gK hgr hKX, hKM, hwX, hwM, hap, hR, grB_0 hgr (isX_pos hG), rfl⟩
    · exact kk _ _ ⟨G2, K, N + 1, upN ln N n2, x2, y2, cT, cS, grB_is hG hN6 hgr, hM, grB_gK hgr hKX, hKM, hwX, hwM, hap, hR, grB_0 hgr (isX_pos hG), rfl⟩
  · exact absurd rfl c_
set_option maxHeartbeats 4000000 in
set_option maxRecDepth 100000 in
theorem lc_4 {p : Program} {l : Launch} {e : Env} {s : State} {m : MethodId} {below : List Frame} {meth : Method} {c : Code} {b L i aX aM : Nat} {xs : Nat → Int32} {H : Heap} {locs : List Loc} {ls : Array Slot} {cells slots : Nat} {Q : State → Prop} (S : CallFix p m c cL_law 4 s #[.ref b] lw_tbl RL) (hX : va_X b L xs s s.heap) (hbl : b < s.heap.size) (hi : i + 7 ≤ L) (hL : L ≤ 3584) (I : LI (fun q => s.heap.size ≤ q) s aX aM H locs) (hl : lv_has ls 4 [(3, .int (iI (i : Int))), (2, .ref aM), (1, .ref aX), (0, .ref b)]) (hc : cells + 3 ≤ 600000) (hs : slots + 165 ≤ 7302250) (kk : ∀ (H1 : Heap) (locs1 : List Loc), LI (fun q => s.heap.size ≤ q) s aX aM H1 locs1 → W p l e room_1 s m #[.ref b] below meth c H1 locs1 (cells + 3) (slots + 165) Q (F0 m 1283 ls [])) : W p l e room_1 s m #[.ref b] below meth c H locs cells slots Q (F0 m 324 ls []) := by
  obtain ⟨G, K, N, ln, x, y, cT, cS, hG, hM, hKX, hKM, hwX, hwM, hap, hrel, rfl, rfl⟩ := I
  obtain ⟨hx, hb, hml, hown, hts⟩ := id S
  have hA : ∀ q : Nat, s.heap.size ≤ q → (fun q : Nat => s.heap.size ≤ q) q := fun _ h => h
  have hbA : ¬ (fun q : Nat => s.heap.size ≤ q) b := Nat.not_le.mpr hbl
  have hc0 : cells ≤ room_1.cells := by show cells ≤ 600000; omega
  have hs0 : slots ≤ room_1.slots := by show slots ≤ 7302250; omega
  have hcl : ∀ k : Nat, k ≤ 6 → (iI ((i + k : Nat) : Int)).toNatClampNeg = i + k := fun k hk => by rw [iI_cl (by omega)]; exact Int.toNat_natCast _
  have hin : ∀ k : Nat, k ≤ 6 → vp_in (iI ((i + k : Nat) : Int)) L := fun k hk h => by
    rcases h with h | h
    · rw [show (0 : Int32) = iI 0 from rfl, iI_lt (by omega) (by omega)] at h; omega
    · rw [hcl k hk] at h; omega
  refine lv_aload_n hx hb dL_law_324 rfl (lv_at hl 2 rfl) ?_
  refine lv_aload_n hx hb dL_law_325 rfl (lv_at hl 3 rfl) ?_
  refine lv_iload_n hx hb dL_law_326 rfl (lv_at hl 0 rfl) ?_
  refine lv_iconst (v := 1) hx hb dL_law_327 (by decide) ?_
  refine lv_iadd hx hb dL_law_328 ?_
  rw [ix_k (i := i) (k := 1) (z := 1) rfl]
  refine va_sld hx hb hX hbl hbA hwX.2.2 (hin 1 (by omega)) dL_law_329 ?_
  rw [hcl 1 (by omega)]
  obtain ⟨x2, y2, r, eX, eM, hR⟩ := k_force (F := 60000) hrel (xs (i + 1))
  refine r_iV2 (As := [.int (xs (i + 1))]) (rest := []) S hA hKX hwX hwM hap (c_X6_force l hG eX) (cwV 1 hts gW_X6_force rfl rfl rfl (by decide +kernel) ⟨Nat.le_of_ble_eq_true rfl, Nat.le_of_ble_eq_true rfl⟩) (r_recv hKX hwX (kX_0 hG).1 (kX_0 hG).2 rfl) rfl hl.1 (Nat.le_of_ble_eq_true rfl) dL_law_330 ⟨hc0, hs0⟩ rfl (fun H locs hwX hwM => ?_)
  refine lv_aload_n hx hb dL_law_333 rfl (lv_at hl 1 rfl) ?_
  refine lv_aload_n hx hb dL_law_334 rfl (lv_at hl 3 rfl) ?_
  refine lv_iload_n hx hb dL_law_335 rfl (lv_at hl 0 rfl) ?_
  refine lv_iconst (v := 1) hx hb dL_law_336 (by decide) ?_
  refine lv_iadd hx hb dL_law_337 ?_
  rw [ix_k (i := i) (k := 1) (z := 1) rfl]
  refine va_sld hx hb hX hbl hbA hwX.2.2 (hin 1 (by omega)) dL_law_338 ?_
  rw [hcl 1 (by omega)]
  refine r_iV2 (As := [.int (xs (i + 1))]) (rest := [.int r]) S hA hKM hwM hwX (apG_s hap) (c_X7_force l hM eM) (cwV 1 hts gW_X7_force rfl rfl rfl (by decide +kernel) ⟨Nat.le_of_ble_eq_true rfl, Nat.le_of_ble_eq_true rfl⟩) (r_recv hKM hwM (kM_0 hM).1 (kM_0 hM).2 rfl) rfl hl.1 (Nat.le_of_ble_eq_true rfl) dL_law_339 ⟨hc0, hs0⟩ rfl (fun H locs hwM hwX => ?_)
  refine lv_icmp_eq (tgt := 1283) hx hb dL_law_342 (by decide) (fun c_ => ?_) (fun c_ => ?_)
  · exact W.widen (Nat.le_add_right _ _) (Nat.le_add_right _ _) (kk _ _ ⟨G, K, N, ln, x2, y2, cT, cS, hG, hM, hKX, hKM, hwX, hwM, hap, hR, rfl, rfl⟩)
  · exact absurd rfl c_
set_option maxHeartbeats 4000000 in
set_option maxRecDepth 100000 in
theorem lc_5 {p : Program} {l : Launch} {e : Env} {s : State} {m : MethodId} {below : List Frame} {meth : Method} {c : Code} {b L i aX aM : Nat} {xs : Nat → Int32} {H : Heap} {locs : List Loc} {ls : Array Slot} {cells slots : Nat} {Q : State → Prop} (S : CallFix p m c cL_law 4 s #[.ref b] lw_tbl RL) (hX : va_X b L xs s s.heap) (hbl : b < s.heap.size) (hi : i + 7 ≤ L) (hL : L ≤ 3584) (I : LI (fun q => s.heap.size ≤ q) s aX aM H locs) (hl : lv_has ls 4 [(3, .int (iI (i : Int))), (2, .ref aM), (1, .ref aX), (0, .ref b)]) (hc : cells + 3 ≤ 600000) (hs : slots + 165 ≤ 7302250) (kk : ∀ (H1 : Heap) (locs1 : List Loc), LI (fun q => s.heap.size ≤ q) s aX aM H1 locs1 → W p l e room_1 s m #[.ref b] below meth c H1 locs1 (cells + 3) (slots + 165) Q (F0 m 1283 ls [])) : W p l e room_1 s m #[.ref b] below meth c H locs cells slots Q (F0 m 347 ls []) := by
  obtain ⟨G, K, N, ln, x, y, cT, cS, hG, hM, hKX, hKM, hwX, hwM, hap, hrel, rfl, rfl⟩ := I
  obtain ⟨hx, hb, hml, hown, hts⟩ := id S
  have hA : ∀ q : Nat, s.heap.size ≤ q → (fun q : Nat => s.heap.size ≤ q) q := fun _ h => h
  have hbA : ¬ (fun q : Nat => s.heap.size ≤ q) b := Nat.not_le.mpr hbl
  have hc0 : cells ≤ room_1.cells := by show cells ≤ 600000; omega
  have hs0 : slots ≤ room_1.slots := by show slots ≤ 7302250; omega
  have hcl : ∀ k : Nat, k ≤ 6 → (iI ((i + k : Nat) : Int)).toNatClampNeg = i + k := fun k hk => by rw [iI_cl (by omega)]; exact Int.toNat_natCast _
  have hin : ∀ k : Nat, k ≤ 6 → vp_in (iI ((i + k : Nat) : Int)) L := fun k hk h => by
    rcases h with h | h
    · rw [show (0 : Int32) = iI 0 from rfl, iI_lt (by omega) (by omega)] at h; omega
    · rw [hcl k hk] at h; omega
  refine lv_aload_n hx hb dL_law_347 rfl (lv_at hl 2 rfl) ?_
  refine lv_aload_n hx hb dL_law_348 rfl (lv_at hl 3 rfl) ?_
  refine lv_iload_n hx hb dL_law_349 rfl (lv_at hl 0 rfl) ?_
  refine lv_iconst (v := 1) hx hb dL_law_350 (by decide) ?_
  refine lv_iadd hx hb dL_law_351 ?_
  rw [ix_k (i := i) (k := 1) (z := 1) rfl]
  refine va_sld hx hb hX hbl hbA hwX.2.2 (hin 1 (by omega)) dL_law_352 ?_
  rw [hcl 1 (by omega)]
  refine lv_aload_n hx hb dL_law_353 rfl (lv_at hl 3 rfl) ?_
  refine lv_iload_n hx hb dL_law_354 rfl (lv_at hl 0 rfl) ?_
  refine lv_iconst (v := 2) hx hb dL_law_355 (by decide) ?_
  refine lv_iadd hx hb dL_law_356 ?_
  rw [ix_k (i := i) (k := 2) (z := 2) rfl]
  refine va_sld hx hb hX hbl hbA hwX.2.2 (hin 2 (by omega)) dL_law_357 ?_
  rw [hcl 2 (by omega)]
  refine lv_aload_n hx hb dL_law_358 rfl (lv_at hl 3 rfl) ?_
  refine lv_iload_n hx hb dL_law_359 rfl (lv_at hl 0 rfl) ?_
  refine lv_iconst (v := 3) hx hb dL_law_360 (by decide) ?_
  refine lv_iadd hx hb dL_law_361 ?_
  rw [ix_k (i := i) (k := 3) (z := 3) rfl]
  refine va_sld hx hb hX hbl hbA hwX.2.2 (hin 3 (by omega)) dL_law_362 ?_
  rw [hcl 3 (by omega)]
  refine lv_aload_n hx hb dL_law_363 rfl (lv_at hl 3 rfl) ?_
  refine lv_iload_n hx hb dL_law_364 rfl (lv_at hl 0 rfl) ?_
  refine lv_iconst (v := 4) hx hb dL_law_365 (by decide) ?_
  refine lv_iadd hx hb dL_law_366 ?_
  rw [ix_k (i := i) (k := 4) (z := 4) rfl]
  refine va_sld hx hb hX hbl hbA hwX.2.2 (hin 4 (by omega)) dL_law_367 ?_
  rw [hcl 4 (by omega)]
  refine lv_aload_n hx hb dL_law_368 rfl (lv_at hl 3 rfl) ?_
  refine lv_iload_n hx hb dL_law_369 rfl (lv_at hl 0 rfl) ?_
  refine lv_iconst (v := 5) hx hb dL_law_370 (by decide) ?_
  refine lv_iadd hx hb dL_law_371 ?_
  rw [ix_k (i := i) (k := 5) (z := 5) rfl]
  refine va_sld hx hb hX hbl hbA hwX.2.2 (hin 5 (by omega)) dL_law_372 ?_
  rw [hcl 5 (by omega)]
  obtain ⟨x2, y2, r, eX, eM, hR⟩ := k_asks (F := 60000) (by omega) hrel (xs (i + 1)) (xs (i + 2)) (xs (i + 3)) (xs (i + 4)) (xs (i + 5))
  refine r_iV2 (As := [.int (xs (i + 1)), .int (xs (i + 2)), .int (xs (i + 3)), .int (xs (i + 4)), .int (xs (i + 5))]) (rest := []) S hA hKX hwX hwM hap (c_X6_asks l hG eX) (cwV 5 hts gW_X6_asks rfl rfl rfl (by decide +kernel) ⟨Nat.le_of_ble_eq_true rfl, Nat.le_of_ble_eq_true rfl⟩) (r_recv hKX hwX (kX_0 hG).1 (kX_0 hG).2 rfl) rfl hl.1 (Nat.le_of_ble_eq_true rfl) dL_law_373 ⟨hc0, hs0⟩ rfl (fun H locs hwX hwM => ?_)
  refine lv_aload_n hx hb dL_law_376 rfl (lv_at hl 1 rfl) ?_
  refine lv_aload_n hx hb dL_law_377 rfl (lv_at hl 3 rfl) ?_
  refine lv_iload_n hx hb dL_law_378 rfl (lv_at hl 0 rfl) ?_
  refine lv_iconst (v := 1) hx hb dL_law_379 (by decide) ?_
  refine lv_iadd hx hb dL_law_380 ?_
  rw [ix_k (i := i) (k := 1) (z := 1) rfl]
  refine va_sld hx hb hX hbl hbA hwX.2.2 (hin 1 (by omega)) dL_law_381 ?_
  rw [hcl 1 (by omega)]
  refine lv_aload_n hx hb dL_law_382 rfl (lv_at hl 3 rfl) ?_
  refine lv_iload_n hx hb dL_law_383 rfl (lv_at hl 0 rfl) ?_
  refine lv_iconst (v := 2) hx hb dL_law_384 (by decide) ?_
  refine lv_iadd hx hb dL_law_385 ?_
  rw [ix_k (i := i) (k := 2) (z := 2) rfl]
  refine va_sld hx hb hX hbl hbA hwX.2.2 (hin 2 (by omega)) dL_law_386 ?_
  rw [hcl 2 (by omega)]
  refine lv_aload_n hx hb dL_law_387 rfl (lv_at hl 3 rfl) ?_
  refine lv_iload_n hx hb dL_law_388 rfl (lv_at hl 0 rfl) ?_
  refine lv_iconst (v := 3) hx hb dL_law_389 (by decide) ?_
  refine lv_iadd hx hb dL_law_390 ?_
  rw [ix_k (i := i) (k := 3) (z := 3) rfl]
  refine va_sld hx hb hX hbl hbA hwX.2.2 (hin 3 (by omega)) dL_law_391 ?_
  rw [hcl 3 (by omega)]
  refine lv_aload_n hx hb dL_law_392 rfl (lv_at hl 3 rfl) ?_
  refine lv_iload_n hx hb dL_law_393 rfl (lv_at hl 0 rfl) ?_
  refine lv_iconst (v := 4) hx hb dL_law_394 (by decide) ?_
  refine lv_iadd hx hb dL_law_395 ?_
  rw [ix_k (i := i) (k := 4) (z := 4) rfl]
  refine va_sld hx hb hX hbl hbA hwX.2.2 (hin 4 (by omega)) dL_law_396 ?_
  rw [hcl 4 (by omega)]
  refine lv_aload_n hx hb dL_law_397 rfl (lv_at hl 3 rfl) ?_
  refine lv_iload_n hx hb dL_law_398 rfl (lv_at hl 0 rfl) ?_
  refine lv_iconst (v := 5) hx hb dL_law_399 (by decide) ?_
  refine lv_iadd hx hb dL_law_400 ?_
  rw [ix_k (i := i) (k := 5) (z := 5) rfl]
  refine va_sld hx hb hX hbl hbA hwX.2.2 (hin 5 (by omega)) dL_law_401 ?_
  rw [hcl 5 (by omega)]
  refine r_iV2 (As := [.int (xs (i + 1)), .int (xs (i + 2)), .int (xs (i + 3)), .int (xs (i + 4)), .int (xs (i + 5))]) (rest := [.int r]) S hA hKM hwM hwX (apG_s hap) (c_X7_asks l hM eM) (cwV 5 hts gW_X7_asks rfl rfl rfl (by decide +kernel) ⟨Nat.le_of_ble_eq_true rfl, Nat.le_of_ble_eq_true rfl⟩) (r_recv hKM hwM (kM_0 hM).1 (kM_0 hM).2 rfl) rfl hl.1 (Nat.le_of_ble_eq_true rfl) dL_law_402 ⟨hc0, hs0⟩ rfl (fun H locs hwM hwX => ?_)
  refine lv_icmp_eq (tgt := 1283) hx hb dL_law_405 (by decide) (fun c_ => ?_) (fun c_ => ?_)
  · exact W.widen (Nat.le_add_right _ _) (Nat.le_add_right _ _) (kk _ _ ⟨G, K, N, ln, x2, y2, cT, cS, hG, hM, hKX, hKM, hwX, hwM, hap, hR, rfl, rfl⟩)
  · exact absurd rfl c_
set_option maxHeartbeats 4000000 in
set_option maxRecDepth 100000 in
theorem lc_6 {p : Program} {l : Launch} {e : Env} {s : State} {m : MethodId} {below : List Frame} {meth : Method} {c : Code} {b L i aX aM : Nat} {xs : Nat → Int32} {H : Heap} {locs : List Loc} {ls : Array Slot} {cells slots : Nat} {Q : State → Prop} (S : CallFix p m c cL_law 4 s #[.ref b] lw_tbl RL) (hX : va_X b L xs s s.heap) (hbl : b < s.heap.size) (hi : i + 7 ≤ L) (hL : L ≤ 3584) (I : LI (fun q => s.heap.size ≤ q) s aX aM H locs) (hl : lv_has ls 4 [(3, .int (iI (i : Int))), (2, .ref aM), (1, .ref aX), (0, .ref b)]) (hc : cells + 3 ≤ 600000) (hs : slots + 165 ≤ 7302250) (kk : ∀ (H1 : Heap) (locs1 : List Loc), LI (fun q => s.heap.size ≤ q) s aX aM H1 locs1 → W p l e room_1 s m #[.ref b] below meth c H1 locs1 (cells + 3) (slots + 165) Q (F0 m 1283 ls [])) : W p l e room_1 s m #[.ref b] below meth c H locs cells slots Q (F0 m 410 ls []) := by
  obtain ⟨G, K, N, ln, x, y, cT, cS, hG, hM, hKX, hKM, hwX, hwM, hap, hrel, rfl, rfl⟩ := I
  obtain ⟨hx, hb, hml, hown, hts⟩ := id S
  have hA : ∀ q : Nat, s.heap.size ≤ q → (fun q : Nat => s.heap.size ≤ q) q := fun _ h => h
  have hbA : ¬ (fun q : Nat => s.heap.size ≤ q) b := Nat.not_le.mpr hbl
  have hc0 : cells ≤ room_1.cells := by show cells ≤ 600000; omega
  have hs0 : slots ≤ room_1.slots := by show slots ≤ 7302250; omega
  have hcl : ∀ k : Nat, k ≤ 6 → (iI ((i + k : Nat) : Int)).toNatClampNeg = i + k := fun k hk => by rw [iI_cl (by omega)]; exact Int.toNat_natCast _
  have hin : ∀ k : Nat, k ≤ 6 → vp_in (iI ((i + k : Nat) : Int)) L := fun k hk h => by
    rcases h with h | h
    · rw [show (0 : Int32) = iI 0 from rfl, iI_lt (by omega) (by omega)] at h; omega
    · rw [hcl k hk] at h; omega
  refine lv_aload_n hx hb dL_law_410 rfl (lv_at hl 2 rfl) ?_
  refine lv_aload_n hx hb dL_law_411 rfl (lv_at hl 3 rfl) ?_
  refine lv_iload_n hx hb dL_law_412 rfl (lv_at hl 0 rfl) ?_
  refine lv_iconst (v := 1) hx hb dL_law_413 (by decide) ?_
  refine lv_iadd hx hb dL_law_414 ?_
  rw [ix_k (i := i) (k := 1) (z := 1) rfl]
  refine va_sld hx hb hX hbl hbA hwX.2.2 (hin 1 (by omega)) dL_law_415 ?_
  rw [hcl 1 (by omega)]
  refine lv_aload_n hx hb dL_law_416 rfl (lv_at hl 3 rfl) ?_
  refine lv_iload_n hx hb dL_law_417 rfl (lv_at hl 0 rfl) ?_
  refine lv_iconst (v := 2) hx hb dL_law_418 (by decide) ?_
  refine lv_iadd hx hb dL_law_419 ?_
  rw [ix_k (i := i) (k := 2) (z := 2) rfl]
  refine va_sld hx hb hX hbl hbA hwX.2.2 (hin 2 (by omega)) dL_law_420 ?_
  rw [hcl 2 (by omega)]
  obtain ⟨x2, y2, r, eX, eM, hR⟩ := k_courtier (F := 60000) hrel (xs (i + 1)) (xs (i + 2))
  refine r_iV2 (As := [.int (xs (i + 1)), .int (xs (i + 2))]) (rest := []) S hA hKX hwX hwM hap (c_X6_courtier l hG eX) (cwV 2 hts gW_X6_courtier rfl rfl rfl (by decide +kernel) ⟨Nat.le_of_ble_eq_true rfl, Nat.le_of_ble_eq_true rfl⟩) (r_recv hKX hwX (kX_0 hG).1 (kX_0 hG).2 rfl) rfl hl.1 (Nat.le_of_ble_eq_true rfl) dL_law_421 ⟨hc0, hs0⟩ rfl (fun H locs hwX hwM => ?_)
  refine lv_aload_n hx hb dL_law_424 rfl (lv_at hl 1 rfl) ?_
  refine lv_aload_n hx hb dL_law_425 rfl (lv_at hl 3 rfl) ?_
  refine lv_iload_n hx hb dL_law_426 rfl (lv_at hl 0 rfl) ?_
  refine lv_iconst (v := 1) hx hb dL_law_427 (by decide) ?_
  refine lv_iadd hx hb dL_law_428 ?_
  rw [ix_k (i := i) (k := 1) (z := 1) rfl]
  refine va_sld hx hb hX hbl hbA hwX.2.2 (hin 1 (by omega)) dL_law_429 ?_
  rw [hcl 1 (by omega)]
  refine lv_aload_n hx hb dL_law_430 rfl (lv_at hl 3 rfl) ?_
  refine lv_iload_n hx hb dL_law_431 rfl (lv_at hl 0 rfl) ?_
  refine lv_iconst (v := 2) hx hb dL_law_432 (by decide) ?_
  refine lv_iadd hx hb dL_law_433 ?_
  rw [ix_k (i := i) (k := 2) (z := 2) rfl]
  refine va_sld hx hb hX hbl hbA hwX.2.2 (hin 2 (by omega)) dL_law_434 ?_
  rw [hcl 2 (by omega)]
  refine r_iV2 (As := [.int (xs (i + 1)), .int (xs (i + 2))]) (rest := [.int r]) S hA hKM hwM hwX (apG_s hap) (c_X7_courtier l hM eM) (cwV 2 hts gW_X7_courtier rfl rfl rfl (by decide +kernel) ⟨Nat.le_of_ble_eq_true rfl, Nat.le_of_ble_eq_true rfl⟩) (r_recv hKM hwM (kM_0 hM).1 (kM_0 hM).2 rfl) rfl hl.1 (Nat.le_of_ble_eq_true rfl) dL_law_435 ⟨hc0, hs0⟩ rfl (fun H locs hwM hwX => ?_)
  refine lv_icmp_eq (tgt := 1283) hx hb dL_law_438 (by decide) (fun c_ => ?_) (fun c_ => ?_)
  · exact W.widen (Nat.le_add_right _ _) (Nat.le_add_right _ _) (kk _ _ ⟨G, K, N, ln, x2, y2, cT, cS, hG, hM, hKX, hKM, hwX, hwM, hap, hR, rfl, rfl⟩)
  · exact absurd rfl c_
set_option maxHeartbeats 4000000 in
set_option maxRecDepth 100000 in
theorem lc_7 {p : Program} {l : Launch} {e : Env} {s : State} {m : MethodId} {below : List Frame} {meth : Method} {c : Code} {b L i aX aM : Nat} {xs : Nat → Int32} {H : Heap} {locs : List Loc} {ls : Array Slot} {cells slots : Nat} {Q : State → Prop} (S : CallFix p m c cL_law 4 s #[.ref b] lw_tbl RL) (hX : va_X b L xs s s.heap) (hbl : b < s.heap.size) (hi : i + 7 ≤ L) (hL : L ≤ 3584) (I : LI (fun q => s.heap.size ≤ q) s aX aM H locs) (hl : lv_has ls 4 [(3, .int (iI (i : Int))), (2, .ref aM), (1, .ref aX), (0, .ref b)]) (hc : cells + 3 ≤ 600000) (hs : slots + 165 ≤ 7302250) (kk : ∀ (H1 : Heap) (locs1 : List Loc), LI (fun q => s.heap.size ≤ q) s aX aM H1 locs1 → W p l e room_1 s m #[.ref b] below meth c H1 locs1 (cells + 3) (slots + 165) Q (F0 m 1283 ls [])) : W p l e room_1 s m #[.ref b] below meth c H locs cells slots Q (F0 m 443 ls []) := by
  obtain ⟨G, K, N, ln, x, y, cT, cS, hG, hM, hKX, hKM, hwX, hwM, hap, hrel, rfl, rfl⟩ := I
  obtain ⟨hx, hb, hml, hown, hts⟩ := id S
  have hA : ∀ q : Nat, s.heap.size ≤ q → (fun q : Nat => s.heap.size ≤ q) q := fun _ h => h
  have hbA : ¬ (fun q : Nat => s.heap.size ≤ q) b := Nat.not_le.mpr hbl
  have hc0 : cells ≤ room_1.cells := by show cells ≤ 600000; omega
  have hs0 : slots ≤ room_1.slots := by show slots ≤ 7302250; omega
  have hcl : ∀ k : Nat, k ≤ 6 → (iI ((i + k : Nat) : Int)).toNatClampNeg = i + k := fun k hk => by rw [iI_cl (by omega)]; exact Int.toNat_natCast _
  have hin : ∀ k : Nat, k ≤ 6 → vp_in (iI ((i + k : Nat) : Int)) L := fun k hk h => by
    rcases h with h | h
    · rw [show (0 : Int32) = iI 0 from rfl, iI_lt (by omega) (by omega)] at h; omega
    · rw [hcl k hk] at h; omega
  refine lv_aload_n hx hb dL_law_443 rfl (lv_at hl 2 rfl) ?_
  refine lv_aload_n hx hb dL_law_444 rfl (lv_at hl 3 rfl) ?_
  refine lv_iload_n hx hb dL_law_445 rfl (lv_at hl 0 rfl) ?_
  refine lv_iconst (v := 1) hx hb dL_law_446 (by decide) ?_
  refine lv_iadd hx hb dL_law_447 ?_
  rw [ix_k (i := i) (k := 1) (z := 1) rfl]
  refine va_sld hx hb hX hbl hbA hwX.2.2 (hin 1 (by omega)) dL_law_448 ?_
  rw [hcl 1 (by omega)]
  refine lv_aload_n hx hb dL_law_449 rfl (lv_at hl 3 rfl) ?_
  refine lv_iload_n hx hb dL_law_450 rfl (lv_at hl 0 rfl) ?_
  refine lv_iconst (v := 2) hx hb dL_law_451 (by decide) ?_
  refine lv_iadd hx hb dL_law_452 ?_
  rw [ix_k (i := i) (k := 2) (z := 2) rfl]
  refine va_sld hx hb hX hbl hbA hwX.2.2 (hin 2 (by omega)) dL_law_453 ?_
  rw [hcl 2 (by omega)]
  refine lv_aload_n hx hb dL_law_454 rfl (lv_at hl 3 rfl) ?_
  refine lv_iload_n hx hb dL_law_455 rfl (lv_at hl 0 rfl) ?_
  refine lv_iconst (v := 3) hx hb dL_law_456 (by decide) ?_
  refine lv_iadd hx hb dL_law_457 ?_
  rw [ix_k (i := i) (k := 3) (z := 3) rfl]
  refine va_sld hx hb hX hbl hbA hwX.2.2 (hin 3 (by omega)) dL_law_458 ?_
  rw [hcl 3 (by omega)]
  obtain ⟨x2, y2, r, eX, eM, hR⟩ := k_put (F := 60000) hrel (xs (i + 1)) (xs (i + 2)) (xs (i + 3))
  refine r_iV2 (As := [.int (xs (i + 1)), .int (xs (i + 2)), .int (xs (i + 3))]) (rest := []) S hA hKX hwX hwM hap (c_X6_put l hG eX) (cwV 3 hts gW_X6_put rfl rfl rfl (by decide +kernel) ⟨Nat.le_of_ble_eq_true rfl, Nat.le_of_ble_eq_true rfl⟩) (r_recv hKX hwX (kX_0 hG).1 (kX_0 hG).2 rfl) rfl hl.1 (Nat.le_of_ble_eq_true rfl) dL_law_459 ⟨hc0, hs0⟩ rfl (fun H locs hwX hwM => ?_)
  refine lv_aload_n hx hb dL_law_462 rfl (lv_at hl 1 rfl) ?_
  refine lv_aload_n hx hb dL_law_463 rfl (lv_at hl 3 rfl) ?_
  refine lv_iload_n hx hb dL_law_464 rfl (lv_at hl 0 rfl) ?_
  refine lv_iconst (v := 1) hx hb dL_law_465 (by decide) ?_
  refine lv_iadd hx hb dL_law_466 ?_
  rw [ix_k (i := i) (k := 1) (z := 1) rfl]
  refine va_sld hx hb hX hbl hbA hwX.2.2 (hin 1 (by omega)) dL_law_467 ?_
  rw [hcl 1 (by omega)]
  refine lv_aload_n hx hb dL_law_468 rfl (lv_at hl 3 rfl) ?_
  refine lv_iload_n hx hb dL_law_469 rfl (lv_at hl 0 rfl) ?_
  refine lv_iconst (v := 2) hx hb dL_law_470 (by decide) ?_
  refine lv_iadd hx hb dL_law_471 ?_
  rw [ix_k (i := i) (k := 2) (z := 2) rfl]
  refine va_sld hx hb hX hbl hbA hwX.2.2 (hin 2 (by omega)) dL_law_472 ?_
  rw [hcl 2 (by omega)]
  refine lv_aload_n hx hb dL_law_473 rfl (lv_at hl 3 rfl) ?_
  refine lv_iload_n hx hb dL_law_474 rfl (lv_at hl 0 rfl) ?_
  refine lv_iconst (v := 3) hx hb dL_law_475 (by decide) ?_
  refine lv_iadd hx hb dL_law_476 ?_
  rw [ix_k (i := i) (k := 3) (z := 3) rfl]
  refine va_sld hx hb hX hbl hbA hwX.2.2 (hin 3 (by omega)) dL_law_477 ?_
  rw [hcl 3 (by omega)]
  refine r_iV2 (As := [.int (xs (i + 1)), .int (xs (i + 2)), .int (xs (i + 3))]) (rest := [.int r]) S hA hKM hwM hwX (apG_s hap) (c_X7_put l hM eM) (cwV 3 hts gW_X7_put rfl rfl rfl (by decide +kernel) ⟨Nat.le_of_ble_eq_true rfl, Nat.le_of_ble_eq_true rfl⟩) (r_recv hKM hwM (kM_0 hM).1 (kM_0 hM).2 rfl) rfl hl.1 (Nat.le_of_ble_eq_true rfl) dL_law_478 ⟨hc0, hs0⟩ rfl (fun H locs hwM hwX => ?_)
  refine lv_icmp_eq (tgt := 1283) hx hb dL_law_481 (by decide) (fun c_ => ?_) (fun c_ => ?_)
  · exact W.widen (Nat.le_add_right _ _) (Nat.le_add_right _ _) (kk _ _ ⟨G, K, N, ln, x2, y2, cT, cS, hG, hM, hKX, hKM, hwX, hwM, hap, hR, rfl, rfl⟩)
  · exact absurd rfl c_
set_option maxHeartbeats 4000000 in
set_option maxRecDepth 100000 in
theorem lc_8 {p : Program} {l : Launch} {e : Env} {s : State} {m : MethodId} {below : List Frame} {meth : Method} {c : Code} {b L i aX aM : Nat} {xs : Nat → Int32} {H : Heap} {locs : List Loc} {ls : Array Slot} {cells slots : Nat} {Q : State → Prop} (S : CallFix p m c cL_law 4 s #[.ref b] lw_tbl RL) (hX : va_X b L xs s s.heap) (hbl : b < s.heap.size) (hi : i + 7 ≤ L) (hL : L ≤ 3584) (I : LI (fun q => s.heap.size ≤ q) s aX aM H locs) (hl : lv_has ls 4 [(3, .int (iI (i : Int))), (2, .ref aM), (1, .ref aX), (0, .ref b)]) (hc : cells + 3 ≤ 600000) (hs : slots + 165 ≤ 7302250) (kk : ∀ (H1 : Heap) (locs1 : List Loc), LI (fun q => s.heap.size ≤ q) s aX aM H1 locs1 → W p l e room_1 s m #[.ref b] below meth c H1 locs1 (cells + 3) (slots + 165) Q (F0 m 1283 ls [])) : W p l e room_1 s m #[.ref b] below meth c H locs cells slots Q (F0 m 486 ls []) := by
  obtain ⟨G, K, N, ln, x, y, cT, cS, hG, hM, hKX, hKM, hwX, hwM, hap, hrel, rfl, rfl⟩ := I
  obtain ⟨hx, hb, hml, hown, hts⟩ := id S
  have hA : ∀ q : Nat, s.heap.size ≤ q → (fun q : Nat => s.heap.size ≤ q) q := fun _ h => h
  have hbA : ¬ (fun q : Nat => s.heap.size ≤ q) b := Nat.not_le.mpr hbl
  have hc0 : cells ≤ room_1.cells := by show cells ≤ 600000; omega
  have hs0 : slots ≤ room_1.slots := by show slots ≤ 7302250; omega
  have hcl : ∀ k : Nat, k ≤ 6 → (iI ((i + k : Nat) : Int)).toNatClampNeg = i + k := fun k hk => by rw [iI_cl (by omega)]; exact Int.toNat_natCast _
  have hin : ∀ k : Nat, k ≤ 6 → vp_in (iI ((i + k : Nat) : Int)) L := fun k hk h => by
    rcases h with h | h
    · rw [show (0 : Int32) = iI 0 from rfl, iI_lt (by omega) (by omega)] at h; omega
    · rw [hcl k hk] at h; omega
  refine lv_aload_n hx hb dL_law_486 rfl (lv_at hl 2 rfl) ?_
  refine lv_aload_n hx hb dL_law_487 rfl (lv_at hl 3 rfl) ?_
  refine lv_iload_n hx hb dL_law_488 rfl (lv_at hl 0 rfl) ?_
  refine lv_iconst (v := 1) hx hb dL_law_489 (by decide) ?_
  refine lv_iadd hx hb dL_law_490 ?_
  rw [ix_k (i := i) (k := 1) (z := 1) rfl]
  refine va_sld hx hb hX hbl hbA hwX.2.2 (hin 1 (by omega)) dL_law_491 ?_
  rw [hcl 1 (by omega)]
  refine lv_aload_n hx hb dL_law_492 rfl (lv_at hl 3 rfl) ?_
  refine lv_iload_n hx hb dL_law_493 rfl (lv_at hl 0 rfl) ?_
  refine lv_iconst (v := 2) hx hb dL_law_494 (by decide) ?_
  refine lv_iadd hx hb dL_law_495 ?_
  rw [ix_k (i := i) (k := 2) (z := 2) rfl]
  refine va_sld hx hb hX hbl hbA hwX.2.2 (hin 2 (by omega)) dL_law_496 ?_
  rw [hcl 2 (by omega)]
  obtain ⟨x2, y2, r, eX, eM, hR⟩ := k_told (F := 60000) (by omega) hrel (xs (i + 1)) (xs (i + 2))
  refine r_iV2 (As := [.int (xs (i + 1)), .int (xs (i + 2))]) (rest := []) S hA hKX hwX hwM hap (c_X6_told l hG eX) (cwV 2 hts gW_X6_told rfl rfl rfl (by decide +kernel) ⟨Nat.le_of_ble_eq_true rfl, Nat.le_of_ble_eq_true rfl⟩) (r_recv hKX hwX (kX_0 hG).1 (kX_0 hG).2 rfl) rfl hl.1 (Nat.le_of_ble_eq_true rfl) dL_law_497 ⟨hc0, hs0⟩ rfl (fun H locs hwX hwM => ?_)
  refine lv_aload_n hx hb dL_law_500 rfl (lv_at hl 1 rfl) ?_
  refine lv_aload_n hx hb dL_law_501 rfl (lv_at hl 3 rfl) ?_
  refine lv_iload_n hx hb dL_law_502 rfl (lv_at hl 0 rfl) ?_
  refine lv_iconst (v := 1) hx hb dL_law_503 (by decide) ?_
  refine lv_iadd hx hb dL_law_504 ?_
  rw [ix_k (i := i) (k := 1) (z := 1) rfl]
  refine va_sld hx hb hX hbl hbA hwX.2.2 (hin 1 (by omega)) dL_law_505 ?_
  rw [hcl 1 (by omega)]
  refine lv_aload_n hx hb dL_law_506 rfl (lv_at hl 3 rfl) ?_
  refine lv_iload_n hx hb dL_law_507 rfl (lv_at hl 0 rfl) ?_
  refine lv_iconst (v := 2) hx hb dL_law_508 (by decide) ?_
  refine lv_iadd hx hb dL_law_509 ?_
  rw [ix_k (i := i) (k := 2) (z := 2) rfl]
  refine va_sld hx hb hX hbl hbA hwX.2.2 (hin 2 (by omega)) dL_law_510 ?_
  rw [hcl 2 (by omega)]
  refine r_iV2 (As := [.int (xs (i + 1)), .int (xs (i + 2))]) (rest := [.int r]) S hA hKM hwM hwX (apG_s hap) (c_X7_told l hM eM) (cwV 2 hts gW_X7_told rfl rfl rfl (by decide +kernel) ⟨Nat.le_of_ble_eq_true rfl, Nat.le_of_ble_eq_true rfl⟩) (r_recv hKM hwM (kM_0 hM).1 (kM_0 hM).2 rfl) rfl hl.1 (Nat.le_of_ble_eq_true rfl) dL_law_511 ⟨hc0, hs0⟩ rfl (fun H locs hwM hwX => ?_)
  refine lv_icmp_eq (tgt := 1283) hx hb dL_law_514 (by decide) (fun c_ => ?_) (fun c_ => ?_)
  · exact W.widen (Nat.le_add_right _ _) (Nat.le_add_right _ _) (kk _ _ ⟨G, K, N, ln, x2, y2, cT, cS, hG, hM, hKX, hKM, hwX, hwM, hap, hR, rfl, rfl⟩)
  · exact absurd rfl c_
set_option maxHeartbeats 4000000 in
set_option maxRecDepth 100000 in
theorem lc_9 {p : Program} {l : Launch} {e : Env} {s : State} {m : MethodId} {below : List Frame} {meth : Method} {c : Code} {b L i aX aM : Nat} {xs : Nat → Int32} {H : Heap} {locs : List Loc} {ls : Array Slot} {cells slots : Nat} {Q : State → Prop} (S : CallFix p m c cL_law 4 s #[.ref b] lw_tbl RL) (hX : va_X b L xs s s.heap) (hbl : b < s.heap.size) (hi : i + 7 ≤ L) (hL : L ≤ 3584) (I : LI (fun q => s.heap.size ≤ q) s aX aM H locs) (hl : lv_has ls 4 [(3, .int (iI (i : Int))), (2, .ref aM), (1, .ref aX), (0, .ref b)]) (hc : cells + 3 ≤ 600000) (hs : slots + 165 ≤ 7302250) (kk : ∀ (H1 : Heap) (locs1 : List Loc), LI (fun q => s.heap.size ≤ q) s aX aM H1 locs1 → W p l e room_1 s m #[.ref b] below meth c H1 locs1 (cells + 3) (slots + 165) Q (F0 m 1283 ls [])) : W p l e room_1 s m #[.ref b] below meth c H locs cells slots Q (F0 m 519 ls []) := by
  obtain ⟨G, K, N, ln, x, y, cT, cS, hG, hM, hKX, hKM, hwX, hwM, hap, hrel, rfl, rfl⟩ := I
  obtain ⟨hx, hb, hml, hown, hts⟩ := id S
  have hA : ∀ q : Nat, s.heap.size ≤ q → (fun q : Nat => s.heap.size ≤ q) q := fun _ h => h
  have hbA : ¬ (fun q : Nat => s.heap.size ≤ q) b := Nat.not_le.mpr hbl
  have hc0 : cells ≤ room_1.cells := by show cells ≤ 600000; omega
  have hs0 : slots ≤ room_1.slots := by show slots ≤ 7302250; omega
  have hcl : ∀ k : Nat, k ≤ 6 → (iI ((i + k : Nat) : Int)).toNatClampNeg = i + k := fun k hk => by rw [iI_cl (by omega)]; exact Int.toNat_natCast _
  have hin : ∀ k : Nat, k ≤ 6 → vp_in (iI ((i + k : Nat) : Int)) L := fun k hk h => by
    rcases h with h | h
    · rw [show (0 : Int32) = iI 0 from rfl, iI_lt (by omega) (by omega)] at h; omega
    · rw [hcl k hk] at h; omega
  refine lv_aload_n hx hb dL_law_519 rfl (lv_at hl 2 rfl) ?_
  refine lv_aload_n hx hb dL_law_520 rfl (lv_at hl 3 rfl) ?_
  refine lv_iload_n hx hb dL_law_521 rfl (lv_at hl 0 rfl) ?_
  refine lv_iconst (v := 1) hx hb dL_law_522 (by decide) ?_
  refine lv_iadd hx hb dL_law_523 ?_
  rw [ix_k (i := i) (k := 1) (z := 1) rfl]
  refine va_sld hx hb hX hbl hbA hwX.2.2 (hin 1 (by omega)) dL_law_524 ?_
  rw [hcl 1 (by omega)]
  obtain ⟨x2, y2, r, eX, eM, hR⟩ := k_table (F := 60000) (by omega) hrel (xs (i + 1))
  refine r_iV2 (As := [.int (xs (i + 1))]) (rest := []) S hA hKX hwX hwM hap (c_X6_table l hG eX) (cwV 1 hts gW_X6_table rfl rfl rfl (by decide +kernel) ⟨Nat.le_of_ble_eq_true rfl, Nat.le_of_ble_eq_true rfl⟩) (r_recv hKX hwX (kX_0 hG).1 (kX_0 hG).2 rfl) rfl hl.1 (Nat.le_of_ble_eq_true rfl) dL_law_525 ⟨hc0, hs0⟩ rfl (fun H locs hwX hwM => ?_)
  refine lv_aload_n hx hb dL_law_528 rfl (lv_at hl 1 rfl) ?_
  refine lv_aload_n hx hb dL_law_529 rfl (lv_at hl 3 rfl) ?_
  refine lv_iload_n hx hb dL_law_530 rfl (lv_at hl 0 rfl) ?_
  refine lv_iconst (v := 1) hx hb dL_law_531 (by decide) ?_
  refine lv_iadd hx hb dL_law_532 ?_
  rw [ix_k (i := i) (k := 1) (z := 1) rfl]
  refine va_sld hx hb hX hbl hbA hwX.2.2 (hin 1 (by omega)) dL_law_533 ?_
  rw [hcl 1 (by omega)]
  refine r_iV2 (As := [.int (xs (i + 1))]) (rest := [.int r]) S hA hKM hwM hwX (apG_s hap) (c_X7_table l hM eM) (cwV 1 hts gW_X7_table rfl rfl rfl (by decide +kernel) ⟨Nat.le_of_ble_eq_true rfl, Nat.le_of_ble_eq_true rfl⟩) (r_recv hKM hwM (kM_0 hM).1 (kM_0 hM).2 rfl) rfl hl.1 (Nat.le_of_ble_eq_true rfl) dL_law_534 ⟨hc0, hs0⟩ rfl (fun H locs hwM hwX => ?_)
  refine lv_icmp_eq (tgt := 1283) hx hb dL_law_537 (by decide) (fun c_ => ?_) (fun c_ => ?_)
  · exact W.widen (Nat.le_add_right _ _) (Nat.le_add_right _ _) (kk _ _ ⟨G, K, N, ln, x2, y2, cT, cS, hG, hM, hKX, hKM, hwX, hwM, hap, hR, rfl, rfl⟩)
  · exact absurd rfl c_
set_option maxHeartbeats 4000000 in
set_option maxRecDepth 100000 in
theorem lc_10 {p : Program} {l : Launch} {e : Env} {s : State} {m : MethodId} {below : List Frame} {meth : Method} {c : Code} {b L i aX aM : Nat} {xs : Nat → Int32} {H : Heap} {locs : List Loc} {ls : Array Slot} {cells slots : Nat} {Q : State → Prop} (S : CallFix p m c cL_law 4 s #[.ref b] lw_tbl RL) (hX : va_X b L xs s s.heap) (hbl : b < s.heap.size) (hi : i + 7 ≤ L) (hL : L ≤ 3584) (I : LI (fun q => s.heap.size ≤ q) s aX aM H locs) (hl : lv_has ls 4 [(3, .int (iI (i : Int))), (2, .ref aM), (1, .ref aX), (0, .ref b)]) (hc : cells + 3 ≤ 600000) (hs : slots + 165 ≤ 7302250) (kk : ∀ (H1 : Heap) (locs1 : List Loc), LI (fun q => s.heap.size ≤ q) s aX aM H1 locs1 → W p l e room_1 s m #[.ref b] below meth c H1 locs1 (cells + 3) (slots + 165) Q (F0 m 1283 ls [])) : W p l e room_1 s m #[.ref b] below meth c H locs cells slots Q (F0 m 542 ls []) := by
  obtain ⟨G, K, N, ln, x, y, cT, cS, hG, hM, hKX, hKM, hwX, hwM, hap, hrel, rfl, rfl⟩ := I
  obtain ⟨hx, hb, hml, hown, hts⟩ := id S
  have hA : ∀ q : Nat, s.heap.size ≤ q → (fun q : Nat => s.heap.size ≤ q) q := fun _ h => h
  have hbA : ¬ (fun q : Nat => s.heap.size ≤ q) b := Nat.not_le.mpr hbl
  have hc0 : cells ≤ room_1.cells := by show cells ≤ 600000; omega
  have hs0 : slots ≤ room_1.slots := by show slots ≤ 7302250; omega
  have hcl : ∀ k : Nat, k ≤ 6 → (iI ((i + k : Nat) : Int)).toNatClampNeg = i + k := fun k hk => by rw [iI_cl (by omega)]; exact Int.toNat_natCast _
  have hin : ∀ k : Nat, k ≤ 6 → vp_in (iI ((i + k : Nat) : Int)) L := fun k hk h => by
    rcases h with h | h
    · rw [show (0 : Int32) = iI 0 from rfl, iI_lt (by omega) (by omega)] at h; omega
    · rw [hcl k hk] at h; omega
  refine lv_aload_n hx hb dL_law_542 rfl (lv_at hl 2 rfl) ?_
  obtain ⟨x2, y2, r, eX, eM, hR⟩ := k_sup (F := 60000) (by omega) hrel 
  refine r_iV2 (As := []) (rest := []) S hA hKX hwX hwM hap (c_X6_sup l hG eX) (cwV 0 hts gW_X6_sup rfl rfl rfl (by decide +kernel) ⟨Nat.le_of_ble_eq_true rfl, Nat.le_of_ble_eq_true rfl⟩) (r_recv hKX hwX (kX_0 hG).1 (kX_0 hG).2 rfl) rfl hl.1 (Nat.le_of_ble_eq_true rfl) dL_law_543 ⟨hc0, hs0⟩ rfl (fun H locs hwX hwM => ?_)
  refine lv_aload_n hx hb dL_law_546 rfl (lv_at hl 1 rfl) ?_
  refine r_iV2 (As := []) (rest := [.int r]) S hA hKM hwM hwX (apG_s hap) (c_X7_sup l hM eM) (cwV 0 hts gW_X7_sup rfl rfl rfl (by decide +kernel) ⟨Nat.le_of_ble_eq_true rfl, Nat.le_of_ble_eq_true rfl⟩) (r_recv hKM hwM (kM_0 hM).1 (kM_0 hM).2 rfl) rfl hl.1 (Nat.le_of_ble_eq_true rfl) dL_law_547 ⟨hc0, hs0⟩ rfl (fun H locs hwM hwX => ?_)
  refine lv_icmp_eq (tgt := 1283) hx hb dL_law_550 (by decide) (fun c_ => ?_) (fun c_ => ?_)
  · exact W.widen (Nat.le_add_right _ _) (Nat.le_add_right _ _) (kk _ _ ⟨G, K, N, ln, x2, y2, cT, cS, hG, hM, hKX, hKM, hwX, hwM, hap, hR, rfl, rfl⟩)
  · exact absurd rfl c_
set_option maxHeartbeats 4000000 in
set_option maxRecDepth 100000 in
theorem lc_11 {p : Program} {l : Launch} {e : Env} {s : State} {m : MethodId} {below : List Frame} {meth : Method} {c : Code} {b L i aX aM : Nat} {xs : Nat → Int32} {H : Heap} {locs : List Loc} {ls : Array Slot} {cells slots : Nat} {Q : State → Prop} (S : CallFix p m c cL_law 4 s #[.ref b] lw_tbl RL) (hX : va_X b L xs s s.heap) (hbl : b < s.heap.size) (hi : i + 7 ≤ L) (hL : L ≤ 3584) (I : LI (fun q => s.heap.size ≤ q) s aX aM H locs) (hl : lv_has ls 4 [(3, .int (iI (i : Int))), (2, .ref aM), (1, .ref aX), (0, .ref b)]) (hc : cells + 3 ≤ 600000) (hs : slots + 165 ≤ 7302250) (kk : ∀ (H1 : Heap) (locs1 : List Loc), LI (fun q => s.heap.size ≤ q) s aX aM H1 locs1 → W p l e room_1 s m #[.ref b] below meth c H1 locs1 (cells + 3) (slots + 165) Q (F0 m 1283 ls [])) : W p l e room_1 s m #[.ref b] below meth c H locs cells slots Q (F0 m 555 ls []) := by
  obtain ⟨G, K, N, ln, x, y, cT, cS, hG, hM, hKX, hKM, hwX, hwM, hap, hrel, rfl, rfl⟩ := I
  obtain ⟨hx, hb, hml, hown, hts⟩ := id S
  have hA : ∀ q : Nat, s.heap.size ≤ q → (fun q : Nat => s.heap.size ≤ q) q := fun _ h => h
  have hbA : ¬ (fun q : Nat => s.heap.size ≤ q) b := Nat.not_le.mpr hbl
  have hc0 : cells ≤ room_1.cells := by show cells ≤ 600000; omega
  have hs0 : slots ≤ room_1.slots := by show slots ≤ 7302250; omega
  have hcl : ∀ k : Nat, k ≤ 6 → (iI ((i + k : Nat) : Int)).toNatClampNeg = i + k := fun k hk => by rw [iI_cl (by omega)]; exact Int.toNat_natCast _
  have hin : ∀ k : Nat, k ≤ 6 → vp_in (iI ((i + k : Nat) : Int)) L := fun k hk h => by
    rcases h with h | h
    · rw [show (0 : Int32) = iI 0 from rfl, iI_lt (by omega) (by omega)] at h; omega
    · rw [hcl k hk] at h; omega
  refine lv_aload_n hx hb dL_law_555 rfl (lv_at hl 2 rfl) ?_
  refine lv_aload_n hx hb dL_law_556 rfl (lv_at hl 3 rfl) ?_
  refine lv_iload_n hx hb dL_law_557 rfl (lv_at hl 0 rfl) ?_
  refine lv_iconst (v := 1) hx hb dL_law_558 (by decide) ?_
  refine lv_iadd hx hb dL_law_559 ?_
  rw [ix_k (i := i) (k := 1) (z := 1) rfl]
  refine va_sld hx hb hX hbl hbA hwX.2.2 (hin 1 (by omega)) dL_law_560 ?_
  rw [hcl 1 (by omega)]
  refine lv_aload_n hx hb dL_law_561 rfl (lv_at hl 3 rfl) ?_
  refine lv_iload_n hx hb dL_law_562 rfl (lv_at hl 0 rfl) ?_
  refine lv_iconst (v := 2) hx hb dL_law_563 (by decide) ?_
  refine lv_iadd hx hb dL_law_564 ?_
  rw [ix_k (i := i) (k := 2) (z := 2) rfl]
  refine va_sld hx hb hX hbl hbA hwX.2.2 (hin 2 (by omega)) dL_law_565 ?_
  rw [hcl 2 (by omega)]
  refine lv_aload_n hx hb dL_law_566 rfl (lv_at hl 3 rfl) ?_
  refine lv_iload_n hx hb dL_law_567 rfl (lv_at hl 0 rfl) ?_
  refine lv_iconst (v := 3) hx hb dL_law_568 (by decide) ?_
  refine lv_iadd hx hb dL_law_569 ?_
  rw [ix_k (i := i) (k := 3) (z := 3) rfl]
  refine va_sld hx hb hX hbl hbA hwX.2.2 (hin 3 (by omega)) dL_law_570 ?_
  rw [hcl 3 (by omega)]
  obtain ⟨x2, y2, r, eX, eM, hR⟩ := k_run (F := 60000) (by omega) hrel (xs (i + 1)) (xs (i + 2)) (xs (i + 3))
  refine r_iV2 (As := [.int (xs (i + 1)), .int (xs (i + 2)), .int (xs (i + 3))]) (rest := []) S hA hKX hwX hwM hap (c_X6_run l hG eX) (cwV 3 hts gW_X6_run rfl rfl rfl (by decide +kernel) ⟨Nat.le_of_ble_eq_true rfl, Nat.le_of_ble_eq_true rfl⟩) (r_recv hKX hwX (kX_0 hG).1 (kX_0 hG).2 rfl) rfl hl.1 (Nat.le_of_ble_eq_true rfl) dL_law_571 ⟨hc0, hs0⟩ rfl (fun H locs hwX hwM => ?_)
  refine lv_aload_n hx hb dL_law_574 rfl (lv_at hl 1 rfl) ?_
  refine lv_aload_n hx hb dL_law_575 rfl (lv_at hl 3 rfl) ?_
  refine lv_iload_n hx hb dL_law_576 rfl (lv_at hl 0 rfl) ?_
  refine lv_iconst (v := 1) hx hb dL_law_577 (by decide) ?_
  refine lv_iadd hx hb dL_law_578 ?_
  rw [ix_k (i := i) (k := 1) (z := 1) rfl]
  refine va_sld hx hb hX hbl hbA hwX.2.2 (hin 1 (by omega)) dL_law_579 ?_
  rw [hcl 1 (by omega)]
  refine lv_aload_n hx hb dL_law_580 rfl (lv_at hl 3 rfl) ?_
  refine lv_iload_n hx hb dL_law_581 rfl (lv_at hl 0 rfl) ?_
  refine lv_iconst (v := 2) hx hb dL_law_582 (by decide) ?_
  refine lv_iadd hx hb dL_law_583 ?_
  rw [ix_k (i := i) (k := 2) (z := 2) rfl]
  refine va_sld hx hb hX hbl hbA hwX.2.2 (hin 2 (by omega)) dL_law_584 ?_
  rw [hcl 2 (by omega)]
  refine lv_aload_n hx hb dL_law_585 rfl (lv_at hl 3 rfl) ?_
  refine lv_iload_n hx hb dL_law_586 rfl (lv_at hl 0 rfl) ?_
  refine lv_iconst (v := 3) hx hb dL_law_587 (by decide) ?_
  refine lv_iadd hx hb dL_law_588 ?_
  rw [ix_k (i := i) (k := 3) (z := 3) rfl]
  refine va_sld hx hb hX hbl hbA hwX.2.2 (hin 3 (by omega)) dL_law_589 ?_
  rw [hcl 3 (by omega)]
  refine r_iV2 (As := [.int (xs (i + 1)), .int (xs (i + 2)), .int (xs (i + 3))]) (rest := [.int r]) S hA hKM hwM hwX (apG_s hap) (c_X7_run l hM eM) (cwV 3 hts gW_X7_run rfl rfl rfl (by decide +kernel) ⟨Nat.le_of_ble_eq_true rfl, Nat.le_of_ble_eq_true rfl⟩) (r_recv hKM hwM (kM_0 hM).1 (kM_0 hM).2 rfl) rfl hl.1 (Nat.le_of_ble_eq_true rfl) dL_law_590 ⟨hc0, hs0⟩ rfl (fun H locs hwM hwX => ?_)
  refine lv_icmp_eq (tgt := 1283) hx hb dL_law_593 (by decide) (fun c_ => ?_) (fun c_ => ?_)
  · exact W.widen (Nat.le_add_right _ _) (Nat.le_add_right _ _) (kk _ _ ⟨G, K, N, ln, x2, y2, cT, cS, hG, hM, hKX, hKM, hwX, hwM, hap, hR, rfl, rfl⟩)
  · exact absurd rfl c_
set_option maxHeartbeats 4000000 in
set_option maxRecDepth 100000 in
theorem lc_12 {p : Program} {l : Launch} {e : Env} {s : State} {m : MethodId} {below : List Frame} {meth : Method} {c : Code} {b L i aX aM : Nat} {xs : Nat → Int32} {H : Heap} {locs : List Loc} {ls : Array Slot} {cells slots : Nat} {Q : State → Prop} (S : CallFix p m c cL_law 4 s #[.ref b] lw_tbl RL) (hX : va_X b L xs s s.heap) (hbl : b < s.heap.size) (hi : i + 7 ≤ L) (hL : L ≤ 3584) (I : LI (fun q => s.heap.size ≤ q) s aX aM H locs) (hl : lv_has ls 4 [(3, .int (iI (i : Int))), (2, .ref aM), (1, .ref aX), (0, .ref b)]) (hc : cells + 3 ≤ 600000) (hs : slots + 165 ≤ 7302250) (kk : ∀ (H1 : Heap) (locs1 : List Loc), LI (fun q => s.heap.size ≤ q) s aX aM H1 locs1 → W p l e room_1 s m #[.ref b] below meth c H1 locs1 (cells + 3) (slots + 165) Q (F0 m 1283 ls [])) : W p l e room_1 s m #[.ref b] below meth c H locs cells slots Q (F0 m 598 ls []) := by
  obtain ⟨G, K, N, ln, x, y, cT, cS, hG, hM, hKX, hKM, hwX, hwM, hap, hrel, rfl, rfl⟩ := I
  obtain ⟨hx, hb, hml, hown, hts⟩ := id S
  have hA : ∀ q : Nat, s.heap.size ≤ q → (fun q : Nat => s.heap.size ≤ q) q := fun _ h => h
  have hbA : ¬ (fun q : Nat => s.heap.size ≤ q) b := Nat.not_le.mpr hbl
  have hc0 : cells ≤ room_1.cells := by show cells ≤ 600000; omega
  have hs0 : slots ≤ room_1.slots := by show slots ≤ 7302250; omega
  have hcl : ∀ k : Nat, k ≤ 6 → (iI ((i + k : Nat) : Int)).toNatClampNeg = i + k := fun k hk => by rw [iI_cl (by omega)]; exact Int.toNat_natCast _
  have hin : ∀ k : Nat, k ≤ 6 → vp_in (iI ((i + k : Nat) : Int)) L := fun k hk h => by
    rcases h with h | h
    · rw [show (0 : Int32) = iI 0 from rfl, iI_lt (by omega) (by omega)] at h; omega
    · rw [hcl k hk] at h; omega
  refine lv_aload_n hx hb dL_law_598 rfl (lv_at hl 2 rfl) ?_
  refine lv_aload_n hx hb dL_law_599 rfl (lv_at hl 3 rfl) ?_
  refine lv_iload_n hx hb dL_law_600 rfl (lv_at hl 0 rfl) ?_
  refine lv_iconst (v := 1) hx hb dL_law_601 (by decide) ?_
  refine lv_iadd hx hb dL_law_602 ?_
  rw [ix_k (i := i) (k := 1) (z := 1) rfl]
  refine va_sld hx hb hX hbl hbA hwX.2.2 (hin 1 (by omega)) dL_law_603 ?_
  rw [hcl 1 (by omega)]
  obtain ⟨x2, y2, r, eX, eM, hR⟩ := k_cook (F := 60000) (by omega) hrel (xs (i + 1))
  refine r_iV2 (As := [.int (xs (i + 1))]) (rest := []) S hA hKX hwX hwM hap (c_X6_cook l hG eX) (cwV 1 hts gW_X6_cook rfl rfl rfl (by decide +kernel) ⟨Nat.le_of_ble_eq_true rfl, Nat.le_of_ble_eq_true rfl⟩) (r_recv hKX hwX (kX_0 hG).1 (kX_0 hG).2 rfl) rfl hl.1 (Nat.le_of_ble_eq_true rfl) dL_law_604 ⟨hc0, hs0⟩ rfl (fun H locs hwX hwM => ?_)
  refine lv_aload_n hx hb dL_law_607 rfl (lv_at hl 1 rfl) ?_
  refine lv_aload_n hx hb dL_law_608 rfl (lv_at hl 3 rfl) ?_
  refine lv_iload_n hx hb dL_law_609 rfl (lv_at hl 0 rfl) ?_
  refine lv_iconst (v := 1) hx hb dL_law_610 (by decide) ?_
  refine lv_iadd hx hb dL_law_611 ?_
  rw [ix_k (i := i) (k := 1) (z := 1) rfl]
  refine va_sld hx hb hX hbl hbA hwX.2.2 (hin 1 (by omega)) dL_law_612 ?_
  rw [hcl 1 (by omega)]
  refine r_iV2 (As := [.int (xs (i + 1))]) (rest := [.int r]) S hA hKM hwM hwX (apG_s hap) (c_X7_cook l hM eM) (cwV 1 hts gW_X7_cook rfl rfl rfl (by decide +kernel) ⟨Nat.le_of_ble_eq_true rfl, Nat.le_of_ble_eq_true rfl⟩) (r_recv hKM hwM (kM_0 hM).1 (kM_0 hM).2 rfl) rfl hl.1 (Nat.le_of_ble_eq_true rfl) dL_law_613 ⟨hc0, hs0⟩ rfl (fun H locs hwM hwX => ?_)
  refine lv_icmp_eq (tgt := 1283) hx hb dL_law_616 (by decide) (fun c_ => ?_) (fun c_ => ?_)
  · exact W.widen (Nat.le_add_right _ _) (Nat.le_add_right _ _) (kk _ _ ⟨G, K, N, ln, x2, y2, cT, cS, hG, hM, hKX, hKM, hwX, hwM, hap, hR, rfl, rfl⟩)
  · exact absurd rfl c_
set_option maxHeartbeats 4000000 in
set_option maxRecDepth 100000 in
theorem lc_13 {p : Program} {l : Launch} {e : Env} {s : State} {m : MethodId} {below : List Frame} {meth : Method} {c : Code} {b L i aX aM : Nat} {xs : Nat → Int32} {H : Heap} {locs : List Loc} {ls : Array Slot} {cells slots : Nat} {Q : State → Prop} (S : CallFix p m c cL_law 4 s #[.ref b] lw_tbl RL) (hX : va_X b L xs s s.heap) (hbl : b < s.heap.size) (hi : i + 7 ≤ L) (hL : L ≤ 3584) (I : LI (fun q => s.heap.size ≤ q) s aX aM H locs) (hl : lv_has ls 4 [(3, .int (iI (i : Int))), (2, .ref aM), (1, .ref aX), (0, .ref b)]) (hc : cells + 3 ≤ 600000) (hs : slots + 165 ≤ 7302250) (kk : ∀ (H1 : Heap) (locs1 : List Loc), LI (fun q => s.heap.size ≤ q) s aX aM H1 locs1 → W p l e room_1 s m #[.ref b] below meth c H1 locs1 (cells + 3) (slots + 165) Q (F0 m 1283 ls [])) : W p l e room_1 s m #[.ref b] below meth c H locs cells slots Q (F0 m 621 ls []) := by
  obtain ⟨G, K, N, ln, x, y, cT, cS, hG, hM, hKX, hKM, hwX, hwM, hap, hrel, rfl, rfl⟩ := I
  obtain ⟨hx, hb, hml, hown, hts⟩ := id S
  have hA : ∀ q : Nat, s.heap.size ≤ q → (fun q : Nat => s.heap.size ≤ q) q := fun _ h => h
  have hbA : ¬ (fun q : Nat => s.heap.size ≤ q) b := Nat.not_le.mpr hbl
  have hc0 : cells ≤ room_1.cells := by show cells ≤ 600000; omega
  have hs0 : slots ≤ room_1.slots := by show slots ≤ 7302250; omega
  have hcl : ∀ k : Nat, k ≤ 6 → (iI ((i + k : Nat) : Int)).toNatClampNeg = i + k := fun k hk => by rw [iI_cl (by omega)]; exact Int.toNat_natCast _
  have hin : ∀ k : Nat, k ≤ 6 → vp_in (iI ((i + k : Nat) : Int)) L := fun k hk h => by
    rcases h with h | h
    · rw [show (0 : Int32) = iI 0 from rfl, iI_lt (by omega) (by omega)] at h; omega
    · rw [hcl k hk] at h; omega
  refine lv_aload_n hx hb dL_law_621 rfl (lv_at hl 2 rfl) ?_
  refine lv_aload_n hx hb dL_law_622 rfl (lv_at hl 3 rfl) ?_
  refine lv_iload_n hx hb dL_law_623 rfl (lv_at hl 0 rfl) ?_
  refine lv_iconst (v := 1) hx hb dL_law_624 (by decide) ?_
  refine lv_iadd hx hb dL_law_625 ?_
  rw [ix_k (i := i) (k := 1) (z := 1) rfl]
  refine va_sld hx hb hX hbl hbA hwX.2.2 (hin 1 (by omega)) dL_law_626 ?_
  rw [hcl 1 (by omega)]
  obtain ⟨x2, y2, r, eX, eM, hR⟩ := k_raise (F := 60000) (by omega) hrel (xs (i + 1))
  refine r_iV2 (As := [.int (xs (i + 1))]) (rest := []) S hA hKX hwX hwM hap (c_X6_raise l hG eX) (cwV 1 hts gW_X6_raise rfl rfl rfl (by decide +kernel) ⟨Nat.le_of_ble_eq_true rfl, Nat.le_of_ble_eq_true rfl⟩) (r_recv hKX hwX (kX_0 hG).1 (kX_0 hG).2 rfl) rfl hl.1 (Nat.le_of_ble_eq_true rfl) dL_law_627 ⟨hc0, hs0⟩ rfl (fun H locs hwX hwM => ?_)
  refine lv_aload_n hx hb dL_law_630 rfl (lv_at hl 1 rfl) ?_
  refine lv_aload_n hx hb dL_law_631 rfl (lv_at hl 3 rfl) ?_
  refine lv_iload_n hx hb dL_law_632 rfl (lv_at hl 0 rfl) ?_
  refine lv_iconst (v := 1) hx hb dL_law_633 (by decide) ?_
  refine lv_iadd hx hb dL_law_634 ?_
  rw [ix_k (i := i) (k := 1) (z := 1) rfl]
  refine va_sld hx hb hX hbl hbA hwX.2.2 (hin 1 (by omega)) dL_law_635 ?_
  rw [hcl 1 (by omega)]
  refine r_iV2 (As := [.int (xs (i + 1))]) (rest := [.int r]) S hA hKM hwM hwX (apG_s hap) (c_X7_raise l hM eM) (cwV 1 hts gW_X7_raise rfl rfl rfl (by decide +kernel) ⟨Nat.le_of_ble_eq_true rfl, Nat.le_of_ble_eq_true rfl⟩) (r_recv hKM hwM (kM_0 hM).1 (kM_0 hM).2 rfl) rfl hl.1 (Nat.le_of_ble_eq_true rfl) dL_law_636 ⟨hc0, hs0⟩ rfl (fun H locs hwM hwX => ?_)
  refine lv_icmp_eq (tgt := 1283) hx hb dL_law_639 (by decide) (fun c_ => ?_) (fun c_ => ?_)
  · exact W.widen (Nat.le_add_right _ _) (Nat.le_add_right _ _) (kk _ _ ⟨G, K, N, ln, x2, y2, cT, cS, hG, hM, hKX, hKM, hwX, hwM, hap, hR, rfl, rfl⟩)
  · exact absurd rfl c_
set_option maxHeartbeats 4000000 in
set_option maxRecDepth 100000 in
theorem lc_14 {p : Program} {l : Launch} {e : Env} {s : State} {m : MethodId} {below : List Frame} {meth : Method} {c : Code} {b L i aX aM : Nat} {xs : Nat → Int32} {H : Heap} {locs : List Loc} {ls : Array Slot} {cells slots : Nat} {Q : State → Prop} (S : CallFix p m c cL_law 4 s #[.ref b] lw_tbl RL) (hX : va_X b L xs s s.heap) (hbl : b < s.heap.size) (hi : i + 7 ≤ L) (hL : L ≤ 3584) (I : LI (fun q => s.heap.size ≤ q) s aX aM H locs) (hl : lv_has ls 4 [(3, .int (iI (i : Int))), (2, .ref aM), (1, .ref aX), (0, .ref b)]) (hc : cells + 3 ≤ 600000) (hs : slots + 165 ≤ 7302250) (kk : ∀ (H1 : Heap) (locs1 : List Loc), LI (fun q => s.heap.size ≤ q) s aX aM H1 locs1 → W p l e room_1 s m #[.ref b] below meth c H1 locs1 (cells + 3) (slots + 165) Q (F0 m 1283 ls [])) : W p l e room_1 s m #[.ref b] below meth c H locs cells slots Q (F0 m 644 ls []) := by
  obtain ⟨G, K, N, ln, x, y, cT, cS, hG, hM, hKX, hKM, hwX, hwM, hap, hrel, rfl, rfl⟩ := I
  obtain ⟨hx, hb, hml, hown, hts⟩ := id S
  have hA : ∀ q : Nat, s.heap.size ≤ q → (fun q : Nat => s.heap.size ≤ q) q := fun _ h => h
  have hbA : ¬ (fun q : Nat => s.heap.size ≤ q) b := Nat.not_le.mpr hbl
  have hc0 : cells ≤ room_1.cells := by show cells ≤ 600000; omega
  have hs0 : slots ≤ room_1.slots := by show slots ≤ 7302250; omega
  have hcl : ∀ k : Nat, k ≤ 6 → (iI ((i + k : Nat) : Int)).toNatClampNeg = i + k := fun k hk => by rw [iI_cl (by omega)]; exact Int.toNat_natCast _
  have hin : ∀ k : Nat, k ≤ 6 → vp_in (iI ((i + k : Nat) : Int)) L := fun k hk h => by
    rcases h with h | h
    · rw [show (0 : Int32) = iI 0 from rfl, iI_lt (by omega) (by omega)] at h; omega
    · rw [hcl k hk] at h; omega
  refine lv_aload_n hx hb dL_law_644 rfl (lv_at hl 2 rfl) ?_
  refine lv_aload_n hx hb dL_law_645 rfl (lv_at hl 3 rfl) ?_
  refine lv_iload_n hx hb dL_law_646 rfl (lv_at hl 0 rfl) ?_
  refine lv_iconst (v := 1) hx hb dL_law_647 (by decide) ?_
  refine lv_iadd hx hb dL_law_648 ?_
  rw [ix_k (i := i) (k := 1) (z := 1) rfl]
  refine va_sld hx hb hX hbl hbA hwX.2.2 (hin 1 (by omega)) dL_law_649 ?_
  rw [hcl 1 (by omega)]
  obtain ⟨x2, y2, r, eX, eM, hR⟩ := k_exile (F := 60000) (by omega) hrel (xs (i + 1))
  refine r_iV2 (As := [.int (xs (i + 1))]) (rest := []) S hA hKX hwX hwM hap (c_X6_exile l hG eX) (cwV 1 hts gW_X6_exile rfl rfl rfl (by decide +kernel) ⟨Nat.le_of_ble_eq_true rfl, Nat.le_of_ble_eq_true rfl⟩) (r_recv hKX hwX (kX_0 hG).1 (kX_0 hG).2 rfl) rfl hl.1 (Nat.le_of_ble_eq_true rfl) dL_law_650 ⟨hc0, hs0⟩ rfl (fun H locs hwX hwM => ?_)
  refine lv_aload_n hx hb dL_law_653 rfl (lv_at hl 1 rfl) ?_
  refine lv_aload_n hx hb dL_law_654 rfl (lv_at hl 3 rfl) ?_
  refine lv_iload_n hx hb dL_law_655 rfl (lv_at hl 0 rfl) ?_
  refine lv_iconst (v := 1) hx hb dL_law_656 (by decide) ?_
  refine lv_iadd hx hb dL_law_657 ?_
  rw [ix_k (i := i) (k := 1) (z := 1) rfl]
  refine va_sld hx hb hX hbl hbA hwX.2.2 (hin 1 (by omega)) dL_law_658 ?_
  rw [hcl 1 (by omega)]
  refine r_iV2 (As := [.int (xs (i + 1))]) (rest := [.int r]) S hA hKM hwM hwX (apG_s hap) (c_X7_exile l hM eM) (cwV 1 hts gW_X7_exile rfl rfl rfl (by decide +kernel) ⟨Nat.le_of_ble_eq_true rfl, Nat.le_of_ble_eq_true rfl⟩) (r_recv hKM hwM (kM_0 hM).1 (kM_0 hM).2 rfl) rfl hl.1 (Nat.le_of_ble_eq_true rfl) dL_law_659 ⟨hc0, hs0⟩ rfl (fun H locs hwM hwX => ?_)
  refine lv_icmp_eq (tgt := 1283) hx hb dL_law_662 (by decide) (fun c_ => ?_) (fun c_ => ?_)
  · exact W.widen (Nat.le_add_right _ _) (Nat.le_add_right _ _) (kk _ _ ⟨G, K, N, ln, x2, y2, cT, cS, hG, hM, hKX, hKM, hwX, hwM, hap, hR, rfl, rfl⟩)
  · exact absurd rfl c_
set_option maxHeartbeats 4000000 in
set_option maxRecDepth 100000 in
theorem lc_15 {p : Program} {l : Launch} {e : Env} {s : State} {m : MethodId} {below : List Frame} {meth : Method} {c : Code} {b L i aX aM : Nat} {xs : Nat → Int32} {H : Heap} {locs : List Loc} {ls : Array Slot} {cells slots : Nat} {Q : State → Prop} (S : CallFix p m c cL_law 4 s #[.ref b] lw_tbl RL) (hX : va_X b L xs s s.heap) (hbl : b < s.heap.size) (hi : i + 7 ≤ L) (hL : L ≤ 3584) (I : LI (fun q => s.heap.size ≤ q) s aX aM H locs) (hl : lv_has ls 4 [(3, .int (iI (i : Int))), (2, .ref aM), (1, .ref aX), (0, .ref b)]) (hc : cells + 3 ≤ 600000) (hs : slots + 165 ≤ 7302250) (kk : ∀ (H1 : Heap) (locs1 : List Loc), LI (fun q => s.heap.size ≤ q) s aX aM H1 locs1 → W p l e room_1 s m #[.ref b] below meth c H1 locs1 (cells + 3) (slots + 165) Q (F0 m 1283 ls [])) : W p l e room_1 s m #[.ref b] below meth c H locs cells slots Q (F0 m 667 ls []) := by
  obtain ⟨G, K, N, ln, x, y, cT, cS, hG, hM, hKX, hKM, hwX, hwM, hap, hrel, rfl, rfl⟩ := I
  obtain ⟨hx, hb, hml, hown, hts⟩ := id S
  have hA : ∀ q : Nat, s.heap.size ≤ q → (fun q : Nat => s.heap.size ≤ q) q := fun _ h => h
  have hbA : ¬ (fun q : Nat => s.heap.size ≤ q) b := Nat.not_le.mpr hbl
  have hc0 : cells ≤ room_1.cells := by show cells ≤ 600000; omega
  have hs0 : slots ≤ room_1.slots := by show slots ≤ 7302250; omega
  have hcl : ∀ k : Nat, k ≤ 6 → (iI ((i + k : Nat) : Int)).toNatClampNeg = i + k := fun k hk => by rw [iI_cl (by omega)]; exact Int.toNat_natCast _
  have hin : ∀ k : Nat, k ≤ 6 → vp_in (iI ((i + k : Nat) : Int)) L := fun k hk h => by
    rcases h with h | h
    · rw [show (0 : Int32) = iI 0 from rfl, iI_lt (by omega) (by omega)] at h; omega
    · rw [hcl k hk] at h; omega
  refine lv_aload_n hx hb dL_law_667 rfl (lv_at hl 2 rfl) ?_
  refine lv_aload_n hx hb dL_law_668 rfl (lv_at hl 3 rfl) ?_
  refine lv_iload_n hx hb dL_law_669 rfl (lv_at hl 0 rfl) ?_
  refine lv_iconst (v := 1) hx hb dL_law_670 (by decide) ?_
  refine lv_iadd hx hb dL_law_671 ?_
  rw [ix_k (i := i) (k := 1) (z := 1) rfl]
  refine va_sld hx hb hX hbl hbA hwX.2.2 (hin 1 (by omega)) dL_law_672 ?_
  rw [hcl 1 (by omega)]
  refine lv_aload_n hx hb dL_law_673 rfl (lv_at hl 3 rfl) ?_
  refine lv_iload_n hx hb dL_law_674 rfl (lv_at hl 0 rfl) ?_
  refine lv_iconst (v := 2) hx hb dL_law_675 (by decide) ?_
  refine lv_iadd hx hb dL_law_676 ?_
  rw [ix_k (i := i) (k := 2) (z := 2) rfl]
  refine va_sld hx hb hX hbl hbA hwX.2.2 (hin 2 (by omega)) dL_law_677 ?_
  rw [hcl 2 (by omega)]
  obtain ⟨x2, y2, r, eX, eM, hR⟩ := k_seat (F := 60000) (by omega) hrel (xs (i + 1)) (xs (i + 2))
  refine r_iV2 (As := [.int (xs (i + 1)), .int (xs (i + 2))]) (rest := []) S hA hKX hwX hwM hap (c_X6_seat l hG eX) (cwV 2 hts gW_X6_seat rfl rfl rfl (by decide +kernel) ⟨Nat.le_of_ble_eq_true rfl, Nat.le_of_ble_eq_true rfl⟩) (r_recv hKX hwX (kX_0 hG).1 (kX_0 hG).2 rfl) rfl hl.1 (Nat.le_of_ble_eq_true rfl) dL_law_678 ⟨hc0, hs0⟩ rfl (fun H locs hwX hwM => ?_)
  refine lv_aload_n hx hb dL_law_681 rfl (lv_at hl 1 rfl) ?_
  refine lv_aload_n hx hb dL_law_682 rfl (lv_at hl 3 rfl) ?_
  refine lv_iload_n hx hb dL_law_683 rfl (lv_at hl 0 rfl) ?_
  refine lv_iconst (v := 1) hx hb dL_law_684 (by decide) ?_
  refine lv_iadd hx hb dL_law_685 ?_
  rw [ix_k (i := i) (k := 1) (z := 1) rfl]
  refine va_sld hx hb hX hbl hbA hwX.2.2 (hin 1 (by omega)) dL_law_686 ?_
  rw [hcl 1 (by omega)]
  refine lv_aload_n hx hb dL_law_687 rfl (lv_at hl 3 rfl) ?_
  refine lv_iload_n hx hb dL_law_688 rfl (lv_at hl 0 rfl) ?_
  refine lv_iconst (v := 2) hx hb dL_law_689 (by decide) ?_
  refine lv_iadd hx hb dL_law_690 ?_
  rw [ix_k (i := i) (k := 2) (z := 2) rfl]
  refine va_sld hx hb hX hbl hbA hwX.2.2 (hin 2 (by omega)) dL_law_691 ?_
  rw [hcl 2 (by omega)]
  refine r_iV2 (As := [.int (xs (i + 1)), .int (xs (i + 2))]) (rest := [.int r]) S hA hKM hwM hwX (apG_s hap) (c_X7_seat l hM eM) (cwV 2 hts gW_X7_seat rfl rfl rfl (by decide +kernel) ⟨Nat.le_of_ble_eq_true rfl, Nat.le_of_ble_eq_true rfl⟩) (r_recv hKM hwM (kM_0 hM).1 (kM_0 hM).2 rfl) rfl hl.1 (Nat.le_of_ble_eq_true rfl) dL_law_692 ⟨hc0, hs0⟩ rfl (fun H locs hwM hwX => ?_)
  refine lv_icmp_eq (tgt := 1283) hx hb dL_law_695 (by decide) (fun c_ => ?_) (fun c_ => ?_)
  · exact W.widen (Nat.le_add_right _ _) (Nat.le_add_right _ _) (kk _ _ ⟨G, K, N, ln, x2, y2, cT, cS, hG, hM, hKX, hKM, hwX, hwM, hap, hR, rfl, rfl⟩)
  · exact absurd rfl c_
set_option maxHeartbeats 4000000 in
set_option maxRecDepth 100000 in
theorem lc_16 {p : Program} {l : Launch} {e : Env} {s : State} {m : MethodId} {below : List Frame} {meth : Method} {c : Code} {b L i aX aM : Nat} {xs : Nat → Int32} {H : Heap} {locs : List Loc} {ls : Array Slot} {cells slots : Nat} {Q : State → Prop} (S : CallFix p m c cL_law 4 s #[.ref b] lw_tbl RL) (hX : va_X b L xs s s.heap) (hbl : b < s.heap.size) (hi : i + 7 ≤ L) (hL : L ≤ 3584) (I : LI (fun q => s.heap.size ≤ q) s aX aM H locs) (hl : lv_has ls 4 [(3, .int (iI (i : Int))), (2, .ref aM), (1, .ref aX), (0, .ref b)]) (hc : cells + 3 ≤ 600000) (hs : slots + 165 ≤ 7302250) (kk : ∀ (H1 : Heap) (locs1 : List Loc), LI (fun q => s.heap.size ≤ q) s aX aM H1 locs1 → W p l e room_1 s m #[.ref b] below meth c H1 locs1 (cells + 3) (slots + 165) Q (F0 m 1283 ls [])) : W p l e room_1 s m #[.ref b] below meth c H locs cells slots Q (F0 m 700 ls []) := by
  obtain ⟨G, K, N, ln, x, y, cT, cS, hG, hM, hKX, hKM, hwX, hwM, hap, hrel, rfl, rfl⟩ := I
  obtain ⟨hx, hb, hml, hown, hts⟩ := id S
  have hA : ∀ q : Nat, s.heap.size ≤ q → (fun q : Nat => s.heap.size ≤ q) q := fun _ h => h
  have hbA : ¬ (fun q : Nat => s.heap.size ≤ q) b := Nat.not_le.mpr hbl
  have hc0 : cells ≤ room_1.cells := by show cells ≤ 600000; omega
  have hs0 : slots ≤ room_1.slots := by show slots ≤ 7302250; omega
  have hcl : ∀ k : Nat, k ≤ 6 → (iI ((i + k : Nat) : Int)).toNatClampNeg = i + k := fun k hk => by rw [iI_cl (by omega)]; exact Int.toNat_natCast _
  have hin : ∀ k : Nat, k ≤ 6 → vp_in (iI ((i + k : Nat) : Int)) L := fun k hk h => by
    rcases h with h | h
    · rw [show (0 : Int32) = iI 0 from rfl, iI_lt (by omega) (by omega)] at h; omega
    · rw [hcl k hk] at h; omega
  refine lv_aload_n hx hb dL_law_700 rfl (lv_at hl 2 rfl) ?_
  refine lv_aload_n hx hb dL_law_701 rfl (lv_at hl 3 rfl) ?_
  refine lv_iload_n hx hb dL_law_702 rfl (lv_at hl 0 rfl) ?_
  refine lv_iconst (v := 1) hx hb dL_law_703 (by decide) ?_
  refine lv_iadd hx hb dL_law_704 ?_
  rw [ix_k (i := i) (k := 1) (z := 1) rfl]
  refine va_sld hx hb hX hbl hbA hwX.2.2 (hin 1 (by omega)) dL_law_705 ?_
  rw [hcl 1 (by omega)]
  obtain ⟨x2, y2, r, eX, eM, hR⟩ := k_order (F := 60000) (by omega) hrel (xs (i + 1))
  refine r_iV2 (As := [.int (xs (i + 1))]) (rest := []) S hA hKX hwX hwM hap (c_X6_order l hG eX) (cwV 1 hts gW_X6_order rfl rfl rfl (by decide +kernel) ⟨Nat.le_of_ble_eq_true rfl, Nat.le_of_ble_eq_true rfl⟩) (r_recv hKX hwX (kX_0 hG).1 (kX_0 hG).2 rfl) rfl hl.1 (Nat.le_of_ble_eq_true rfl) dL_law_706 ⟨hc0, hs0⟩ rfl (fun H locs hwX hwM => ?_)
  refine lv_aload_n hx hb dL_law_709 rfl (lv_at hl 1 rfl) ?_
  refine lv_aload_n hx hb dL_law_710 rfl (lv_at hl 3 rfl) ?_
  refine lv_iload_n hx hb dL_law_711 rfl (lv_at hl 0 rfl) ?_
  refine lv_iconst (v := 1) hx hb dL_law_712 (by decide) ?_
  refine lv_iadd hx hb dL_law_713 ?_
  rw [ix_k (i := i) (k := 1) (z := 1) rfl]
  refine va_sld hx hb hX hbl hbA hwX.2.2 (hin 1 (by omega)) dL_law_714 ?_
  rw [hcl 1 (by omega)]
  refine r_iV2 (As := [.int (xs (i + 1))]) (rest := [.int r]) S hA hKM hwM hwX (apG_s hap) (c_X7_order l hM eM) (cwV 1 hts gW_X7_order rfl rfl rfl (by decide +kernel) ⟨Nat.le_of_ble_eq_true rfl, Nat.le_of_ble_eq_true rfl⟩) (r_recv hKM hwM (kM_0 hM).1 (kM_0 hM).2 rfl) rfl hl.1 (Nat.le_of_ble_eq_true rfl) dL_law_715 ⟨hc0, hs0⟩ rfl (fun H locs hwM hwX => ?_)
  refine lv_icmp_eq (tgt := 1283) hx hb dL_law_718 (by decide) (fun c_ => ?_) (fun c_ => ?_)
  · exact W.widen (Nat.le_add_right _ _) (Nat.le_add_right _ _) (kk _ _ ⟨G, K, N, ln, x2, y2, cT, cS, hG, hM, hKX, hKM, hwX, hwM, hap, hR, rfl, rfl⟩)
  · exact absurd rfl c_
set_option maxHeartbeats 4000000 in
set_option maxRecDepth 100000 in
theorem lc_17 {p : Program} {l : Launch} {e : Env} {s : State} {m : MethodId} {below : List Frame} {meth : Method} {c : Code} {b L i aX aM : Nat} {xs : Nat → Int32} {H : Heap} {locs : List Loc} {ls : Array Slot} {cells slots : Nat} {Q : State → Prop} (S : CallFix p m c cL_law 4 s #[.ref b] lw_tbl RL) (hX : va_X b L xs s s.heap) (hbl : b < s.heap.size) (hi : i + 7 ≤ L) (hL : L ≤ 3584) (I : LI (fun q => s.heap.size ≤ q) s aX aM H locs) (hl : lv_has ls 4 [(3, .int (iI (i : Int))), (2, .ref aM), (1, .ref aX), (0, .ref b)]) (hc : cells + 3 ≤ 600000) (hs : slots + 165 ≤ 7302250) (kk : ∀ (H1 : Heap) (locs1 : List Loc), LI (fun q => s.heap.size ≤ q) s aX aM H1 locs1 → W p l e room_1 s m #[.ref b] below meth c H1 locs1 (cells + 3) (slots + 165) Q (F0 m 1283 ls [])) : W p l e room_1 s m #[.ref b] below meth c H locs cells slots Q (F0 m 723 ls []) := by
  obtain ⟨G, K, N, ln, x, y, cT, cS, hG, hM, hKX, hKM, hwX, hwM, hap, hrel, rfl, rfl⟩ := I
  obtain ⟨hx, hb, hml, hown, hts⟩ := id S
  have hA : ∀ q : Nat, s.heap.size ≤ q → (fun q : Nat => s.heap.size ≤ q) q := fun _ h => h
  have hbA : ¬ (fun q : Nat => s.heap.size ≤ q) b := Nat.not_le.mpr hbl
  have hc0 : cells ≤ room_1.cells := by show cells ≤ 600000; omega
  have hs0 : slots ≤ room_1.slots := by show slots ≤ 7302250; omega
  have hcl : ∀ k : Nat, k ≤ 6 → (iI ((i + k : Nat) : Int)).toNatClampNeg = i + k := fun k hk => by rw [iI_cl (by omega)]; exact Int.toNat_natCast _
  have hin : ∀ k : Nat, k ≤ 6 → vp_in (iI ((i + k : Nat) : Int)) L := fun k hk h => by
    rcases h with h | h
    · rw [show (0 : Int32) = iI 0 from rfl, iI_lt (by omega) (by omega)] at h; omega
    · rw [hcl k hk] at h; omega
  refine lv_aload_n hx hb dL_law_723 rfl (lv_at hl 2 rfl) ?_
  refine lv_aload_n hx hb dL_law_724 rfl (lv_at hl 3 rfl) ?_
  refine lv_iload_n hx hb dL_law_725 rfl (lv_at hl 0 rfl) ?_
  refine lv_iconst (v := 1) hx hb dL_law_726 (by decide) ?_
  refine lv_iadd hx hb dL_law_727 ?_
  rw [ix_k (i := i) (k := 1) (z := 1) rfl]
  refine va_sld hx hb hX hbl hbA hwX.2.2 (hin 1 (by omega)) dL_law_728 ?_
  rw [hcl 1 (by omega)]
  obtain ⟨x2, y2, r, eX, eM, hR⟩ := k_mean (F := 60000) (by omega) hrel (xs (i + 1))
  refine r_lV2 (As := [.int (xs (i + 1))]) (rest := []) S hA hKX hwX hwM hap (c_X6_mean l hG eX) (cwV 1 hts gW_X6_mean rfl rfl rfl (by decide +kernel) ⟨Nat.le_of_ble_eq_true rfl, Nat.le_of_ble_eq_true rfl⟩) (r_recv hKX hwX (kX_0 hG).1 (kX_0 hG).2 rfl) rfl hl.1 (Nat.le_of_ble_eq_true rfl) dL_law_729 ⟨hc0, hs0⟩ rfl (fun H locs hwX hwM => ?_)
  refine lv_aload_n hx hb dL_law_732 rfl (lv_at hl 1 rfl) ?_
  refine lv_aload_n hx hb dL_law_733 rfl (lv_at hl 3 rfl) ?_
  refine lv_iload_n hx hb dL_law_734 rfl (lv_at hl 0 rfl) ?_
  refine lv_iconst (v := 1) hx hb dL_law_735 (by decide) ?_
  refine lv_iadd hx hb dL_law_736 ?_
  rw [ix_k (i := i) (k := 1) (z := 1) rfl]
  refine va_sld hx hb hX hbl hbA hwX.2.2 (hin 1 (by omega)) dL_law_737 ?_
  rw [hcl 1 (by omega)]
  refine r_lV2 (As := [.int (xs (i + 1))]) (rest := [.long r]) S hA hKM hwM hwX (apG_s hap) (c_X7_mean l hM eM) (cwV 1 hts gW_X7_mean rfl rfl rfl (by decide +kernel) ⟨Nat.le_of_ble_eq_true rfl, Nat.le_of_ble_eq_true rfl⟩) (r_recv hKM hwM (kM_0 hM).1 (kM_0 hM).2 rfl) rfl hl.1 (Nat.le_of_ble_eq_true rfl) dL_law_738 ⟨hc0, hs0⟩ rfl (fun H locs hwM hwX => ?_)
  refine W.lcmp hx hb dL_law_741 ?_
  refine lv_if_eq (tgt := 1283) hx hb dL_law_742 (by decide) (fun c_ => ?_) (fun c_ => ?_)
  · exact W.widen (Nat.le_add_right _ _) (Nat.le_add_right _ _) (kk _ _ ⟨G, K, N, ln, x2, y2, cT, cS, hG, hM, hKX, hKM, hwX, hwM, hap, hR, rfl, rfl⟩)
  · exact absurd (by simp [lg_cmp]) c_
set_option maxHeartbeats 4000000 in
set_option maxRecDepth 100000 in
theorem lc_18 {p : Program} {l : Launch} {e : Env} {s : State} {m : MethodId} {below : List Frame} {meth : Method} {c : Code} {b L i aX aM : Nat} {xs : Nat → Int32} {H : Heap} {locs : List Loc} {ls : Array Slot} {cells slots : Nat} {Q : State → Prop} (S : CallFix p m c cL_law 4 s #[.ref b] lw_tbl RL) (hX : va_X b L xs s s.heap) (hbl : b < s.heap.size) (hi : i + 7 ≤ L) (hL : L ≤ 3584) (I : LI (fun q => s.heap.size ≤ q) s aX aM H locs) (hl : lv_has ls 4 [(3, .int (iI (i : Int))), (2, .ref aM), (1, .ref aX), (0, .ref b)]) (hc : cells + 3 ≤ 600000) (hs : slots + 165 ≤ 7302250) (kk : ∀ (H1 : Heap) (locs1 : List Loc), LI (fun q => s.heap.size ≤ q) s aX aM H1 locs1 → W p l e room_1 s m #[.ref b] below meth c H1 locs1 (cells + 3) (slots + 165) Q (F0 m 1283 ls [])) : W p l e room_1 s m #[.ref b] below meth c H locs cells slots Q (F0 m 747 ls []) := by
  obtain ⟨G, K, N, ln, x, y, cT, cS, hG, hM, hKX, hKM, hwX, hwM, hap, hrel, rfl, rfl⟩ := I
  obtain ⟨hx, hb, hml, hown, hts⟩ := id S
  have hA : ∀ q : Nat, s.heap.size ≤ q → (fun q : Nat => s.heap.size ≤ q) q := fun _ h => h
  have hbA : ¬ (fun q : Nat => s.heap.size ≤ q) b := Nat.not_le.mpr hbl
  have hc0 : cells ≤ room_1.cells := by show cells ≤ 600000; omega
  have hs0 : slots ≤ room_1.slots := by show slots ≤ 7302250; omega
  have hcl : ∀ k : Nat, k ≤ 6 → (iI ((i + k : Nat) : Int)).toNatClampNeg = i + k := fun k hk => by rw [iI_cl (by omega)]; exact Int.toNat_natCast _
  have hin : ∀ k : Nat, k ≤ 6 → vp_in (iI ((i + k : Nat) : Int)) L := fun k hk h => by
    rcases h with h | h
    · rw [show (0 : Int32) = iI 0 from rfl, iI_lt (by omega) (by omega)] at h; omega
    · rw [hcl k hk] at h; omega
  refine lv_aload_n hx hb dL_law_747 rfl (lv_at hl 2 rfl) ?_
  refine lv_aload_n hx hb dL_law_748 rfl (lv_at hl 3 rfl) ?_
  refine lv_iload_n hx hb dL_law_749 rfl (lv_at hl 0 rfl) ?_
  refine lv_iconst (v := 1) hx hb dL_law_750 (by decide) ?_
  refine lv_iadd hx hb dL_law_751 ?_
  rw [ix_k (i := i) (k := 1) (z := 1) rfl]
  refine va_sld hx hb hX hbl hbA hwX.2.2 (hin 1 (by omega)) dL_law_752 ?_
  rw [hcl 1 (by omega)]
  obtain ⟨x2, y2, r, eX, eM, hR⟩ := k_judge (F := 60000) (by omega) hrel (xs (i + 1))
  refine r_iV2 (As := [.int (xs (i + 1))]) (rest := []) S hA hKX hwX hwM hap (c_X6_judge l hG eX) (cwV 1 hts gW_X6_judge rfl rfl rfl (by decide +kernel) ⟨Nat.le_of_ble_eq_true rfl, Nat.le_of_ble_eq_true rfl⟩) (r_recv hKX hwX (kX_0 hG).1 (kX_0 hG).2 rfl) rfl hl.1 (Nat.le_of_ble_eq_true rfl) dL_law_753 ⟨hc0, hs0⟩ rfl (fun H locs hwX hwM => ?_)
  refine lv_aload_n hx hb dL_law_756 rfl (lv_at hl 1 rfl) ?_
  refine lv_aload_n hx hb dL_law_757 rfl (lv_at hl 3 rfl) ?_
  refine lv_iload_n hx hb dL_law_758 rfl (lv_at hl 0 rfl) ?_
  refine lv_iconst (v := 1) hx hb dL_law_759 (by decide) ?_
  refine lv_iadd hx hb dL_law_760 ?_
  rw [ix_k (i := i) (k := 1) (z := 1) rfl]
  refine va_sld hx hb hX hbl hbA hwX.2.2 (hin 1 (by omega)) dL_law_761 ?_
  rw [hcl 1 (by omega)]
  refine r_iV2 (As := [.int (xs (i + 1))]) (rest := [.int r]) S hA hKM hwM hwX (apG_s hap) (c_X7_judge l hM eM) (cwV 1 hts gW_X7_judge rfl rfl rfl (by decide +kernel) ⟨Nat.le_of_ble_eq_true rfl, Nat.le_of_ble_eq_true rfl⟩) (r_recv hKM hwM (kM_0 hM).1 (kM_0 hM).2 rfl) rfl hl.1 (Nat.le_of_ble_eq_true rfl) dL_law_762 ⟨hc0, hs0⟩ rfl (fun H locs hwM hwX => ?_)
  refine lv_icmp_eq (tgt := 1283) hx hb dL_law_765 (by decide) (fun c_ => ?_) (fun c_ => ?_)
  · exact W.widen (Nat.le_add_right _ _) (Nat.le_add_right _ _) (kk _ _ ⟨G, K, N, ln, x2, y2, cT, cS, hG, hM, hKX, hKM, hwX, hwM, hap, hR, rfl, rfl⟩)
  · exact absurd rfl c_
set_option maxHeartbeats 4000000 in
set_option maxRecDepth 100000 in
theorem lc_19 {p : Program} {l : Launch} {e : Env} {s : State} {m : MethodId} {below : List Frame} {meth : Method} {c : Code} {b L i aX aM : Nat} {xs : Nat → Int32} {H : Heap} {locs : List Loc} {ls : Array Slot} {cells slots : Nat} {Q : State → Prop} (S : CallFix p m c cL_law 4 s #[.ref b] lw_tbl RL) (hX : va_X b L xs s s.heap) (hbl : b < s.heap.size) (hi : i + 7 ≤ L) (hL : L ≤ 3584) (I : LI (fun q => s.heap.size ≤ q) s aX aM H locs) (hl : lv_has ls 4 [(3, .int (iI (i : Int))), (2, .ref aM), (1, .ref aX), (0, .ref b)]) (hc : cells + 3 ≤ 600000) (hs : slots + 165 ≤ 7302250) (kk : ∀ (H1 : Heap) (locs1 : List Loc), LI (fun q => s.heap.size ≤ q) s aX aM H1 locs1 → W p l e room_1 s m #[.ref b] below meth c H1 locs1 (cells + 3) (slots + 165) Q (F0 m 1283 ls [])) : W p l e room_1 s m #[.ref b] below meth c H locs cells slots Q (F0 m 770 ls []) := by
  obtain ⟨G, K, N, ln, x, y, cT, cS, hG, hM, hKX, hKM, hwX, hwM, hap, hrel, rfl, rfl⟩ := I
  obtain ⟨hx, hb, hml, hown, hts⟩ := id S
  have hA : ∀ q : Nat, s.heap.size ≤ q → (fun q : Nat => s.heap.size ≤ q) q := fun _ h => h
  have hbA : ¬ (fun q : Nat => s.heap.size ≤ q) b := Nat.not_le.mpr hbl
  have hc0 : cells ≤ room_1.cells := by show cells ≤ 600000; omega
  have hs0 : slots ≤ room_1.slots := by show slots ≤ 7302250; omega
  have hcl : ∀ k : Nat, k ≤ 6 → (iI ((i + k : Nat) : Int)).toNatClampNeg = i + k := fun k hk => by rw [iI_cl (by omega)]; exact Int.toNat_natCast _
  have hin : ∀ k : Nat, k ≤ 6 → vp_in (iI ((i + k : Nat) : Int)) L := fun k hk h => by
    rcases h with h | h
    · rw [show (0 : Int32) = iI 0 from rfl, iI_lt (by omega) (by omega)] at h; omega
    · rw [hcl k hk] at h; omega
  refine lv_aload_n hx hb dL_law_770 rfl (lv_at hl 2 rfl) ?_
  refine lv_aload_n hx hb dL_law_771 rfl (lv_at hl 3 rfl) ?_
  refine lv_iload_n hx hb dL_law_772 rfl (lv_at hl 0 rfl) ?_
  refine lv_iconst (v := 1) hx hb dL_law_773 (by decide) ?_
  refine lv_iadd hx hb dL_law_774 ?_
  rw [ix_k (i := i) (k := 1) (z := 1) rfl]
  refine va_sld hx hb hX hbl hbA hwX.2.2 (hin 1 (by omega)) dL_law_775 ?_
  rw [hcl 1 (by omega)]
  refine lv_aload_n hx hb dL_law_776 rfl (lv_at hl 3 rfl) ?_
  refine lv_iload_n hx hb dL_law_777 rfl (lv_at hl 0 rfl) ?_
  refine lv_iconst (v := 2) hx hb dL_law_778 (by decide) ?_
  refine lv_iadd hx hb dL_law_779 ?_
  rw [ix_k (i := i) (k := 2) (z := 2) rfl]
  refine va_sld hx hb hX hbl hbA hwX.2.2 (hin 2 (by omega)) dL_law_780 ?_
  rw [hcl 2 (by omega)]
  refine lv_aload_n hx hb dL_law_781 rfl (lv_at hl 3 rfl) ?_
  refine lv_iload_n hx hb dL_law_782 rfl (lv_at hl 0 rfl) ?_
  refine lv_iconst (v := 3) hx hb dL_law_783 (by decide) ?_
  refine lv_iadd hx hb dL_law_784 ?_
  rw [ix_k (i := i) (k := 3) (z := 3) rfl]
  refine va_sld hx hb hX hbl hbA hwX.2.2 (hin 3 (by omega)) dL_law_785 ?_
  rw [hcl 3 (by omega)]
  obtain ⟨x2, y2, r, eX, eM, hR⟩ := k_kinds (F := 60000) (by omega) hrel (xs (i + 1)) (xs (i + 2)) (xs (i + 3))
  refine r_iV2 (As := [.int (xs (i + 1)), .int (xs (i + 2)), .int (xs (i + 3))]) (rest := []) S hA hKX hwX hwM hap (c_X6_kinds l hG eX) (cwV 3 hts gW_X6_kinds rfl rfl rfl (by decide +kernel) ⟨Nat.le_of_ble_eq_true rfl, Nat.le_of_ble_eq_true rfl⟩) (r_recv hKX hwX (kX_0 hG).1 (kX_0 hG).2 rfl) rfl hl.1 (Nat.le_of_ble_eq_true rfl) dL_law_786 ⟨hc0, hs0⟩ rfl (fun H locs hwX hwM => ?_)
  refine lv_aload_n hx hb dL_law_789 rfl (lv_at hl 1 rfl) ?_
  refine lv_aload_n hx hb dL_law_790 rfl (lv_at hl 3 rfl) ?_
  refine lv_iload_n hx hb dL_law_791 rfl (lv_at hl 0 rfl) ?_
  refine lv_iconst (v := 1) hx hb dL_law_792 (by decide) ?_
  refine lv_iadd hx hb dL_law_793 ?_
  rw [ix_k (i := i) (k := 1) (z := 1) rfl]
  refine va_sld hx hb hX hbl hbA hwX.2.2 (hin 1 (by omega)) dL_law_794 ?_
  rw [hcl 1 (by omega)]
  refine lv_aload_n hx hb dL_law_795 rfl (lv_at hl 3 rfl) ?_
  refine lv_iload_n hx hb dL_law_796 rfl (lv_at hl 0 rfl) ?_
  refine lv_iconst (v := 2) hx hb dL_law_797 (by decide) ?_
  refine lv_iadd hx hb dL_law_798 ?_
  rw [ix_k (i := i) (k := 2) (z := 2) rfl]
  refine va_sld hx hb hX hbl hbA hwX.2.2 (hin 2 (by omega)) dL_law_799 ?_
  rw [hcl 2 (by omega)]
  refine lv_aload_n hx hb dL_law_800 rfl (lv_at hl 3 rfl) ?_
  refine lv_iload_n hx hb dL_law_801 rfl (lv_at hl 0 rfl) ?_
  refine lv_iconst (v := 3) hx hb dL_law_802 (by decide) ?_
  refine lv_iadd hx hb dL_law_803 ?_
  rw [ix_k (i := i) (k := 3) (z := 3) rfl]
  refine va_sld hx hb hX hbl hbA hwX.2.2 (hin 3 (by omega)) dL_law_804 ?_
  rw [hcl 3 (by omega)]
  refine r_iV2 (As := [.int (xs (i + 1)), .int (xs (i + 2)), .int (xs (i + 3))]) (rest := [.int r]) S hA hKM hwM hwX (apG_s hap) (c_X7_kinds l hM eM) (cwV 3 hts gW_X7_kinds rfl rfl rfl (by decide +kernel) ⟨Nat.le_of_ble_eq_true rfl, Nat.le_of_ble_eq_true rfl⟩) (r_recv hKM hwM (kM_0 hM).1 (kM_0 hM).2 rfl) rfl hl.1 (Nat.le_of_ble_eq_true rfl) dL_law_805 ⟨hc0, hs0⟩ rfl (fun H locs hwM hwX => ?_)
  refine lv_icmp_eq (tgt := 1283) hx hb dL_law_808 (by decide) (fun c_ => ?_) (fun c_ => ?_)
  · exact W.widen (Nat.le_add_right _ _) (Nat.le_add_right _ _) (kk _ _ ⟨G, K, N, ln, x2, y2, cT, cS, hG, hM, hKX, hKM, hwX, hwM, hap, hR, rfl, rfl⟩)
  · exact absurd rfl c_
set_option maxHeartbeats 4000000 in
set_option maxRecDepth 100000 in
theorem lc_20 {p : Program} {l : Launch} {e : Env} {s : State} {m : MethodId} {below : List Frame} {meth : Method} {c : Code} {b L i aX aM : Nat} {xs : Nat → Int32} {H : Heap} {locs : List Loc} {ls : Array Slot} {cells slots : Nat} {Q : State → Prop} (S : CallFix p m c cL_law 4 s #[.ref b] lw_tbl RL) (hX : va_X b L xs s s.heap) (hbl : b < s.heap.size) (hi : i + 7 ≤ L) (hL : L ≤ 3584) (I : LI (fun q => s.heap.size ≤ q) s aX aM H locs) (hl : lv_has ls 4 [(3, .int (iI (i : Int))), (2, .ref aM), (1, .ref aX), (0, .ref b)]) (hc : cells + 3 ≤ 600000) (hs : slots + 165 ≤ 7302250) (kk : ∀ (H1 : Heap) (locs1 : List Loc), LI (fun q => s.heap.size ≤ q) s aX aM H1 locs1 → W p l e room_1 s m #[.ref b] below meth c H1 locs1 (cells + 3) (slots + 165) Q (F0 m 1283 ls [])) : W p l e room_1 s m #[.ref b] below meth c H locs cells slots Q (F0 m 813 ls []) := by
  obtain ⟨G, K, N, ln, x, y, cT, cS, hG, hM, hKX, hKM, hwX, hwM, hap, hrel, rfl, rfl⟩ := I
  obtain ⟨hx, hb, hml, hown, hts⟩ := id S
  have hA : ∀ q : Nat, s.heap.size ≤ q → (fun q : Nat => s.heap.size ≤ q) q := fun _ h => h
  have hbA : ¬ (fun q : Nat => s.heap.size ≤ q) b := Nat.not_le.mpr hbl
  have hc0 : cells ≤ room_1.cells := by show cells ≤ 600000; omega
  have hs0 : slots ≤ room_1.slots := by show slots ≤ 7302250; omega
  have hcl : ∀ k : Nat, k ≤ 6 → (iI ((i + k : Nat) : Int)).toNatClampNeg = i + k := fun k hk => by rw [iI_cl (by omega)]; exact Int.toNat_natCast _
  have hin : ∀ k : Nat, k ≤ 6 → vp_in (iI ((i + k : Nat) : Int)) L := fun k hk h => by
    rcases h with h | h
    · rw [show (0 : Int32) = iI 0 from rfl, iI_lt (by omega) (by omega)] at h; omega
    · rw [hcl k hk] at h; omega
  refine lv_aload_n hx hb dL_law_813 rfl (lv_at hl 2 rfl) ?_
  refine lv_aload_n hx hb dL_law_814 rfl (lv_at hl 3 rfl) ?_
  refine lv_iload_n hx hb dL_law_815 rfl (lv_at hl 0 rfl) ?_
  refine lv_iconst (v := 1) hx hb dL_law_816 (by decide) ?_
  refine lv_iadd hx hb dL_law_817 ?_
  rw [ix_k (i := i) (k := 1) (z := 1) rfl]
  refine va_sld hx hb hX hbl hbA hwX.2.2 (hin 1 (by omega)) dL_law_818 ?_
  rw [hcl 1 (by omega)]
  refine lv_aload_n hx hb dL_law_819 rfl (lv_at hl 3 rfl) ?_
  refine lv_iload_n hx hb dL_law_820 rfl (lv_at hl 0 rfl) ?_
  refine lv_iconst (v := 2) hx hb dL_law_821 (by decide) ?_
  refine lv_iadd hx hb dL_law_822 ?_
  rw [ix_k (i := i) (k := 2) (z := 2) rfl]
  refine va_sld hx hb hX hbl hbA hwX.2.2 (hin 2 (by omega)) dL_law_823 ?_
  rw [hcl 2 (by omega)]
  refine lv_aload_n hx hb dL_law_824 rfl (lv_at hl 3 rfl) ?_
  refine lv_iload_n hx hb dL_law_825 rfl (lv_at hl 0 rfl) ?_
  refine lv_iconst (v := 3) hx hb dL_law_826 (by decide) ?_
  refine lv_iadd hx hb dL_law_827 ?_
  rw [ix_k (i := i) (k := 3) (z := 3) rfl]
  refine va_sld hx hb hX hbl hbA hwX.2.2 (hin 3 (by omega)) dL_law_828 ?_
  rw [hcl 3 (by omega)]
  obtain ⟨x2, y2, r, eX, eM, hR⟩ := k_ranks (F := 60000) (by omega) hrel (xs (i + 1)) (xs (i + 2)) (xs (i + 3))
  refine r_iV2 (As := [.int (xs (i + 1)), .int (xs (i + 2)), .int (xs (i + 3))]) (rest := []) S hA hKX hwX hwM hap (c_X6_ranks l hG eX) (cwV 3 hts gW_X6_ranks rfl rfl rfl (by decide +kernel) ⟨Nat.le_of_ble_eq_true rfl, Nat.le_of_ble_eq_true rfl⟩) (r_recv hKX hwX (kX_0 hG).1 (kX_0 hG).2 rfl) rfl hl.1 (Nat.le_of_ble_eq_true rfl) dL_law_829 ⟨hc0, hs0⟩ rfl (fun H locs hwX hwM => ?_)
  refine lv_aload_n hx hb dL_law_832 rfl (lv_at hl 1 rfl) ?_
  refine lv_aload_n hx hb dL_law_833 rfl (lv_at hl 3 rfl) ?_
  refine lv_iload_n hx hb dL_law_834 rfl (lv_at hl 0 rfl) ?_
  refine lv_iconst (v := 1) hx hb dL_law_835 (by decide) ?_
  refine lv_iadd hx hb dL_law_836 ?_
  rw [ix_k (i := i) (k := 1) (z := 1) rfl]
  refine va_sld hx hb hX hbl hbA hwX.2.2 (hin 1 (by omega)) dL_law_837 ?_
  rw [hcl 1 (by omega)]
  refine lv_aload_n hx hb dL_law_838 rfl (lv_at hl 3 rfl) ?_
  refine lv_iload_n hx hb dL_law_839 rfl (lv_at hl 0 rfl) ?_
  refine lv_iconst (v := 2) hx hb dL_law_840 (by decide) ?_
  refine lv_iadd hx hb dL_law_841 ?_
  rw [ix_k (i := i) (k := 2) (z := 2) rfl]
  refine va_sld hx hb hX hbl hbA hwX.2.2 (hin 2 (by omega)) dL_law_842 ?_
  rw [hcl 2 (by omega)]
  refine lv_aload_n hx hb dL_law_843 rfl (lv_at hl 3 rfl) ?_
  refine lv_iload_n hx hb dL_law_844 rfl (lv_at hl 0 rfl) ?_
  refine lv_iconst (v := 3) hx hb dL_law_845 (by decide) ?_
  refine lv_iadd hx hb dL_law_846 ?_
  rw [ix_k (i := i) (k := 3) (z := 3) rfl]
  refine va_sld hx hb hX hbl hbA hwX.2.2 (hin 3 (by omega)) dL_law_847 ?_
  rw [hcl 3 (by omega)]
  refine r_iV2 (As := [.int (xs (i + 1)), .int (xs (i + 2)), .int (xs (i + 3))]) (rest := [.int r]) S hA hKM hwM hwX (apG_s hap) (c_X7_ranks l hM eM) (cwV 3 hts gW_X7_ranks rfl rfl rfl (by decide +kernel) ⟨Nat.le_of_ble_eq_true rfl, Nat.le_of_ble_eq_true rfl⟩) (r_recv hKM hwM (kM_0 hM).1 (kM_0 hM).2 rfl) rfl hl.1 (Nat.le_of_ble_eq_true rfl) dL_law_848 ⟨hc0, hs0⟩ rfl (fun H locs hwM hwX => ?_)
  refine lv_icmp_eq (tgt := 1283) hx hb dL_law_851 (by decide) (fun c_ => ?_) (fun c_ => ?_)
  · exact W.widen (Nat.le_add_right _ _) (Nat.le_add_right _ _) (kk _ _ ⟨G, K, N, ln, x2, y2, cT, cS, hG, hM, hKX, hKM, hwX, hwM, hap, hR, rfl, rfl⟩)
  · exact absurd rfl c_
set_option maxHeartbeats 4000000 in
set_option maxRecDepth 100000 in
theorem lc_21 {p : Program} {l : Launch} {e : Env} {s : State} {m : MethodId} {below : List Frame} {meth : Method} {c : Code} {b L i aX aM : Nat} {xs : Nat → Int32} {H : Heap} {locs : List Loc} {ls : Array Slot} {cells slots : Nat} {Q : State → Prop} (S : CallFix p m c cL_law 4 s #[.ref b] lw_tbl RL) (hX : va_X b L xs s s.heap) (hbl : b < s.heap.size) (hi : i + 7 ≤ L) (hL : L ≤ 3584) (I : LI (fun q => s.heap.size ≤ q) s aX aM H locs) (hl : lv_has ls 4 [(3, .int (iI (i : Int))), (2, .ref aM), (1, .ref aX), (0, .ref b)]) (hc : cells + 3 ≤ 600000) (hs : slots + 165 ≤ 7302250) (kk : ∀ (H1 : Heap) (locs1 : List Loc), LI (fun q => s.heap.size ≤ q) s aX aM H1 locs1 → W p l e room_1 s m #[.ref b] below meth c H1 locs1 (cells + 3) (slots + 165) Q (F0 m 1283 ls [])) : W p l e room_1 s m #[.ref b] below meth c H locs cells slots Q (F0 m 856 ls []) := by
  obtain ⟨G, K, N, ln, x, y, cT, cS, hG, hM, hKX, hKM, hwX, hwM, hap, hrel, rfl, rfl⟩ := I
  obtain ⟨hx, hb, hml, hown, hts⟩ := id S
  have hA : ∀ q : Nat, s.heap.size ≤ q → (fun q : Nat => s.heap.size ≤ q) q := fun _ h => h
  have hbA : ¬ (fun q : Nat => s.heap.size ≤ q) b := Nat.not_le.mpr hbl
  have hc0 : cells ≤ room_1.cells := by show cells ≤ 600000; omega
  have hs0 : slots ≤ room_1.slots := by show slots ≤ 7302250; omega
  have hcl : ∀ k : Nat, k ≤ 6 → (iI ((i + k : Nat) : Int)).toNatClampNeg = i + k := fun k hk => by rw [iI_cl (by omega)]; exact Int.toNat_natCast _
  have hin : ∀ k : Nat, k ≤ 6 → vp_in (iI ((i + k : Nat) : Int)) L := fun k hk h => by
    rcases h with h | h
    · rw [show (0 : Int32) = iI 0 from rfl, iI_lt (by omega) (by omega)] at h; omega
    · rw [hcl k hk] at h; omega
  refine lv_aload_n hx hb dL_law_856 rfl (lv_at hl 2 rfl) ?_
  refine lv_aload_n hx hb dL_law_857 rfl (lv_at hl 3 rfl) ?_
  refine lv_iload_n hx hb dL_law_858 rfl (lv_at hl 0 rfl) ?_
  refine lv_iconst (v := 1) hx hb dL_law_859 (by decide) ?_
  refine lv_iadd hx hb dL_law_860 ?_
  rw [ix_k (i := i) (k := 1) (z := 1) rfl]
  refine va_sld hx hb hX hbl hbA hwX.2.2 (hin 1 (by omega)) dL_law_861 ?_
  rw [hcl 1 (by omega)]
  refine lv_aload_n hx hb dL_law_862 rfl (lv_at hl 3 rfl) ?_
  refine lv_iload_n hx hb dL_law_863 rfl (lv_at hl 0 rfl) ?_
  refine lv_iconst (v := 2) hx hb dL_law_864 (by decide) ?_
  refine lv_iadd hx hb dL_law_865 ?_
  rw [ix_k (i := i) (k := 2) (z := 2) rfl]
  refine va_sld hx hb hX hbl hbA hwX.2.2 (hin 2 (by omega)) dL_law_866 ?_
  rw [hcl 2 (by omega)]
  obtain ⟨x2, y2, r, eX, eM, hR⟩ := k_heats (F := 60000) (by omega) hrel (xs (i + 1)) (xs (i + 2))
  refine r_iV2 (As := [.int (xs (i + 1)), .int (xs (i + 2))]) (rest := []) S hA hKX hwX hwM hap (c_X6_heats l hG eX) (cwV 2 hts gW_X6_heats rfl rfl rfl (by decide +kernel) ⟨Nat.le_of_ble_eq_true rfl, Nat.le_of_ble_eq_true rfl⟩) (r_recv hKX hwX (kX_0 hG).1 (kX_0 hG).2 rfl) rfl hl.1 (Nat.le_of_ble_eq_true rfl) dL_law_867 ⟨hc0, hs0⟩ rfl (fun H locs hwX hwM => ?_)
  refine lv_aload_n hx hb dL_law_870 rfl (lv_at hl 1 rfl) ?_
  refine lv_aload_n hx hb dL_law_871 rfl (lv_at hl 3 rfl) ?_
  refine lv_iload_n hx hb dL_law_872 rfl (lv_at hl 0 rfl) ?_
  refine lv_iconst (v := 1) hx hb dL_law_873 (by decide) ?_
  refine lv_iadd hx hb dL_law_874 ?_
  rw [ix_k (i := i) (k := 1) (z := 1) rfl]
  refine va_sld hx hb hX hbl hbA hwX.2.2 (hin 1 (by omega)) dL_law_875 ?_
  rw [hcl 1 (by omega)]
  refine lv_aload_n hx hb dL_law_876 rfl (lv_at hl 3 rfl) ?_
  refine lv_iload_n hx hb dL_law_877 rfl (lv_at hl 0 rfl) ?_
  refine lv_iconst (v := 2) hx hb dL_law_878 (by decide) ?_
  refine lv_iadd hx hb dL_law_879 ?_
  rw [ix_k (i := i) (k := 2) (z := 2) rfl]
  refine va_sld hx hb hX hbl hbA hwX.2.2 (hin 2 (by omega)) dL_law_880 ?_
  rw [hcl 2 (by omega)]
  refine r_iV2 (As := [.int (xs (i + 1)), .int (xs (i + 2))]) (rest := [.int r]) S hA hKM hwM hwX (apG_s hap) (c_X7_heats l hM eM) (cwV 2 hts gW_X7_heats rfl rfl rfl (by decide +kernel) ⟨Nat.le_of_ble_eq_true rfl, Nat.le_of_ble_eq_true rfl⟩) (r_recv hKM hwM (kM_0 hM).1 (kM_0 hM).2 rfl) rfl hl.1 (Nat.le_of_ble_eq_true rfl) dL_law_881 ⟨hc0, hs0⟩ rfl (fun H locs hwM hwX => ?_)
  refine lv_icmp_eq (tgt := 1283) hx hb dL_law_884 (by decide) (fun c_ => ?_) (fun c_ => ?_)
  · exact W.widen (Nat.le_add_right _ _) (Nat.le_add_right _ _) (kk _ _ ⟨G, K, N, ln, x2, y2, cT, cS, hG, hM, hKX, hKM, hwX, hwM, hap, hR, rfl, rfl⟩)
  · exact absurd rfl c_
set_option maxHeartbeats 4000000 in
set_option maxRecDepth 100000 in
theorem lc_22 {p : Program} {l : Launch} {e : Env} {s : State} {m : MethodId} {below : List Frame} {meth : Method} {c : Code} {b L i aX aM : Nat} {xs : Nat → Int32} {H : Heap} {locs : List Loc} {ls : Array Slot} {cells slots : Nat} {Q : State → Prop} (S : CallFix p m c cL_law 4 s #[.ref b] lw_tbl RL) (hX : va_X b L xs s s.heap) (hbl : b < s.heap.size) (hi : i + 7 ≤ L) (hL : L ≤ 3584) (I : LI (fun q => s.heap.size ≤ q) s aX aM H locs) (hl : lv_has ls 4 [(3, .int (iI (i : Int))), (2, .ref aM), (1, .ref aX), (0, .ref b)]) (hc : cells + 3 ≤ 600000) (hs : slots + 165 ≤ 7302250) (kk : ∀ (H1 : Heap) (locs1 : List Loc), LI (fun q => s.heap.size ≤ q) s aX aM H1 locs1 → W p l e room_1 s m #[.ref b] below meth c H1 locs1 (cells + 3) (slots + 165) Q (F0 m 1283 ls [])) : W p l e room_1 s m #[.ref b] below meth c H locs cells slots Q (F0 m 889 ls []) := by
  obtain ⟨G, K, N, ln, x, y, cT, cS, hG, hM, hKX, hKM, hwX, hwM, hap, hrel, rfl, rfl⟩ := I
  obtain ⟨hx, hb, hml, hown, hts⟩ := id S
  have hA : ∀ q : Nat, s.heap.size ≤ q → (fun q : Nat => s.heap.size ≤ q) q := fun _ h => h
  have hbA : ¬ (fun q : Nat => s.heap.size ≤ q) b := Nat.not_le.mpr hbl
  have hc0 : cells ≤ room_1.cells := by show cells ≤ 600000; omega
  have hs0 : slots ≤ room_1.slots := by show slots ≤ 7302250; omega
  have hcl : ∀ k : Nat, k ≤ 6 → (iI ((i + k : Nat) : Int)).toNatClampNeg = i + k := fun k hk => by rw [iI_cl (by omega)]; exact Int.toNat_natCast _
  have hin : ∀ k : Nat, k ≤ 6 → vp_in (iI ((i + k : Nat) : Int)) L := fun k hk h => by
    rcases h with h | h
    · rw [show (0 : Int32) = iI 0 from rfl, iI_lt (by omega) (by omega)] at h; omega
    · rw [hcl k hk] at h; omega
  refine lv_aload_n hx hb dL_law_889 rfl (lv_at hl 2 rfl) ?_
  refine lv_aload_n hx hb dL_law_890 rfl (lv_at hl 3 rfl) ?_
  refine lv_iload_n hx hb dL_law_891 rfl (lv_at hl 0 rfl) ?_
  refine lv_iconst (v := 1) hx hb dL_law_892 (by decide) ?_
  refine lv_iadd hx hb dL_law_893 ?_
  rw [ix_k (i := i) (k := 1) (z := 1) rfl]
  refine va_sld hx hb hX hbl hbA hwX.2.2 (hin 1 (by omega)) dL_law_894 ?_
  rw [hcl 1 (by omega)]
  obtain ⟨x2, y2, r, eX, eM, hR⟩ := k_laws (F := 60000) (by omega) hrel (xs (i + 1))
  refine r_iV2 (As := [.int (xs (i + 1))]) (rest := []) S hA hKX hwX hwM hap (c_X6_laws l hG eX) (cwV 1 hts gW_X6_laws rfl rfl rfl (by decide +kernel) ⟨Nat.le_of_ble_eq_true rfl, Nat.le_of_ble_eq_true rfl⟩) (r_recv hKX hwX (kX_0 hG).1 (kX_0 hG).2 rfl) rfl hl.1 (Nat.le_of_ble_eq_true rfl) dL_law_895 ⟨hc0, hs0⟩ rfl (fun H locs hwX hwM => ?_)
  refine lv_aload_n hx hb dL_law_898 rfl (lv_at hl 1 rfl) ?_
  refine lv_aload_n hx hb dL_law_899 rfl (lv_at hl 3 rfl) ?_
  refine lv_iload_n hx hb dL_law_900 rfl (lv_at hl 0 rfl) ?_
  refine lv_iconst (v := 1) hx hb dL_law_901 (by decide) ?_
  refine lv_iadd hx hb dL_law_902 ?_
  rw [ix_k (i := i) (k := 1) (z := 1) rfl]
  refine va_sld hx hb hX hbl hbA hwX.2.2 (hin 1 (by omega)) dL_law_903 ?_
  rw [hcl 1 (by omega)]
  refine r_iV2 (As := [.int (xs (i + 1))]) (rest := [.int r]) S hA hKM hwM hwX (apG_s hap) (c_X7_laws l hM eM) (cwV 1 hts gW_X7_laws rfl rfl rfl (by decide +kernel) ⟨Nat.le_of_ble_eq_true rfl, Nat.le_of_ble_eq_true rfl⟩) (r_recv hKM hwM (kM_0 hM).1 (kM_0 hM).2 rfl) rfl hl.1 (Nat.le_of_ble_eq_true rfl) dL_law_904 ⟨hc0, hs0⟩ rfl (fun H locs hwM hwX => ?_)
  refine lv_icmp_eq (tgt := 1283) hx hb dL_law_907 (by decide) (fun c_ => ?_) (fun c_ => ?_)
  · exact W.widen (Nat.le_add_right _ _) (Nat.le_add_right _ _) (kk _ _ ⟨G, K, N, ln, x2, y2, cT, cS, hG, hM, hKX, hKM, hwX, hwM, hap, hR, rfl, rfl⟩)
  · exact absurd rfl c_
set_option maxHeartbeats 4000000 in
set_option maxRecDepth 100000 in
theorem lc_23 {p : Program} {l : Launch} {e : Env} {s : State} {m : MethodId} {below : List Frame} {meth : Method} {c : Code} {b L i aX aM : Nat} {xs : Nat → Int32} {H : Heap} {locs : List Loc} {ls : Array Slot} {cells slots : Nat} {Q : State → Prop} (S : CallFix p m c cL_law 4 s #[.ref b] lw_tbl RL) (hX : va_X b L xs s s.heap) (hbl : b < s.heap.size) (hi : i + 7 ≤ L) (hL : L ≤ 3584) (I : LI (fun q => s.heap.size ≤ q) s aX aM H locs) (hl : lv_has ls 4 [(3, .int (iI (i : Int))), (2, .ref aM), (1, .ref aX), (0, .ref b)]) (hc : cells + 3 ≤ 600000) (hs : slots + 165 ≤ 7302250) (kk : ∀ (H1 : Heap) (locs1 : List Loc), LI (fun q => s.heap.size ≤ q) s aX aM H1 locs1 → W p l e room_1 s m #[.ref b] below meth c H1 locs1 (cells + 3) (slots + 165) Q (F0 m 1283 ls [])) : W p l e room_1 s m #[.ref b] below meth c H locs cells slots Q (F0 m 912 ls []) := by
  obtain ⟨G, K, N, ln, x, y, cT, cS, hG, hM, hKX, hKM, hwX, hwM, hap, hrel, rfl, rfl⟩ := I
  obtain ⟨hx, hb, hml, hown, hts⟩ := id S
  have hA : ∀ q : Nat, s.heap.size ≤ q → (fun q : Nat => s.heap.size ≤ q) q := fun _ h => h
  have hbA : ¬ (fun q : Nat => s.heap.size ≤ q) b := Nat.not_le.mpr hbl
  have hc0 : cells ≤ room_1.cells := by show cells ≤ 600000; omega
  have hs0 : slots ≤ room_1.slots := by show slots ≤ 7302250; omega
  have hcl : ∀ k : Nat, k ≤ 6 → (iI ((i + k : Nat) : Int)).toNatClampNeg = i + k := fun k hk => by rw [iI_cl (by omega)]; exact Int.toNat_natCast _
  have hin : ∀ k : Nat, k ≤ 6 → vp_in (iI ((i + k : Nat) : Int)) L := fun k hk h => by
    rcases h with h | h
    · rw [show (0 : Int32) = iI 0 from rfl, iI_lt (by omega) (by omega)] at h; omega
    · rw [hcl k hk] at h; omega
  refine lv_aload_n hx hb dL_law_912 rfl (lv_at hl 2 rfl) ?_
  refine lv_aload_n hx hb dL_law_913 rfl (lv_at hl 3 rfl) ?_
  refine lv_iload_n hx hb dL_law_914 rfl (lv_at hl 0 rfl) ?_
  refine lv_iconst (v := 1) hx hb dL_law_915 (by decide) ?_
  refine lv_iadd hx hb dL_law_916 ?_
  rw [ix_k (i := i) (k := 1) (z := 1) rfl]
  refine va_sld hx hb hX hbl hbA hwX.2.2 (hin 1 (by omega)) dL_law_917 ?_
  rw [hcl 1 (by omega)]
  obtain ⟨x2, y2, r, eX, eM, hR⟩ := k_film (F := 60000) (by omega) hrel (xs (i + 1))
  refine r_iV2 (As := [.int (xs (i + 1))]) (rest := []) S hA hKX hwX hwM hap (c_X6_film l hG eX) (cwV 1 hts gW_X6_film rfl rfl rfl (by decide +kernel) ⟨Nat.le_of_ble_eq_true rfl, Nat.le_of_ble_eq_true rfl⟩) (r_recv hKX hwX (kX_0 hG).1 (kX_0 hG).2 rfl) rfl hl.1 (Nat.le_of_ble_eq_true rfl) dL_law_918 ⟨hc0, hs0⟩ rfl (fun H locs hwX hwM => ?_)
  refine lv_aload_n hx hb dL_law_921 rfl (lv_at hl 1 rfl) ?_
  refine lv_aload_n hx hb dL_law_922 rfl (lv_at hl 3 rfl) ?_
  refine lv_iload_n hx hb dL_law_923 rfl (lv_at hl 0 rfl) ?_
  refine lv_iconst (v := 1) hx hb dL_law_924 (by decide) ?_
  refine lv_iadd hx hb dL_law_925 ?_
  rw [ix_k (i := i) (k := 1) (z := 1) rfl]
  refine va_sld hx hb hX hbl hbA hwX.2.2 (hin 1 (by omega)) dL_law_926 ?_
  rw [hcl 1 (by omega)]
  refine r_iV2 (As := [.int (xs (i + 1))]) (rest := [.int r]) S hA hKM hwM hwX (apG_s hap) (c_X7_film l hM eM) (cwV 1 hts gW_X7_film rfl rfl rfl (by decide +kernel) ⟨Nat.le_of_ble_eq_true rfl, Nat.le_of_ble_eq_true rfl⟩) (r_recv hKM hwM (kM_0 hM).1 (kM_0 hM).2 rfl) rfl hl.1 (Nat.le_of_ble_eq_true rfl) dL_law_927 ⟨hc0, hs0⟩ rfl (fun H locs hwM hwX => ?_)
  refine lv_icmp_eq (tgt := 1283) hx hb dL_law_930 (by decide) (fun c_ => ?_) (fun c_ => ?_)
  · exact W.widen (Nat.le_add_right _ _) (Nat.le_add_right _ _) (kk _ _ ⟨G, K, N, ln, x2, y2, cT, cS, hG, hM, hKX, hKM, hwX, hwM, hap, hR, rfl, rfl⟩)
  · exact absurd rfl c_
set_option maxHeartbeats 4000000 in
set_option maxRecDepth 100000 in
theorem lc_24 {p : Program} {l : Launch} {e : Env} {s : State} {m : MethodId} {below : List Frame} {meth : Method} {c : Code} {b L i aX aM : Nat} {xs : Nat → Int32} {H : Heap} {locs : List Loc} {ls : Array Slot} {cells slots : Nat} {Q : State → Prop} (S : CallFix p m c cL_law 4 s #[.ref b] lw_tbl RL) (hX : va_X b L xs s s.heap) (hbl : b < s.heap.size) (hi : i + 7 ≤ L) (hL : L ≤ 3584) (I : LI (fun q => s.heap.size ≤ q) s aX aM H locs) (hl : lv_has ls 4 [(3, .int (iI (i : Int))), (2, .ref aM), (1, .ref aX), (0, .ref b)]) (hc : cells + 3 ≤ 600000) (hs : slots + 165 ≤ 7302250) (kk : ∀ (H1 : Heap) (locs1 : List Loc), LI (fun q => s.heap.size ≤ q) s aX aM H1 locs1 → W p l e room_1 s m #[.ref b] below meth c H1 locs1 (cells + 3) (slots + 165) Q (F0 m 1283 ls [])) : W p l e room_1 s m #[.ref b] below meth c H locs cells slots Q (F0 m 935 ls []) := by
  obtain ⟨G, K, N, ln, x, y, cT, cS, hG, hM, hKX, hKM, hwX, hwM, hap, hrel, rfl, rfl⟩ := I
  obtain ⟨hx, hb, hml, hown, hts⟩ := id S
  have hA : ∀ q : Nat, s.heap.size ≤ q → (fun q : Nat => s.heap.size ≤ q) q := fun _ h => h
  have hbA : ¬ (fun q : Nat => s.heap.size ≤ q) b := Nat.not_le.mpr hbl
  have hc0 : cells ≤ room_1.cells := by show cells ≤ 600000; omega
  have hs0 : slots ≤ room_1.slots := by show slots ≤ 7302250; omega
  have hcl : ∀ k : Nat, k ≤ 6 → (iI ((i + k : Nat) : Int)).toNatClampNeg = i + k := fun k hk => by rw [iI_cl (by omega)]; exact Int.toNat_natCast _
  have hin : ∀ k : Nat, k ≤ 6 → vp_in (iI ((i + k : Nat) : Int)) L := fun k hk h => by
    rcases h with h | h
    · rw [show (0 : Int32) = iI 0 from rfl, iI_lt (by omega) (by omega)] at h; omega
    · rw [hcl k hk] at h; omega
  refine lv_aload_n hx hb dL_law_935 rfl (lv_at hl 2 rfl) ?_
  refine lv_aload_n hx hb dL_law_936 rfl (lv_at hl 3 rfl) ?_
  refine lv_iload_n hx hb dL_law_937 rfl (lv_at hl 0 rfl) ?_
  refine lv_iconst (v := 1) hx hb dL_law_938 (by decide) ?_
  refine lv_iadd hx hb dL_law_939 ?_
  rw [ix_k (i := i) (k := 1) (z := 1) rfl]
  refine va_sld hx hb hX hbl hbA hwX.2.2 (hin 1 (by omega)) dL_law_940 ?_
  rw [hcl 1 (by omega)]
  refine lv_aload_n hx hb dL_law_941 rfl (lv_at hl 3 rfl) ?_
  refine lv_iload_n hx hb dL_law_942 rfl (lv_at hl 0 rfl) ?_
  refine lv_iconst (v := 2) hx hb dL_law_943 (by decide) ?_
  refine lv_iadd hx hb dL_law_944 ?_
  rw [ix_k (i := i) (k := 2) (z := 2) rfl]
  refine va_sld hx hb hX hbl hbA hwX.2.2 (hin 2 (by omega)) dL_law_945 ?_
  rw [hcl 2 (by omega)]
  obtain ⟨x2, y2, r, eX, eM, hR⟩ := k_drawn (F := 60000) (by omega) hrel (xs (i + 1)) (xs (i + 2))
  refine r_iV2 (As := [.int (xs (i + 1)), .int (xs (i + 2))]) (rest := []) S hA hKX hwX hwM hap (c_X6_drawn l hG eX) (cwV 2 hts gW_X6_drawn rfl rfl rfl (by decide +kernel) ⟨Nat.le_of_ble_eq_true rfl, Nat.le_of_ble_eq_true rfl⟩) (r_recv hKX hwX (kX_0 hG).1 (kX_0 hG).2 rfl) rfl hl.1 (Nat.le_of_ble_eq_true rfl) dL_law_946 ⟨hc0, hs0⟩ rfl (fun H locs hwX hwM => ?_)
  refine lv_aload_n hx hb dL_law_949 rfl (lv_at hl 1 rfl) ?_
  refine lv_aload_n hx hb dL_law_950 rfl (lv_at hl 3 rfl) ?_
  refine lv_iload_n hx hb dL_law_951 rfl (lv_at hl 0 rfl) ?_
  refine lv_iconst (v := 1) hx hb dL_law_952 (by decide) ?_
  refine lv_iadd hx hb dL_law_953 ?_
  rw [ix_k (i := i) (k := 1) (z := 1) rfl]
  refine va_sld hx hb hX hbl hbA hwX.2.2 (hin 1 (by omega)) dL_law_954 ?_
  rw [hcl 1 (by omega)]
  refine lv_aload_n hx hb dL_law_955 rfl (lv_at hl 3 rfl) ?_
  refine lv_iload_n hx hb dL_law_956 rfl (lv_at hl 0 rfl) ?_
  refine lv_iconst (v := 2) hx hb dL_law_957 (by decide) ?_
  refine lv_iadd hx hb dL_law_958 ?_
  rw [ix_k (i := i) (k := 2) (z := 2) rfl]
  refine va_sld hx hb hX hbl hbA hwX.2.2 (hin 2 (by omega)) dL_law_959 ?_
  rw [hcl 2 (by omega)]
  refine r_iV2 (As := [.int (xs (i + 1)), .int (xs (i + 2))]) (rest := [.int r]) S hA hKM hwM hwX (apG_s hap) (c_X7_drawn l hM eM) (cwV 2 hts gW_X7_drawn rfl rfl rfl (by decide +kernel) ⟨Nat.le_of_ble_eq_true rfl, Nat.le_of_ble_eq_true rfl⟩) (r_recv hKM hwM (kM_0 hM).1 (kM_0 hM).2 rfl) rfl hl.1 (Nat.le_of_ble_eq_true rfl) dL_law_960 ⟨hc0, hs0⟩ rfl (fun H locs hwM hwX => ?_)
  refine lv_icmp_eq (tgt := 1283) hx hb dL_law_963 (by decide) (fun c_ => ?_) (fun c_ => ?_)
  · exact W.widen (Nat.le_add_right _ _) (Nat.le_add_right _ _) (kk _ _ ⟨G, K, N, ln, x2, y2, cT, cS, hG, hM, hKX, hKM, hwX, hwM, hap, hR, rfl, rfl⟩)
  · exact absurd rfl c_
set_option maxHeartbeats 4000000 in
set_option maxRecDepth 100000 in
theorem lc_25 {p : Program} {l : Launch} {e : Env} {s : State} {m : MethodId} {below : List Frame} {meth : Method} {c : Code} {b L i aX aM : Nat} {xs : Nat → Int32} {H : Heap} {locs : List Loc} {ls : Array Slot} {cells slots : Nat} {Q : State → Prop} (S : CallFix p m c cL_law 4 s #[.ref b] lw_tbl RL) (hX : va_X b L xs s s.heap) (hbl : b < s.heap.size) (hi : i + 7 ≤ L) (hL : L ≤ 3584) (I : LI (fun q => s.heap.size ≤ q) s aX aM H locs) (hl : lv_has ls 4 [(3, .int (iI (i : Int))), (2, .ref aM), (1, .ref aX), (0, .ref b)]) (hc : cells + 3 ≤ 600000) (hs : slots + 165 ≤ 7302250) (kk : ∀ (H1 : Heap) (locs1 : List Loc), LI (fun q => s.heap.size ≤ q) s aX aM H1 locs1 → W p l e room_1 s m #[.ref b] below meth c H1 locs1 (cells + 3) (slots + 165) Q (F0 m 1283 ls [])) : W p l e room_1 s m #[.ref b] below meth c H locs cells slots Q (F0 m 968 ls []) := by
  obtain ⟨G, K, N, ln, x, y, cT, cS, hG, hM, hKX, hKM, hwX, hwM, hap, hrel, rfl, rfl⟩ := I
  obtain ⟨hx, hb, hml, hown, hts⟩ := id S
  have hA : ∀ q : Nat, s.heap.size ≤ q → (fun q : Nat => s.heap.size ≤ q) q := fun _ h => h
  have hbA : ¬ (fun q : Nat => s.heap.size ≤ q) b := Nat.not_le.mpr hbl
  have hc0 : cells ≤ room_1.cells := by show cells ≤ 600000; omega
  have hs0 : slots ≤ room_1.slots := by show slots ≤ 7302250; omega
  have hcl : ∀ k : Nat, k ≤ 6 → (iI ((i + k : Nat) : Int)).toNatClampNeg = i + k := fun k hk => by rw [iI_cl (by omega)]; exact Int.toNat_natCast _
  have hin : ∀ k : Nat, k ≤ 6 → vp_in (iI ((i + k : Nat) : Int)) L := fun k hk h => by
    rcases h with h | h
    · rw [show (0 : Int32) = iI 0 from rfl, iI_lt (by omega) (by omega)] at h; omega
    · rw [hcl k hk] at h; omega
  refine lv_aload_n hx hb dL_law_968 rfl (lv_at hl 2 rfl) ?_
  refine lv_aload_n hx hb dL_law_969 rfl (lv_at hl 3 rfl) ?_
  refine lv_iload_n hx hb dL_law_970 rfl (lv_at hl 0 rfl) ?_
  refine lv_iconst (v := 1) hx hb dL_law_971 (by decide) ?_
  refine lv_iadd hx hb dL_law_972 ?_
  rw [ix_k (i := i) (k := 1) (z := 1) rfl]
  refine va_sld hx hb hX hbl hbA hwX.2.2 (hin 1 (by omega)) dL_law_973 ?_
  rw [hcl 1 (by omega)]
  refine lv_aload_n hx hb dL_law_974 rfl (lv_at hl 3 rfl) ?_
  refine lv_iload_n hx hb dL_law_975 rfl (lv_at hl 0 rfl) ?_
  refine lv_iconst (v := 2) hx hb dL_law_976 (by decide) ?_
  refine lv_iadd hx hb dL_law_977 ?_
  rw [ix_k (i := i) (k := 2) (z := 2) rfl]
  refine va_sld hx hb hX hbl hbA hwX.2.2 (hin 2 (by omega)) dL_law_978 ?_
  rw [hcl 2 (by omega)]
  refine lv_aload_n hx hb dL_law_979 rfl (lv_at hl 3 rfl) ?_
  refine lv_iload_n hx hb dL_law_980 rfl (lv_at hl 0 rfl) ?_
  refine lv_iconst (v := 3) hx hb dL_law_981 (by decide) ?_
  refine lv_iadd hx hb dL_law_982 ?_
  rw [ix_k (i := i) (k := 3) (z := 3) rfl]
  refine va_sld hx hb hX hbl hbA hwX.2.2 (hin 3 (by omega)) dL_law_983 ?_
  rw [hcl 3 (by omega)]
  refine lv_aload_n hx hb dL_law_984 rfl (lv_at hl 3 rfl) ?_
  refine lv_iload_n hx hb dL_law_985 rfl (lv_at hl 0 rfl) ?_
  refine lv_iconst (v := 4) hx hb dL_law_986 (by decide) ?_
  refine lv_iadd hx hb dL_law_987 ?_
  rw [ix_k (i := i) (k := 4) (z := 4) rfl]
  refine va_sld hx hb hX hbl hbA hwX.2.2 (hin 4 (by omega)) dL_law_988 ?_
  rw [hcl 4 (by omega)]
  obtain ⟨x2, y2, r, eX, eM, hR⟩ := k_odds (F := 60000) (by omega) hrel (xs (i + 1)) (xs (i + 2)) (xs (i + 3)) (xs (i + 4))
  refine r_lV2 (As := [.int (xs (i + 1)), .int (xs (i + 2)), .int (xs (i + 3)), .int (xs (i + 4))]) (rest := []) S hA hKX hwX hwM hap (c_X6_odds l hG eX) (cwV 4 hts gW_X6_odds rfl rfl rfl (by decide +kernel) ⟨Nat.le_of_ble_eq_true rfl, Nat.le_of_ble_eq_true rfl⟩) (r_recv hKX hwX (kX_0 hG).1 (kX_0 hG).2 rfl) rfl hl.1 (Nat.le_of_ble_eq_true rfl) dL_law_989 ⟨hc0, hs0⟩ rfl (fun H locs hwX hwM => ?_)
  refine lv_aload_n hx hb dL_law_992 rfl (lv_at hl 1 rfl) ?_
  refine lv_aload_n hx hb dL_law_993 rfl (lv_at hl 3 rfl) ?_
  refine lv_iload_n hx hb dL_law_994 rfl (lv_at hl 0 rfl) ?_
  refine lv_iconst (v := 1) hx hb dL_law_995 (by decide) ?_
  refine lv_iadd hx hb dL_law_996 ?_
  rw [ix_k (i := i) (k := 1) (z := 1) rfl]
  refine va_sld hx hb hX hbl hbA hwX.2.2 (hin 1 (by omega)) dL_law_997 ?_
  rw [hcl 1 (by omega)]
  refine lv_aload_n hx hb dL_law_998 rfl (lv_at hl 3 rfl) ?_
  refine lv_iload_n hx hb dL_law_999 rfl (lv_at hl 0 rfl) ?_
  refine lv_iconst (v := 2) hx hb dL_law_1000 (by decide) ?_
  refine lv_iadd hx hb dL_law_1001 ?_
  rw [ix_k (i := i) (k := 2) (z := 2) rfl]
  refine va_sld hx hb hX hbl hbA hwX.2.2 (hin 2 (by omega)) dL_law_1002 ?_
  rw [hcl 2 (by omega)]
  refine lv_aload_n hx hb dL_law_1003 rfl (lv_at hl 3 rfl) ?_
  refine lv_iload_n hx hb dL_law_1004 rfl (lv_at hl 0 rfl) ?_
  refine lv_iconst (v := 3) hx hb dL_law_1005 (by decide) ?_
  refine lv_iadd hx hb dL_law_1006 ?_
  rw [ix_k (i := i) (k := 3) (z := 3) rfl]
  refine va_sld hx hb hX hbl hbA hwX.2.2 (hin 3 (by omega)) dL_law_1007 ?_
  rw [hcl 3 (by omega)]
  refine lv_aload_n hx hb dL_law_1008 rfl (lv_at hl 3 rfl) ?_
  refine lv_iload_n hx hb dL_law_1009 rfl (lv_at hl 0 rfl) ?_
  refine lv_iconst (v := 4) hx hb dL_law_1010 (by decide) ?_
  refine lv_iadd hx hb dL_law_1011 ?_
  rw [ix_k (i := i) (k := 4) (z := 4) rfl]
  refine va_sld hx hb hX hbl hbA hwX.2.2 (hin 4 (by omega)) dL_law_1012 ?_
  rw [hcl 4 (by omega)]
  refine r_lV2 (As := [.int (xs (i + 1)), .int (xs (i + 2)), .int (xs (i + 3)), .int (xs (i + 4))]) (rest := [.long r]) S hA hKM hwM hwX (apG_s hap) (c_X7_odds l hM eM) (cwV 4 hts gW_X7_odds rfl rfl rfl (by decide +kernel) ⟨Nat.le_of_ble_eq_true rfl, Nat.le_of_ble_eq_true rfl⟩) (r_recv hKM hwM (kM_0 hM).1 (kM_0 hM).2 rfl) rfl hl.1 (Nat.le_of_ble_eq_true rfl) dL_law_1013 ⟨hc0, hs0⟩ rfl (fun H locs hwM hwX => ?_)
  refine W.lcmp hx hb dL_law_1016 ?_
  refine lv_if_eq (tgt := 1283) hx hb dL_law_1017 (by decide) (fun c_ => ?_) (fun c_ => ?_)
  · exact W.widen (Nat.le_add_right _ _) (Nat.le_add_right _ _) (kk _ _ ⟨G, K, N, ln, x2, y2, cT, cS, hG, hM, hKX, hKM, hwX, hwM, hap, hR, rfl, rfl⟩)
  · exact absurd (by simp [lg_cmp]) c_
set_option maxHeartbeats 4000000 in
set_option maxRecDepth 100000 in
theorem lc_26 {p : Program} {l : Launch} {e : Env} {s : State} {m : MethodId} {below : List Frame} {meth : Method} {c : Code} {b L i aX aM : Nat} {xs : Nat → Int32} {H : Heap} {locs : List Loc} {ls : Array Slot} {cells slots : Nat} {Q : State → Prop} (S : CallFix p m c cL_law 4 s #[.ref b] lw_tbl RL) (hX : va_X b L xs s s.heap) (hbl : b < s.heap.size) (hi : i + 7 ≤ L) (hL : L ≤ 3584) (I : LI (fun q => s.heap.size ≤ q) s aX aM H locs) (hl : lv_has ls 4 [(3, .int (iI (i : Int))), (2, .ref aM), (1, .ref aX), (0, .ref b)]) (hc : cells + 3 ≤ 600000) (hs : slots + 165 ≤ 7302250) (kk : ∀ (H1 : Heap) (locs1 : List Loc), LI (fun q => s.heap.size ≤ q) s aX aM H1 locs1 → W p l e room_1 s m #[.ref b] below meth c H1 locs1 (cells + 3) (slots + 165) Q (F0 m 1283 ls [])) : W p l e room_1 s m #[.ref b] below meth c H locs cells slots Q (F0 m 1022 ls []) := by
  obtain ⟨G, K, N, ln, x, y, cT, cS, hG, hM, hKX, hKM, hwX, hwM, hap, hrel, rfl, rfl⟩ := I
  obtain ⟨hx, hb, hml, hown, hts⟩ := id S
  have hA : ∀ q : Nat, s.heap.size ≤ q → (fun q : Nat => s.heap.size ≤ q) q := fun _ h => h
  have hbA : ¬ (fun q : Nat => s.heap.size ≤ q) b := Nat.not_le.mpr hbl
  have hc0 : cells ≤ room_1.cells := by show cells ≤ 600000; omega
  have hs0 : slots ≤ room_1.slots := by show slots ≤ 7302250; omega
  have hcl : ∀ k : Nat, k ≤ 6 → (iI ((i + k : Nat) : Int)).toNatClampNeg = i + k := fun k hk => by rw [iI_cl (by omega)]; exact Int.toNat_natCast _
  have hin : ∀ k : Nat, k ≤ 6 → vp_in (iI ((i + k : Nat) : Int)) L := fun k hk h => by
    rcases h with h | h
    · rw [show (0 : Int32) = iI 0 from rfl, iI_lt (by omega) (by omega)] at h; omega
    · rw [hcl k hk] at h; omega
  refine lv_aload_n hx hb dL_law_1022 rfl (lv_at hl 2 rfl) ?_
  obtain ⟨x2, y2, r, eX, eM, hR⟩ := k_image (F := 60000) (by omega) hrel 
  refine r_iV2 (As := []) (rest := []) S hA hKX hwX hwM hap (c_X6_image l hG eX) (cwV 0 hts gW_X6_image rfl rfl rfl (by decide +kernel) ⟨Nat.le_of_ble_eq_true rfl, Nat.le_of_ble_eq_true rfl⟩) (r_recv hKX hwX (kX_0 hG).1 (kX_0 hG).2 rfl) rfl hl.1 (Nat.le_of_ble_eq_true rfl) dL_law_1023 ⟨hc0, hs0⟩ rfl (fun H locs hwX hwM => ?_)
  refine lv_aload_n hx hb dL_law_1026 rfl (lv_at hl 1 rfl) ?_
  refine r_iV2 (As := []) (rest := [.int r]) S hA hKM hwM hwX (apG_s hap) (c_X7_image l hM eM) (cwV 0 hts gW_X7_image rfl rfl rfl (by decide +kernel) ⟨Nat.le_of_ble_eq_true rfl, Nat.le_of_ble_eq_true rfl⟩) (r_recv hKM hwM (kM_0 hM).1 (kM_0 hM).2 rfl) rfl hl.1 (Nat.le_of_ble_eq_true rfl) dL_law_1027 ⟨hc0, hs0⟩ rfl (fun H locs hwM hwX => ?_)
  refine lv_icmp_eq (tgt := 1283) hx hb dL_law_1030 (by decide) (fun c_ => ?_) (fun c_ => ?_)
  · exact W.widen (Nat.le_add_right _ _) (Nat.le_add_right _ _) (kk _ _ ⟨G, K, N, ln, x2, y2, cT, cS, hG, hM, hKX, hKM, hwX, hwM, hap, hR, rfl, rfl⟩)
  · exact absurd rfl c_
set_option maxHeartbeats 4000000 in
set_option maxRecDepth 100000 in
theorem lc_27 {p : Program} {l : Launch} {e : Env} {s : State} {m : MethodId} {below : List Frame} {meth : Method} {c : Code} {b L i aX aM : Nat} {xs : Nat → Int32} {H : Heap} {locs : List Loc} {ls : Array Slot} {cells slots : Nat} {Q : State → Prop} (S : CallFix p m c cL_law 4 s #[.ref b] lw_tbl RL) (hX : va_X b L xs s s.heap) (hbl : b < s.heap.size) (hi : i + 7 ≤ L) (hL : L ≤ 3584) (I : LI (fun q => s.heap.size ≤ q) s aX aM H locs) (hl : lv_has ls 4 [(3, .int (iI (i : Int))), (2, .ref aM), (1, .ref aX), (0, .ref b)]) (hc : cells + 3 ≤ 600000) (hs : slots + 165 ≤ 7302250) (kk : ∀ (H1 : Heap) (locs1 : List Loc), LI (fun q => s.heap.size ≤ q) s aX aM H1 locs1 → W p l e room_1 s m #[.ref b] below meth c H1 locs1 (cells + 3) (slots + 165) Q (F0 m 1283 ls [])) : W p l e room_1 s m #[.ref b] below meth c H locs cells slots Q (F0 m 1035 ls []) := by
  obtain ⟨G, K, N, ln, x, y, cT, cS, hG, hM, hKX, hKM, hwX, hwM, hap, hrel, rfl, rfl⟩ := I
  obtain ⟨hx, hb, hml, hown, hts⟩ := id S
  have hA : ∀ q : Nat, s.heap.size ≤ q → (fun q : Nat => s.heap.size ≤ q) q := fun _ h => h
  have hbA : ¬ (fun q : Nat => s.heap.size ≤ q) b := Nat.not_le.mpr hbl
  have hc0 : cells ≤ room_1.cells := by show cells ≤ 600000; omega
  have hs0 : slots ≤ room_1.slots := by show slots ≤ 7302250; omega
  have hcl : ∀ k : Nat, k ≤ 6 → (iI ((i + k : Nat) : Int)).toNatClampNeg = i + k := fun k hk => by rw [iI_cl (by omega)]; exact Int.toNat_natCast _
  have hin : ∀ k : Nat, k ≤ 6 → vp_in (iI ((i + k : Nat) : Int)) L := fun k hk h => by
    rcases h with h | h
    · rw [show (0 : Int32) = iI 0 from rfl, iI_lt (by omega) (by omega)] at h; omega
    · rw [hcl k hk] at h; omega
  refine lv_aload_n hx hb dL_law_1035 rfl (lv_at hl 2 rfl) ?_
  obtain ⟨x2, y2, r, eX, eM, hR⟩ := k_back (F := 60000) (by omega) hrel 
  refine r_iV2 (As := []) (rest := []) S hA hKX hwX hwM hap (c_X6_back l hG eX) (cwV 0 hts gW_X6_back rfl rfl rfl (by decide +kernel) ⟨Nat.le_of_ble_eq_true rfl, Nat.le_of_ble_eq_true rfl⟩) (r_recv hKX hwX (kX_0 hG).1 (kX_0 hG).2 rfl) rfl hl.1 (Nat.le_of_ble_eq_true rfl) dL_law_1036 ⟨hc0, hs0⟩ rfl (fun H locs hwX hwM => ?_)
  refine lv_aload_n hx hb dL_law_1039 rfl (lv_at hl 1 rfl) ?_
  refine r_iV2 (As := []) (rest := [.int r]) S hA hKM hwM hwX (apG_s hap) (c_X7_back l hM eM) (cwV 0 hts gW_X7_back rfl rfl rfl (by decide +kernel) ⟨Nat.le_of_ble_eq_true rfl, Nat.le_of_ble_eq_true rfl⟩) (r_recv hKM hwM (kM_0 hM).1 (kM_0 hM).2 rfl) rfl hl.1 (Nat.le_of_ble_eq_true rfl) dL_law_1040 ⟨hc0, hs0⟩ rfl (fun H locs hwM hwX => ?_)
  refine lv_icmp_eq (tgt := 1283) hx hb dL_law_1043 (by decide) (fun c_ => ?_) (fun c_ => ?_)
  · exact W.widen (Nat.le_add_right _ _) (Nat.le_add_right _ _) (kk _ _ ⟨G, K, N, ln, x2, y2, cT, cS, hG, hM, hKX, hKM, hwX, hwM, hap, hR, rfl, rfl⟩)
  · exact absurd rfl c_
set_option maxHeartbeats 4000000 in
set_option maxRecDepth 100000 in
theorem lc_28 {p : Program} {l : Launch} {e : Env} {s : State} {m : MethodId} {below : List Frame} {meth : Method} {c : Code} {b L i aX aM : Nat} {xs : Nat → Int32} {H : Heap} {locs : List Loc} {ls : Array Slot} {cells slots : Nat} {Q : State → Prop} (S : CallFix p m c cL_law 4 s #[.ref b] lw_tbl RL) (hX : va_X b L xs s s.heap) (hbl : b < s.heap.size) (hi : i + 7 ≤ L) (hL : L ≤ 3584) (I : LI (fun q => s.heap.size ≤ q) s aX aM H locs) (hl : lv_has ls 4 [(3, .int (iI (i : Int))), (2, .ref aM), (1, .ref aX), (0, .ref b)]) (hc : cells + 3 ≤ 600000) (hs : slots + 165 ≤ 7302250) (kk : ∀ (H1 : Heap) (locs1 : List Loc), LI (fun q => s.heap.size ≤ q) s aX aM H1 locs1 → W p l e room_1 s m #[.ref b] below meth c H1 locs1 (cells + 3) (slots + 165) Q (F0 m 1283 ls [])) : W p l e room_1 s m #[.ref b] below meth c H locs cells slots Q (F0 m 1048 ls []) := by
  obtain ⟨G, K, N, ln, x, y, cT, cS, hG, hM, hKX, hKM, hwX, hwM, hap, hrel, rfl, rfl⟩ := I
  obtain ⟨hx, hb, hml, hown, hts⟩ := id S
  have hA : ∀ q : Nat, s.heap.size ≤ q → (fun q : Nat => s.heap.size ≤ q) q := fun _ h => h
  have hbA : ¬ (fun q : Nat => s.heap.size ≤ q) b := Nat.not_le.mpr hbl
  have hc0 : cells ≤ room_1.cells := by show cells ≤ 600000; omega
  have hs0 : slots ≤ room_1.slots := by show slots ≤ 7302250; omega
  have hcl : ∀ k : Nat, k ≤ 6 → (iI ((i + k : Nat) : Int)).toNatClampNeg = i + k := fun k hk => by rw [iI_cl (by omega)]; exact Int.toNat_natCast _
  have hin : ∀ k : Nat, k ≤ 6 → vp_in (iI ((i + k : Nat) : Int)) L := fun k hk h => by
    rcases h with h | h
    · rw [show (0 : Int32) = iI 0 from rfl, iI_lt (by omega) (by omega)] at h; omega
    · rw [hcl k hk] at h; omega
  refine lv_aload_n hx hb dL_law_1048 rfl (lv_at hl 2 rfl) ?_
  refine lv_aload_n hx hb dL_law_1049 rfl (lv_at hl 3 rfl) ?_
  refine lv_iload_n hx hb dL_law_1050 rfl (lv_at hl 0 rfl) ?_
  refine lv_iconst (v := 1) hx hb dL_law_1051 (by decide) ?_
  refine lv_iadd hx hb dL_law_1052 ?_
  rw [ix_k (i := i) (k := 1) (z := 1) rfl]
  refine va_sld hx hb hX hbl hbA hwX.2.2 (hin 1 (by omega)) dL_law_1053 ?_
  rw [hcl 1 (by omega)]
  refine lv_aload_n hx hb dL_law_1054 rfl (lv_at hl 3 rfl) ?_
  refine lv_iload_n hx hb dL_law_1055 rfl (lv_at hl 0 rfl) ?_
  refine lv_iconst (v := 2) hx hb dL_law_1056 (by decide) ?_
  refine lv_iadd hx hb dL_law_1057 ?_
  rw [ix_k (i := i) (k := 2) (z := 2) rfl]
  refine va_sld hx hb hX hbl hbA hwX.2.2 (hin 2 (by omega)) dL_law_1058 ?_
  rw [hcl 2 (by omega)]
  refine lv_aload_n hx hb dL_law_1059 rfl (lv_at hl 3 rfl) ?_
  refine lv_iload_n hx hb dL_law_1060 rfl (lv_at hl 0 rfl) ?_
  refine lv_iconst (v := 3) hx hb dL_law_1061 (by decide) ?_
  refine lv_iadd hx hb dL_law_1062 ?_
  rw [ix_k (i := i) (k := 3) (z := 3) rfl]
  refine va_sld hx hb hX hbl hbA hwX.2.2 (hin 3 (by omega)) dL_law_1063 ?_
  rw [hcl 3 (by omega)]
  obtain ⟨x2, y2, r, eX, eM, hR⟩ := k_sheet (F := 60000) (by omega) hrel (xs (i + 1)) (xs (i + 2)) (xs (i + 3))
  refine r_iV2 (As := [.int (xs (i + 1)), .int (xs (i + 2)), .int (xs (i + 3))]) (rest := []) S hA hKX hwX hwM hap (c_X6_sheet l hG eX) (cwV 3 hts gW_X6_sheet rfl rfl rfl (by decide +kernel) ⟨Nat.le_of_ble_eq_true rfl, Nat.le_of_ble_eq_true rfl⟩) (r_recv hKX hwX (kX_0 hG).1 (kX_0 hG).2 rfl) rfl hl.1 (Nat.le_of_ble_eq_true rfl) dL_law_1064 ⟨hc0, hs0⟩ rfl (fun H locs hwX hwM => ?_)
  refine lv_aload_n hx hb dL_law_1067 rfl (lv_at hl 1 rfl) ?_
  refine lv_aload_n hx hb dL_law_1068 rfl (lv_at hl 3 rfl) ?_
  refine lv_iload_n hx hb dL_law_1069 rfl (lv_at hl 0 rfl) ?_
  refine lv_iconst (v := 1) hx hb dL_law_1070 (by decide) ?_
  refine lv_iadd hx hb dL_law_1071 ?_
  rw [ix_k (i := i) (k := 1) (z := 1) rfl]
  refine va_sld hx hb hX hbl hbA hwX.2.2 (hin 1 (by omega)) dL_law_1072 ?_
  rw [hcl 1 (by omega)]
  refine lv_aload_n hx hb dL_law_1073 rfl (lv_at hl 3 rfl) ?_
  refine lv_iload_n hx hb dL_law_1074 rfl (lv_at hl 0 rfl) ?_
  refine lv_iconst (v := 2) hx hb dL_law_1075 (by decide) ?_
  refine lv_iadd hx hb dL_law_1076 ?_
  rw [ix_k (i := i) (k := 2) (z := 2) rfl]
  refine va_sld hx hb hX hbl hbA hwX.2.2 (hin 2 (by omega)) dL_law_1077 ?_
  rw [hcl 2 (by omega)]
  refine lv_aload_n hx hb dL_law_1078 rfl (lv_at hl 3 rfl) ?_
  refine lv_iload_n hx hb dL_law_1079 rfl (lv_at hl 0 rfl) ?_
  refine lv_iconst (v := 3) hx hb dL_law_1080 (by decide) ?_
  refine lv_iadd hx hb dL_law_1081 ?_
  rw [ix_k (i := i) (k := 3) (z := 3) rfl]
  refine va_sld hx hb hX hbl hbA hwX.2.2 (hin 3 (by omega)) dL_law_1082 ?_
  rw [hcl 3 (by omega)]
  refine r_iV2 (As := [.int (xs (i + 1)), .int (xs (i + 2)), .int (xs (i + 3))]) (rest := [.int r]) S hA hKM hwM hwX (apG_s hap) (c_X7_sheet l hM eM) (cwV 3 hts gW_X7_sheet rfl rfl rfl (by decide +kernel) ⟨Nat.le_of_ble_eq_true rfl, Nat.le_of_ble_eq_true rfl⟩) (r_recv hKM hwM (kM_0 hM).1 (kM_0 hM).2 rfl) rfl hl.1 (Nat.le_of_ble_eq_true rfl) dL_law_1083 ⟨hc0, hs0⟩ rfl (fun H locs hwM hwX => ?_)
  refine lv_icmp_eq (tgt := 1283) hx hb dL_law_1086 (by decide) (fun c_ => ?_) (fun c_ => ?_)
  · exact W.widen (Nat.le_add_right _ _) (Nat.le_add_right _ _) (kk _ _ ⟨G, K, N, ln, x2, y2, cT, cS, hG, hM, hKX, hKM, hwX, hwM, hap, hR, rfl, rfl⟩)
  · exact absurd rfl c_
set_option maxHeartbeats 4000000 in
set_option maxRecDepth 100000 in
theorem lc_29 {p : Program} {l : Launch} {e : Env} {s : State} {m : MethodId} {below : List Frame} {meth : Method} {c : Code} {b L i aX aM : Nat} {xs : Nat → Int32} {H : Heap} {locs : List Loc} {ls : Array Slot} {cells slots : Nat} {Q : State → Prop} (S : CallFix p m c cL_law 4 s #[.ref b] lw_tbl RL) (hX : va_X b L xs s s.heap) (hbl : b < s.heap.size) (hi : i + 7 ≤ L) (hL : L ≤ 3584) (I : LI (fun q => s.heap.size ≤ q) s aX aM H locs) (hl : lv_has ls 4 [(3, .int (iI (i : Int))), (2, .ref aM), (1, .ref aX), (0, .ref b)]) (hc : cells + 3 ≤ 600000) (hs : slots + 165 ≤ 7302250) (kk : ∀ (H1 : Heap) (locs1 : List Loc), LI (fun q => s.heap.size ≤ q) s aX aM H1 locs1 → W p l e room_1 s m #[.ref b] below meth c H1 locs1 (cells + 3) (slots + 165) Q (F0 m 1283 ls [])) : W p l e room_1 s m #[.ref b] below meth c H locs cells slots Q (F0 m 1091 ls []) := by
  obtain ⟨G, K, N, ln, x, y, cT, cS, hG, hM, hKX, hKM, hwX, hwM, hap, hrel, rfl, rfl⟩ := I
  obtain ⟨hx, hb, hml, hown, hts⟩ := id S
  have hA : ∀ q : Nat, s.heap.size ≤ q → (fun q : Nat => s.heap.size ≤ q) q := fun _ h => h
  have hbA : ¬ (fun q : Nat => s.heap.size ≤ q) b := Nat.not_le.mpr hbl
  have hc0 : cells ≤ room_1.cells := by show cells ≤ 600000; omega
  have hs0 : slots ≤ room_1.slots := by show slots ≤ 7302250; omega
  have hcl : ∀ k : Nat, k ≤ 6 → (iI ((i + k : Nat) : Int)).toNatClampNeg = i + k := fun k hk => by rw [iI_cl (by omega)]; exact Int.toNat_natCast _
  have hin : ∀ k : Nat, k ≤ 6 → vp_in (iI ((i + k : Nat) : Int)) L := fun k hk h => by
    rcases h with h | h
    · rw [show (0 : Int32) = iI 0 from rfl, iI_lt (by omega) (by omega)] at h; omega
    · rw [hcl k hk] at h; omega
  refine lv_aload_n hx hb dL_law_1091 rfl (lv_at hl 2 rfl) ?_
  refine lv_aload_n hx hb dL_law_1092 rfl (lv_at hl 3 rfl) ?_
  refine lv_iload_n hx hb dL_law_1093 rfl (lv_at hl 0 rfl) ?_
  refine lv_iconst (v := 1) hx hb dL_law_1094 (by decide) ?_
  refine lv_iadd hx hb dL_law_1095 ?_
  rw [ix_k (i := i) (k := 1) (z := 1) rfl]
  refine va_sld hx hb hX hbl hbA hwX.2.2 (hin 1 (by omega)) dL_law_1096 ?_
  rw [hcl 1 (by omega)]
  refine lv_aload_n hx hb dL_law_1097 rfl (lv_at hl 3 rfl) ?_
  refine lv_iload_n hx hb dL_law_1098 rfl (lv_at hl 0 rfl) ?_
  refine lv_iconst (v := 2) hx hb dL_law_1099 (by decide) ?_
  refine lv_iadd hx hb dL_law_1100 ?_
  rw [ix_k (i := i) (k := 2) (z := 2) rfl]
  refine va_sld hx hb hX hbl hbA hwX.2.2 (hin 2 (by omega)) dL_law_1101 ?_
  rw [hcl 2 (by omega)]
  refine lv_aload_n hx hb dL_law_1102 rfl (lv_at hl 3 rfl) ?_
  refine lv_iload_n hx hb dL_law_1103 rfl (lv_at hl 0 rfl) ?_
  refine lv_iconst (v := 3) hx hb dL_law_1104 (by decide) ?_
  refine lv_iadd hx hb dL_law_1105 ?_
  rw [ix_k (i := i) (k := 3) (z := 3) rfl]
  refine va_sld hx hb hX hbl hbA hwX.2.2 (hin 3 (by omega)) dL_law_1106 ?_
  rw [hcl 3 (by omega)]
  obtain ⟨x2, y2, r, eX, eM, hR⟩ := k_cell (F := 60000) (by omega) hrel (xs (i + 1)) (xs (i + 2)) (xs (i + 3))
  refine r_iV2 (As := [.int (xs (i + 1)), .int (xs (i + 2)), .int (xs (i + 3))]) (rest := []) S hA hKX hwX hwM hap (c_X6_cell l hG eX) (cwV 3 hts gW_X6_cell rfl rfl rfl (by decide +kernel) ⟨Nat.le_of_ble_eq_true rfl, Nat.le_of_ble_eq_true rfl⟩) (r_recv hKX hwX (kX_0 hG).1 (kX_0 hG).2 rfl) rfl hl.1 (Nat.le_of_ble_eq_true rfl) dL_law_1107 ⟨hc0, hs0⟩ rfl (fun H locs hwX hwM => ?_)
  refine lv_aload_n hx hb dL_law_1110 rfl (lv_at hl 1 rfl) ?_
  refine lv_aload_n hx hb dL_law_1111 rfl (lv_at hl 3 rfl) ?_
  refine lv_iload_n hx hb dL_law_1112 rfl (lv_at hl 0 rfl) ?_
  refine lv_iconst (v := 1) hx hb dL_law_1113 (by decide) ?_
  refine lv_iadd hx hb dL_law_1114 ?_
  rw [ix_k (i := i) (k := 1) (z := 1) rfl]
  refine va_sld hx hb hX hbl hbA hwX.2.2 (hin 1 (by omega)) dL_law_1115 ?_
  rw [hcl 1 (by omega)]
  refine lv_aload_n hx hb dL_law_1116 rfl (lv_at hl 3 rfl) ?_
  refine lv_iload_n hx hb dL_law_1117 rfl (lv_at hl 0 rfl) ?_
  refine lv_iconst (v := 2) hx hb dL_law_1118 (by decide) ?_
  refine lv_iadd hx hb dL_law_1119 ?_
  rw [ix_k (i := i) (k := 2) (z := 2) rfl]
  refine va_sld hx hb hX hbl hbA hwX.2.2 (hin 2 (by omega)) dL_law_1120 ?_
  rw [hcl 2 (by omega)]
  refine lv_aload_n hx hb dL_law_1121 rfl (lv_at hl 3 rfl) ?_
  refine lv_iload_n hx hb dL_law_1122 rfl (lv_at hl 0 rfl) ?_
  refine lv_iconst (v := 3) hx hb dL_law_1123 (by decide) ?_
  refine lv_iadd hx hb dL_law_1124 ?_
  rw [ix_k (i := i) (k := 3) (z := 3) rfl]
  refine va_sld hx hb hX hbl hbA hwX.2.2 (hin 3 (by omega)) dL_law_1125 ?_
  rw [hcl 3 (by omega)]
  refine r_iV2 (As := [.int (xs (i + 1)), .int (xs (i + 2)), .int (xs (i + 3))]) (rest := [.int r]) S hA hKM hwM hwX (apG_s hap) (c_X7_cell l hM eM) (cwV 3 hts gW_X7_cell rfl rfl rfl (by decide +kernel) ⟨Nat.le_of_ble_eq_true rfl, Nat.le_of_ble_eq_true rfl⟩) (r_recv hKM hwM (kM_0 hM).1 (kM_0 hM).2 rfl) rfl hl.1 (Nat.le_of_ble_eq_true rfl) dL_law_1126 ⟨hc0, hs0⟩ rfl (fun H locs hwM hwX => ?_)
  refine lv_icmp_eq (tgt := 1283) hx hb dL_law_1129 (by decide) (fun c_ => ?_) (fun c_ => ?_)
  · exact W.widen (Nat.le_add_right _ _) (Nat.le_add_right _ _) (kk _ _ ⟨G, K, N, ln, x2, y2, cT, cS, hG, hM, hKX, hKM, hwX, hwM, hap, hR, rfl, rfl⟩)
  · exact absurd rfl c_
set_option maxHeartbeats 4000000 in
set_option maxRecDepth 100000 in
theorem lc_30 {p : Program} {l : Launch} {e : Env} {s : State} {m : MethodId} {below : List Frame} {meth : Method} {c : Code} {b L i aX aM : Nat} {xs : Nat → Int32} {H : Heap} {locs : List Loc} {ls : Array Slot} {cells slots : Nat} {Q : State → Prop} (S : CallFix p m c cL_law 4 s #[.ref b] lw_tbl RL) (hX : va_X b L xs s s.heap) (hbl : b < s.heap.size) (hi : i + 7 ≤ L) (hL : L ≤ 3584) (I : LI (fun q => s.heap.size ≤ q) s aX aM H locs) (hl : lv_has ls 4 [(3, .int (iI (i : Int))), (2, .ref aM), (1, .ref aX), (0, .ref b)]) (hc : cells + 3 ≤ 600000) (hs : slots + 165 ≤ 7302250) (kk : ∀ (H1 : Heap) (locs1 : List Loc), LI (fun q => s.heap.size ≤ q) s aX aM H1 locs1 → W p l e room_1 s m #[.ref b] below meth c H1 locs1 (cells + 3) (slots + 165) Q (F0 m 1283 ls [])) : W p l e room_1 s m #[.ref b] below meth c H locs cells slots Q (F0 m 1134 ls []) := by
  obtain ⟨G, K, N, ln, x, y, cT, cS, hG, hM, hKX, hKM, hwX, hwM, hap, hrel, rfl, rfl⟩ := I
  obtain ⟨hx, hb, hml, hown, hts⟩ := id S
  have hA : ∀ q : Nat, s.heap.size ≤ q → (fun q : Nat => s.heap.size ≤ q) q := fun _ h => h
  have hbA : ¬ (fun q : Nat => s.heap.size ≤ q) b := Nat.not_le.mpr hbl
  have hc0 : cells ≤ room_1.cells := by show cells ≤ 600000; omega
  have hs0 : slots ≤ room_1.slots := by show slots ≤ 7302250; omega
  have hcl : ∀ k : Nat, k ≤ 6 → (iI ((i + k : Nat) : Int)).toNatClampNeg = i + k := fun k hk => by rw [iI_cl (by omega)]; exact Int.toNat_natCast _
  have hin : ∀ k : Nat, k ≤ 6 → vp_in (iI ((i + k : Nat) : Int)) L := fun k hk h => by
    rcases h with h | h
    · rw [show (0 : Int32) = iI 0 from rfl, iI_lt (by omega) (by omega)] at h; omega
    · rw [hcl k hk] at h; omega
  refine lv_aload_n hx hb dL_law_1134 rfl (lv_at hl 2 rfl) ?_
  refine lv_aload_n hx hb dL_law_1135 rfl (lv_at hl 3 rfl) ?_
  refine lv_iload_n hx hb dL_law_1136 rfl (lv_at hl 0 rfl) ?_
  refine lv_iconst (v := 1) hx hb dL_law_1137 (by decide) ?_
  refine lv_iadd hx hb dL_law_1138 ?_
  rw [ix_k (i := i) (k := 1) (z := 1) rfl]
  refine va_sld hx hb hX hbl hbA hwX.2.2 (hin 1 (by omega)) dL_law_1139 ?_
  rw [hcl 1 (by omega)]
  refine lv_aload_n hx hb dL_law_1140 rfl (lv_at hl 3 rfl) ?_
  refine lv_iload_n hx hb dL_law_1141 rfl (lv_at hl 0 rfl) ?_
  refine lv_iconst (v := 2) hx hb dL_law_1142 (by decide) ?_
  refine lv_iadd hx hb dL_law_1143 ?_
  rw [ix_k (i := i) (k := 2) (z := 2) rfl]
  refine va_sld hx hb hX hbl hbA hwX.2.2 (hin 2 (by omega)) dL_law_1144 ?_
  rw [hcl 2 (by omega)]
  refine lv_aload_n hx hb dL_law_1145 rfl (lv_at hl 3 rfl) ?_
  refine lv_iload_n hx hb dL_law_1146 rfl (lv_at hl 0 rfl) ?_
  refine lv_iconst (v := 3) hx hb dL_law_1147 (by decide) ?_
  refine lv_iadd hx hb dL_law_1148 ?_
  rw [ix_k (i := i) (k := 3) (z := 3) rfl]
  refine va_sld hx hb hX hbl hbA hwX.2.2 (hin 3 (by omega)) dL_law_1149 ?_
  rw [hcl 3 (by omega)]
  refine lv_aload_n hx hb dL_law_1150 rfl (lv_at hl 3 rfl) ?_
  refine lv_iload_n hx hb dL_law_1151 rfl (lv_at hl 0 rfl) ?_
  refine lv_iconst (v := 4) hx hb dL_law_1152 (by decide) ?_
  refine lv_iadd hx hb dL_law_1153 ?_
  rw [ix_k (i := i) (k := 4) (z := 4) rfl]
  refine va_sld hx hb hX hbl hbA hwX.2.2 (hin 4 (by omega)) dL_law_1154 ?_
  rw [hcl 4 (by omega)]
  refine lv_aload_n hx hb dL_law_1155 rfl (lv_at hl 3 rfl) ?_
  refine lv_iload_n hx hb dL_law_1156 rfl (lv_at hl 0 rfl) ?_
  refine lv_iconst (v := 5) hx hb dL_law_1157 (by decide) ?_
  refine lv_iadd hx hb dL_law_1158 ?_
  rw [ix_k (i := i) (k := 5) (z := 5) rfl]
  refine va_sld hx hb hX hbl hbA hwX.2.2 (hin 5 (by omega)) dL_law_1159 ?_
  rw [hcl 5 (by omega)]
  obtain ⟨x2, y2, r, eX, eM, hR⟩ := k_copy (F := 60000) (by omega) hrel (xs (i + 1)) (xs (i + 2)) (xs (i + 3)) (xs (i + 4)) (xs (i + 5))
  refine r_iV2 (As := [.int (xs (i + 1)), .int (xs (i + 2)), .int (xs (i + 3)), .int (xs (i + 4)), .int (xs (i + 5))]) (rest := []) S hA hKX hwX hwM hap (c_X6_copy l hG eX) (cwV 5 hts gW_X6_copy rfl rfl rfl (by decide +kernel) ⟨Nat.le_of_ble_eq_true rfl, Nat.le_of_ble_eq_true rfl⟩) (r_recv hKX hwX (kX_0 hG).1 (kX_0 hG).2 rfl) rfl hl.1 (Nat.le_of_ble_eq_true rfl) dL_law_1160 ⟨hc0, hs0⟩ rfl (fun H locs hwX hwM => ?_)
  refine lv_aload_n hx hb dL_law_1163 rfl (lv_at hl 1 rfl) ?_
  refine lv_aload_n hx hb dL_law_1164 rfl (lv_at hl 3 rfl) ?_
  refine lv_iload_n hx hb dL_law_1165 rfl (lv_at hl 0 rfl) ?_
  refine lv_iconst (v := 1) hx hb dL_law_1166 (by decide) ?_
  refine lv_iadd hx hb dL_law_1167 ?_
  rw [ix_k (i := i) (k := 1) (z := 1) rfl]
  refine va_sld hx hb hX hbl hbA hwX.2.2 (hin 1 (by omega)) dL_law_1168 ?_
  rw [hcl 1 (by omega)]
  refine lv_aload_n hx hb dL_law_1169 rfl (lv_at hl 3 rfl) ?_
  refine lv_iload_n hx hb dL_law_1170 rfl (lv_at hl 0 rfl) ?_
  refine lv_iconst (v := 2) hx hb dL_law_1171 (by decide) ?_
  refine lv_iadd hx hb dL_law_1172 ?_
  rw [ix_k (i := i) (k := 2) (z := 2) rfl]
  refine va_sld hx hb hX hbl hbA hwX.2.2 (hin 2 (by omega)) dL_law_1173 ?_
  rw [hcl 2 (by omega)]
  refine lv_aload_n hx hb dL_law_1174 rfl (lv_at hl 3 rfl) ?_
  refine lv_iload_n hx hb dL_law_1175 rfl (lv_at hl 0 rfl) ?_
  refine lv_iconst (v := 3) hx hb dL_law_1176 (by decide) ?_
  refine lv_iadd hx hb dL_law_1177 ?_
  rw [ix_k (i := i) (k := 3) (z := 3) rfl]
  refine va_sld hx hb hX hbl hbA hwX.2.2 (hin 3 (by omega)) dL_law_1178 ?_
  rw [hcl 3 (by omega)]
  refine lv_aload_n hx hb dL_law_1179 rfl (lv_at hl 3 rfl) ?_
  refine lv_iload_n hx hb dL_law_1180 rfl (lv_at hl 0 rfl) ?_
  refine lv_iconst (v := 4) hx hb dL_law_1181 (by decide) ?_
  refine lv_iadd hx hb dL_law_1182 ?_
  rw [ix_k (i := i) (k := 4) (z := 4) rfl]
  refine va_sld hx hb hX hbl hbA hwX.2.2 (hin 4 (by omega)) dL_law_1183 ?_
  rw [hcl 4 (by omega)]
  refine lv_aload_n hx hb dL_law_1184 rfl (lv_at hl 3 rfl) ?_
  refine lv_iload_n hx hb dL_law_1185 rfl (lv_at hl 0 rfl) ?_
  refine lv_iconst (v := 5) hx hb dL_law_1186 (by decide) ?_
  refine lv_iadd hx hb dL_law_1187 ?_
  rw [ix_k (i := i) (k := 5) (z := 5) rfl]
  refine va_sld hx hb hX hbl hbA hwX.2.2 (hin 5 (by omega)) dL_law_1188 ?_
  rw [hcl 5 (by omega)]
  refine r_iV2 (As := [.int (xs (i + 1)), .int (xs (i + 2)), .int (xs (i + 3)), .int (xs (i + 4)), .int (xs (i + 5))]) (rest := [.int r]) S hA hKM hwM hwX (apG_s hap) (c_X7_copy l hM eM) (cwV 5 hts gW_X7_copy rfl rfl rfl (by decide +kernel) ⟨Nat.le_of_ble_eq_true rfl, Nat.le_of_ble_eq_true rfl⟩) (r_recv hKM hwM (kM_0 hM).1 (kM_0 hM).2 rfl) rfl hl.1 (Nat.le_of_ble_eq_true rfl) dL_law_1189 ⟨hc0, hs0⟩ rfl (fun H locs hwM hwX => ?_)
  refine lv_icmp_eq (tgt := 1283) hx hb dL_law_1192 (by decide) (fun c_ => ?_) (fun c_ => ?_)
  · exact W.widen (Nat.le_add_right _ _) (Nat.le_add_right _ _) (kk _ _ ⟨G, K, N, ln, x2, y2, cT, cS, hG, hM, hKX, hKM, hwX, hwM, hap, hR, rfl, rfl⟩)
  · exact absurd rfl c_
set_option maxHeartbeats 4000000 in
set_option maxRecDepth 100000 in
theorem lc_31 {p : Program} {l : Launch} {e : Env} {s : State} {m : MethodId} {below : List Frame} {meth : Method} {c : Code} {b L i aX aM : Nat} {xs : Nat → Int32} {H : Heap} {locs : List Loc} {ls : Array Slot} {cells slots : Nat} {Q : State → Prop} (S : CallFix p m c cL_law 4 s #[.ref b] lw_tbl RL) (hX : va_X b L xs s s.heap) (hbl : b < s.heap.size) (hi : i + 7 ≤ L) (hL : L ≤ 3584) (I : LI (fun q => s.heap.size ≤ q) s aX aM H locs) (hl : lv_has ls 4 [(3, .int (iI (i : Int))), (2, .ref aM), (1, .ref aX), (0, .ref b)]) (hc : cells + 3 ≤ 600000) (hs : slots + 165 ≤ 7302250) (kk : ∀ (H1 : Heap) (locs1 : List Loc), LI (fun q => s.heap.size ≤ q) s aX aM H1 locs1 → W p l e room_1 s m #[.ref b] below meth c H1 locs1 (cells + 3) (slots + 165) Q (F0 m 1283 ls [])) : W p l e room_1 s m #[.ref b] below meth c H locs cells slots Q (F0 m 1197 ls []) := by
  obtain ⟨G, K, N, ln, x, y, cT, cS, hG, hM, hKX, hKM, hwX, hwM, hap, hrel, rfl, rfl⟩ := I
  obtain ⟨hx, hb, hml, hown, hts⟩ := id S
  have hA : ∀ q : Nat, s.heap.size ≤ q → (fun q : Nat => s.heap.size ≤ q) q := fun _ h => h
  have hbA : ¬ (fun q : Nat => s.heap.size ≤ q) b := Nat.not_le.mpr hbl
  have hc0 : cells ≤ room_1.cells := by show cells ≤ 600000; omega
  have hs0 : slots ≤ room_1.slots := by show slots ≤ 7302250; omega
  have hcl : ∀ k : Nat, k ≤ 6 → (iI ((i + k : Nat) : Int)).toNatClampNeg = i + k := fun k hk => by rw [iI_cl (by omega)]; exact Int.toNat_natCast _
  have hin : ∀ k : Nat, k ≤ 6 → vp_in (iI ((i + k : Nat) : Int)) L := fun k hk h => by
    rcases h with h | h
    · rw [show (0 : Int32) = iI 0 from rfl, iI_lt (by omega) (by omega)] at h; omega
    · rw [hcl k hk] at h; omega
  refine lv_aload_n hx hb dL_law_1197 rfl (lv_at hl 2 rfl) ?_
  refine lv_aload_n hx hb dL_law_1198 rfl (lv_at hl 3 rfl) ?_
  refine lv_iload_n hx hb dL_law_1199 rfl (lv_at hl 0 rfl) ?_
  refine lv_iconst (v := 1) hx hb dL_law_1200 (by decide) ?_
  refine lv_iadd hx hb dL_law_1201 ?_
  rw [ix_k (i := i) (k := 1) (z := 1) rfl]
  refine va_sld hx hb hX hbl hbA hwX.2.2 (hin 1 (by omega)) dL_law_1202 ?_
  rw [hcl 1 (by omega)]
  refine lv_aload_n hx hb dL_law_1203 rfl (lv_at hl 3 rfl) ?_
  refine lv_iload_n hx hb dL_law_1204 rfl (lv_at hl 0 rfl) ?_
  refine lv_iconst (v := 2) hx hb dL_law_1205 (by decide) ?_
  refine lv_iadd hx hb dL_law_1206 ?_
  rw [ix_k (i := i) (k := 2) (z := 2) rfl]
  refine va_sld hx hb hX hbl hbA hwX.2.2 (hin 2 (by omega)) dL_law_1207 ?_
  rw [hcl 2 (by omega)]
  refine lv_aload_n hx hb dL_law_1208 rfl (lv_at hl 3 rfl) ?_
  refine lv_iload_n hx hb dL_law_1209 rfl (lv_at hl 0 rfl) ?_
  refine lv_iconst (v := 3) hx hb dL_law_1210 (by decide) ?_
  refine lv_iadd hx hb dL_law_1211 ?_
  rw [ix_k (i := i) (k := 3) (z := 3) rfl]
  refine va_sld hx hb hX hbl hbA hwX.2.2 (hin 3 (by omega)) dL_law_1212 ?_
  rw [hcl 3 (by omega)]
  refine lv_aload_n hx hb dL_law_1213 rfl (lv_at hl 3 rfl) ?_
  refine lv_iload_n hx hb dL_law_1214 rfl (lv_at hl 0 rfl) ?_
  refine lv_iconst (v := 4) hx hb dL_law_1215 (by decide) ?_
  refine lv_iadd hx hb dL_law_1216 ?_
  rw [ix_k (i := i) (k := 4) (z := 4) rfl]
  refine va_sld hx hb hX hbl hbA hwX.2.2 (hin 4 (by omega)) dL_law_1217 ?_
  rw [hcl 4 (by omega)]
  obtain ⟨x2, y2, r, eX, eM, hR⟩ := k_courtBy (F := 60000) (by omega) hrel (xs (i + 1)) (xs (i + 2)) (xs (i + 3)) (xs (i + 4))
  refine r_iV2 (As := [.int (xs (i + 1)), .int (xs (i + 2)), .int (xs (i + 3)), .int (xs (i + 4))]) (rest := []) S hA hKX hwX hwM hap (c_X6_courtBy l hG eX) (cwV 4 hts gW_X6_courtBy rfl rfl rfl (by decide +kernel) ⟨Nat.le_of_ble_eq_true rfl, Nat.le_of_ble_eq_true rfl⟩) (r_recv hKX hwX (kX_0 hG).1 (kX_0 hG).2 rfl) rfl hl.1 (Nat.le_of_ble_eq_true rfl) dL_law_1218 ⟨hc0, hs0⟩ rfl (fun H locs hwX hwM => ?_)
  refine lv_aload_n hx hb dL_law_1221 rfl (lv_at hl 1 rfl) ?_
  refine lv_aload_n hx hb dL_law_1222 rfl (lv_at hl 3 rfl) ?_
  refine lv_iload_n hx hb dL_law_1223 rfl (lv_at hl 0 rfl) ?_
  refine lv_iconst (v := 1) hx hb dL_law_1224 (by decide) ?_
  refine lv_iadd hx hb dL_law_1225 ?_
  rw [ix_k (i := i) (k := 1) (z := 1) rfl]
  refine va_sld hx hb hX hbl hbA hwX.2.2 (hin 1 (by omega)) dL_law_1226 ?_
  rw [hcl 1 (by omega)]
  refine lv_aload_n hx hb dL_law_1227 rfl (lv_at hl 3 rfl) ?_
  refine lv_iload_n hx hb dL_law_1228 rfl (lv_at hl 0 rfl) ?_
  refine lv_iconst (v := 2) hx hb dL_law_1229 (by decide) ?_
  refine lv_iadd hx hb dL_law_1230 ?_
  rw [ix_k (i := i) (k := 2) (z := 2) rfl]
  refine va_sld hx hb hX hbl hbA hwX.2.2 (hin 2 (by omega)) dL_law_1231 ?_
  rw [hcl 2 (by omega)]
  refine lv_aload_n hx hb dL_law_1232 rfl (lv_at hl 3 rfl) ?_
  refine lv_iload_n hx hb dL_law_1233 rfl (lv_at hl 0 rfl) ?_
  refine lv_iconst (v := 3) hx hb dL_law_1234 (by decide) ?_
  refine lv_iadd hx hb dL_law_1235 ?_
  rw [ix_k (i := i) (k := 3) (z := 3) rfl]
  refine va_sld hx hb hX hbl hbA hwX.2.2 (hin 3 (by omega)) dL_law_1236 ?_
  rw [hcl 3 (by omega)]
  refine lv_aload_n hx hb dL_law_1237 rfl (lv_at hl 3 rfl) ?_
  refine lv_iload_n hx hb dL_law_1238 rfl (lv_at hl 0 rfl) ?_
  refine lv_iconst (v := 4) hx hb dL_law_1239 (by decide) ?_
  refine lv_iadd hx hb dL_law_1240 ?_
  rw [ix_k (i := i) (k := 4) (z := 4) rfl]
  refine va_sld hx hb hX hbl hbA hwX.2.2 (hin 4 (by omega)) dL_law_1241 ?_
  rw [hcl 4 (by omega)]
  refine r_iV2 (As := [.int (xs (i + 1)), .int (xs (i + 2)), .int (xs (i + 3)), .int (xs (i + 4))]) (rest := [.int r]) S hA hKM hwM hwX (apG_s hap) (c_X7_courtBy l hM eM) (cwV 4 hts gW_X7_courtBy rfl rfl rfl (by decide +kernel) ⟨Nat.le_of_ble_eq_true rfl, Nat.le_of_ble_eq_true rfl⟩) (r_recv hKM hwM (kM_0 hM).1 (kM_0 hM).2 rfl) rfl hl.1 (Nat.le_of_ble_eq_true rfl) dL_law_1242 ⟨hc0, hs0⟩ rfl (fun H locs hwM hwX => ?_)
  refine lv_icmp_eq (tgt := 1283) hx hb dL_law_1245 (by decide) (fun c_ => ?_) (fun c_ => ?_)
  · exact W.widen (Nat.le_add_right _ _) (Nat.le_add_right _ _) (kk _ _ ⟨G, K, N, ln, x2, y2, cT, cS, hG, hM, hKX, hKM, hwX, hwM, hap, hR, rfl, rfl⟩)
  · exact absurd rfl c_
set_option maxHeartbeats 4000000 in
set_option maxRecDepth 100000 in
theorem lc_32 {p : Program} {l : Launch} {e : Env} {s : State} {m : MethodId} {below : List Frame} {meth : Method} {c : Code} {b L i aX aM : Nat} {xs : Nat → Int32} {H : Heap} {locs : List Loc} {ls : Array Slot} {cells slots : Nat} {Q : State → Prop} (S : CallFix p m c cL_law 4 s #[.ref b] lw_tbl RL) (hX : va_X b L xs s s.heap) (hbl : b < s.heap.size) (hi : i + 7 ≤ L) (hL : L ≤ 3584) (I : LI (fun q => s.heap.size ≤ q) s aX aM H locs) (hl : lv_has ls 4 [(3, .int (iI (i : Int))), (2, .ref aM), (1, .ref aX), (0, .ref b)]) (hc : cells + 3 ≤ 600000) (hs : slots + 165 ≤ 7302250) (kk : ∀ (H1 : Heap) (locs1 : List Loc), LI (fun q => s.heap.size ≤ q) s aX aM H1 locs1 → W p l e room_1 s m #[.ref b] below meth c H1 locs1 (cells + 3) (slots + 165) Q (F0 m 1283 ls [])) : W p l e room_1 s m #[.ref b] below meth c H locs cells slots Q (F0 m 1250 ls []) := by
  obtain ⟨G, K, N, ln, x, y, cT, cS, hG, hM, hKX, hKM, hwX, hwM, hap, hrel, rfl, rfl⟩ := I
  obtain ⟨hx, hb, hml, hown, hts⟩ := id S
  have hA : ∀ q : Nat, s.heap.size ≤ q → (fun q : Nat => s.heap.size ≤ q) q := fun _ h => h
  have hbA : ¬ (fun q : Nat => s.heap.size ≤ q) b := Nat.not_le.mpr hbl
  have hc0 : cells ≤ room_1.cells := by show cells ≤ 600000; omega
  have hs0 : slots ≤ room_1.slots := by show slots ≤ 7302250; omega
  have hcl : ∀ k : Nat, k ≤ 6 → (iI ((i + k : Nat) : Int)).toNatClampNeg = i + k := fun k hk => by rw [iI_cl (by omega)]; exact Int.toNat_natCast _
  have hin : ∀ k : Nat, k ≤ 6 → vp_in (iI ((i + k : Nat) : Int)) L := fun k hk h => by
    rcases h with h | h
    · rw [show (0 : Int32) = iI 0 from rfl, iI_lt (by omega) (by omega)] at h; omega
    · rw [hcl k hk] at h; omega
  refine lv_aload_n hx hb dL_law_1250 rfl (lv_at hl 2 rfl) ?_
  refine lv_aload_n hx hb dL_law_1251 rfl (lv_at hl 3 rfl) ?_
  refine lv_iload_n hx hb dL_law_1252 rfl (lv_at hl 0 rfl) ?_
  refine lv_iconst (v := 1) hx hb dL_law_1253 (by decide) ?_
  refine lv_iadd hx hb dL_law_1254 ?_
  rw [ix_k (i := i) (k := 1) (z := 1) rfl]
  refine va_sld hx hb hX hbl hbA hwX.2.2 (hin 1 (by omega)) dL_law_1255 ?_
  rw [hcl 1 (by omega)]
  refine lv_aload_n hx hb dL_law_1256 rfl (lv_at hl 3 rfl) ?_
  refine lv_iload_n hx hb dL_law_1257 rfl (lv_at hl 0 rfl) ?_
  refine lv_iconst (v := 2) hx hb dL_law_1258 (by decide) ?_
  refine lv_iadd hx hb dL_law_1259 ?_
  rw [ix_k (i := i) (k := 2) (z := 2) rfl]
  refine va_sld hx hb hX hbl hbA hwX.2.2 (hin 2 (by omega)) dL_law_1260 ?_
  rw [hcl 2 (by omega)]
  obtain ⟨x2, y2, r, eX, eM, hR⟩ := k_taken (F := 60000) hrel (xs (i + 1)) (xs (i + 2))
  refine r_iV2 (As := [.int (xs (i + 1)), .int (xs (i + 2))]) (rest := []) S hA hKX hwX hwM hap (c_X6_taken l hG eX) (cwV 2 hts gW_X6_taken rfl rfl rfl (by decide +kernel) ⟨Nat.le_of_ble_eq_true rfl, Nat.le_of_ble_eq_true rfl⟩) (r_recv hKX hwX (kX_0 hG).1 (kX_0 hG).2 rfl) rfl hl.1 (Nat.le_of_ble_eq_true rfl) dL_law_1261 ⟨hc0, hs0⟩ rfl (fun H locs hwX hwM => ?_)
  refine lv_aload_n hx hb dL_law_1264 rfl (lv_at hl 1 rfl) ?_
  refine lv_aload_n hx hb dL_law_1265 rfl (lv_at hl 3 rfl) ?_
  refine lv_iload_n hx hb dL_law_1266 rfl (lv_at hl 0 rfl) ?_
  refine lv_iconst (v := 1) hx hb dL_law_1267 (by decide) ?_
  refine lv_iadd hx hb dL_law_1268 ?_
  rw [ix_k (i := i) (k := 1) (z := 1) rfl]
  refine va_sld hx hb hX hbl hbA hwX.2.2 (hin 1 (by omega)) dL_law_1269 ?_
  rw [hcl 1 (by omega)]
  refine lv_aload_n hx hb dL_law_1270 rfl (lv_at hl 3 rfl) ?_
  refine lv_iload_n hx hb dL_law_1271 rfl (lv_at hl 0 rfl) ?_
  refine lv_iconst (v := 2) hx hb dL_law_1272 (by decide) ?_
  refine lv_iadd hx hb dL_law_1273 ?_
  rw [ix_k (i := i) (k := 2) (z := 2) rfl]
  refine va_sld hx hb hX hbl hbA hwX.2.2 (hin 2 (by omega)) dL_law_1274 ?_
  rw [hcl 2 (by omega)]
  refine r_iV2 (As := [.int (xs (i + 1)), .int (xs (i + 2))]) (rest := [.int r]) S hA hKM hwM hwX (apG_s hap) (c_X7_taken l hM eM) (cwV 2 hts gW_X7_taken rfl rfl rfl (by decide +kernel) ⟨Nat.le_of_ble_eq_true rfl, Nat.le_of_ble_eq_true rfl⟩) (r_recv hKM hwM (kM_0 hM).1 (kM_0 hM).2 rfl) rfl hl.1 (Nat.le_of_ble_eq_true rfl) dL_law_1275 ⟨hc0, hs0⟩ rfl (fun H locs hwM hwX => ?_)
  refine lv_icmp_eq (tgt := 1283) hx hb dL_law_1278 (by decide) (fun c_ => ?_) (fun c_ => ?_)
  · exact W.widen (Nat.le_add_right _ _) (Nat.le_add_right _ _) (kk _ _ ⟨G, K, N, ln, x2, y2, cT, cS, hG, hM, hKX, hKM, hwX, hwM, hap, hR, rfl, rfl⟩)
  · exact absurd rfl c_
