set_option maxHeartbeats 4000000 in
set_option maxRecDepth 100000 in
theorem lc_0 {p : Program} {l : Launch} {e : Env} {s : State} {m : MethodId} {below : List Frame} {meth : Method} {c : Code} {b L i aX aM : Nat} {xs : Nat → Int32} {H : Heap} {locs : List Loc} {ls : Array Slot} {cells slots : Nat} {Q : State → Prop} (S : CallFix p m c cL_law 4 s #[.ref b] lw_tbl RL) (hX : va_X b L xs s s.heap) (hbl : b < s.heap.size) (hi : i + 7 ≤ L) (hL : L ≤ 3584) (I : LI (fun q => s.heap.size ≤ q) s aX aM H locs) (hl : lv_has ls 4 [(3, .int (iI (i : Int))), (2, .ref aM), (1, .ref aX), (0, .ref b)]) (hc : cells + 3 ≤ 600000) (hs : slots + 165 ≤ 7302250) (kk : ∀ (H1 : Heap) (locs1 : List Loc), LI (fun q => s.heap.size ≤ q) s aX aM H1 locs1 → W p l e room_1 s m #[.ref b] below meth c H1 locs1 (cells + 3) (slots + 165) Q (F0 m 1283 ls [])) : W p l e room_1 s m #[.ref b] below meth c H locs cells slots Q (F0 m 180 ls []) := by
  obtain ⟨G, K, N, ln, x, y, cT, cS, hG, hM, hKX, hKM, hwX, hwM, hap, hrel, rfl, rfl⟩ := I
  obtain ⟨hx, hb, hml, hown, hts⟩ := id S
  have hA : ∀ q : Nat, s.heap.size ≤ q → (fun q : Nat => s.heap.size ≤ q) q := fun _ h => h
  have hbA : ¬ (fun q : Nat => s.heap.size ≤ q) b := Nat.not_le.mpr hbl
  have hc0 : cells ≤ room_1.cells := by show cells ≤ 600000; omega
  have hs0 : slots ≤ room_1.slots := by show slots ≤ 7302250; omega
  have hcl : ∀ k : Nat, k ≤ 6 → (iI ((i + k : Nat) : Int)).toNatClampNeg = i + k := fun k hk => by rw [iI_cl (by omega)]; exact Int.toNat_natCast _
  have hin : ∀ k : Nat, k ≤ 6 → vp_in (iI ((i + k : Nat) : Int)) L := fun k hk h => by
    rcases h with h | h
    · rw [show (0 : Int32) = iI 0 from rfl, iI_lt (by omega) (by omega)] at h; omega
    · rw [hcl k hk] at h; omega
  refine lv_aload_n hx hb dL_law_180 rfl (lv_at hl 2 rfl) ?_
  refine lv_aload_n hx hb dL_law_181 rfl (lv_at hl 3 rfl) ?_
  refine lv_iload_n hx hb dL_law_182 rfl (lv_at hl 0 rfl) ?_
  refine lv_iconst (v := 1) hx hb dL_law_183 (by decide) ?_
  refine lv_iadd hx hb dL_law_184 ?_
  rw [ix_k (i := i) (k := 1) (z := 1) rfl]
  refine va_sld hx hb hX hbl hbA hwX.2.2 (hin 1 (by omega)) dL_law_185 ?_
  rw [hcl 1 (by omega)]
  obtain ⟨x2, y2, r, eX, eM, hR⟩ := k_count (F := 60000) hrel (xs (i + 1))
  refine r_iV2 (As := [.int (xs (i + 1))]) (rest := []) S hA hKX hwX hwM hap (c_X6_count l hG eX) (cwV 1 hts gW_X6_count rfl rfl rfl (by decide +kernel) ⟨Nat.le_of_ble_eq_true rfl, Nat.le_of_ble_eq_true rfl⟩) (r_recv hKX hwX (kX_0 hG).1 (kX_0 hG).2 rfl) rfl hl.1 (Nat.le_of_ble_eq_true rfl) dL_law_186 ⟨hc0, hs0⟩ rfl (fun H locs hwX hwM => ?_)
  refine lv_aload_n hx hb dL_law_189 rfl (lv_at hl 1 rfl) ?_
  refine lv_aload_n hx hb dL_law_190 rfl (lv_at hl 3 rfl) ?_
  refine lv_iload_n hx hb dL_law_191 rfl (lv_at hl 0 rfl) ?_
  refine lv_iconst (v := 1) hx hb dL_law_192 (by decide) ?_
  refine lv_iadd hx hb dL_law_193 ?_
  rw [ix_k (i := i) (k := 1) (z := 1) rfl]
  refine va_sld hx hb hX hbl hbA hwX.2.2 (hin 1 (by omega)) dL_law_194 ?_
  rw [hcl 1 (by omega)]
  refine r_iV2 (As := [.int (xs (i + 1))]) (rest := [.int r]) S hA hKM hwM hwX (apG_s hap) (c_X7_count l hM eM) (cwV 1 hts gW_X7_count rfl rfl rfl (by decide +kernel) ⟨Nat.le_of_ble_eq_true rfl, Nat.le_of_ble_eq_true rfl⟩) (r_recv hKM hwM (kM_0 hM).1 (kM_0 hM).2 rfl) rfl hl.1 (Nat.le_of_ble_eq_true rfl) dL_law_195 ⟨hc0, hs0⟩ rfl (fun H locs hwM hwX => ?_)
  refine lv_icmp_eq (tgt := 1283) hx hb dL_law_198 (by decide) (fun c_ => ?_) (fun c_ => ?_)
  · exact W.widen (Nat.le_add_right _ _) (Nat.le_add_right _ _) (kk _ _ ⟨G, K, N, ln, x2, y2, cT, cS, hG, hM, hKX, hKM, hwX, hwM, hap, hR, rfl, rfl⟩)
  · exact absurd rfl c_
set_option maxHeartbeats 4000000 in
set_option maxRecDepth 100000 in
theorem lc_3 {p : Program} {l : Launch} {e : Env} {s : State} {m : MethodId} {below : List Frame} {meth : Method} {c : Code} {b L i aX aM : Nat} {xs : Nat → Int32} {H : Heap} {locs : List Loc} {ls : Array Slot} {cells slots : Nat} {Q : State → Prop} (S : CallFix p m c cL_law 4 s #[.ref b] lw_tbl RL) (hX : va_X b L xs s s.heap) (hbl : b < s.heap.size) (hi : i + 7 ≤ L) (hL : L ≤ 3584) (I : LI (fun q => s.heap.size ≤ q) s aX aM H locs) (hl : lv_has ls 4 [(3, .int (iI (i : Int))), (2, .ref aM), (1, .ref aX), (0, .ref b)]) (hc : cells + 3 ≤ 600000) (hs : slots + 165 ≤ 7302250) (kk : ∀ (H1 : Heap) (locs1 : List Loc), LI (fun q => s.heap.size ≤ q) s aX aM H1 locs1 → W p l e room_1 s m #[.ref b] below meth c H1 locs1 (cells + 3) (slots + 165) Q (F0 m 1283 ls [])) : W p l e room_1 s m #[.ref b] below meth c H locs cells slots Q (F0 m 311 ls []) := by
  obtain ⟨G, K, N, ln, x, y, cT, cS, hG, hM, hKX, hKM, hwX, hwM, hap, hrel, rfl, rfl⟩ := I
  obtain ⟨hx, hb, hml, hown, hts⟩ := id S
  have hA : ∀ q : Nat, s.heap.size ≤ q → (fun q : Nat => s.heap.size ≤ q) q := fun _ h => h
  have hbA : ¬ (fun q : Nat => s.heap.size ≤ q) b := Nat.not_le.mpr hbl
  have hc0 : cells ≤ room_1.cells := by show cells ≤ 600000; omega
  have hs0 : slots ≤ room_1.slots := by show slots ≤ 7302250; omega
  have hcl : ∀ k : Nat, k ≤ 6 → (iI ((i + k : Nat) : Int)).toNatClampNeg = i + k := fun k hk => by rw [iI_cl (by omega)]; exact Int.toNat_natCast _
  have hin : ∀ k : Nat, k ≤ 6 → vp_in (iI ((i + k : Nat) : Int)) L := fun k hk h => by
    rcases h with h | h
    · rw [show (0 : Int32) = iI 0 from rfl, iI_lt (by omega) (by omega)] at h; omega
    · rw [hcl k hk] at h; omega
  refine lv_aload_n hx hb dL_law_311 rfl (lv_at hl 2 rfl) ?_
  obtain ⟨bo, x2, y2, r, eX, eM, hR⟩ := k_text (F := 60000) (by omega) hrel
  refine r_tV2 (P := grB G N ln cT cS bo) (As := []) (rest := []) S hA hKX hwX hwM hap (c_X6_text l hG eX) (fun G2 h => grB_gD h) (cwV 0 hts gW_X6_text rfl rfl rfl (by decide +kernel) ⟨Nat.le_of_ble_eq_true rfl, Nat.le_of_ble_eq_true rfl⟩) (r_recv hKX hwX (kX_0 hG).1 (kX_0 hG).2 rfl) rfl hl.1 (Nat.le_of_ble_eq_true rfl) dL_law_312 ⟨hc, hs⟩ rfl (fun G2 H locs hgr hwX hwM hap => ?_)
  refine lv_aload_n hx hb dL_law_315 rfl (lv_at hl 1 rfl) ?_
  refine r_iV2 (As := []) (rest := [.int r]) S hA hKM hwM hwX (apG_s hap) (c_X7_text l hM eM) (cwV 0 hts gW_X7_text rfl rfl rfl (by decide +kernel) ⟨Nat.le_of_ble_eq_true rfl, Nat.le_of_ble_eq_true rfl⟩) (r_recv hKM hwM (kM_0 hM).1 (kM_0 hM).2 rfl) rfl hl.1 (Nat.le_of_ble_eq_true rfl) dL_law_316 ⟨hc, hs⟩ rfl (fun H locs hwM hwX => ?_)
  refine lv_icmp_eq (tgt := 1283) hx hb dL_law_319 (by decide) (fun c_ => ?_) (fun c_ => ?_)
  · rcases hR with ⟨rfl, hR⟩ | ⟨n2, rfl, hN6, hn2, hR⟩
    · have e2 : G2 = G := hgr
      exact kk _ _ ⟨G2, K, N, ln, x2, y2, cT, cS, by rw [e2]; exact hG, hM, grB_gK hgr hKX, hKM, hwX, hwM, hap, hR, grB_0 hgr (isX_pos hG), rfl⟩
    · exact kk _ _ ⟨G2, K, N + 1, upN ln N n2, x2, y2, cT, cS, grB_is hG hN6 hgr, hM, grB_gK hgr hKX, hKM, hwX, hwM, hap, hR, grB_0 hgr (isX_pos hG), rfl⟩
  · exact absurd rfl c_
set_option maxHeartbeats 4000000 in
set_option maxRecDepth 100000 in
theorem lc_18 {p : Program} {l : Launch} {e : Env} {s : State} {m : MethodId} {below : List Frame} {meth : Method} {c : Code} {b L i aX aM : Nat} {xs : Nat → Int32} {H : Heap} {locs : List Loc} {ls : Array Slot} {cells slots : Nat} {Q : State → Prop} (S : CallFix p m c cL_law 4 s #[.ref b] lw_tbl RL) (hX : va_X b L xs s s.heap) (hbl : b < s.heap.size) (hi : i + 7 ≤ L) (hL : L ≤ 3584) (I : LI (fun q => s.heap.size ≤ q) s aX aM H locs) (hl : lv_has ls 4 [(3, .int (iI (i : Int))), (2, .ref aM), (1, .ref aX), (0, .ref b)]) (hc : cells + 3 ≤ 600000) (hs : slots + 165 ≤ 7302250) (kk : ∀ (H1 : Heap) (locs1 : List Loc), LI (fun q => s.heap.size ≤ q) s aX aM H1 locs1 → W p l e room_1 s m #[.ref b] below meth c H1 locs1 (cells + 3) (slots + 165) Q (F0 m 1283 ls [])) : W p l e room_1 s m #[.ref b] below meth c H locs cells slots Q (F0 m 747 ls []) := by
  obtain ⟨G, K, N, ln, x, y, cT, cS, hG, hM, hKX, hKM, hwX, hwM, hap, hrel, rfl, rfl⟩ := I
  obtain ⟨hx, hb, hml, hown, hts⟩ := id S
  have hA : ∀ q : Nat, s.heap.size ≤ q → (fun q : Nat => s.heap.size ≤ q) q := fun _ h => h
  have hbA : ¬ (fun q : Nat => s.heap.size ≤ q) b := Nat.not_le.mpr hbl
  have hc0 : cells ≤ room_1.cells := by show cells ≤ 600000; omega
  have hs0 : slots ≤ room_1.slots := by show slots ≤ 7302250; omega
  have hcl : ∀ k : Nat, k ≤ 6 → (iI ((i + k : Nat) : Int)).toNatClampNeg = i + k := fun k hk => by rw [iI_cl (by omega)]; exact Int.toNat_natCast _
  have hin : ∀ k : Nat, k ≤ 6 → vp_in (iI ((i + k : Nat) : Int)) L := fun k hk h => by
    rcases h with h | h
    · rw [show (0 : Int32) = iI 0 from rfl, iI_lt (by omega) (by omega)] at h; omega
    · rw [hcl k hk] at h; omega
  refine lv_aload_n hx hb dL_law_747 rfl (lv_at hl 2 rfl) ?_
  refine lv_aload_n hx hb dL_law_748 rfl (lv_at hl 3 rfl) ?_
  refine lv_iload_n hx hb dL_law_749 rfl (lv_at hl 0 rfl) ?_
  refine lv_iconst (v := 1) hx hb dL_law_750 (by decide) ?_
  refine lv_iadd hx hb dL_law_751 ?_
  rw [ix_k (i := i) (k := 1) (z := 1) rfl]
  refine va_sld hx hb hX hbl hbA hwX.2.2 (hin 1 (by omega)) dL_law_752 ?_
  rw [hcl 1 (by omega)]
  obtain ⟨x2, y2, r, eX, eM, hR⟩ := k_judge (F := 60000) (by omega) hrel (xs (i + 1))
  refine r_iV2 (As := [.int (xs (i + 1))]) (rest := []) S hA hKX hwX hwM hap (c_X6_judge l hG eX) (cwV 1 hts gW_X6_judge rfl rfl rfl (by decide +kernel) ⟨Nat.le_of_ble_eq_true rfl, Nat.le_of_ble_eq_true rfl⟩) (r_recv hKX hwX (kX_0 hG).1 (kX_0 hG).2 rfl) rfl hl.1 (Nat.le_of_ble_eq_true rfl) dL_law_753 ⟨hc0, hs0⟩ rfl (fun H locs hwX hwM => ?_)
  refine lv_aload_n hx hb dL_law_756 rfl (lv_at hl 1 rfl) ?_
  refine lv_aload_n hx hb dL_law_757 rfl (lv_at hl 3 rfl) ?_
  refine lv_iload_n hx hb dL_law_758 rfl (lv_at hl 0 rfl) ?_
  refine lv_iconst (v := 1) hx hb dL_law_759 (by decide) ?_
  refine lv_iadd hx hb dL_law_760 ?_
  rw [ix_k (i := i) (k := 1) (z := 1) rfl]
  refine va_sld hx hb hX hbl hbA hwX.2.2 (hin 1 (by omega)) dL_law_761 ?_
  rw [hcl 1 (by omega)]
  refine r_iV2 (As := [.int (xs (i + 1))]) (rest := [.int r]) S hA hKM hwM hwX (apG_s hap) (c_X7_judge l hM eM) (cwV 1 hts gW_X7_judge rfl rfl rfl (by decide +kernel) ⟨Nat.le_of_ble_eq_true rfl, Nat.le_of_ble_eq_true rfl⟩) (r_recv hKM hwM (kM_0 hM).1 (kM_0 hM).2 rfl) rfl hl.1 (Nat.le_of_ble_eq_true rfl) dL_law_762 ⟨hc0, hs0⟩ rfl (fun H locs hwM hwX => ?_)
  refine lv_icmp_eq (tgt := 1283) hx hb dL_law_765 (by decide) (fun c_ => ?_) (fun c_ => ?_)
  · exact W.widen (Nat.le_add_right _ _) (Nat.le_add_right _ _) (kk _ _ ⟨G, K, N, ln, x2, y2, cT, cS, hG, hM, hKX, hKM, hwX, hwM, hap, hR, rfl, rfl⟩)
  · exact absurd rfl c_
