/-! the JDK's members on the two String constants -/
section JD
set_option maxRecDepth 100000 in
theorem j_isLatin1 (l : Launch) {G : GW} {sz i : Nat} {σ : Sg} (hi : i < 2) : Met l yJ0_isLatin1_aae02 wsJ0_isLatin1_aae02 ({ frames := 0, cells := 0, slots := 0, locals := 0 } : Room) (va_Pc [.ref (gSK G i)] (PX G σ sz)) (QcI G (gA G sz) σ 1) 0 0 (gA G sz) := by
  refine metX (by decide) rfl (Nat.le_of_ble_eq_true rfl) ?_
  intro p e s m args below meth c ls S hr hlk hsz hA hK hw hl hmn
  have S : CallFix p m c cJ0_isLatin1_aae02 1 s args wsJ0_isLatin1_aae02 RJ0 := S
  obtain ⟨hx, hb, hml, hown, hts⟩ := id S
  have hl : lv_has ls 1 [(0, .ref (gSK G i))] := hl
  have hZ := hK.2.2.2.2.1.1 i hi
  refine va_gets hx hb hK.2.2.2.2.2.2.2.1 hw.2.2 hown (hts (.fieldLink RJ0 38 "java/lang/String" "COMPACT_STRINGS" "Z") (by decide +kernel)) (fun _ h => h) dJ0_isLatin1_aae02_0 ?_
  refine lv_if_eq (tgt := 17) hx hb dJ0_isLatin1_aae02_3 (by decide) (fun c => absurd c (by decide)) (fun _ => ?_)
  refine lv_aload_n hx hb dJ0_isLatin1_aae02_6 rfl (lv_at hl 0 rfl) ?_
  refine vk_getf hx hb hZ.2.1 hw.2.2 hown (hts (.fieldLink RJ0 15 "java/lang/String" "coder" "B") (by decide +kernel)) (fun _ h => h) dJ0_isLatin1_aae02_7 ?_
  refine lv_if_ne (tgt := 17) hx hb dJ0_isLatin1_aae02_10 (by decide) (fun c => absurd rfl c) (fun _ => ?_)
  refine lv_iconst (v := 1) hx hb dJ0_isLatin1_aae02_13 (by decide) ?_
  refine lv_goto (tgt := 18) hx hb dJ0_isLatin1_aae02_14 (by decide) ?_
  exact r_iretz S hr rfl hlk hw.2.2.2.2 hw rfl dJ0_isLatin1_aae02_18
set_option maxRecDepth 100000 in
theorem j_coder (l : Launch) {G : GW} {sz i : Nat} {σ : Sg} (hi : i < 2) : Met l yJ0_coder_7d493 wsJ0_coder_7d493 ({ frames := 0, cells := 0, slots := 0, locals := 0 } : Room) (va_Pc [.ref (gSK G i)] (PX G σ sz)) (QcI G (gA G sz) σ 0) 0 0 (gA G sz) := by
  refine metX (by decide) rfl (Nat.le_of_ble_eq_true rfl) ?_
  intro p e s m args below meth c ls S hr hlk hsz hA hK hw hl hmn
  have S : CallFix p m c cJ0_coder_7d493 1 s args wsJ0_coder_7d493 RJ0 := S
  obtain ⟨hx, hb, hml, hown, hts⟩ := id S
  have hl : lv_has ls 1 [(0, .ref (gSK G i))] := hl
  have hZ := hK.2.2.2.2.1.1 i hi
  refine va_gets hx hb hK.2.2.2.2.2.2.2.1 hw.2.2 hown (hts (.fieldLink RJ0 38 "java/lang/String" "COMPACT_STRINGS" "Z") (by decide +kernel)) (fun _ h => h) dJ0_coder_7d493_0 ?_
  refine lv_if_eq (tgt := 13) hx hb dJ0_coder_7d493_3 (by decide) (fun c => absurd c (by decide)) (fun _ => ?_)
  refine lv_aload_n hx hb dJ0_coder_7d493_6 rfl (lv_at hl 0 rfl) ?_
  refine vk_getf hx hb hZ.2.1 hw.2.2 hown (hts (.fieldLink RJ0 15 "java/lang/String" "coder" "B") (by decide +kernel)) (fun _ h => h) dJ0_coder_7d493_7 ?_
  refine lv_goto (tgt := 14) hx hb dJ0_coder_7d493_10 (by decide) ?_
  exact r_iretz S hr rfl hlk hw.2.2.2.2 hw rfl dJ0_coder_7d493_14
set_option maxRecDepth 100000 in
theorem j_checkIndex3 (l : Launch) {G : GW} {sz : Nat} {σ : Sg} {i n : Int32} {v : Value} (hv : v = .null ∨ ∃ a, v = .ref a) (h0 : ¬ i < 0) (h1 : i < n) : Met l yJ3_checkIndex_8e157 wsJ3_checkIndex_8e157 ({ frames := 0, cells := 0, slots := 0, locals := 0 } : Room) (va_Pc [.int i, .int n, v] (PX G σ sz)) (QcI G (gA G sz) σ i) 0 0 (gA G sz) := by
  refine metX (by decide) rfl (by rcases hv with rfl | ⟨a, rfl⟩ <;> exact Nat.le_of_ble_eq_true rfl) ?_
  intro p e s m args below meth c ls S hr hlk hsz hA hK hw hl hmn
  have S : CallFix p m c cJ3_checkIndex_8e157 3 s args wsJ3_checkIndex_8e157 RJ3 := S
  obtain ⟨hx, hb, hml, hown, hts⟩ := id S
  have hl : lv_has ls 3 [(0, .int i), (1, .int n), (2, v)] := by rcases hv with rfl | ⟨a, rfl⟩ <;> exact hl
  refine lv_iload_n hx hb dJ3_checkIndex_8e157_0 rfl (lv_at hl 0 rfl) ?_
  refine lv_if_lt (tgt := 9) hx hb dJ3_checkIndex_8e157_1 (by decide) (fun c => absurd c h0) (fun _ => ?_)
  refine lv_iload_n hx hb dJ3_checkIndex_8e157_4 rfl (lv_at hl 0 rfl) ?_
  refine lv_iload_n hx hb dJ3_checkIndex_8e157_5 rfl (lv_at hl 1 rfl) ?_
  refine lv_icmp_lt (tgt := 16) hx hb dJ3_checkIndex_8e157_6 (by decide) (fun _ => ?_) (fun c => absurd h1 c)
  refine lv_iload_n hx hb dJ3_checkIndex_8e157_16 rfl (lv_at hl 0 rfl) ?_
  exact r_ireti S hr hlk hw.2.2.2.2 hw rfl dJ3_checkIndex_8e157_17
set_option maxRecDepth 100000 in
theorem j_checkIndex0 (l : Launch) {G : GW} {sz : Nat} {σ : Sg} {i n : Int32} (h0 : ¬ i < 0) (h1 : i < n) : Met l yJ0_checkIndex_df160 wsJ0_checkIndex_df160 ({ frames := 1, cells := 0, slots := 0, locals := 22 } : Room) (va_Pc [.int i, .int n] (PX G σ sz)) (QcV G (gA G sz) σ) 0 0 (gA G sz) := by
  refine metX (by decide) rfl (Nat.le_of_ble_eq_true rfl) ?_
  intro p e s m args below meth c ls S hr hlk hsz hA hK hw hl hmn
  have S : CallFix p m c cJ0_checkIndex_df160 2 s args wsJ0_checkIndex_df160 RJ0 := S
  obtain ⟨hx, hb, hml, hown, hts⟩ := id S
  have hl : lv_has ls 2 [(0, .int i), (1, .int n)] := hl
  obtain ⟨v, hv, hZ⟩ : ∃ v : Value, (v = .null ∨ ∃ a, v = .ref a) ∧ va_Z "jdk/internal/util/Preconditions" "SIOOBE_FORMATTER" "Ljava/util/function/BiFunction;" v (gA G sz) s s.heap := by
    rcases hK.2.2.2.2.2.2.2.2 with h | ⟨t, h⟩
    · exact ⟨_, Or.inl rfl, h⟩
    · exact ⟨_, Or.inr ⟨t, rfl⟩, h⟩
  refine lv_iload_n hx hb dJ0_checkIndex_df160_0 rfl (lv_at hl 0 rfl) ?_
  refine lv_iload_n hx hb dJ0_checkIndex_df160_1 rfl (lv_at hl 1 rfl) ?_
  refine va_gets hx hb hZ hw.2.2 hown (hts (.fieldLink RJ0 1053 "jdk/internal/util/Preconditions" "SIOOBE_FORMATTER" "Ljava/util/function/BiFunction;") (by decide +kernel)) (fun _ h => h) dJ0_checkIndex_df160_2 ?_
  refine r_iS (As := [.int i, .int n, v]) (rest := []) S hA hK hw (j_checkIndex3 l hv h0 h1) (va_cwS 3 hts gJ0_checkIndex_df160_J3_checkIndex_8e157 rfl rfl rfl (by decide +kernel) ⟨Nat.le_of_ble_eq_true rfl, Nat.le_of_ble_eq_true rfl⟩) rfl hl.1 (Nat.le_of_ble_eq_true rfl) dJ0_checkIndex_df160_5 ⟨Nat.zero_le _, Nat.zero_le _⟩ rfl (fun H locs hw => ?_)
  refine lv_pop hx hb dJ0_checkIndex_df160_8 rfl ?_
  exact r_vreti S hr hlk hw.2.2.2.2 hw rfl dJ0_checkIndex_df160_9
theorem chS_ok : ∀ i, i < 2 → (lenS.getD i 0 = (bytS.getD i []).length ∧ ∀ b ∈ bytS.getD i [], ((b &&& 255).toUInt32 % 65536).toInt32 = b ∧ narrow .char (.int b) = .int b ∧ b.toInt8.toInt32 = b) := by decide +kernel
theorem lenS_lt : ∀ i, i < 2 → lenS.getD i 0 < 100 := by decide
set_option maxRecDepth 100000 in
theorem j_charAt1 (l : Launch) {G : GW} {sz i k : Nat} {σ : Sg} (hi : i < 2) (hk : k < lenS.getD i 0) : Met l yJ1_charAt_3b067 wsJ1_charAt_3b067 ({ frames := 2, cells := 0, slots := 0, locals := 43 } : Room) (va_Pc [.ref (gSV G i), .int (nI k)] (PX G σ sz)) (QcI G (gA G sz) σ (chS i k)) 0 0 (gA G sz) := by
  have hk2 : k < 2 ^ 31 := by have := lenS_lt i hi; omega
  have hn2 : lenS.getD i 0 < 2 ^ 31 := by have := lenS_lt i hi; omega
  refine metX (by decide) rfl (Nat.le_of_ble_eq_true rfl) ?_
  intro p e s m args below meth c ls S hr hlk hsz hA hK hw hl hmn
  have S : CallFix p m c cJ1_charAt_3b067 2 s args wsJ1_charAt_3b067 RJ1 := S
  obtain ⟨hx, hb, hml, hown, hts⟩ := id S
  have hl : lv_has ls 2 [(0, .ref (gSV G i)), (1, .int (nI k))] := hl
  have hZ := hK.2.2.2.2.1.1 i hi
  refine lv_iload_n hx hb dJ1_charAt_3b067_0 rfl (lv_at hl 1 rfl) ?_
  refine lv_aload_n hx hb dJ1_charAt_3b067_1 rfl (lv_at hl 0 rfl) ?_
  refine va_tlen hx hb hZ.2.2.2 hw.2.2 rfl dJ1_charAt_3b067_2 ?_
  refine r_vS (As := [.int (nI k), .int (Int32.ofNat (lenS.getD i 0))]) (rest := []) S hA hK hw (j_checkIndex0 l (nI_pos hk2) (nI_lt hk hn2)) (va_cwS 2 hts gJ1_charAt_3b067_J0_checkIndex_df160 rfl rfl rfl (by decide +kernel) ⟨Nat.le_of_ble_eq_true rfl, Nat.le_of_ble_eq_true rfl⟩) rfl hl.1 (Nat.le_of_ble_eq_true rfl) dJ1_charAt_3b067_3 ⟨Nat.zero_le _, Nat.zero_le _⟩ rfl (fun H locs hw => ?_)
  refine lv_aload_n hx hb dJ1_charAt_3b067_6 rfl (lv_at hl 0 rfl) ?_
  refine lv_iload_n hx hb dJ1_charAt_3b067_7 rfl (lv_at hl 1 rfl) ?_
  refine va_tb hx hb hZ.2.2.2 hw.2.2 (nI_in hk hn2) (v := .int (chS i k)) (by rw [nI_clamp hk2]; rfl) dJ1_charAt_3b067_8 ?_
  refine lv_sipush (v := 255) hx hb dJ1_charAt_3b067_9 (by decide) ?_
  refine lv_iand hx hb dJ1_charAt_3b067_12 ?_
  have hm : chS i k ∈ bytS.getD i [] := by
    have h1 := (chS_ok i hi).1
    have h2 : k < (bytS.getD i []).length := by omega
    exact getD_mem _ _ _ h2
  refine lv_i2c (v := chS i k) hx hb dJ1_charAt_3b067_13 ((chS_ok i hi).2 _ hm).1 ?_
  exact r_iretz S hr ((chS_ok i hi).2 _ hm).2.1 hlk hw.2.2.2.2 hw rfl dJ1_charAt_3b067_14
set_option maxRecDepth 100000 in
theorem j_charAt (l : Launch) {G : GW} {sz i k : Nat} {σ : Sg} (hi : i < 2) (hk : k < lenS.getD i 0) : Met l yJ0_charAt_5068e wsJ0_charAt_5068e ({ frames := 3, cells := 0, slots := 0, locals := 64 } : Room) (va_Pc [.ref (gSK G i), .int (nI k)] (PX G σ sz)) (QcI G (gA G sz) σ (chS i k)) 0 0 (gA G sz) := by
  refine metX (by decide) rfl (Nat.le_of_ble_eq_true rfl) ?_
  intro p e s m args below meth c ls S hr hlk hsz hA hK hw hl hmn
  have S : CallFix p m c cJ0_charAt_5068e 2 s args wsJ0_charAt_5068e RJ0 := S
  obtain ⟨hx, hb, hml, hown, hts⟩ := id S
  have hl : lv_has ls 2 [(0, .ref (gSK G i)), (1, .int (nI k))] := hl
  have hZ := hK.2.2.2.2.1.1 i hi
  refine lv_aload_n hx hb dJ0_charAt_5068e_0 rfl (lv_at hl 0 rfl) ?_
  refine r_iV (As := []) (rest := []) S hA hK hw (j_isLatin1 l hi) (cwV 0 hts gJ0_charAt_5068e_J0_isLatin1_aae02 rfl rfl rfl (by decide +kernel) ⟨Nat.le_of_ble_eq_true rfl, Nat.le_of_ble_eq_true rfl⟩) (vk_recv hK.2.2.2.2.1 hi hw.2.2) rfl hl.1 (Nat.le_of_ble_eq_true rfl) dJ0_charAt_5068e_1 ⟨Nat.zero_le _, Nat.zero_le _⟩ rfl (fun H locs hw => ?_)
  refine lv_if_eq (tgt := 16) hx hb dJ0_charAt_5068e_4 (by decide) (fun c => absurd c (by decide)) (fun _ => ?_)
  refine lv_aload_n hx hb dJ0_charAt_5068e_7 rfl (lv_at hl 0 rfl) ?_
  refine vk_getf hx hb hZ.2.2.1 hw.2.2 hown (hts (.fieldLink RJ0 9 "java/lang/String" "value" "[B") (by decide +kernel)) (fun _ h => h) dJ0_charAt_5068e_8 ?_
  refine lv_iload_n hx hb dJ0_charAt_5068e_11 rfl (lv_at hl 1 rfl) ?_
  refine r_iS (As := [.ref (gSV G i), .int (nI k)]) (rest := []) S hA hK hw (j_charAt1 l hi hk) (va_cwS 2 hts gJ0_charAt_5068e_J1_charAt_3b067 rfl rfl rfl (by decide +kernel) ⟨Nat.le_of_ble_eq_true rfl, Nat.le_of_ble_eq_true rfl⟩) rfl hl.1 (Nat.le_of_ble_eq_true rfl) dJ0_charAt_5068e_12 ⟨Nat.zero_le _, Nat.zero_le _⟩ rfl (fun H locs hw => ?_)
  have hm : chS i k ∈ bytS.getD i [] := by
    have h1 := (chS_ok i hi).1
    have h2 : k < (bytS.getD i []).length := by omega
    exact getD_mem _ _ _ h2
  exact r_iretz S hr ((chS_ok i hi).2 _ hm).2.1 hlk hw.2.2.2.2 hw rfl dJ0_charAt_5068e_15
set_option maxRecDepth 100000 in
theorem j_length (l : Launch) {G : GW} {sz i : Nat} {σ : Sg} (hi : i < 2) : Met l yJ0_length_8abf5 wsJ0_length_8abf5 ({ frames := 1, cells := 0, slots := 0, locals := 20 } : Room) (va_Pc [.ref (gSK G i)] (PX G σ sz)) (QcI G (gA G sz) σ (nI (lenS.getD i 0))) 0 0 (gA G sz) := by
  have hn2 : lenS.getD i 0 < 2 ^ 31 := by have := lenS_lt i hi; omega
  refine metX (by decide) rfl (Nat.le_of_ble_eq_true rfl) ?_
  intro p e s m args below meth c ls S hr hlk hsz hA hK hw hl hmn
  have S : CallFix p m c cJ0_length_8abf5 1 s args wsJ0_length_8abf5 RJ0 := S
  obtain ⟨hx, hb, hml, hown, hts⟩ := id S
  have hl : lv_has ls 1 [(0, .ref (gSK G i))] := hl
  have hZ := hK.2.2.2.2.1.1 i hi
  refine lv_aload_n hx hb dJ0_length_8abf5_0 rfl (lv_at hl 0 rfl) ?_
  refine vk_getf hx hb hZ.2.2.1 hw.2.2 hown (hts (.fieldLink RJ0 9 "java/lang/String" "value" "[B") (by decide +kernel)) (fun _ h => h) dJ0_length_8abf5_1 ?_
  refine va_tlen hx hb hZ.2.2.2 hw.2.2 (v := nI (lenS.getD i 0)) rfl dJ0_length_8abf5_4 ?_
  refine lv_aload_n hx hb dJ0_length_8abf5_5 rfl (lv_at hl 0 rfl) ?_
  refine r_iV (As := []) (rest := [.int (nI (lenS.getD i 0))]) S hA hK hw (j_coder l hi) (cwV 0 hts gJ0_length_8abf5_J0_coder_7d493 rfl rfl rfl (by decide +kernel) ⟨Nat.le_of_ble_eq_true rfl, Nat.le_of_ble_eq_true rfl⟩) (vk_recv hK.2.2.2.2.1 hi hw.2.2) rfl hl.1 (Nat.le_of_ble_eq_true rfl) dJ0_length_8abf5_6 ⟨Nat.zero_le _, Nat.zero_le _⟩ rfl (fun H locs hw => ?_)
  refine lv_ishr hx hb dJ0_length_8abf5_9 ?_
  rw [sb_shr0]
  exact r_ireti S hr hlk hw.2.2.2.2 hw rfl dJ0_length_8abf5_10
set_option maxRecDepth 100000 in
theorem j_canEncode (l : Launch) {G : GW} {sz : Nat} {σ : Sg} {c0 : Int32} : Met l yJ1_canEncode_9a6ad wsJ1_canEncode_9a6ad ({ frames := 0, cells := 0, slots := 0, locals := 0 } : Room) (va_Pc [.int c0] (PX G σ sz)) (QcI G (gA G sz) σ (if c0 < 0 ∨ 255 < c0 then 0 else 1)) 0 0 (gA G sz) := by
  refine metX (by decide) rfl (Nat.le_of_ble_eq_true rfl) ?_
  intro p e s m args below meth c ls S hr hlk hsz hA hK hw hl hmn
  have S : CallFix p m c cJ1_canEncode_9a6ad 1 s args wsJ1_canEncode_9a6ad RJ1 := S
  obtain ⟨hx, hb, hml, hown, hts⟩ := id S
  have hl : lv_has ls 1 [(0, .int c0)] := hl
  refine lv_iload_n hx hb dJ1_canEncode_9a6ad_0 rfl (lv_at hl 0 rfl) ?_
  refine lv_if_lt (tgt := 15) hx hb dJ1_canEncode_9a6ad_1 (by decide) (fun c1 => ?_) (fun c1 => ?_)
  · refine lv_iconst (v := 0) hx hb dJ1_canEncode_9a6ad_15 (by decide) ?_
    rw [if_pos (Or.inl c1)]
    exact r_iretz S hr rfl hlk hw.2.2.2.2 hw rfl dJ1_canEncode_9a6ad_16
  refine lv_iload_n hx hb dJ1_canEncode_9a6ad_4 rfl (lv_at hl 0 rfl) ?_
  refine lv_sipush (v := 255) hx hb dJ1_canEncode_9a6ad_5 (by decide) ?_
  refine lv_icmp_gt (tgt := 15) hx hb dJ1_canEncode_9a6ad_8 (by decide) (fun c2 => ?_) (fun c2 => ?_)
  · refine lv_iconst (v := 0) hx hb dJ1_canEncode_9a6ad_15 (by decide) ?_
    rw [if_pos (Or.inr c2)]
    exact r_iretz S hr rfl hlk hw.2.2.2.2 hw rfl dJ1_canEncode_9a6ad_16
  refine lv_iconst (v := 1) hx hb dJ1_canEncode_9a6ad_11 (by decide) ?_
  refine lv_goto (tgt := 16) hx hb dJ1_canEncode_9a6ad_12 (by decide) ?_
  rw [if_neg (fun h => h.elim c1 c2)]
  exact r_iretz S hr rfl hlk hw.2.2.2.2 hw rfl dJ1_canEncode_9a6ad_16
set_option maxRecDepth 100000 in
theorem j_indexOfChar (l : Launch) {G : GW} {sz i : Nat} {σ : Sg} {ch : Int32} (hi : i < 2) : Met l yJ1_indexOfChar_4cfef wsJ1_indexOfChar_4cfef ({ frames := 0, cells := 0, slots := 0, locals := 0 } : Room) (va_Pc [.ref (gSV G i), .int ch, .int 0, .int (nI (lenS.getD i 0))] (PX G σ sz)) (QcI G (gA G sz) σ (ixF i ch.toInt8.toInt32 (lenS.getD i 0) 0)) 0 0 (gA G sz) := by
  have hn2 : lenS.getD i 0 < 2 ^ 31 := by have := lenS_lt i hi; omega
  refine metX (by decide) rfl (Nat.le_of_ble_eq_true rfl) ?_
  intro p e s m args below meth c ls S hr hlk hsz hA hK hw hl hmn
  have S : CallFix p m c cJ1_indexOfChar_4cfef 6 s args wsJ1_indexOfChar_4cfef RJ1 := S
  obtain ⟨hx, hb, hml, hown, hts⟩ := id S
  have hl : lv_has ls 6 [(0, .ref (gSV G i)), (1, .int ch), (2, .int 0), (3, .int (nI (lenS.getD i 0)))] := hl
  have hZ := hK.2.2.2.2.1.1 i hi
  have L7 : ∀ (d k : Nat) (ls : Array Slot), k + d = lenS.getD i 0 → ixF i ch.toInt8.toInt32 d k = ixF i ch.toInt8.toInt32 (lenS.getD i 0) 0 → lv_has ls 6 [(0, .ref (gSV G i)), (3, .int (nI (lenS.getD i 0))), (4, .int ch.toInt8.toInt32), (5, .int (nI k))] → W p l e (headSpec wsJ1_indexOfChar_4cfef ({ frames := 0, cells := 0, slots := 0, locals := 0 } : Room)).room s m args below meth c s.heap [] 0 0 (MQ below (QcI G (gA G sz) σ (ixF i ch.toInt8.toInt32 (lenS.getD i 0) 0)) args s 0 0 (gA G sz)) (F0 m 7 ls []) := by
    intro d
    induction d with
    | zero =>
      intro k ls hk he hl
      refine lv_iload hx hb dJ1_indexOfChar_4cfef_7 (lv_at hl 3 rfl) ?_
      refine lv_iload_n hx hb dJ1_indexOfChar_4cfef_9 rfl (lv_at hl 1 rfl) ?_
      refine lv_icmp_ge (tgt := 31) hx hb dJ1_indexOfChar_4cfef_10 (by decide) (fun _ => ?_) (fun c1 => absurd (nI_le (by omega) (by omega)) c1)
      refine lv_iconst (v := -1) hx hb dJ1_indexOfChar_4cfef_31 (by decide) ?_
      rw [← he]
      exact r_ireti S hr hlk hw.2.2.2.2 hw rfl dJ1_indexOfChar_4cfef_32
    | succ d ih =>
      intro k ls hk he hl
      refine lv_iload hx hb dJ1_indexOfChar_4cfef_7 (lv_at hl 3 rfl) ?_
      refine lv_iload_n hx hb dJ1_indexOfChar_4cfef_9 rfl (lv_at hl 1 rfl) ?_
      refine lv_icmp_ge (tgt := 31) hx hb dJ1_indexOfChar_4cfef_10 (by decide) (fun c1 => absurd c1 (nI_ge (by omega) (by omega))) (fun _ => ?_)
      refine lv_aload_n hx hb dJ1_indexOfChar_4cfef_13 rfl (lv_at hl 0 rfl) ?_
      refine lv_iload hx hb dJ1_indexOfChar_4cfef_14 (lv_at hl 3 rfl) ?_
      refine va_tb hx hb hZ.2.2.2 hw.2.2 (nI_in (by omega) hn2) (v := .int (chS i k)) (by rw [nI_clamp (by omega)]; rfl) dJ1_indexOfChar_4cfef_16 ?_
      refine lv_iload hx hb dJ1_indexOfChar_4cfef_17 (lv_at hl 2 rfl) ?_
      refine lv_icmp_ne (tgt := 25) hx hb dJ1_indexOfChar_4cfef_19 (by decide) (fun c1 => ?_) (fun c1 => ?_)
      · refine lv_iinc (v := nI (k + 1)) (lv' := [(5, .int (nI (k + 1))), (0, .ref (gSV G i)), (3, .int (nI (lenS.getD i 0))), (4, .int ch.toInt8.toInt32)]) hx hb dJ1_indexOfChar_4cfef_25 hl (k := 3) rfl (nI_succ k).symm (by decide) rfl (fun ls hl => ?_)
        refine lv_goto (tgt := 7) hx hb dJ1_indexOfChar_4cfef_28 (by decide) ?_
        refine ih (k + 1) ls (by omega) ?_ (lv_sub hl [1, 2, 3, 0] rfl)
        rw [ixF, if_neg c1] at he
        exact he
      · refine lv_iload hx hb dJ1_indexOfChar_4cfef_22 (lv_at hl 3 rfl) ?_
        rw [ixF, if_pos c1] at he
        rw [← he]
        exact r_ireti S hr hlk hw.2.2.2.2 hw rfl dJ1_indexOfChar_4cfef_24
  refine lv_iload_n hx hb dJ1_indexOfChar_4cfef_0 rfl (lv_at hl 1 rfl) ?_
  refine lv_i2b (v := ch.toInt8.toInt32) hx hb dJ1_indexOfChar_4cfef_1 rfl ?_
  refine lv_istore (lv' := [(4, .int ch.toInt8.toInt32), (0, .ref (gSV G i)), (1, .int ch), (2, .int 0), (3, .int (nI (lenS.getD i 0)))]) hx hb dJ1_indexOfChar_4cfef_2 hl (by decide) rfl (fun ls hl => ?_)
  refine lv_iload_n hx hb dJ1_indexOfChar_4cfef_4 rfl (lv_at hl 3 rfl) ?_
  refine lv_istore (lv' := [(5, .int 0), (4, .int ch.toInt8.toInt32), (0, .ref (gSV G i)), (1, .int ch), (2, .int 0), (3, .int (nI (lenS.getD i 0)))]) hx hb dJ1_indexOfChar_4cfef_5 hl (by decide) rfl (fun ls hl => ?_)
  exact L7 (lenS.getD i 0) 0 ls (by omega) rfl (lv_sub hl [2, 5, 1, 0] rfl)
set_option maxRecDepth 100000 in
theorem j_indexOf1 (l : Launch) {G : GW} {sz i : Nat} {σ : Sg} {ch : Int32} (hi : i < 2) : Met l yJ1_indexOf_4cfef wsJ1_indexOf_4cfef ({ frames := 1, cells := 0, slots := 0, locals := 30 } : Room) (va_Pc [.ref (gSV G i), .int ch, .int 0, .int (nI (lenS.getD i 0))] (PX G σ sz)) (QcI G (gA G sz) σ (if ch < 0 ∨ 255 < ch then -1 else ixF i ch.toInt8.toInt32 (lenS.getD i 0) 0)) 0 0 (gA G sz) := by
  have hn2 : lenS.getD i 0 < 2 ^ 31 := by have := lenS_lt i hi; omega
  have hn0 : 0 < lenS.getD i 0 := by rcases (show i = 0 ∨ i = 1 by omega) with rfl | rfl <;> decide
  refine metX (by decide) rfl (Nat.le_of_ble_eq_true rfl) ?_
  intro p e s m args below meth c ls S hr hlk hsz hA hK hw hl hmn
  have S : CallFix p m c cJ1_indexOf_4cfef 4 s args wsJ1_indexOf_4cfef RJ1 := S
  obtain ⟨hx, hb, hml, hown, hts⟩ := id S
  have hl : lv_has ls 4 [(0, .ref (gSV G i)), (1, .int ch), (2, .int 0), (3, .int (nI (lenS.getD i 0)))] := hl
  have hZ := hK.2.2.2.2.1.1 i hi
  refine lv_iload_n hx hb dJ1_indexOf_4cfef_0 rfl (lv_at hl 1 rfl) ?_
  refine r_iS (As := [.int ch]) (rest := []) S hA hK hw (j_canEncode l) (va_cwS 1 hts gJ1_indexOf_4cfef_J1_canEncode_9a6ad rfl rfl rfl (by decide +kernel) ⟨Nat.le_of_ble_eq_true rfl, Nat.le_of_ble_eq_true rfl⟩) rfl hl.1 (Nat.le_of_ble_eq_true rfl) dJ1_indexOf_4cfef_1 ⟨Nat.zero_le _, Nat.zero_le _⟩ rfl (fun H locs hw => ?_)
  by_cases hc : ch < 0 ∨ 255 < ch
  · rw [if_pos hc, if_pos hc]
    refine lv_if_ne (tgt := 9) hx hb dJ1_indexOf_4cfef_4 (by decide) (fun c1 => absurd rfl c1) (fun _ => ?_)
    refine lv_iconst (v := -1) hx hb dJ1_indexOf_4cfef_7 (by decide) ?_
    exact r_ireti S hr hlk hw.2.2.2.2 hw rfl dJ1_indexOf_4cfef_8
  rw [if_neg hc, if_neg hc]
  refine lv_if_ne (tgt := 9) hx hb dJ1_indexOf_4cfef_4 (by decide) (fun _ => ?_) (fun c1 => absurd c1 (by decide))
  refine lv_iload_n hx hb dJ1_indexOf_4cfef_9 rfl (lv_at hl 2 rfl) ?_
  refine lv_iconst (v := 0) hx hb dJ1_indexOf_4cfef_10 (by decide) ?_
  refine va_mmax hx hb (hml.trans hl.1.symm) hown (hts (.methodLink RJ1 92 Lib.Math.max.name) (by decide +kernel)) (hts (.static Lib.Math.max.name) (by decide +kernel)) (hts (.initialized "java/lang/Math") (by decide +kernel)) (hts (.code Lib.Math.max.name Lib.Math.max.code 2 (some .int)) (by decide +kernel)) (Nat.le_of_ble_eq_true rfl) (Nat.le_of_ble_eq_true rfl) (Nat.zero_le _) (Nat.zero_le _) dJ1_indexOf_4cfef_11 ?_
  refine lv_istore_n (lv' := [(2, .int 0), (0, .ref (gSV G i)), (1, .int ch), (3, .int (nI (lenS.getD i 0)))]) hx hb dJ1_indexOf_4cfef_14 rfl hl (by decide) rfl (fun ls hl => ?_)
  refine lv_iload_n hx hb dJ1_indexOf_4cfef_15 rfl (lv_at hl 3 rfl) ?_
  refine lv_aload_n hx hb dJ1_indexOf_4cfef_16 rfl (lv_at hl 1 rfl) ?_
  refine va_tlen hx hb hZ.2.2.2 hw.2.2 (v := nI (lenS.getD i 0)) rfl dJ1_indexOf_4cfef_17 ?_
  refine va_mmin hx hb (hml.trans hl.1.symm) hown (hts (.methodLink RJ1 38 Lib.Math.min.name) (by decide +kernel)) (hts (.static Lib.Math.min.name) (by decide +kernel)) (hts (.initialized "java/lang/Math") (by decide +kernel)) (hts (.code Lib.Math.min.name Lib.Math.min.code 2 (some .int)) (by decide +kernel)) (Nat.le_of_ble_eq_true rfl) (Nat.le_of_ble_eq_true rfl) (Nat.zero_le _) (Nat.zero_le _) dJ1_indexOf_4cfef_18 ?_
  rw [ite_self]
  refine lv_istore_n (lv' := [(3, .int (nI (lenS.getD i 0))), (2, .int 0), (0, .ref (gSV G i)), (1, .int ch)]) hx hb dJ1_indexOf_4cfef_21 rfl hl (by decide) rfl (fun ls hl => ?_)
  refine lv_iload_n hx hb dJ1_indexOf_4cfef_22 rfl (lv_at hl 1 rfl) ?_
  refine lv_iload_n hx hb dJ1_indexOf_4cfef_23 rfl (lv_at hl 0 rfl) ?_
  refine lv_icmp_lt (tgt := 29) hx hb dJ1_indexOf_4cfef_24 (by decide) (fun _ => ?_) (fun c1 => absurd (nI_lt hn0 hn2) c1)
  refine lv_aload_n hx hb dJ1_indexOf_4cfef_29 rfl (lv_at hl 2 rfl) ?_
  refine lv_iload_n hx hb dJ1_indexOf_4cfef_30 rfl (lv_at hl 3 rfl) ?_
  refine lv_iload_n hx hb dJ1_indexOf_4cfef_31 rfl (lv_at hl 1 rfl) ?_
  refine lv_iload_n hx hb dJ1_indexOf_4cfef_32 rfl (lv_at hl 0 rfl) ?_
  refine r_iS (As := [.ref (gSV G i), .int ch, .int 0, .int (nI (lenS.getD i 0))]) (rest := []) S hA hK hw (j_indexOfChar l hi) (va_cwS 4 hts gJ1_indexOf_4cfef_J1_indexOfChar_4cfef rfl rfl rfl (by decide +kernel) ⟨Nat.le_of_ble_eq_true rfl, Nat.le_of_ble_eq_true rfl⟩) rfl hl.1 (Nat.le_of_ble_eq_true rfl) dJ1_indexOf_4cfef_33 ⟨Nat.zero_le _, Nat.zero_le _⟩ rfl (fun H locs hw => ?_)
  exact r_ireti S hr hlk hw.2.2.2.2 hw rfl dJ1_indexOf_4cfef_36
set_option maxRecDepth 100000 in
theorem j_indexOf2 (l : Launch) {G : GW} {sz i : Nat} {σ : Sg} {ch : Int32} (hi : i < 2) : Met l yJ0_indexOf_7cf53 wsJ0_indexOf_7cf53 ({ frames := 2, cells := 0, slots := 0, locals := 53 } : Room) (va_Pc [.ref (gSK G i), .int ch, .int 0] (PX G σ sz)) (QcI G (gA G sz) σ (if ch < 0 ∨ 255 < ch then -1 else ixF i ch.toInt8.toInt32 (lenS.getD i 0) 0)) 0 0 (gA G sz) := by
  refine metX (by decide) rfl (Nat.le_of_ble_eq_true rfl) ?_
  intro p e s m args below meth c ls S hr hlk hsz hA hK hw hl hmn
  have S : CallFix p m c cJ0_indexOf_7cf53 3 s args wsJ0_indexOf_7cf53 RJ0 := S
  obtain ⟨hx, hb, hml, hown, hts⟩ := id S
  have hl : lv_has ls 3 [(0, .ref (gSK G i)), (1, .int ch), (2, .int 0)] := hl
  have hZ := hK.2.2.2.2.1.1 i hi
  refine lv_aload_n hx hb dJ0_indexOf_7cf53_0 rfl (lv_at hl 0 rfl) ?_
  refine r_iV (As := []) (rest := []) S hA hK hw (j_isLatin1 l hi) (cwV 0 hts gJ0_indexOf_7cf53_J0_isLatin1_aae02 rfl rfl rfl (by decide +kernel) ⟨Nat.le_of_ble_eq_true rfl, Nat.le_of_ble_eq_true rfl⟩) (vk_recv hK.2.2.2.2.1 hi hw.2.2) rfl hl.1 (Nat.le_of_ble_eq_true rfl) dJ0_indexOf_7cf53_1 ⟨Nat.zero_le _, Nat.zero_le _⟩ rfl (fun H locs hw => ?_)
  refine lv_if_eq (tgt := 23) hx hb dJ0_indexOf_7cf53_4 (by decide) (fun c => absurd c (by decide)) (fun _ => ?_)
  refine lv_aload_n hx hb dJ0_indexOf_7cf53_7 rfl (lv_at hl 0 rfl) ?_
  refine vk_getf hx hb hZ.2.2.1 hw.2.2 hown (hts (.fieldLink RJ0 9 "java/lang/String" "value" "[B") (by decide +kernel)) (fun _ h => h) dJ0_indexOf_7cf53_8 ?_
  refine lv_iload_n hx hb dJ0_indexOf_7cf53_11 rfl (lv_at hl 1 rfl) ?_
  refine lv_iload_n hx hb dJ0_indexOf_7cf53_12 rfl (lv_at hl 2 rfl) ?_
  refine lv_aload_n hx hb dJ0_indexOf_7cf53_13 rfl (lv_at hl 0 rfl) ?_
  refine r_iV (As := []) (rest := [.int 0, .int ch, .ref (gSV G i)]) S hA hK hw (j_length l hi) (cwV 0 hts gJ0_indexOf_7cf53_J0_length_8abf5 rfl rfl rfl (by decide +kernel) ⟨Nat.le_of_ble_eq_true rfl, Nat.le_of_ble_eq_true rfl⟩) (vk_recv hK.2.2.2.2.1 hi hw.2.2) rfl hl.1 (Nat.le_of_ble_eq_true rfl) dJ0_indexOf_7cf53_14 ⟨Nat.zero_le _, Nat.zero_le _⟩ rfl (fun H locs hw => ?_)
  refine r_iS (As := [.ref (gSV G i), .int ch, .int 0, .int (nI (lenS.getD i 0))]) (rest := []) S hA hK hw (j_indexOf1 l hi) (va_cwS 4 hts gJ0_indexOf_7cf53_J1_indexOf_4cfef rfl rfl rfl (by decide +kernel) ⟨Nat.le_of_ble_eq_true rfl, Nat.le_of_ble_eq_true rfl⟩) rfl hl.1 (Nat.le_of_ble_eq_true rfl) dJ0_indexOf_7cf53_17 ⟨Nat.zero_le _, Nat.zero_le _⟩ rfl (fun H locs hw => ?_)
  refine lv_goto (tgt := 36) hx hb dJ0_indexOf_7cf53_20 (by decide) ?_
  exact r_ireti S hr hlk hw.2.2.2.2 hw rfl dJ0_indexOf_7cf53_36
set_option maxRecDepth 100000 in
theorem j_indexOf (l : Launch) {G : GW} {sz i : Nat} {σ : Sg} {ch : Int32} (hi : i < 2) : Met l yJ0_indexOf_0f7a4 wsJ0_indexOf_0f7a4 ({ frames := 3, cells := 0, slots := 0, locals := 75 } : Room) (va_Pc [.ref (gSK G i), .int ch] (PX G σ sz)) (QcI G (gA G sz) σ (if ch < 0 ∨ 255 < ch then -1 else ixF i ch.toInt8.toInt32 (lenS.getD i 0) 0)) 0 0 (gA G sz) := by
  refine metX (by decide) rfl (Nat.le_of_ble_eq_true rfl) ?_
  intro p e s m args below meth c ls S hr hlk hsz hA hK hw hl hmn
  have S : CallFix p m c cJ0_indexOf_0f7a4 2 s args wsJ0_indexOf_0f7a4 RJ0 := S
  obtain ⟨hx, hb, hml, hown, hts⟩ := id S
  have hl : lv_has ls 2 [(0, .ref (gSK G i)), (1, .int ch)] := hl
  refine lv_aload_n hx hb dJ0_indexOf_0f7a4_0 rfl (lv_at hl 0 rfl) ?_
  refine lv_iload_n hx hb dJ0_indexOf_0f7a4_1 rfl (lv_at hl 1 rfl) ?_
  refine lv_iconst (v := 0) hx hb dJ0_indexOf_0f7a4_2 (by decide) ?_
  refine r_iV (As := [.int ch, .int 0]) (rest := []) S hA hK hw (j_indexOf2 l hi) (cwV 2 hts gJ0_indexOf_0f7a4_J0_indexOf_7cf53 rfl rfl rfl (by decide +kernel) ⟨Nat.le_of_ble_eq_true rfl, Nat.le_of_ble_eq_true rfl⟩) (vk_recv hK.2.2.2.2.1 hi hw.2.2) rfl hl.1 (Nat.le_of_ble_eq_true rfl) dJ0_indexOf_0f7a4_3 ⟨Nat.zero_le _, Nat.zero_le _⟩ rfl (fun H locs hw => ?_)
  exact r_ireti S hr hlk hw.2.2.2.2 hw rfl dJ0_indexOf_0f7a4_6
theorem j_charAt_i (l : Launch) {G : GW} {sz i : Nat} {σ : Sg} {k x : Int32} (hi : i < 2) (h : vp_in k (lenS.getD i 0) ∧ chS i k.toNatClampNeg = x) : Met l yJ0_charAt_5068e wsJ0_charAt_5068e ({ frames := 3, cells := 0, slots := 0, locals := 64 } : Room) (va_Pc [.ref (gSK G i), .int k] (PX G σ sz)) (QcI G (gA G sz) σ x) 0 0 (gA G sz) := by
  obtain ⟨h1, rfl⟩ := h
  have hn2 : lenS.getD i 0 < 2 ^ 31 := by have := lenS_lt i hi; omega
  obtain ⟨j, hj, rfl⟩ := vp_in_of h1 hn2
  rw [nI_clamp (by omega)]
  exact j_charAt l hi hj
end JD
