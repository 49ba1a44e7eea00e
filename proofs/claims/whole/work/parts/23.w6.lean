set_option maxHeartbeats 4000000 in
set_option maxRecDepth 100000 in
theorem c_X6_count (l : Launch) {G : GW} {N : Nat} {ln : Nat → Nat} {cT cS : ClassId} (hG : isX G N ln cT cS) {F sz : Nat} {a1 : Int32} {σ σR : Sg} {r : Int32} (hg : g_X6_count F N ln a1 σ = some (σR, r)) : Met l yX6_count wsX6_count ({ frames := 0, cells := 0, slots := 0, locals := 0 } : Room) (va_Pc [.ref (gAd G 0), .int a1] (PX G σ sz)) (QcI G (gA G sz) σR r) 0 0 (gA G sz) := by
  refine metX (by decide) rfl (Nat.le_of_ble_eq_true rfl) ?_
  intro p e s m args below meth c ls S hr hlk hsz hA hK hw hl hmn
  have S : CallFix p m c cX6_count 2 s args wsX6_count RX6 := S
  obtain ⟨hx, hb, hml, hown, hts⟩ := id S
  have hl : lv_has ls 2 [(0, .ref (gAd G 0)), (1, .int a1)] := hl
  have hinX1 : ∀ w ∈ wsX10, w ∈ wsX6_count := by decide +kernel
  have hinX4 : ∀ w ∈ wsX40, w ∈ wsX6_count := by decide +kernel
  have hinX6 : ∀ w ∈ wsX60, w ∈ wsX6_count := by decide +kernel
  rw [g_X6_count] at hg
  refine lv_iload_n hx hb dX6_count_0 rfl (lv_at hl 1 rfl) ?_
  by_cases c_1 : a1 = 0
  · have hg := it_p hg c_1
    refine lv_tableIn (tgt := 40) hx hb dX6_count_1 (by rw [c_1]; decide) (by rw [c_1]; decide) (off := 39) (by rw [c_1]; rfl) (by decide) ?_
    refine lv_aload_n hx hb dX6_count_40 rfl (lv_at hl 0 rfl) ?_
    refine r_getr (C := RX6) (T := TX6) (N := 12) (k' := 1) S hK hw (kX_0 hG).1 (kX_0 hG).2 rfl hinX6 0 (by decide) (o := 1) rfl rfl (hts (.fieldLink RX6 10 "SoupByRank" "court" "LSoupByRank$Court;") (by decide +kernel)) rfl dX6_count_41 ?_
    refine r_getN (C := RX1) (T := TX1) (N := 9) (host := RX6) S hK hw (kX_1 hG).1 (kX_1 hG).2 rfl hinX1 0 (by decide) rfl (by decide +kernel) rfl dX6_count_44 ?_
    exact r_ireti S hr hlk hw.2.2.2.2 hw hg dX6_count_47
  have hg := it_n hg c_1
  by_cases c_2 : a1 = 1
  · have hg := it_p hg c_2
    refine lv_tableIn (tgt := 48) hx hb dX6_count_1 (by rw [c_2]; decide) (by rw [c_2]; decide) (off := 47) (by rw [c_2]; rfl) (by decide) ?_
    refine lv_aload_n hx hb dX6_count_48 rfl (lv_at hl 0 rfl) ?_
    refine r_getr (C := RX6) (T := TX6) (N := 12) (k' := 1) S hK hw (kX_0 hG).1 (kX_0 hG).2 rfl hinX6 0 (by decide) (o := 1) rfl rfl (hts (.fieldLink RX6 10 "SoupByRank" "court" "LSoupByRank$Court;") (by decide +kernel)) rfl dX6_count_49 ?_
    refine r_getN (C := RX1) (T := TX1) (N := 9) (host := RX6) S hK hw (kX_1 hG).1 (kX_1 hG).2 rfl hinX1 1 (by decide) rfl (by decide +kernel) rfl dX6_count_52 ?_
    exact r_ireti S hr hlk hw.2.2.2.2 hw hg dX6_count_55
  have hg := it_n hg c_2
  by_cases c_3 : a1 = 2
  · have hg := it_p hg c_3
    refine lv_tableIn (tgt := 56) hx hb dX6_count_1 (by rw [c_3]; decide) (by rw [c_3]; decide) (off := 55) (by rw [c_3]; rfl) (by decide) ?_
    refine lv_aload_n hx hb dX6_count_56 rfl (lv_at hl 0 rfl) ?_
    refine r_getr (C := RX6) (T := TX6) (N := 12) (k' := 1) S hK hw (kX_0 hG).1 (kX_0 hG).2 rfl hinX6 0 (by decide) (o := 1) rfl rfl (hts (.fieldLink RX6 10 "SoupByRank" "court" "LSoupByRank$Court;") (by decide +kernel)) rfl dX6_count_57 ?_
    refine r_getN (C := RX1) (T := TX1) (N := 9) (host := RX6) S hK hw (kX_1 hG).1 (kX_1 hG).2 rfl hinX1 2 (by decide) rfl (by decide +kernel) rfl dX6_count_60 ?_
    exact r_ireti S hr hlk hw.2.2.2.2 hw hg dX6_count_63
  have hg := it_n hg c_3
  by_cases c_4 : a1 = 3
  · have hg := it_p hg c_4
    refine lv_tableIn (tgt := 64) hx hb dX6_count_1 (by rw [c_4]; decide) (by rw [c_4]; decide) (off := 63) (by rw [c_4]; rfl) (by decide) ?_
    refine lv_aload_n hx hb dX6_count_64 rfl (lv_at hl 0 rfl) ?_
    refine r_get (C := RX6) (T := TX6) (N := 12) S hK hw (kX_0 hG).1 (kX_0 hG).2 rfl hinX6 8 (by decide) rfl (hts (.fieldLink RX6 49 "SoupByRank" "textsThere" "I") (by decide +kernel)) rfl dX6_count_65 ?_
    exact r_ireti S hr hlk hw.2.2.2.2 hw hg dX6_count_68
  have hg := it_n hg c_4
  by_cases c_5 : a1 = 4
  · have hg := it_p hg c_5
    refine lv_tableIn (tgt := 69) hx hb dX6_count_1 (by rw [c_5]; decide) (by rw [c_5]; decide) (off := 68) (by rw [c_5]; rfl) (by decide) ?_
    refine lv_aload_n hx hb dX6_count_69 rfl (lv_at hl 0 rfl) ?_
    refine r_getr (C := RX6) (T := TX6) (N := 12) (k' := 1) S hK hw (kX_0 hG).1 (kX_0 hG).2 rfl hinX6 0 (by decide) (o := 1) rfl rfl (hts (.fieldLink RX6 10 "SoupByRank" "court" "LSoupByRank$Court;") (by decide +kernel)) rfl dX6_count_70 ?_
    refine r_getN (C := RX1) (T := TX1) (N := 9) (host := RX6) S hK hw (kX_1 hG).1 (kX_1 hG).2 rfl hinX1 3 (by decide) rfl (by decide +kernel) rfl dX6_count_73 ?_
    exact r_ireti S hr hlk hw.2.2.2.2 hw hg dX6_count_76
  have hg := it_n hg c_5
  by_cases c_6 : a1 = 5
  · have hg := it_p hg c_6
    refine lv_tableIn (tgt := 77) hx hb dX6_count_1 (by rw [c_6]; decide) (by rw [c_6]; decide) (off := 76) (by rw [c_6]; rfl) (by decide) ?_
    refine lv_aload_n hx hb dX6_count_77 rfl (lv_at hl 0 rfl) ?_
    refine r_getr (C := RX6) (T := TX6) (N := 12) (k' := 30) S hK hw (kX_0 hG).1 (kX_0 hG).2 rfl hinX6 9 (by decide) (o := 30) rfl rfl (hts (.fieldLink RX6 56 "SoupByRank" "tape" "LSoupByRank$Tape;") (by decide +kernel)) rfl dX6_count_78 ?_
    refine r_getN (C := RX4) (T := TX4) (N := 10) (host := RX6) S hK hw (kX_30 hG).1 (kX_30 hG).2 rfl hinX4 1 (by decide) rfl (by decide +kernel) rfl dX6_count_81 ?_
    exact r_ireti S hr hlk hw.2.2.2.2 hw hg dX6_count_84
  have hg := it_n hg c_6
  have hsw := tb_out (lo := 0) (hi := 5) (x := a1) (fun n h1 h2 => by rcases (show n = 0 ∨ n = 1 ∨ n = 2 ∨ n = 3 ∨ n = 4 ∨ n = 5 by omega) with rfl | rfl | rfl | rfl | rfl | rfl; exact lv_neT c_1 (by decide); exact lv_neT c_2 (by decide); exact lv_neT c_3 (by decide); exact lv_neT c_4 (by decide); exact lv_neT c_5 (by decide); exact lv_neT c_6 (by decide))
  refine lv_tableOut (tgt := 85) hx hb dX6_count_1 hsw (by decide) ?_
  refine lv_bipush (v := (-2)) hx hb dX6_count_85 (by decide) ?_
  exact r_ireti S hr hlk hw.2.2.2.2 hw hg dX6_count_87
set_option maxHeartbeats 4000000 in
set_option maxRecDepth 100000 in
theorem c_X6_isWithin (l : Launch) {G : GW} {N : Nat} {ln : Nat → Nat} {cT cS : ClassId} (hG : isX G N ln cT cS) {F sz : Nat} {a0 : Int32} {a1 : Int32} {a2 : Int32} {σ σR : Sg} {r : Int32} (hg : g_X6_isWithin F N ln a0 a1 a2 σ = some (σR, r)) : Met l yX6_isWithin wsX6_isWithin ({ frames := 0, cells := 0, slots := 0, locals := 0 } : Room) (va_Pc [.int a0, .int a1, .int a2] (PX G σ sz)) (QcI G (gA G sz) σR r) 0 0 (gA G sz) := by
  refine metX (by decide) rfl (Nat.le_of_ble_eq_true rfl) ?_
  intro p e s m args below meth c ls S hr hlk hsz hA hK hw hl hmn
  have S : CallFix p m c cX6_isWithin 3 s args wsX6_isWithin RX6 := S
  obtain ⟨hx, hb, hml, hown, hts⟩ := id S
  have hl : lv_has ls 3 [(0, .int a0), (1, .int a1), (2, .int a2)] := hl
  rw [g_X6_isWithin] at hg
  refine lv_iload_n hx hb dX6_isWithin_0 rfl (lv_at hl 0 rfl) ?_
  refine lv_iload_n hx hb dX6_isWithin_1 rfl (lv_at hl 1 rfl) ?_
  refine lv_icmp_lt (tgt := 14) hx hb dX6_isWithin_2 (by decide) (fun c_1 => ?_) (fun c_1 => ?_)
  · have hg := it_p hg c_1
    refine lv_iconst (v := 0) hx hb dX6_isWithin_14 (by decide) ?_
    exact r_iretz S hr rfl hlk hw.2.2.2.2 hw hg dX6_isWithin_15
  · have hg := it_n hg c_1
    refine lv_iload_n hx hb dX6_isWithin_5 rfl (lv_at hl 0 rfl) ?_
    refine lv_iload_n hx hb dX6_isWithin_6 rfl (lv_at hl 2 rfl) ?_
    refine lv_icmp_gt (tgt := 14) hx hb dX6_isWithin_7 (by decide) (fun c_2 => ?_) (fun c_2 => ?_)
    · have hg := it_p hg c_2
      refine lv_iconst (v := 0) hx hb dX6_isWithin_14 (by decide) ?_
      exact r_iretz S hr rfl hlk hw.2.2.2.2 hw hg dX6_isWithin_15
    · have hg := it_n hg c_2
      refine lv_iconst (v := 1) hx hb dX6_isWithin_10 (by decide) ?_
      refine lv_goto (tgt := 15) hx hb dX6_isWithin_11 (by decide) ?_
      exact r_iretz S hr rfl hlk hw.2.2.2.2 hw hg dX6_isWithin_15
set_option maxHeartbeats 4000000 in
set_option maxRecDepth 100000 in
theorem c_X6_brings (l : Launch) {G : GW} {N : Nat} {ln : Nat → Nat} {cT cS : ClassId} (hG : isX G N ln cT cS) {F sz : Nat} {a1 : Int32} {a2 : Int32} {σ σR : Sg} {r : Int32} (hg : g_X6_brings F N ln a1 a2 σ = some (σR, r)) : Met l yX6_brings wsX6_brings ({ frames := 1, cells := 0, slots := 0, locals := 22 } : Room) (va_Pc [.ref (gAd G 0), .int a1, .int a2] (PX G σ sz)) (QcI G (gA G sz) σR r) 0 0 (gA G sz) := by
  refine metX (by decide) rfl (Nat.le_of_ble_eq_true rfl) ?_
  intro p e s m args below meth c ls S hr hlk hsz hA hK hw hl hmn
  have S : CallFix p m c cX6_brings 4 s args wsX6_brings RX6 := S
  obtain ⟨hx, hb, hml, hown, hts⟩ := id S
  have hl : lv_has ls 4 [(0, .ref (gAd G 0)), (1, .int a1), (2, .int a2)] := hl
  have hinX1 : ∀ w ∈ wsX10, w ∈ wsX6_brings := by decide +kernel
  have hinX6 : ∀ w ∈ wsX60, w ∈ wsX6_brings := by decide +kernel
  have J53 : ∀ (v1 : Int32) (v2 : Int32) (u0 : Int32) (σ : Sg) (H : Heap) (locs : List Loc) (ls : Array Slot) (hg : g_X6_brings_b53 F N ln v1 v2 u0 σ = some (σR, r)) (hw : XD G (gA G sz) s.heap σ H locs) (hl : lv_has ls 4 [(0, .ref (gAd G 0)), (1, .int v1), (2, .int v2)]), W p l e (headSpec wsX6_brings ({ frames := 1, cells := 0, slots := 0, locals := 22 } : Room)).room s m args below meth c H locs 0 0 (MQ below (QcI G (gA G sz) σR r) args s 0 0 (gA G sz)) (F0 m 53 ls [.int u0]) := by
    intro v1 v2 u0 σ H locs ls hg hw hl
    rw [g_X6_brings_b53] at hg
    refine lv_istore_n (lv' := [(3, .int u0), (0, .ref (gAd G 0)), (1, .int v1), (2, .int v2)]) hx hb dX6_brings_53 rfl hl (by decide) rfl (fun ls hl => ?_)
    refine lv_iload_n hx hb dX6_brings_54 rfl (lv_at hl 2 rfl) ?_
    refine lv_if_ne (tgt := 69) hx hb dX6_brings_55 (by decide) (fun c_1 => ?_) (fun c_1 => ?_)
    · have hg := it_n hg c_1
      refine lv_aload_n hx hb dX6_brings_69 rfl (lv_at hl 1 rfl) ?_
      refine r_getr (C := RX6) (T := TX6) (N := 12) (k' := 1) S hK hw (kX_0 hG).1 (kX_0 hG).2 rfl hinX6 0 (by decide) (o := 1) rfl rfl (hts (.fieldLink RX6 10 "SoupByRank" "court" "LSoupByRank$Court;") (by decide +kernel)) rfl dX6_brings_70 ?_
      refine lv_iload_n hx hb dX6_brings_73 rfl (lv_at hl 3 rfl) ?_
      obtain ⟨s_2, e_3, hg⟩ := wrF_e hg
      refine r_putN (C := RX1) (T := TX1) (N := 9) (host := RX6) S hK hw (kX_1 hG).1 (kX_1 hG).2 rfl hinX1 tyX1_ok nmX1 2 (by decide) rfl rfl rfl rfl (by decide +kernel) rfl e_3 dX6_brings_74 (fun H locs hw => ?_)
      refine lv_iload_n hx hb dX6_brings_77 rfl (lv_at hl 0 rfl) ?_
      exact r_ireti S hr hlk hw.2.2.2.2 hw hg dX6_brings_78
    · have hg := it_p hg c_1
      refine lv_aload_n hx hb dX6_brings_58 rfl (lv_at hl 1 rfl) ?_
      refine r_getr (C := RX6) (T := TX6) (N := 12) (k' := 1) S hK hw (kX_0 hG).1 (kX_0 hG).2 rfl hinX6 0 (by decide) (o := 1) rfl rfl (hts (.fieldLink RX6 10 "SoupByRank" "court" "LSoupByRank$Court;") (by decide +kernel)) rfl dX6_brings_59 ?_
      refine lv_iload_n hx hb dX6_brings_62 rfl (lv_at hl 3 rfl) ?_
      obtain ⟨s_4, e_5, hg⟩ := wrF_e hg
      refine r_putN (C := RX1) (T := TX1) (N := 9) (host := RX6) S hK hw (kX_1 hG).1 (kX_1 hG).2 rfl hinX1 tyX1_ok nmX1 1 (by decide) rfl rfl rfl rfl (by decide +kernel) rfl e_5 dX6_brings_63 (fun H locs hw => ?_)
      refine lv_goto (tgt := 77) hx hb dX6_brings_66 (by decide) ?_
      refine lv_iload_n hx hb dX6_brings_77 rfl (lv_at hl 0 rfl) ?_
      exact r_ireti S hr hlk hw.2.2.2.2 hw hg dX6_brings_78
  have J23 : ∀ (v1 : Int32) (v2 : Int32) (u0 : Int32) (u1 : Int32) (u2 : Int32) (σ : Sg) (H : Heap) (locs : List Loc) (ls : Array Slot) (hg : g_X6_brings_b23 F N ln v1 v2 u0 u1 u2 σ = some (σR, r)) (hw : XD G (gA G sz) s.heap σ H locs) (hl : lv_has ls 4 [(0, .ref (gAd G 0)), (1, .int v1), (2, .int v2)]), W p l e (headSpec wsX6_brings ({ frames := 1, cells := 0, slots := 0, locals := 22 } : Room)).room s m args below meth c H locs 0 0 (MQ below (QcI G (gA G sz) σR r) args s 0 0 (gA G sz)) (F0 m 23 ls [.int u0, .int u1, .int u2]) := by
    intro v1 v2 u0 u1 u2 σ H locs ls hg hw hl
    rw [g_X6_brings_b23] at hg
    obtain ⟨s_6, x_7, h_8, hg⟩ := bnI_e hg
    refine r_iS (As := [.int u2, .int u1, .int u0]) (rest := []) S hA hK hw (c_X6_isWithin l hG  h_8) (va_cwS 3 hts gX6_brings_X6_isWithin rfl rfl rfl (by decide +kernel) ⟨Nat.le_of_ble_eq_true rfl, Nat.le_of_ble_eq_true rfl⟩) rfl hl.1 (Nat.le_of_ble_eq_true rfl) dX6_brings_23 ⟨Nat.zero_le _, Nat.zero_le _⟩ rfl (fun H locs hw => ?_)
    refine lv_if_ne (tgt := 32) hx hb dX6_brings_26 (by decide) (fun c_9 => ?_) (fun c_9 => ?_)
    · have hg := it_n hg c_9
      refine lv_iload_n hx hb dX6_brings_32 rfl (lv_at hl 1 rfl) ?_
      refine lv_if_ne (tgt := 46) hx hb dX6_brings_33 (by decide) (fun c_10 => ?_) (fun c_10 => ?_)
      · have hg := it_n hg c_10
        refine lv_aload_n hx hb dX6_brings_46 rfl (lv_at hl 0 rfl) ?_
        refine r_getr (C := RX6) (T := TX6) (N := 12) (k' := 1) S hK hw (kX_0 hG).1 (kX_0 hG).2 rfl hinX6 0 (by decide) (o := 1) rfl rfl (hts (.fieldLink RX6 10 "SoupByRank" "court" "LSoupByRank$Court;") (by decide +kernel)) rfl dX6_brings_47 ?_
        refine r_getN (C := RX1) (T := TX1) (N := 9) (host := RX6) S hK hw (kX_1 hG).1 (kX_1 hG).2 rfl hinX1 2 (by decide) rfl (by decide +kernel) rfl dX6_brings_50 ?_
        exact J53 v1 v2 (s_6 1 2) _ _ _ _ hg hw (lv_sub hl [0, 1, 2] rfl)
      · have hg := it_p hg c_10
        refine lv_aload_n hx hb dX6_brings_36 rfl (lv_at hl 0 rfl) ?_
        refine r_getr (C := RX6) (T := TX6) (N := 12) (k' := 1) S hK hw (kX_0 hG).1 (kX_0 hG).2 rfl hinX6 0 (by decide) (o := 1) rfl rfl (hts (.fieldLink RX6 10 "SoupByRank" "court" "LSoupByRank$Court;") (by decide +kernel)) rfl dX6_brings_37 ?_
        refine r_getN (C := RX1) (T := TX1) (N := 9) (host := RX6) S hK hw (kX_1 hG).1 (kX_1 hG).2 rfl hinX1 1 (by decide) rfl (by decide +kernel) rfl dX6_brings_40 ?_
        refine lv_goto (tgt := 53) hx hb dX6_brings_43 (by decide) ?_
        exact J53 v1 v2 (s_6 1 1) _ _ _ _ hg hw (lv_sub hl [0, 1, 2] rfl)
    · have hg := it_p hg c_9
      refine lv_bipush (v := (-2)) hx hb dX6_brings_29 (by decide) ?_
      exact r_ireti S hr hlk hw.2.2.2.2 hw hg dX6_brings_31
  rw [g_X6_brings] at hg
  refine lv_iload_n hx hb dX6_brings_0 rfl (lv_at hl 1 rfl) ?_
  refine lv_iconst (v := 0) hx hb dX6_brings_1 (by decide) ?_
  refine lv_iconst (v := 1) hx hb dX6_brings_2 (by decide) ?_
  obtain ⟨s_11, x_12, h_13, hg⟩ := bnI_e hg
  refine r_iS (As := [.int a1, .int 0, .int 1]) (rest := []) S hA hK hw (c_X6_isWithin l hG  h_13) (va_cwS 3 hts gX6_brings_X6_isWithin rfl rfl rfl (by decide +kernel) ⟨Nat.le_of_ble_eq_true rfl, Nat.le_of_ble_eq_true rfl⟩) rfl hl.1 (Nat.le_of_ble_eq_true rfl) dX6_brings_3 ⟨Nat.zero_le _, Nat.zero_le _⟩ rfl (fun H locs hw => ?_)
  refine lv_if_eq (tgt := 29) hx hb dX6_brings_6 (by decide) (fun c_14 => ?_) (fun c_14 => ?_)
  · have hg := it_p hg c_14
    refine lv_bipush (v := (-2)) hx hb dX6_brings_29 (by decide) ?_
    exact r_ireti S hr hlk hw.2.2.2.2 hw hg dX6_brings_31
  · have hg := it_n hg c_14
    refine lv_iload_n hx hb dX6_brings_9 rfl (lv_at hl 2 rfl) ?_
    refine lv_iconst (v := 0) hx hb dX6_brings_10 (by decide) ?_
    refine lv_iload_n hx hb dX6_brings_11 rfl (lv_at hl 1 rfl) ?_
    refine lv_if_ne (tgt := 21) hx hb dX6_brings_12 (by decide) (fun c_15 => ?_) (fun c_15 => ?_)
    · have hg := it_n hg c_15
      refine lv_bipush (v := 99) hx hb dX6_brings_21 (by decide) ?_
      exact J23 a1 a2 99 0 a2 _ _ _ _ hg hw (lv_sub hl [0, 1, 2] rfl)
    · have hg := it_p hg c_15
      refine lv_sipush (v := 999) hx hb dX6_brings_15 (by decide) ?_
      refine lv_goto (tgt := 23) hx hb dX6_brings_18 (by decide) ?_
      exact J23 a1 a2 999 0 a2 _ _ _ _ hg hw (lv_sub hl [0, 1, 2] rfl)
set_option maxHeartbeats 4000000 in
set_option maxRecDepth 100000 in
theorem c_X6_isByte (l : Launch) {G : GW} {N : Nat} {ln : Nat → Nat} {cT cS : ClassId} (hG : isX G N ln cT cS) {F sz : Nat} {a0 : Int32} {σ σR : Sg} {r : Int32} (hg : g_X6_isByte F N ln a0 σ = some (σR, r)) : Met l yX6_isByte wsX6_isByte ({ frames := 1, cells := 0, slots := 0, locals := 22 } : Room) (va_Pc [.int a0] (PX G σ sz)) (QcI G (gA G sz) σR r) 0 0 (gA G sz) := by
  refine metX (by decide) rfl (Nat.le_of_ble_eq_true rfl) ?_
  intro p e s m args below meth c ls S hr hlk hsz hA hK hw hl hmn
  have S : CallFix p m c cX6_isByte 1 s args wsX6_isByte RX6 := S
  obtain ⟨hx, hb, hml, hown, hts⟩ := id S
  have hl : lv_has ls 1 [(0, .int a0)] := hl
  rw [g_X6_isByte] at hg
  refine lv_iload_n hx hb dX6_isByte_0 rfl (lv_at hl 0 rfl) ?_
  refine lv_iconst (v := 0) hx hb dX6_isByte_1 (by decide) ?_
  refine lv_sipush (v := 255) hx hb dX6_isByte_2 (by decide) ?_
  obtain ⟨s_1, x_2, h_3, hg⟩ := bnI_e hg
  refine r_iS (As := [.int a0, .int 0, .int 255]) (rest := []) S hA hK hw (c_X6_isWithin l hG  h_3) (va_cwS 3 hts gX6_isByte_X6_isWithin rfl rfl rfl (by decide +kernel) ⟨Nat.le_of_ble_eq_true rfl, Nat.le_of_ble_eq_true rfl⟩) rfl hl.1 (Nat.le_of_ble_eq_true rfl) dX6_isByte_5 ⟨Nat.zero_le _, Nat.zero_le _⟩ rfl (fun H locs hw => ?_)
  obtain ⟨hz, hg⟩ := retZ_e hg
  exact r_iretz S hr (by rcases hz with h | h <;> rw [h] <;> rfl) hlk hw.2.2.2.2 hw hg dX6_isByte_8
set_option maxHeartbeats 4000000 in
set_option maxRecDepth 100000 in
theorem c_X6_feed (l : Launch) {G : GW} {N : Nat} {ln : Nat → Nat} {cT cS : ClassId} (hG : isX G N ln cT cS) {F sz : Nat} {a1 : Int32} {a2 : Int32} {a3 : Int32} {a4 : Int32} {a5 : Int32} {a6 : Int32} {σ σR : Sg} {r : Int32} (hg : g_X6_feed F N ln a1 a2 a3 a4 a5 a6 σ = some (σR, r)) : Met l yX6_feed wsX6_feed ({ frames := 2, cells := 0, slots := 0, locals := 42 } : Room) (va_Pc [.ref (gAd G 0), .int a1, .int a2, .int a3, .int a4, .int a5, .int a6] (PX G σ sz)) (QcI G (gA G sz) σR r) 0 0 (gA G sz) := by
  refine metX (by decide) rfl (Nat.le_of_ble_eq_true rfl) ?_
  intro p e s m args below meth c ls S hr hlk hsz hA hK hw hl hmn
  have S : CallFix p m c cX6_feed 8 s args wsX6_feed RX6 := S
  obtain ⟨hx, hb, hml, hown, hts⟩ := id S
  have hl : lv_has ls 8 [(0, .ref (gAd G 0)), (1, .int a1), (2, .int a2), (3, .int a3), (4, .int a4), (5, .int a5), (6, .int a6)] := hl
  have hinX4 : ∀ w ∈ wsX40, w ∈ wsX6_feed := by decide +kernel
  have hinX6 : ∀ w ∈ wsX60, w ∈ wsX6_feed := by decide +kernel
  have L71 : ∀ (v1 : Int32) (v2 : Int32) (v3 : Int32) (v4 : Int32) (v5 : Int32) (v6 : Int32) (n71 : Nat) (v7 : Int32) (σ : Sg) (H : Heap) (locs : List Loc) (ls : Array Slot) (hg : g_X6_feed_l71 F N ln v1 v2 v3 v4 v5 v6 n71 v7 σ = some (σR, r)) (hw : XD G (gA G sz) s.heap σ H locs) (hl : lv_has ls 8 [(0, .ref (gAd G 0)), (1, .int v1), (2, .int v2), (3, .int v3), (4, .int v4), (5, .int v5), (6, .int v6), (7, .int v7)]), W p l e (headSpec wsX6_feed ({ frames := 2, cells := 0, slots := 0, locals := 42 } : Room)).room s m args below meth c H locs 0 0 (MQ below (QcI G (gA G sz) σR r) args s 0 0 (gA G sz)) (F0 m 71 ls []) := by
    intro v1 v2 v3 v4 v5 v6
    intro n71
    induction n71 with
    | zero => intro v7 σ H locs ls hg hw hl; exact no_e hg
    | succ n71 ih71 =>
      have J124 : ∀ (v7 : Int32) (u0 : Int32) (σ : Sg) (H : Heap) (locs : List Loc) (ls : Array Slot) (hg : g_X6_feed_b124 F N ln (fun v7_ σ_ => g_X6_feed_l71 F N ln v1 v2 v3 v4 v5 v6 n71 v7_ σ_) v1 v2 v3 v4 v5 v6 v7 u0 σ = some (σR, r)) (hw : XD G (gA G sz) s.heap σ H locs) (hl : lv_has ls 8 [(0, .ref (gAd G 0)), (1, .int v1), (2, .int v2), (3, .int v3), (4, .int v4), (5, .int v5), (6, .int v6), (7, .int v7)]), W p l e (headSpec wsX6_feed ({ frames := 2, cells := 0, slots := 0, locals := 42 } : Room)).room s m args below meth c H locs 0 0 (MQ below (QcI G (gA G sz) σR r) args s 0 0 (gA G sz)) (F0 m 124 ls [.int u0, .ref (gAd G 30)]) := by
        intro v7 u0 σ H locs ls hg hw hl
        rw [g_X6_feed_b124] at hg
        obtain ⟨s_1, h_3, hg⟩ := bnV_e hg
        refine r_vV (As := [.int u0]) (rest := []) S hA hK hw (c_X4_add l hG  h_3) (cwV 1 hts gX6_feed_X4_add rfl rfl rfl (by decide +kernel) ⟨Nat.le_of_ble_eq_true rfl, Nat.le_of_ble_eq_true rfl⟩) (r_recv hK hw (kX_30 hG).1 (kX_30 hG).2 rfl) rfl hl.1 (Nat.le_of_ble_eq_true rfl) dX6_feed_124 ⟨Nat.zero_le _, Nat.zero_le _⟩ rfl (fun H locs hw => ?_)
        refine lv_iinc (v := (v7 + 1)) (lv' := [(7, .int (v7 + 1)), (0, .ref (gAd G 0)), (1, .int v1), (2, .int v2), (3, .int v3), (4, .int v4), (5, .int v5), (6, .int v6)]) hx hb dX6_feed_127 hl (k := 7) rfl rfl (by decide) rfl (fun ls hl => ?_)
        refine lv_goto (tgt := 71) hx hb dX6_feed_130 (by decide) ?_
        exact ih71 _ _ _ _ _ hg hw (lv_sub hl [1, 2, 3, 4, 5, 6, 7, 0] rfl)
      intro v7 σ H locs ls hg hw hl
      rw [g_X6_feed_l71] at hg
      refine lv_iload hx hb dX6_feed_71 (lv_at hl 7 rfl) ?_
      refine lv_iload_n hx hb dX6_feed_73 rfl (lv_at hl 1 rfl) ?_
      refine lv_icmp_ge (tgt := 133) hx hb dX6_feed_74 (by decide) (fun c_4 => ?_) (fun c_4 => ?_)
      · have hg := it_p hg c_4
        refine lv_aload_n hx hb dX6_feed_133 rfl (lv_at hl 0 rfl) ?_
        refine r_getr (C := RX6) (T := TX6) (N := 12) (k' := 30) S hK hw (kX_0 hG).1 (kX_0 hG).2 rfl hinX6 9 (by decide) (o := 30) rfl rfl (hts (.fieldLink RX6 56 "SoupByRank" "tape" "LSoupByRank$Tape;") (by decide +kernel)) rfl dX6_feed_134 ?_
        refine r_getN (C := RX4) (T := TX4) (N := 10) (host := RX6) S hK hw (kX_30 hG).1 (kX_30 hG).2 rfl hinX4 1 (by decide) rfl (by decide +kernel) rfl dX6_feed_137 ?_
        exact r_ireti S hr hlk hw.2.2.2.2 hw hg dX6_feed_140
      · have hg := it_n hg c_4
        refine lv_aload_n hx hb dX6_feed_77 rfl (lv_at hl 0 rfl) ?_
        refine r_getr (C := RX6) (T := TX6) (N := 12) (k' := 30) S hK hw (kX_0 hG).1 (kX_0 hG).2 rfl hinX6 9 (by decide) (o := 30) rfl rfl (hts (.fieldLink RX6 56 "SoupByRank" "tape" "LSoupByRank$Tape;") (by decide +kernel)) rfl dX6_feed_78 ?_
        refine lv_iload hx hb dX6_feed_81 (lv_at hl 7 rfl) ?_
        refine lv_if_ne (tgt := 90) hx hb dX6_feed_83 (by decide) (fun c_5 => ?_) (fun c_5 => ?_)
        · have hg := it_n hg c_5
          refine lv_iload hx hb dX6_feed_90 (lv_at hl 7 rfl) ?_
          refine lv_iconst (v := 1) hx hb dX6_feed_92 (by decide) ?_
          refine lv_icmp_ne (tgt := 100) hx hb dX6_feed_93 (by decide) (fun c_6 => ?_) (fun c_6 => ?_)
          · have hg := it_n hg c_6
            refine lv_iload hx hb dX6_feed_100 (lv_at hl 7 rfl) ?_
            refine lv_iconst (v := 2) hx hb dX6_feed_102 (by decide) ?_
            refine lv_icmp_ne (tgt := 111) hx hb dX6_feed_103 (by decide) (fun c_7 => ?_) (fun c_7 => ?_)
            · have hg := it_n hg c_7
              refine lv_iload hx hb dX6_feed_111 (lv_at hl 7 rfl) ?_
              refine lv_iconst (v := 3) hx hb dX6_feed_113 (by decide) ?_
              refine lv_icmp_ne (tgt := 122) hx hb dX6_feed_114 (by decide) (fun c_8 => ?_) (fun c_8 => ?_)
              · have hg := it_n hg c_8
                refine lv_iload hx hb dX6_feed_122 (lv_at hl 6 rfl) ?_
                exact J124 v7 v6 _ _ _ _ hg hw (lv_sub hl [0, 1, 2, 3, 4, 5, 6, 7] rfl)
              · have hg := it_p hg c_8
                refine lv_iload hx hb dX6_feed_117 (lv_at hl 5 rfl) ?_
                refine lv_goto (tgt := 124) hx hb dX6_feed_119 (by decide) ?_
                exact J124 v7 v5 _ _ _ _ hg hw (lv_sub hl [0, 1, 2, 3, 4, 5, 6, 7] rfl)
            · have hg := it_p hg c_7
              refine lv_iload hx hb dX6_feed_106 (lv_at hl 4 rfl) ?_
              refine lv_goto (tgt := 124) hx hb dX6_feed_108 (by decide) ?_
              exact J124 v7 v4 _ _ _ _ hg hw (lv_sub hl [0, 1, 2, 3, 4, 5, 6, 7] rfl)
          · have hg := it_p hg c_6
            refine lv_iload_n hx hb dX6_feed_96 rfl (lv_at hl 3 rfl) ?_
            refine lv_goto (tgt := 124) hx hb dX6_feed_97 (by decide) ?_
            exact J124 v7 v3 _ _ _ _ hg hw (lv_sub hl [0, 1, 2, 3, 4, 5, 6, 7] rfl)
        · have hg := it_p hg c_5
          refine lv_iload_n hx hb dX6_feed_86 rfl (lv_at hl 2 rfl) ?_
          refine lv_goto (tgt := 124) hx hb dX6_feed_87 (by decide) ?_
          exact J124 v7 v2 _ _ _ _ hg hw (lv_sub hl [0, 1, 2, 3, 4, 5, 6, 7] rfl)
  rw [g_X6_feed] at hg
  refine lv_iload_n hx hb dX6_feed_0 rfl (lv_at hl 1 rfl) ?_
  refine lv_iconst (v := 1) hx hb dX6_feed_1 (by decide) ?_
  refine lv_iconst (v := 5) hx hb dX6_feed_2 (by decide) ?_
  obtain ⟨s_9, x_10, h_11, hg⟩ := bnI_e hg
  refine r_iS (As := [.int a1, .int 1, .int 5]) (rest := []) S hA hK hw (c_X6_isWithin l hG  h_11) (va_cwS 3 hts gX6_feed_X6_isWithin rfl rfl rfl (by decide +kernel) ⟨Nat.le_of_ble_eq_true rfl, Nat.le_of_ble_eq_true rfl⟩) rfl hl.1 (Nat.le_of_ble_eq_true rfl) dX6_feed_3 ⟨Nat.zero_le _, Nat.zero_le _⟩ rfl (fun H locs hw => ?_)
  refine lv_if_eq (tgt := 47) hx hb dX6_feed_6 (by decide) (fun c_12 => ?_) (fun c_12 => ?_)
  · have hg := it_p hg c_12
    refine lv_bipush (v := (-2)) hx hb dX6_feed_47 (by decide) ?_
    exact r_ireti S hr hlk hw.2.2.2.2 hw hg dX6_feed_49
  · have hg := it_n hg c_12
    refine lv_iload_n hx hb dX6_feed_9 rfl (lv_at hl 2 rfl) ?_
    obtain ⟨s_13, x_14, h_15, hg⟩ := bnI_e hg
    refine r_iS (As := [.int a2]) (rest := []) S hA hK hw (c_X6_isByte l hG  h_15) (va_cwS 1 hts gX6_feed_X6_isByte rfl rfl rfl (by decide +kernel) ⟨Nat.le_of_ble_eq_true rfl, Nat.le_of_ble_eq_true rfl⟩) rfl hl.1 (Nat.le_of_ble_eq_true rfl) dX6_feed_10 ⟨Nat.zero_le _, Nat.zero_le _⟩ rfl (fun H locs hw => ?_)
    refine lv_if_eq (tgt := 47) hx hb dX6_feed_13 (by decide) (fun c_16 => ?_) (fun c_16 => ?_)
    · have hg := it_p hg c_16
      refine lv_bipush (v := (-2)) hx hb dX6_feed_47 (by decide) ?_
      exact r_ireti S hr hlk hw.2.2.2.2 hw hg dX6_feed_49
    · have hg := it_n hg c_16
      refine lv_iload_n hx hb dX6_feed_16 rfl (lv_at hl 3 rfl) ?_
      obtain ⟨s_17, x_18, h_19, hg⟩ := bnI_e hg
      refine r_iS (As := [.int a3]) (rest := []) S hA hK hw (c_X6_isByte l hG  h_19) (va_cwS 1 hts gX6_feed_X6_isByte rfl rfl rfl (by decide +kernel) ⟨Nat.le_of_ble_eq_true rfl, Nat.le_of_ble_eq_true rfl⟩) rfl hl.1 (Nat.le_of_ble_eq_true rfl) dX6_feed_17 ⟨Nat.zero_le _, Nat.zero_le _⟩ rfl (fun H locs hw => ?_)
      refine lv_if_eq (tgt := 47) hx hb dX6_feed_20 (by decide) (fun c_20 => ?_) (fun c_20 => ?_)
      · have hg := it_p hg c_20
        refine lv_bipush (v := (-2)) hx hb dX6_feed_47 (by decide) ?_
        exact r_ireti S hr hlk hw.2.2.2.2 hw hg dX6_feed_49
      · have hg := it_n hg c_20
        refine lv_iload hx hb dX6_feed_23 (lv_at hl 4 rfl) ?_
        obtain ⟨s_21, x_22, h_23, hg⟩ := bnI_e hg
        refine r_iS (As := [.int a4]) (rest := []) S hA hK hw (c_X6_isByte l hG  h_23) (va_cwS 1 hts gX6_feed_X6_isByte rfl rfl rfl (by decide +kernel) ⟨Nat.le_of_ble_eq_true rfl, Nat.le_of_ble_eq_true rfl⟩) rfl hl.1 (Nat.le_of_ble_eq_true rfl) dX6_feed_25 ⟨Nat.zero_le _, Nat.zero_le _⟩ rfl (fun H locs hw => ?_)
        refine lv_if_eq (tgt := 47) hx hb dX6_feed_28 (by decide) (fun c_24 => ?_) (fun c_24 => ?_)
        · have hg := it_p hg c_24
          refine lv_bipush (v := (-2)) hx hb dX6_feed_47 (by decide) ?_
          exact r_ireti S hr hlk hw.2.2.2.2 hw hg dX6_feed_49
        · have hg := it_n hg c_24
          refine lv_iload hx hb dX6_feed_31 (lv_at hl 5 rfl) ?_
          obtain ⟨s_25, x_26, h_27, hg⟩ := bnI_e hg
          refine r_iS (As := [.int a5]) (rest := []) S hA hK hw (c_X6_isByte l hG  h_27) (va_cwS 1 hts gX6_feed_X6_isByte rfl rfl rfl (by decide +kernel) ⟨Nat.le_of_ble_eq_true rfl, Nat.le_of_ble_eq_true rfl⟩) rfl hl.1 (Nat.le_of_ble_eq_true rfl) dX6_feed_33 ⟨Nat.zero_le _, Nat.zero_le _⟩ rfl (fun H locs hw => ?_)
          refine lv_if_eq (tgt := 47) hx hb dX6_feed_36 (by decide) (fun c_28 => ?_) (fun c_28 => ?_)
          · have hg := it_p hg c_28
            refine lv_bipush (v := (-2)) hx hb dX6_feed_47 (by decide) ?_
            exact r_ireti S hr hlk hw.2.2.2.2 hw hg dX6_feed_49
          · have hg := it_n hg c_28
            refine lv_iload hx hb dX6_feed_39 (lv_at hl 6 rfl) ?_
            obtain ⟨s_29, x_30, h_31, hg⟩ := bnI_e hg
            refine r_iS (As := [.int a6]) (rest := []) S hA hK hw (c_X6_isByte l hG  h_31) (va_cwS 1 hts gX6_feed_X6_isByte rfl rfl rfl (by decide +kernel) ⟨Nat.le_of_ble_eq_true rfl, Nat.le_of_ble_eq_true rfl⟩) rfl hl.1 (Nat.le_of_ble_eq_true rfl) dX6_feed_41 ⟨Nat.zero_le _, Nat.zero_le _⟩ rfl (fun H locs hw => ?_)
            refine lv_if_ne (tgt := 50) hx hb dX6_feed_44 (by decide) (fun c_32 => ?_) (fun c_32 => ?_)
            · have hg := it_n hg c_32
              refine lv_aload_n hx hb dX6_feed_50 rfl (lv_at hl 0 rfl) ?_
              refine r_getr (C := RX6) (T := TX6) (N := 12) (k' := 30) S hK hw (kX_0 hG).1 (kX_0 hG).2 rfl hinX6 9 (by decide) (o := 30) rfl rfl (hts (.fieldLink RX6 56 "SoupByRank" "tape" "LSoupByRank$Tape;") (by decide +kernel)) rfl dX6_feed_51 ?_
              refine r_getN (C := RX4) (T := TX4) (N := 10) (host := RX6) S hK hw (kX_30 hG).1 (kX_30 hG).2 rfl hinX4 1 (by decide) rfl (by decide +kernel) rfl dX6_feed_54 ?_
              refine lv_iload_n hx hb dX6_feed_57 rfl (lv_at hl 1 rfl) ?_
              refine lv_iadd hx hb dX6_feed_58 ?_
              refine lv_sipush (v := 160) hx hb dX6_feed_59 (by decide) ?_
              refine lv_icmp_le (tgt := 68) hx hb dX6_feed_62 (by decide) (fun c_33 => ?_) (fun c_33 => ?_)
              · have hg := it_p hg c_33
                refine lv_iconst (v := 0) hx hb dX6_feed_68 (by decide) ?_
                refine lv_istore (lv' := [(7, .int 0), (0, .ref (gAd G 0)), (1, .int a1), (2, .int a2), (3, .int a3), (4, .int a4), (5, .int a5), (6, .int a6)]) hx hb dX6_feed_69 hl (by decide) rfl (fun ls hl => ?_)
                exact L71 a1 a2 a3 a4 a5 a6 F _ _ _ _ _ hg hw (lv_sub hl [1, 2, 3, 4, 5, 6, 7, 0] rfl)
              · have hg := it_n hg c_33
                refine lv_bipush (v := (-4)) hx hb dX6_feed_65 (by decide) ?_
                exact r_ireti S hr hlk hw.2.2.2.2 hw hg dX6_feed_67
            · have hg := it_p hg c_32
              refine lv_bipush (v := (-2)) hx hb dX6_feed_47 (by decide) ?_
              exact r_ireti S hr hlk hw.2.2.2.2 hw hg dX6_feed_49
set_option maxHeartbeats 4000000 in
set_option maxRecDepth 100000 in
theorem c_X6_force (l : Launch) {G : GW} {N : Nat} {ln : Nat → Nat} {cT cS : ClassId} (hG : isX G N ln cT cS) {F sz : Nat} {a1 : Int32} {σ σR : Sg} {r : Int32} (hg : g_X6_force F N ln a1 σ = some (σR, r)) : Met l yX6_force wsX6_force ({ frames := 1, cells := 0, slots := 0, locals := 22 } : Room) (va_Pc [.ref (gAd G 0), .int a1] (PX G σ sz)) (QcI G (gA G sz) σR r) 0 0 (gA G sz) := by
  refine metX (by decide) rfl (Nat.le_of_ble_eq_true rfl) ?_
  intro p e s m args below meth c ls S hr hlk hsz hA hK hw hl hmn
  have S : CallFix p m c cX6_force 3 s args wsX6_force RX6 := S
  obtain ⟨hx, hb, hml, hown, hts⟩ := id S
  have hl : lv_has ls 3 [(0, .ref (gAd G 0)), (1, .int a1)] := hl
  have hinX1 : ∀ w ∈ wsX10, w ∈ wsX6_force := by decide +kernel
  have hinX6 : ∀ w ∈ wsX60, w ∈ wsX6_force := by decide +kernel
  rw [g_X6_force] at hg
  refine lv_iload_n hx hb dX6_force_0 rfl (lv_at hl 1 rfl) ?_
  refine lv_iconst (v := 0) hx hb dX6_force_1 (by decide) ?_
  refine lv_aload_n hx hb dX6_force_2 rfl (lv_at hl 0 rfl) ?_
  refine r_get (C := RX6) (T := TX6) (N := 12) S hK hw (kX_0 hG).1 (kX_0 hG).2 rfl hinX6 8 (by decide) rfl (hts (.fieldLink RX6 49 "SoupByRank" "textsThere" "I") (by decide +kernel)) rfl dX6_force_3 ?_
  refine lv_iconst (v := 1) hx hb dX6_force_6 (by decide) ?_
  refine lv_isub hx hb dX6_force_7 ?_
  obtain ⟨s_1, x_2, h_3, hg⟩ := bnI_e hg
  refine r_iS (As := [.int a1, .int 0, .int ((σ 0 8) - 1)]) (rest := []) S hA hK hw (c_X6_isWithin l hG  h_3) (va_cwS 3 hts gX6_force_X6_isWithin rfl rfl rfl (by decide +kernel) ⟨Nat.le_of_ble_eq_true rfl, Nat.le_of_ble_eq_true rfl⟩) rfl hl.1 (Nat.le_of_ble_eq_true rfl) dX6_force_8 ⟨Nat.zero_le _, Nat.zero_le _⟩ rfl (fun H locs hw => ?_)
  refine lv_if_ne (tgt := 17) hx hb dX6_force_11 (by decide) (fun c_4 => ?_) (fun c_4 => ?_)
  · have hg := it_n hg c_4
    refine lv_aload_n hx hb dX6_force_17 rfl (lv_at hl 0 rfl) ?_
    refine r_getr (C := RX6) (T := TX6) (N := 12) (k' := 1) S hK hw (kX_0 hG).1 (kX_0 hG).2 rfl hinX6 0 (by decide) (o := 1) rfl rfl (hts (.fieldLink RX6 10 "SoupByRank" "court" "LSoupByRank$Court;") (by decide +kernel)) rfl dX6_force_18 ?_
    refine r_getN (C := RX1) (T := TX1) (N := 9) (host := RX6) S hK hw (kX_1 hG).1 (kX_1 hG).2 rfl hinX1 3 (by decide) rfl (by decide +kernel) rfl dX6_force_21 ?_
    refine lv_istore_n (lv' := [(2, .int (s_1 1 3)), (0, .ref (gAd G 0)), (1, .int a1)]) hx hb dX6_force_24 rfl hl (by decide) rfl (fun ls hl => ?_)
    refine lv_aload_n hx hb dX6_force_25 rfl (lv_at hl 1 rfl) ?_
    refine r_getr (C := RX6) (T := TX6) (N := 12) (k' := 1) S hK hw (kX_0 hG).1 (kX_0 hG).2 rfl hinX6 0 (by decide) (o := 1) rfl rfl (hts (.fieldLink RX6 10 "SoupByRank" "court" "LSoupByRank$Court;") (by decide +kernel)) rfl dX6_force_26 ?_
    refine lv_iload_n hx hb dX6_force_29 rfl (lv_at hl 2 rfl) ?_
    obtain ⟨s_5, e_6, hg⟩ := wrF_e hg
    refine r_putN (C := RX1) (T := TX1) (N := 9) (host := RX6) S hK hw (kX_1 hG).1 (kX_1 hG).2 rfl hinX1 tyX1_ok nmX1 3 (by decide) rfl rfl rfl rfl (by decide +kernel) rfl e_6 dX6_force_30 (fun H locs hw => ?_)
    refine lv_iload_n hx hb dX6_force_33 rfl (lv_at hl 0 rfl) ?_
    exact r_ireti S hr hlk hw.2.2.2.2 hw hg dX6_force_34
  · have hg := it_p hg c_4
    refine lv_bipush (v := (-2)) hx hb dX6_force_14 (by decide) ?_
    exact r_ireti S hr hlk hw.2.2.2.2 hw hg dX6_force_16
set_option maxHeartbeats 4000000 in
set_option maxRecDepth 100000 in
theorem c_X6_isThere (l : Launch) {G : GW} {N : Nat} {ln : Nat → Nat} {cT cS : ClassId} (hG : isX G N ln cT cS) {F sz : Nat} {a1 : Int32} {σ σR : Sg} {r : Int32} (hg : g_X6_isThere F N ln a1 σ = some (σR, r)) : Met l yX6_isThere wsX6_isThere ({ frames := 1, cells := 0, slots := 0, locals := 22 } : Room) (va_Pc [.ref (gAd G 0), .int a1] (PX G σ sz)) (QcI G (gA G sz) σR r) 0 0 (gA G sz) := by
  refine metX (by decide) rfl (Nat.le_of_ble_eq_true rfl) ?_
  intro p e s m args below meth c ls S hr hlk hsz hA hK hw hl hmn
  have S : CallFix p m c cX6_isThere 2 s args wsX6_isThere RX6 := S
  obtain ⟨hx, hb, hml, hown, hts⟩ := id S
  have hl : lv_has ls 2 [(0, .ref (gAd G 0)), (1, .int a1)] := hl
  have hinX1 : ∀ w ∈ wsX10, w ∈ wsX6_isThere := by decide +kernel
  have hinX6 : ∀ w ∈ wsX60, w ∈ wsX6_isThere := by decide +kernel
  rw [g_X6_isThere] at hg
  refine lv_iload_n hx hb dX6_isThere_0 rfl (lv_at hl 1 rfl) ?_
  refine lv_iconst (v := 0) hx hb dX6_isThere_1 (by decide) ?_
  refine lv_aload_n hx hb dX6_isThere_2 rfl (lv_at hl 0 rfl) ?_
  refine r_getr (C := RX6) (T := TX6) (N := 12) (k' := 1) S hK hw (kX_0 hG).1 (kX_0 hG).2 rfl hinX6 0 (by decide) (o := 1) rfl rfl (hts (.fieldLink RX6 10 "SoupByRank" "court" "LSoupByRank$Court;") (by decide +kernel)) rfl dX6_isThere_3 ?_
  refine r_getN (C := RX1) (T := TX1) (N := 9) (host := RX6) S hK hw (kX_1 hG).1 (kX_1 hG).2 rfl hinX1 0 (by decide) rfl (by decide +kernel) rfl dX6_isThere_6 ?_
  refine lv_iconst (v := 1) hx hb dX6_isThere_9 (by decide) ?_
  refine lv_isub hx hb dX6_isThere_10 ?_
  obtain ⟨s_1, x_2, h_3, hg⟩ := bnI_e hg
  refine r_iS (As := [.int a1, .int 0, .int ((σ 1 0) - 1)]) (rest := []) S hA hK hw (c_X6_isWithin l hG  h_3) (va_cwS 3 hts gX6_isThere_X6_isWithin rfl rfl rfl (by decide +kernel) ⟨Nat.le_of_ble_eq_true rfl, Nat.le_of_ble_eq_true rfl⟩) rfl hl.1 (Nat.le_of_ble_eq_true rfl) dX6_isThere_11 ⟨Nat.zero_le _, Nat.zero_le _⟩ rfl (fun H locs hw => ?_)
  obtain ⟨hz, hg⟩ := retZ_e hg
  exact r_iretz S hr (by rcases hz with h | h <;> rw [h] <;> rfl) hlk hw.2.2.2.2 hw hg dX6_isThere_14
set_option maxHeartbeats 4000000 in
set_option maxRecDepth 100000 in
theorem c_X6_lawOf (l : Launch) {G : GW} {N : Nat} {ln : Nat → Nat} {cT cS : ClassId} (hG : isX G N ln cT cS) {F sz : Nat} {k : Nat} (h_k : isCt k) {σ σR : Sg} {r : Nat} (hg : g_X6_lawOf F N ln k σ = some (σR, r)) : Met l yX6_lawOf wsX6_lawOf ({ frames := 1, cells := 0, slots := 0, locals := 22 } : Room) (va_Pc [.ref (gAd G 0), .ref (gAd G k)] (PX G σ sz)) (QcR G (gA G sz) σR (tc r)) 0 0 (gA G sz) := by
  refine metX (by decide) rfl (Nat.le_of_ble_eq_true rfl) ?_
  intro p e s m args below meth c ls S hr hlk hsz hA hK hw hl hmn
  have S : CallFix p m c cX6_lawOf 3 s args wsX6_lawOf RX6 := S
  obtain ⟨hx, hb, hml, hown, hts⟩ := id S
  have hl : lv_has ls 3 [(0, .ref (gAd G 0)), (1, .ref (gAd G k))] := hl
  have hinX1 : ∀ w ∈ wsX10, w ∈ wsX6_lawOf := by decide +kernel
  have hinX6 : ∀ w ∈ wsX60, w ∈ wsX6_lawOf := by decide +kernel
  have h_0 : 0 < N := isX_pos hG
  have J33 : ∀ (q0 : Nat) (h_q0 : q0 < N) (σ : Sg) (H : Heap) (locs : List Loc) (ls : Array Slot) (hg : g_X6_lawOf_b33 F N ln k q0 σ = some (σR, r)) (hw : XD G (gA G sz) s.heap σ H locs) (hl : lv_has ls 3 [(0, .ref (gAd G 0))]), W p l e (headSpec wsX6_lawOf ({ frames := 1, cells := 0, slots := 0, locals := 22 } : Room)).room s m args below meth c H locs 0 0 (MQ below (QcR G (gA G sz) σR (tc r)) args s 0 0 (gA G sz)) (F0 m 33 ls [.ref (gAd G (tc q0))]) := by
    intro q0 h_q0 σ H locs ls hg hw hl
    rw [g_X6_lawOf_b33] at hg
    refine lv_astore_n (lv' := [(2, .ref (gAd G (tc q0))), (0, .ref (gAd G 0))]) hx hb dX6_lawOf_33 rfl hl (by decide) rfl (fun ls hl => ?_)
    refine lv_aload_n hx hb dX6_lawOf_34 rfl (lv_at hl 0 rfl) ?_
    refine lv_ifnonnull (tgt := 45) hx hb dX6_lawOf_35 (by decide) ?_
    refine lv_aload_n hx hb dX6_lawOf_45 rfl (lv_at hl 0 rfl) ?_
    exact r_areti S hr hlk hw.2.2.2.2 hw hg dX6_lawOf_46
  rw [g_X6_lawOf] at hg
  refine lv_aload_n hx hb dX6_lawOf_0 rfl (lv_at hl 1 rfl) ?_
  refine r_getN (C := RX1) (T := TX1) (N := 9) (host := RX6) S hK hw (kC0 hG h_k).1 (kC0 hG h_k).2 rfl hinX1 3 (by decide) rfl (by decide +kernel) rfl dX6_lawOf_1 ?_
  refine lv_iconst (v := 0) hx hb dX6_lawOf_4 (by decide) ?_
  refine lv_aload_n hx hb dX6_lawOf_5 rfl (lv_at hl 0 rfl) ?_
  refine r_get (C := RX6) (T := TX6) (N := 12) S hK hw (kX_0 hG).1 (kX_0 hG).2 rfl hinX6 8 (by decide) rfl (hts (.fieldLink RX6 49 "SoupByRank" "textsThere" "I") (by decide +kernel)) rfl dX6_lawOf_6 ?_
  refine lv_iconst (v := 1) hx hb dX6_lawOf_9 (by decide) ?_
  refine lv_isub hx hb dX6_lawOf_10 ?_
  obtain ⟨s_1, x_2, h_3, hg⟩ := bnI_e hg
  refine r_iS (As := [.int (σ k 3), .int 0, .int ((σ 0 8) - 1)]) (rest := []) S hA hK hw (c_X6_isWithin l hG  h_3) (va_cwS 3 hts gX6_lawOf_X6_isWithin rfl rfl rfl (by decide +kernel) ⟨Nat.le_of_ble_eq_true rfl, Nat.le_of_ble_eq_true rfl⟩) rfl hl.1 (Nat.le_of_ble_eq_true rfl) dX6_lawOf_11 ⟨Nat.zero_le _, Nat.zero_le _⟩ rfl (fun H locs hw => ?_)
  refine lv_if_eq (tgt := 29) hx hb dX6_lawOf_14 (by decide) (fun c_4 => ?_) (fun c_4 => ?_)
  · have hg := it_p hg c_4
    refine lv_aload_n hx hb dX6_lawOf_29 rfl (lv_at hl 0 rfl) ?_
    refine r_getr (C := RX6) (T := TX6) (N := 12) (k' := (tc 0)) S hK hw (kX_0 hG).1 (kX_0 hG).2 rfl hinX6 6 (by decide) (o := 26) rfl rfl (hts (.fieldLink RX6 41 "SoupByRank" "firstText" "LSoupByRank$Text;") (by decide +kernel)) rfl dX6_lawOf_30 ?_
    exact J33 0 h_0 _ _ _ _ hg hw (lv_sub hl [0] rfl)
  · have hg := it_n hg c_4
    refine lv_aload_n hx hb dX6_lawOf_17 rfl (lv_at hl 0 rfl) ?_
    refine r_getr (C := RX6) (T := TX6) (N := 12) (k' := 29) S hK hw (kX_0 hG).1 (kX_0 hG).2 rfl hinX6 7 (by decide) (o := 29) rfl rfl (hts (.fieldLink RX6 45 "SoupByRank" "texts" "[LSoupByRank$Text;") (by decide +kernel)) rfl dX6_lawOf_18 ?_
    refine lv_aload_n hx hb dX6_lawOf_21 rfl (lv_at hl 1 rfl) ?_
    refine r_getN (C := RX1) (T := TX1) (N := 9) (host := RX6) S hK hw (kC0 hG h_k).1 (kC0 hG h_k).2 rfl hinX1 3 (by decide) rfl (by decide +kernel) rfl dX6_lawOf_22 ?_
    obtain ⟨h_6, q_5, h_q_5, e_7, hg⟩ := rdT_e hg
    refine r_aald (t0 := 1) S hK hw (kX_29 hG).1 (kX_29 hG).2 (tyT hG) h_6 e_7 dX6_lawOf_25 ?_
    refine lv_goto (tgt := 33) hx hb dX6_lawOf_26 (by decide) ?_
    exact J33 q_5 h_q_5 _ _ _ _ hg hw (lv_sub hl [0] rfl)
set_option maxHeartbeats 4000000 in
set_option maxRecDepth 100000 in
theorem c_X6_asks (l : Launch) {G : GW} {N : Nat} {ln : Nat → Nat} {cT cS : ClassId} (hG : isX G N ln cT cS) {F sz : Nat} {a1 : Int32} {a2 : Int32} {a3 : Int32} {a4 : Int32} {a5 : Int32} {σ σR : Sg} {r : Int32} (hg : g_X6_asks F N ln a1 a2 a3 a4 a5 σ = some (σR, r)) : Met l yX6_asks wsX6_asks ({ frames := 3, cells := 0, slots := 0, locals := 106 } : Room) (va_Pc [.ref (gAd G 0), .int a1, .int a2, .int a3, .int a4, .int a5] (PX G σ sz)) (QcI G (gA G sz) σR r) 0 0 (gA G sz) := by
  refine metX (by decide) rfl (Nat.le_of_ble_eq_true rfl) ?_
  intro p e s m args below meth c ls S hr hlk hsz hA hK hw hl hmn
  have S : CallFix p m c cX6_asks 6 s args wsX6_asks RX6 := S
  obtain ⟨hx, hb, hml, hown, hts⟩ := id S
  have hl : lv_has ls 6 [(0, .ref (gAd G 0)), (1, .int a1), (2, .int a2), (3, .int a3), (4, .int a4), (5, .int a5)] := hl
  have hinX6 : ∀ w ∈ wsX60, w ∈ wsX6_asks := by decide +kernel
  have J74 : ∀ (v1 : Int32) (v3 : Int32) (v4 : Int32) (v5 : Int32) (u0 : Int32) (σ : Sg) (H : Heap) (locs : List Loc) (ls : Array Slot) (hg : g_X6_asks_b74 F N ln v1 v3 v4 v5 u0 σ = some (σR, r)) (hw : XD G (gA G sz) s.heap σ H locs) (hl : lv_has ls 6 [(0, .ref (gAd G 0)), (1, .int v1), (3, .int v3), (4, .int v4), (5, .int v5)]), W p l e (headSpec wsX6_asks ({ frames := 3, cells := 0, slots := 0, locals := 106 } : Room)).room s m args below meth c H locs 0 0 (MQ below (QcI G (gA G sz) σR r) args s 0 0 (gA G sz)) (F0 m 74 ls [.int u0, .ref (gAd G 1), .ref (gAd G 16)]) := by
    intro v1 v3 v4 v5 u0 σ H locs ls hg hw hl
    rw [g_X6_asks_b74] at hg
    obtain ⟨s_1, h_3, hg⟩ := bnV_e hg
    refine r_vV (As := [.ref (gAd G 1), .int u0]) (rest := []) S hA hK hw (c_X2_speakOf l hG isCt_1 h_3) (cwV 2 hts gX6_asks_X2_speakOf rfl rfl rfl (by decide +kernel) ⟨Nat.le_of_ble_eq_true rfl, Nat.le_of_ble_eq_true rfl⟩) (r_recv hK hw (kX_16 hG).1 (kX_16 hG).2 rfl) rfl hl.1 (Nat.le_of_ble_eq_true rfl) dX6_asks_74 ⟨Nat.zero_le _, Nat.zero_le _⟩ rfl (fun H locs hw => ?_)
    refine lv_aload_n hx hb dX6_asks_77 rfl (lv_at hl 0 rfl) ?_
    refine r_getr (C := RX6) (T := TX6) (N := 12) (k' := 16) S hK hw (kX_0 hG).1 (kX_0 hG).2 rfl hinX6 4 (by decide) (o := 16) rfl rfl (hts (.fieldLink RX6 25 "SoupByRank" "evening" "LSoupByRank$Evening;") (by decide +kernel)) rfl dX6_asks_78 ?_
    refine lv_aload_n hx hb dX6_asks_81 rfl (lv_at hl 0 rfl) ?_
    refine lv_aload_n hx hb dX6_asks_82 rfl (lv_at hl 0 rfl) ?_
    refine r_getr (C := RX6) (T := TX6) (N := 12) (k' := 1) S hK hw (kX_0 hG).1 (kX_0 hG).2 rfl hinX6 0 (by decide) (o := 1) rfl rfl (hts (.fieldLink RX6 10 "SoupByRank" "court" "LSoupByRank$Court;") (by decide +kernel)) rfl dX6_asks_83 ?_
    obtain ⟨s_4, x_5, h_x_5, h_6, hg⟩ := bnT_e hg
    refine r_rV (As := [.ref (gAd G 1)]) (rest := [.ref (gAd G 16)]) S hA hK hw (c_X6_lawOf l hG isCt_1 h_6) (cwV 1 hts gX6_asks_X6_lawOf rfl rfl rfl (by decide +kernel) ⟨Nat.le_of_ble_eq_true rfl, Nat.le_of_ble_eq_true rfl⟩) (r_recv hK hw (kX_0 hG).1 (kX_0 hG).2 rfl) rfl hl.1 (Nat.le_of_ble_eq_true rfl) dX6_asks_86 ⟨Nat.zero_le _, Nat.zero_le _⟩ rfl (fun H locs hw => ?_)
    refine lv_iload_n hx hb dX6_asks_89 rfl (lv_at hl 1 rfl) ?_
    refine lv_iload_n hx hb dX6_asks_90 rfl (lv_at hl 2 rfl) ?_
    refine lv_iload hx hb dX6_asks_91 (lv_at hl 3 rfl) ?_
    refine lv_iload hx hb dX6_asks_93 (lv_at hl 4 rfl) ?_
    obtain ⟨s_7, x_8, h_9, hg⟩ := bnI_e hg
    refine r_iV (As := [.ref (gAd G (tc x_5)), .int v1, .int v3, .int v4, .int v5]) (rest := []) S hA hK hw (c_X2_says l hG h_x_5 h_9) (cwV 5 hts gX6_asks_X2_says rfl rfl rfl (by decide +kernel) ⟨Nat.le_of_ble_eq_true rfl, Nat.le_of_ble_eq_true rfl⟩) (r_recv hK hw (kX_16 hG).1 (kX_16 hG).2 rfl) rfl hl.1 (Nat.le_of_ble_eq_true rfl) dX6_asks_95 ⟨Nat.zero_le _, Nat.zero_le _⟩ rfl (fun H locs hw => ?_)
    exact r_ireti S hr hlk hw.2.2.2.2 hw hg dX6_asks_98
  have J22 : ∀ (v1 : Int32) (v2 : Int32) (v3 : Int32) (v4 : Int32) (v5 : Int32) (σ : Sg) (H : Heap) (locs : List Loc) (ls : Array Slot) (hg : g_X6_asks_b22 F N ln v1 v2 v3 v4 v5 σ = some (σR, r)) (hw : XD G (gA G sz) s.heap σ H locs) (hl : lv_has ls 6 [(0, .ref (gAd G 0)), (1, .int v1), (2, .int v2), (3, .int v3), (4, .int v4), (5, .int v5)]), W p l e (headSpec wsX6_asks ({ frames := 3, cells := 0, slots := 0, locals := 106 } : Room)).room s m args below meth c H locs 0 0 (MQ below (QcI G (gA G sz) σR r) args s 0 0 (gA G sz)) (F0 m 22 ls []) := by
    intro v1 v2 v3 v4 v5 σ H locs ls hg hw hl
    rw [g_X6_asks_b22] at hg
    refine lv_iload_n hx hb dX6_asks_22 rfl (lv_at hl 3 rfl) ?_
    refine lv_iconst (v := 0) hx hb dX6_asks_23 (by decide) ?_
    refine lv_bipush (v := 99) hx hb dX6_asks_24 (by decide) ?_
    obtain ⟨s_10, x_11, h_12, hg⟩ := bnI_e hg
    refine r_iS (As := [.int v3, .int 0, .int 99]) (rest := []) S hA hK hw (c_X6_isWithin l hG  h_12) (va_cwS 3 hts gX6_asks_X6_isWithin rfl rfl rfl (by decide +kernel) ⟨Nat.le_of_ble_eq_true rfl, Nat.le_of_ble_eq_true rfl⟩) rfl hl.1 (Nat.le_of_ble_eq_true rfl) dX6_asks_26 ⟨Nat.zero_le _, Nat.zero_le _⟩ rfl (fun H locs hw => ?_)
    refine lv_if_eq (tgt := 54) hx hb dX6_asks_29 (by decide) (fun c_13 => ?_) (fun c_13 => ?_)
    · have hg := it_p hg c_13
      refine lv_bipush (v := (-2)) hx hb dX6_asks_54 (by decide) ?_
      exact r_ireti S hr hlk hw.2.2.2.2 hw hg dX6_asks_56
    · have hg := it_n hg c_13
      refine lv_iload hx hb dX6_asks_32 (lv_at hl 4 rfl) ?_
      refine lv_iconst (v := 0) hx hb dX6_asks_34 (by decide) ?_
      refine lv_bipush (v := 60) hx hb dX6_asks_35 (by decide) ?_
      obtain ⟨s_14, x_15, h_16, hg⟩ := bnI_e hg
      refine r_iS (As := [.int v4, .int 0, .int 60]) (rest := []) S hA hK hw (c_X6_isWithin l hG  h_16) (va_cwS 3 hts gX6_asks_X6_isWithin rfl rfl rfl (by decide +kernel) ⟨Nat.le_of_ble_eq_true rfl, Nat.le_of_ble_eq_true rfl⟩) rfl hl.1 (Nat.le_of_ble_eq_true rfl) dX6_asks_37 ⟨Nat.zero_le _, Nat.zero_le _⟩ rfl (fun H locs hw => ?_)
      refine lv_if_eq (tgt := 54) hx hb dX6_asks_40 (by decide) (fun c_17 => ?_) (fun c_17 => ?_)
      · have hg := it_p hg c_17
        refine lv_bipush (v := (-2)) hx hb dX6_asks_54 (by decide) ?_
        exact r_ireti S hr hlk hw.2.2.2.2 hw hg dX6_asks_56
      · have hg := it_n hg c_17
        refine lv_iload hx hb dX6_asks_43 (lv_at hl 5 rfl) ?_
        refine lv_iconst (v := 0) hx hb dX6_asks_45 (by decide) ?_
        refine lv_bipush (v := 6) hx hb dX6_asks_46 (by decide) ?_
        obtain ⟨s_18, x_19, h_20, hg⟩ := bnI_e hg
        refine r_iS (As := [.int v5, .int 0, .int 6]) (rest := []) S hA hK hw (c_X6_isWithin l hG  h_20) (va_cwS 3 hts gX6_asks_X6_isWithin rfl rfl rfl (by decide +kernel) ⟨Nat.le_of_ble_eq_true rfl, Nat.le_of_ble_eq_true rfl⟩) rfl hl.1 (Nat.le_of_ble_eq_true rfl) dX6_asks_48 ⟨Nat.zero_le _, Nat.zero_le _⟩ rfl (fun H locs hw => ?_)
        refine lv_if_ne (tgt := 57) hx hb dX6_asks_51 (by decide) (fun c_21 => ?_) (fun c_21 => ?_)
        · have hg := it_n hg c_21
          refine lv_aload_n hx hb dX6_asks_57 rfl (lv_at hl 0 rfl) ?_
          refine r_getr (C := RX6) (T := TX6) (N := 12) (k' := 16) S hK hw (kX_0 hG).1 (kX_0 hG).2 rfl hinX6 4 (by decide) (o := 16) rfl rfl (hts (.fieldLink RX6 25 "SoupByRank" "evening" "LSoupByRank$Evening;") (by decide +kernel)) rfl dX6_asks_58 ?_
          refine lv_aload_n hx hb dX6_asks_61 rfl (lv_at hl 0 rfl) ?_
          refine r_getr (C := RX6) (T := TX6) (N := 12) (k' := 1) S hK hw (kX_0 hG).1 (kX_0 hG).2 rfl hinX6 0 (by decide) (o := 1) rfl rfl (hts (.fieldLink RX6 10 "SoupByRank" "court" "LSoupByRank$Court;") (by decide +kernel)) rfl dX6_asks_62 ?_
          refine lv_iload_n hx hb dX6_asks_65 rfl (lv_at hl 1 rfl) ?_
          refine lv_if_ne (tgt := 73) hx hb dX6_asks_66 (by decide) (fun c_22 => ?_) (fun c_22 => ?_)
          · have hg := it_n hg c_22
            refine lv_iload_n hx hb dX6_asks_73 rfl (lv_at hl 2 rfl) ?_
            exact J74 v1 v3 v4 v5 v2 _ _ _ _ hg hw (lv_sub hl [0, 1, 3, 4, 5] rfl)
          · have hg := it_p hg c_22
            refine lv_iconst (v := (-1)) hx hb dX6_asks_69 (by decide) ?_
            refine lv_goto (tgt := 74) hx hb dX6_asks_70 (by decide) ?_
            exact J74 v1 v3 v4 v5 (-1) _ _ _ _ hg hw (lv_sub hl [0, 1, 3, 4, 5] rfl)
        · have hg := it_p hg c_21
          refine lv_bipush (v := (-2)) hx hb dX6_asks_54 (by decide) ?_
          exact r_ireti S hr hlk hw.2.2.2.2 hw hg dX6_asks_56
  rw [g_X6_asks] at hg
  refine lv_iload_n hx hb dX6_asks_0 rfl (lv_at hl 1 rfl) ?_
  refine lv_iconst (v := 0) hx hb dX6_asks_1 (by decide) ?_
  refine lv_iconst (v := 2) hx hb dX6_asks_2 (by decide) ?_
  obtain ⟨s_23, x_24, h_25, hg⟩ := bnI_e hg
  refine r_iS (As := [.int a1, .int 0, .int 2]) (rest := []) S hA hK hw (c_X6_isWithin l hG  h_25) (va_cwS 3 hts gX6_asks_X6_isWithin rfl rfl rfl (by decide +kernel) ⟨Nat.le_of_ble_eq_true rfl, Nat.le_of_ble_eq_true rfl⟩) rfl hl.1 (Nat.le_of_ble_eq_true rfl) dX6_asks_3 ⟨Nat.zero_le _, Nat.zero_le _⟩ rfl (fun H locs hw => ?_)
  refine lv_if_eq (tgt := 54) hx hb dX6_asks_6 (by decide) (fun c_26 => ?_) (fun c_26 => ?_)
  · have hg := it_p hg c_26
    refine lv_bipush (v := (-2)) hx hb dX6_asks_54 (by decide) ?_
    exact r_ireti S hr hlk hw.2.2.2.2 hw hg dX6_asks_56
  · have hg := it_n hg c_26
    refine lv_iload_n hx hb dX6_asks_9 rfl (lv_at hl 2 rfl) ?_
    refine lv_iconst (v := (-1)) hx hb dX6_asks_10 (by decide) ?_
    refine lv_icmp_eq (tgt := 22) hx hb dX6_asks_11 (by decide) (fun c_27 => ?_) (fun c_27 => ?_)
    · have hg := it_p hg c_27
      exact J22 a1 a2 a3 a4 a5 _ _ _ _ hg hw (lv_sub hl [0, 1, 2, 3, 4, 5] rfl)
    · have hg := it_n hg c_27
      refine lv_aload_n hx hb dX6_asks_14 rfl (lv_at hl 0 rfl) ?_
      refine lv_iload_n hx hb dX6_asks_15 rfl (lv_at hl 2 rfl) ?_
      obtain ⟨s_28, x_29, h_30, hg⟩ := bnI_e hg
      refine r_iV (As := [.int a2]) (rest := []) S hA hK hw (c_X6_isThere l hG  h_30) (cwV 1 hts gX6_asks_X6_isThere rfl rfl rfl (by decide +kernel) ⟨Nat.le_of_ble_eq_true rfl, Nat.le_of_ble_eq_true rfl⟩) (r_recv hK hw (kX_0 hG).1 (kX_0 hG).2 rfl) rfl hl.1 (Nat.le_of_ble_eq_true rfl) dX6_asks_16 ⟨Nat.zero_le _, Nat.zero_le _⟩ rfl (fun H locs hw => ?_)
      refine lv_if_eq (tgt := 54) hx hb dX6_asks_19 (by decide) (fun c_31 => ?_) (fun c_31 => ?_)
      · have hg := it_p hg c_31
        refine lv_bipush (v := (-2)) hx hb dX6_asks_54 (by decide) ?_
        exact r_ireti S hr hlk hw.2.2.2.2 hw hg dX6_asks_56
      · have hg := it_n hg c_31
        exact J22 a1 a2 a3 a4 a5 _ _ _ _ hg hw (lv_sub hl [0, 1, 2, 3, 4, 5] rfl)
set_option maxHeartbeats 4000000 in
set_option maxRecDepth 100000 in
theorem c_X6_isCourtier (l : Launch) {G : GW} {N : Nat} {ln : Nat → Nat} {cT cS : ClassId} (hG : isX G N ln cT cS) {F sz : Nat} {a0 : Int32} {a1 : Int32} {σ σR : Sg} {r : Int32} (hg : g_X6_isCourtier F N ln a0 a1 σ = some (σR, r)) : Met l yX6_isCourtier wsX6_isCourtier ({ frames := 1, cells := 0, slots := 0, locals := 22 } : Room) (va_Pc [.int a0, .int a1] (PX G σ sz)) (QcI G (gA G sz) σR r) 0 0 (gA G sz) := by
  refine metX (by decide) rfl (Nat.le_of_ble_eq_true rfl) ?_
  intro p e s m args below meth c ls S hr hlk hsz hA hK hw hl hmn
  have S : CallFix p m c cX6_isCourtier 2 s args wsX6_isCourtier RX6 := S
  obtain ⟨hx, hb, hml, hown, hts⟩ := id S
  have hl : lv_has ls 2 [(0, .int a0), (1, .int a1)] := hl
  rw [g_X6_isCourtier] at hg
  refine lv_iload_n hx hb dX6_isCourtier_0 rfl (lv_at hl 0 rfl) ?_
  refine lv_iconst (v := 0) hx hb dX6_isCourtier_1 (by decide) ?_
  refine lv_bipush (v := 59) hx hb dX6_isCourtier_2 (by decide) ?_
  obtain ⟨s_1, x_2, h_3, hg⟩ := bnI_e hg
  refine r_iS (As := [.int a0, .int 0, .int 59]) (rest := []) S hA hK hw (c_X6_isWithin l hG  h_3) (va_cwS 3 hts gX6_isCourtier_X6_isWithin rfl rfl rfl (by decide +kernel) ⟨Nat.le_of_ble_eq_true rfl, Nat.le_of_ble_eq_true rfl⟩) rfl hl.1 (Nat.le_of_ble_eq_true rfl) dX6_isCourtier_4 ⟨Nat.zero_le _, Nat.zero_le _⟩ rfl (fun H locs hw => ?_)
  refine lv_if_eq (tgt := 24) hx hb dX6_isCourtier_7 (by decide) (fun c_4 => ?_) (fun c_4 => ?_)
  · have hg := it_p hg c_4
    refine lv_iconst (v := 0) hx hb dX6_isCourtier_24 (by decide) ?_
    exact r_iretz S hr rfl hlk hw.2.2.2.2 hw hg dX6_isCourtier_25
  · have hg := it_n hg c_4
    refine lv_iload_n hx hb dX6_isCourtier_10 rfl (lv_at hl 1 rfl) ?_
    refine lv_iconst (v := 0) hx hb dX6_isCourtier_11 (by decide) ?_
    refine lv_bipush (v := 99) hx hb dX6_isCourtier_12 (by decide) ?_
    obtain ⟨s_5, x_6, h_7, hg⟩ := bnI_e hg
    refine r_iS (As := [.int a1, .int 0, .int 99]) (rest := []) S hA hK hw (c_X6_isWithin l hG  h_7) (va_cwS 3 hts gX6_isCourtier_X6_isWithin rfl rfl rfl (by decide +kernel) ⟨Nat.le_of_ble_eq_true rfl, Nat.le_of_ble_eq_true rfl⟩) rfl hl.1 (Nat.le_of_ble_eq_true rfl) dX6_isCourtier_14 ⟨Nat.zero_le _, Nat.zero_le _⟩ rfl (fun H locs hw => ?_)
    refine lv_if_eq (tgt := 24) hx hb dX6_isCourtier_17 (by decide) (fun c_8 => ?_) (fun c_8 => ?_)
    · have hg := it_p hg c_8
      refine lv_iconst (v := 0) hx hb dX6_isCourtier_24 (by decide) ?_
      exact r_iretz S hr rfl hlk hw.2.2.2.2 hw hg dX6_isCourtier_25
    · have hg := it_n hg c_8
      refine lv_iconst (v := 1) hx hb dX6_isCourtier_20 (by decide) ?_
      refine lv_goto (tgt := 25) hx hb dX6_isCourtier_21 (by decide) ?_
      exact r_iretz S hr rfl hlk hw.2.2.2.2 hw hg dX6_isCourtier_25
set_option maxHeartbeats 4000000 in
set_option maxRecDepth 100000 in
theorem c_X6_courtier (l : Launch) {G : GW} {N : Nat} {ln : Nat → Nat} {cT cS : ClassId} (hG : isX G N ln cT cS) {F sz : Nat} {a1 : Int32} {a2 : Int32} {σ σR : Sg} {r : Int32} (hg : g_X6_courtier F N ln a1 a2 σ = some (σR, r)) : Met l yX6_courtier wsX6_courtier ({ frames := 2, cells := 0, slots := 0, locals := 43 } : Room) (va_Pc [.ref (gAd G 0), .int a1, .int a2] (PX G σ sz)) (QcI G (gA G sz) σR r) 0 0 (gA G sz) := by
  refine metX (by decide) rfl (Nat.le_of_ble_eq_true rfl) ?_
  intro p e s m args below meth c ls S hr hlk hsz hA hK hw hl hmn
  have S : CallFix p m c cX6_courtier 3 s args wsX6_courtier RX6 := S
  obtain ⟨hx, hb, hml, hown, hts⟩ := id S
  have hl : lv_has ls 3 [(0, .ref (gAd G 0)), (1, .int a1), (2, .int a2)] := hl
  have hinX1 : ∀ w ∈ wsX10, w ∈ wsX6_courtier := by decide +kernel
  have hinX6 : ∀ w ∈ wsX60, w ∈ wsX6_courtier := by decide +kernel
  rw [g_X6_courtier] at hg
  refine lv_iload_n hx hb dX6_courtier_0 rfl (lv_at hl 1 rfl) ?_
  refine lv_iload_n hx hb dX6_courtier_1 rfl (lv_at hl 2 rfl) ?_
  obtain ⟨s_1, x_2, h_3, hg⟩ := bnI_e hg
  refine r_iS (As := [.int a1, .int a2]) (rest := []) S hA hK hw (c_X6_isCourtier l hG  h_3) (va_cwS 2 hts gX6_courtier_X6_isCourtier rfl rfl rfl (by decide +kernel) ⟨Nat.le_of_ble_eq_true rfl, Nat.le_of_ble_eq_true rfl⟩) rfl hl.1 (Nat.le_of_ble_eq_true rfl) dX6_courtier_2 ⟨Nat.zero_le _, Nat.zero_le _⟩ rfl (fun H locs hw => ?_)
  refine lv_if_ne (tgt := 11) hx hb dX6_courtier_5 (by decide) (fun c_4 => ?_) (fun c_4 => ?_)
  · have hg := it_n hg c_4
    refine lv_aload_n hx hb dX6_courtier_11 rfl (lv_at hl 0 rfl) ?_
    refine r_getr (C := RX6) (T := TX6) (N := 12) (k' := 1) S hK hw (kX_0 hG).1 (kX_0 hG).2 rfl hinX6 0 (by decide) (o := 1) rfl rfl (hts (.fieldLink RX6 10 "SoupByRank" "court" "LSoupByRank$Court;") (by decide +kernel)) rfl dX6_courtier_12 ?_
    refine r_getN (C := RX1) (T := TX1) (N := 9) (host := RX6) S hK hw (kX_1 hG).1 (kX_1 hG).2 rfl hinX1 0 (by decide) rfl (by decide +kernel) rfl dX6_courtier_15 ?_
    refine lv_bipush (v := 6) hx hb dX6_courtier_18 (by decide) ?_
    refine lv_icmp_lt (tgt := 26) hx hb dX6_courtier_20 (by decide) (fun c_5 => ?_) (fun c_5 => ?_)
    · have hg := it_p hg c_5
      refine lv_aload_n hx hb dX6_courtier_26 rfl (lv_at hl 0 rfl) ?_
      refine r_getr (C := RX6) (T := TX6) (N := 12) (k' := 1) S hK hw (kX_0 hG).1 (kX_0 hG).2 rfl hinX6 0 (by decide) (o := 1) rfl rfl (hts (.fieldLink RX6 10 "SoupByRank" "court" "LSoupByRank$Court;") (by decide +kernel)) rfl dX6_courtier_27 ?_
      refine lv_iload_n hx hb dX6_courtier_30 rfl (lv_at hl 1 rfl) ?_
      refine lv_bipush (v := 10) hx hb dX6_courtier_31 (by decide) ?_
      obtain ⟨h_7, hg⟩ := divI_e hg
      refine lv_idiv hx hb dX6_courtier_33 h_7 ?_
      refine lv_iload_n hx hb dX6_courtier_34 rfl (lv_at hl 1 rfl) ?_
      refine lv_bipush (v := 10) hx hb dX6_courtier_35 (by decide) ?_
      obtain ⟨h_10, hg⟩ := remI_e hg
      refine lv_irem hx hb dX6_courtier_37 h_10 ?_
      refine lv_iload_n hx hb dX6_courtier_38 rfl (lv_at hl 2 rfl) ?_
      obtain ⟨s_12, x_13, h_14, hg⟩ := bnI_e hg
      refine r_iV (As := [.int (a1 / 10), .int (a1 - a1 / 10 * 10), .int a2]) (rest := []) S hA hK hw (c_X1_admit l hG isCt_1 h_14) (cwV 3 hts gX6_courtier_X1_admit rfl rfl rfl (by decide +kernel) ⟨Nat.le_of_ble_eq_true rfl, Nat.le_of_ble_eq_true rfl⟩) (r_recv hK hw (kX_1 hG).1 (kX_1 hG).2 rfl) rfl hl.1 (Nat.le_of_ble_eq_true rfl) dX6_courtier_39 ⟨Nat.zero_le _, Nat.zero_le _⟩ rfl (fun H locs hw => ?_)
      exact r_ireti S hr hlk hw.2.2.2.2 hw hg dX6_courtier_42
    · have hg := it_n hg c_5
      refine lv_bipush (v := (-4)) hx hb dX6_courtier_23 (by decide) ?_
      exact r_ireti S hr hlk hw.2.2.2.2 hw hg dX6_courtier_25
  · have hg := it_p hg c_4
    refine lv_bipush (v := (-2)) hx hb dX6_courtier_8 (by decide) ?_
    exact r_ireti S hr hlk hw.2.2.2.2 hw hg dX6_courtier_10
set_option maxHeartbeats 4000000 in
set_option maxRecDepth 100000 in
theorem c_X6_put (l : Launch) {G : GW} {N : Nat} {ln : Nat → Nat} {cT cS : ClassId} (hG : isX G N ln cT cS) {F sz : Nat} {a1 : Int32} {a2 : Int32} {a3 : Int32} {σ σR : Sg} {r : Int32} (hg : g_X6_put F N ln a1 a2 a3 σ = some (σR, r)) : Met l yX6_put wsX6_put ({ frames := 2, cells := 0, slots := 0, locals := 43 } : Room) (va_Pc [.ref (gAd G 0), .int a1, .int a2, .int a3] (PX G σ sz)) (QcI G (gA G sz) σR r) 0 0 (gA G sz) := by
  refine metX (by decide) rfl (Nat.le_of_ble_eq_true rfl) ?_
  intro p e s m args below meth c ls S hr hlk hsz hA hK hw hl hmn
  have S : CallFix p m c cX6_put 6 s args wsX6_put RX6 := S
  obtain ⟨hx, hb, hml, hown, hts⟩ := id S
  have hl : lv_has ls 6 [(0, .ref (gAd G 0)), (1, .int a1), (2, .int a2), (3, .int a3)] := hl
  have hinX1 : ∀ w ∈ wsX10, w ∈ wsX6_put := by decide +kernel
  have hinX6 : ∀ w ∈ wsX60, w ∈ wsX6_put := by decide +kernel
  have J64 : ∀ (v1 : Int32) (v3 : Int32) (q0 : Nat) (h_q0 : gKd G q0 = .inl 6 ∧ q0 < gN G) (σ : Sg) (H : Heap) (locs : List Loc) (ls : Array Slot) (hg : g_X6_put_b64 F N ln v1 v3 q0 σ = some (σR, r)) (hw : XD G (gA G sz) s.heap σ H locs) (hl : lv_has ls 6 [(1, .int v1), (3, .int v3)]), W p l e (headSpec wsX6_put ({ frames := 2, cells := 0, slots := 0, locals := 43 } : Room)).room s m args below meth c H locs 0 0 (MQ below (QcI G (gA G sz) σR r) args s 0 0 (gA G sz)) (F0 m 64 ls [.ref (gAd G q0)]) := by
    intro v1 v3 q0 h_q0 σ H locs ls hg hw hl
    rw [g_X6_put_b64] at hg
    refine lv_astore (lv' := [(4, .ref (gAd G q0)), (1, .int v1), (3, .int v3)]) hx hb dX6_put_64 hl (by decide) rfl (fun ls hl => ?_)
    refine lv_aload hx hb dX6_put_66 (lv_at hl 0 rfl) ?_
    refine lv_iload_n hx hb dX6_put_68 rfl (lv_at hl 1 rfl) ?_
    obtain ⟨h_2, x_1, e_3, hg⟩ := rdA_e hg
    refine r_iald S hK hw h_q0.1 h_q0.2 h_2 e_3 dX6_put_69 ?_
    refine lv_istore (lv' := [(5, .int x_1), (4, .ref (gAd G q0)), (1, .int v1), (3, .int v3)]) hx hb dX6_put_70 hl (by decide) rfl (fun ls hl => ?_)
    refine lv_aload hx hb dX6_put_72 (lv_at hl 1 rfl) ?_
    refine lv_iload_n hx hb dX6_put_74 rfl (lv_at hl 2 rfl) ?_
    refine lv_iload_n hx hb dX6_put_75 rfl (lv_at hl 3 rfl) ?_
    obtain ⟨h_5, s_4, e_6, hg⟩ := wrA_e hg
    refine r_iast S hK hw h_q0.1 h_q0.2 h_5 e_6 dX6_put_76 (fun H locs hw => ?_)
    refine lv_iload hx hb dX6_put_77 (lv_at hl 0 rfl) ?_
    exact r_ireti S hr hlk hw.2.2.2.2 hw hg dX6_put_79
  have J34 : ∀ (v1 : Int32) (v2 : Int32) (v3 : Int32) (u0 : Int32) (u1 : Int32) (u2 : Int32) (σ : Sg) (H : Heap) (locs : List Loc) (ls : Array Slot) (hg : g_X6_put_b34 F N ln v1 v2 v3 u0 u1 u2 σ = some (σR, r)) (hw : XD G (gA G sz) s.heap σ H locs) (hl : lv_has ls 6 [(0, .ref (gAd G 0)), (1, .int v1), (2, .int v2), (3, .int v3)]), W p l e (headSpec wsX6_put ({ frames := 2, cells := 0, slots := 0, locals := 43 } : Room)).room s m args below meth c H locs 0 0 (MQ below (QcI G (gA G sz) σR r) args s 0 0 (gA G sz)) (F0 m 34 ls [.int u0, .int u1, .int u2]) := by
    intro v1 v2 v3 u0 u1 u2 σ H locs ls hg hw hl
    rw [g_X6_put_b34] at hg
    obtain ⟨s_7, x_8, h_9, hg⟩ := bnI_e hg
    refine r_iS (As := [.int u2, .int u1, .int u0]) (rest := []) S hA hK hw (c_X6_isWithin l hG  h_9) (va_cwS 3 hts gX6_put_X6_isWithin rfl rfl rfl (by decide +kernel) ⟨Nat.le_of_ble_eq_true rfl, Nat.le_of_ble_eq_true rfl⟩) rfl hl.1 (Nat.le_of_ble_eq_true rfl) dX6_put_34 ⟨Nat.zero_le _, Nat.zero_le _⟩ rfl (fun H locs hw => ?_)
    refine lv_if_ne (tgt := 43) hx hb dX6_put_37 (by decide) (fun c_10 => ?_) (fun c_10 => ?_)
    · have hg := it_n hg c_10
      refine lv_iload_n hx hb dX6_put_43 rfl (lv_at hl 2 rfl) ?_
      refine lv_if_ne (tgt := 57) hx hb dX6_put_44 (by decide) (fun c_11 => ?_) (fun c_11 => ?_)
      · have hg := it_n hg c_11
        refine lv_aload_n hx hb dX6_put_57 rfl (lv_at hl 0 rfl) ?_
        refine r_getr (C := RX6) (T := TX6) (N := 12) (k' := 1) S hK hw (kX_0 hG).1 (kX_0 hG).2 rfl hinX6 0 (by decide) (o := 1) rfl rfl (hts (.fieldLink RX6 10 "SoupByRank" "court" "LSoupByRank$Court;") (by decide +kernel)) rfl dX6_put_58 ?_
        refine r_getrN (C := RX1) (T := TX1) (N := 9) (host := RX6) (k' := 5) S hK hw (kX_1 hG).1 (kX_1 hG).2 rfl hinX1 8 (by decide) (o := 4) rfl rfl (by decide +kernel) rfl dX6_put_61 ?_
        exact J64 v1 v3 5 (kX_5 hG) _ _ _ _ hg hw (lv_sub hl [1, 3] rfl)
      · have hg := it_p hg c_11
        refine lv_aload_n hx hb dX6_put_47 rfl (lv_at hl 0 rfl) ?_
        refine r_getr (C := RX6) (T := TX6) (N := 12) (k' := 1) S hK hw (kX_0 hG).1 (kX_0 hG).2 rfl hinX6 0 (by decide) (o := 1) rfl rfl (hts (.fieldLink RX6 10 "SoupByRank" "court" "LSoupByRank$Court;") (by decide +kernel)) rfl dX6_put_48 ?_
        refine r_getrN (C := RX1) (T := TX1) (N := 9) (host := RX6) (k' := 4) S hK hw (kX_1 hG).1 (kX_1 hG).2 rfl hinX1 7 (by decide) (o := 3) rfl rfl (by decide +kernel) rfl dX6_put_51 ?_
        refine lv_goto (tgt := 64) hx hb dX6_put_54 (by decide) ?_
        exact J64 v1 v3 4 (kX_4 hG) _ _ _ _ hg hw (lv_sub hl [1, 3] rfl)
    · have hg := it_p hg c_10
      refine lv_bipush (v := (-7)) hx hb dX6_put_40 (by decide) ?_
      exact r_ireti S hr hlk hw.2.2.2.2 hw hg dX6_put_42
  rw [g_X6_put] at hg
  refine lv_aload_n hx hb dX6_put_0 rfl (lv_at hl 0 rfl) ?_
  refine lv_iload_n hx hb dX6_put_1 rfl (lv_at hl 1 rfl) ?_
  obtain ⟨s_12, x_13, h_14, hg⟩ := bnI_e hg
  refine r_iV (As := [.int a1]) (rest := []) S hA hK hw (c_X6_isThere l hG  h_14) (cwV 1 hts gX6_put_X6_isThere rfl rfl rfl (by decide +kernel) ⟨Nat.le_of_ble_eq_true rfl, Nat.le_of_ble_eq_true rfl⟩) (r_recv hK hw (kX_0 hG).1 (kX_0 hG).2 rfl) rfl hl.1 (Nat.le_of_ble_eq_true rfl) dX6_put_2 ⟨Nat.zero_le _, Nat.zero_le _⟩ rfl (fun H locs hw => ?_)
  refine lv_if_ne (tgt := 11) hx hb dX6_put_5 (by decide) (fun c_15 => ?_) (fun c_15 => ?_)
  · have hg := it_n hg c_15
    refine lv_iload_n hx hb dX6_put_11 rfl (lv_at hl 2 rfl) ?_
    refine lv_iconst (v := 0) hx hb dX6_put_12 (by decide) ?_
    refine lv_iconst (v := 1) hx hb dX6_put_13 (by decide) ?_
    obtain ⟨s_16, x_17, h_18, hg⟩ := bnI_e hg
    refine r_iS (As := [.int a2, .int 0, .int 1]) (rest := []) S hA hK hw (c_X6_isWithin l hG  h_18) (va_cwS 3 hts gX6_put_X6_isWithin rfl rfl rfl (by decide +kernel) ⟨Nat.le_of_ble_eq_true rfl, Nat.le_of_ble_eq_true rfl⟩) rfl hl.1 (Nat.le_of_ble_eq_true rfl) dX6_put_14 ⟨Nat.zero_le _, Nat.zero_le _⟩ rfl (fun H locs hw => ?_)
    refine lv_if_eq (tgt := 40) hx hb dX6_put_17 (by decide) (fun c_19 => ?_) (fun c_19 => ?_)
    · have hg := it_p hg c_19
      refine lv_bipush (v := (-7)) hx hb dX6_put_40 (by decide) ?_
      exact r_ireti S hr hlk hw.2.2.2.2 hw hg dX6_put_42
    · have hg := it_n hg c_19
      refine lv_iload_n hx hb dX6_put_20 rfl (lv_at hl 3 rfl) ?_
      refine lv_iconst (v := 0) hx hb dX6_put_21 (by decide) ?_
      refine lv_iload_n hx hb dX6_put_22 rfl (lv_at hl 2 rfl) ?_
      refine lv_if_ne (tgt := 31) hx hb dX6_put_23 (by decide) (fun c_20 => ?_) (fun c_20 => ?_)
      · have hg := it_n hg c_20
        refine lv_sipush (v := 999) hx hb dX6_put_31 (by decide) ?_
        exact J34 a1 a2 a3 999 0 a3 _ _ _ _ hg hw (lv_sub hl [0, 1, 2, 3] rfl)
      · have hg := it_p hg c_20
        refine lv_bipush (v := 99) hx hb dX6_put_26 (by decide) ?_
        refine lv_goto (tgt := 34) hx hb dX6_put_28 (by decide) ?_
        exact J34 a1 a2 a3 99 0 a3 _ _ _ _ hg hw (lv_sub hl [0, 1, 2, 3] rfl)
  · have hg := it_p hg c_15
    refine lv_bipush (v := (-5)) hx hb dX6_put_8 (by decide) ?_
    exact r_ireti S hr hlk hw.2.2.2.2 hw hg dX6_put_10
set_option maxHeartbeats 4000000 in
set_option maxRecDepth 100000 in
theorem c_X6_serve (l : Launch) {G : GW} {N : Nat} {ln : Nat → Nat} {cT cS : ClassId} (hG : isX G N ln cT cS) {F sz : Nat} {k : Nat} (h_k : isCt k) {σ σR : Sg} {r : Int32} (hg : g_X6_serve F N ln k σ = some (σR, r)) : Met l yX6_serve wsX6_serve ({ frames := 5, cells := 0, slots := 0, locals := 160 } : Room) (va_Pc [.ref (gAd G 0), .ref (gAd G k)] (PX G σ sz)) (QcI G (gA G sz) σR r) 0 0 (gA G sz) := by
  refine metX (by decide) rfl (Nat.le_of_ble_eq_true rfl) ?_
  intro p e s m args below meth c ls S hr hlk hsz hA hK hw hl hmn
  have S : CallFix p m c cX6_serve 2 s args wsX6_serve RX6 := S
  obtain ⟨hx, hb, hml, hown, hts⟩ := id S
  have hl : lv_has ls 2 [(0, .ref (gAd G 0)), (1, .ref (gAd G k))] := hl
  have hinX6 : ∀ w ∈ wsX60, w ∈ wsX6_serve := by decide +kernel
  rw [g_X6_serve] at hg
  refine lv_aload_n hx hb dX6_serve_0 rfl (lv_at hl 0 rfl) ?_
  refine r_getr (C := RX6) (T := TX6) (N := 12) (k' := 16) S hK hw (kX_0 hG).1 (kX_0 hG).2 rfl hinX6 4 (by decide) (o := 16) rfl rfl (hts (.fieldLink RX6 25 "SoupByRank" "evening" "LSoupByRank$Evening;") (by decide +kernel)) rfl dX6_serve_1 ?_
  refine lv_aload_n hx hb dX6_serve_4 rfl (lv_at hl 1 rfl) ?_
  refine lv_aload_n hx hb dX6_serve_5 rfl (lv_at hl 0 rfl) ?_
  refine lv_aload_n hx hb dX6_serve_6 rfl (lv_at hl 1 rfl) ?_
  obtain ⟨s_1, x_2, h_x_2, h_3, hg⟩ := bnT_e hg
  refine r_rV (As := [.ref (gAd G k)]) (rest := [.ref (gAd G k), .ref (gAd G 16)]) S hA hK hw (c_X6_lawOf l hG h_k h_3) (cwV 1 hts gX6_serve_X6_lawOf rfl rfl rfl (by decide +kernel) ⟨Nat.le_of_ble_eq_true rfl, Nat.le_of_ble_eq_true rfl⟩) (r_recv hK hw (kX_0 hG).1 (kX_0 hG).2 rfl) rfl hl.1 (Nat.le_of_ble_eq_true rfl) dX6_serve_7 ⟨Nat.zero_le _, Nat.zero_le _⟩ rfl (fun H locs hw => ?_)
  obtain ⟨s_4, x_5, h_6, hg⟩ := bnI_e hg
  refine r_iV (As := [.ref (gAd G k), .ref (gAd G (tc x_2))]) (rest := []) S hA hK hw (c_X2_serve l hG h_k h_x_2 h_6) (cwV 2 hts gX6_serve_X2_serve rfl rfl rfl (by decide +kernel) ⟨Nat.le_of_ble_eq_true rfl, Nat.le_of_ble_eq_true rfl⟩) (r_recv hK hw (kX_16 hG).1 (kX_16 hG).2 rfl) rfl hl.1 (Nat.le_of_ble_eq_true rfl) dX6_serve_10 ⟨Nat.zero_le _, Nat.zero_le _⟩ rfl (fun H locs hw => ?_)
  exact r_ireti S hr hlk hw.2.2.2.2 hw hg dX6_serve_13
set_option maxHeartbeats 4000000 in
set_option maxRecDepth 100000 in
theorem c_X6_told (l : Launch) {G : GW} {N : Nat} {ln : Nat → Nat} {cT cS : ClassId} (hG : isX G N ln cT cS) {F sz : Nat} {a1 : Int32} {a2 : Int32} {σ σR : Sg} {r : Int32} (hg : g_X6_told F N ln a1 a2 σ = some (σR, r)) : Met l yX6_told wsX6_told ({ frames := 6, cells := 0, slots := 0, locals := 181 } : Room) (va_Pc [.ref (gAd G 0), .int a1, .int a2] (PX G σ sz)) (QcI G (gA G sz) σR r) 0 0 (gA G sz) := by
  refine metX (by decide) rfl (Nat.le_of_ble_eq_true rfl) ?_
  intro p e s m args below meth c ls S hr hlk hsz hA hK hw hl hmn
  have S : CallFix p m c cX6_told 3 s args wsX6_told RX6 := S
  obtain ⟨hx, hb, hml, hown, hts⟩ := id S
  have hl : lv_has ls 3 [(0, .ref (gAd G 0)), (1, .int a1), (2, .int a2)] := hl
  have hinX1 : ∀ w ∈ wsX10, w ∈ wsX6_told := by decide +kernel
  have hinX2 : ∀ w ∈ wsX20, w ∈ wsX6_told := by decide +kernel
  have hinX6 : ∀ w ∈ wsX60, w ∈ wsX6_told := by decide +kernel
  rw [g_X6_told] at hg
  refine lv_aload_n hx hb dX6_told_0 rfl (lv_at hl 0 rfl) ?_
  refine lv_iload_n hx hb dX6_told_1 rfl (lv_at hl 1 rfl) ?_
  obtain ⟨s_1, x_2, h_3, hg⟩ := bnI_e hg
  refine r_iV (As := [.int a1]) (rest := []) S hA hK hw (c_X6_isThere l hG  h_3) (cwV 1 hts gX6_told_X6_isThere rfl rfl rfl (by decide +kernel) ⟨Nat.le_of_ble_eq_true rfl, Nat.le_of_ble_eq_true rfl⟩) (r_recv hK hw (kX_0 hG).1 (kX_0 hG).2 rfl) rfl hl.1 (Nat.le_of_ble_eq_true rfl) dX6_told_2 ⟨Nat.zero_le _, Nat.zero_le _⟩ rfl (fun H locs hw => ?_)
  refine lv_if_ne (tgt := 12) hx hb dX6_told_5 (by decide) (fun c_4 => ?_) (fun c_4 => ?_)
  · have hg := it_n hg c_4
    refine lv_iload_n hx hb dX6_told_12 rfl (lv_at hl 2 rfl) ?_
    by_cases c_5 : a2 = 0
    · have hg := it_p hg c_5
      refine lv_tableIn (tgt := 44) hx hb dX6_told_13 (by rw [c_5]; decide) (by rw [c_5]; decide) (off := 31) (by rw [c_5]; rfl) (by decide) ?_
      refine lv_aload_n hx hb dX6_told_44 rfl (lv_at hl 0 rfl) ?_
      refine r_getr (C := RX6) (T := TX6) (N := 12) (k' := 1) S hK hw (kX_0 hG).1 (kX_0 hG).2 rfl hinX6 0 (by decide) (o := 1) rfl rfl (hts (.fieldLink RX6 10 "SoupByRank" "court" "LSoupByRank$Court;") (by decide +kernel)) rfl dX6_told_45 ?_
      refine r_getrN (C := RX1) (T := TX1) (N := 9) (host := RX6) (k' := 4) S hK hw (kX_1 hG).1 (kX_1 hG).2 rfl hinX1 7 (by decide) (o := 3) rfl rfl (by decide +kernel) rfl dX6_told_48 ?_
      refine lv_iload_n hx hb dX6_told_51 rfl (lv_at hl 1 rfl) ?_
      obtain ⟨h_7, x_6, e_8, hg⟩ := rdA_e hg
      refine r_iald S hK hw (kX_4 hG).1 (kX_4 hG).2 h_7 e_8 dX6_told_52 ?_
      exact r_ireti S hr hlk hw.2.2.2.2 hw hg dX6_told_53
    have hg := it_n hg c_5
    by_cases c_9 : a2 = 1
    · have hg := it_p hg c_9
      refine lv_tableIn (tgt := 54) hx hb dX6_told_13 (by rw [c_9]; decide) (by rw [c_9]; decide) (off := 41) (by rw [c_9]; rfl) (by decide) ?_
      refine lv_aload_n hx hb dX6_told_54 rfl (lv_at hl 0 rfl) ?_
      refine r_getr (C := RX6) (T := TX6) (N := 12) (k' := 1) S hK hw (kX_0 hG).1 (kX_0 hG).2 rfl hinX6 0 (by decide) (o := 1) rfl rfl (hts (.fieldLink RX6 10 "SoupByRank" "court" "LSoupByRank$Court;") (by decide +kernel)) rfl dX6_told_55 ?_
      refine r_getrN (C := RX1) (T := TX1) (N := 9) (host := RX6) (k' := 5) S hK hw (kX_1 hG).1 (kX_1 hG).2 rfl hinX1 8 (by decide) (o := 4) rfl rfl (by decide +kernel) rfl dX6_told_58 ?_
      refine lv_iload_n hx hb dX6_told_61 rfl (lv_at hl 1 rfl) ?_
      obtain ⟨h_11, x_10, e_12, hg⟩ := rdA_e hg
      refine r_iald S hK hw (kX_5 hG).1 (kX_5 hG).2 h_11 e_12 dX6_told_62 ?_
      exact r_ireti S hr hlk hw.2.2.2.2 hw hg dX6_told_63
    have hg := it_n hg c_9
    by_cases c_13 : a2 = 2
    · have hg := it_p hg c_13
      refine lv_tableIn (tgt := 64) hx hb dX6_told_13 (by rw [c_13]; decide) (by rw [c_13]; decide) (off := 51) (by rw [c_13]; rfl) (by decide) ?_
      refine lv_aload_n hx hb dX6_told_64 rfl (lv_at hl 0 rfl) ?_
      refine r_getr (C := RX6) (T := TX6) (N := 12) (k' := 1) S hK hw (kX_0 hG).1 (kX_0 hG).2 rfl hinX6 0 (by decide) (o := 1) rfl rfl (hts (.fieldLink RX6 10 "SoupByRank" "court" "LSoupByRank$Court;") (by decide +kernel)) rfl dX6_told_65 ?_
      refine r_getrN (C := RX1) (T := TX1) (N := 9) (host := RX6) (k' := 2) S hK hw (kX_1 hG).1 (kX_1 hG).2 rfl hinX1 5 (by decide) (o := 1) rfl rfl (by decide +kernel) rfl dX6_told_68 ?_
      refine lv_iload_n hx hb dX6_told_71 rfl (lv_at hl 1 rfl) ?_
      obtain ⟨h_15, x_14, e_16, hg⟩ := rdA_e hg
      refine r_iald S hK hw (kX_2 hG).1 (kX_2 hG).2 h_15 e_16 dX6_told_72 ?_
      exact r_ireti S hr hlk hw.2.2.2.2 hw hg dX6_told_73
    have hg := it_n hg c_13
    by_cases c_17 : a2 = 3
    · have hg := it_p hg c_17
      refine lv_tableIn (tgt := 74) hx hb dX6_told_13 (by rw [c_17]; decide) (by rw [c_17]; decide) (off := 61) (by rw [c_17]; rfl) (by decide) ?_
      refine lv_aload_n hx hb dX6_told_74 rfl (lv_at hl 0 rfl) ?_
      refine r_getr (C := RX6) (T := TX6) (N := 12) (k' := 1) S hK hw (kX_0 hG).1 (kX_0 hG).2 rfl hinX6 0 (by decide) (o := 1) rfl rfl (hts (.fieldLink RX6 10 "SoupByRank" "court" "LSoupByRank$Court;") (by decide +kernel)) rfl dX6_told_75 ?_
      refine r_getrN (C := RX1) (T := TX1) (N := 9) (host := RX6) (k' := 3) S hK hw (kX_1 hG).1 (kX_1 hG).2 rfl hinX1 6 (by decide) (o := 2) rfl rfl (by decide +kernel) rfl dX6_told_78 ?_
      refine lv_iload_n hx hb dX6_told_81 rfl (lv_at hl 1 rfl) ?_
      obtain ⟨h_19, x_18, e_20, hg⟩ := rdA_e hg
      refine r_iald S hK hw (kX_3 hG).1 (kX_3 hG).2 h_19 e_20 dX6_told_82 ?_
      exact r_ireti S hr hlk hw.2.2.2.2 hw hg dX6_told_83
    have hg := it_n hg c_17
    have hsw := tb_out (lo := 0) (hi := 3) (x := a2) (fun n h1 h2 => by rcases (show n = 0 ∨ n = 1 ∨ n = 2 ∨ n = 3 by omega) with rfl | rfl | rfl | rfl; exact lv_neT c_5 (by decide); exact lv_neT c_9 (by decide); exact lv_neT c_13 (by decide); exact lv_neT c_17 (by decide))
    refine lv_tableOut (tgt := 84) hx hb dX6_told_13 hsw (by decide) ?_
    refine lv_aload_n hx hb dX6_told_84 rfl (lv_at hl 0 rfl) ?_
    refine lv_aload_n hx hb dX6_told_85 rfl (lv_at hl 0 rfl) ?_
    refine r_getr (C := RX6) (T := TX6) (N := 12) (k' := 1) S hK hw (kX_0 hG).1 (kX_0 hG).2 rfl hinX6 0 (by decide) (o := 1) rfl rfl (hts (.fieldLink RX6 10 "SoupByRank" "court" "LSoupByRank$Court;") (by decide +kernel)) rfl dX6_told_86 ?_
    obtain ⟨s_21, x_22, h_23, hg⟩ := bnI_e hg
    refine r_iV (As := [.ref (gAd G 1)]) (rest := []) S hA hK hw (c_X6_serve l hG isCt_1 h_23) (cwV 1 hts gX6_told_X6_serve rfl rfl rfl (by decide +kernel) ⟨Nat.le_of_ble_eq_true rfl, Nat.le_of_ble_eq_true rfl⟩) (r_recv hK hw (kX_0 hG).1 (kX_0 hG).2 rfl) rfl hl.1 (Nat.le_of_ble_eq_true rfl) dX6_told_89 ⟨Nat.zero_le _, Nat.zero_le _⟩ rfl (fun H locs hw => ?_)
    refine lv_pop hx hb dX6_told_92 rfl ?_
    refine lv_iload_n hx hb dX6_told_93 rfl (lv_at hl 2 rfl) ?_
    by_cases c_24 : a2 = 4
    · have hg := it_p hg c_24
      refine lv_tableIn (tgt := 128) hx hb dX6_told_94 (by rw [c_24]; decide) (by rw [c_24]; decide) (off := 34) (by rw [c_24]; rfl) (by decide) ?_
      refine lv_aload_n hx hb dX6_told_128 rfl (lv_at hl 0 rfl) ?_
      refine r_getr (C := RX6) (T := TX6) (N := 12) (k' := 16) S hK hw (kX_0 hG).1 (kX_0 hG).2 rfl hinX6 4 (by decide) (o := 16) rfl rfl (hts (.fieldLink RX6 25 "SoupByRank" "evening" "LSoupByRank$Evening;") (by decide +kernel)) rfl dX6_told_129 ?_
      refine r_getrN (C := RX2) (T := TX2) (N := 11) (host := RX6) (k' := 18) S hK hw (kX_16 hG).1 (kX_16 hG).2 rfl hinX2 1 (by decide) (o := 2) rfl rfl (by decide +kernel) rfl dX6_told_132 ?_
      refine lv_iload_n hx hb dX6_told_135 rfl (lv_at hl 1 rfl) ?_
      obtain ⟨h_26, x_25, e_27, hg⟩ := rdA_e hg
      refine r_iald S hK hw (kX_18 hG).1 (kX_18 hG).2 h_26 e_27 dX6_told_136 ?_
      exact r_ireti S hr hlk hw.2.2.2.2 hw hg dX6_told_137
    have hg := it_n hg c_24
    by_cases c_28 : a2 = 5
    · have hg := it_p hg c_28
      refine lv_tableIn (tgt := 138) hx hb dX6_told_94 (by rw [c_28]; decide) (by rw [c_28]; decide) (off := 44) (by rw [c_28]; rfl) (by decide) ?_
      refine lv_aload_n hx hb dX6_told_138 rfl (lv_at hl 0 rfl) ?_
      refine r_getr (C := RX6) (T := TX6) (N := 12) (k' := 16) S hK hw (kX_0 hG).1 (kX_0 hG).2 rfl hinX6 4 (by decide) (o := 16) rfl rfl (hts (.fieldLink RX6 25 "SoupByRank" "evening" "LSoupByRank$Evening;") (by decide +kernel)) rfl dX6_told_139 ?_
      refine r_getrN (C := RX2) (T := TX2) (N := 11) (host := RX6) (k' := 19) S hK hw (kX_16 hG).1 (kX_16 hG).2 rfl hinX2 2 (by decide) (o := 3) rfl rfl (by decide +kernel) rfl dX6_told_142 ?_
      refine lv_iload_n hx hb dX6_told_145 rfl (lv_at hl 1 rfl) ?_
      obtain ⟨h_30, x_29, e_31, hg⟩ := rdA_e hg
      refine r_iald S hK hw (kX_19 hG).1 (kX_19 hG).2 h_30 e_31 dX6_told_146 ?_
      exact r_ireti S hr hlk hw.2.2.2.2 hw hg dX6_told_147
    have hg := it_n hg c_28
    by_cases c_32 : a2 = 6
    · have hg := it_p hg c_32
      refine lv_tableIn (tgt := 148) hx hb dX6_told_94 (by rw [c_32]; decide) (by rw [c_32]; decide) (off := 54) (by rw [c_32]; rfl) (by decide) ?_
      refine lv_aload_n hx hb dX6_told_148 rfl (lv_at hl 0 rfl) ?_
      refine r_getr (C := RX6) (T := TX6) (N := 12) (k' := 16) S hK hw (kX_0 hG).1 (kX_0 hG).2 rfl hinX6 4 (by decide) (o := 16) rfl rfl (hts (.fieldLink RX6 25 "SoupByRank" "evening" "LSoupByRank$Evening;") (by decide +kernel)) rfl dX6_told_149 ?_
      refine r_getrN (C := RX2) (T := TX2) (N := 11) (host := RX6) (k' := 20) S hK hw (kX_16 hG).1 (kX_16 hG).2 rfl hinX2 3 (by decide) (o := 4) rfl rfl (by decide +kernel) rfl dX6_told_152 ?_
      refine lv_iload_n hx hb dX6_told_155 rfl (lv_at hl 1 rfl) ?_
      obtain ⟨h_34, x_33, e_35, hg⟩ := rdA_e hg
      refine r_iald S hK hw (kX_20 hG).1 (kX_20 hG).2 h_34 e_35 dX6_told_156 ?_
      exact r_ireti S hr hlk hw.2.2.2.2 hw hg dX6_told_157
    have hg := it_n hg c_32
    by_cases c_36 : a2 = 7
    · have hg := it_p hg c_36
      refine lv_tableIn (tgt := 158) hx hb dX6_told_94 (by rw [c_36]; decide) (by rw [c_36]; decide) (off := 64) (by rw [c_36]; rfl) (by decide) ?_
      refine lv_aload_n hx hb dX6_told_158 rfl (lv_at hl 0 rfl) ?_
      refine r_getr (C := RX6) (T := TX6) (N := 12) (k' := 16) S hK hw (kX_0 hG).1 (kX_0 hG).2 rfl hinX6 4 (by decide) (o := 16) rfl rfl (hts (.fieldLink RX6 25 "SoupByRank" "evening" "LSoupByRank$Evening;") (by decide +kernel)) rfl dX6_told_159 ?_
      refine lv_iload_n hx hb dX6_told_162 rfl (lv_at hl 1 rfl) ?_
      obtain ⟨s_37, x_38, h_39, hg⟩ := bnI_e hg
      refine r_iV (As := [.int a1]) (rest := []) S hA hK hw (c_X2_hasBegun l hG  h_39) (cwV 1 hts gX6_told_X2_hasBegun rfl rfl rfl (by decide +kernel) ⟨Nat.le_of_ble_eq_true rfl, Nat.le_of_ble_eq_true rfl⟩) (r_recv hK hw (kX_16 hG).1 (kX_16 hG).2 rfl) rfl hl.1 (Nat.le_of_ble_eq_true rfl) dX6_told_163 ⟨Nat.zero_le _, Nat.zero_le _⟩ rfl (fun H locs hw => ?_)
      refine lv_if_eq (tgt := 181) hx hb dX6_told_166 (by decide) (fun c_40 => ?_) (fun c_40 => ?_)
      · have hg := it_p hg c_40
        refine lv_sipush (v := (-6000)) hx hb dX6_told_181 (by decide) ?_
        exact r_ireti S hr hlk hw.2.2.2.2 hw hg dX6_told_184
      · have hg := it_n hg c_40
        refine lv_aload_n hx hb dX6_told_169 rfl (lv_at hl 0 rfl) ?_
        refine r_getr (C := RX6) (T := TX6) (N := 12) (k' := 16) S hK hw (kX_0 hG).1 (kX_0 hG).2 rfl hinX6 4 (by decide) (o := 16) rfl rfl (hts (.fieldLink RX6 25 "SoupByRank" "evening" "LSoupByRank$Evening;") (by decide +kernel)) rfl dX6_told_170 ?_
        refine r_getrN (C := RX2) (T := TX2) (N := 11) (host := RX6) (k' := 21) S hK hw (kX_16 hG).1 (kX_16 hG).2 rfl hinX2 4 (by decide) (o := 5) rfl rfl (by decide +kernel) rfl dX6_told_173 ?_
        refine lv_iload_n hx hb dX6_told_176 rfl (lv_at hl 1 rfl) ?_
        obtain ⟨h_42, x_41, e_43, hg⟩ := rdA_e hg
        refine r_iald S hK hw (kX_21 hG).1 (kX_21 hG).2 h_42 e_43 dX6_told_177 ?_
        refine lv_goto (tgt := 184) hx hb dX6_told_178 (by decide) ?_
        exact r_ireti S hr hlk hw.2.2.2.2 hw hg dX6_told_184
    have hg := it_n hg c_36
    by_cases c_44 : a2 = 8
    · have hg := it_p hg c_44
      refine lv_tableIn (tgt := 185) hx hb dX6_told_94 (by rw [c_44]; decide) (by rw [c_44]; decide) (off := 91) (by rw [c_44]; rfl) (by decide) ?_
      refine lv_aload_n hx hb dX6_told_185 rfl (lv_at hl 0 rfl) ?_
      refine r_getr (C := RX6) (T := TX6) (N := 12) (k' := 16) S hK hw (kX_0 hG).1 (kX_0 hG).2 rfl hinX6 4 (by decide) (o := 16) rfl rfl (hts (.fieldLink RX6 25 "SoupByRank" "evening" "LSoupByRank$Evening;") (by decide +kernel)) rfl dX6_told_186 ?_
      refine lv_iload_n hx hb dX6_told_189 rfl (lv_at hl 1 rfl) ?_
      obtain ⟨s_45, x_46, h_47, hg⟩ := bnI_e hg
      refine r_iV (As := [.int a1]) (rest := []) S hA hK hw (c_X2_hasBegun l hG  h_47) (cwV 1 hts gX6_told_X2_hasBegun rfl rfl rfl (by decide +kernel) ⟨Nat.le_of_ble_eq_true rfl, Nat.le_of_ble_eq_true rfl⟩) (r_recv hK hw (kX_16 hG).1 (kX_16 hG).2 rfl) rfl hl.1 (Nat.le_of_ble_eq_true rfl) dX6_told_190 ⟨Nat.zero_le _, Nat.zero_le _⟩ rfl (fun H locs hw => ?_)
      refine lv_if_eq (tgt := 208) hx hb dX6_told_193 (by decide) (fun c_48 => ?_) (fun c_48 => ?_)
      · have hg := it_p hg c_48
        refine lv_sipush (v := (-6000)) hx hb dX6_told_208 (by decide) ?_
        exact r_ireti S hr hlk hw.2.2.2.2 hw hg dX6_told_211
      · have hg := it_n hg c_48
        refine lv_aload_n hx hb dX6_told_196 rfl (lv_at hl 0 rfl) ?_
        refine r_getr (C := RX6) (T := TX6) (N := 12) (k' := 16) S hK hw (kX_0 hG).1 (kX_0 hG).2 rfl hinX6 4 (by decide) (o := 16) rfl rfl (hts (.fieldLink RX6 25 "SoupByRank" "evening" "LSoupByRank$Evening;") (by decide +kernel)) rfl dX6_told_197 ?_
        refine r_getrN (C := RX2) (T := TX2) (N := 11) (host := RX6) (k' := 22) S hK hw (kX_16 hG).1 (kX_16 hG).2 rfl hinX2 5 (by decide) (o := 6) rfl rfl (by decide +kernel) rfl dX6_told_200 ?_
        refine lv_iload_n hx hb dX6_told_203 rfl (lv_at hl 1 rfl) ?_
        obtain ⟨h_50, x_49, e_51, hg⟩ := rdA_e hg
        refine r_iald S hK hw (kX_22 hG).1 (kX_22 hG).2 h_50 e_51 dX6_told_204 ?_
        refine lv_goto (tgt := 211) hx hb dX6_told_205 (by decide) ?_
        exact r_ireti S hr hlk hw.2.2.2.2 hw hg dX6_told_211
    have hg := it_n hg c_44
    have hsw := tb_out (lo := 4) (hi := 8) (x := a2) (fun n h1 h2 => by rcases (show n = 4 ∨ n = 5 ∨ n = 6 ∨ n = 7 ∨ n = 8 by omega) with rfl | rfl | rfl | rfl | rfl; exact lv_neT c_24 (by decide); exact lv_neT c_28 (by decide); exact lv_neT c_32 (by decide); exact lv_neT c_36 (by decide); exact lv_neT c_44 (by decide))
    refine lv_tableOut (tgt := 212) hx hb dX6_told_94 hsw (by decide) ?_
    refine lv_sipush (v := (-7000)) hx hb dX6_told_212 (by decide) ?_
    exact r_ireti S hr hlk hw.2.2.2.2 hw hg dX6_told_215
  · have hg := it_p hg c_4
    refine lv_sipush (v := (-5000)) hx hb dX6_told_8 (by decide) ?_
    exact r_ireti S hr hlk hw.2.2.2.2 hw hg dX6_told_11
set_option maxHeartbeats 4000000 in
set_option maxRecDepth 100000 in
theorem c_X6_table (l : Launch) {G : GW} {N : Nat} {ln : Nat → Nat} {cT cS : ClassId} (hG : isX G N ln cT cS) {F sz : Nat} {a1 : Int32} {σ σR : Sg} {r : Int32} (hg : g_X6_table F N ln a1 σ = some (σR, r)) : Met l yX6_table wsX6_table ({ frames := 6, cells := 0, slots := 0, locals := 181 } : Room) (va_Pc [.ref (gAd G 0), .int a1] (PX G σ sz)) (QcI G (gA G sz) σR r) 0 0 (gA G sz) := by
  refine metX (by decide) rfl (Nat.le_of_ble_eq_true rfl) ?_
  intro p e s m args below meth c ls S hr hlk hsz hA hK hw hl hmn
  have S : CallFix p m c cX6_table 2 s args wsX6_table RX6 := S
  obtain ⟨hx, hb, hml, hown, hts⟩ := id S
  have hl : lv_has ls 2 [(0, .ref (gAd G 0)), (1, .int a1)] := hl
  have hinX1 : ∀ w ∈ wsX10, w ∈ wsX6_table := by decide +kernel
  have hinX2 : ∀ w ∈ wsX20, w ∈ wsX6_table := by decide +kernel
  have hinX6 : ∀ w ∈ wsX60, w ∈ wsX6_table := by decide +kernel
  rw [g_X6_table] at hg
  refine lv_aload_n hx hb dX6_table_0 rfl (lv_at hl 0 rfl) ?_
  refine lv_aload_n hx hb dX6_table_1 rfl (lv_at hl 0 rfl) ?_
  refine r_getr (C := RX6) (T := TX6) (N := 12) (k' := 1) S hK hw (kX_0 hG).1 (kX_0 hG).2 rfl hinX6 0 (by decide) (o := 1) rfl rfl (hts (.fieldLink RX6 10 "SoupByRank" "court" "LSoupByRank$Court;") (by decide +kernel)) rfl dX6_table_2 ?_
  obtain ⟨s_1, x_2, h_3, hg⟩ := bnI_e hg
  refine r_iV (As := [.ref (gAd G 1)]) (rest := []) S hA hK hw (c_X6_serve l hG isCt_1 h_3) (cwV 1 hts gX6_table_X6_serve rfl rfl rfl (by decide +kernel) ⟨Nat.le_of_ble_eq_true rfl, Nat.le_of_ble_eq_true rfl⟩) (r_recv hK hw (kX_0 hG).1 (kX_0 hG).2 rfl) rfl hl.1 (Nat.le_of_ble_eq_true rfl) dX6_table_5 ⟨Nat.zero_le _, Nat.zero_le _⟩ rfl (fun H locs hw => ?_)
  refine lv_pop hx hb dX6_table_8 rfl ?_
  refine lv_iload_n hx hb dX6_table_9 rfl (lv_at hl 1 rfl) ?_
  by_cases c_4 : a1 = 0
  · have hg := it_p hg c_4
    refine lv_tableIn (tgt := 44) hx hb dX6_table_10 (by rw [c_4]; decide) (by rw [c_4]; decide) (off := 34) (by rw [c_4]; rfl) (by decide) ?_
    refine lv_aload_n hx hb dX6_table_44 rfl (lv_at hl 0 rfl) ?_
    refine r_getr (C := RX6) (T := TX6) (N := 12) (k' := 16) S hK hw (kX_0 hG).1 (kX_0 hG).2 rfl hinX6 4 (by decide) (o := 16) rfl rfl (hts (.fieldLink RX6 25 "SoupByRank" "evening" "LSoupByRank$Evening;") (by decide +kernel)) rfl dX6_table_45 ?_
    obtain ⟨s_5, x_6, h_7, hg⟩ := bnI_e hg
    refine r_iV (As := []) (rest := []) S hA hK hw (c_X2_last l hG  h_7) (cwV 0 hts gX6_table_X2_last rfl rfl rfl (by decide +kernel) ⟨Nat.le_of_ble_eq_true rfl, Nat.le_of_ble_eq_true rfl⟩) (r_recv hK hw (kX_16 hG).1 (kX_16 hG).2 rfl) rfl hl.1 (Nat.le_of_ble_eq_true rfl) dX6_table_48 ⟨Nat.zero_le _, Nat.zero_le _⟩ rfl (fun H locs hw => ?_)
    exact r_ireti S hr hlk hw.2.2.2.2 hw hg dX6_table_51
  have hg := it_n hg c_4
  by_cases c_8 : a1 = 1
  · have hg := it_p hg c_8
    refine lv_tableIn (tgt := 52) hx hb dX6_table_10 (by rw [c_8]; decide) (by rw [c_8]; decide) (off := 42) (by rw [c_8]; rfl) (by decide) ?_
    refine lv_aload_n hx hb dX6_table_52 rfl (lv_at hl 0 rfl) ?_
    refine r_getr (C := RX6) (T := TX6) (N := 12) (k' := 16) S hK hw (kX_0 hG).1 (kX_0 hG).2 rfl hinX6 4 (by decide) (o := 16) rfl rfl (hts (.fieldLink RX6 25 "SoupByRank" "evening" "LSoupByRank$Evening;") (by decide +kernel)) rfl dX6_table_53 ?_
    obtain ⟨s_9, x_10, h_11, hg⟩ := bnI_e hg
    refine r_iV (As := []) (rest := []) S hA hK hw (c_X2_lastMinute l hG  h_11) (cwV 0 hts gX6_table_X2_lastMinute rfl rfl rfl (by decide +kernel) ⟨Nat.le_of_ble_eq_true rfl, Nat.le_of_ble_eq_true rfl⟩) (r_recv hK hw (kX_16 hG).1 (kX_16 hG).2 rfl) rfl hl.1 (Nat.le_of_ble_eq_true rfl) dX6_table_56 ⟨Nat.zero_le _, Nat.zero_le _⟩ rfl (fun H locs hw => ?_)
    exact r_ireti S hr hlk hw.2.2.2.2 hw hg dX6_table_59
  have hg := it_n hg c_8
  by_cases c_12 : a1 = 2
  · have hg := it_p hg c_12
    refine lv_tableIn (tgt := 60) hx hb dX6_table_10 (by rw [c_12]; decide) (by rw [c_12]; decide) (off := 50) (by rw [c_12]; rfl) (by decide) ?_
    refine lv_aload_n hx hb dX6_table_60 rfl (lv_at hl 0 rfl) ?_
    refine r_getr (C := RX6) (T := TX6) (N := 12) (k' := 16) S hK hw (kX_0 hG).1 (kX_0 hG).2 rfl hinX6 4 (by decide) (o := 16) rfl rfl (hts (.fieldLink RX6 25 "SoupByRank" "evening" "LSoupByRank$Evening;") (by decide +kernel)) rfl dX6_table_61 ?_
    refine r_getN (C := RX2) (T := TX2) (N := 11) (host := RX6) S hK hw (kX_16 hG).1 (kX_16 hG).2 rfl hinX2 10 (by decide) rfl (by decide +kernel) rfl dX6_table_64 ?_
    exact r_ireti S hr hlk hw.2.2.2.2 hw hg dX6_table_67
  have hg := it_n hg c_12
  by_cases c_13 : a1 = 3
  · have hg := it_p hg c_13
    refine lv_tableIn (tgt := 68) hx hb dX6_table_10 (by rw [c_13]; decide) (by rw [c_13]; decide) (off := 58) (by rw [c_13]; rfl) (by decide) ?_
    refine lv_aload_n hx hb dX6_table_68 rfl (lv_at hl 0 rfl) ?_
    refine r_getr (C := RX6) (T := TX6) (N := 12) (k' := 16) S hK hw (kX_0 hG).1 (kX_0 hG).2 rfl hinX6 4 (by decide) (o := 16) rfl rfl (hts (.fieldLink RX6 25 "SoupByRank" "evening" "LSoupByRank$Evening;") (by decide +kernel)) rfl dX6_table_69 ?_
    refine lv_aload_n hx hb dX6_table_72 rfl (lv_at hl 0 rfl) ?_
    refine r_getr (C := RX6) (T := TX6) (N := 12) (k' := 1) S hK hw (kX_0 hG).1 (kX_0 hG).2 rfl hinX6 0 (by decide) (o := 1) rfl rfl (hts (.fieldLink RX6 10 "SoupByRank" "court" "LSoupByRank$Court;") (by decide +kernel)) rfl dX6_table_73 ?_
    refine r_getN (C := RX1) (T := TX1) (N := 9) (host := RX6) S hK hw (kX_1 hG).1 (kX_1 hG).2 rfl hinX1 0 (by decide) rfl (by decide +kernel) rfl dX6_table_76 ?_
    obtain ⟨s_14, x_15, h_16, hg⟩ := bnI_e hg
    refine r_iV (As := [.int (s_1 1 0)]) (rest := []) S hA hK hw (c_X2_neverBits l hG  h_16) (cwV 1 hts gX6_table_X2_neverBits rfl rfl rfl (by decide +kernel) ⟨Nat.le_of_ble_eq_true rfl, Nat.le_of_ble_eq_true rfl⟩) (r_recv hK hw (kX_16 hG).1 (kX_16 hG).2 rfl) rfl hl.1 (Nat.le_of_ble_eq_true rfl) dX6_table_79 ⟨Nat.zero_le _, Nat.zero_le _⟩ rfl (fun H locs hw => ?_)
    exact r_ireti S hr hlk hw.2.2.2.2 hw hg dX6_table_82
  have hg := it_n hg c_13
  by_cases c_17 : a1 = 4
  · have hg := it_p hg c_17
    refine lv_tableIn (tgt := 83) hx hb dX6_table_10 (by rw [c_17]; decide) (by rw [c_17]; decide) (off := 73) (by rw [c_17]; rfl) (by decide) ?_
    refine lv_aload_n hx hb dX6_table_83 rfl (lv_at hl 0 rfl) ?_
    refine r_getr (C := RX6) (T := TX6) (N := 12) (k' := 16) S hK hw (kX_0 hG).1 (kX_0 hG).2 rfl hinX6 4 (by decide) (o := 16) rfl rfl (hts (.fieldLink RX6 25 "SoupByRank" "evening" "LSoupByRank$Evening;") (by decide +kernel)) rfl dX6_table_84 ?_
    refine lv_aload_n hx hb dX6_table_87 rfl (lv_at hl 0 rfl) ?_
    refine r_getr (C := RX6) (T := TX6) (N := 12) (k' := 1) S hK hw (kX_0 hG).1 (kX_0 hG).2 rfl hinX6 0 (by decide) (o := 1) rfl rfl (hts (.fieldLink RX6 10 "SoupByRank" "court" "LSoupByRank$Court;") (by decide +kernel)) rfl dX6_table_88 ?_
    refine r_getN (C := RX1) (T := TX1) (N := 9) (host := RX6) S hK hw (kX_1 hG).1 (kX_1 hG).2 rfl hinX1 0 (by decide) rfl (by decide +kernel) rfl dX6_table_91 ?_
    obtain ⟨s_18, x_19, h_20, hg⟩ := bnI_e hg
    refine r_iV (As := [.int (s_1 1 0)]) (rest := []) S hA hK hw (c_X2_mindsMost l hG  h_20) (cwV 1 hts gX6_table_X2_mindsMost rfl rfl rfl (by decide +kernel) ⟨Nat.le_of_ble_eq_true rfl, Nat.le_of_ble_eq_true rfl⟩) (r_recv hK hw (kX_16 hG).1 (kX_16 hG).2 rfl) rfl hl.1 (Nat.le_of_ble_eq_true rfl) dX6_table_94 ⟨Nat.zero_le _, Nat.zero_le _⟩ rfl (fun H locs hw => ?_)
    exact r_ireti S hr hlk hw.2.2.2.2 hw hg dX6_table_97
  have hg := it_n hg c_17
  have hsw := tb_out (lo := 0) (hi := 4) (x := a1) (fun n h1 h2 => by rcases (show n = 0 ∨ n = 1 ∨ n = 2 ∨ n = 3 ∨ n = 4 by omega) with rfl | rfl | rfl | rfl | rfl; exact lv_neT c_4 (by decide); exact lv_neT c_8 (by decide); exact lv_neT c_12 (by decide); exact lv_neT c_13 (by decide); exact lv_neT c_17 (by decide))
  refine lv_tableOut (tgt := 98) hx hb dX6_table_10 hsw (by decide) ?_
  refine lv_ldc (v := (-100000)) hx hb hown (hts (.constant RX6 179 (-100000)) (by decide +kernel)) dX6_table_98 ?_
  exact r_ireti S hr hlk hw.2.2.2.2 hw hg dX6_table_100
set_option maxHeartbeats 4000000 in
set_option maxRecDepth 100000 in
theorem c_X6_sup (l : Launch) {G : GW} {N : Nat} {ln : Nat → Nat} {cT cS : ClassId} (hG : isX G N ln cT cS) {F sz : Nat} {σ σR : Sg} {r : Int32} (hg : g_X6_sup F N ln σ = some (σR, r)) : Met l yX6_sup wsX6_sup ({ frames := 6, cells := 0, slots := 0, locals := 181 } : Room) (va_Pc [.ref (gAd G 0)] (PX G σ sz)) (QcI G (gA G sz) σR r) 0 0 (gA G sz) := by
  refine metX (by decide) rfl (Nat.le_of_ble_eq_true rfl) ?_
  intro p e s m args below meth c ls S hr hlk hsz hA hK hw hl hmn
  have S : CallFix p m c cX6_sup 2 s args wsX6_sup RX6 := S
  obtain ⟨hx, hb, hml, hown, hts⟩ := id S
  have hl : lv_has ls 2 [(0, .ref (gAd G 0))] := hl
  have hinX1 : ∀ w ∈ wsX10, w ∈ wsX6_sup := by decide +kernel
  have hinX6 : ∀ w ∈ wsX60, w ∈ wsX6_sup := by decide +kernel
  rw [g_X6_sup] at hg
  refine lv_aload_n hx hb dX6_sup_0 rfl (lv_at hl 0 rfl) ?_
  refine r_getr (C := RX6) (T := TX6) (N := 12) (k' := 1) S hK hw (kX_0 hG).1 (kX_0 hG).2 rfl hinX6 0 (by decide) (o := 1) rfl rfl (hts (.fieldLink RX6 10 "SoupByRank" "court" "LSoupByRank$Court;") (by decide +kernel)) rfl dX6_sup_1 ?_
  refine r_getN (C := RX1) (T := TX1) (N := 9) (host := RX6) S hK hw (kX_1 hG).1 (kX_1 hG).2 rfl hinX1 1 (by decide) rfl (by decide +kernel) rfl dX6_sup_4 ?_
  refine lv_sipush (v := 999) hx hb dX6_sup_7 (by decide) ?_
  refine lv_icmp_lt (tgt := 16) hx hb dX6_sup_10 (by decide) (fun c_1 => ?_) (fun c_1 => ?_)
  · have hg := it_p hg c_1
    refine lv_aload_n hx hb dX6_sup_16 rfl (lv_at hl 0 rfl) ?_
    refine lv_aload_n hx hb dX6_sup_17 rfl (lv_at hl 0 rfl) ?_
    refine r_getr (C := RX6) (T := TX6) (N := 12) (k' := 1) S hK hw (kX_0 hG).1 (kX_0 hG).2 rfl hinX6 0 (by decide) (o := 1) rfl rfl (hts (.fieldLink RX6 10 "SoupByRank" "court" "LSoupByRank$Court;") (by decide +kernel)) rfl dX6_sup_18 ?_
    obtain ⟨s_2, x_3, h_4, hg⟩ := bnI_e hg
    refine r_iV (As := [.ref (gAd G 1)]) (rest := []) S hA hK hw (c_X6_serve l hG isCt_1 h_4) (cwV 1 hts gX6_sup_X6_serve rfl rfl rfl (by decide +kernel) ⟨Nat.le_of_ble_eq_true rfl, Nat.le_of_ble_eq_true rfl⟩) (r_recv hK hw (kX_0 hG).1 (kX_0 hG).2 rfl) rfl hl.1 (Nat.le_of_ble_eq_true rfl) dX6_sup_21 ⟨Nat.zero_le _, Nat.zero_le _⟩ rfl (fun H locs hw => ?_)
    refine lv_istore_n (lv' := [(1, .int x_3), (0, .ref (gAd G 0))]) hx hb dX6_sup_24 rfl hl (by decide) rfl (fun ls hl => ?_)
    refine lv_aload_n hx hb dX6_sup_25 rfl (lv_at hl 1 rfl) ?_
    refine r_getr (C := RX6) (T := TX6) (N := 12) (k' := 1) S hK hw (kX_0 hG).1 (kX_0 hG).2 rfl hinX6 0 (by decide) (o := 1) rfl rfl (hts (.fieldLink RX6 10 "SoupByRank" "court" "LSoupByRank$Court;") (by decide +kernel)) rfl dX6_sup_26 ?_
    refine lv_aload_n hx hb dX6_sup_29 rfl (lv_at hl 1 rfl) ?_
    refine r_getr (C := RX6) (T := TX6) (N := 12) (k' := 16) S hK hw (kX_0 hG).1 (kX_0 hG).2 rfl hinX6 4 (by decide) (o := 16) rfl rfl (hts (.fieldLink RX6 25 "SoupByRank" "evening" "LSoupByRank$Evening;") (by decide +kernel)) rfl dX6_sup_30 ?_
    obtain ⟨s_5, h_7, hg⟩ := bnV_e hg
    refine r_vV (As := [.ref (gAd G 16)]) (rest := []) S hA hK hw (c_X1_rise l hG isCt_1 h_7) (cwV 1 hts gX6_sup_X1_rise rfl rfl rfl (by decide +kernel) ⟨Nat.le_of_ble_eq_true rfl, Nat.le_of_ble_eq_true rfl⟩) (r_recv hK hw (kX_1 hG).1 (kX_1 hG).2 rfl) rfl hl.1 (Nat.le_of_ble_eq_true rfl) dX6_sup_33 ⟨Nat.zero_le _, Nat.zero_le _⟩ rfl (fun H locs hw => ?_)
    refine lv_iload_n hx hb dX6_sup_36 rfl (lv_at hl 0 rfl) ?_
    exact r_ireti S hr hlk hw.2.2.2.2 hw hg dX6_sup_37
  · have hg := it_n hg c_1
    refine lv_ldc (v := (-100000)) hx hb hown (hts (.constant RX6 179 (-100000)) (by decide +kernel)) dX6_sup_13 ?_
    exact r_ireti S hr hlk hw.2.2.2.2 hw hg dX6_sup_15
set_option maxHeartbeats 4000000 in
set_option maxRecDepth 100000 in
theorem c_X6_run (l : Launch) {G : GW} {N : Nat} {ln : Nat → Nat} {cT cS : ClassId} (hG : isX G N ln cT cS) {F sz : Nat} {a1 : Int32} {a2 : Int32} {a3 : Int32} {σ σR : Sg} {r : Int32} (hg : g_X6_run F N ln a1 a2 a3 σ = some (σR, r)) : Met l yX6_run wsX6_run ({ frames := 6, cells := 0, slots := 0, locals := 181 } : Room) (va_Pc [.ref (gAd G 0), .int a1, .int a2, .int a3] (PX G σ sz)) (QcI G (gA G sz) σR r) 0 0 (gA G sz) := by
  refine metX (by decide) rfl (Nat.le_of_ble_eq_true rfl) ?_
  intro p e s m args below meth c ls S hr hlk hsz hA hK hw hl hmn
  have S : CallFix p m c cX6_run 7 s args wsX6_run RX6 := S
  obtain ⟨hx, hb, hml, hown, hts⟩ := id S
  have hl : lv_has ls 7 [(0, .ref (gAd G 0)), (1, .int a1), (2, .int a2), (3, .int a3)] := hl
  have hinX1 : ∀ w ∈ wsX10, w ∈ wsX6_run := by decide +kernel
  have hinX6 : ∀ w ∈ wsX60, w ∈ wsX6_run := by decide +kernel
  have L50 : ∀ (v1 : Int32) (v2 : Int32) (v3 : Int32) (n50 : Nat) (v4 : Int32) (v5 : Int32) (v6 : Int32) (σ : Sg) (H : Heap) (locs : List Loc) (ls : Array Slot) (hg : g_X6_run_l50 F N ln v1 v2 v3 n50 v4 v5 v6 σ = some (σR, r)) (hw : XD G (gA G sz) s.heap σ H locs) (hl : lv_has ls 7 [(0, .ref (gAd G 0)), (1, .int v1), (2, .int v2), (3, .int v3), (4, .int v4), (5, .int v5), (6, .int v6)]), W p l e (headSpec wsX6_run ({ frames := 6, cells := 0, slots := 0, locals := 181 } : Room)).room s m args below meth c H locs 0 0 (MQ below (QcI G (gA G sz) σR r) args s 0 0 (gA G sz)) (F0 m 50 ls []) := by
    intro v1 v2 v3
    intro n50
    induction n50 with
    | zero => intro v4 v5 v6 σ H locs ls hg hw hl; exact no_e hg
    | succ n50 ih50 =>
      intro v4 v5 v6 σ H locs ls hg hw hl
      rw [g_X6_run_l50] at hg
      refine lv_iload hx hb dX6_run_50 (lv_at hl 6 rfl) ?_
      refine lv_iload_n hx hb dX6_run_52 rfl (lv_at hl 2 rfl) ?_
      refine lv_icmp_ge (tgt := 99) hx hb dX6_run_53 (by decide) (fun c_1 => ?_) (fun c_1 => ?_)
      · have hg := it_p hg c_1
        refine lv_iload_n hx hb dX6_run_99 rfl (lv_at hl 3 rfl) ?_
        by_cases c_2 : v3 = 0
        · have hg := it_p hg c_2
          refine lv_lookup (tgt := 128) (off := 28) hx hb dX6_run_100 (by decide) (by rw [c_2]; rfl) (by decide) ?_
          refine lv_aload_n hx hb dX6_run_128 rfl (lv_at hl 0 rfl) ?_
          refine r_getr (C := RX6) (T := TX6) (N := 12) (k' := 6) S hK hw (kX_0 hG).1 (kX_0 hG).2 rfl hinX6 1 (by decide) (o := 6) rfl rfl (hts (.fieldLink RX6 16 "SoupByRank" "thought" "LSoupByRank$Court;") (by decide +kernel)) rfl dX6_run_129 ?_
          refine r_getrN (C := RX1) (T := TX1) (N := 9) (host := RX6) (k' := 10) S hK hw (kX_6 hG).1 (kX_6 hG).2 rfl hinX1 8 (by decide) (o := 4) rfl rfl (by decide +kernel) rfl dX6_run_132 ?_
          refine lv_iload_n hx hb dX6_run_135 rfl (lv_at hl 1 rfl) ?_
          obtain ⟨h_4, x_3, e_5, hg⟩ := rdA_e hg
          refine r_iald S hK hw (kX_10 hG).1 (kX_10 hG).2 h_4 e_5 dX6_run_136 ?_
          exact r_ireti S hr hlk hw.2.2.2.2 hw hg dX6_run_137
        have hg := it_n hg c_2
        by_cases c_6 : v3 = 1
        · have hg := it_p hg c_6
          refine lv_lookup (tgt := 138) (off := 38) hx hb dX6_run_100 (by decide) (by rw [c_6]; rfl) (by decide) ?_
          refine lv_iload hx hb dX6_run_138 (lv_at hl 4 rfl) ?_
          exact r_ireti S hr hlk hw.2.2.2.2 hw hg dX6_run_140
        have hg := it_n hg c_6
        refine lv_lookup (tgt := 141) (off := 41) hx hb dX6_run_100 (by decide) ((lv_osw c_2 (by decide)).trans ((lv_osw c_6 (by decide)).trans rfl)) (by decide) ?_
        refine lv_iload hx hb dX6_run_141 (lv_at hl 5 rfl) ?_
        exact r_ireti S hr hlk hw.2.2.2.2 hw hg dX6_run_143
      · have hg := it_n hg c_1
        refine lv_iload hx hb dX6_run_56 (lv_at hl 5 rfl) ?_
        refine lv_aload_n hx hb dX6_run_58 rfl (lv_at hl 0 rfl) ?_
        refine lv_aload_n hx hb dX6_run_59 rfl (lv_at hl 0 rfl) ?_
        refine r_getr (C := RX6) (T := TX6) (N := 12) (k' := 6) S hK hw (kX_0 hG).1 (kX_0 hG).2 rfl hinX6 1 (by decide) (o := 6) rfl rfl (hts (.fieldLink RX6 16 "SoupByRank" "thought" "LSoupByRank$Court;") (by decide +kernel)) rfl dX6_run_60 ?_
        obtain ⟨s_7, x_8, h_9, hg⟩ := bnI_e hg
        refine r_iV (As := [.ref (gAd G 6)]) (rest := [.int v5]) S hA hK hw (c_X6_serve l hG isCt_6 h_9) (cwV 1 hts gX6_run_X6_serve rfl rfl rfl (by decide +kernel) ⟨Nat.le_of_ble_eq_true rfl, Nat.le_of_ble_eq_true rfl⟩) (r_recv hK hw (kX_0 hG).1 (kX_0 hG).2 rfl) rfl hl.1 (Nat.le_of_ble_eq_true rfl) dX6_run_63 ⟨Nat.zero_le _, Nat.zero_le _⟩ rfl (fun H locs hw => ?_)
        refine lv_iadd hx hb dX6_run_66 ?_
        refine lv_istore (lv' := [(5, .int (v5 + x_8)), (0, .ref (gAd G 0)), (1, .int v1), (2, .int v2), (3, .int v3), (4, .int v4), (6, .int v6)]) hx hb dX6_run_67 hl (by decide) rfl (fun ls hl => ?_)
        refine lv_iload hx hb dX6_run_69 (lv_at hl 5 rfl) ?_
        refine lv_aload_n hx hb dX6_run_71 rfl (lv_at hl 1 rfl) ?_
        refine r_getr (C := RX6) (T := TX6) (N := 12) (k' := 16) S hK hw (kX_0 hG).1 (kX_0 hG).2 rfl hinX6 4 (by decide) (o := 16) rfl rfl (hts (.fieldLink RX6 25 "SoupByRank" "evening" "LSoupByRank$Evening;") (by decide +kernel)) rfl dX6_run_72 ?_
        refine lv_iload_n hx hb dX6_run_75 rfl (lv_at hl 2 rfl) ?_
        obtain ⟨s_10, x_11, h_12, hg⟩ := bnI_e hg
        refine r_iV (As := [.int v1]) (rest := [.int v4]) S hA hK hw (c_X2_costs l hG  h_12) (cwV 1 hts gX6_run_X2_costs rfl rfl rfl (by decide +kernel) ⟨Nat.le_of_ble_eq_true rfl, Nat.le_of_ble_eq_true rfl⟩) (r_recv hK hw (kX_16 hG).1 (kX_16 hG).2 rfl) rfl hl.1 (Nat.le_of_ble_eq_true rfl) dX6_run_76 ⟨Nat.zero_le _, Nat.zero_le _⟩ rfl (fun H locs hw => ?_)
        refine lv_iadd hx hb dX6_run_79 ?_
        refine lv_istore (lv' := [(4, .int (v4 + x_11)), (5, .int (v5 + x_8)), (0, .ref (gAd G 0)), (1, .int v1), (2, .int v2), (3, .int v3), (6, .int v6)]) hx hb dX6_run_80 hl (by decide) rfl (fun ls hl => ?_)
        refine lv_aload_n hx hb dX6_run_82 rfl (lv_at hl 2 rfl) ?_
        refine r_getr (C := RX6) (T := TX6) (N := 12) (k' := 6) S hK hw (kX_0 hG).1 (kX_0 hG).2 rfl hinX6 1 (by decide) (o := 6) rfl rfl (hts (.fieldLink RX6 16 "SoupByRank" "thought" "LSoupByRank$Court;") (by decide +kernel)) rfl dX6_run_83 ?_
        refine lv_aload_n hx hb dX6_run_86 rfl (lv_at hl 2 rfl) ?_
        refine r_getr (C := RX6) (T := TX6) (N := 12) (k' := 16) S hK hw (kX_0 hG).1 (kX_0 hG).2 rfl hinX6 4 (by decide) (o := 16) rfl rfl (hts (.fieldLink RX6 25 "SoupByRank" "evening" "LSoupByRank$Evening;") (by decide +kernel)) rfl dX6_run_87 ?_
        obtain ⟨s_13, h_15, hg⟩ := bnV_e hg
        refine r_vV (As := [.ref (gAd G 16)]) (rest := []) S hA hK hw (c_X1_rise l hG isCt_6 h_15) (cwV 1 hts gX6_run_X1_rise rfl rfl rfl (by decide +kernel) ⟨Nat.le_of_ble_eq_true rfl, Nat.le_of_ble_eq_true rfl⟩) (r_recv hK hw (kX_6 hG).1 (kX_6 hG).2 rfl) rfl hl.1 (Nat.le_of_ble_eq_true rfl) dX6_run_90 ⟨Nat.zero_le _, Nat.zero_le _⟩ rfl (fun H locs hw => ?_)
        refine lv_iinc (v := (v6 + 1)) (lv' := [(6, .int (v6 + 1)), (4, .int (v4 + x_11)), (5, .int (v5 + x_8)), (0, .ref (gAd G 0)), (1, .int v1), (2, .int v2), (3, .int v3)]) hx hb dX6_run_93 hl (k := 6) rfl rfl (by decide) rfl (fun ls hl => ?_)
        refine lv_goto (tgt := 50) hx hb dX6_run_96 (by decide) ?_
        exact ih50 _ _ _ _ _ _ _ hg hw (lv_sub hl [3, 4, 5, 6, 1, 2, 0] rfl)
  rw [g_X6_run] at hg
  refine lv_aload_n hx hb dX6_run_0 rfl (lv_at hl 0 rfl) ?_
  refine lv_iload_n hx hb dX6_run_1 rfl (lv_at hl 1 rfl) ?_
  obtain ⟨s_16, x_17, h_18, hg⟩ := bnI_e hg
  refine r_iV (As := [.int a1]) (rest := []) S hA hK hw (c_X6_isThere l hG  h_18) (cwV 1 hts gX6_run_X6_isThere rfl rfl rfl (by decide +kernel) ⟨Nat.le_of_ble_eq_true rfl, Nat.le_of_ble_eq_true rfl⟩) (r_recv hK hw (kX_0 hG).1 (kX_0 hG).2 rfl) rfl hl.1 (Nat.le_of_ble_eq_true rfl) dX6_run_2 ⟨Nat.zero_le _, Nat.zero_le _⟩ rfl (fun H locs hw => ?_)
  refine lv_if_eq (tgt := 27) hx hb dX6_run_5 (by decide) (fun c_19 => ?_) (fun c_19 => ?_)
  · have hg := it_p hg c_19
    refine lv_ldc (v := (-100000)) hx hb hown (hts (.constant RX6 179 (-100000)) (by decide +kernel)) dX6_run_27 ?_
    exact r_ireti S hr hlk hw.2.2.2.2 hw hg dX6_run_29
  · have hg := it_n hg c_19
    refine lv_iload_n hx hb dX6_run_8 rfl (lv_at hl 2 rfl) ?_
    refine lv_iconst (v := 0) hx hb dX6_run_9 (by decide) ?_
    refine lv_bipush (v := 20) hx hb dX6_run_10 (by decide) ?_
    obtain ⟨s_20, x_21, h_22, hg⟩ := bnI_e hg
    refine r_iS (As := [.int a2, .int 0, .int 20]) (rest := []) S hA hK hw (c_X6_isWithin l hG  h_22) (va_cwS 3 hts gX6_run_X6_isWithin rfl rfl rfl (by decide +kernel) ⟨Nat.le_of_ble_eq_true rfl, Nat.le_of_ble_eq_true rfl⟩) rfl hl.1 (Nat.le_of_ble_eq_true rfl) dX6_run_12 ⟨Nat.zero_le _, Nat.zero_le _⟩ rfl (fun H locs hw => ?_)
    refine lv_if_eq (tgt := 27) hx hb dX6_run_15 (by decide) (fun c_23 => ?_) (fun c_23 => ?_)
    · have hg := it_p hg c_23
      refine lv_ldc (v := (-100000)) hx hb hown (hts (.constant RX6 179 (-100000)) (by decide +kernel)) dX6_run_27 ?_
      exact r_ireti S hr hlk hw.2.2.2.2 hw hg dX6_run_29
    · have hg := it_n hg c_23
      refine lv_iload_n hx hb dX6_run_18 rfl (lv_at hl 3 rfl) ?_
      refine lv_iconst (v := 0) hx hb dX6_run_19 (by decide) ?_
      refine lv_iconst (v := 2) hx hb dX6_run_20 (by decide) ?_
      obtain ⟨s_24, x_25, h_26, hg⟩ := bnI_e hg
      refine r_iS (As := [.int a3, .int 0, .int 2]) (rest := []) S hA hK hw (c_X6_isWithin l hG  h_26) (va_cwS 3 hts gX6_run_X6_isWithin rfl rfl rfl (by decide +kernel) ⟨Nat.le_of_ble_eq_true rfl, Nat.le_of_ble_eq_true rfl⟩) rfl hl.1 (Nat.le_of_ble_eq_true rfl) dX6_run_21 ⟨Nat.zero_le _, Nat.zero_le _⟩ rfl (fun H locs hw => ?_)
      refine lv_if_ne (tgt := 30) hx hb dX6_run_24 (by decide) (fun c_27 => ?_) (fun c_27 => ?_)
      · have hg := it_n hg c_27
        refine lv_aload_n hx hb dX6_run_30 rfl (lv_at hl 0 rfl) ?_
        refine r_getr (C := RX6) (T := TX6) (N := 12) (k' := 6) S hK hw (kX_0 hG).1 (kX_0 hG).2 rfl hinX6 1 (by decide) (o := 6) rfl rfl (hts (.fieldLink RX6 16 "SoupByRank" "thought" "LSoupByRank$Court;") (by decide +kernel)) rfl dX6_run_31 ?_
        refine lv_aload_n hx hb dX6_run_34 rfl (lv_at hl 0 rfl) ?_
        refine r_getr (C := RX6) (T := TX6) (N := 12) (k' := 1) S hK hw (kX_0 hG).1 (kX_0 hG).2 rfl hinX6 0 (by decide) (o := 1) rfl rfl (hts (.fieldLink RX6 10 "SoupByRank" "court" "LSoupByRank$Court;") (by decide +kernel)) rfl dX6_run_35 ?_
        obtain ⟨s_28, h_30, hg⟩ := bnV_e hg
        refine r_vV (As := [.ref (gAd G 1)]) (rest := []) S hA hK hw (c_X1_takeFrom l hG isCt_6 isCt_1 h_30) (cwV 1 hts gX6_run_X1_takeFrom rfl rfl rfl (by decide +kernel) ⟨Nat.le_of_ble_eq_true rfl, Nat.le_of_ble_eq_true rfl⟩) (r_recv hK hw (kX_6 hG).1 (kX_6 hG).2 rfl) rfl hl.1 (Nat.le_of_ble_eq_true rfl) dX6_run_38 ⟨Nat.zero_le _, Nat.zero_le _⟩ rfl (fun H locs hw => ?_)
        refine lv_iconst (v := 0) hx hb dX6_run_41 (by decide) ?_
        refine lv_istore (lv' := [(4, .int 0), (0, .ref (gAd G 0)), (1, .int a1), (2, .int a2), (3, .int a3)]) hx hb dX6_run_42 hl (by decide) rfl (fun ls hl => ?_)
        refine lv_iconst (v := 0) hx hb dX6_run_44 (by decide) ?_
        refine lv_istore (lv' := [(5, .int 0), (4, .int 0), (0, .ref (gAd G 0)), (1, .int a1), (2, .int a2), (3, .int a3)]) hx hb dX6_run_45 hl (by decide) rfl (fun ls hl => ?_)
        refine lv_iconst (v := 0) hx hb dX6_run_47 (by decide) ?_
        refine lv_istore (lv' := [(6, .int 0), (5, .int 0), (4, .int 0), (0, .ref (gAd G 0)), (1, .int a1), (2, .int a2), (3, .int a3)]) hx hb dX6_run_48 hl (by decide) rfl (fun ls hl => ?_)
        exact L50 a1 a2 a3 F _ _ _ _ _ _ _ hg hw (lv_sub hl [3, 4, 5, 6, 2, 1, 0] rfl)
      · have hg := it_p hg c_27
        refine lv_ldc (v := (-100000)) hx hb hown (hts (.constant RX6 179 (-100000)) (by decide +kernel)) dX6_run_27 ?_
        exact r_ireti S hr hlk hw.2.2.2.2 hw hg dX6_run_29
set_option maxHeartbeats 4000000 in
set_option maxRecDepth 100000 in
theorem c_X6_cook (l : Launch) {G : GW} {N : Nat} {ln : Nat → Nat} {cT cS : ClassId} (hG : isX G N ln cT cS) {F sz : Nat} {a1 : Int32} {σ σR : Sg} {r : Int32} (hg : g_X6_cook F N ln a1 σ = some (σR, r)) : Met l yX6_cook wsX6_cook ({ frames := 6, cells := 0, slots := 0, locals := 181 } : Room) (va_Pc [.ref (gAd G 0), .int a1] (PX G σ sz)) (QcI G (gA G sz) σR r) 0 0 (gA G sz) := by
  refine metX (by decide) rfl (Nat.le_of_ble_eq_true rfl) ?_
  intro p e s m args below meth c ls S hr hlk hsz hA hK hw hl hmn
  have S : CallFix p m c cX6_cook 3 s args wsX6_cook RX6 := S
  obtain ⟨hx, hb, hml, hown, hts⟩ := id S
  have hl : lv_has ls 3 [(0, .ref (gAd G 0)), (1, .int a1)] := hl
  have hinX1 : ∀ w ∈ wsX10, w ∈ wsX6_cook := by decide +kernel
  have hinX6 : ∀ w ∈ wsX60, w ∈ wsX6_cook := by decide +kernel
  have L35 : ∀ (v1 : Int32) (n35 : Nat) (v2 : Int32) (σ : Sg) (H : Heap) (locs : List Loc) (ls : Array Slot) (hg : g_X6_cook_l35 F N ln v1 n35 v2 σ = some (σR, r)) (hw : XD G (gA G sz) s.heap σ H locs) (hl : lv_has ls 3 [(0, .ref (gAd G 0)), (1, .int v1), (2, .int v2)]), W p l e (headSpec wsX6_cook ({ frames := 6, cells := 0, slots := 0, locals := 181 } : Room)).room s m args below meth c H locs 0 0 (MQ below (QcI G (gA G sz) σR r) args s 0 0 (gA G sz)) (F0 m 35 ls []) := by
    intro v1
    intro n35
    induction n35 with
    | zero => intro v2 σ H locs ls hg hw hl; exact no_e hg
    | succ n35 ih35 =>
      intro v2 σ H locs ls hg hw hl
      rw [g_X6_cook_l35] at hg
      refine lv_iload_n hx hb dX6_cook_35 rfl (lv_at hl 2 rfl) ?_
      refine lv_bipush (v := 99) hx hb dX6_cook_36 (by decide) ?_
      refine lv_icmp_gt (tgt := 71) hx hb dX6_cook_38 (by decide) (fun c_1 => ?_) (fun c_1 => ?_)
      · have hg := it_p hg c_1
        refine lv_aload_n hx hb dX6_cook_71 rfl (lv_at hl 0 rfl) ?_
        refine r_getr (C := RX6) (T := TX6) (N := 12) (k' := 25) S hK hw (kX_0 hG).1 (kX_0 hG).2 rfl hinX6 5 (by decide) (o := 25) rfl rfl (hts (.fieldLink RX6 32 "SoupByRank" "best" "LSoupByRank$Best;") (by decide +kernel)) rfl dX6_cook_72 ?_
        refine lv_iload_n hx hb dX6_cook_75 rfl (lv_at hl 1 rfl) ?_
        obtain ⟨s_2, x_3, h_4, hg⟩ := bnI_e hg
        refine r_iV (As := [.int v1]) (rest := []) S hA hK hw (c_X0_answer l hG  h_4) (cwV 1 hts gX6_cook_X0_answer rfl rfl rfl (by decide +kernel) ⟨Nat.le_of_ble_eq_true rfl, Nat.le_of_ble_eq_true rfl⟩) (r_recv hK hw (kX_25 hG).1 (kX_25 hG).2 rfl) rfl hl.1 (Nat.le_of_ble_eq_true rfl) dX6_cook_76 ⟨Nat.zero_le _, Nat.zero_le _⟩ rfl (fun H locs hw => ?_)
        exact r_ireti S hr hlk hw.2.2.2.2 hw hg dX6_cook_79
      · have hg := it_n hg c_1
        refine lv_aload_n hx hb dX6_cook_41 rfl (lv_at hl 0 rfl) ?_
        refine r_getr (C := RX6) (T := TX6) (N := 12) (k' := 6) S hK hw (kX_0 hG).1 (kX_0 hG).2 rfl hinX6 1 (by decide) (o := 6) rfl rfl (hts (.fieldLink RX6 16 "SoupByRank" "thought" "LSoupByRank$Court;") (by decide +kernel)) rfl dX6_cook_42 ?_
        refine lv_iload_n hx hb dX6_cook_45 rfl (lv_at hl 2 rfl) ?_
        obtain ⟨s_5, e_6, hg⟩ := wrF_e hg
        refine r_putN (C := RX1) (T := TX1) (N := 9) (host := RX6) S hK hw (kX_6 hG).1 (kX_6 hG).2 rfl hinX1 tyX1_ok nmX1 2 (by decide) rfl rfl rfl rfl (by decide +kernel) rfl e_6 dX6_cook_46 (fun H locs hw => ?_)
        refine lv_aload_n hx hb dX6_cook_49 rfl (lv_at hl 0 rfl) ?_
        refine r_getr (C := RX6) (T := TX6) (N := 12) (k' := 25) S hK hw (kX_0 hG).1 (kX_0 hG).2 rfl hinX6 5 (by decide) (o := 25) rfl rfl (hts (.fieldLink RX6 32 "SoupByRank" "best" "LSoupByRank$Best;") (by decide +kernel)) rfl dX6_cook_50 ?_
        refine lv_iload_n hx hb dX6_cook_53 rfl (lv_at hl 2 rfl) ?_
        refine lv_aload_n hx hb dX6_cook_54 rfl (lv_at hl 0 rfl) ?_
        refine lv_aload_n hx hb dX6_cook_55 rfl (lv_at hl 0 rfl) ?_
        refine r_getr (C := RX6) (T := TX6) (N := 12) (k' := 6) S hK hw (kX_0 hG).1 (kX_0 hG).2 rfl hinX6 1 (by decide) (o := 6) rfl rfl (hts (.fieldLink RX6 16 "SoupByRank" "thought" "LSoupByRank$Court;") (by decide +kernel)) rfl dX6_cook_56 ?_
        obtain ⟨s_7, x_8, h_9, hg⟩ := bnI_e hg
        refine r_iV (As := [.ref (gAd G 6)]) (rest := [.int v2, .ref (gAd G 25)]) S hA hK hw (c_X6_serve l hG isCt_6 h_9) (cwV 1 hts gX6_cook_X6_serve rfl rfl rfl (by decide +kernel) ⟨Nat.le_of_ble_eq_true rfl, Nat.le_of_ble_eq_true rfl⟩) (r_recv hK hw (kX_0 hG).1 (kX_0 hG).2 rfl) rfl hl.1 (Nat.le_of_ble_eq_true rfl) dX6_cook_59 ⟨Nat.zero_le _, Nat.zero_le _⟩ rfl (fun H locs hw => ?_)
        obtain ⟨s_10, h_12, hg⟩ := bnV_e hg
        refine r_vV (As := [.int v2, .int x_8]) (rest := []) S hA hK hw (c_X0_weigh l hG  h_12) (cwV 2 hts gX6_cook_X0_weigh rfl rfl rfl (by decide +kernel) ⟨Nat.le_of_ble_eq_true rfl, Nat.le_of_ble_eq_true rfl⟩) (r_recv hK hw (kX_25 hG).1 (kX_25 hG).2 rfl) rfl hl.1 (Nat.le_of_ble_eq_true rfl) dX6_cook_62 ⟨Nat.zero_le _, Nat.zero_le _⟩ rfl (fun H locs hw => ?_)
        refine lv_iinc (v := (v2 + 1)) (lv' := [(2, .int (v2 + 1)), (0, .ref (gAd G 0)), (1, .int v1)]) hx hb dX6_cook_65 hl (k := 2) rfl rfl (by decide) rfl (fun ls hl => ?_)
        refine lv_goto (tgt := 35) hx hb dX6_cook_68 (by decide) ?_
        exact ih35 _ _ _ _ _ hg hw (lv_sub hl [1, 2, 0] rfl)
  rw [g_X6_cook] at hg
  refine lv_iload_n hx hb dX6_cook_0 rfl (lv_at hl 1 rfl) ?_
  refine lv_iconst (v := 0) hx hb dX6_cook_1 (by decide) ?_
  refine lv_iconst (v := 1) hx hb dX6_cook_2 (by decide) ?_
  obtain ⟨s_13, x_14, h_15, hg⟩ := bnI_e hg
  refine r_iS (As := [.int a1, .int 0, .int 1]) (rest := []) S hA hK hw (c_X6_isWithin l hG  h_15) (va_cwS 3 hts gX6_cook_X6_isWithin rfl rfl rfl (by decide +kernel) ⟨Nat.le_of_ble_eq_true rfl, Nat.le_of_ble_eq_true rfl⟩) rfl hl.1 (Nat.le_of_ble_eq_true rfl) dX6_cook_3 ⟨Nat.zero_le _, Nat.zero_le _⟩ rfl (fun H locs hw => ?_)
  refine lv_if_ne (tgt := 12) hx hb dX6_cook_6 (by decide) (fun c_16 => ?_) (fun c_16 => ?_)
  · have hg := it_n hg c_16
    refine lv_aload_n hx hb dX6_cook_12 rfl (lv_at hl 0 rfl) ?_
    refine r_getr (C := RX6) (T := TX6) (N := 12) (k' := 6) S hK hw (kX_0 hG).1 (kX_0 hG).2 rfl hinX6 1 (by decide) (o := 6) rfl rfl (hts (.fieldLink RX6 16 "SoupByRank" "thought" "LSoupByRank$Court;") (by decide +kernel)) rfl dX6_cook_13 ?_
    refine lv_aload_n hx hb dX6_cook_16 rfl (lv_at hl 0 rfl) ?_
    refine r_getr (C := RX6) (T := TX6) (N := 12) (k' := 1) S hK hw (kX_0 hG).1 (kX_0 hG).2 rfl hinX6 0 (by decide) (o := 1) rfl rfl (hts (.fieldLink RX6 10 "SoupByRank" "court" "LSoupByRank$Court;") (by decide +kernel)) rfl dX6_cook_17 ?_
    obtain ⟨s_17, h_19, hg⟩ := bnV_e hg
    refine r_vV (As := [.ref (gAd G 1)]) (rest := []) S hA hK hw (c_X1_takeFrom l hG isCt_6 isCt_1 h_19) (cwV 1 hts gX6_cook_X1_takeFrom rfl rfl rfl (by decide +kernel) ⟨Nat.le_of_ble_eq_true rfl, Nat.le_of_ble_eq_true rfl⟩) (r_recv hK hw (kX_6 hG).1 (kX_6 hG).2 rfl) rfl hl.1 (Nat.le_of_ble_eq_true rfl) dX6_cook_20 ⟨Nat.zero_le _, Nat.zero_le _⟩ rfl (fun H locs hw => ?_)
    refine lv_aload_n hx hb dX6_cook_23 rfl (lv_at hl 0 rfl) ?_
    refine r_getr (C := RX6) (T := TX6) (N := 12) (k' := 25) S hK hw (kX_0 hG).1 (kX_0 hG).2 rfl hinX6 5 (by decide) (o := 25) rfl rfl (hts (.fieldLink RX6 32 "SoupByRank" "best" "LSoupByRank$Best;") (by decide +kernel)) rfl dX6_cook_24 ?_
    refine lv_iconst (v := 0) hx hb dX6_cook_27 (by decide) ?_
    refine lv_ldc (v := 1000000) hx hb hown (hts (.constant RX6 191 (1000000)) (by decide +kernel)) dX6_cook_28 ?_
    obtain ⟨s_20, h_22, hg⟩ := bnV_e hg
    refine r_vV (As := [.int 0, .int 1000000]) (rest := []) S hA hK hw (c_X0_begin l hG  h_22) (cwV 2 hts gX6_cook_X0_begin rfl rfl rfl (by decide +kernel) ⟨Nat.le_of_ble_eq_true rfl, Nat.le_of_ble_eq_true rfl⟩) (r_recv hK hw (kX_25 hG).1 (kX_25 hG).2 rfl) rfl hl.1 (Nat.le_of_ble_eq_true rfl) dX6_cook_30 ⟨Nat.zero_le _, Nat.zero_le _⟩ rfl (fun H locs hw => ?_)
    refine lv_iconst (v := 0) hx hb dX6_cook_33 (by decide) ?_
    refine lv_istore_n (lv' := [(2, .int 0), (0, .ref (gAd G 0)), (1, .int a1)]) hx hb dX6_cook_34 rfl hl (by decide) rfl (fun ls hl => ?_)
    exact L35 a1 F _ _ _ _ _ hg hw (lv_sub hl [1, 2, 0] rfl)
  · have hg := it_p hg c_16
    refine lv_ldc (v := (-100000)) hx hb hown (hts (.constant RX6 179 (-100000)) (by decide +kernel)) dX6_cook_9 ?_
    exact r_ireti S hr hlk hw.2.2.2.2 hw hg dX6_cook_11
set_option maxHeartbeats 4000000 in
set_option maxRecDepth 100000 in
theorem c_X6_raise (l : Launch) {G : GW} {N : Nat} {ln : Nat → Nat} {cT cS : ClassId} (hG : isX G N ln cT cS) {F sz : Nat} {a1 : Int32} {σ σR : Sg} {r : Int32} (hg : g_X6_raise F N ln a1 σ = some (σR, r)) : Met l yX6_raise wsX6_raise ({ frames := 6, cells := 0, slots := 0, locals := 181 } : Room) (va_Pc [.ref (gAd G 0), .int a1] (PX G σ sz)) (QcI G (gA G sz) σR r) 0 0 (gA G sz) := by
  refine metX (by decide) rfl (Nat.le_of_ble_eq_true rfl) ?_
  intro p e s m args below meth c ls S hr hlk hsz hA hK hw hl hmn
  have S : CallFix p m c cX6_raise 4 s args wsX6_raise RX6 := S
  obtain ⟨hx, hb, hml, hown, hts⟩ := id S
  have hl : lv_has ls 4 [(0, .ref (gAd G 0)), (1, .int a1)] := hl
  have hinX1 : ∀ w ∈ wsX10, w ∈ wsX6_raise := by decide +kernel
  have hinX6 : ∀ w ∈ wsX60, w ∈ wsX6_raise := by decide +kernel
  have L41 : ∀ (v1 : Int32) (n41 : Nat) (v2 : Int32) (σ : Sg) (H : Heap) (locs : List Loc) (ls : Array Slot) (hg : g_X6_raise_l41 F N ln v1 n41 v2 σ = some (σR, r)) (hw : XD G (gA G sz) s.heap σ H locs) (hl : lv_has ls 4 [(0, .ref (gAd G 0)), (1, .int v1), (2, .int v2)]), W p l e (headSpec wsX6_raise ({ frames := 6, cells := 0, slots := 0, locals := 181 } : Room)).room s m args below meth c H locs 0 0 (MQ below (QcI G (gA G sz) σR r) args s 0 0 (gA G sz)) (F0 m 41 ls []) := by
    intro v1
    intro n41
    induction n41 with
    | zero => intro v2 σ H locs ls hg hw hl; exact no_e hg
    | succ n41 ih41 =>
      have L56 : ∀ (v2 : Int32) (n56 : Nat) (v3 : Int32) (σ : Sg) (H : Heap) (locs : List Loc) (ls : Array Slot) (hg : g_X6_raise_l56 F N ln (fun v2_ σ_ => g_X6_raise_l41 F N ln v1 n41 v2_ σ_) v1 v2 n56 v3 σ = some (σR, r)) (hw : XD G (gA G sz) s.heap σ H locs) (hl : lv_has ls 4 [(0, .ref (gAd G 0)), (1, .int v1), (2, .int v2), (3, .int v3)]), W p l e (headSpec wsX6_raise ({ frames := 6, cells := 0, slots := 0, locals := 181 } : Room)).room s m args below meth c H locs 0 0 (MQ below (QcI G (gA G sz) σR r) args s 0 0 (gA G sz)) (F0 m 56 ls []) := by
        intro v2
        intro n56
        induction n56 with
        | zero => intro v3 σ H locs ls hg hw hl; exact no_e hg
        | succ n56 ih56 =>
          intro v3 σ H locs ls hg hw hl
          rw [g_X6_raise_l56] at hg
          refine lv_iload_n hx hb dX6_raise_56 rfl (lv_at hl 3 rfl) ?_
          refine lv_aload_n hx hb dX6_raise_57 rfl (lv_at hl 0 rfl) ?_
          refine r_getr (C := RX6) (T := TX6) (N := 12) (k' := 1) S hK hw (kX_0 hG).1 (kX_0 hG).2 rfl hinX6 0 (by decide) (o := 1) rfl rfl (hts (.fieldLink RX6 10 "SoupByRank" "court" "LSoupByRank$Court;") (by decide +kernel)) rfl dX6_raise_58 ?_
          refine r_getN (C := RX1) (T := TX1) (N := 9) (host := RX6) S hK hw (kX_1 hG).1 (kX_1 hG).2 rfl hinX1 0 (by decide) rfl (by decide +kernel) rfl dX6_raise_61 ?_
          refine lv_icmp_ge (tgt := 112) hx hb dX6_raise_64 (by decide) (fun c_1 => ?_) (fun c_1 => ?_)
          · have hg := it_p hg c_1
            refine lv_iinc (v := (v2 + 1)) (lv' := [(2, .int (v2 + 1)), (0, .ref (gAd G 0)), (1, .int v1), (3, .int v3)]) hx hb dX6_raise_112 hl (k := 2) rfl rfl (by decide) rfl (fun ls hl => ?_)
            refine lv_goto (tgt := 41) hx hb dX6_raise_115 (by decide) ?_
            exact ih41 _ _ _ _ _ hg hw (lv_sub hl [1, 2, 0] rfl)
          · have hg := it_n hg c_1
            refine lv_aload_n hx hb dX6_raise_67 rfl (lv_at hl 0 rfl) ?_
            refine r_getr (C := RX6) (T := TX6) (N := 12) (k' := 6) S hK hw (kX_0 hG).1 (kX_0 hG).2 rfl hinX6 1 (by decide) (o := 6) rfl rfl (hts (.fieldLink RX6 16 "SoupByRank" "thought" "LSoupByRank$Court;") (by decide +kernel)) rfl dX6_raise_68 ?_
            refine lv_iload_n hx hb dX6_raise_71 rfl (lv_at hl 2 rfl) ?_
            refine lv_iload_n hx hb dX6_raise_72 rfl (lv_at hl 3 rfl) ?_
            obtain ⟨s_2, h_4, hg⟩ := bnV_e hg
            refine r_vV (As := [.int v2, .int v3]) (rest := []) S hA hK hw (c_X1_changeRanks l hG isCt_6 h_4) (cwV 2 hts gX6_raise_X1_changeRanks rfl rfl rfl (by decide +kernel) ⟨Nat.le_of_ble_eq_true rfl, Nat.le_of_ble_eq_true rfl⟩) (r_recv hK hw (kX_6 hG).1 (kX_6 hG).2 rfl) rfl hl.1 (Nat.le_of_ble_eq_true rfl) dX6_raise_73 ⟨Nat.zero_le _, Nat.zero_le _⟩ rfl (fun H locs hw => ?_)
            refine lv_aload_n hx hb dX6_raise_76 rfl (lv_at hl 0 rfl) ?_
            refine r_getr (C := RX6) (T := TX6) (N := 12) (k' := 25) S hK hw (kX_0 hG).1 (kX_0 hG).2 rfl hinX6 5 (by decide) (o := 25) rfl rfl (hts (.fieldLink RX6 32 "SoupByRank" "best" "LSoupByRank$Best;") (by decide +kernel)) rfl dX6_raise_77 ?_
            refine lv_bipush (v := 10) hx hb dX6_raise_80 (by decide) ?_
            refine lv_iload_n hx hb dX6_raise_82 rfl (lv_at hl 2 rfl) ?_
            refine lv_imul hx hb dX6_raise_83 ?_
            refine lv_iload_n hx hb dX6_raise_84 rfl (lv_at hl 3 rfl) ?_
            refine lv_iadd hx hb dX6_raise_85 ?_
            refine lv_aload_n hx hb dX6_raise_86 rfl (lv_at hl 0 rfl) ?_
            refine lv_aload_n hx hb dX6_raise_87 rfl (lv_at hl 0 rfl) ?_
            refine r_getr (C := RX6) (T := TX6) (N := 12) (k' := 6) S hK hw (kX_0 hG).1 (kX_0 hG).2 rfl hinX6 1 (by decide) (o := 6) rfl rfl (hts (.fieldLink RX6 16 "SoupByRank" "thought" "LSoupByRank$Court;") (by decide +kernel)) rfl dX6_raise_88 ?_
            obtain ⟨s_5, x_6, h_7, hg⟩ := bnI_e hg
            refine r_iV (As := [.ref (gAd G 6)]) (rest := [.int ((10 * v2) + v3), .ref (gAd G 25)]) S hA hK hw (c_X6_serve l hG isCt_6 h_7) (cwV 1 hts gX6_raise_X6_serve rfl rfl rfl (by decide +kernel) ⟨Nat.le_of_ble_eq_true rfl, Nat.le_of_ble_eq_true rfl⟩) (r_recv hK hw (kX_0 hG).1 (kX_0 hG).2 rfl) rfl hl.1 (Nat.le_of_ble_eq_true rfl) dX6_raise_91 ⟨Nat.zero_le _, Nat.zero_le _⟩ rfl (fun H locs hw => ?_)
            obtain ⟨s_8, h_10, hg⟩ := bnV_e hg
            refine r_vV (As := [.int ((10 * v2) + v3), .int x_6]) (rest := []) S hA hK hw (c_X0_weigh l hG  h_10) (cwV 2 hts gX6_raise_X0_weigh rfl rfl rfl (by decide +kernel) ⟨Nat.le_of_ble_eq_true rfl, Nat.le_of_ble_eq_true rfl⟩) (r_recv hK hw (kX_25 hG).1 (kX_25 hG).2 rfl) rfl hl.1 (Nat.le_of_ble_eq_true rfl) dX6_raise_94 ⟨Nat.zero_le _, Nat.zero_le _⟩ rfl (fun H locs hw => ?_)
            refine lv_aload_n hx hb dX6_raise_97 rfl (lv_at hl 0 rfl) ?_
            refine r_getr (C := RX6) (T := TX6) (N := 12) (k' := 6) S hK hw (kX_0 hG).1 (kX_0 hG).2 rfl hinX6 1 (by decide) (o := 6) rfl rfl (hts (.fieldLink RX6 16 "SoupByRank" "thought" "LSoupByRank$Court;") (by decide +kernel)) rfl dX6_raise_98 ?_
            refine lv_iload_n hx hb dX6_raise_101 rfl (lv_at hl 2 rfl) ?_
            refine lv_iload_n hx hb dX6_raise_102 rfl (lv_at hl 3 rfl) ?_
            obtain ⟨s_11, h_13, hg⟩ := bnV_e hg
            refine r_vV (As := [.int v2, .int v3]) (rest := []) S hA hK hw (c_X1_changeRanks l hG isCt_6 h_13) (cwV 2 hts gX6_raise_X1_changeRanks rfl rfl rfl (by decide +kernel) ⟨Nat.le_of_ble_eq_true rfl, Nat.le_of_ble_eq_true rfl⟩) (r_recv hK hw (kX_6 hG).1 (kX_6 hG).2 rfl) rfl hl.1 (Nat.le_of_ble_eq_true rfl) dX6_raise_103 ⟨Nat.zero_le _, Nat.zero_le _⟩ rfl (fun H locs hw => ?_)
            refine lv_iinc (v := (v3 + 1)) (lv' := [(3, .int (v3 + 1)), (0, .ref (gAd G 0)), (1, .int v1), (2, .int v2)]) hx hb dX6_raise_106 hl (k := 3) rfl rfl (by decide) rfl (fun ls hl => ?_)
            refine lv_goto (tgt := 56) hx hb dX6_raise_109 (by decide) ?_
            exact ih56 _ _ _ _ _ hg hw (lv_sub hl [1, 2, 3, 0] rfl)
      intro v2 σ H locs ls hg hw hl
      rw [g_X6_raise_l41] at hg
      refine lv_iload_n hx hb dX6_raise_41 rfl (lv_at hl 2 rfl) ?_
      refine lv_aload_n hx hb dX6_raise_42 rfl (lv_at hl 0 rfl) ?_
      refine r_getr (C := RX6) (T := TX6) (N := 12) (k' := 1) S hK hw (kX_0 hG).1 (kX_0 hG).2 rfl hinX6 0 (by decide) (o := 1) rfl rfl (hts (.fieldLink RX6 10 "SoupByRank" "court" "LSoupByRank$Court;") (by decide +kernel)) rfl dX6_raise_43 ?_
      refine r_getN (C := RX1) (T := TX1) (N := 9) (host := RX6) S hK hw (kX_1 hG).1 (kX_1 hG).2 rfl hinX1 0 (by decide) rfl (by decide +kernel) rfl dX6_raise_46 ?_
      refine lv_icmp_ge (tgt := 118) hx hb dX6_raise_49 (by decide) (fun c_14 => ?_) (fun c_14 => ?_)
      · have hg := it_p hg c_14
        refine lv_aload_n hx hb dX6_raise_118 rfl (lv_at hl 0 rfl) ?_
        refine r_getr (C := RX6) (T := TX6) (N := 12) (k' := 25) S hK hw (kX_0 hG).1 (kX_0 hG).2 rfl hinX6 5 (by decide) (o := 25) rfl rfl (hts (.fieldLink RX6 32 "SoupByRank" "best" "LSoupByRank$Best;") (by decide +kernel)) rfl dX6_raise_119 ?_
        refine lv_iload_n hx hb dX6_raise_122 rfl (lv_at hl 1 rfl) ?_
        obtain ⟨s_15, x_16, h_17, hg⟩ := bnI_e hg
        refine r_iV (As := [.int v1]) (rest := []) S hA hK hw (c_X0_answer l hG  h_17) (cwV 1 hts gX6_raise_X0_answer rfl rfl rfl (by decide +kernel) ⟨Nat.le_of_ble_eq_true rfl, Nat.le_of_ble_eq_true rfl⟩) (r_recv hK hw (kX_25 hG).1 (kX_25 hG).2 rfl) rfl hl.1 (Nat.le_of_ble_eq_true rfl) dX6_raise_123 ⟨Nat.zero_le _, Nat.zero_le _⟩ rfl (fun H locs hw => ?_)
        exact r_ireti S hr hlk hw.2.2.2.2 hw hg dX6_raise_126
      · have hg := it_n hg c_14
        refine lv_iload_n hx hb dX6_raise_52 rfl (lv_at hl 2 rfl) ?_
        refine lv_iconst (v := 1) hx hb dX6_raise_53 (by decide) ?_
        refine lv_iadd hx hb dX6_raise_54 ?_
        refine lv_istore_n (lv' := [(3, .int (v2 + 1)), (0, .ref (gAd G 0)), (1, .int v1), (2, .int v2)]) hx hb dX6_raise_55 rfl hl (by decide) rfl (fun ls hl => ?_)
        exact L56 v2 F _ _ _ _ _ hg hw (lv_sub hl [1, 2, 3, 0] rfl)
  rw [g_X6_raise] at hg
  refine lv_iload_n hx hb dX6_raise_0 rfl (lv_at hl 1 rfl) ?_
  refine lv_iconst (v := 0) hx hb dX6_raise_1 (by decide) ?_
  refine lv_iconst (v := 1) hx hb dX6_raise_2 (by decide) ?_
  obtain ⟨s_18, x_19, h_20, hg⟩ := bnI_e hg
  refine r_iS (As := [.int a1, .int 0, .int 1]) (rest := []) S hA hK hw (c_X6_isWithin l hG  h_20) (va_cwS 3 hts gX6_raise_X6_isWithin rfl rfl rfl (by decide +kernel) ⟨Nat.le_of_ble_eq_true rfl, Nat.le_of_ble_eq_true rfl⟩) rfl hl.1 (Nat.le_of_ble_eq_true rfl) dX6_raise_3 ⟨Nat.zero_le _, Nat.zero_le _⟩ rfl (fun H locs hw => ?_)
  refine lv_if_ne (tgt := 12) hx hb dX6_raise_6 (by decide) (fun c_21 => ?_) (fun c_21 => ?_)
  · have hg := it_n hg c_21
    refine lv_aload_n hx hb dX6_raise_12 rfl (lv_at hl 0 rfl) ?_
    refine r_getr (C := RX6) (T := TX6) (N := 12) (k' := 6) S hK hw (kX_0 hG).1 (kX_0 hG).2 rfl hinX6 1 (by decide) (o := 6) rfl rfl (hts (.fieldLink RX6 16 "SoupByRank" "thought" "LSoupByRank$Court;") (by decide +kernel)) rfl dX6_raise_13 ?_
    refine lv_aload_n hx hb dX6_raise_16 rfl (lv_at hl 0 rfl) ?_
    refine r_getr (C := RX6) (T := TX6) (N := 12) (k' := 1) S hK hw (kX_0 hG).1 (kX_0 hG).2 rfl hinX6 0 (by decide) (o := 1) rfl rfl (hts (.fieldLink RX6 10 "SoupByRank" "court" "LSoupByRank$Court;") (by decide +kernel)) rfl dX6_raise_17 ?_
    obtain ⟨s_22, h_24, hg⟩ := bnV_e hg
    refine r_vV (As := [.ref (gAd G 1)]) (rest := []) S hA hK hw (c_X1_takeFrom l hG isCt_6 isCt_1 h_24) (cwV 1 hts gX6_raise_X1_takeFrom rfl rfl rfl (by decide +kernel) ⟨Nat.le_of_ble_eq_true rfl, Nat.le_of_ble_eq_true rfl⟩) (r_recv hK hw (kX_6 hG).1 (kX_6 hG).2 rfl) rfl hl.1 (Nat.le_of_ble_eq_true rfl) dX6_raise_20 ⟨Nat.zero_le _, Nat.zero_le _⟩ rfl (fun H locs hw => ?_)
    refine lv_aload_n hx hb dX6_raise_23 rfl (lv_at hl 0 rfl) ?_
    refine r_getr (C := RX6) (T := TX6) (N := 12) (k' := 25) S hK hw (kX_0 hG).1 (kX_0 hG).2 rfl hinX6 5 (by decide) (o := 25) rfl rfl (hts (.fieldLink RX6 32 "SoupByRank" "best" "LSoupByRank$Best;") (by decide +kernel)) rfl dX6_raise_24 ?_
    refine lv_iconst (v := (-1)) hx hb dX6_raise_27 (by decide) ?_
    refine lv_aload_n hx hb dX6_raise_28 rfl (lv_at hl 0 rfl) ?_
    refine lv_aload_n hx hb dX6_raise_29 rfl (lv_at hl 0 rfl) ?_
    refine r_getr (C := RX6) (T := TX6) (N := 12) (k' := 1) S hK hw (kX_0 hG).1 (kX_0 hG).2 rfl hinX6 0 (by decide) (o := 1) rfl rfl (hts (.fieldLink RX6 10 "SoupByRank" "court" "LSoupByRank$Court;") (by decide +kernel)) rfl dX6_raise_30 ?_
    obtain ⟨s_25, x_26, h_27, hg⟩ := bnI_e hg
    refine r_iV (As := [.ref (gAd G 1)]) (rest := [.int (-1), .ref (gAd G 25)]) S hA hK hw (c_X6_serve l hG isCt_1 h_27) (cwV 1 hts gX6_raise_X6_serve rfl rfl rfl (by decide +kernel) ⟨Nat.le_of_ble_eq_true rfl, Nat.le_of_ble_eq_true rfl⟩) (r_recv hK hw (kX_0 hG).1 (kX_0 hG).2 rfl) rfl hl.1 (Nat.le_of_ble_eq_true rfl) dX6_raise_33 ⟨Nat.zero_le _, Nat.zero_le _⟩ rfl (fun H locs hw => ?_)
    obtain ⟨s_28, h_30, hg⟩ := bnV_e hg
    refine r_vV (As := [.int (-1), .int x_26]) (rest := []) S hA hK hw (c_X0_begin l hG  h_30) (cwV 2 hts gX6_raise_X0_begin rfl rfl rfl (by decide +kernel) ⟨Nat.le_of_ble_eq_true rfl, Nat.le_of_ble_eq_true rfl⟩) (r_recv hK hw (kX_25 hG).1 (kX_25 hG).2 rfl) rfl hl.1 (Nat.le_of_ble_eq_true rfl) dX6_raise_36 ⟨Nat.zero_le _, Nat.zero_le _⟩ rfl (fun H locs hw => ?_)
    refine lv_iconst (v := 0) hx hb dX6_raise_39 (by decide) ?_
    refine lv_istore_n (lv' := [(2, .int 0), (0, .ref (gAd G 0)), (1, .int a1)]) hx hb dX6_raise_40 rfl hl (by decide) rfl (fun ls hl => ?_)
    exact L41 a1 F _ _ _ _ _ hg hw (lv_sub hl [1, 2, 0] rfl)
  · have hg := it_p hg c_21
    refine lv_ldc (v := (-100000)) hx hb hown (hts (.constant RX6 179 (-100000)) (by decide +kernel)) dX6_raise_9 ?_
    exact r_ireti S hr hlk hw.2.2.2.2 hw hg dX6_raise_11
set_option maxHeartbeats 4000000 in
set_option maxRecDepth 100000 in
theorem c_X6_exile (l : Launch) {G : GW} {N : Nat} {ln : Nat → Nat} {cT cS : ClassId} (hG : isX G N ln cT cS) {F sz : Nat} {a1 : Int32} {σ σR : Sg} {r : Int32} (hg : g_X6_exile F N ln a1 σ = some (σR, r)) : Met l yX6_exile wsX6_exile ({ frames := 6, cells := 0, slots := 0, locals := 181 } : Room) (va_Pc [.ref (gAd G 0), .int a1] (PX G σ sz)) (QcI G (gA G sz) σR r) 0 0 (gA G sz) := by
  refine metX (by decide) rfl (Nat.le_of_ble_eq_true rfl) ?_
  intro p e s m args below meth c ls S hr hlk hsz hA hK hw hl hmn
  have S : CallFix p m c cX6_exile 3 s args wsX6_exile RX6 := S
  obtain ⟨hx, hb, hml, hown, hts⟩ := id S
  have hl : lv_has ls 3 [(0, .ref (gAd G 0)), (1, .int a1)] := hl
  have hinX1 : ∀ w ∈ wsX10, w ∈ wsX6_exile := by decide +kernel
  have hinX6 : ∀ w ∈ wsX60, w ∈ wsX6_exile := by decide +kernel
  have L41 : ∀ (v1 : Int32) (n41 : Nat) (v2 : Int32) (σ : Sg) (H : Heap) (locs : List Loc) (ls : Array Slot) (hg : g_X6_exile_l41 F N ln v1 n41 v2 σ = some (σR, r)) (hw : XD G (gA G sz) s.heap σ H locs) (hl : lv_has ls 3 [(0, .ref (gAd G 0)), (1, .int v1), (2, .int v2)]), W p l e (headSpec wsX6_exile ({ frames := 6, cells := 0, slots := 0, locals := 181 } : Room)).room s m args below meth c H locs 0 0 (MQ below (QcI G (gA G sz) σR r) args s 0 0 (gA G sz)) (F0 m 41 ls []) := by
    intro v1
    intro n41
    induction n41 with
    | zero => intro v2 σ H locs ls hg hw hl; exact no_e hg
    | succ n41 ih41 =>
      intro v2 σ H locs ls hg hw hl
      rw [g_X6_exile_l41] at hg
      refine lv_iload_n hx hb dX6_exile_41 rfl (lv_at hl 2 rfl) ?_
      refine lv_aload_n hx hb dX6_exile_42 rfl (lv_at hl 0 rfl) ?_
      refine r_getr (C := RX6) (T := TX6) (N := 12) (k' := 1) S hK hw (kX_0 hG).1 (kX_0 hG).2 rfl hinX6 0 (by decide) (o := 1) rfl rfl (hts (.fieldLink RX6 10 "SoupByRank" "court" "LSoupByRank$Court;") (by decide +kernel)) rfl dX6_exile_43 ?_
      refine r_getN (C := RX1) (T := TX1) (N := 9) (host := RX6) S hK hw (kX_1 hG).1 (kX_1 hG).2 rfl hinX1 0 (by decide) rfl (by decide +kernel) rfl dX6_exile_46 ?_
      refine lv_icmp_ge (tgt := 82) hx hb dX6_exile_49 (by decide) (fun c_1 => ?_) (fun c_1 => ?_)
      · have hg := it_p hg c_1
        refine lv_aload_n hx hb dX6_exile_82 rfl (lv_at hl 0 rfl) ?_
        refine r_getr (C := RX6) (T := TX6) (N := 12) (k' := 25) S hK hw (kX_0 hG).1 (kX_0 hG).2 rfl hinX6 5 (by decide) (o := 25) rfl rfl (hts (.fieldLink RX6 32 "SoupByRank" "best" "LSoupByRank$Best;") (by decide +kernel)) rfl dX6_exile_83 ?_
        refine lv_iload_n hx hb dX6_exile_86 rfl (lv_at hl 1 rfl) ?_
        obtain ⟨s_2, x_3, h_4, hg⟩ := bnI_e hg
        refine r_iV (As := [.int v1]) (rest := []) S hA hK hw (c_X0_answer l hG  h_4) (cwV 1 hts gX6_exile_X0_answer rfl rfl rfl (by decide +kernel) ⟨Nat.le_of_ble_eq_true rfl, Nat.le_of_ble_eq_true rfl⟩) (r_recv hK hw (kX_25 hG).1 (kX_25 hG).2 rfl) rfl hl.1 (Nat.le_of_ble_eq_true rfl) dX6_exile_87 ⟨Nat.zero_le _, Nat.zero_le _⟩ rfl (fun H locs hw => ?_)
        exact r_ireti S hr hlk hw.2.2.2.2 hw hg dX6_exile_90
      · have hg := it_n hg c_1
        refine lv_aload_n hx hb dX6_exile_52 rfl (lv_at hl 0 rfl) ?_
        refine r_getr (C := RX6) (T := TX6) (N := 12) (k' := 6) S hK hw (kX_0 hG).1 (kX_0 hG).2 rfl hinX6 1 (by decide) (o := 6) rfl rfl (hts (.fieldLink RX6 16 "SoupByRank" "thought" "LSoupByRank$Court;") (by decide +kernel)) rfl dX6_exile_53 ?_
        refine lv_iload_n hx hb dX6_exile_56 rfl (lv_at hl 2 rfl) ?_
        obtain ⟨s_5, e_6, hg⟩ := wrF_e hg
        refine r_putN (C := RX1) (T := TX1) (N := 9) (host := RX6) S hK hw (kX_6 hG).1 (kX_6 hG).2 rfl hinX1 tyX1_ok nmX1 4 (by decide) rfl rfl rfl rfl (by decide +kernel) rfl e_6 dX6_exile_57 (fun H locs hw => ?_)
        refine lv_aload_n hx hb dX6_exile_60 rfl (lv_at hl 0 rfl) ?_
        refine r_getr (C := RX6) (T := TX6) (N := 12) (k' := 25) S hK hw (kX_0 hG).1 (kX_0 hG).2 rfl hinX6 5 (by decide) (o := 25) rfl rfl (hts (.fieldLink RX6 32 "SoupByRank" "best" "LSoupByRank$Best;") (by decide +kernel)) rfl dX6_exile_61 ?_
        refine lv_iload_n hx hb dX6_exile_64 rfl (lv_at hl 2 rfl) ?_
        refine lv_aload_n hx hb dX6_exile_65 rfl (lv_at hl 0 rfl) ?_
        refine lv_aload_n hx hb dX6_exile_66 rfl (lv_at hl 0 rfl) ?_
        refine r_getr (C := RX6) (T := TX6) (N := 12) (k' := 6) S hK hw (kX_0 hG).1 (kX_0 hG).2 rfl hinX6 1 (by decide) (o := 6) rfl rfl (hts (.fieldLink RX6 16 "SoupByRank" "thought" "LSoupByRank$Court;") (by decide +kernel)) rfl dX6_exile_67 ?_
        obtain ⟨s_7, x_8, h_9, hg⟩ := bnI_e hg
        refine r_iV (As := [.ref (gAd G 6)]) (rest := [.int v2, .ref (gAd G 25)]) S hA hK hw (c_X6_serve l hG isCt_6 h_9) (cwV 1 hts gX6_exile_X6_serve rfl rfl rfl (by decide +kernel) ⟨Nat.le_of_ble_eq_true rfl, Nat.le_of_ble_eq_true rfl⟩) (r_recv hK hw (kX_0 hG).1 (kX_0 hG).2 rfl) rfl hl.1 (Nat.le_of_ble_eq_true rfl) dX6_exile_70 ⟨Nat.zero_le _, Nat.zero_le _⟩ rfl (fun H locs hw => ?_)
        obtain ⟨s_10, h_12, hg⟩ := bnV_e hg
        refine r_vV (As := [.int v2, .int x_8]) (rest := []) S hA hK hw (c_X0_weigh l hG  h_12) (cwV 2 hts gX6_exile_X0_weigh rfl rfl rfl (by decide +kernel) ⟨Nat.le_of_ble_eq_true rfl, Nat.le_of_ble_eq_true rfl⟩) (r_recv hK hw (kX_25 hG).1 (kX_25 hG).2 rfl) rfl hl.1 (Nat.le_of_ble_eq_true rfl) dX6_exile_73 ⟨Nat.zero_le _, Nat.zero_le _⟩ rfl (fun H locs hw => ?_)
        refine lv_iinc (v := (v2 + 1)) (lv' := [(2, .int (v2 + 1)), (0, .ref (gAd G 0)), (1, .int v1)]) hx hb dX6_exile_76 hl (k := 2) rfl rfl (by decide) rfl (fun ls hl => ?_)
        refine lv_goto (tgt := 41) hx hb dX6_exile_79 (by decide) ?_
        exact ih41 _ _ _ _ _ hg hw (lv_sub hl [1, 2, 0] rfl)
  rw [g_X6_exile] at hg
  refine lv_iload_n hx hb dX6_exile_0 rfl (lv_at hl 1 rfl) ?_
  refine lv_iconst (v := 0) hx hb dX6_exile_1 (by decide) ?_
  refine lv_iconst (v := 1) hx hb dX6_exile_2 (by decide) ?_
  obtain ⟨s_13, x_14, h_15, hg⟩ := bnI_e hg
  refine r_iS (As := [.int a1, .int 0, .int 1]) (rest := []) S hA hK hw (c_X6_isWithin l hG  h_15) (va_cwS 3 hts gX6_exile_X6_isWithin rfl rfl rfl (by decide +kernel) ⟨Nat.le_of_ble_eq_true rfl, Nat.le_of_ble_eq_true rfl⟩) rfl hl.1 (Nat.le_of_ble_eq_true rfl) dX6_exile_3 ⟨Nat.zero_le _, Nat.zero_le _⟩ rfl (fun H locs hw => ?_)
  refine lv_if_ne (tgt := 12) hx hb dX6_exile_6 (by decide) (fun c_16 => ?_) (fun c_16 => ?_)
  · have hg := it_n hg c_16
    refine lv_aload_n hx hb dX6_exile_12 rfl (lv_at hl 0 rfl) ?_
    refine r_getr (C := RX6) (T := TX6) (N := 12) (k' := 6) S hK hw (kX_0 hG).1 (kX_0 hG).2 rfl hinX6 1 (by decide) (o := 6) rfl rfl (hts (.fieldLink RX6 16 "SoupByRank" "thought" "LSoupByRank$Court;") (by decide +kernel)) rfl dX6_exile_13 ?_
    refine lv_aload_n hx hb dX6_exile_16 rfl (lv_at hl 0 rfl) ?_
    refine r_getr (C := RX6) (T := TX6) (N := 12) (k' := 1) S hK hw (kX_0 hG).1 (kX_0 hG).2 rfl hinX6 0 (by decide) (o := 1) rfl rfl (hts (.fieldLink RX6 10 "SoupByRank" "court" "LSoupByRank$Court;") (by decide +kernel)) rfl dX6_exile_17 ?_
    obtain ⟨s_17, h_19, hg⟩ := bnV_e hg
    refine r_vV (As := [.ref (gAd G 1)]) (rest := []) S hA hK hw (c_X1_takeFrom l hG isCt_6 isCt_1 h_19) (cwV 1 hts gX6_exile_X1_takeFrom rfl rfl rfl (by decide +kernel) ⟨Nat.le_of_ble_eq_true rfl, Nat.le_of_ble_eq_true rfl⟩) (r_recv hK hw (kX_6 hG).1 (kX_6 hG).2 rfl) rfl hl.1 (Nat.le_of_ble_eq_true rfl) dX6_exile_20 ⟨Nat.zero_le _, Nat.zero_le _⟩ rfl (fun H locs hw => ?_)
    refine lv_aload_n hx hb dX6_exile_23 rfl (lv_at hl 0 rfl) ?_
    refine r_getr (C := RX6) (T := TX6) (N := 12) (k' := 25) S hK hw (kX_0 hG).1 (kX_0 hG).2 rfl hinX6 5 (by decide) (o := 25) rfl rfl (hts (.fieldLink RX6 32 "SoupByRank" "best" "LSoupByRank$Best;") (by decide +kernel)) rfl dX6_exile_24 ?_
    refine lv_iconst (v := (-1)) hx hb dX6_exile_27 (by decide) ?_
    refine lv_aload_n hx hb dX6_exile_28 rfl (lv_at hl 0 rfl) ?_
    refine lv_aload_n hx hb dX6_exile_29 rfl (lv_at hl 0 rfl) ?_
    refine r_getr (C := RX6) (T := TX6) (N := 12) (k' := 1) S hK hw (kX_0 hG).1 (kX_0 hG).2 rfl hinX6 0 (by decide) (o := 1) rfl rfl (hts (.fieldLink RX6 10 "SoupByRank" "court" "LSoupByRank$Court;") (by decide +kernel)) rfl dX6_exile_30 ?_
    obtain ⟨s_20, x_21, h_22, hg⟩ := bnI_e hg
    refine r_iV (As := [.ref (gAd G 1)]) (rest := [.int (-1), .ref (gAd G 25)]) S hA hK hw (c_X6_serve l hG isCt_1 h_22) (cwV 1 hts gX6_exile_X6_serve rfl rfl rfl (by decide +kernel) ⟨Nat.le_of_ble_eq_true rfl, Nat.le_of_ble_eq_true rfl⟩) (r_recv hK hw (kX_0 hG).1 (kX_0 hG).2 rfl) rfl hl.1 (Nat.le_of_ble_eq_true rfl) dX6_exile_33 ⟨Nat.zero_le _, Nat.zero_le _⟩ rfl (fun H locs hw => ?_)
    obtain ⟨s_23, h_25, hg⟩ := bnV_e hg
    refine r_vV (As := [.int (-1), .int x_21]) (rest := []) S hA hK hw (c_X0_begin l hG  h_25) (cwV 2 hts gX6_exile_X0_begin rfl rfl rfl (by decide +kernel) ⟨Nat.le_of_ble_eq_true rfl, Nat.le_of_ble_eq_true rfl⟩) (r_recv hK hw (kX_25 hG).1 (kX_25 hG).2 rfl) rfl hl.1 (Nat.le_of_ble_eq_true rfl) dX6_exile_36 ⟨Nat.zero_le _, Nat.zero_le _⟩ rfl (fun H locs hw => ?_)
    refine lv_iconst (v := 0) hx hb dX6_exile_39 (by decide) ?_
    refine lv_istore_n (lv' := [(2, .int 0), (0, .ref (gAd G 0)), (1, .int a1)]) hx hb dX6_exile_40 rfl hl (by decide) rfl (fun ls hl => ?_)
    exact L41 a1 F _ _ _ _ _ hg hw (lv_sub hl [1, 2, 0] rfl)
  · have hg := it_p hg c_16
    refine lv_ldc (v := (-100000)) hx hb hown (hts (.constant RX6 179 (-100000)) (by decide +kernel)) dX6_exile_9 ?_
    exact r_ireti S hr hlk hw.2.2.2.2 hw hg dX6_exile_11
set_option maxHeartbeats 4000000 in
set_option maxRecDepth 100000 in
theorem c_X6_seat (l : Launch) {G : GW} {N : Nat} {ln : Nat → Nat} {cT cS : ClassId} (hG : isX G N ln cT cS) {F sz : Nat} {a1 : Int32} {a2 : Int32} {σ σR : Sg} {r : Int32} (hg : g_X6_seat F N ln a1 a2 σ = some (σR, r)) : Met l yX6_seat wsX6_seat ({ frames := 6, cells := 0, slots := 0, locals := 181 } : Room) (va_Pc [.ref (gAd G 0), .int a1, .int a2] (PX G σ sz)) (QcI G (gA G sz) σR r) 0 0 (gA G sz) := by
  refine metX (by decide) rfl (Nat.le_of_ble_eq_true rfl) ?_
  intro p e s m args below meth c ls S hr hlk hsz hA hK hw hl hmn
  have S : CallFix p m c cX6_seat 4 s args wsX6_seat RX6 := S
  obtain ⟨hx, hb, hml, hown, hts⟩ := id S
  have hl : lv_has ls 4 [(0, .ref (gAd G 0)), (1, .int a1), (2, .int a2)] := hl
  have hinX1 : ∀ w ∈ wsX10, w ∈ wsX6_seat := by decide +kernel
  have hinX6 : ∀ w ∈ wsX60, w ∈ wsX6_seat := by decide +kernel
  have L48 : ∀ (v1 : Int32) (v2 : Int32) (n48 : Nat) (v3 : Int32) (σ : Sg) (H : Heap) (locs : List Loc) (ls : Array Slot) (hg : g_X6_seat_l48 F N ln v1 v2 n48 v3 σ = some (σR, r)) (hw : XD G (gA G sz) s.heap σ H locs) (hl : lv_has ls 4 [(0, .ref (gAd G 0)), (1, .int v1), (2, .int v2), (3, .int v3)]), W p l e (headSpec wsX6_seat ({ frames := 6, cells := 0, slots := 0, locals := 181 } : Room)).room s m args below meth c H locs 0 0 (MQ below (QcI G (gA G sz) σR r) args s 0 0 (gA G sz)) (F0 m 48 ls []) := by
    intro v1 v2
    intro n48
    induction n48 with
    | zero => intro v3 σ H locs ls hg hw hl; exact no_e hg
    | succ n48 ih48 =>
      intro v3 σ H locs ls hg hw hl
      rw [g_X6_seat_l48] at hg
      refine lv_iload_n hx hb dX6_seat_48 rfl (lv_at hl 3 rfl) ?_
      refine lv_bipush (v := 99) hx hb dX6_seat_49 (by decide) ?_
      refine lv_icmp_gt (tgt := 95) hx hb dX6_seat_51 (by decide) (fun c_1 => ?_) (fun c_1 => ?_)
      · have hg := it_p hg c_1
        refine lv_aload_n hx hb dX6_seat_95 rfl (lv_at hl 0 rfl) ?_
        refine r_getr (C := RX6) (T := TX6) (N := 12) (k' := 25) S hK hw (kX_0 hG).1 (kX_0 hG).2 rfl hinX6 5 (by decide) (o := 25) rfl rfl (hts (.fieldLink RX6 32 "SoupByRank" "best" "LSoupByRank$Best;") (by decide +kernel)) rfl dX6_seat_96 ?_
        refine lv_iload_n hx hb dX6_seat_99 rfl (lv_at hl 2 rfl) ?_
        obtain ⟨s_2, x_3, h_4, hg⟩ := bnI_e hg
        refine r_iV (As := [.int v2]) (rest := []) S hA hK hw (c_X0_answer l hG  h_4) (cwV 1 hts gX6_seat_X0_answer rfl rfl rfl (by decide +kernel) ⟨Nat.le_of_ble_eq_true rfl, Nat.le_of_ble_eq_true rfl⟩) (r_recv hK hw (kX_25 hG).1 (kX_25 hG).2 rfl) rfl hl.1 (Nat.le_of_ble_eq_true rfl) dX6_seat_100 ⟨Nat.zero_le _, Nat.zero_le _⟩ rfl (fun H locs hw => ?_)
        exact r_ireti S hr hlk hw.2.2.2.2 hw hg dX6_seat_103
      · have hg := it_n hg c_1
        refine lv_aload_n hx hb dX6_seat_54 rfl (lv_at hl 0 rfl) ?_
        refine r_getr (C := RX6) (T := TX6) (N := 12) (k' := 6) S hK hw (kX_0 hG).1 (kX_0 hG).2 rfl hinX6 1 (by decide) (o := 6) rfl rfl (hts (.fieldLink RX6 16 "SoupByRank" "thought" "LSoupByRank$Court;") (by decide +kernel)) rfl dX6_seat_55 ?_
        refine r_getrN (C := RX1) (T := TX1) (N := 9) (host := RX6) (k' := 9) S hK hw (kX_6 hG).1 (kX_6 hG).2 rfl hinX1 7 (by decide) (o := 3) rfl rfl (by decide +kernel) rfl dX6_seat_58 ?_
        refine lv_iload_n hx hb dX6_seat_61 rfl (lv_at hl 1 rfl) ?_
        refine lv_iload_n hx hb dX6_seat_62 rfl (lv_at hl 3 rfl) ?_
        obtain ⟨h_6, s_5, e_7, hg⟩ := wrA_e hg
        refine r_iast S hK hw (kX_9 hG).1 (kX_9 hG).2 h_6 e_7 dX6_seat_63 (fun H locs hw => ?_)
        refine lv_aload_n hx hb dX6_seat_64 rfl (lv_at hl 0 rfl) ?_
        refine lv_aload_n hx hb dX6_seat_65 rfl (lv_at hl 0 rfl) ?_
        refine r_getr (C := RX6) (T := TX6) (N := 12) (k' := 6) S hK hw (kX_0 hG).1 (kX_0 hG).2 rfl hinX6 1 (by decide) (o := 6) rfl rfl (hts (.fieldLink RX6 16 "SoupByRank" "thought" "LSoupByRank$Court;") (by decide +kernel)) rfl dX6_seat_66 ?_
        obtain ⟨s_8, x_9, h_10, hg⟩ := bnI_e hg
        refine r_iV (As := [.ref (gAd G 6)]) (rest := []) S hA hK hw (c_X6_serve l hG isCt_6 h_10) (cwV 1 hts gX6_seat_X6_serve rfl rfl rfl (by decide +kernel) ⟨Nat.le_of_ble_eq_true rfl, Nat.le_of_ble_eq_true rfl⟩) (r_recv hK hw (kX_0 hG).1 (kX_0 hG).2 rfl) rfl hl.1 (Nat.le_of_ble_eq_true rfl) dX6_seat_69 ⟨Nat.zero_le _, Nat.zero_le _⟩ rfl (fun H locs hw => ?_)
        refine lv_pop hx hb dX6_seat_72 rfl ?_
        refine lv_aload_n hx hb dX6_seat_73 rfl (lv_at hl 0 rfl) ?_
        refine r_getr (C := RX6) (T := TX6) (N := 12) (k' := 25) S hK hw (kX_0 hG).1 (kX_0 hG).2 rfl hinX6 5 (by decide) (o := 25) rfl rfl (hts (.fieldLink RX6 32 "SoupByRank" "best" "LSoupByRank$Best;") (by decide +kernel)) rfl dX6_seat_74 ?_
        refine lv_iload_n hx hb dX6_seat_77 rfl (lv_at hl 3 rfl) ?_
        refine lv_aload_n hx hb dX6_seat_78 rfl (lv_at hl 0 rfl) ?_
        refine r_getr (C := RX6) (T := TX6) (N := 12) (k' := 16) S hK hw (kX_0 hG).1 (kX_0 hG).2 rfl hinX6 4 (by decide) (o := 16) rfl rfl (hts (.fieldLink RX6 25 "SoupByRank" "evening" "LSoupByRank$Evening;") (by decide +kernel)) rfl dX6_seat_79 ?_
        refine lv_iload_n hx hb dX6_seat_82 rfl (lv_at hl 1 rfl) ?_
        obtain ⟨s_11, x_12, h_13, hg⟩ := bnI_e hg
        refine r_iV (As := [.int v1]) (rest := [.int v3, .ref (gAd G 25)]) S hA hK hw (c_X2_costs l hG  h_13) (cwV 1 hts gX6_seat_X2_costs rfl rfl rfl (by decide +kernel) ⟨Nat.le_of_ble_eq_true rfl, Nat.le_of_ble_eq_true rfl⟩) (r_recv hK hw (kX_16 hG).1 (kX_16 hG).2 rfl) rfl hl.1 (Nat.le_of_ble_eq_true rfl) dX6_seat_83 ⟨Nat.zero_le _, Nat.zero_le _⟩ rfl (fun H locs hw => ?_)
        obtain ⟨s_14, h_16, hg⟩ := bnV_e hg
        refine r_vV (As := [.int v3, .int x_12]) (rest := []) S hA hK hw (c_X0_weigh l hG  h_16) (cwV 2 hts gX6_seat_X0_weigh rfl rfl rfl (by decide +kernel) ⟨Nat.le_of_ble_eq_true rfl, Nat.le_of_ble_eq_true rfl⟩) (r_recv hK hw (kX_25 hG).1 (kX_25 hG).2 rfl) rfl hl.1 (Nat.le_of_ble_eq_true rfl) dX6_seat_86 ⟨Nat.zero_le _, Nat.zero_le _⟩ rfl (fun H locs hw => ?_)
        refine lv_iinc (v := (v3 + 1)) (lv' := [(3, .int (v3 + 1)), (0, .ref (gAd G 0)), (1, .int v1), (2, .int v2)]) hx hb dX6_seat_89 hl (k := 3) rfl rfl (by decide) rfl (fun ls hl => ?_)
        refine lv_goto (tgt := 48) hx hb dX6_seat_92 (by decide) ?_
        exact ih48 _ _ _ _ _ hg hw (lv_sub hl [1, 2, 3, 0] rfl)
  rw [g_X6_seat] at hg
  refine lv_aload_n hx hb dX6_seat_0 rfl (lv_at hl 0 rfl) ?_
  refine lv_iload_n hx hb dX6_seat_1 rfl (lv_at hl 1 rfl) ?_
  obtain ⟨s_17, x_18, h_19, hg⟩ := bnI_e hg
  refine r_iV (As := [.int a1]) (rest := []) S hA hK hw (c_X6_isThere l hG  h_19) (cwV 1 hts gX6_seat_X6_isThere rfl rfl rfl (by decide +kernel) ⟨Nat.le_of_ble_eq_true rfl, Nat.le_of_ble_eq_true rfl⟩) (r_recv hK hw (kX_0 hG).1 (kX_0 hG).2 rfl) rfl hl.1 (Nat.le_of_ble_eq_true rfl) dX6_seat_2 ⟨Nat.zero_le _, Nat.zero_le _⟩ rfl (fun H locs hw => ?_)
  refine lv_if_ne (tgt := 12) hx hb dX6_seat_5 (by decide) (fun c_20 => ?_) (fun c_20 => ?_)
  · have hg := it_n hg c_20
    refine lv_iload_n hx hb dX6_seat_12 rfl (lv_at hl 2 rfl) ?_
    refine lv_iconst (v := 0) hx hb dX6_seat_13 (by decide) ?_
    refine lv_iconst (v := 1) hx hb dX6_seat_14 (by decide) ?_
    obtain ⟨s_21, x_22, h_23, hg⟩ := bnI_e hg
    refine r_iS (As := [.int a2, .int 0, .int 1]) (rest := []) S hA hK hw (c_X6_isWithin l hG  h_23) (va_cwS 3 hts gX6_seat_X6_isWithin rfl rfl rfl (by decide +kernel) ⟨Nat.le_of_ble_eq_true rfl, Nat.le_of_ble_eq_true rfl⟩) rfl hl.1 (Nat.le_of_ble_eq_true rfl) dX6_seat_15 ⟨Nat.zero_le _, Nat.zero_le _⟩ rfl (fun H locs hw => ?_)
    refine lv_if_ne (tgt := 25) hx hb dX6_seat_18 (by decide) (fun c_24 => ?_) (fun c_24 => ?_)
    · have hg := it_n hg c_24
      refine lv_aload_n hx hb dX6_seat_25 rfl (lv_at hl 0 rfl) ?_
      refine r_getr (C := RX6) (T := TX6) (N := 12) (k' := 6) S hK hw (kX_0 hG).1 (kX_0 hG).2 rfl hinX6 1 (by decide) (o := 6) rfl rfl (hts (.fieldLink RX6 16 "SoupByRank" "thought" "LSoupByRank$Court;") (by decide +kernel)) rfl dX6_seat_26 ?_
      refine lv_aload_n hx hb dX6_seat_29 rfl (lv_at hl 0 rfl) ?_
      refine r_getr (C := RX6) (T := TX6) (N := 12) (k' := 1) S hK hw (kX_0 hG).1 (kX_0 hG).2 rfl hinX6 0 (by decide) (o := 1) rfl rfl (hts (.fieldLink RX6 10 "SoupByRank" "court" "LSoupByRank$Court;") (by decide +kernel)) rfl dX6_seat_30 ?_
      obtain ⟨s_25, h_27, hg⟩ := bnV_e hg
      refine r_vV (As := [.ref (gAd G 1)]) (rest := []) S hA hK hw (c_X1_takeFrom l hG isCt_6 isCt_1 h_27) (cwV 1 hts gX6_seat_X1_takeFrom rfl rfl rfl (by decide +kernel) ⟨Nat.le_of_ble_eq_true rfl, Nat.le_of_ble_eq_true rfl⟩) (r_recv hK hw (kX_6 hG).1 (kX_6 hG).2 rfl) rfl hl.1 (Nat.le_of_ble_eq_true rfl) dX6_seat_33 ⟨Nat.zero_le _, Nat.zero_le _⟩ rfl (fun H locs hw => ?_)
      refine lv_aload_n hx hb dX6_seat_36 rfl (lv_at hl 0 rfl) ?_
      refine r_getr (C := RX6) (T := TX6) (N := 12) (k' := 25) S hK hw (kX_0 hG).1 (kX_0 hG).2 rfl hinX6 5 (by decide) (o := 25) rfl rfl (hts (.fieldLink RX6 32 "SoupByRank" "best" "LSoupByRank$Best;") (by decide +kernel)) rfl dX6_seat_37 ?_
      refine lv_iconst (v := 0) hx hb dX6_seat_40 (by decide) ?_
      refine lv_ldc (v := 1000000) hx hb hown (hts (.constant RX6 191 (1000000)) (by decide +kernel)) dX6_seat_41 ?_
      obtain ⟨s_28, h_30, hg⟩ := bnV_e hg
      refine r_vV (As := [.int 0, .int 1000000]) (rest := []) S hA hK hw (c_X0_begin l hG  h_30) (cwV 2 hts gX6_seat_X0_begin rfl rfl rfl (by decide +kernel) ⟨Nat.le_of_ble_eq_true rfl, Nat.le_of_ble_eq_true rfl⟩) (r_recv hK hw (kX_25 hG).1 (kX_25 hG).2 rfl) rfl hl.1 (Nat.le_of_ble_eq_true rfl) dX6_seat_43 ⟨Nat.zero_le _, Nat.zero_le _⟩ rfl (fun H locs hw => ?_)
      refine lv_iconst (v := 0) hx hb dX6_seat_46 (by decide) ?_
      refine lv_istore_n (lv' := [(3, .int 0), (0, .ref (gAd G 0)), (1, .int a1), (2, .int a2)]) hx hb dX6_seat_47 rfl hl (by decide) rfl (fun ls hl => ?_)
      exact L48 a1 a2 F _ _ _ _ _ hg hw (lv_sub hl [1, 2, 3, 0] rfl)
    · have hg := it_p hg c_24
      refine lv_sipush (v := (-7000)) hx hb dX6_seat_21 (by decide) ?_
      exact r_ireti S hr hlk hw.2.2.2.2 hw hg dX6_seat_24
  · have hg := it_p hg c_20
    refine lv_sipush (v := (-5000)) hx hb dX6_seat_8 (by decide) ?_
    exact r_ireti S hr hlk hw.2.2.2.2 hw hg dX6_seat_11
set_option maxHeartbeats 4000000 in
set_option maxRecDepth 100000 in
theorem c_X6_rankByTurns (l : Launch) {G : GW} {N : Nat} {ln : Nat → Nat} {cT cS : ClassId} (hG : isX G N ln cT cS) {F sz : Nat} {σ σR : Sg} (hg : g_X6_rankByTurns F N ln σ = some σR) : Met l yX6_rankByTurns wsX6_rankByTurns ({ frames := 0, cells := 0, slots := 0, locals := 0 } : Room) (va_Pc [.ref (gAd G 0)] (PX G σ sz)) (QcV G (gA G sz) σR) 0 0 (gA G sz) := by
  refine metX (by decide) rfl (Nat.le_of_ble_eq_true rfl) ?_
  intro p e s m args below meth c ls S hr hlk hsz hA hK hw hl hmn
  have S : CallFix p m c cX6_rankByTurns 2 s args wsX6_rankByTurns RX6 := S
  obtain ⟨hx, hb, hml, hown, hts⟩ := id S
  have hl : lv_has ls 2 [(0, .ref (gAd G 0))] := hl
  have hinX1 : ∀ w ∈ wsX10, w ∈ wsX6_rankByTurns := by decide +kernel
  have hinX6 : ∀ w ∈ wsX60, w ∈ wsX6_rankByTurns := by decide +kernel
  have L2 : ∀ (n2 : Nat) (v1 : Int32) (σ : Sg) (H : Heap) (locs : List Loc) (ls : Array Slot) (hg : g_X6_rankByTurns_l2 F N ln n2 v1 σ = some σR) (hw : XD G (gA G sz) s.heap σ H locs) (hl : lv_has ls 2 [(0, .ref (gAd G 0)), (1, .int v1)]), W p l e (headSpec wsX6_rankByTurns ({ frames := 0, cells := 0, slots := 0, locals := 0 } : Room)).room s m args below meth c H locs 0 0 (MQ below (QcV G (gA G sz) σR) args s 0 0 (gA G sz)) (F0 m 2 ls []) := by
    intro n2
    induction n2 with
    | zero => intro v1 σ H locs ls hg hw hl; exact no_e hg
    | succ n2 ih2 =>
      intro v1 σ H locs ls hg hw hl
      rw [g_X6_rankByTurns_l2] at hg
      refine lv_iload_n hx hb dX6_rankByTurns_2 rfl (lv_at hl 1 rfl) ?_
      refine lv_aload_n hx hb dX6_rankByTurns_3 rfl (lv_at hl 0 rfl) ?_
      refine r_getr (C := RX6) (T := TX6) (N := 12) (k' := 6) S hK hw (kX_0 hG).1 (kX_0 hG).2 rfl hinX6 1 (by decide) (o := 6) rfl rfl (hts (.fieldLink RX6 16 "SoupByRank" "thought" "LSoupByRank$Court;") (by decide +kernel)) rfl dX6_rankByTurns_4 ?_
      refine r_getN (C := RX1) (T := TX1) (N := 9) (host := RX6) S hK hw (kX_6 hG).1 (kX_6 hG).2 rfl hinX1 0 (by decide) rfl (by decide +kernel) rfl dX6_rankByTurns_7 ?_
      refine lv_icmp_ge (tgt := 42) hx hb dX6_rankByTurns_10 (by decide) (fun c_1 => ?_) (fun c_1 => ?_)
      · have hg := it_p hg c_1
        exact r_vreti S hr hlk hw.2.2.2.2 hw hg dX6_rankByTurns_42
      · have hg := it_n hg c_1
        refine lv_aload_n hx hb dX6_rankByTurns_13 rfl (lv_at hl 0 rfl) ?_
        refine r_getr (C := RX6) (T := TX6) (N := 12) (k' := 6) S hK hw (kX_0 hG).1 (kX_0 hG).2 rfl hinX6 1 (by decide) (o := 6) rfl rfl (hts (.fieldLink RX6 16 "SoupByRank" "thought" "LSoupByRank$Court;") (by decide +kernel)) rfl dX6_rankByTurns_14 ?_
        refine r_getrN (C := RX1) (T := TX1) (N := 9) (host := RX6) (k' := 9) S hK hw (kX_6 hG).1 (kX_6 hG).2 rfl hinX1 7 (by decide) (o := 3) rfl rfl (by decide +kernel) rfl dX6_rankByTurns_17 ?_
        refine lv_aload_n hx hb dX6_rankByTurns_20 rfl (lv_at hl 0 rfl) ?_
        refine r_getr (C := RX6) (T := TX6) (N := 12) (k' := 35) S hK hw (kX_0 hG).1 (kX_0 hG).2 rfl hinX6 11 (by decide) (o := 35) rfl rfl (hts (.fieldLink RX6 66 "SoupByRank" "turns" "[I") (by decide +kernel)) rfl dX6_rankByTurns_21 ?_
        refine lv_iload_n hx hb dX6_rankByTurns_24 rfl (lv_at hl 1 rfl) ?_
        obtain ⟨h_3, x_2, e_4, hg⟩ := rdA_e hg
        refine r_iald S hK hw (kX_35 hG).1 (kX_35 hG).2 h_3 e_4 dX6_rankByTurns_25 ?_
        refine lv_aload_n hx hb dX6_rankByTurns_26 rfl (lv_at hl 0 rfl) ?_
        refine r_getr (C := RX6) (T := TX6) (N := 12) (k' := 6) S hK hw (kX_0 hG).1 (kX_0 hG).2 rfl hinX6 1 (by decide) (o := 6) rfl rfl (hts (.fieldLink RX6 16 "SoupByRank" "thought" "LSoupByRank$Court;") (by decide +kernel)) rfl dX6_rankByTurns_27 ?_
        refine r_getN (C := RX1) (T := TX1) (N := 9) (host := RX6) S hK hw (kX_6 hG).1 (kX_6 hG).2 rfl hinX1 0 (by decide) rfl (by decide +kernel) rfl dX6_rankByTurns_30 ?_
        refine lv_iload_n hx hb dX6_rankByTurns_33 rfl (lv_at hl 1 rfl) ?_
        refine lv_isub hx hb dX6_rankByTurns_34 ?_
        obtain ⟨h_6, s_5, e_7, hg⟩ := wrA_e hg
        refine r_iast S hK hw (kX_9 hG).1 (kX_9 hG).2 h_6 e_7 dX6_rankByTurns_35 (fun H locs hw => ?_)
        refine lv_iinc (v := (v1 + 1)) (lv' := [(1, .int (v1 + 1)), (0, .ref (gAd G 0))]) hx hb dX6_rankByTurns_36 hl (k := 1) rfl rfl (by decide) rfl (fun ls hl => ?_)
        refine lv_goto (tgt := 2) hx hb dX6_rankByTurns_39 (by decide) ?_
        exact ih2 _ _ _ _ _ hg hw (lv_sub hl [1, 0] rfl)
  rw [g_X6_rankByTurns] at hg
  refine lv_iconst (v := 0) hx hb dX6_rankByTurns_0 (by decide) ?_
  refine lv_istore_n (lv' := [(1, .int 0), (0, .ref (gAd G 0))]) hx hb dX6_rankByTurns_1 rfl hl (by decide) rfl (fun ls hl => ?_)
  exact L2 F _ _ _ _ _ hg hw (lv_sub hl [1, 0] rfl)
set_option maxHeartbeats 4000000 in
set_option maxRecDepth 100000 in
theorem c_X6_digitsOfTurns (l : Launch) {G : GW} {N : Nat} {ln : Nat → Nat} {cT cS : ClassId} (hG : isX G N ln cT cS) {F sz : Nat} {σ σR : Sg} {r : Int32} (hg : g_X6_digitsOfTurns F N ln σ = some (σR, r)) : Met l yX6_digitsOfTurns wsX6_digitsOfTurns ({ frames := 0, cells := 0, slots := 0, locals := 0 } : Room) (va_Pc [.ref (gAd G 0)] (PX G σ sz)) (QcI G (gA G sz) σR r) 0 0 (gA G sz) := by
  refine metX (by decide) rfl (Nat.le_of_ble_eq_true rfl) ?_
  intro p e s m args below meth c ls S hr hlk hsz hA hK hw hl hmn
  have S : CallFix p m c cX6_digitsOfTurns 3 s args wsX6_digitsOfTurns RX6 := S
  obtain ⟨hx, hb, hml, hown, hts⟩ := id S
  have hl : lv_has ls 3 [(0, .ref (gAd G 0))] := hl
  have hinX1 : ∀ w ∈ wsX10, w ∈ wsX6_digitsOfTurns := by decide +kernel
  have hinX6 : ∀ w ∈ wsX60, w ∈ wsX6_digitsOfTurns := by decide +kernel
  have L4 : ∀ (n4 : Nat) (v1 : Int32) (v2 : Int32) (σ : Sg) (H : Heap) (locs : List Loc) (ls : Array Slot) (hg : g_X6_digitsOfTurns_l4 F N ln n4 v1 v2 σ = some (σR, r)) (hw : XD G (gA G sz) s.heap σ H locs) (hl : lv_has ls 3 [(0, .ref (gAd G 0)), (1, .int v1), (2, .int v2)]), W p l e (headSpec wsX6_digitsOfTurns ({ frames := 0, cells := 0, slots := 0, locals := 0 } : Room)).room s m args below meth c H locs 0 0 (MQ below (QcI G (gA G sz) σR r) args s 0 0 (gA G sz)) (F0 m 4 ls []) := by
    intro n4
    induction n4 with
    | zero => intro v1 v2 σ H locs ls hg hw hl; exact no_e hg
    | succ n4 ih4 =>
      intro v1 v2 σ H locs ls hg hw hl
      rw [g_X6_digitsOfTurns_l4] at hg
      refine lv_iload_n hx hb dX6_digitsOfTurns_4 rfl (lv_at hl 2 rfl) ?_
      refine lv_aload_n hx hb dX6_digitsOfTurns_5 rfl (lv_at hl 0 rfl) ?_
      refine r_getr (C := RX6) (T := TX6) (N := 12) (k' := 6) S hK hw (kX_0 hG).1 (kX_0 hG).2 rfl hinX6 1 (by decide) (o := 6) rfl rfl (hts (.fieldLink RX6 16 "SoupByRank" "thought" "LSoupByRank$Court;") (by decide +kernel)) rfl dX6_digitsOfTurns_6 ?_
      refine r_getN (C := RX1) (T := TX1) (N := 9) (host := RX6) S hK hw (kX_6 hG).1 (kX_6 hG).2 rfl hinX1 0 (by decide) rfl (by decide +kernel) rfl dX6_digitsOfTurns_9 ?_
      refine lv_icmp_ge (tgt := 35) hx hb dX6_digitsOfTurns_12 (by decide) (fun c_1 => ?_) (fun c_1 => ?_)
      · have hg := it_p hg c_1
        refine lv_iload_n hx hb dX6_digitsOfTurns_35 rfl (lv_at hl 1 rfl) ?_
        exact r_ireti S hr hlk hw.2.2.2.2 hw hg dX6_digitsOfTurns_36
      · have hg := it_n hg c_1
        refine lv_bipush (v := 10) hx hb dX6_digitsOfTurns_15 (by decide) ?_
        refine lv_iload_n hx hb dX6_digitsOfTurns_17 rfl (lv_at hl 1 rfl) ?_
        refine lv_imul hx hb dX6_digitsOfTurns_18 ?_
        refine lv_aload_n hx hb dX6_digitsOfTurns_19 rfl (lv_at hl 0 rfl) ?_
        refine r_getr (C := RX6) (T := TX6) (N := 12) (k' := 35) S hK hw (kX_0 hG).1 (kX_0 hG).2 rfl hinX6 11 (by decide) (o := 35) rfl rfl (hts (.fieldLink RX6 66 "SoupByRank" "turns" "[I") (by decide +kernel)) rfl dX6_digitsOfTurns_20 ?_
        refine lv_iload_n hx hb dX6_digitsOfTurns_23 rfl (lv_at hl 2 rfl) ?_
        obtain ⟨h_3, x_2, e_4, hg⟩ := rdA_e hg
        refine r_iald S hK hw (kX_35 hG).1 (kX_35 hG).2 h_3 e_4 dX6_digitsOfTurns_24 ?_
        refine lv_iadd hx hb dX6_digitsOfTurns_25 ?_
        refine lv_iconst (v := 1) hx hb dX6_digitsOfTurns_26 (by decide) ?_
        refine lv_iadd hx hb dX6_digitsOfTurns_27 ?_
        refine lv_istore_n (lv' := [(1, .int (((10 * v1) + x_2) + 1)), (0, .ref (gAd G 0)), (2, .int v2)]) hx hb dX6_digitsOfTurns_28 rfl hl (by decide) rfl (fun ls hl => ?_)
        refine lv_iinc (v := (v2 + 1)) (lv' := [(2, .int (v2 + 1)), (1, .int (((10 * v1) + x_2) + 1)), (0, .ref (gAd G 0))]) hx hb dX6_digitsOfTurns_29 hl (k := 2) rfl rfl (by decide) rfl (fun ls hl => ?_)
        refine lv_goto (tgt := 4) hx hb dX6_digitsOfTurns_32 (by decide) ?_
        exact ih4 _ _ _ _ _ _ hg hw (lv_sub hl [2, 1, 0] rfl)
  rw [g_X6_digitsOfTurns] at hg
  refine lv_iconst (v := 0) hx hb dX6_digitsOfTurns_0 (by decide) ?_
  refine lv_istore_n (lv' := [(1, .int 0), (0, .ref (gAd G 0))]) hx hb dX6_digitsOfTurns_1 rfl hl (by decide) rfl (fun ls hl => ?_)
  refine lv_iconst (v := 0) hx hb dX6_digitsOfTurns_2 (by decide) ?_
  refine lv_istore_n (lv' := [(2, .int 0), (1, .int 0), (0, .ref (gAd G 0))]) hx hb dX6_digitsOfTurns_3 rfl hl (by decide) rfl (fun ls hl => ?_)
  exact L4 F _ _ _ _ _ _ hg hw (lv_sub hl [2, 1, 0] rfl)
set_option maxHeartbeats 4000000 in
set_option maxRecDepth 100000 in
theorem c_X6_changeTurns (l : Launch) {G : GW} {N : Nat} {ln : Nat → Nat} {cT cS : ClassId} (hG : isX G N ln cT cS) {F sz : Nat} {a1 : Int32} {a2 : Int32} {σ σR : Sg} (hg : g_X6_changeTurns F N ln a1 a2 σ = some σR) : Met l yX6_changeTurns wsX6_changeTurns ({ frames := 0, cells := 0, slots := 0, locals := 0 } : Room) (va_Pc [.ref (gAd G 0), .int a1, .int a2] (PX G σ sz)) (QcV G (gA G sz) σR) 0 0 (gA G sz) := by
  refine metX (by decide) rfl (Nat.le_of_ble_eq_true rfl) ?_
  intro p e s m args below meth c ls S hr hlk hsz hA hK hw hl hmn
  have S : CallFix p m c cX6_changeTurns 4 s args wsX6_changeTurns RX6 := S
  obtain ⟨hx, hb, hml, hown, hts⟩ := id S
  have hl : lv_has ls 4 [(0, .ref (gAd G 0)), (1, .int a1), (2, .int a2)] := hl
  have hinX6 : ∀ w ∈ wsX60, w ∈ wsX6_changeTurns := by decide +kernel
  rw [g_X6_changeTurns] at hg
  refine lv_aload_n hx hb dX6_changeTurns_0 rfl (lv_at hl 0 rfl) ?_
  refine r_getr (C := RX6) (T := TX6) (N := 12) (k' := 35) S hK hw (kX_0 hG).1 (kX_0 hG).2 rfl hinX6 11 (by decide) (o := 35) rfl rfl (hts (.fieldLink RX6 66 "SoupByRank" "turns" "[I") (by decide +kernel)) rfl dX6_changeTurns_1 ?_
  refine lv_iload_n hx hb dX6_changeTurns_4 rfl (lv_at hl 1 rfl) ?_
  obtain ⟨h_2, x_1, e_3, hg⟩ := rdA_e hg
  refine r_iald S hK hw (kX_35 hG).1 (kX_35 hG).2 h_2 e_3 dX6_changeTurns_5 ?_
  refine lv_istore_n (lv' := [(3, .int x_1), (0, .ref (gAd G 0)), (1, .int a1), (2, .int a2)]) hx hb dX6_changeTurns_6 rfl hl (by decide) rfl (fun ls hl => ?_)
  refine lv_aload_n hx hb dX6_changeTurns_7 rfl (lv_at hl 1 rfl) ?_
  refine r_getr (C := RX6) (T := TX6) (N := 12) (k' := 35) S hK hw (kX_0 hG).1 (kX_0 hG).2 rfl hinX6 11 (by decide) (o := 35) rfl rfl (hts (.fieldLink RX6 66 "SoupByRank" "turns" "[I") (by decide +kernel)) rfl dX6_changeTurns_8 ?_
  refine lv_iload_n hx hb dX6_changeTurns_11 rfl (lv_at hl 2 rfl) ?_
  refine lv_aload_n hx hb dX6_changeTurns_12 rfl (lv_at hl 1 rfl) ?_
  refine r_getr (C := RX6) (T := TX6) (N := 12) (k' := 35) S hK hw (kX_0 hG).1 (kX_0 hG).2 rfl hinX6 11 (by decide) (o := 35) rfl rfl (hts (.fieldLink RX6 66 "SoupByRank" "turns" "[I") (by decide +kernel)) rfl dX6_changeTurns_13 ?_
  refine lv_iload_n hx hb dX6_changeTurns_16 rfl (lv_at hl 3 rfl) ?_
  obtain ⟨h_5, x_4, e_6, hg⟩ := rdA_e hg
  refine r_iald S hK hw (kX_35 hG).1 (kX_35 hG).2 h_5 e_6 dX6_changeTurns_17 ?_
  obtain ⟨h_8, s_7, e_9, hg⟩ := wrA_e hg
  refine r_iast S hK hw (kX_35 hG).1 (kX_35 hG).2 h_8 e_9 dX6_changeTurns_18 (fun H locs hw => ?_)
  refine lv_aload_n hx hb dX6_changeTurns_19 rfl (lv_at hl 1 rfl) ?_
  refine r_getr (C := RX6) (T := TX6) (N := 12) (k' := 35) S hK hw (kX_0 hG).1 (kX_0 hG).2 rfl hinX6 11 (by decide) (o := 35) rfl rfl (hts (.fieldLink RX6 66 "SoupByRank" "turns" "[I") (by decide +kernel)) rfl dX6_changeTurns_20 ?_
  refine lv_iload_n hx hb dX6_changeTurns_23 rfl (lv_at hl 3 rfl) ?_
  refine lv_iload_n hx hb dX6_changeTurns_24 rfl (lv_at hl 0 rfl) ?_
  obtain ⟨h_11, s_10, e_12, hg⟩ := wrA_e hg
  refine r_iast S hK hw (kX_35 hG).1 (kX_35 hG).2 h_11 e_12 dX6_changeTurns_25 (fun H locs hw => ?_)
  exact r_vreti S hr hlk hw.2.2.2.2 hw hg dX6_changeTurns_26
set_option maxHeartbeats 4000000 in
set_option maxRecDepth 100000 in
theorem c_X6_turnOn (l : Launch) {G : GW} {N : Nat} {ln : Nat → Nat} {cT cS : ClassId} (hG : isX G N ln cT cS) {F sz : Nat} {σ σR : Sg} {r : Int32} (hg : g_X6_turnOn F N ln σ = some (σR, r)) : Met l yX6_turnOn wsX6_turnOn ({ frames := 1, cells := 0, slots := 0, locals := 23 } : Room) (va_Pc [.ref (gAd G 0)] (PX G σ sz)) (QcI G (gA G sz) σR r) 0 0 (gA G sz) := by
  refine metX (by decide) rfl (Nat.le_of_ble_eq_true rfl) ?_
  intro p e s m args below meth c ls S hr hlk hsz hA hK hw hl hmn
  have S : CallFix p m c cX6_turnOn 6 s args wsX6_turnOn RX6 := S
  obtain ⟨hx, hb, hml, hown, hts⟩ := id S
  have hl : lv_has ls 6 [(0, .ref (gAd G 0))] := hl
  have hinX1 : ∀ w ∈ wsX10, w ∈ wsX6_turnOn := by decide +kernel
  have hinX6 : ∀ w ∈ wsX60, w ∈ wsX6_turnOn := by decide +kernel
  have L93 : ∀ (n93 : Nat) (v4 : Int32) (v5 : Int32) (σ : Sg) (H : Heap) (locs : List Loc) (ls : Array Slot) (hg : g_X6_turnOn_l93 F N ln n93 v4 v5 σ = some (σR, r)) (hw : XD G (gA G sz) s.heap σ H locs) (hl : lv_has ls 6 [(0, .ref (gAd G 0)), (4, .int v4), (5, .int v5)]), W p l e (headSpec wsX6_turnOn ({ frames := 1, cells := 0, slots := 0, locals := 23 } : Room)).room s m args below meth c H locs 0 0 (MQ below (QcI G (gA G sz) σR r) args s 0 0 (gA G sz)) (F0 m 93 ls []) := by
    intro n93
    induction n93 with
    | zero => intro v4 v5 σ H locs ls hg hw hl; exact no_e hg
    | succ n93 ih93 =>
      intro v4 v5 σ H locs ls hg hw hl
      rw [g_X6_turnOn_l93] at hg
      refine lv_iload hx hb dX6_turnOn_93 (lv_at hl 1 rfl) ?_
      refine lv_iload hx hb dX6_turnOn_95 (lv_at hl 2 rfl) ?_
      refine lv_icmp_ge (tgt := 117) hx hb dX6_turnOn_97 (by decide) (fun c_1 => ?_) (fun c_1 => ?_)
      · have hg := it_p hg c_1
        refine lv_iconst (v := 1) hx hb dX6_turnOn_117 (by decide) ?_
        exact r_iretz S hr rfl hlk hw.2.2.2.2 hw hg dX6_turnOn_118
      · have hg := it_n hg c_1
        refine lv_aload_n hx hb dX6_turnOn_100 rfl (lv_at hl 0 rfl) ?_
        refine lv_iload hx hb dX6_turnOn_101 (lv_at hl 1 rfl) ?_
        refine lv_iload hx hb dX6_turnOn_103 (lv_at hl 2 rfl) ?_
        obtain ⟨s_2, h_4, hg⟩ := bnV_e hg
        refine r_vV (As := [.int v4, .int v5]) (rest := []) S hA hK hw (c_X6_changeTurns l hG  h_4) (cwV 2 hts gX6_turnOn_X6_changeTurns rfl rfl rfl (by decide +kernel) ⟨Nat.le_of_ble_eq_true rfl, Nat.le_of_ble_eq_true rfl⟩) (r_recv hK hw (kX_0 hG).1 (kX_0 hG).2 rfl) rfl hl.1 (Nat.le_of_ble_eq_true rfl) dX6_turnOn_105 ⟨Nat.zero_le _, Nat.zero_le _⟩ rfl (fun H locs hw => ?_)
        refine lv_iinc (v := (v4 + 1)) (lv' := [(4, .int (v4 + 1)), (0, .ref (gAd G 0)), (5, .int v5)]) hx hb dX6_turnOn_108 hl (k := 1) rfl rfl (by decide) rfl (fun ls hl => ?_)
        refine lv_iinc (v := (v5 + (-1))) (lv' := [(5, .int (v5 + (-1))), (4, .int (v4 + 1)), (0, .ref (gAd G 0))]) hx hb dX6_turnOn_111 hl (k := 2) rfl rfl (by decide) rfl (fun ls hl => ?_)
        refine lv_goto (tgt := 93) hx hb dX6_turnOn_114 (by decide) ?_
        exact ih93 _ _ _ _ _ _ hg hw (lv_sub hl [2, 1, 0] rfl)
  have J77 : ∀ (v1 : Int32) (v2 : Int32) (v3 : Int32) (σ : Sg) (H : Heap) (locs : List Loc) (ls : Array Slot) (hg : g_X6_turnOn_b77 F N ln v1 v2 v3 σ = some (σR, r)) (hw : XD G (gA G sz) s.heap σ H locs) (hl : lv_has ls 6 [(0, .ref (gAd G 0)), (1, .int v1), (2, .int v2), (3, .int v3)]), W p l e (headSpec wsX6_turnOn ({ frames := 1, cells := 0, slots := 0, locals := 23 } : Room)).room s m args below meth c H locs 0 0 (MQ below (QcI G (gA G sz) σR r) args s 0 0 (gA G sz)) (F0 m 77 ls []) := by
    intro v1 v2 v3 σ H locs ls hg hw hl
    rw [g_X6_turnOn_b77] at hg
    refine lv_aload_n hx hb dX6_turnOn_77 rfl (lv_at hl 0 rfl) ?_
    refine lv_iload_n hx hb dX6_turnOn_78 rfl (lv_at hl 2 rfl) ?_
    refine lv_iload_n hx hb dX6_turnOn_79 rfl (lv_at hl 3 rfl) ?_
    obtain ⟨s_5, h_7, hg⟩ := bnV_e hg
    refine r_vV (As := [.int v2, .int v3]) (rest := []) S hA hK hw (c_X6_changeTurns l hG  h_7) (cwV 2 hts gX6_turnOn_X6_changeTurns rfl rfl rfl (by decide +kernel) ⟨Nat.le_of_ble_eq_true rfl, Nat.le_of_ble_eq_true rfl⟩) (r_recv hK hw (kX_0 hG).1 (kX_0 hG).2 rfl) rfl hl.1 (Nat.le_of_ble_eq_true rfl) dX6_turnOn_80 ⟨Nat.zero_le _, Nat.zero_le _⟩ rfl (fun H locs hw => ?_)
    refine lv_iload_n hx hb dX6_turnOn_83 rfl (lv_at hl 2 rfl) ?_
    refine lv_iconst (v := 1) hx hb dX6_turnOn_84 (by decide) ?_
    refine lv_iadd hx hb dX6_turnOn_85 ?_
    refine lv_istore (lv' := [(4, .int (v2 + 1)), (0, .ref (gAd G 0)), (1, .int v1), (2, .int v2), (3, .int v3)]) hx hb dX6_turnOn_86 hl (by decide) rfl (fun ls hl => ?_)
    refine lv_iload_n hx hb dX6_turnOn_88 rfl (lv_at hl 2 rfl) ?_
    refine lv_iconst (v := 1) hx hb dX6_turnOn_89 (by decide) ?_
    refine lv_isub hx hb dX6_turnOn_90 ?_
    refine lv_istore (lv' := [(5, .int (v1 - 1)), (4, .int (v2 + 1)), (0, .ref (gAd G 0)), (1, .int v1), (2, .int v2), (3, .int v3)]) hx hb dX6_turnOn_91 hl (by decide) rfl (fun ls hl => ?_)
    exact L93 F _ _ _ _ _ _ hg hw (lv_sub hl [2, 1, 0] rfl)
  have L49 : ∀ (v1 : Int32) (v2 : Int32) (n49 : Nat) (v3 : Int32) (σ : Sg) (H : Heap) (locs : List Loc) (ls : Array Slot) (hg : g_X6_turnOn_l49 F N ln v1 v2 n49 v3 σ = some (σR, r)) (hw : XD G (gA G sz) s.heap σ H locs) (hl : lv_has ls 6 [(0, .ref (gAd G 0)), (1, .int v1), (2, .int v2), (3, .int v3)]), W p l e (headSpec wsX6_turnOn ({ frames := 1, cells := 0, slots := 0, locals := 23 } : Room)).room s m args below meth c H locs 0 0 (MQ below (QcI G (gA G sz) σR r) args s 0 0 (gA G sz)) (F0 m 49 ls []) := by
    intro v1 v2
    intro n49
    induction n49 with
    | zero => intro v3 σ H locs ls hg hw hl; exact no_e hg
    | succ n49 ih49 =>
      intro v3 σ H locs ls hg hw hl
      rw [g_X6_turnOn_l49] at hg
      refine lv_iload_n hx hb dX6_turnOn_49 rfl (lv_at hl 3 rfl) ?_
      refine lv_iload_n hx hb dX6_turnOn_50 rfl (lv_at hl 2 rfl) ?_
      refine lv_iconst (v := 1) hx hb dX6_turnOn_51 (by decide) ?_
      refine lv_iadd hx hb dX6_turnOn_52 ?_
      refine lv_icmp_le (tgt := 77) hx hb dX6_turnOn_53 (by decide) (fun c_8 => ?_) (fun c_8 => ?_)
      · have hg := it_p hg c_8
        exact J77 v1 v2 v3 _ _ _ _ hg hw (lv_sub hl [0, 1, 2, 3] rfl)
      · have hg := it_n hg c_8
        refine lv_aload_n hx hb dX6_turnOn_56 rfl (lv_at hl 0 rfl) ?_
        refine r_getr (C := RX6) (T := TX6) (N := 12) (k' := 35) S hK hw (kX_0 hG).1 (kX_0 hG).2 rfl hinX6 11 (by decide) (o := 35) rfl rfl (hts (.fieldLink RX6 66 "SoupByRank" "turns" "[I") (by decide +kernel)) rfl dX6_turnOn_57 ?_
        refine lv_iload_n hx hb dX6_turnOn_60 rfl (lv_at hl 3 rfl) ?_
        obtain ⟨h_10, x_9, e_11, hg⟩ := rdA_e hg
        refine r_iald S hK hw (kX_35 hG).1 (kX_35 hG).2 h_10 e_11 dX6_turnOn_61 ?_
        refine lv_aload_n hx hb dX6_turnOn_62 rfl (lv_at hl 0 rfl) ?_
        refine r_getr (C := RX6) (T := TX6) (N := 12) (k' := 35) S hK hw (kX_0 hG).1 (kX_0 hG).2 rfl hinX6 11 (by decide) (o := 35) rfl rfl (hts (.fieldLink RX6 66 "SoupByRank" "turns" "[I") (by decide +kernel)) rfl dX6_turnOn_63 ?_
        refine lv_iload_n hx hb dX6_turnOn_66 rfl (lv_at hl 2 rfl) ?_
        obtain ⟨h_13, x_12, e_14, hg⟩ := rdA_e hg
        refine r_iald S hK hw (kX_35 hG).1 (kX_35 hG).2 h_13 e_14 dX6_turnOn_67 ?_
        refine lv_icmp_ge (tgt := 77) hx hb dX6_turnOn_68 (by decide) (fun c_15 => ?_) (fun c_15 => ?_)
        · have hg := it_p hg c_15
          exact J77 v1 v2 v3 _ _ _ _ hg hw (lv_sub hl [0, 1, 2, 3] rfl)
        · have hg := it_n hg c_15
          refine lv_iinc (v := (v3 + (-1))) (lv' := [(3, .int (v3 + (-1))), (0, .ref (gAd G 0)), (1, .int v1), (2, .int v2)]) hx hb dX6_turnOn_71 hl (k := 3) rfl rfl (by decide) rfl (fun ls hl => ?_)
          refine lv_goto (tgt := 49) hx hb dX6_turnOn_74 (by decide) ?_
          exact ih49 _ _ _ _ _ hg hw (lv_sub hl [1, 2, 3, 0] rfl)
  have J39 : ∀ (v1 : Int32) (v2 : Int32) (σ : Sg) (H : Heap) (locs : List Loc) (ls : Array Slot) (hg : g_X6_turnOn_b39 F N ln v1 v2 σ = some (σR, r)) (hw : XD G (gA G sz) s.heap σ H locs) (hl : lv_has ls 6 [(0, .ref (gAd G 0)), (1, .int v1), (2, .int v2)]), W p l e (headSpec wsX6_turnOn ({ frames := 1, cells := 0, slots := 0, locals := 23 } : Room)).room s m args below meth c H locs 0 0 (MQ below (QcI G (gA G sz) σR r) args s 0 0 (gA G sz)) (F0 m 39 ls []) := by
    intro v1 v2 σ H locs ls hg hw hl
    rw [g_X6_turnOn_b39] at hg
    refine lv_iload_n hx hb dX6_turnOn_39 rfl (lv_at hl 2 rfl) ?_
    refine lv_if_ge (tgt := 45) hx hb dX6_turnOn_40 (by decide) (fun c_16 => ?_) (fun c_16 => ?_)
    · have hg := it_p hg c_16
      refine lv_iload_n hx hb dX6_turnOn_45 rfl (lv_at hl 1 rfl) ?_
      refine lv_iconst (v := 1) hx hb dX6_turnOn_46 (by decide) ?_
      refine lv_isub hx hb dX6_turnOn_47 ?_
      refine lv_istore_n (lv' := [(3, .int (v1 - 1)), (0, .ref (gAd G 0)), (1, .int v1), (2, .int v2)]) hx hb dX6_turnOn_48 rfl hl (by decide) rfl (fun ls hl => ?_)
      exact L49 v1 v2 F _ _ _ _ _ hg hw (lv_sub hl [1, 2, 3, 0] rfl)
    · have hg := it_n hg c_16
      refine lv_iconst (v := 0) hx hb dX6_turnOn_43 (by decide) ?_
      exact r_iretz S hr rfl hlk hw.2.2.2.2 hw hg dX6_turnOn_44
  have L12 : ∀ (v1 : Int32) (n12 : Nat) (v2 : Int32) (σ : Sg) (H : Heap) (locs : List Loc) (ls : Array Slot) (hg : g_X6_turnOn_l12 F N ln v1 n12 v2 σ = some (σR, r)) (hw : XD G (gA G sz) s.heap σ H locs) (hl : lv_has ls 6 [(0, .ref (gAd G 0)), (1, .int v1), (2, .int v2)]), W p l e (headSpec wsX6_turnOn ({ frames := 1, cells := 0, slots := 0, locals := 23 } : Room)).room s m args below meth c H locs 0 0 (MQ below (QcI G (gA G sz) σR r) args s 0 0 (gA G sz)) (F0 m 12 ls []) := by
    intro v1
    intro n12
    induction n12 with
    | zero => intro v2 σ H locs ls hg hw hl; exact no_e hg
    | succ n12 ih12 =>
      intro v2 σ H locs ls hg hw hl
      rw [g_X6_turnOn_l12] at hg
      refine lv_iload_n hx hb dX6_turnOn_12 rfl (lv_at hl 2 rfl) ?_
      refine lv_if_lt (tgt := 39) hx hb dX6_turnOn_13 (by decide) (fun c_17 => ?_) (fun c_17 => ?_)
      · have hg := it_p hg c_17
        exact J39 v1 v2 _ _ _ _ hg hw (lv_sub hl [0, 1, 2] rfl)
      · have hg := it_n hg c_17
        refine lv_aload_n hx hb dX6_turnOn_16 rfl (lv_at hl 0 rfl) ?_
        refine r_getr (C := RX6) (T := TX6) (N := 12) (k' := 35) S hK hw (kX_0 hG).1 (kX_0 hG).2 rfl hinX6 11 (by decide) (o := 35) rfl rfl (hts (.fieldLink RX6 66 "SoupByRank" "turns" "[I") (by decide +kernel)) rfl dX6_turnOn_17 ?_
        refine lv_iload_n hx hb dX6_turnOn_20 rfl (lv_at hl 2 rfl) ?_
        obtain ⟨h_19, x_18, e_20, hg⟩ := rdA_e hg
        refine r_iald S hK hw (kX_35 hG).1 (kX_35 hG).2 h_19 e_20 dX6_turnOn_21 ?_
        refine lv_aload_n hx hb dX6_turnOn_22 rfl (lv_at hl 0 rfl) ?_
        refine r_getr (C := RX6) (T := TX6) (N := 12) (k' := 35) S hK hw (kX_0 hG).1 (kX_0 hG).2 rfl hinX6 11 (by decide) (o := 35) rfl rfl (hts (.fieldLink RX6 66 "SoupByRank" "turns" "[I") (by decide +kernel)) rfl dX6_turnOn_23 ?_
        refine lv_iload_n hx hb dX6_turnOn_26 rfl (lv_at hl 2 rfl) ?_
        refine lv_iconst (v := 1) hx hb dX6_turnOn_27 (by decide) ?_
        refine lv_iadd hx hb dX6_turnOn_28 ?_
        obtain ⟨h_22, x_21, e_23, hg⟩ := rdA_e hg
        refine r_iald S hK hw (kX_35 hG).1 (kX_35 hG).2 h_22 e_23 dX6_turnOn_29 ?_
        refine lv_icmp_le (tgt := 39) hx hb dX6_turnOn_30 (by decide) (fun c_24 => ?_) (fun c_24 => ?_)
        · have hg := it_p hg c_24
          exact J39 v1 v2 _ _ _ _ hg hw (lv_sub hl [0, 1, 2] rfl)
        · have hg := it_n hg c_24
          refine lv_iinc (v := (v2 + (-1))) (lv' := [(2, .int (v2 + (-1))), (0, .ref (gAd G 0)), (1, .int v1)]) hx hb dX6_turnOn_33 hl (k := 2) rfl rfl (by decide) rfl (fun ls hl => ?_)
          refine lv_goto (tgt := 12) hx hb dX6_turnOn_36 (by decide) ?_
          exact ih12 _ _ _ _ _ hg hw (lv_sub hl [1, 2, 0] rfl)
  rw [g_X6_turnOn] at hg
  refine lv_aload_n hx hb dX6_turnOn_0 rfl (lv_at hl 0 rfl) ?_
  refine r_getr (C := RX6) (T := TX6) (N := 12) (k' := 6) S hK hw (kX_0 hG).1 (kX_0 hG).2 rfl hinX6 1 (by decide) (o := 6) rfl rfl (hts (.fieldLink RX6 16 "SoupByRank" "thought" "LSoupByRank$Court;") (by decide +kernel)) rfl dX6_turnOn_1 ?_
  refine r_getN (C := RX1) (T := TX1) (N := 9) (host := RX6) S hK hw (kX_6 hG).1 (kX_6 hG).2 rfl hinX1 0 (by decide) rfl (by decide +kernel) rfl dX6_turnOn_4 ?_
  refine lv_istore_n (lv' := [(1, .int (σ 6 0)), (0, .ref (gAd G 0))]) hx hb dX6_turnOn_7 rfl hl (by decide) rfl (fun ls hl => ?_)
  refine lv_iload_n hx hb dX6_turnOn_8 rfl (lv_at hl 0 rfl) ?_
  refine lv_iconst (v := 2) hx hb dX6_turnOn_9 (by decide) ?_
  refine lv_isub hx hb dX6_turnOn_10 ?_
  refine lv_istore_n (lv' := [(2, .int ((σ 6 0) - 2)), (1, .int (σ 6 0)), (0, .ref (gAd G 0))]) hx hb dX6_turnOn_11 rfl hl (by decide) rfl (fun ls hl => ?_)
  exact L12 (σ 6 0) F _ _ _ _ _ hg hw (lv_sub hl [2, 1, 0] rfl)
set_option maxHeartbeats 4000000 in
set_option maxRecDepth 100000 in
theorem c_X6_order (l : Launch) {G : GW} {N : Nat} {ln : Nat → Nat} {cT cS : ClassId} (hG : isX G N ln cT cS) {F sz : Nat} {a1 : Int32} {σ σR : Sg} {r : Int32} (hg : g_X6_order F N ln a1 σ = some (σR, r)) : Met l yX6_order wsX6_order ({ frames := 6, cells := 0, slots := 0, locals := 181 } : Room) (va_Pc [.ref (gAd G 0), .int a1] (PX G σ sz)) (QcI G (gA G sz) σR r) 0 0 (gA G sz) := by
  refine metX (by decide) rfl (Nat.le_of_ble_eq_true rfl) ?_
  intro p e s m args below meth c ls S hr hlk hsz hA hK hw hl hmn
  have S : CallFix p m c cX6_order 3 s args wsX6_order RX6 := S
  obtain ⟨hx, hb, hml, hown, hts⟩ := id S
  have hl : lv_has ls 3 [(0, .ref (gAd G 0)), (1, .int a1)] := hl
  have hinX6 : ∀ w ∈ wsX60, w ∈ wsX6_order := by decide +kernel
  have J105 : ∀ (v1 : Int32) (σ : Sg) (H : Heap) (locs : List Loc) (ls : Array Slot) (hg : g_X6_order_b105 F N ln v1 σ = some (σR, r)) (hw : XD G (gA G sz) s.heap σ H locs) (hl : lv_has ls 3 [(0, .ref (gAd G 0)), (1, .int v1)]), W p l e (headSpec wsX6_order ({ frames := 6, cells := 0, slots := 0, locals := 181 } : Room)).room s m args below meth c H locs 0 0 (MQ below (QcI G (gA G sz) σR r) args s 0 0 (gA G sz)) (F0 m 105 ls []) := by
    intro v1 σ H locs ls hg hw hl
    rw [g_X6_order_b105] at hg
    refine lv_aload_n hx hb dX6_order_105 rfl (lv_at hl 0 rfl) ?_
    refine r_getr (C := RX6) (T := TX6) (N := 12) (k' := 25) S hK hw (kX_0 hG).1 (kX_0 hG).2 rfl hinX6 5 (by decide) (o := 25) rfl rfl (hts (.fieldLink RX6 32 "SoupByRank" "best" "LSoupByRank$Best;") (by decide +kernel)) rfl dX6_order_106 ?_
    refine lv_iload_n hx hb dX6_order_109 rfl (lv_at hl 1 rfl) ?_
    obtain ⟨s_1, x_2, h_3, hg⟩ := bnI_e hg
    refine r_iV (As := [.int v1]) (rest := []) S hA hK hw (c_X0_answer l hG  h_3) (cwV 1 hts gX6_order_X0_answer rfl rfl rfl (by decide +kernel) ⟨Nat.le_of_ble_eq_true rfl, Nat.le_of_ble_eq_true rfl⟩) (r_recv hK hw (kX_25 hG).1 (kX_25 hG).2 rfl) rfl hl.1 (Nat.le_of_ble_eq_true rfl) dX6_order_110 ⟨Nat.zero_le _, Nat.zero_le _⟩ rfl (fun H locs hw => ?_)
    exact r_ireti S hr hlk hw.2.2.2.2 hw hg dX6_order_113
  have L59 : ∀ (v1 : Int32) (n59 : Nat) (v2 : Int32) (σ : Sg) (H : Heap) (locs : List Loc) (ls : Array Slot) (hg : g_X6_order_l59 F N ln v1 n59 v2 σ = some (σR, r)) (hw : XD G (gA G sz) s.heap σ H locs) (hl : lv_has ls 3 [(0, .ref (gAd G 0)), (1, .int v1), (2, .int v2)]), W p l e (headSpec wsX6_order ({ frames := 6, cells := 0, slots := 0, locals := 181 } : Room)).room s m args below meth c H locs 0 0 (MQ below (QcI G (gA G sz) σR r) args s 0 0 (gA G sz)) (F0 m 59 ls []) := by
    intro v1
    intro n59
    induction n59 with
    | zero => intro v2 σ H locs ls hg hw hl; exact no_e hg
    | succ n59 ih59 =>
      intro v2 σ H locs ls hg hw hl
      rw [g_X6_order_l59] at hg
      refine lv_iload_n hx hb dX6_order_59 rfl (lv_at hl 2 rfl) ?_
      refine lv_sipush (v := 720) hx hb dX6_order_60 (by decide) ?_
      refine lv_icmp_ge (tgt := 105) hx hb dX6_order_63 (by decide) (fun c_4 => ?_) (fun c_4 => ?_)
      · have hg := it_p hg c_4
        exact J105 v1 _ _ _ _ hg hw (lv_sub hl [0, 1] rfl)
      · have hg := it_n hg c_4
        refine lv_aload_n hx hb dX6_order_66 rfl (lv_at hl 0 rfl) ?_
        obtain ⟨s_5, h_7, hg⟩ := bnV_e hg
        refine r_vV (As := []) (rest := []) S hA hK hw (c_X6_rankByTurns l hG  h_7) (cwV 0 hts gX6_order_X6_rankByTurns rfl rfl rfl (by decide +kernel) ⟨Nat.le_of_ble_eq_true rfl, Nat.le_of_ble_eq_true rfl⟩) (r_recv hK hw (kX_0 hG).1 (kX_0 hG).2 rfl) rfl hl.1 (Nat.le_of_ble_eq_true rfl) dX6_order_67 ⟨Nat.zero_le _, Nat.zero_le _⟩ rfl (fun H locs hw => ?_)
        refine lv_aload_n hx hb dX6_order_70 rfl (lv_at hl 0 rfl) ?_
        refine r_getr (C := RX6) (T := TX6) (N := 12) (k' := 25) S hK hw (kX_0 hG).1 (kX_0 hG).2 rfl hinX6 5 (by decide) (o := 25) rfl rfl (hts (.fieldLink RX6 32 "SoupByRank" "best" "LSoupByRank$Best;") (by decide +kernel)) rfl dX6_order_71 ?_
        refine lv_aload_n hx hb dX6_order_74 rfl (lv_at hl 0 rfl) ?_
        obtain ⟨s_8, x_9, h_10, hg⟩ := bnI_e hg
        refine r_iV (As := []) (rest := [.ref (gAd G 25)]) S hA hK hw (c_X6_digitsOfTurns l hG  h_10) (cwV 0 hts gX6_order_X6_digitsOfTurns rfl rfl rfl (by decide +kernel) ⟨Nat.le_of_ble_eq_true rfl, Nat.le_of_ble_eq_true rfl⟩) (r_recv hK hw (kX_0 hG).1 (kX_0 hG).2 rfl) rfl hl.1 (Nat.le_of_ble_eq_true rfl) dX6_order_75 ⟨Nat.zero_le _, Nat.zero_le _⟩ rfl (fun H locs hw => ?_)
        refine lv_aload_n hx hb dX6_order_78 rfl (lv_at hl 0 rfl) ?_
        refine lv_aload_n hx hb dX6_order_79 rfl (lv_at hl 0 rfl) ?_
        refine r_getr (C := RX6) (T := TX6) (N := 12) (k' := 6) S hK hw (kX_0 hG).1 (kX_0 hG).2 rfl hinX6 1 (by decide) (o := 6) rfl rfl (hts (.fieldLink RX6 16 "SoupByRank" "thought" "LSoupByRank$Court;") (by decide +kernel)) rfl dX6_order_80 ?_
        obtain ⟨s_11, x_12, h_13, hg⟩ := bnI_e hg
        refine r_iV (As := [.ref (gAd G 6)]) (rest := [.int x_9, .ref (gAd G 25)]) S hA hK hw (c_X6_serve l hG isCt_6 h_13) (cwV 1 hts gX6_order_X6_serve rfl rfl rfl (by decide +kernel) ⟨Nat.le_of_ble_eq_true rfl, Nat.le_of_ble_eq_true rfl⟩) (r_recv hK hw (kX_0 hG).1 (kX_0 hG).2 rfl) rfl hl.1 (Nat.le_of_ble_eq_true rfl) dX6_order_83 ⟨Nat.zero_le _, Nat.zero_le _⟩ rfl (fun H locs hw => ?_)
        obtain ⟨s_14, h_16, hg⟩ := bnV_e hg
        refine r_vV (As := [.int x_9, .int x_12]) (rest := []) S hA hK hw (c_X0_weigh l hG  h_16) (cwV 2 hts gX6_order_X0_weigh rfl rfl rfl (by decide +kernel) ⟨Nat.le_of_ble_eq_true rfl, Nat.le_of_ble_eq_true rfl⟩) (r_recv hK hw (kX_25 hG).1 (kX_25 hG).2 rfl) rfl hl.1 (Nat.le_of_ble_eq_true rfl) dX6_order_86 ⟨Nat.zero_le _, Nat.zero_le _⟩ rfl (fun H locs hw => ?_)
        refine lv_aload_n hx hb dX6_order_89 rfl (lv_at hl 0 rfl) ?_
        obtain ⟨s_17, x_18, h_19, hg⟩ := bnI_e hg
        refine r_iV (As := []) (rest := []) S hA hK hw (c_X6_turnOn l hG  h_19) (cwV 0 hts gX6_order_X6_turnOn rfl rfl rfl (by decide +kernel) ⟨Nat.le_of_ble_eq_true rfl, Nat.le_of_ble_eq_true rfl⟩) (r_recv hK hw (kX_0 hG).1 (kX_0 hG).2 rfl) rfl hl.1 (Nat.le_of_ble_eq_true rfl) dX6_order_90 ⟨Nat.zero_le _, Nat.zero_le _⟩ rfl (fun H locs hw => ?_)
        refine lv_if_ne (tgt := 99) hx hb dX6_order_93 (by decide) (fun c_20 => ?_) (fun c_20 => ?_)
        · have hg := it_n hg c_20
          refine lv_iinc (v := (v2 + 1)) (lv' := [(2, .int (v2 + 1)), (0, .ref (gAd G 0)), (1, .int v1)]) hx hb dX6_order_99 hl (k := 2) rfl rfl (by decide) rfl (fun ls hl => ?_)
          refine lv_goto (tgt := 59) hx hb dX6_order_102 (by decide) ?_
          exact ih59 _ _ _ _ _ hg hw (lv_sub hl [1, 2, 0] rfl)
        · have hg := it_p hg c_20
          refine lv_goto (tgt := 105) hx hb dX6_order_96 (by decide) ?_
          exact J105 v1 _ _ _ _ hg hw (lv_sub hl [0, 1] rfl)
  have L25 : ∀ (v1 : Int32) (n25 : Nat) (v2 : Int32) (σ : Sg) (H : Heap) (locs : List Loc) (ls : Array Slot) (hg : g_X6_order_l25 F N ln v1 n25 v2 σ = some (σR, r)) (hw : XD G (gA G sz) s.heap σ H locs) (hl : lv_has ls 3 [(0, .ref (gAd G 0)), (1, .int v1), (2, .int v2)]), W p l e (headSpec wsX6_order ({ frames := 6, cells := 0, slots := 0, locals := 181 } : Room)).room s m args below meth c H locs 0 0 (MQ below (QcI G (gA G sz) σR r) args s 0 0 (gA G sz)) (F0 m 25 ls []) := by
    intro v1
    intro n25
    induction n25 with
    | zero => intro v2 σ H locs ls hg hw hl; exact no_e hg
    | succ n25 ih25 =>
      intro v2 σ H locs ls hg hw hl
      rw [g_X6_order_l25] at hg
      refine lv_iload_n hx hb dX6_order_25 rfl (lv_at hl 2 rfl) ?_
      refine lv_aload_n hx hb dX6_order_26 rfl (lv_at hl 0 rfl) ?_
      refine r_getr (C := RX6) (T := TX6) (N := 12) (k' := 35) S hK hw (kX_0 hG).1 (kX_0 hG).2 rfl hinX6 11 (by decide) (o := 35) rfl rfl (hts (.fieldLink RX6 66 "SoupByRank" "turns" "[I") (by decide +kernel)) rfl dX6_order_27 ?_
      refine r_alen S hK hw (kX_35 hG).1 (kX_35 hG).2 dX6_order_30 ?_
      refine lv_icmp_ge (tgt := 47) hx hb dX6_order_31 (by decide) (fun c_21 => ?_) (fun c_21 => ?_)
      · have hg := it_p hg c_21
        refine lv_aload_n hx hb dX6_order_47 rfl (lv_at hl 0 rfl) ?_
        refine r_getr (C := RX6) (T := TX6) (N := 12) (k' := 25) S hK hw (kX_0 hG).1 (kX_0 hG).2 rfl hinX6 5 (by decide) (o := 25) rfl rfl (hts (.fieldLink RX6 32 "SoupByRank" "best" "LSoupByRank$Best;") (by decide +kernel)) rfl dX6_order_48 ?_
        refine lv_iconst (v := 0) hx hb dX6_order_51 (by decide) ?_
        refine lv_ldc (v := 1000000) hx hb hown (hts (.constant RX6 191 (1000000)) (by decide +kernel)) dX6_order_52 ?_
        obtain ⟨s_22, h_24, hg⟩ := bnV_e hg
        refine r_vV (As := [.int 0, .int 1000000]) (rest := []) S hA hK hw (c_X0_begin l hG  h_24) (cwV 2 hts gX6_order_X0_begin rfl rfl rfl (by decide +kernel) ⟨Nat.le_of_ble_eq_true rfl, Nat.le_of_ble_eq_true rfl⟩) (r_recv hK hw (kX_25 hG).1 (kX_25 hG).2 rfl) rfl hl.1 (Nat.le_of_ble_eq_true rfl) dX6_order_54 ⟨Nat.zero_le _, Nat.zero_le _⟩ rfl (fun H locs hw => ?_)
        refine lv_iconst (v := 0) hx hb dX6_order_57 (by decide) ?_
        refine lv_istore_n (lv' := [(2, .int 0), (0, .ref (gAd G 0)), (1, .int v1)]) hx hb dX6_order_58 rfl hl (by decide) rfl (fun ls hl => ?_)
        exact L59 v1 F _ _ _ _ _ hg hw (lv_sub hl [1, 2, 0] rfl)
      · have hg := it_n hg c_21
        refine lv_aload_n hx hb dX6_order_34 rfl (lv_at hl 0 rfl) ?_
        refine r_getr (C := RX6) (T := TX6) (N := 12) (k' := 35) S hK hw (kX_0 hG).1 (kX_0 hG).2 rfl hinX6 11 (by decide) (o := 35) rfl rfl (hts (.fieldLink RX6 66 "SoupByRank" "turns" "[I") (by decide +kernel)) rfl dX6_order_35 ?_
        refine lv_iload_n hx hb dX6_order_38 rfl (lv_at hl 2 rfl) ?_
        refine lv_iload_n hx hb dX6_order_39 rfl (lv_at hl 2 rfl) ?_
        obtain ⟨h_26, s_25, e_27, hg⟩ := wrA_e hg
        refine r_iast S hK hw (kX_35 hG).1 (kX_35 hG).2 h_26 e_27 dX6_order_40 (fun H locs hw => ?_)
        refine lv_iinc (v := (v2 + 1)) (lv' := [(2, .int (v2 + 1)), (0, .ref (gAd G 0)), (1, .int v1)]) hx hb dX6_order_41 hl (k := 2) rfl rfl (by decide) rfl (fun ls hl => ?_)
        refine lv_goto (tgt := 25) hx hb dX6_order_44 (by decide) ?_
        exact ih25 _ _ _ _ _ hg hw (lv_sub hl [1, 2, 0] rfl)
  rw [g_X6_order] at hg
  refine lv_iload_n hx hb dX6_order_0 rfl (lv_at hl 1 rfl) ?_
  refine lv_iconst (v := 0) hx hb dX6_order_1 (by decide) ?_
  refine lv_iconst (v := 1) hx hb dX6_order_2 (by decide) ?_
  obtain ⟨s_28, x_29, h_30, hg⟩ := bnI_e hg
  refine r_iS (As := [.int a1, .int 0, .int 1]) (rest := []) S hA hK hw (c_X6_isWithin l hG  h_30) (va_cwS 3 hts gX6_order_X6_isWithin rfl rfl rfl (by decide +kernel) ⟨Nat.le_of_ble_eq_true rfl, Nat.le_of_ble_eq_true rfl⟩) rfl hl.1 (Nat.le_of_ble_eq_true rfl) dX6_order_3 ⟨Nat.zero_le _, Nat.zero_le _⟩ rfl (fun H locs hw => ?_)
  refine lv_if_ne (tgt := 12) hx hb dX6_order_6 (by decide) (fun c_31 => ?_) (fun c_31 => ?_)
  · have hg := it_n hg c_31
    refine lv_aload_n hx hb dX6_order_12 rfl (lv_at hl 0 rfl) ?_
    refine r_getr (C := RX6) (T := TX6) (N := 12) (k' := 6) S hK hw (kX_0 hG).1 (kX_0 hG).2 rfl hinX6 1 (by decide) (o := 6) rfl rfl (hts (.fieldLink RX6 16 "SoupByRank" "thought" "LSoupByRank$Court;") (by decide +kernel)) rfl dX6_order_13 ?_
    refine lv_aload_n hx hb dX6_order_16 rfl (lv_at hl 0 rfl) ?_
    refine r_getr (C := RX6) (T := TX6) (N := 12) (k' := 1) S hK hw (kX_0 hG).1 (kX_0 hG).2 rfl hinX6 0 (by decide) (o := 1) rfl rfl (hts (.fieldLink RX6 10 "SoupByRank" "court" "LSoupByRank$Court;") (by decide +kernel)) rfl dX6_order_17 ?_
    obtain ⟨s_32, h_34, hg⟩ := bnV_e hg
    refine r_vV (As := [.ref (gAd G 1)]) (rest := []) S hA hK hw (c_X1_takeFrom l hG isCt_6 isCt_1 h_34) (cwV 1 hts gX6_order_X1_takeFrom rfl rfl rfl (by decide +kernel) ⟨Nat.le_of_ble_eq_true rfl, Nat.le_of_ble_eq_true rfl⟩) (r_recv hK hw (kX_6 hG).1 (kX_6 hG).2 rfl) rfl hl.1 (Nat.le_of_ble_eq_true rfl) dX6_order_20 ⟨Nat.zero_le _, Nat.zero_le _⟩ rfl (fun H locs hw => ?_)
    refine lv_iconst (v := 0) hx hb dX6_order_23 (by decide) ?_
    refine lv_istore_n (lv' := [(2, .int 0), (0, .ref (gAd G 0)), (1, .int a1)]) hx hb dX6_order_24 rfl hl (by decide) rfl (fun ls hl => ?_)
    exact L25 a1 F _ _ _ _ _ hg hw (lv_sub hl [1, 2, 0] rfl)
  · have hg := it_p hg c_31
    refine lv_ldc (v := (-100000)) hx hb hown (hts (.constant RX6 179 (-100000)) (by decide +kernel)) dX6_order_9 ?_
    exact r_ireti S hr hlk hw.2.2.2.2 hw hg dX6_order_11
set_option maxHeartbeats 4000000 in
set_option maxRecDepth 100000 in
theorem c_X6_inLowestTerms (l : Launch) {G : GW} {N : Nat} {ln : Nat → Nat} {cT cS : ClassId} (hG : isX G N ln cT cS) {F sz : Nat} {a0 : Int32} {a1 : Int32} {a2 : Int32} {σ σR : Sg} {r : Int64} (hg : g_X6_inLowestTerms F N ln a0 a1 a2 σ = some (σR, r)) : Met l yX6_inLowestTerms wsX6_inLowestTerms ({ frames := 0, cells := 0, slots := 0, locals := 0 } : Room) (va_Pc [.int a0, .int a1, .int a2] (PX G σ sz)) (QcL G (gA G sz) σR r) 0 0 (gA G sz) := by
  refine metX (by decide) rfl (Nat.le_of_ble_eq_true rfl) ?_
  intro p e s m args below meth c ls S hr hlk hsz hA hK hw hl hmn
  have S : CallFix p m c cX6_inLowestTerms 7 s args wsX6_inLowestTerms RX6 := S
  obtain ⟨hx, hb, hml, hown, hts⟩ := id S
  have hl : lv_has ls 7 [(0, .int a0), (1, .int a1), (2, .int a2)] := hl
  have J48 : ∀ (v3 : Int32) (u0 : Int32) (σ : Sg) (H : Heap) (locs : List Loc) (ls : Array Slot) (hg : g_X6_inLowestTerms_b48 F N ln v3 u0 σ = some (σR, r)) (hw : XD G (gA G sz) s.heap σ H locs) (hl : lv_has ls 7 [(3, .int v3)]), W p l e (headSpec wsX6_inLowestTerms ({ frames := 0, cells := 0, slots := 0, locals := 0 } : Room)).room s m args below meth c H locs 0 0 (MQ below (QcL G (gA G sz) σR r) args s 0 0 (gA G sz)) (F0 m 48 ls [.int u0]) := by
    intro v3 u0 σ H locs ls hg hw hl
    rw [g_X6_inLowestTerms_b48] at hg
    refine lv_istore (lv' := [(5, .int u0), (3, .int v3)]) hx hb dX6_inLowestTerms_48 hl (by decide) rfl (fun ls hl => ?_)
    refine lv_iload_n hx hb dX6_inLowestTerms_50 rfl (lv_at hl 1 rfl) ?_
    refine lv_if_ne (tgt := 60) hx hb dX6_inLowestTerms_51 (by decide) (fun c_1 => ?_) (fun c_1 => ?_)
    · have hg := it_n hg c_1
      refine lv_iload hx hb dX6_inLowestTerms_60 (lv_at hl 0 rfl) ?_
      refine lv_iload_n hx hb dX6_inLowestTerms_62 rfl (lv_at hl 1 rfl) ?_
      obtain ⟨h_3, hg⟩ := divI_e hg
      refine lv_idiv hx hb dX6_inLowestTerms_63 h_3 ?_
      refine lv_i2l (v := (Int32.toInt64 (u0 / v3))) hx hb dX6_inLowestTerms_64 rfl ?_
      exact r_lreti S hr hlk hw.2.2.2.2 hw hg dX6_inLowestTerms_65
    · have hg := it_p hg c_1
      refine lv_iload hx hb dX6_inLowestTerms_54 (lv_at hl 0 rfl) ?_
      refine lv_i2l (v := (Int32.toInt64 u0)) hx hb dX6_inLowestTerms_56 rfl ?_
      refine lv_goto (tgt := 65) hx hb dX6_inLowestTerms_57 (by decide) ?_
      exact r_lreti S hr hlk hw.2.2.2.2 hw hg dX6_inLowestTerms_65
  have J39 : ∀ (v0 : Int32) (v1 : Int32) (v2 : Int32) (v3 : Int32) (σ : Sg) (H : Heap) (locs : List Loc) (ls : Array Slot) (hg : g_X6_inLowestTerms_b39 F N ln v0 v1 v2 v3 σ = some (σR, r)) (hw : XD G (gA G sz) s.heap σ H locs) (hl : lv_has ls 7 [(0, .int v0), (1, .int v1), (2, .int v2), (3, .int v3)]), W p l e (headSpec wsX6_inLowestTerms ({ frames := 0, cells := 0, slots := 0, locals := 0 } : Room)).room s m args below meth c H locs 0 0 (MQ below (QcL G (gA G sz) σR r) args s 0 0 (gA G sz)) (F0 m 39 ls []) := by
    intro v0 v1 v2 v3 σ H locs ls hg hw hl
    rw [g_X6_inLowestTerms_b39] at hg
    refine lv_iload_n hx hb dX6_inLowestTerms_39 rfl (lv_at hl 2 rfl) ?_
    refine lv_if_ne (tgt := 47) hx hb dX6_inLowestTerms_40 (by decide) (fun c_5 => ?_) (fun c_5 => ?_)
    · have hg := it_n hg c_5
      refine lv_iload_n hx hb dX6_inLowestTerms_47 rfl (lv_at hl 1 rfl) ?_
      exact J48 v3 v1 _ _ _ _ hg hw (lv_sub hl [3] rfl)
    · have hg := it_p hg c_5
      refine lv_iload_n hx hb dX6_inLowestTerms_43 rfl (lv_at hl 0 rfl) ?_
      refine lv_goto (tgt := 48) hx hb dX6_inLowestTerms_44 (by decide) ?_
      exact J48 v3 v0 _ _ _ _ hg hw (lv_sub hl [3] rfl)
  have L8 : ∀ (v0 : Int32) (v1 : Int32) (v2 : Int32) (n8 : Nat) (v3 : Int32) (v4 : Int32) (v5 : Int32) (σ : Sg) (H : Heap) (locs : List Loc) (ls : Array Slot) (hg : g_X6_inLowestTerms_l8 F N ln v0 v1 v2 n8 v3 v4 v5 σ = some (σR, r)) (hw : XD G (gA G sz) s.heap σ H locs) (hl : lv_has ls 7 [(0, .int v0), (1, .int v1), (2, .int v2), (3, .int v3), (4, .int v4), (5, .int v5)]), W p l e (headSpec wsX6_inLowestTerms ({ frames := 0, cells := 0, slots := 0, locals := 0 } : Room)).room s m args below meth c H locs 0 0 (MQ below (QcL G (gA G sz) σR r) args s 0 0 (gA G sz)) (F0 m 8 ls []) := by
    intro v0 v1 v2
    intro n8
    induction n8 with
    | zero => intro v3 v4 v5 σ H locs ls hg hw hl; exact no_e hg
    | succ n8 ih8 =>
      intro v3 v4 v5 σ H locs ls hg hw hl
      rw [g_X6_inLowestTerms_l8] at hg
      refine lv_iload hx hb dX6_inLowestTerms_8 (lv_at hl 5 rfl) ?_
      refine lv_bipush (v := 100) hx hb dX6_inLowestTerms_10 (by decide) ?_
      refine lv_icmp_ge (tgt := 39) hx hb dX6_inLowestTerms_12 (by decide) (fun c_6 => ?_) (fun c_6 => ?_)
      · have hg := it_p hg c_6
        exact J39 v0 v1 v2 v3 _ _ _ _ hg hw (lv_sub hl [0, 1, 2, 3] rfl)
      · have hg := it_n hg c_6
        refine lv_iload hx hb dX6_inLowestTerms_15 (lv_at hl 4 rfl) ?_
        refine lv_if_eq (tgt := 39) hx hb dX6_inLowestTerms_17 (by decide) (fun c_7 => ?_) (fun c_7 => ?_)
        · have hg := it_p hg c_7
          exact J39 v0 v1 v2 v3 _ _ _ _ hg hw (lv_sub hl [0, 1, 2, 3] rfl)
        · have hg := it_n hg c_7
          refine lv_iload_n hx hb dX6_inLowestTerms_20 rfl (lv_at hl 3 rfl) ?_
          refine lv_iload hx hb dX6_inLowestTerms_21 (lv_at hl 4 rfl) ?_
          obtain ⟨h_9, hg⟩ := remI_e hg
          refine lv_irem hx hb dX6_inLowestTerms_23 h_9 ?_
          refine lv_istore (lv' := [(6, .int (v3 - v3 / v4 * v4)), (0, .int v0), (1, .int v1), (2, .int v2), (3, .int v3), (4, .int v4), (5, .int v5)]) hx hb dX6_inLowestTerms_24 hl (by decide) rfl (fun ls hl => ?_)
          refine lv_iload hx hb dX6_inLowestTerms_26 (lv_at hl 5 rfl) ?_
          refine lv_istore_n (lv' := [(3, .int v4), (6, .int (v3 - v3 / v4 * v4)), (0, .int v0), (1, .int v1), (2, .int v2), (4, .int v4), (5, .int v5)]) hx hb dX6_inLowestTerms_28 rfl hl (by decide) rfl (fun ls hl => ?_)
          refine lv_iload hx hb dX6_inLowestTerms_29 (lv_at hl 1 rfl) ?_
          refine lv_istore (lv' := [(4, .int (v3 - v3 / v4 * v4)), (3, .int v4), (6, .int (v3 - v3 / v4 * v4)), (0, .int v0), (1, .int v1), (2, .int v2), (5, .int v5)]) hx hb dX6_inLowestTerms_31 hl (by decide) rfl (fun ls hl => ?_)
          refine lv_iinc (v := (v5 + 1)) (lv' := [(5, .int (v5 + 1)), (4, .int (v3 - v3 / v4 * v4)), (3, .int v4), (6, .int (v3 - v3 / v4 * v4)), (0, .int v0), (1, .int v1), (2, .int v2)]) hx hb dX6_inLowestTerms_33 hl (k := 6) rfl rfl (by decide) rfl (fun ls hl => ?_)
          refine lv_goto (tgt := 8) hx hb dX6_inLowestTerms_36 (by decide) ?_
          exact ih8 _ _ _ _ _ _ _ hg hw (lv_sub hl [4, 5, 6, 2, 1, 0] rfl)
  rw [g_X6_inLowestTerms] at hg
  refine lv_iload_n hx hb dX6_inLowestTerms_0 rfl (lv_at hl 0 rfl) ?_
  refine lv_istore_n (lv' := [(3, .int a0), (0, .int a0), (1, .int a1), (2, .int a2)]) hx hb dX6_inLowestTerms_1 rfl hl (by decide) rfl (fun ls hl => ?_)
  refine lv_iload_n hx hb dX6_inLowestTerms_2 rfl (lv_at hl 2 rfl) ?_
  refine lv_istore (lv' := [(4, .int a1), (3, .int a0), (0, .int a0), (1, .int a1), (2, .int a2)]) hx hb dX6_inLowestTerms_3 hl (by decide) rfl (fun ls hl => ?_)
  refine lv_iconst (v := 0) hx hb dX6_inLowestTerms_5 (by decide) ?_
  refine lv_istore (lv' := [(5, .int 0), (4, .int a1), (3, .int a0), (0, .int a0), (1, .int a1), (2, .int a2)]) hx hb dX6_inLowestTerms_6 hl (by decide) rfl (fun ls hl => ?_)
  exact L8 a0 a1 a2 F _ _ _ _ _ _ _ hg hw (lv_sub hl [3, 4, 5, 2, 1, 0] rfl)
set_option maxHeartbeats 4000000 in
set_option maxRecDepth 100000 in
theorem c_X6_mean (l : Launch) {G : GW} {N : Nat} {ln : Nat → Nat} {cT cS : ClassId} (hG : isX G N ln cT cS) {F sz : Nat} {a1 : Int32} {σ σR : Sg} {r : Int64} (hg : g_X6_mean F N ln a1 σ = some (σR, r)) : Met l yX6_mean wsX6_mean ({ frames := 6, cells := 0, slots := 0, locals := 181 } : Room) (va_Pc [.ref (gAd G 0), .int a1] (PX G σ sz)) (QcL G (gA G sz) σR r) 0 0 (gA G sz) := by
  refine metX (by decide) rfl (Nat.le_of_ble_eq_true rfl) ?_
  intro p e s m args below meth c ls S hr hlk hsz hA hK hw hl hmn
  have S : CallFix p m c cX6_mean 4 s args wsX6_mean RX6 := S
  obtain ⟨hx, hb, hml, hown, hts⟩ := id S
  have hl : lv_has ls 4 [(0, .ref (gAd G 0)), (1, .int a1)] := hl
  have hinX1 : ∀ w ∈ wsX10, w ∈ wsX6_mean := by decide +kernel
  have hinX2 : ∀ w ∈ wsX20, w ∈ wsX6_mean := by decide +kernel
  have hinX6 : ∀ w ∈ wsX60, w ∈ wsX6_mean := by decide +kernel
  have L36 : ∀ (v1 : Int32) (n36 : Nat) (v2 : Int32) (v3 : Int32) (σ : Sg) (H : Heap) (locs : List Loc) (ls : Array Slot) (hg : g_X6_mean_l36 F N ln v1 n36 v2 v3 σ = some (σR, r)) (hw : XD G (gA G sz) s.heap σ H locs) (hl : lv_has ls 4 [(0, .ref (gAd G 0)), (1, .int v1), (2, .int v2), (3, .int v3)]), W p l e (headSpec wsX6_mean ({ frames := 6, cells := 0, slots := 0, locals := 181 } : Room)).room s m args below meth c H locs 0 0 (MQ below (QcL G (gA G sz) σR r) args s 0 0 (gA G sz)) (F0 m 36 ls []) := by
    intro v1
    intro n36
    induction n36 with
    | zero => intro v2 v3 σ H locs ls hg hw hl; exact no_e hg
    | succ n36 ih36 =>
      have J72 : ∀ (v3 : Int32) (u0 : Int32) (u1 : Int32) (σ : Sg) (H : Heap) (locs : List Loc) (ls : Array Slot) (hg : g_X6_mean_b72 F N ln (fun v2_ v3_ σ_ => g_X6_mean_l36 F N ln v1 n36 v2_ v3_ σ_) v1 v3 u0 u1 σ = some (σR, r)) (hw : XD G (gA G sz) s.heap σ H locs) (hl : lv_has ls 4 [(0, .ref (gAd G 0)), (1, .int v1), (3, .int v3)]), W p l e (headSpec wsX6_mean ({ frames := 6, cells := 0, slots := 0, locals := 181 } : Room)).room s m args below meth c H locs 0 0 (MQ below (QcL G (gA G sz) σR r) args s 0 0 (gA G sz)) (F0 m 72 ls [.int u0, .int u1]) := by
        intro v3 u0 u1 σ H locs ls hg hw hl
        rw [g_X6_mean_b72] at hg
        refine lv_iadd hx hb dX6_mean_72 ?_
        refine lv_istore_n (lv' := [(2, .int (u1 + u0)), (0, .ref (gAd G 0)), (1, .int v1), (3, .int v3)]) hx hb dX6_mean_73 rfl hl (by decide) rfl (fun ls hl => ?_)
        refine lv_iinc (v := (v3 + 1)) (lv' := [(3, .int (v3 + 1)), (2, .int (u1 + u0)), (0, .ref (gAd G 0)), (1, .int v1)]) hx hb dX6_mean_74 hl (k := 3) rfl rfl (by decide) rfl (fun ls hl => ?_)
        refine lv_goto (tgt := 36) hx hb dX6_mean_77 (by decide) ?_
        exact ih36 _ _ _ _ _ _ hg hw (lv_sub hl [2, 3, 1, 0] rfl)
      intro v2 v3 σ H locs ls hg hw hl
      rw [g_X6_mean_l36] at hg
      refine lv_iload_n hx hb dX6_mean_36 rfl (lv_at hl 3 rfl) ?_
      refine lv_aload_n hx hb dX6_mean_37 rfl (lv_at hl 0 rfl) ?_
      refine r_getr (C := RX6) (T := TX6) (N := 12) (k' := 1) S hK hw (kX_0 hG).1 (kX_0 hG).2 rfl hinX6 0 (by decide) (o := 1) rfl rfl (hts (.fieldLink RX6 10 "SoupByRank" "court" "LSoupByRank$Court;") (by decide +kernel)) rfl dX6_mean_38 ?_
      refine r_getN (C := RX1) (T := TX1) (N := 9) (host := RX6) S hK hw (kX_1 hG).1 (kX_1 hG).2 rfl hinX1 0 (by decide) rfl (by decide +kernel) rfl dX6_mean_41 ?_
      refine lv_icmp_ge (tgt := 80) hx hb dX6_mean_44 (by decide) (fun c_1 => ?_) (fun c_1 => ?_)
      · have hg := it_p hg c_1
        refine lv_iload_n hx hb dX6_mean_80 rfl (lv_at hl 2 rfl) ?_
        refine lv_aload_n hx hb dX6_mean_81 rfl (lv_at hl 0 rfl) ?_
        refine r_getr (C := RX6) (T := TX6) (N := 12) (k' := 16) S hK hw (kX_0 hG).1 (kX_0 hG).2 rfl hinX6 4 (by decide) (o := 16) rfl rfl (hts (.fieldLink RX6 25 "SoupByRank" "evening" "LSoupByRank$Evening;") (by decide +kernel)) rfl dX6_mean_82 ?_
        refine r_getN (C := RX2) (T := TX2) (N := 11) (host := RX6) S hK hw (kX_16 hG).1 (kX_16 hG).2 rfl hinX2 9 (by decide) rfl (by decide +kernel) rfl dX6_mean_85 ?_
        refine lv_iload_n hx hb dX6_mean_88 rfl (lv_at hl 1 rfl) ?_
        obtain ⟨s_2, x_3, h_4, hg⟩ := bnL_e hg
        refine r_lS (As := [.int v2, .int (σ 16 9), .int v1]) (rest := []) S hA hK hw (c_X6_inLowestTerms l hG  h_4) (va_cwS 3 hts gX6_mean_X6_inLowestTerms rfl rfl rfl (by decide +kernel) ⟨Nat.le_of_ble_eq_true rfl, Nat.le_of_ble_eq_true rfl⟩) rfl hl.1 (Nat.le_of_ble_eq_true rfl) dX6_mean_89 ⟨Nat.zero_le _, Nat.zero_le _⟩ rfl (fun H locs hw => ?_)
        exact r_lreti S hr hlk hw.2.2.2.2 hw hg dX6_mean_92
      · have hg := it_n hg c_1
        refine lv_iload_n hx hb dX6_mean_47 rfl (lv_at hl 2 rfl) ?_
        refine lv_aload_n hx hb dX6_mean_48 rfl (lv_at hl 0 rfl) ?_
        refine r_getr (C := RX6) (T := TX6) (N := 12) (k' := 16) S hK hw (kX_0 hG).1 (kX_0 hG).2 rfl hinX6 4 (by decide) (o := 16) rfl rfl (hts (.fieldLink RX6 25 "SoupByRank" "evening" "LSoupByRank$Evening;") (by decide +kernel)) rfl dX6_mean_49 ?_
        refine lv_iload_n hx hb dX6_mean_52 rfl (lv_at hl 3 rfl) ?_
        obtain ⟨s_5, x_6, h_7, hg⟩ := bnI_e hg
        refine r_iV (As := [.int v3]) (rest := [.int v2]) S hA hK hw (c_X2_hasBegun l hG  h_7) (cwV 1 hts gX6_mean_X2_hasBegun rfl rfl rfl (by decide +kernel) ⟨Nat.le_of_ble_eq_true rfl, Nat.le_of_ble_eq_true rfl⟩) (r_recv hK hw (kX_16 hG).1 (kX_16 hG).2 rfl) rfl hl.1 (Nat.le_of_ble_eq_true rfl) dX6_mean_53 ⟨Nat.zero_le _, Nat.zero_le _⟩ rfl (fun H locs hw => ?_)
        refine lv_if_eq (tgt := 71) hx hb dX6_mean_56 (by decide) (fun c_8 => ?_) (fun c_8 => ?_)
        · have hg := it_p hg c_8
          refine lv_iconst (v := 0) hx hb dX6_mean_71 (by decide) ?_
          exact J72 v3 0 v2 _ _ _ _ hg hw (lv_sub hl [0, 1, 3] rfl)
        · have hg := it_n hg c_8
          refine lv_aload_n hx hb dX6_mean_59 rfl (lv_at hl 0 rfl) ?_
          refine r_getr (C := RX6) (T := TX6) (N := 12) (k' := 16) S hK hw (kX_0 hG).1 (kX_0 hG).2 rfl hinX6 4 (by decide) (o := 16) rfl rfl (hts (.fieldLink RX6 25 "SoupByRank" "evening" "LSoupByRank$Evening;") (by decide +kernel)) rfl dX6_mean_60 ?_
          refine r_getrN (C := RX2) (T := TX2) (N := 11) (host := RX6) (k' := 20) S hK hw (kX_16 hG).1 (kX_16 hG).2 rfl hinX2 3 (by decide) (o := 4) rfl rfl (by decide +kernel) rfl dX6_mean_63 ?_
          refine lv_iload_n hx hb dX6_mean_66 rfl (lv_at hl 3 rfl) ?_
          obtain ⟨h_10, x_9, e_11, hg⟩ := rdA_e hg
          refine r_iald S hK hw (kX_20 hG).1 (kX_20 hG).2 h_10 e_11 dX6_mean_67 ?_
          refine lv_goto (tgt := 72) hx hb dX6_mean_68 (by decide) ?_
          exact J72 v3 x_9 v2 _ _ _ _ hg hw (lv_sub hl [0, 1, 3] rfl)
  rw [g_X6_mean] at hg
  refine lv_aload_n hx hb dX6_mean_0 rfl (lv_at hl 0 rfl) ?_
  refine lv_aload_n hx hb dX6_mean_1 rfl (lv_at hl 0 rfl) ?_
  refine r_getr (C := RX6) (T := TX6) (N := 12) (k' := 1) S hK hw (kX_0 hG).1 (kX_0 hG).2 rfl hinX6 0 (by decide) (o := 1) rfl rfl (hts (.fieldLink RX6 10 "SoupByRank" "court" "LSoupByRank$Court;") (by decide +kernel)) rfl dX6_mean_2 ?_
  obtain ⟨s_12, x_13, h_14, hg⟩ := bnI_e hg
  refine r_iV (As := [.ref (gAd G 1)]) (rest := []) S hA hK hw (c_X6_serve l hG isCt_1 h_14) (cwV 1 hts gX6_mean_X6_serve rfl rfl rfl (by decide +kernel) ⟨Nat.le_of_ble_eq_true rfl, Nat.le_of_ble_eq_true rfl⟩) (r_recv hK hw (kX_0 hG).1 (kX_0 hG).2 rfl) rfl hl.1 (Nat.le_of_ble_eq_true rfl) dX6_mean_5 ⟨Nat.zero_le _, Nat.zero_le _⟩ rfl (fun H locs hw => ?_)
  refine lv_pop hx hb dX6_mean_8 rfl ?_
  refine lv_iload_n hx hb dX6_mean_9 rfl (lv_at hl 1 rfl) ?_
  refine lv_iconst (v := 0) hx hb dX6_mean_10 (by decide) ?_
  refine lv_iconst (v := 1) hx hb dX6_mean_11 (by decide) ?_
  obtain ⟨s_15, x_16, h_17, hg⟩ := bnI_e hg
  refine r_iS (As := [.int a1, .int 0, .int 1]) (rest := []) S hA hK hw (c_X6_isWithin l hG  h_17) (va_cwS 3 hts gX6_mean_X6_isWithin rfl rfl rfl (by decide +kernel) ⟨Nat.le_of_ble_eq_true rfl, Nat.le_of_ble_eq_true rfl⟩) rfl hl.1 (Nat.le_of_ble_eq_true rfl) dX6_mean_12 ⟨Nat.zero_le _, Nat.zero_le _⟩ rfl (fun H locs hw => ?_)
  refine lv_if_eq (tgt := 28) hx hb dX6_mean_15 (by decide) (fun c_18 => ?_) (fun c_18 => ?_)
  · have hg := it_p hg c_18
    refine lv_ldc2 (v := (-4611686018427387904)) hx hb hown (hts (.constantLong RX6 221 (-4611686018427387904)) (by decide +kernel)) dX6_mean_28 ?_
    exact r_lreti S hr hlk hw.2.2.2.2 hw hg dX6_mean_31
  · have hg := it_n hg c_18
    refine lv_aload_n hx hb dX6_mean_18 rfl (lv_at hl 0 rfl) ?_
    refine r_getr (C := RX6) (T := TX6) (N := 12) (k' := 16) S hK hw (kX_0 hG).1 (kX_0 hG).2 rfl hinX6 4 (by decide) (o := 16) rfl rfl (hts (.fieldLink RX6 25 "SoupByRank" "evening" "LSoupByRank$Evening;") (by decide +kernel)) rfl dX6_mean_19 ?_
    refine r_getN (C := RX2) (T := TX2) (N := 11) (host := RX6) S hK hw (kX_16 hG).1 (kX_16 hG).2 rfl hinX2 9 (by decide) rfl (by decide +kernel) rfl dX6_mean_22 ?_
    refine lv_if_ne (tgt := 32) hx hb dX6_mean_25 (by decide) (fun c_19 => ?_) (fun c_19 => ?_)
    · have hg := it_n hg c_19
      refine lv_iconst (v := 0) hx hb dX6_mean_32 (by decide) ?_
      refine lv_istore_n (lv' := [(2, .int 0), (0, .ref (gAd G 0)), (1, .int a1)]) hx hb dX6_mean_33 rfl hl (by decide) rfl (fun ls hl => ?_)
      refine lv_iconst (v := 0) hx hb dX6_mean_34 (by decide) ?_
      refine lv_istore_n (lv' := [(3, .int 0), (2, .int 0), (0, .ref (gAd G 0)), (1, .int a1)]) hx hb dX6_mean_35 rfl hl (by decide) rfl (fun ls hl => ?_)
      exact L36 a1 F _ _ _ _ _ _ hg hw (lv_sub hl [2, 3, 1, 0] rfl)
    · have hg := it_p hg c_19
      refine lv_ldc2 (v := (-4611686018427387904)) hx hb hown (hts (.constantLong RX6 221 (-4611686018427387904)) (by decide +kernel)) dX6_mean_28 ?_
      exact r_lreti S hr hlk hw.2.2.2.2 hw hg dX6_mean_31
set_option maxHeartbeats 4000000 in
set_option maxRecDepth 100000 in
theorem c_X6_isSheet (l : Launch) {G : GW} {N : Nat} {ln : Nat → Nat} {cT cS : ClassId} (hG : isX G N ln cT cS) {F sz : Nat} {a0 : Int32} {σ σR : Sg} {r : Int32} (hg : g_X6_isSheet F N ln a0 σ = some (σR, r)) : Met l yX6_isSheet wsX6_isSheet ({ frames := 1, cells := 0, slots := 0, locals := 22 } : Room) (va_Pc [.int a0] (PX G σ sz)) (QcI G (gA G sz) σR r) 0 0 (gA G sz) := by
  refine metX (by decide) rfl (Nat.le_of_ble_eq_true rfl) ?_
  intro p e s m args below meth c ls S hr hlk hsz hA hK hw hl hmn
  have S : CallFix p m c cX6_isSheet 1 s args wsX6_isSheet RX6 := S
  obtain ⟨hx, hb, hml, hown, hts⟩ := id S
  have hl : lv_has ls 1 [(0, .int a0)] := hl
  rw [g_X6_isSheet] at hg
  refine lv_iload_n hx hb dX6_isSheet_0 rfl (lv_at hl 0 rfl) ?_
  refine lv_iconst (v := 0) hx hb dX6_isSheet_1 (by decide) ?_
  refine lv_iconst (v := 3) hx hb dX6_isSheet_2 (by decide) ?_
  obtain ⟨s_1, x_2, h_3, hg⟩ := bnI_e hg
  refine r_iS (As := [.int a0, .int 0, .int 3]) (rest := []) S hA hK hw (c_X6_isWithin l hG  h_3) (va_cwS 3 hts gX6_isSheet_X6_isWithin rfl rfl rfl (by decide +kernel) ⟨Nat.le_of_ble_eq_true rfl, Nat.le_of_ble_eq_true rfl⟩) rfl hl.1 (Nat.le_of_ble_eq_true rfl) dX6_isSheet_3 ⟨Nat.zero_le _, Nat.zero_le _⟩ rfl (fun H locs hw => ?_)
  obtain ⟨hz, hg⟩ := retZ_e hg
  exact r_iretz S hr (by rcases hz with h | h <;> rw [h] <;> rfl) hlk hw.2.2.2.2 hw hg dX6_isSheet_6
set_option maxHeartbeats 4000000 in
set_option maxRecDepth 100000 in
theorem c_X6_refusalOfTold (l : Launch) {G : GW} {N : Nat} {ln : Nat → Nat} {cT cS : ClassId} (hG : isX G N ln cT cS) {F sz : Nat} {a1 : Int32} {σ σR : Sg} {r : Int32} (hg : g_X6_refusalOfTold F N ln a1 σ = some (σR, r)) : Met l yX6_refusalOfTold wsX6_refusalOfTold ({ frames := 2, cells := 0, slots := 0, locals := 42 } : Room) (va_Pc [.ref (gAd G 0), .int a1] (PX G σ sz)) (QcI G (gA G sz) σR r) 0 0 (gA G sz) := by
  refine metX (by decide) rfl (Nat.le_of_ble_eq_true rfl) ?_
  intro p e s m args below meth c ls S hr hlk hsz hA hK hw hl hmn
  have S : CallFix p m c cX6_refusalOfTold 2 s args wsX6_refusalOfTold RX6 := S
  obtain ⟨hx, hb, hml, hown, hts⟩ := id S
  have hl : lv_has ls 2 [(0, .ref (gAd G 0)), (1, .int a1)] := hl
  have hinX1 : ∀ w ∈ wsX10, w ∈ wsX6_refusalOfTold := by decide +kernel
  have hinX3 : ∀ w ∈ wsX30, w ∈ wsX6_refusalOfTold := by decide +kernel
  have hinX6 : ∀ w ∈ wsX60, w ∈ wsX6_refusalOfTold := by decide +kernel
  rw [g_X6_refusalOfTold] at hg
  refine lv_iload_n hx hb dX6_refusalOfTold_0 rfl (lv_at hl 1 rfl) ?_
  obtain ⟨s_1, x_2, h_3, hg⟩ := bnI_e hg
  refine r_iS (As := [.int a1]) (rest := []) S hA hK hw (c_X6_isSheet l hG  h_3) (va_cwS 1 hts gX6_refusalOfTold_X6_isSheet rfl rfl rfl (by decide +kernel) ⟨Nat.le_of_ble_eq_true rfl, Nat.le_of_ble_eq_true rfl⟩) rfl hl.1 (Nat.le_of_ble_eq_true rfl) dX6_refusalOfTold_1 ⟨Nat.zero_le _, Nat.zero_le _⟩ rfl (fun H locs hw => ?_)
  refine lv_if_ne (tgt := 10) hx hb dX6_refusalOfTold_4 (by decide) (fun c_4 => ?_) (fun c_4 => ?_)
  · have hg := it_n hg c_4
    refine lv_aload_n hx hb dX6_refusalOfTold_10 rfl (lv_at hl 0 rfl) ?_
    refine r_getr (C := RX6) (T := TX6) (N := 12) (k' := 34) S hK hw (kX_0 hG).1 (kX_0 hG).2 rfl hinX6 10 (by decide) (o := 34) rfl rfl (hts (.fieldLink RX6 62 "SoupByRank" "sheets" "[LSoupByRank$Sheet;") (by decide +kernel)) rfl dX6_refusalOfTold_11 ?_
    refine lv_iload_n hx hb dX6_refusalOfTold_14 rfl (lv_at hl 1 rfl) ?_
    obtain ⟨h_6, q_5, e_7, h_q_5, hg⟩ := rdS_e hg
    refine r_aald (t0 := 2) S hK hw (kX_34 hG).1 (kX_34 hG).2 (tyS hG) h_6 e_7 dX6_refusalOfTold_15 ?_
    obtain ⟨s_8, x_9, h_10, hg⟩ := bnI_e hg
    refine r_iV (As := []) (rest := []) S hA hK hw (c_X3_isMissing l hG h_q_5 h_10) (cwV 0 hts gX6_refusalOfTold_X3_isMissing rfl rfl rfl (by decide +kernel) ⟨Nat.le_of_ble_eq_true rfl, Nat.le_of_ble_eq_true rfl⟩) (r_recv hK hw (kS0 hG h_q_5).1 (kS0 hG h_q_5).2 rfl) rfl hl.1 (Nat.le_of_ble_eq_true rfl) dX6_refusalOfTold_16 ⟨Nat.zero_le _, Nat.zero_le _⟩ rfl (fun H locs hw => ?_)
    refine lv_if_eq (tgt := 25) hx hb dX6_refusalOfTold_19 (by decide) (fun c_11 => ?_) (fun c_11 => ?_)
    · have hg := it_p hg c_11
      refine lv_aload_n hx hb dX6_refusalOfTold_25 rfl (lv_at hl 0 rfl) ?_
      refine r_getr (C := RX6) (T := TX6) (N := 12) (k' := 34) S hK hw (kX_0 hG).1 (kX_0 hG).2 rfl hinX6 10 (by decide) (o := 34) rfl rfl (hts (.fieldLink RX6 62 "SoupByRank" "sheets" "[LSoupByRank$Sheet;") (by decide +kernel)) rfl dX6_refusalOfTold_26 ?_
      refine lv_iload_n hx hb dX6_refusalOfTold_29 rfl (lv_at hl 1 rfl) ?_
      obtain ⟨h_13, q_12, e_14, h_q_12, hg⟩ := rdS_e hg
      refine r_aald (t0 := 2) S hK hw (kX_34 hG).1 (kX_34 hG).2 (tyS hG) h_13 e_14 dX6_refusalOfTold_30 ?_
      refine r_getN (C := RX3) (T := TX3) (N := 3) (host := RX6) S hK hw (kS0 hG h_q_12).1 (kS0 hG h_q_12).2 rfl hinX3 1 (by decide) rfl (by decide +kernel) rfl dX6_refusalOfTold_31 ?_
      refine lv_aload_n hx hb dX6_refusalOfTold_34 rfl (lv_at hl 0 rfl) ?_
      refine r_getr (C := RX6) (T := TX6) (N := 12) (k' := 1) S hK hw (kX_0 hG).1 (kX_0 hG).2 rfl hinX6 0 (by decide) (o := 1) rfl rfl (hts (.fieldLink RX6 10 "SoupByRank" "court" "LSoupByRank$Court;") (by decide +kernel)) rfl dX6_refusalOfTold_35 ?_
      refine r_getN (C := RX1) (T := TX1) (N := 9) (host := RX6) S hK hw (kX_1 hG).1 (kX_1 hG).2 rfl hinX1 0 (by decide) rfl (by decide +kernel) rfl dX6_refusalOfTold_38 ?_
      refine lv_icmp_le (tgt := 49) hx hb dX6_refusalOfTold_41 (by decide) (fun c_15 => ?_) (fun c_15 => ?_)
      · have hg := it_p hg c_15
        refine lv_iconst (v := 0) hx hb dX6_refusalOfTold_49 (by decide) ?_
        exact r_ireti S hr hlk hw.2.2.2.2 hw hg dX6_refusalOfTold_50
      · have hg := it_n hg c_15
        refine lv_bipush (v := (-2)) hx hb dX6_refusalOfTold_44 (by decide) ?_
        refine lv_goto (tgt := 50) hx hb dX6_refusalOfTold_46 (by decide) ?_
        exact r_ireti S hr hlk hw.2.2.2.2 hw hg dX6_refusalOfTold_50
    · have hg := it_n hg c_11
      refine lv_bipush (v := (-11)) hx hb dX6_refusalOfTold_22 (by decide) ?_
      exact r_ireti S hr hlk hw.2.2.2.2 hw hg dX6_refusalOfTold_24
  · have hg := it_p hg c_4
    refine lv_bipush (v := (-2)) hx hb dX6_refusalOfTold_7 (by decide) ?_
    exact r_ireti S hr hlk hw.2.2.2.2 hw hg dX6_refusalOfTold_9
set_option maxHeartbeats 4000000 in
set_option maxRecDepth 100000 in
theorem c_X6_firstOtherwise (l : Launch) {G : GW} {N : Nat} {ln : Nat → Nat} {cT cS : ClassId} (hG : isX G N ln cT cS) {F sz : Nat} {ks : Nat} {k : Nat} (h_ks : isSh ks) (h_k : isCt k) {σ σR : Sg} {r : Int32} (hg : g_X6_firstOtherwise F N ln ks k σ = some (σR, r)) : Met l yX6_firstOtherwise wsX6_firstOtherwise ({ frames := 5, cells := 0, slots := 0, locals := 160 } : Room) (va_Pc [.ref (gAd G 0), .ref (gAd G ks), .ref (gAd G k)] (PX G σ sz)) (QcI G (gA G sz) σR r) 0 0 (gA G sz) := by
  refine metX (by decide) rfl (Nat.le_of_ble_eq_true rfl) ?_
  intro p e s m args below meth c ls S hr hlk hsz hA hK hw hl hmn
  have S : CallFix p m c cX6_firstOtherwise 4 s args wsX6_firstOtherwise RX6 := S
  obtain ⟨hx, hb, hml, hown, hts⟩ := id S
  have hl : lv_has ls 4 [(0, .ref (gAd G 0)), (1, .ref (gAd G ks)), (2, .ref (gAd G k))] := hl
  have hinX2 : ∀ w ∈ wsX20, w ∈ wsX6_firstOtherwise := by decide +kernel
  have hinX3 : ∀ w ∈ wsX30, w ∈ wsX6_firstOtherwise := by decide +kernel
  have hinX6 : ∀ w ∈ wsX60, w ∈ wsX6_firstOtherwise := by decide +kernel
  have L16 : ∀ (n16 : Nat) (v3 : Int32) (σ : Sg) (H : Heap) (locs : List Loc) (ls : Array Slot) (hg : g_X6_firstOtherwise_l16 F N ln ks k n16 v3 σ = some (σR, r)) (hw : XD G (gA G sz) s.heap σ H locs) (hl : lv_has ls 4 [(0, .ref (gAd G 0)), (1, .ref (gAd G ks)), (3, .int v3)]), W p l e (headSpec wsX6_firstOtherwise ({ frames := 5, cells := 0, slots := 0, locals := 160 } : Room)).room s m args below meth c H locs 0 0 (MQ below (QcI G (gA G sz) σR r) args s 0 0 (gA G sz)) (F0 m 16 ls []) := by
    intro n16
    induction n16 with
    | zero => intro v3 σ H locs ls hg hw hl; exact no_e hg
    | succ n16 ih16 =>
      intro v3 σ H locs ls hg hw hl
      rw [g_X6_firstOtherwise_l16] at hg
      refine lv_iload_n hx hb dX6_firstOtherwise_16 rfl (lv_at hl 2 rfl) ?_
      refine lv_aload_n hx hb dX6_firstOtherwise_17 rfl (lv_at hl 1 rfl) ?_
      refine r_getN (C := RX3) (T := TX3) (N := 3) (host := RX6) S hK hw (kS0 hG h_ks).1 (kS0 hG h_ks).2 rfl hinX3 1 (by decide) rfl (by decide +kernel) rfl dX6_firstOtherwise_18 ?_
      refine lv_icmp_ge (tgt := 56) hx hb dX6_firstOtherwise_21 (by decide) (fun c_1 => ?_) (fun c_1 => ?_)
      · have hg := it_p hg c_1
        refine lv_iconst (v := (-1)) hx hb dX6_firstOtherwise_56 (by decide) ?_
        exact r_ireti S hr hlk hw.2.2.2.2 hw hg dX6_firstOtherwise_57
      · have hg := it_n hg c_1
        refine lv_iload_n hx hb dX6_firstOtherwise_24 rfl (lv_at hl 2 rfl) ?_
        refine lv_bipush (v := 6) hx hb dX6_firstOtherwise_25 (by decide) ?_
        refine lv_icmp_ge (tgt := 56) hx hb dX6_firstOtherwise_27 (by decide) (fun c_2 => ?_) (fun c_2 => ?_)
        · have hg := it_p hg c_2
          refine lv_iconst (v := (-1)) hx hb dX6_firstOtherwise_56 (by decide) ?_
          exact r_ireti S hr hlk hw.2.2.2.2 hw hg dX6_firstOtherwise_57
        · have hg := it_n hg c_2
          refine lv_aload_n hx hb dX6_firstOtherwise_30 rfl (lv_at hl 1 rfl) ?_
          refine r_getrN (C := RX3) (T := TX3) (N := 3) (host := RX6) (k' := (ks + 1)) S hK hw (kS0 hG h_ks).1 (kS0 hG h_ks).2 rfl hinX3 2 (by decide) (o := 1) rfl rfl (by decide +kernel) rfl dX6_firstOtherwise_31 ?_
          refine lv_iload_n hx hb dX6_firstOtherwise_34 rfl (lv_at hl 2 rfl) ?_
          obtain ⟨h_4, x_3, e_5, hg⟩ := rdA_e hg
          refine r_iald S hK hw (kS1 hG h_ks).1 (kS1 hG h_ks).2 h_4 e_5 dX6_firstOtherwise_35 ?_
          refine lv_aload_n hx hb dX6_firstOtherwise_36 rfl (lv_at hl 0 rfl) ?_
          refine r_getr (C := RX6) (T := TX6) (N := 12) (k' := 16) S hK hw (kX_0 hG).1 (kX_0 hG).2 rfl hinX6 4 (by decide) (o := 16) rfl rfl (hts (.fieldLink RX6 25 "SoupByRank" "evening" "LSoupByRank$Evening;") (by decide +kernel)) rfl dX6_firstOtherwise_37 ?_
          refine r_getrN (C := RX2) (T := TX2) (N := 11) (host := RX6) (k' := 20) S hK hw (kX_16 hG).1 (kX_16 hG).2 rfl hinX2 3 (by decide) (o := 4) rfl rfl (by decide +kernel) rfl dX6_firstOtherwise_40 ?_
          refine lv_iload_n hx hb dX6_firstOtherwise_43 rfl (lv_at hl 2 rfl) ?_
          obtain ⟨h_7, x_6, e_8, hg⟩ := rdA_e hg
          refine r_iald S hK hw (kX_20 hG).1 (kX_20 hG).2 h_7 e_8 dX6_firstOtherwise_44 ?_
          refine lv_icmp_eq (tgt := 50) hx hb dX6_firstOtherwise_45 (by decide) (fun c_9 => ?_) (fun c_9 => ?_)
          · have hg := it_p hg c_9
            refine lv_iinc (v := (v3 + 1)) (lv' := [(3, .int (v3 + 1)), (0, .ref (gAd G 0)), (1, .ref (gAd G ks))]) hx hb dX6_firstOtherwise_50 hl (k := 2) rfl rfl (by decide) rfl (fun ls hl => ?_)
            refine lv_goto (tgt := 16) hx hb dX6_firstOtherwise_53 (by decide) ?_
            exact ih16 _ _ _ _ _ hg hw (lv_sub hl [1, 2, 0] rfl)
          · have hg := it_n hg c_9
            refine lv_iload_n hx hb dX6_firstOtherwise_48 rfl (lv_at hl 2 rfl) ?_
            exact r_ireti S hr hlk hw.2.2.2.2 hw hg dX6_firstOtherwise_49
  rw [g_X6_firstOtherwise] at hg
  refine lv_aload_n hx hb dX6_firstOtherwise_0 rfl (lv_at hl 0 rfl) ?_
  refine r_getr (C := RX6) (T := TX6) (N := 12) (k' := 16) S hK hw (kX_0 hG).1 (kX_0 hG).2 rfl hinX6 4 (by decide) (o := 16) rfl rfl (hts (.fieldLink RX6 25 "SoupByRank" "evening" "LSoupByRank$Evening;") (by decide +kernel)) rfl dX6_firstOtherwise_1 ?_
  refine lv_aload_n hx hb dX6_firstOtherwise_4 rfl (lv_at hl 2 rfl) ?_
  refine lv_aload_n hx hb dX6_firstOtherwise_5 rfl (lv_at hl 0 rfl) ?_
  refine lv_aload_n hx hb dX6_firstOtherwise_6 rfl (lv_at hl 2 rfl) ?_
  obtain ⟨s_10, x_11, h_x_11, h_12, hg⟩ := bnT_e hg
  refine r_rV (As := [.ref (gAd G k)]) (rest := [.ref (gAd G k), .ref (gAd G 16)]) S hA hK hw (c_X6_lawOf l hG h_k h_12) (cwV 1 hts gX6_firstOtherwise_X6_lawOf rfl rfl rfl (by decide +kernel) ⟨Nat.le_of_ble_eq_true rfl, Nat.le_of_ble_eq_true rfl⟩) (r_recv hK hw (kX_0 hG).1 (kX_0 hG).2 rfl) rfl hl.1 (Nat.le_of_ble_eq_true rfl) dX6_firstOtherwise_7 ⟨Nat.zero_le _, Nat.zero_le _⟩ rfl (fun H locs hw => ?_)
  obtain ⟨s_13, x_14, h_15, hg⟩ := bnI_e hg
  refine r_iV (As := [.ref (gAd G k), .ref (gAd G (tc x_11))]) (rest := []) S hA hK hw (c_X2_serve l hG h_k h_x_11 h_15) (cwV 2 hts gX6_firstOtherwise_X2_serve rfl rfl rfl (by decide +kernel) ⟨Nat.le_of_ble_eq_true rfl, Nat.le_of_ble_eq_true rfl⟩) (r_recv hK hw (kX_16 hG).1 (kX_16 hG).2 rfl) rfl hl.1 (Nat.le_of_ble_eq_true rfl) dX6_firstOtherwise_10 ⟨Nat.zero_le _, Nat.zero_le _⟩ rfl (fun H locs hw => ?_)
  refine lv_pop hx hb dX6_firstOtherwise_13 rfl ?_
  refine lv_iconst (v := 0) hx hb dX6_firstOtherwise_14 (by decide) ?_
  refine lv_istore_n (lv' := [(3, .int 0), (0, .ref (gAd G 0)), (1, .ref (gAd G ks)), (2, .ref (gAd G k))]) hx hb dX6_firstOtherwise_15 rfl hl (by decide) rfl (fun ls hl => ?_)
  exact L16 F _ _ _ _ _ hg hw (lv_sub hl [1, 2, 0] rfl)
set_option maxHeartbeats 4000000 in
set_option maxRecDepth 100000 in
theorem c_X6_judge (l : Launch) {G : GW} {N : Nat} {ln : Nat → Nat} {cT cS : ClassId} (hG : isX G N ln cT cS) {F sz : Nat} {a1 : Int32} {σ σR : Sg} {r : Int32} (hg : g_X6_judge F N ln a1 σ = some (σR, r)) : Met l yX6_judge wsX6_judge ({ frames := 6, cells := 0, slots := 0, locals := 183 } : Room) (va_Pc [.ref (gAd G 0), .int a1] (PX G σ sz)) (QcI G (gA G sz) σR r) 0 0 (gA G sz) := by
  refine metX (by decide) rfl (Nat.le_of_ble_eq_true rfl) ?_
  intro p e s m args below meth c ls S hr hlk hsz hA hK hw hl hmn
  have S : CallFix p m c cX6_judge 3 s args wsX6_judge RX6 := S
  obtain ⟨hx, hb, hml, hown, hts⟩ := id S
  have hl : lv_has ls 3 [(0, .ref (gAd G 0)), (1, .int a1)] := hl
  have hinX6 : ∀ w ∈ wsX60, w ∈ wsX6_judge := by decide +kernel
  rw [g_X6_judge] at hg
  refine lv_aload_n hx hb dX6_judge_0 rfl (lv_at hl 0 rfl) ?_
  refine lv_iload_n hx hb dX6_judge_1 rfl (lv_at hl 1 rfl) ?_
  obtain ⟨s_1, x_2, h_3, hg⟩ := bnI_e hg
  refine r_iV (As := [.int a1]) (rest := []) S hA hK hw (c_X6_refusalOfTold l hG  h_3) (cwV 1 hts gX6_judge_X6_refusalOfTold rfl rfl rfl (by decide +kernel) ⟨Nat.le_of_ble_eq_true rfl, Nat.le_of_ble_eq_true rfl⟩) (r_recv hK hw (kX_0 hG).1 (kX_0 hG).2 rfl) rfl hl.1 (Nat.le_of_ble_eq_true rfl) dX6_judge_2 ⟨Nat.zero_le _, Nat.zero_le _⟩ rfl (fun H locs hw => ?_)
  refine lv_istore_n (lv' := [(2, .int x_2), (0, .ref (gAd G 0)), (1, .int a1)]) hx hb dX6_judge_5 rfl hl (by decide) rfl (fun ls hl => ?_)
  refine lv_iload_n hx hb dX6_judge_6 rfl (lv_at hl 0 rfl) ?_
  refine lv_if_ge (tgt := 14) hx hb dX6_judge_7 (by decide) (fun c_4 => ?_) (fun c_4 => ?_)
  · have hg := it_p hg c_4
    refine lv_aload_n hx hb dX6_judge_14 rfl (lv_at hl 1 rfl) ?_
    refine lv_aload_n hx hb dX6_judge_15 rfl (lv_at hl 1 rfl) ?_
    refine r_getr (C := RX6) (T := TX6) (N := 12) (k' := 34) S hK hw (kX_0 hG).1 (kX_0 hG).2 rfl hinX6 10 (by decide) (o := 34) rfl rfl (hts (.fieldLink RX6 62 "SoupByRank" "sheets" "[LSoupByRank$Sheet;") (by decide +kernel)) rfl dX6_judge_16 ?_
    refine lv_iload_n hx hb dX6_judge_19 rfl (lv_at hl 2 rfl) ?_
    obtain ⟨h_6, q_5, e_7, h_q_5, hg⟩ := rdS_e hg
    refine r_aald (t0 := 2) S hK hw (kX_34 hG).1 (kX_34 hG).2 (tyS hG) h_6 e_7 dX6_judge_20 ?_
    refine lv_aload_n hx hb dX6_judge_21 rfl (lv_at hl 1 rfl) ?_
    refine r_getr (C := RX6) (T := TX6) (N := 12) (k' := 1) S hK hw (kX_0 hG).1 (kX_0 hG).2 rfl hinX6 0 (by decide) (o := 1) rfl rfl (hts (.fieldLink RX6 10 "SoupByRank" "court" "LSoupByRank$Court;") (by decide +kernel)) rfl dX6_judge_22 ?_
    obtain ⟨s_8, x_9, h_10, hg⟩ := bnI_e hg
    refine r_iV (As := [.ref (gAd G q_5), .ref (gAd G 1)]) (rest := []) S hA hK hw (c_X6_firstOtherwise l hG h_q_5 isCt_1 h_10) (cwV 2 hts gX6_judge_X6_firstOtherwise rfl rfl rfl (by decide +kernel) ⟨Nat.le_of_ble_eq_true rfl, Nat.le_of_ble_eq_true rfl⟩) (r_recv hK hw (kX_0 hG).1 (kX_0 hG).2 rfl) rfl hl.1 (Nat.le_of_ble_eq_true rfl) dX6_judge_25 ⟨Nat.zero_le _, Nat.zero_le _⟩ rfl (fun H locs hw => ?_)
    exact r_ireti S hr hlk hw.2.2.2.2 hw hg dX6_judge_28
  · have hg := it_n hg c_4
    refine lv_iload_n hx hb dX6_judge_10 rfl (lv_at hl 0 rfl) ?_
    refine lv_goto (tgt := 28) hx hb dX6_judge_11 (by decide) ?_
    exact r_ireti S hr hlk hw.2.2.2.2 hw hg dX6_judge_28
set_option maxHeartbeats 4000000 in
set_option maxRecDepth 100000 in
theorem c_X6_refusalOfOne (l : Launch) {G : GW} {N : Nat} {ln : Nat → Nat} {cT cS : ClassId} (hG : isX G N ln cT cS) {F sz : Nat} {a1 : Int32} {a2 : Int32} {a3 : Int32} {σ σR : Sg} {r : Int32} (hg : g_X6_refusalOfOne F N ln a1 a2 a3 σ = some (σR, r)) : Met l yX6_refusalOfOne wsX6_refusalOfOne ({ frames := 3, cells := 0, slots := 0, locals := 63 } : Room) (va_Pc [.ref (gAd G 0), .int a1, .int a2, .int a3] (PX G σ sz)) (QcI G (gA G sz) σR r) 0 0 (gA G sz) := by
  refine metX (by decide) rfl (Nat.le_of_ble_eq_true rfl) ?_
  intro p e s m args below meth c ls S hr hlk hsz hA hK hw hl hmn
  have S : CallFix p m c cX6_refusalOfOne 5 s args wsX6_refusalOfOne RX6 := S
  obtain ⟨hx, hb, hml, hown, hts⟩ := id S
  have hl : lv_has ls 5 [(0, .ref (gAd G 0)), (1, .int a1), (2, .int a2), (3, .int a3)] := hl
  rw [g_X6_refusalOfOne] at hg
  refine lv_aload_n hx hb dX6_refusalOfOne_0 rfl (lv_at hl 0 rfl) ?_
  refine lv_iload_n hx hb dX6_refusalOfOne_1 rfl (lv_at hl 1 rfl) ?_
  obtain ⟨s_1, x_2, h_3, hg⟩ := bnI_e hg
  refine r_iV (As := [.int a1]) (rest := []) S hA hK hw (c_X6_refusalOfTold l hG  h_3) (cwV 1 hts gX6_refusalOfOne_X6_refusalOfTold rfl rfl rfl (by decide +kernel) ⟨Nat.le_of_ble_eq_true rfl, Nat.le_of_ble_eq_true rfl⟩) (r_recv hK hw (kX_0 hG).1 (kX_0 hG).2 rfl) rfl hl.1 (Nat.le_of_ble_eq_true rfl) dX6_refusalOfOne_2 ⟨Nat.zero_le _, Nat.zero_le _⟩ rfl (fun H locs hw => ?_)
  refine lv_istore (lv' := [(4, .int x_2), (0, .ref (gAd G 0)), (1, .int a1), (2, .int a2), (3, .int a3)]) hx hb dX6_refusalOfOne_5 hl (by decide) rfl (fun ls hl => ?_)
  refine lv_iload hx hb dX6_refusalOfOne_7 (lv_at hl 0 rfl) ?_
  refine lv_if_ge (tgt := 15) hx hb dX6_refusalOfOne_9 (by decide) (fun c_4 => ?_) (fun c_4 => ?_)
  · have hg := it_p hg c_4
    refine lv_aload_n hx hb dX6_refusalOfOne_15 rfl (lv_at hl 1 rfl) ?_
    refine lv_iload_n hx hb dX6_refusalOfOne_16 rfl (lv_at hl 3 rfl) ?_
    obtain ⟨s_5, x_6, h_7, hg⟩ := bnI_e hg
    refine r_iV (As := [.int a2]) (rest := []) S hA hK hw (c_X6_isThere l hG  h_7) (cwV 1 hts gX6_refusalOfOne_X6_isThere rfl rfl rfl (by decide +kernel) ⟨Nat.le_of_ble_eq_true rfl, Nat.le_of_ble_eq_true rfl⟩) (r_recv hK hw (kX_0 hG).1 (kX_0 hG).2 rfl) rfl hl.1 (Nat.le_of_ble_eq_true rfl) dX6_refusalOfOne_17 ⟨Nat.zero_le _, Nat.zero_le _⟩ rfl (fun H locs hw => ?_)
    refine lv_if_ne (tgt := 26) hx hb dX6_refusalOfOne_20 (by decide) (fun c_8 => ?_) (fun c_8 => ?_)
    · have hg := it_n hg c_8
      refine lv_iload_n hx hb dX6_refusalOfOne_26 rfl (lv_at hl 4 rfl) ?_
      refine lv_iconst (v := 0) hx hb dX6_refusalOfOne_27 (by decide) ?_
      refine lv_iconst (v := 1) hx hb dX6_refusalOfOne_28 (by decide) ?_
      obtain ⟨s_9, x_10, h_11, hg⟩ := bnI_e hg
      refine r_iS (As := [.int a3, .int 0, .int 1]) (rest := []) S hA hK hw (c_X6_isWithin l hG  h_11) (va_cwS 3 hts gX6_refusalOfOne_X6_isWithin rfl rfl rfl (by decide +kernel) ⟨Nat.le_of_ble_eq_true rfl, Nat.le_of_ble_eq_true rfl⟩) rfl hl.1 (Nat.le_of_ble_eq_true rfl) dX6_refusalOfOne_29 ⟨Nat.zero_le _, Nat.zero_le _⟩ rfl (fun H locs hw => ?_)
      refine lv_if_eq (tgt := 39) hx hb dX6_refusalOfOne_32 (by decide) (fun c_12 => ?_) (fun c_12 => ?_)
      · have hg := it_p hg c_12
        refine lv_bipush (v := (-7)) hx hb dX6_refusalOfOne_39 (by decide) ?_
        exact r_ireti S hr hlk hw.2.2.2.2 hw hg dX6_refusalOfOne_41
      · have hg := it_n hg c_12
        refine lv_iconst (v := 0) hx hb dX6_refusalOfOne_35 (by decide) ?_
        refine lv_goto (tgt := 41) hx hb dX6_refusalOfOne_36 (by decide) ?_
        exact r_ireti S hr hlk hw.2.2.2.2 hw hg dX6_refusalOfOne_41
    · have hg := it_p hg c_8
      refine lv_bipush (v := (-5)) hx hb dX6_refusalOfOne_23 (by decide) ?_
      exact r_ireti S hr hlk hw.2.2.2.2 hw hg dX6_refusalOfOne_25
  · have hg := it_n hg c_4
    refine lv_iload hx hb dX6_refusalOfOne_12 (lv_at hl 0 rfl) ?_
    exact r_ireti S hr hlk hw.2.2.2.2 hw hg dX6_refusalOfOne_14
set_option maxHeartbeats 4000000 in
set_option maxRecDepth 100000 in
theorem c_X6_kinds (l : Launch) {G : GW} {N : Nat} {ln : Nat → Nat} {cT cS : ClassId} (hG : isX G N ln cT cS) {F sz : Nat} {a1 : Int32} {a2 : Int32} {a3 : Int32} {σ σR : Sg} {r : Int32} (hg : g_X6_kinds F N ln a1 a2 a3 σ = some (σR, r)) : Met l yX6_kinds wsX6_kinds ({ frames := 6, cells := 0, slots := 0, locals := 183 } : Room) (va_Pc [.ref (gAd G 0), .int a1, .int a2, .int a3] (PX G σ sz)) (QcI G (gA G sz) σR r) 0 0 (gA G sz) := by
  refine metX (by decide) rfl (Nat.le_of_ble_eq_true rfl) ?_
  intro p e s m args below meth c ls S hr hlk hsz hA hK hw hl hmn
  have S : CallFix p m c cX6_kinds 9 s args wsX6_kinds RX6 := S
  obtain ⟨hx, hb, hml, hown, hts⟩ := id S
  have hl : lv_has ls 9 [(0, .ref (gAd G 0)), (1, .int a1), (2, .int a2), (3, .int a3)] := hl
  have hinX1 : ∀ w ∈ wsX10, w ∈ wsX6_kinds := by decide +kernel
  have hinX6 : ∀ w ∈ wsX60, w ∈ wsX6_kinds := by decide +kernel
  have L69 : ∀ (v1 : Int32) (v2 : Int32) (q5 : Nat) (v6 : Int32) (h_q5 : gKd G q5 = .inl 6 ∧ q5 < gN G) (n69 : Nat) (v7 : Int32) (v8 : Int32) (σ : Sg) (H : Heap) (locs : List Loc) (ls : Array Slot) (hg : g_X6_kinds_l69 F N ln v1 v2 q5 v6 n69 v7 v8 σ = some (σR, r)) (hw : XD G (gA G sz) s.heap σ H locs) (hl : lv_has ls 9 [(0, .ref (gAd G 0)), (1, .int v1), (2, .int v2), (5, .ref (gAd G q5)), (6, .int v6), (7, .int v7), (8, .int v8)]), W p l e (headSpec wsX6_kinds ({ frames := 6, cells := 0, slots := 0, locals := 183 } : Room)).room s m args below meth c H locs 0 0 (MQ below (QcI G (gA G sz) σR r) args s 0 0 (gA G sz)) (F0 m 69 ls []) := by
    intro v1 v2 q5 v6 h_q5
    intro n69
    induction n69 with
    | zero => intro v7 v8 σ H locs ls hg hw hl; exact no_e hg
    | succ n69 ih69 =>
      have J109 : ∀ (v7 : Int32) (v8 : Int32) (σ : Sg) (H : Heap) (locs : List Loc) (ls : Array Slot) (hg : g_X6_kinds_b109 F N ln (fun v7_ v8_ σ_ => g_X6_kinds_l69 F N ln v1 v2 q5 v6 n69 v7_ v8_ σ_) v1 v2 q5 v6 v7 v8 σ = some (σR, r)) (hw : XD G (gA G sz) s.heap σ H locs) (hl : lv_has ls 9 [(0, .ref (gAd G 0)), (1, .int v1), (2, .int v2), (5, .ref (gAd G q5)), (6, .int v6), (7, .int v7), (8, .int v8)]), W p l e (headSpec wsX6_kinds ({ frames := 6, cells := 0, slots := 0, locals := 183 } : Room)).room s m args below meth c H locs 0 0 (MQ below (QcI G (gA G sz) σR r) args s 0 0 (gA G sz)) (F0 m 109 ls []) := by
        intro v7 v8 σ H locs ls hg hw hl
        rw [g_X6_kinds_b109] at hg
        refine lv_iinc (v := (v8 + 1)) (lv' := [(8, .int (v8 + 1)), (0, .ref (gAd G 0)), (1, .int v1), (2, .int v2), (5, .ref (gAd G q5)), (6, .int v6), (7, .int v7)]) hx hb dX6_kinds_109 hl (k := 6) rfl rfl (by decide) rfl (fun ls hl => ?_)
        refine lv_goto (tgt := 69) hx hb dX6_kinds_112 (by decide) ?_
        exact ih69 _ _ _ _ _ _ hg hw (lv_sub hl [1, 2, 3, 4, 5, 6, 0] rfl)
      intro v7 v8 σ H locs ls hg hw hl
      rw [g_X6_kinds_l69] at hg
      refine lv_iload hx hb dX6_kinds_69 (lv_at hl 6 rfl) ?_
      refine lv_iload hx hb dX6_kinds_71 (lv_at hl 4 rfl) ?_
      refine lv_icmp_gt (tgt := 115) hx hb dX6_kinds_73 (by decide) (fun c_1 => ?_) (fun c_1 => ?_)
      · have hg := it_p hg c_1
        refine lv_iload hx hb dX6_kinds_115 (lv_at hl 5 rfl) ?_
        exact r_ireti S hr hlk hw.2.2.2.2 hw hg dX6_kinds_117
      · have hg := it_n hg c_1
        refine lv_aload hx hb dX6_kinds_76 (lv_at hl 3 rfl) ?_
        refine lv_iload_n hx hb dX6_kinds_78 rfl (lv_at hl 2 rfl) ?_
        refine lv_iload hx hb dX6_kinds_79 (lv_at hl 6 rfl) ?_
        obtain ⟨h_3, s_2, e_4, hg⟩ := wrA_e hg
        refine r_iast S hK hw h_q5.1 h_q5.2 h_3 e_4 dX6_kinds_81 (fun H locs hw => ?_)
        refine lv_aload_n hx hb dX6_kinds_82 rfl (lv_at hl 0 rfl) ?_
        refine lv_aload_n hx hb dX6_kinds_83 rfl (lv_at hl 0 rfl) ?_
        refine r_getr (C := RX6) (T := TX6) (N := 12) (k' := 34) S hK hw (kX_0 hG).1 (kX_0 hG).2 rfl hinX6 10 (by decide) (o := 34) rfl rfl (hts (.fieldLink RX6 62 "SoupByRank" "sheets" "[LSoupByRank$Sheet;") (by decide +kernel)) rfl dX6_kinds_84 ?_
        refine lv_iload_n hx hb dX6_kinds_87 rfl (lv_at hl 1 rfl) ?_
        obtain ⟨h_6, q_5, e_7, h_q_5, hg⟩ := rdS_e hg
        refine r_aald (t0 := 2) S hK hw (kX_34 hG).1 (kX_34 hG).2 (tyS hG) h_6 e_7 dX6_kinds_88 ?_
        refine lv_aload_n hx hb dX6_kinds_89 rfl (lv_at hl 0 rfl) ?_
        refine r_getr (C := RX6) (T := TX6) (N := 12) (k' := 6) S hK hw (kX_0 hG).1 (kX_0 hG).2 rfl hinX6 1 (by decide) (o := 6) rfl rfl (hts (.fieldLink RX6 16 "SoupByRank" "thought" "LSoupByRank$Court;") (by decide +kernel)) rfl dX6_kinds_90 ?_
        obtain ⟨s_8, x_9, h_10, hg⟩ := bnI_e hg
        refine r_iV (As := [.ref (gAd G q_5), .ref (gAd G 6)]) (rest := []) S hA hK hw (c_X6_firstOtherwise l hG h_q_5 isCt_6 h_10) (cwV 2 hts gX6_kinds_X6_firstOtherwise rfl rfl rfl (by decide +kernel) ⟨Nat.le_of_ble_eq_true rfl, Nat.le_of_ble_eq_true rfl⟩) (r_recv hK hw (kX_0 hG).1 (kX_0 hG).2 rfl) rfl hl.1 (Nat.le_of_ble_eq_true rfl) dX6_kinds_93 ⟨Nat.zero_le _, Nat.zero_le _⟩ rfl (fun H locs hw => ?_)
        refine lv_iconst (v := (-1)) hx hb dX6_kinds_96 (by decide) ?_
        refine lv_icmp_ne (tgt := 109) hx hb dX6_kinds_97 (by decide) (fun c_11 => ?_) (fun c_11 => ?_)
        · have hg := it_n hg c_11
          exact J109 v7 v8 _ _ _ _ hg hw (lv_sub hl [0, 1, 2, 3, 4, 5, 6] rfl)
        · have hg := it_p hg c_11
          refine lv_iload hx hb dX6_kinds_100 (lv_at hl 5 rfl) ?_
          refine lv_iconst (v := 1) hx hb dX6_kinds_102 (by decide) ?_
          refine lv_iload hx hb dX6_kinds_103 (lv_at hl 6 rfl) ?_
          refine lv_ishl hx hb dX6_kinds_105 ?_
          refine lv_ior hx hb dX6_kinds_106 ?_
          refine lv_istore (lv' := [(7, .int (v7 ||| ((1 : Int32) <<< (v8 &&& 31)))), (0, .ref (gAd G 0)), (1, .int v1), (2, .int v2), (5, .ref (gAd G q5)), (6, .int v6), (8, .int v8)]) hx hb dX6_kinds_107 hl (by decide) rfl (fun ls hl => ?_)
          exact J109 (v7 ||| ((1 : Int32) <<< (v8 &&& 31))) v8 _ _ _ _ hg hw (lv_sub hl [1, 2, 3, 4, 5, 0, 6] rfl)
  have J61 : ∀ (v1 : Int32) (v2 : Int32) (q5 : Nat) (u0 : Int32) (h_q5 : gKd G q5 = .inl 6 ∧ q5 < gN G) (σ : Sg) (H : Heap) (locs : List Loc) (ls : Array Slot) (hg : g_X6_kinds_b61 F N ln v1 v2 q5 u0 σ = some (σR, r)) (hw : XD G (gA G sz) s.heap σ H locs) (hl : lv_has ls 9 [(0, .ref (gAd G 0)), (1, .int v1), (2, .int v2), (5, .ref (gAd G q5))]), W p l e (headSpec wsX6_kinds ({ frames := 6, cells := 0, slots := 0, locals := 183 } : Room)).room s m args below meth c H locs 0 0 (MQ below (QcI G (gA G sz) σR r) args s 0 0 (gA G sz)) (F0 m 61 ls [.int u0]) := by
    intro v1 v2 q5 u0 h_q5 σ H locs ls hg hw hl
    rw [g_X6_kinds_b61] at hg
    refine lv_istore (lv' := [(6, .int u0), (0, .ref (gAd G 0)), (1, .int v1), (2, .int v2), (5, .ref (gAd G q5))]) hx hb dX6_kinds_61 hl (by decide) rfl (fun ls hl => ?_)
    refine lv_iconst (v := 0) hx hb dX6_kinds_63 (by decide) ?_
    refine lv_istore (lv' := [(7, .int 0), (6, .int u0), (0, .ref (gAd G 0)), (1, .int v1), (2, .int v2), (5, .ref (gAd G q5))]) hx hb dX6_kinds_64 hl (by decide) rfl (fun ls hl => ?_)
    refine lv_iconst (v := 0) hx hb dX6_kinds_66 (by decide) ?_
    refine lv_istore (lv' := [(8, .int 0), (7, .int 0), (6, .int u0), (0, .ref (gAd G 0)), (1, .int v1), (2, .int v2), (5, .ref (gAd G q5))]) hx hb dX6_kinds_67 hl (by decide) rfl (fun ls hl => ?_)
    exact L69 v1 v2 q5 u0 h_q5 F _ _ _ _ _ _ hg hw (lv_sub hl [3, 4, 5, 6, 2, 1, 0] rfl)
  have J49 : ∀ (v1 : Int32) (v2 : Int32) (v3 : Int32) (q0 : Nat) (h_q0 : gKd G q0 = .inl 6 ∧ q0 < gN G) (σ : Sg) (H : Heap) (locs : List Loc) (ls : Array Slot) (hg : g_X6_kinds_b49 F N ln v1 v2 v3 q0 σ = some (σR, r)) (hw : XD G (gA G sz) s.heap σ H locs) (hl : lv_has ls 9 [(0, .ref (gAd G 0)), (1, .int v1), (2, .int v2), (3, .int v3)]), W p l e (headSpec wsX6_kinds ({ frames := 6, cells := 0, slots := 0, locals := 183 } : Room)).room s m args below meth c H locs 0 0 (MQ below (QcI G (gA G sz) σR r) args s 0 0 (gA G sz)) (F0 m 49 ls [.ref (gAd G q0)]) := by
    intro v1 v2 v3 q0 h_q0 σ H locs ls hg hw hl
    rw [g_X6_kinds_b49] at hg
    refine lv_astore (lv' := [(5, .ref (gAd G q0)), (0, .ref (gAd G 0)), (1, .int v1), (2, .int v2), (3, .int v3)]) hx hb dX6_kinds_49 hl (by decide) rfl (fun ls hl => ?_)
    refine lv_iload_n hx hb dX6_kinds_51 rfl (lv_at hl 4 rfl) ?_
    refine lv_if_ne (tgt := 59) hx hb dX6_kinds_52 (by decide) (fun c_12 => ?_) (fun c_12 => ?_)
    · have hg := it_n hg c_12
      refine lv_bipush (v := 9) hx hb dX6_kinds_59 (by decide) ?_
      exact J61 v1 v2 q0 9 h_q0 _ _ _ _ hg hw (lv_sub hl [1, 2, 3, 0] rfl)
    · have hg := it_p hg c_12
      refine lv_iconst (v := 5) hx hb dX6_kinds_55 (by decide) ?_
      refine lv_goto (tgt := 61) hx hb dX6_kinds_56 (by decide) ?_
      exact J61 v1 v2 q0 5 h_q0 _ _ _ _ hg hw (lv_sub hl [1, 2, 3, 0] rfl)
  rw [g_X6_kinds] at hg
  refine lv_aload_n hx hb dX6_kinds_0 rfl (lv_at hl 0 rfl) ?_
  refine lv_iload_n hx hb dX6_kinds_1 rfl (lv_at hl 1 rfl) ?_
  refine lv_iload_n hx hb dX6_kinds_2 rfl (lv_at hl 2 rfl) ?_
  refine lv_iload_n hx hb dX6_kinds_3 rfl (lv_at hl 3 rfl) ?_
  obtain ⟨s_13, x_14, h_15, hg⟩ := bnI_e hg
  refine r_iV (As := [.int a1, .int a2, .int a3]) (rest := []) S hA hK hw (c_X6_refusalOfOne l hG  h_15) (cwV 3 hts gX6_kinds_X6_refusalOfOne rfl rfl rfl (by decide +kernel) ⟨Nat.le_of_ble_eq_true rfl, Nat.le_of_ble_eq_true rfl⟩) (r_recv hK hw (kX_0 hG).1 (kX_0 hG).2 rfl) rfl hl.1 (Nat.le_of_ble_eq_true rfl) dX6_kinds_4 ⟨Nat.zero_le _, Nat.zero_le _⟩ rfl (fun H locs hw => ?_)
  refine lv_istore (lv' := [(4, .int x_14), (0, .ref (gAd G 0)), (1, .int a1), (2, .int a2), (3, .int a3)]) hx hb dX6_kinds_7 hl (by decide) rfl (fun ls hl => ?_)
  refine lv_iload hx hb dX6_kinds_9 (lv_at hl 0 rfl) ?_
  refine lv_if_ge (tgt := 17) hx hb dX6_kinds_11 (by decide) (fun c_16 => ?_) (fun c_16 => ?_)
  · have hg := it_p hg c_16
    refine lv_aload_n hx hb dX6_kinds_17 rfl (lv_at hl 1 rfl) ?_
    refine r_getr (C := RX6) (T := TX6) (N := 12) (k' := 6) S hK hw (kX_0 hG).1 (kX_0 hG).2 rfl hinX6 1 (by decide) (o := 6) rfl rfl (hts (.fieldLink RX6 16 "SoupByRank" "thought" "LSoupByRank$Court;") (by decide +kernel)) rfl dX6_kinds_18 ?_
    refine lv_aload_n hx hb dX6_kinds_21 rfl (lv_at hl 1 rfl) ?_
    refine r_getr (C := RX6) (T := TX6) (N := 12) (k' := 1) S hK hw (kX_0 hG).1 (kX_0 hG).2 rfl hinX6 0 (by decide) (o := 1) rfl rfl (hts (.fieldLink RX6 10 "SoupByRank" "court" "LSoupByRank$Court;") (by decide +kernel)) rfl dX6_kinds_22 ?_
    obtain ⟨s_17, h_19, hg⟩ := bnV_e hg
    refine r_vV (As := [.ref (gAd G 1)]) (rest := []) S hA hK hw (c_X1_takeFrom l hG isCt_6 isCt_1 h_19) (cwV 1 hts gX6_kinds_X1_takeFrom rfl rfl rfl (by decide +kernel) ⟨Nat.le_of_ble_eq_true rfl, Nat.le_of_ble_eq_true rfl⟩) (r_recv hK hw (kX_6 hG).1 (kX_6 hG).2 rfl) rfl hl.1 (Nat.le_of_ble_eq_true rfl) dX6_kinds_25 ⟨Nat.zero_le _, Nat.zero_le _⟩ rfl (fun H locs hw => ?_)
    refine lv_iload_n hx hb dX6_kinds_28 rfl (lv_at hl 4 rfl) ?_
    refine lv_if_ne (tgt := 42) hx hb dX6_kinds_29 (by decide) (fun c_20 => ?_) (fun c_20 => ?_)
    · have hg := it_n hg c_20
      refine lv_aload_n hx hb dX6_kinds_42 rfl (lv_at hl 1 rfl) ?_
      refine r_getr (C := RX6) (T := TX6) (N := 12) (k' := 6) S hK hw (kX_0 hG).1 (kX_0 hG).2 rfl hinX6 1 (by decide) (o := 6) rfl rfl (hts (.fieldLink RX6 16 "SoupByRank" "thought" "LSoupByRank$Court;") (by decide +kernel)) rfl dX6_kinds_43 ?_
      refine r_getrN (C := RX1) (T := TX1) (N := 9) (host := RX6) (k' := 8) S hK hw (kX_6 hG).1 (kX_6 hG).2 rfl hinX1 6 (by decide) (o := 2) rfl rfl (by decide +kernel) rfl dX6_kinds_46 ?_
      exact J49 a1 a2 a3 8 (kX_8 hG) _ _ _ _ hg hw (lv_sub hl [1, 2, 3, 4] rfl)
    · have hg := it_p hg c_20
      refine lv_aload_n hx hb dX6_kinds_32 rfl (lv_at hl 1 rfl) ?_
      refine r_getr (C := RX6) (T := TX6) (N := 12) (k' := 6) S hK hw (kX_0 hG).1 (kX_0 hG).2 rfl hinX6 1 (by decide) (o := 6) rfl rfl (hts (.fieldLink RX6 16 "SoupByRank" "thought" "LSoupByRank$Court;") (by decide +kernel)) rfl dX6_kinds_33 ?_
      refine r_getrN (C := RX1) (T := TX1) (N := 9) (host := RX6) (k' := 7) S hK hw (kX_6 hG).1 (kX_6 hG).2 rfl hinX1 5 (by decide) (o := 1) rfl rfl (by decide +kernel) rfl dX6_kinds_36 ?_
      refine lv_goto (tgt := 49) hx hb dX6_kinds_39 (by decide) ?_
      exact J49 a1 a2 a3 7 (kX_7 hG) _ _ _ _ hg hw (lv_sub hl [1, 2, 3, 4] rfl)
  · have hg := it_n hg c_16
    refine lv_iload hx hb dX6_kinds_14 (lv_at hl 0 rfl) ?_
    exact r_ireti S hr hlk hw.2.2.2.2 hw hg dX6_kinds_16
set_option maxHeartbeats 4000000 in
set_option maxRecDepth 100000 in
theorem c_X6_ranks (l : Launch) {G : GW} {N : Nat} {ln : Nat → Nat} {cT cS : ClassId} (hG : isX G N ln cT cS) {F sz : Nat} {a1 : Int32} {a2 : Int32} {a3 : Int32} {σ σR : Sg} {r : Int32} (hg : g_X6_ranks F N ln a1 a2 a3 σ = some (σR, r)) : Met l yX6_ranks wsX6_ranks ({ frames := 6, cells := 0, slots := 0, locals := 183 } : Room) (va_Pc [.ref (gAd G 0), .int a1, .int a2, .int a3] (PX G σ sz)) (QcI G (gA G sz) σR r) 0 0 (gA G sz) := by
  refine metX (by decide) rfl (Nat.le_of_ble_eq_true rfl) ?_
  intro p e s m args below meth c ls S hr hlk hsz hA hK hw hl hmn
  have S : CallFix p m c cX6_ranks 8 s args wsX6_ranks RX6 := S
  obtain ⟨hx, hb, hml, hown, hts⟩ := id S
  have hl : lv_has ls 8 [(0, .ref (gAd G 0)), (1, .int a1), (2, .int a2), (3, .int a3)] := hl
  have hinX1 : ∀ w ∈ wsX10, w ∈ wsX6_ranks := by decide +kernel
  have hinX6 : ∀ w ∈ wsX60, w ∈ wsX6_ranks := by decide +kernel
  have L38 : ∀ (v1 : Int32) (v2 : Int32) (v3 : Int32) (n38 : Nat) (v5 : Int32) (v6 : Int32) (v7 : Int32) (σ : Sg) (H : Heap) (locs : List Loc) (ls : Array Slot) (hg : g_X6_ranks_l38 F N ln v1 v2 v3 n38 v5 v6 v7 σ = some (σR, r)) (hw : XD G (gA G sz) s.heap σ H locs) (hl : lv_has ls 8 [(0, .ref (gAd G 0)), (1, .int v1), (2, .int v2), (3, .int v3), (5, .int v5), (6, .int v6), (7, .int v7)]), W p l e (headSpec wsX6_ranks ({ frames := 6, cells := 0, slots := 0, locals := 183 } : Room)).room s m args below meth c H locs 0 0 (MQ below (QcI G (gA G sz) σR r) args s 0 0 (gA G sz)) (F0 m 38 ls []) := by
    intro v1 v2 v3
    intro n38
    induction n38 with
    | zero => intro v5 v6 v7 σ H locs ls hg hw hl; exact no_e hg
    | succ n38 ih38 =>
      have J79 : ∀ (v5 : Int32) (v6 : Int32) (v7 : Int32) (σ : Sg) (H : Heap) (locs : List Loc) (ls : Array Slot) (hg : g_X6_ranks_b79 F N ln (fun v5_ v6_ v7_ σ_ => g_X6_ranks_l38 F N ln v1 v2 v3 n38 v5_ v6_ v7_ σ_) v1 v2 v3 v5 v6 v7 σ = some (σR, r)) (hw : XD G (gA G sz) s.heap σ H locs) (hl : lv_has ls 8 [(0, .ref (gAd G 0)), (1, .int v1), (2, .int v2), (3, .int v3), (5, .int v5), (6, .int v6), (7, .int v7)]), W p l e (headSpec wsX6_ranks ({ frames := 6, cells := 0, slots := 0, locals := 183 } : Room)).room s m args below meth c H locs 0 0 (MQ below (QcI G (gA G sz) σR r) args s 0 0 (gA G sz)) (F0 m 79 ls []) := by
        intro v5 v6 v7 σ H locs ls hg hw hl
        rw [g_X6_ranks_b79] at hg
        refine lv_iinc (v := (v7 + (-1))) (lv' := [(7, .int (v7 + (-1))), (0, .ref (gAd G 0)), (1, .int v1), (2, .int v2), (3, .int v3), (5, .int v5), (6, .int v6)]) hx hb dX6_ranks_79 hl (k := 6) rfl rfl (by decide) rfl (fun ls hl => ?_)
        refine lv_goto (tgt := 38) hx hb dX6_ranks_82 (by decide) ?_
        exact ih38 _ _ _ _ _ _ _ hg hw (lv_sub hl [1, 2, 3, 4, 5, 6, 0] rfl)
      intro v5 v6 v7 σ H locs ls hg hw hl
      rw [g_X6_ranks_l38] at hg
      refine lv_iload hx hb dX6_ranks_38 (lv_at hl 6 rfl) ?_
      refine lv_if_lt (tgt := 85) hx hb dX6_ranks_40 (by decide) (fun c_1 => ?_) (fun c_1 => ?_)
      · have hg := it_p hg c_1
        refine lv_iload_n hx hb dX6_ranks_85 rfl (lv_at hl 3 rfl) ?_
        refine lv_if_ne (tgt := 94) hx hb dX6_ranks_86 (by decide) (fun c_2 => ?_) (fun c_2 => ?_)
        · have hg := it_n hg c_2
          refine lv_iload hx hb dX6_ranks_94 (lv_at hl 5 rfl) ?_
          exact r_ireti S hr hlk hw.2.2.2.2 hw hg dX6_ranks_96
        · have hg := it_p hg c_2
          refine lv_iload hx hb dX6_ranks_89 (lv_at hl 4 rfl) ?_
          refine lv_goto (tgt := 96) hx hb dX6_ranks_91 (by decide) ?_
          exact r_ireti S hr hlk hw.2.2.2.2 hw hg dX6_ranks_96
      · have hg := it_n hg c_1
        refine lv_aload_n hx hb dX6_ranks_43 rfl (lv_at hl 0 rfl) ?_
        refine r_getr (C := RX6) (T := TX6) (N := 12) (k' := 6) S hK hw (kX_0 hG).1 (kX_0 hG).2 rfl hinX6 1 (by decide) (o := 6) rfl rfl (hts (.fieldLink RX6 16 "SoupByRank" "thought" "LSoupByRank$Court;") (by decide +kernel)) rfl dX6_ranks_44 ?_
        refine r_getrN (C := RX1) (T := TX1) (N := 9) (host := RX6) (k' := 9) S hK hw (kX_6 hG).1 (kX_6 hG).2 rfl hinX1 7 (by decide) (o := 3) rfl rfl (by decide +kernel) rfl dX6_ranks_47 ?_
        refine lv_iload_n hx hb dX6_ranks_50 rfl (lv_at hl 2 rfl) ?_
        refine lv_iload hx hb dX6_ranks_51 (lv_at hl 6 rfl) ?_
        obtain ⟨h_4, s_3, e_5, hg⟩ := wrA_e hg
        refine r_iast S hK hw (kX_9 hG).1 (kX_9 hG).2 h_4 e_5 dX6_ranks_53 (fun H locs hw => ?_)
        refine lv_aload_n hx hb dX6_ranks_54 rfl (lv_at hl 0 rfl) ?_
        refine lv_aload_n hx hb dX6_ranks_55 rfl (lv_at hl 0 rfl) ?_
        refine r_getr (C := RX6) (T := TX6) (N := 12) (k' := 34) S hK hw (kX_0 hG).1 (kX_0 hG).2 rfl hinX6 10 (by decide) (o := 34) rfl rfl (hts (.fieldLink RX6 62 "SoupByRank" "sheets" "[LSoupByRank$Sheet;") (by decide +kernel)) rfl dX6_ranks_56 ?_
        refine lv_iload_n hx hb dX6_ranks_59 rfl (lv_at hl 1 rfl) ?_
        obtain ⟨h_7, q_6, e_8, h_q_6, hg⟩ := rdS_e hg
        refine r_aald (t0 := 2) S hK hw (kX_34 hG).1 (kX_34 hG).2 (tyS hG) h_7 e_8 dX6_ranks_60 ?_
        refine lv_aload_n hx hb dX6_ranks_61 rfl (lv_at hl 0 rfl) ?_
        refine r_getr (C := RX6) (T := TX6) (N := 12) (k' := 6) S hK hw (kX_0 hG).1 (kX_0 hG).2 rfl hinX6 1 (by decide) (o := 6) rfl rfl (hts (.fieldLink RX6 16 "SoupByRank" "thought" "LSoupByRank$Court;") (by decide +kernel)) rfl dX6_ranks_62 ?_
        obtain ⟨s_9, x_10, h_11, hg⟩ := bnI_e hg
        refine r_iV (As := [.ref (gAd G q_6), .ref (gAd G 6)]) (rest := []) S hA hK hw (c_X6_firstOtherwise l hG h_q_6 isCt_6 h_11) (cwV 2 hts gX6_ranks_X6_firstOtherwise rfl rfl rfl (by decide +kernel) ⟨Nat.le_of_ble_eq_true rfl, Nat.le_of_ble_eq_true rfl⟩) (r_recv hK hw (kX_0 hG).1 (kX_0 hG).2 rfl) rfl hl.1 (Nat.le_of_ble_eq_true rfl) dX6_ranks_65 ⟨Nat.zero_le _, Nat.zero_le _⟩ rfl (fun H locs hw => ?_)
        refine lv_iconst (v := (-1)) hx hb dX6_ranks_68 (by decide) ?_
        refine lv_icmp_ne (tgt := 79) hx hb dX6_ranks_69 (by decide) (fun c_12 => ?_) (fun c_12 => ?_)
        · have hg := it_n hg c_12
          exact J79 v5 v6 v7 _ _ _ _ hg hw (lv_sub hl [0, 1, 2, 3, 4, 5, 6] rfl)
        · have hg := it_p hg c_12
          refine lv_iinc (v := (v5 + 1)) (lv' := [(5, .int (v5 + 1)), (0, .ref (gAd G 0)), (1, .int v1), (2, .int v2), (3, .int v3), (6, .int v6), (7, .int v7)]) hx hb dX6_ranks_72 hl (k := 4) rfl rfl (by decide) rfl (fun ls hl => ?_)
          refine lv_iload hx hb dX6_ranks_75 (lv_at hl 6 rfl) ?_
          refine lv_istore (lv' := [(6, .int v7), (5, .int (v5 + 1)), (0, .ref (gAd G 0)), (1, .int v1), (2, .int v2), (3, .int v3), (7, .int v7)]) hx hb dX6_ranks_77 hl (by decide) rfl (fun ls hl => ?_)
          exact J79 (v5 + 1) v7 v7 _ _ _ _ hg hw (lv_sub hl [2, 3, 4, 5, 1, 0, 6] rfl)
  rw [g_X6_ranks] at hg
  refine lv_aload_n hx hb dX6_ranks_0 rfl (lv_at hl 0 rfl) ?_
  refine lv_iload_n hx hb dX6_ranks_1 rfl (lv_at hl 1 rfl) ?_
  refine lv_iload_n hx hb dX6_ranks_2 rfl (lv_at hl 2 rfl) ?_
  refine lv_iload_n hx hb dX6_ranks_3 rfl (lv_at hl 3 rfl) ?_
  obtain ⟨s_13, x_14, h_15, hg⟩ := bnI_e hg
  refine r_iV (As := [.int a1, .int a2, .int a3]) (rest := []) S hA hK hw (c_X6_refusalOfOne l hG  h_15) (cwV 3 hts gX6_ranks_X6_refusalOfOne rfl rfl rfl (by decide +kernel) ⟨Nat.le_of_ble_eq_true rfl, Nat.le_of_ble_eq_true rfl⟩) (r_recv hK hw (kX_0 hG).1 (kX_0 hG).2 rfl) rfl hl.1 (Nat.le_of_ble_eq_true rfl) dX6_ranks_4 ⟨Nat.zero_le _, Nat.zero_le _⟩ rfl (fun H locs hw => ?_)
  refine lv_istore (lv' := [(4, .int x_14), (0, .ref (gAd G 0)), (1, .int a1), (2, .int a2), (3, .int a3)]) hx hb dX6_ranks_7 hl (by decide) rfl (fun ls hl => ?_)
  refine lv_iload hx hb dX6_ranks_9 (lv_at hl 0 rfl) ?_
  refine lv_if_ge (tgt := 17) hx hb dX6_ranks_11 (by decide) (fun c_16 => ?_) (fun c_16 => ?_)
  · have hg := it_p hg c_16
    refine lv_aload_n hx hb dX6_ranks_17 rfl (lv_at hl 1 rfl) ?_
    refine r_getr (C := RX6) (T := TX6) (N := 12) (k' := 6) S hK hw (kX_0 hG).1 (kX_0 hG).2 rfl hinX6 1 (by decide) (o := 6) rfl rfl (hts (.fieldLink RX6 16 "SoupByRank" "thought" "LSoupByRank$Court;") (by decide +kernel)) rfl dX6_ranks_18 ?_
    refine lv_aload_n hx hb dX6_ranks_21 rfl (lv_at hl 1 rfl) ?_
    refine r_getr (C := RX6) (T := TX6) (N := 12) (k' := 1) S hK hw (kX_0 hG).1 (kX_0 hG).2 rfl hinX6 0 (by decide) (o := 1) rfl rfl (hts (.fieldLink RX6 10 "SoupByRank" "court" "LSoupByRank$Court;") (by decide +kernel)) rfl dX6_ranks_22 ?_
    obtain ⟨s_17, h_19, hg⟩ := bnV_e hg
    refine r_vV (As := [.ref (gAd G 1)]) (rest := []) S hA hK hw (c_X1_takeFrom l hG isCt_6 isCt_1 h_19) (cwV 1 hts gX6_ranks_X1_takeFrom rfl rfl rfl (by decide +kernel) ⟨Nat.le_of_ble_eq_true rfl, Nat.le_of_ble_eq_true rfl⟩) (r_recv hK hw (kX_6 hG).1 (kX_6 hG).2 rfl) rfl hl.1 (Nat.le_of_ble_eq_true rfl) dX6_ranks_25 ⟨Nat.zero_le _, Nat.zero_le _⟩ rfl (fun H locs hw => ?_)
    refine lv_iconst (v := 0) hx hb dX6_ranks_28 (by decide) ?_
    refine lv_istore (lv' := [(5, .int 0), (4, .int x_14), (0, .ref (gAd G 0)), (1, .int a1), (2, .int a2), (3, .int a3)]) hx hb dX6_ranks_29 hl (by decide) rfl (fun ls hl => ?_)
    refine lv_iconst (v := (-1)) hx hb dX6_ranks_31 (by decide) ?_
    refine lv_istore (lv' := [(6, .int (-1)), (5, .int 0), (4, .int x_14), (0, .ref (gAd G 0)), (1, .int a1), (2, .int a2), (3, .int a3)]) hx hb dX6_ranks_32 hl (by decide) rfl (fun ls hl => ?_)
    refine lv_bipush (v := 99) hx hb dX6_ranks_34 (by decide) ?_
    refine lv_istore (lv' := [(7, .int 99), (6, .int (-1)), (5, .int 0), (4, .int x_14), (0, .ref (gAd G 0)), (1, .int a1), (2, .int a2), (3, .int a3)]) hx hb dX6_ranks_36 hl (by decide) rfl (fun ls hl => ?_)
    exact L38 a1 a2 a3 F _ _ _ _ _ _ _ hg hw (lv_sub hl [4, 5, 6, 7, 2, 1, 0] rfl)
  · have hg := it_n hg c_16
    refine lv_iload hx hb dX6_ranks_14 (lv_at hl 0 rfl) ?_
    exact r_ireti S hr hlk hw.2.2.2.2 hw hg dX6_ranks_16
set_option maxHeartbeats 4000000 in
set_option maxRecDepth 100000 in
theorem c_X6_heats (l : Launch) {G : GW} {N : Nat} {ln : Nat → Nat} {cT cS : ClassId} (hG : isX G N ln cT cS) {F sz : Nat} {a1 : Int32} {a2 : Int32} {σ σR : Sg} {r : Int32} (hg : g_X6_heats F N ln a1 a2 σ = some (σR, r)) : Met l yX6_heats wsX6_heats ({ frames := 6, cells := 0, slots := 0, locals := 183 } : Room) (va_Pc [.ref (gAd G 0), .int a1, .int a2] (PX G σ sz)) (QcI G (gA G sz) σR r) 0 0 (gA G sz) := by
  refine metX (by decide) rfl (Nat.le_of_ble_eq_true rfl) ?_
  intro p e s m args below meth c ls S hr hlk hsz hA hK hw hl hmn
  have S : CallFix p m c cX6_heats 7 s args wsX6_heats RX6 := S
  obtain ⟨hx, hb, hml, hown, hts⟩ := id S
  have hl : lv_has ls 7 [(0, .ref (gAd G 0)), (1, .int a1), (2, .int a2)] := hl
  have hinX1 : ∀ w ∈ wsX10, w ∈ wsX6_heats := by decide +kernel
  have hinX6 : ∀ w ∈ wsX60, w ∈ wsX6_heats := by decide +kernel
  have L45 : ∀ (v1 : Int32) (v2 : Int32) (n45 : Nat) (v4 : Int32) (v5 : Int32) (v6 : Int32) (σ : Sg) (H : Heap) (locs : List Loc) (ls : Array Slot) (hg : g_X6_heats_l45 F N ln v1 v2 n45 v4 v5 v6 σ = some (σR, r)) (hw : XD G (gA G sz) s.heap σ H locs) (hl : lv_has ls 7 [(0, .ref (gAd G 0)), (1, .int v1), (2, .int v2), (4, .int v4), (5, .int v5), (6, .int v6)]), W p l e (headSpec wsX6_heats ({ frames := 6, cells := 0, slots := 0, locals := 183 } : Room)).room s m args below meth c H locs 0 0 (MQ below (QcI G (gA G sz) σR r) args s 0 0 (gA G sz)) (F0 m 45 ls []) := by
    intro v1 v2
    intro n45
    induction n45 with
    | zero => intro v4 v5 v6 σ H locs ls hg hw hl; exact no_e hg
    | succ n45 ih45 =>
      have J84 : ∀ (v4 : Int32) (v5 : Int32) (v6 : Int32) (σ : Sg) (H : Heap) (locs : List Loc) (ls : Array Slot) (hg : g_X6_heats_b84 F N ln (fun v4_ v5_ v6_ σ_ => g_X6_heats_l45 F N ln v1 v2 n45 v4_ v5_ v6_ σ_) v1 v2 v4 v5 v6 σ = some (σR, r)) (hw : XD G (gA G sz) s.heap σ H locs) (hl : lv_has ls 7 [(0, .ref (gAd G 0)), (1, .int v1), (2, .int v2), (4, .int v4), (5, .int v5), (6, .int v6)]), W p l e (headSpec wsX6_heats ({ frames := 6, cells := 0, slots := 0, locals := 183 } : Room)).room s m args below meth c H locs 0 0 (MQ below (QcI G (gA G sz) σR r) args s 0 0 (gA G sz)) (F0 m 84 ls []) := by
        intro v4 v5 v6 σ H locs ls hg hw hl
        rw [g_X6_heats_b84] at hg
        refine lv_iinc (v := (v6 + (-1))) (lv' := [(6, .int (v6 + (-1))), (0, .ref (gAd G 0)), (1, .int v1), (2, .int v2), (4, .int v4), (5, .int v5)]) hx hb dX6_heats_84 hl (k := 5) rfl rfl (by decide) rfl (fun ls hl => ?_)
        refine lv_goto (tgt := 45) hx hb dX6_heats_87 (by decide) ?_
        exact ih45 _ _ _ _ _ _ _ hg hw (lv_sub hl [1, 2, 3, 4, 5, 0] rfl)
      intro v4 v5 v6 σ H locs ls hg hw hl
      rw [g_X6_heats_l45] at hg
      refine lv_iload hx hb dX6_heats_45 (lv_at hl 5 rfl) ?_
      refine lv_if_lt (tgt := 90) hx hb dX6_heats_47 (by decide) (fun c_1 => ?_) (fun c_1 => ?_)
      · have hg := it_p hg c_1
        refine lv_iload_n hx hb dX6_heats_90 rfl (lv_at hl 2 rfl) ?_
        refine lv_if_ne (tgt := 99) hx hb dX6_heats_91 (by decide) (fun c_2 => ?_) (fun c_2 => ?_)
        · have hg := it_n hg c_2
          refine lv_iload hx hb dX6_heats_99 (lv_at hl 4 rfl) ?_
          exact r_ireti S hr hlk hw.2.2.2.2 hw hg dX6_heats_101
        · have hg := it_p hg c_2
          refine lv_iload hx hb dX6_heats_94 (lv_at hl 3 rfl) ?_
          refine lv_goto (tgt := 101) hx hb dX6_heats_96 (by decide) ?_
          exact r_ireti S hr hlk hw.2.2.2.2 hw hg dX6_heats_101
      · have hg := it_n hg c_1
        refine lv_aload_n hx hb dX6_heats_50 rfl (lv_at hl 0 rfl) ?_
        refine r_getr (C := RX6) (T := TX6) (N := 12) (k' := 6) S hK hw (kX_0 hG).1 (kX_0 hG).2 rfl hinX6 1 (by decide) (o := 6) rfl rfl (hts (.fieldLink RX6 16 "SoupByRank" "thought" "LSoupByRank$Court;") (by decide +kernel)) rfl dX6_heats_51 ?_
        refine lv_iload hx hb dX6_heats_54 (lv_at hl 5 rfl) ?_
        obtain ⟨s_3, e_4, hg⟩ := wrF_e hg
        refine r_putN (C := RX1) (T := TX1) (N := 9) (host := RX6) S hK hw (kX_6 hG).1 (kX_6 hG).2 rfl hinX1 tyX1_ok nmX1 2 (by decide) rfl rfl rfl rfl (by decide +kernel) rfl e_4 dX6_heats_56 (fun H locs hw => ?_)
        refine lv_aload_n hx hb dX6_heats_59 rfl (lv_at hl 0 rfl) ?_
        refine lv_aload_n hx hb dX6_heats_60 rfl (lv_at hl 0 rfl) ?_
        refine r_getr (C := RX6) (T := TX6) (N := 12) (k' := 34) S hK hw (kX_0 hG).1 (kX_0 hG).2 rfl hinX6 10 (by decide) (o := 34) rfl rfl (hts (.fieldLink RX6 62 "SoupByRank" "sheets" "[LSoupByRank$Sheet;") (by decide +kernel)) rfl dX6_heats_61 ?_
        refine lv_iload_n hx hb dX6_heats_64 rfl (lv_at hl 1 rfl) ?_
        obtain ⟨h_6, q_5, e_7, h_q_5, hg⟩ := rdS_e hg
        refine r_aald (t0 := 2) S hK hw (kX_34 hG).1 (kX_34 hG).2 (tyS hG) h_6 e_7 dX6_heats_65 ?_
        refine lv_aload_n hx hb dX6_heats_66 rfl (lv_at hl 0 rfl) ?_
        refine r_getr (C := RX6) (T := TX6) (N := 12) (k' := 6) S hK hw (kX_0 hG).1 (kX_0 hG).2 rfl hinX6 1 (by decide) (o := 6) rfl rfl (hts (.fieldLink RX6 16 "SoupByRank" "thought" "LSoupByRank$Court;") (by decide +kernel)) rfl dX6_heats_67 ?_
        obtain ⟨s_8, x_9, h_10, hg⟩ := bnI_e hg
        refine r_iV (As := [.ref (gAd G q_5), .ref (gAd G 6)]) (rest := []) S hA hK hw (c_X6_firstOtherwise l hG h_q_5 isCt_6 h_10) (cwV 2 hts gX6_heats_X6_firstOtherwise rfl rfl rfl (by decide +kernel) ⟨Nat.le_of_ble_eq_true rfl, Nat.le_of_ble_eq_true rfl⟩) (r_recv hK hw (kX_0 hG).1 (kX_0 hG).2 rfl) rfl hl.1 (Nat.le_of_ble_eq_true rfl) dX6_heats_70 ⟨Nat.zero_le _, Nat.zero_le _⟩ rfl (fun H locs hw => ?_)
        refine lv_iconst (v := (-1)) hx hb dX6_heats_73 (by decide) ?_
        refine lv_icmp_ne (tgt := 84) hx hb dX6_heats_74 (by decide) (fun c_11 => ?_) (fun c_11 => ?_)
        · have hg := it_n hg c_11
          exact J84 v4 v5 v6 _ _ _ _ hg hw (lv_sub hl [0, 1, 2, 3, 4, 5] rfl)
        · have hg := it_p hg c_11
          refine lv_iinc (v := (v4 + 1)) (lv' := [(4, .int (v4 + 1)), (0, .ref (gAd G 0)), (1, .int v1), (2, .int v2), (5, .int v5), (6, .int v6)]) hx hb dX6_heats_77 hl (k := 3) rfl rfl (by decide) rfl (fun ls hl => ?_)
          refine lv_iload hx hb dX6_heats_80 (lv_at hl 5 rfl) ?_
          refine lv_istore (lv' := [(5, .int v6), (4, .int (v4 + 1)), (0, .ref (gAd G 0)), (1, .int v1), (2, .int v2), (6, .int v6)]) hx hb dX6_heats_82 hl (by decide) rfl (fun ls hl => ?_)
          exact J84 (v4 + 1) v6 v6 _ _ _ _ hg hw (lv_sub hl [2, 3, 4, 1, 0, 5] rfl)
  rw [g_X6_heats] at hg
  refine lv_aload_n hx hb dX6_heats_0 rfl (lv_at hl 0 rfl) ?_
  refine lv_iload_n hx hb dX6_heats_1 rfl (lv_at hl 1 rfl) ?_
  obtain ⟨s_12, x_13, h_14, hg⟩ := bnI_e hg
  refine r_iV (As := [.int a1]) (rest := []) S hA hK hw (c_X6_refusalOfTold l hG  h_14) (cwV 1 hts gX6_heats_X6_refusalOfTold rfl rfl rfl (by decide +kernel) ⟨Nat.le_of_ble_eq_true rfl, Nat.le_of_ble_eq_true rfl⟩) (r_recv hK hw (kX_0 hG).1 (kX_0 hG).2 rfl) rfl hl.1 (Nat.le_of_ble_eq_true rfl) dX6_heats_2 ⟨Nat.zero_le _, Nat.zero_le _⟩ rfl (fun H locs hw => ?_)
  refine lv_istore_n (lv' := [(3, .int x_13), (0, .ref (gAd G 0)), (1, .int a1), (2, .int a2)]) hx hb dX6_heats_5 rfl hl (by decide) rfl (fun ls hl => ?_)
  refine lv_iload_n hx hb dX6_heats_6 rfl (lv_at hl 0 rfl) ?_
  refine lv_if_ge (tgt := 12) hx hb dX6_heats_7 (by decide) (fun c_15 => ?_) (fun c_15 => ?_)
  · have hg := it_p hg c_15
    refine lv_iload_n hx hb dX6_heats_12 rfl (lv_at hl 3 rfl) ?_
    refine lv_iconst (v := 0) hx hb dX6_heats_13 (by decide) ?_
    refine lv_iconst (v := 1) hx hb dX6_heats_14 (by decide) ?_
    obtain ⟨s_16, x_17, h_18, hg⟩ := bnI_e hg
    refine r_iS (As := [.int a2, .int 0, .int 1]) (rest := []) S hA hK hw (c_X6_isWithin l hG  h_18) (va_cwS 3 hts gX6_heats_X6_isWithin rfl rfl rfl (by decide +kernel) ⟨Nat.le_of_ble_eq_true rfl, Nat.le_of_ble_eq_true rfl⟩) rfl hl.1 (Nat.le_of_ble_eq_true rfl) dX6_heats_15 ⟨Nat.zero_le _, Nat.zero_le _⟩ rfl (fun H locs hw => ?_)
    refine lv_if_ne (tgt := 24) hx hb dX6_heats_18 (by decide) (fun c_19 => ?_) (fun c_19 => ?_)
    · have hg := it_n hg c_19
      refine lv_aload_n hx hb dX6_heats_24 rfl (lv_at hl 1 rfl) ?_
      refine r_getr (C := RX6) (T := TX6) (N := 12) (k' := 6) S hK hw (kX_0 hG).1 (kX_0 hG).2 rfl hinX6 1 (by decide) (o := 6) rfl rfl (hts (.fieldLink RX6 16 "SoupByRank" "thought" "LSoupByRank$Court;") (by decide +kernel)) rfl dX6_heats_25 ?_
      refine lv_aload_n hx hb dX6_heats_28 rfl (lv_at hl 1 rfl) ?_
      refine r_getr (C := RX6) (T := TX6) (N := 12) (k' := 1) S hK hw (kX_0 hG).1 (kX_0 hG).2 rfl hinX6 0 (by decide) (o := 1) rfl rfl (hts (.fieldLink RX6 10 "SoupByRank" "court" "LSoupByRank$Court;") (by decide +kernel)) rfl dX6_heats_29 ?_
      obtain ⟨s_20, h_22, hg⟩ := bnV_e hg
      refine r_vV (As := [.ref (gAd G 1)]) (rest := []) S hA hK hw (c_X1_takeFrom l hG isCt_6 isCt_1 h_22) (cwV 1 hts gX6_heats_X1_takeFrom rfl rfl rfl (by decide +kernel) ⟨Nat.le_of_ble_eq_true rfl, Nat.le_of_ble_eq_true rfl⟩) (r_recv hK hw (kX_6 hG).1 (kX_6 hG).2 rfl) rfl hl.1 (Nat.le_of_ble_eq_true rfl) dX6_heats_32 ⟨Nat.zero_le _, Nat.zero_le _⟩ rfl (fun H locs hw => ?_)
      refine lv_iconst (v := 0) hx hb dX6_heats_35 (by decide) ?_
      refine lv_istore (lv' := [(4, .int 0), (3, .int x_13), (0, .ref (gAd G 0)), (1, .int a1), (2, .int a2)]) hx hb dX6_heats_36 hl (by decide) rfl (fun ls hl => ?_)
      refine lv_iconst (v := (-1)) hx hb dX6_heats_38 (by decide) ?_
      refine lv_istore (lv' := [(5, .int (-1)), (4, .int 0), (3, .int x_13), (0, .ref (gAd G 0)), (1, .int a1), (2, .int a2)]) hx hb dX6_heats_39 hl (by decide) rfl (fun ls hl => ?_)
      refine lv_bipush (v := 99) hx hb dX6_heats_41 (by decide) ?_
      refine lv_istore (lv' := [(6, .int 99), (5, .int (-1)), (4, .int 0), (3, .int x_13), (0, .ref (gAd G 0)), (1, .int a1), (2, .int a2)]) hx hb dX6_heats_43 hl (by decide) rfl (fun ls hl => ?_)
      exact L45 a1 a2 F _ _ _ _ _ _ _ hg hw (lv_sub hl [4, 5, 6, 2, 1, 0] rfl)
    · have hg := it_p hg c_19
      refine lv_bipush (v := (-7)) hx hb dX6_heats_21 (by decide) ?_
      exact r_ireti S hr hlk hw.2.2.2.2 hw hg dX6_heats_23
  · have hg := it_n hg c_15
    refine lv_iload_n hx hb dX6_heats_10 rfl (lv_at hl 0 rfl) ?_
    exact r_ireti S hr hlk hw.2.2.2.2 hw hg dX6_heats_11
set_option maxHeartbeats 4000000 in
set_option maxRecDepth 100000 in
theorem c_X6_laws (l : Launch) {G : GW} {N : Nat} {ln : Nat → Nat} {cT cS : ClassId} (hG : isX G N ln cT cS) {F sz : Nat} {a1 : Int32} {σ σR : Sg} {r : Int32} (hg : g_X6_laws F N ln a1 σ = some (σR, r)) : Met l yX6_laws wsX6_laws ({ frames := 6, cells := 0, slots := 0, locals := 183 } : Room) (va_Pc [.ref (gAd G 0), .int a1] (PX G σ sz)) (QcI G (gA G sz) σR r) 0 0 (gA G sz) := by
  refine metX (by decide) rfl (Nat.le_of_ble_eq_true rfl) ?_
  intro p e s m args below meth c ls S hr hlk hsz hA hK hw hl hmn
  have S : CallFix p m c cX6_laws 5 s args wsX6_laws RX6 := S
  obtain ⟨hx, hb, hml, hown, hts⟩ := id S
  have hl : lv_has ls 5 [(0, .ref (gAd G 0)), (1, .int a1)] := hl
  have hinX1 : ∀ w ∈ wsX10, w ∈ wsX6_laws := by decide +kernel
  have hinX6 : ∀ w ∈ wsX60, w ∈ wsX6_laws := by decide +kernel
  have L28 : ∀ (v1 : Int32) (n28 : Nat) (v3 : Int32) (v4 : Int32) (σ : Sg) (H : Heap) (locs : List Loc) (ls : Array Slot) (hg : g_X6_laws_l28 F N ln v1 n28 v3 v4 σ = some (σR, r)) (hw : XD G (gA G sz) s.heap σ H locs) (hl : lv_has ls 5 [(0, .ref (gAd G 0)), (1, .int v1), (3, .int v3), (4, .int v4)]), W p l e (headSpec wsX6_laws ({ frames := 6, cells := 0, slots := 0, locals := 183 } : Room)).room s m args below meth c H locs 0 0 (MQ below (QcI G (gA G sz) σR r) args s 0 0 (gA G sz)) (F0 m 28 ls []) := by
    intro v1
    intro n28
    induction n28 with
    | zero => intro v3 v4 σ H locs ls hg hw hl; exact no_e hg
    | succ n28 ih28 =>
      have J71 : ∀ (v3 : Int32) (v4 : Int32) (σ : Sg) (H : Heap) (locs : List Loc) (ls : Array Slot) (hg : g_X6_laws_b71 F N ln (fun v3_ v4_ σ_ => g_X6_laws_l28 F N ln v1 n28 v3_ v4_ σ_) v1 v3 v4 σ = some (σR, r)) (hw : XD G (gA G sz) s.heap σ H locs) (hl : lv_has ls 5 [(0, .ref (gAd G 0)), (1, .int v1), (3, .int v3), (4, .int v4)]), W p l e (headSpec wsX6_laws ({ frames := 6, cells := 0, slots := 0, locals := 183 } : Room)).room s m args below meth c H locs 0 0 (MQ below (QcI G (gA G sz) σR r) args s 0 0 (gA G sz)) (F0 m 71 ls []) := by
        intro v3 v4 σ H locs ls hg hw hl
        rw [g_X6_laws_b71] at hg
        refine lv_iinc (v := (v4 + 1)) (lv' := [(4, .int (v4 + 1)), (0, .ref (gAd G 0)), (1, .int v1), (3, .int v3)]) hx hb dX6_laws_71 hl (k := 3) rfl rfl (by decide) rfl (fun ls hl => ?_)
        refine lv_goto (tgt := 28) hx hb dX6_laws_74 (by decide) ?_
        exact ih28 _ _ _ _ _ _ hg hw (lv_sub hl [1, 2, 3, 0] rfl)
      intro v3 v4 σ H locs ls hg hw hl
      rw [g_X6_laws_l28] at hg
      refine lv_iload hx hb dX6_laws_28 (lv_at hl 3 rfl) ?_
      refine lv_aload_n hx hb dX6_laws_30 rfl (lv_at hl 0 rfl) ?_
      refine r_get (C := RX6) (T := TX6) (N := 12) S hK hw (kX_0 hG).1 (kX_0 hG).2 rfl hinX6 8 (by decide) rfl (hts (.fieldLink RX6 49 "SoupByRank" "textsThere" "I") (by decide +kernel)) rfl dX6_laws_31 ?_
      refine lv_icmp_ge (tgt := 77) hx hb dX6_laws_34 (by decide) (fun c_1 => ?_) (fun c_1 => ?_)
      · have hg := it_p hg c_1
        refine lv_iload_n hx hb dX6_laws_77 rfl (lv_at hl 2 rfl) ?_
        exact r_ireti S hr hlk hw.2.2.2.2 hw hg dX6_laws_78
      · have hg := it_n hg c_1
        refine lv_aload_n hx hb dX6_laws_37 rfl (lv_at hl 0 rfl) ?_
        refine r_getr (C := RX6) (T := TX6) (N := 12) (k' := 6) S hK hw (kX_0 hG).1 (kX_0 hG).2 rfl hinX6 1 (by decide) (o := 6) rfl rfl (hts (.fieldLink RX6 16 "SoupByRank" "thought" "LSoupByRank$Court;") (by decide +kernel)) rfl dX6_laws_38 ?_
        refine lv_iload hx hb dX6_laws_41 (lv_at hl 3 rfl) ?_
        obtain ⟨s_2, e_3, hg⟩ := wrF_e hg
        refine r_putN (C := RX1) (T := TX1) (N := 9) (host := RX6) S hK hw (kX_6 hG).1 (kX_6 hG).2 rfl hinX1 tyX1_ok nmX1 3 (by decide) rfl rfl rfl rfl (by decide +kernel) rfl e_3 dX6_laws_43 (fun H locs hw => ?_)
        refine lv_aload_n hx hb dX6_laws_46 rfl (lv_at hl 0 rfl) ?_
        refine lv_aload_n hx hb dX6_laws_47 rfl (lv_at hl 0 rfl) ?_
        refine r_getr (C := RX6) (T := TX6) (N := 12) (k' := 34) S hK hw (kX_0 hG).1 (kX_0 hG).2 rfl hinX6 10 (by decide) (o := 34) rfl rfl (hts (.fieldLink RX6 62 "SoupByRank" "sheets" "[LSoupByRank$Sheet;") (by decide +kernel)) rfl dX6_laws_48 ?_
        refine lv_iload_n hx hb dX6_laws_51 rfl (lv_at hl 1 rfl) ?_
        obtain ⟨h_5, q_4, e_6, h_q_4, hg⟩ := rdS_e hg
        refine r_aald (t0 := 2) S hK hw (kX_34 hG).1 (kX_34 hG).2 (tyS hG) h_5 e_6 dX6_laws_52 ?_
        refine lv_aload_n hx hb dX6_laws_53 rfl (lv_at hl 0 rfl) ?_
        refine r_getr (C := RX6) (T := TX6) (N := 12) (k' := 6) S hK hw (kX_0 hG).1 (kX_0 hG).2 rfl hinX6 1 (by decide) (o := 6) rfl rfl (hts (.fieldLink RX6 16 "SoupByRank" "thought" "LSoupByRank$Court;") (by decide +kernel)) rfl dX6_laws_54 ?_
        obtain ⟨s_7, x_8, h_9, hg⟩ := bnI_e hg
        refine r_iV (As := [.ref (gAd G q_4), .ref (gAd G 6)]) (rest := []) S hA hK hw (c_X6_firstOtherwise l hG h_q_4 isCt_6 h_9) (cwV 2 hts gX6_laws_X6_firstOtherwise rfl rfl rfl (by decide +kernel) ⟨Nat.le_of_ble_eq_true rfl, Nat.le_of_ble_eq_true rfl⟩) (r_recv hK hw (kX_0 hG).1 (kX_0 hG).2 rfl) rfl hl.1 (Nat.le_of_ble_eq_true rfl) dX6_laws_57 ⟨Nat.zero_le _, Nat.zero_le _⟩ rfl (fun H locs hw => ?_)
        refine lv_iconst (v := (-1)) hx hb dX6_laws_60 (by decide) ?_
        refine lv_icmp_ne (tgt := 71) hx hb dX6_laws_61 (by decide) (fun c_10 => ?_) (fun c_10 => ?_)
        · have hg := it_n hg c_10
          exact J71 v3 v4 _ _ _ _ hg hw (lv_sub hl [0, 1, 2, 3] rfl)
        · have hg := it_p hg c_10
          refine lv_iload_n hx hb dX6_laws_64 rfl (lv_at hl 2 rfl) ?_
          refine lv_iconst (v := 1) hx hb dX6_laws_65 (by decide) ?_
          refine lv_iload hx hb dX6_laws_66 (lv_at hl 3 rfl) ?_
          refine lv_ishl hx hb dX6_laws_68 ?_
          refine lv_ior hx hb dX6_laws_69 ?_
          refine lv_istore_n (lv' := [(3, .int (v3 ||| ((1 : Int32) <<< (v4 &&& 31)))), (0, .ref (gAd G 0)), (1, .int v1), (4, .int v4)]) hx hb dX6_laws_70 rfl hl (by decide) rfl (fun ls hl => ?_)
          exact J71 (v3 ||| ((1 : Int32) <<< (v4 &&& 31))) v4 _ _ _ _ hg hw (lv_sub hl [1, 2, 0, 3] rfl)
  rw [g_X6_laws] at hg
  refine lv_aload_n hx hb dX6_laws_0 rfl (lv_at hl 0 rfl) ?_
  refine lv_iload_n hx hb dX6_laws_1 rfl (lv_at hl 1 rfl) ?_
  obtain ⟨s_11, x_12, h_13, hg⟩ := bnI_e hg
  refine r_iV (As := [.int a1]) (rest := []) S hA hK hw (c_X6_refusalOfTold l hG  h_13) (cwV 1 hts gX6_laws_X6_refusalOfTold rfl rfl rfl (by decide +kernel) ⟨Nat.le_of_ble_eq_true rfl, Nat.le_of_ble_eq_true rfl⟩) (r_recv hK hw (kX_0 hG).1 (kX_0 hG).2 rfl) rfl hl.1 (Nat.le_of_ble_eq_true rfl) dX6_laws_2 ⟨Nat.zero_le _, Nat.zero_le _⟩ rfl (fun H locs hw => ?_)
  refine lv_istore_n (lv' := [(2, .int x_12), (0, .ref (gAd G 0)), (1, .int a1)]) hx hb dX6_laws_5 rfl hl (by decide) rfl (fun ls hl => ?_)
  refine lv_iload_n hx hb dX6_laws_6 rfl (lv_at hl 0 rfl) ?_
  refine lv_if_ge (tgt := 12) hx hb dX6_laws_7 (by decide) (fun c_14 => ?_) (fun c_14 => ?_)
  · have hg := it_p hg c_14
    refine lv_aload_n hx hb dX6_laws_12 rfl (lv_at hl 1 rfl) ?_
    refine r_getr (C := RX6) (T := TX6) (N := 12) (k' := 6) S hK hw (kX_0 hG).1 (kX_0 hG).2 rfl hinX6 1 (by decide) (o := 6) rfl rfl (hts (.fieldLink RX6 16 "SoupByRank" "thought" "LSoupByRank$Court;") (by decide +kernel)) rfl dX6_laws_13 ?_
    refine lv_aload_n hx hb dX6_laws_16 rfl (lv_at hl 1 rfl) ?_
    refine r_getr (C := RX6) (T := TX6) (N := 12) (k' := 1) S hK hw (kX_0 hG).1 (kX_0 hG).2 rfl hinX6 0 (by decide) (o := 1) rfl rfl (hts (.fieldLink RX6 10 "SoupByRank" "court" "LSoupByRank$Court;") (by decide +kernel)) rfl dX6_laws_17 ?_
    obtain ⟨s_15, h_17, hg⟩ := bnV_e hg
    refine r_vV (As := [.ref (gAd G 1)]) (rest := []) S hA hK hw (c_X1_takeFrom l hG isCt_6 isCt_1 h_17) (cwV 1 hts gX6_laws_X1_takeFrom rfl rfl rfl (by decide +kernel) ⟨Nat.le_of_ble_eq_true rfl, Nat.le_of_ble_eq_true rfl⟩) (r_recv hK hw (kX_6 hG).1 (kX_6 hG).2 rfl) rfl hl.1 (Nat.le_of_ble_eq_true rfl) dX6_laws_20 ⟨Nat.zero_le _, Nat.zero_le _⟩ rfl (fun H locs hw => ?_)
    refine lv_iconst (v := 0) hx hb dX6_laws_23 (by decide) ?_
    refine lv_istore_n (lv' := [(3, .int 0), (2, .int x_12), (0, .ref (gAd G 0)), (1, .int a1)]) hx hb dX6_laws_24 rfl hl (by decide) rfl (fun ls hl => ?_)
    refine lv_iconst (v := 0) hx hb dX6_laws_25 (by decide) ?_
    refine lv_istore (lv' := [(4, .int 0), (3, .int 0), (2, .int x_12), (0, .ref (gAd G 0)), (1, .int a1)]) hx hb dX6_laws_26 hl (by decide) rfl (fun ls hl => ?_)
    exact L28 a1 F _ _ _ _ _ _ hg hw (lv_sub hl [3, 4, 1, 0] rfl)
  · have hg := it_n hg c_14
    refine lv_iload_n hx hb dX6_laws_10 rfl (lv_at hl 0 rfl) ?_
    exact r_ireti S hr hlk hw.2.2.2.2 hw hg dX6_laws_11
set_option maxHeartbeats 4000000 in
set_option maxRecDepth 100000 in
theorem c_X6_film (l : Launch) {G : GW} {N : Nat} {ln : Nat → Nat} {cT cS : ClassId} (hG : isX G N ln cT cS) {F sz : Nat} {a1 : Int32} {σ σR : Sg} {r : Int32} (hg : g_X6_film F N ln a1 σ = some (σR, r)) : Met l yX6_film wsX6_film ({ frames := 6, cells := 0, slots := 0, locals := 181 } : Room) (va_Pc [.ref (gAd G 0), .int a1] (PX G σ sz)) (QcI G (gA G sz) σR r) 0 0 (gA G sz) := by
  refine metX (by decide) rfl (Nat.le_of_ble_eq_true rfl) ?_
  intro p e s m args below meth c ls S hr hlk hsz hA hK hw hl hmn
  have S : CallFix p m c cX6_film 3 s args wsX6_film RX6 := S
  obtain ⟨hx, hb, hml, hown, hts⟩ := id S
  have hl : lv_has ls 3 [(0, .ref (gAd G 0)), (1, .int a1)] := hl
  have hinX1 : ∀ w ∈ wsX10, w ∈ wsX6_film := by decide +kernel
  have hinX2 : ∀ w ∈ wsX20, w ∈ wsX6_film := by decide +kernel
  have hinX6 : ∀ w ∈ wsX60, w ∈ wsX6_film := by decide +kernel
  have L38 : ∀ (v1 : Int32) (n38 : Nat) (v2 : Int32) (σ : Sg) (H : Heap) (locs : List Loc) (ls : Array Slot) (hg : g_X6_film_l38 F N ln v1 n38 v2 σ = some (σR, r)) (hw : XD G (gA G sz) s.heap σ H locs) (hl : lv_has ls 3 [(0, .ref (gAd G 0)), (1, .int v1), (2, .int v2)]), W p l e (headSpec wsX6_film ({ frames := 6, cells := 0, slots := 0, locals := 181 } : Room)).room s m args below meth c H locs 0 0 (MQ below (QcI G (gA G sz) σR r) args s 0 0 (gA G sz)) (F0 m 38 ls []) := by
    intro v1
    intro n38
    induction n38 with
    | zero => intro v2 σ H locs ls hg hw hl; exact no_e hg
    | succ n38 ih38 =>
      intro v2 σ H locs ls hg hw hl
      rw [g_X6_film_l38] at hg
      refine lv_iload_n hx hb dX6_film_38 rfl (lv_at hl 2 rfl) ?_
      refine lv_aload_n hx hb dX6_film_39 rfl (lv_at hl 0 rfl) ?_
      refine r_getr (C := RX6) (T := TX6) (N := 12) (k' := 1) S hK hw (kX_0 hG).1 (kX_0 hG).2 rfl hinX6 0 (by decide) (o := 1) rfl rfl (hts (.fieldLink RX6 10 "SoupByRank" "court" "LSoupByRank$Court;") (by decide +kernel)) rfl dX6_film_40 ?_
      refine r_getN (C := RX1) (T := TX1) (N := 9) (host := RX6) S hK hw (kX_1 hG).1 (kX_1 hG).2 rfl hinX1 0 (by decide) rfl (by decide +kernel) rfl dX6_film_43 ?_
      refine lv_icmp_ge (tgt := 74) hx hb dX6_film_46 (by decide) (fun c_1 => ?_) (fun c_1 => ?_)
      · have hg := it_p hg c_1
        refine lv_aload_n hx hb dX6_film_74 rfl (lv_at hl 0 rfl) ?_
        refine r_getr (C := RX6) (T := TX6) (N := 12) (k' := 1) S hK hw (kX_0 hG).1 (kX_0 hG).2 rfl hinX6 0 (by decide) (o := 1) rfl rfl (hts (.fieldLink RX6 10 "SoupByRank" "court" "LSoupByRank$Court;") (by decide +kernel)) rfl dX6_film_75 ?_
        refine r_getN (C := RX1) (T := TX1) (N := 9) (host := RX6) S hK hw (kX_1 hG).1 (kX_1 hG).2 rfl hinX1 0 (by decide) rfl (by decide +kernel) rfl dX6_film_78 ?_
        exact r_ireti S hr hlk hw.2.2.2.2 hw hg dX6_film_81
      · have hg := it_n hg c_1
        refine lv_aload_n hx hb dX6_film_49 rfl (lv_at hl 0 rfl) ?_
        refine r_getr (C := RX6) (T := TX6) (N := 12) (k' := 34) S hK hw (kX_0 hG).1 (kX_0 hG).2 rfl hinX6 10 (by decide) (o := 34) rfl rfl (hts (.fieldLink RX6 62 "SoupByRank" "sheets" "[LSoupByRank$Sheet;") (by decide +kernel)) rfl dX6_film_50 ?_
        refine lv_iload_n hx hb dX6_film_53 rfl (lv_at hl 1 rfl) ?_
        obtain ⟨h_3, q_2, e_4, h_q_2, hg⟩ := rdS_e hg
        refine r_aald (t0 := 2) S hK hw (kX_34 hG).1 (kX_34 hG).2 (tyS hG) h_3 e_4 dX6_film_54 ?_
        refine lv_iload_n hx hb dX6_film_55 rfl (lv_at hl 2 rfl) ?_
        refine lv_aload_n hx hb dX6_film_56 rfl (lv_at hl 0 rfl) ?_
        refine r_getr (C := RX6) (T := TX6) (N := 12) (k' := 16) S hK hw (kX_0 hG).1 (kX_0 hG).2 rfl hinX6 4 (by decide) (o := 16) rfl rfl (hts (.fieldLink RX6 25 "SoupByRank" "evening" "LSoupByRank$Evening;") (by decide +kernel)) rfl dX6_film_57 ?_
        refine r_getrN (C := RX2) (T := TX2) (N := 11) (host := RX6) (k' := 20) S hK hw (kX_16 hG).1 (kX_16 hG).2 rfl hinX2 3 (by decide) (o := 4) rfl rfl (by decide +kernel) rfl dX6_film_60 ?_
        refine lv_iload_n hx hb dX6_film_63 rfl (lv_at hl 2 rfl) ?_
        obtain ⟨h_6, x_5, e_7, hg⟩ := rdA_e hg
        refine r_iald S hK hw (kX_20 hG).1 (kX_20 hG).2 h_6 e_7 dX6_film_64 ?_
        obtain ⟨s_8, h_10, hg⟩ := bnV_e hg
        refine r_vV (As := [.int v2, .int x_5]) (rest := []) S hA hK hw (c_X3_write l hG h_q_2 h_10) (cwV 2 hts gX6_film_X3_write rfl rfl rfl (by decide +kernel) ⟨Nat.le_of_ble_eq_true rfl, Nat.le_of_ble_eq_true rfl⟩) (r_recv hK hw (kS0 hG h_q_2).1 (kS0 hG h_q_2).2 rfl) rfl hl.1 (Nat.le_of_ble_eq_true rfl) dX6_film_65 ⟨Nat.zero_le _, Nat.zero_le _⟩ rfl (fun H locs hw => ?_)
        refine lv_iinc (v := (v2 + 1)) (lv' := [(2, .int (v2 + 1)), (0, .ref (gAd G 0)), (1, .int v1)]) hx hb dX6_film_68 hl (k := 2) rfl rfl (by decide) rfl (fun ls hl => ?_)
        refine lv_goto (tgt := 38) hx hb dX6_film_71 (by decide) ?_
        exact ih38 _ _ _ _ _ hg hw (lv_sub hl [1, 2, 0] rfl)
  rw [g_X6_film] at hg
  refine lv_iload_n hx hb dX6_film_0 rfl (lv_at hl 1 rfl) ?_
  obtain ⟨s_11, x_12, h_13, hg⟩ := bnI_e hg
  refine r_iS (As := [.int a1]) (rest := []) S hA hK hw (c_X6_isSheet l hG  h_13) (va_cwS 1 hts gX6_film_X6_isSheet rfl rfl rfl (by decide +kernel) ⟨Nat.le_of_ble_eq_true rfl, Nat.le_of_ble_eq_true rfl⟩) rfl hl.1 (Nat.le_of_ble_eq_true rfl) dX6_film_1 ⟨Nat.zero_le _, Nat.zero_le _⟩ rfl (fun H locs hw => ?_)
  refine lv_if_ne (tgt := 10) hx hb dX6_film_4 (by decide) (fun c_14 => ?_) (fun c_14 => ?_)
  · have hg := it_n hg c_14
    refine lv_aload_n hx hb dX6_film_10 rfl (lv_at hl 0 rfl) ?_
    refine lv_aload_n hx hb dX6_film_11 rfl (lv_at hl 0 rfl) ?_
    refine r_getr (C := RX6) (T := TX6) (N := 12) (k' := 1) S hK hw (kX_0 hG).1 (kX_0 hG).2 rfl hinX6 0 (by decide) (o := 1) rfl rfl (hts (.fieldLink RX6 10 "SoupByRank" "court" "LSoupByRank$Court;") (by decide +kernel)) rfl dX6_film_12 ?_
    obtain ⟨s_15, x_16, h_17, hg⟩ := bnI_e hg
    refine r_iV (As := [.ref (gAd G 1)]) (rest := []) S hA hK hw (c_X6_serve l hG isCt_1 h_17) (cwV 1 hts gX6_film_X6_serve rfl rfl rfl (by decide +kernel) ⟨Nat.le_of_ble_eq_true rfl, Nat.le_of_ble_eq_true rfl⟩) (r_recv hK hw (kX_0 hG).1 (kX_0 hG).2 rfl) rfl hl.1 (Nat.le_of_ble_eq_true rfl) dX6_film_15 ⟨Nat.zero_le _, Nat.zero_le _⟩ rfl (fun H locs hw => ?_)
    refine lv_pop hx hb dX6_film_18 rfl ?_
    refine lv_aload_n hx hb dX6_film_19 rfl (lv_at hl 0 rfl) ?_
    refine r_getr (C := RX6) (T := TX6) (N := 12) (k' := 34) S hK hw (kX_0 hG).1 (kX_0 hG).2 rfl hinX6 10 (by decide) (o := 34) rfl rfl (hts (.fieldLink RX6 62 "SoupByRank" "sheets" "[LSoupByRank$Sheet;") (by decide +kernel)) rfl dX6_film_20 ?_
    refine lv_iload_n hx hb dX6_film_23 rfl (lv_at hl 1 rfl) ?_
    obtain ⟨h_19, q_18, e_20, h_q_18, hg⟩ := rdS_e hg
    refine r_aald (t0 := 2) S hK hw (kX_34 hG).1 (kX_34 hG).2 (tyS hG) h_19 e_20 dX6_film_24 ?_
    refine lv_iconst (v := 0) hx hb dX6_film_25 (by decide) ?_
    refine lv_aload_n hx hb dX6_film_26 rfl (lv_at hl 0 rfl) ?_
    refine r_getr (C := RX6) (T := TX6) (N := 12) (k' := 1) S hK hw (kX_0 hG).1 (kX_0 hG).2 rfl hinX6 0 (by decide) (o := 1) rfl rfl (hts (.fieldLink RX6 10 "SoupByRank" "court" "LSoupByRank$Court;") (by decide +kernel)) rfl dX6_film_27 ?_
    refine r_getN (C := RX1) (T := TX1) (N := 9) (host := RX6) S hK hw (kX_1 hG).1 (kX_1 hG).2 rfl hinX1 0 (by decide) rfl (by decide +kernel) rfl dX6_film_30 ?_
    obtain ⟨s_21, h_23, hg⟩ := bnV_e hg
    refine r_vV (As := [.int 0, .int (s_15 1 0)]) (rest := []) S hA hK hw (c_X3_become l hG h_q_18 h_23) (cwV 2 hts gX6_film_X3_become rfl rfl rfl (by decide +kernel) ⟨Nat.le_of_ble_eq_true rfl, Nat.le_of_ble_eq_true rfl⟩) (r_recv hK hw (kS0 hG h_q_18).1 (kS0 hG h_q_18).2 rfl) rfl hl.1 (Nat.le_of_ble_eq_true rfl) dX6_film_33 ⟨Nat.zero_le _, Nat.zero_le _⟩ rfl (fun H locs hw => ?_)
    refine lv_iconst (v := 0) hx hb dX6_film_36 (by decide) ?_
    refine lv_istore_n (lv' := [(2, .int 0), (0, .ref (gAd G 0)), (1, .int a1)]) hx hb dX6_film_37 rfl hl (by decide) rfl (fun ls hl => ?_)
    exact L38 a1 F _ _ _ _ _ hg hw (lv_sub hl [1, 2, 0] rfl)
  · have hg := it_p hg c_14
    refine lv_bipush (v := (-2)) hx hb dX6_film_7 (by decide) ?_
    exact r_ireti S hr hlk hw.2.2.2.2 hw hg dX6_film_9
set_option maxHeartbeats 4000000 in
set_option maxRecDepth 100000 in
theorem c_X6_drawn (l : Launch) {G : GW} {N : Nat} {ln : Nat → Nat} {cT cS : ClassId} (hG : isX G N ln cT cS) {F sz : Nat} {a1 : Int32} {a2 : Int32} {σ σR : Sg} {r : Int32} (hg : g_X6_drawn F N ln a1 a2 σ = some (σR, r)) : Met l yX6_drawn wsX6_drawn ({ frames := 6, cells := 0, slots := 0, locals := 181 } : Room) (va_Pc [.ref (gAd G 0), .int a1, .int a2] (PX G σ sz)) (QcI G (gA G sz) σR r) 0 0 (gA G sz) := by
  refine metX (by decide) rfl (Nat.le_of_ble_eq_true rfl) ?_
  intro p e s m args below meth c ls S hr hlk hsz hA hK hw hl hmn
  have S : CallFix p m c cX6_drawn 4 s args wsX6_drawn RX6 := S
  obtain ⟨hx, hb, hml, hown, hts⟩ := id S
  have hl : lv_has ls 4 [(0, .ref (gAd G 0)), (1, .int a1), (2, .int a2)] := hl
  have hinX6 : ∀ w ∈ wsX60, w ∈ wsX6_drawn := by decide +kernel
  rw [g_X6_drawn] at hg
  refine lv_iload_n hx hb dX6_drawn_0 rfl (lv_at hl 1 rfl) ?_
  refine lv_iconst (v := 0) hx hb dX6_drawn_1 (by decide) ?_
  refine lv_ldc (v := 99999) hx hb hown (hts (.constant RX6 246 (99999)) (by decide +kernel)) dX6_drawn_2 ?_
  obtain ⟨s_1, x_2, h_3, hg⟩ := bnI_e hg
  refine r_iS (As := [.int a1, .int 0, .int 99999]) (rest := []) S hA hK hw (c_X6_isWithin l hG  h_3) (va_cwS 3 hts gX6_drawn_X6_isWithin rfl rfl rfl (by decide +kernel) ⟨Nat.le_of_ble_eq_true rfl, Nat.le_of_ble_eq_true rfl⟩) rfl hl.1 (Nat.le_of_ble_eq_true rfl) dX6_drawn_4 ⟨Nat.zero_le _, Nat.zero_le _⟩ rfl (fun H locs hw => ?_)
  refine lv_if_eq (tgt := 19) hx hb dX6_drawn_7 (by decide) (fun c_4 => ?_) (fun c_4 => ?_)
  · have hg := it_p hg c_4
    refine lv_ldc (v := (-100000)) hx hb hown (hts (.constant RX6 179 (-100000)) (by decide +kernel)) dX6_drawn_19 ?_
    exact r_ireti S hr hlk hw.2.2.2.2 hw hg dX6_drawn_21
  · have hg := it_n hg c_4
    refine lv_iload_n hx hb dX6_drawn_10 rfl (lv_at hl 2 rfl) ?_
    refine lv_iconst (v := 0) hx hb dX6_drawn_11 (by decide) ?_
    refine lv_iconst (v := 1) hx hb dX6_drawn_12 (by decide) ?_
    obtain ⟨s_5, x_6, h_7, hg⟩ := bnI_e hg
    refine r_iS (As := [.int a2, .int 0, .int 1]) (rest := []) S hA hK hw (c_X6_isWithin l hG  h_7) (va_cwS 3 hts gX6_drawn_X6_isWithin rfl rfl rfl (by decide +kernel) ⟨Nat.le_of_ble_eq_true rfl, Nat.le_of_ble_eq_true rfl⟩) rfl hl.1 (Nat.le_of_ble_eq_true rfl) dX6_drawn_13 ⟨Nat.zero_le _, Nat.zero_le _⟩ rfl (fun H locs hw => ?_)
    refine lv_if_ne (tgt := 22) hx hb dX6_drawn_16 (by decide) (fun c_8 => ?_) (fun c_8 => ?_)
    · have hg := it_n hg c_8
      refine lv_aload_n hx hb dX6_drawn_22 rfl (lv_at hl 0 rfl) ?_
      refine r_getr (C := RX6) (T := TX6) (N := 12) (k' := 6) S hK hw (kX_0 hG).1 (kX_0 hG).2 rfl hinX6 1 (by decide) (o := 6) rfl rfl (hts (.fieldLink RX6 16 "SoupByRank" "thought" "LSoupByRank$Court;") (by decide +kernel)) rfl dX6_drawn_23 ?_
      refine lv_aload_n hx hb dX6_drawn_26 rfl (lv_at hl 0 rfl) ?_
      refine r_getr (C := RX6) (T := TX6) (N := 12) (k' := 1) S hK hw (kX_0 hG).1 (kX_0 hG).2 rfl hinX6 0 (by decide) (o := 1) rfl rfl (hts (.fieldLink RX6 10 "SoupByRank" "court" "LSoupByRank$Court;") (by decide +kernel)) rfl dX6_drawn_27 ?_
      obtain ⟨s_9, h_11, hg⟩ := bnV_e hg
      refine r_vV (As := [.ref (gAd G 1)]) (rest := []) S hA hK hw (c_X1_takeFrom l hG isCt_6 isCt_1 h_11) (cwV 1 hts gX6_drawn_X1_takeFrom rfl rfl rfl (by decide +kernel) ⟨Nat.le_of_ble_eq_true rfl, Nat.le_of_ble_eq_true rfl⟩) (r_recv hK hw (kX_6 hG).1 (kX_6 hG).2 rfl) rfl hl.1 (Nat.le_of_ble_eq_true rfl) dX6_drawn_30 ⟨Nat.zero_le _, Nat.zero_le _⟩ rfl (fun H locs hw => ?_)
      refine lv_aload_n hx hb dX6_drawn_33 rfl (lv_at hl 0 rfl) ?_
      refine r_getr (C := RX6) (T := TX6) (N := 12) (k' := 6) S hK hw (kX_0 hG).1 (kX_0 hG).2 rfl hinX6 1 (by decide) (o := 6) rfl rfl (hts (.fieldLink RX6 16 "SoupByRank" "thought" "LSoupByRank$Court;") (by decide +kernel)) rfl dX6_drawn_34 ?_
      refine lv_iload_n hx hb dX6_drawn_37 rfl (lv_at hl 1 rfl) ?_
      obtain ⟨s_12, h_14, hg⟩ := bnV_e hg
      refine r_vV (As := [.int a1]) (rest := []) S hA hK hw (c_X1_drawRanks l hG isCt_6 h_14) (cwV 1 hts gX6_drawn_X1_drawRanks rfl rfl rfl (by decide +kernel) ⟨Nat.le_of_ble_eq_true rfl, Nat.le_of_ble_eq_true rfl⟩) (r_recv hK hw (kX_6 hG).1 (kX_6 hG).2 rfl) rfl hl.1 (Nat.le_of_ble_eq_true rfl) dX6_drawn_38 ⟨Nat.zero_le _, Nat.zero_le _⟩ rfl (fun H locs hw => ?_)
      refine lv_aload_n hx hb dX6_drawn_41 rfl (lv_at hl 0 rfl) ?_
      refine lv_aload_n hx hb dX6_drawn_42 rfl (lv_at hl 0 rfl) ?_
      refine r_getr (C := RX6) (T := TX6) (N := 12) (k' := 6) S hK hw (kX_0 hG).1 (kX_0 hG).2 rfl hinX6 1 (by decide) (o := 6) rfl rfl (hts (.fieldLink RX6 16 "SoupByRank" "thought" "LSoupByRank$Court;") (by decide +kernel)) rfl dX6_drawn_43 ?_
      obtain ⟨s_15, x_16, h_17, hg⟩ := bnI_e hg
      refine r_iV (As := [.ref (gAd G 6)]) (rest := []) S hA hK hw (c_X6_serve l hG isCt_6 h_17) (cwV 1 hts gX6_drawn_X6_serve rfl rfl rfl (by decide +kernel) ⟨Nat.le_of_ble_eq_true rfl, Nat.le_of_ble_eq_true rfl⟩) (r_recv hK hw (kX_0 hG).1 (kX_0 hG).2 rfl) rfl hl.1 (Nat.le_of_ble_eq_true rfl) dX6_drawn_46 ⟨Nat.zero_le _, Nat.zero_le _⟩ rfl (fun H locs hw => ?_)
      refine lv_istore_n (lv' := [(3, .int x_16), (0, .ref (gAd G 0)), (1, .int a1), (2, .int a2)]) hx hb dX6_drawn_49 rfl hl (by decide) rfl (fun ls hl => ?_)
      refine lv_iload_n hx hb dX6_drawn_50 rfl (lv_at hl 3 rfl) ?_
      refine lv_if_ne (tgt := 58) hx hb dX6_drawn_51 (by decide) (fun c_18 => ?_) (fun c_18 => ?_)
      · have hg := it_n hg c_18
        refine lv_aload_n hx hb dX6_drawn_58 rfl (lv_at hl 1 rfl) ?_
        refine r_getr (C := RX6) (T := TX6) (N := 12) (k' := 16) S hK hw (kX_0 hG).1 (kX_0 hG).2 rfl hinX6 4 (by decide) (o := 16) rfl rfl (hts (.fieldLink RX6 25 "SoupByRank" "evening" "LSoupByRank$Evening;") (by decide +kernel)) rfl dX6_drawn_59 ?_
        obtain ⟨s_19, x_20, h_21, hg⟩ := bnI_e hg
        refine r_iV (As := []) (rest := []) S hA hK hw (c_X2_last l hG  h_21) (cwV 0 hts gX6_drawn_X2_last rfl rfl rfl (by decide +kernel) ⟨Nat.le_of_ble_eq_true rfl, Nat.le_of_ble_eq_true rfl⟩) (r_recv hK hw (kX_16 hG).1 (kX_16 hG).2 rfl) rfl hl.1 (Nat.le_of_ble_eq_true rfl) dX6_drawn_62 ⟨Nat.zero_le _, Nat.zero_le _⟩ rfl (fun H locs hw => ?_)
        exact r_ireti S hr hlk hw.2.2.2.2 hw hg dX6_drawn_65
      · have hg := it_p hg c_18
        refine lv_iload_n hx hb dX6_drawn_54 rfl (lv_at hl 0 rfl) ?_
        refine lv_goto (tgt := 65) hx hb dX6_drawn_55 (by decide) ?_
        exact r_ireti S hr hlk hw.2.2.2.2 hw hg dX6_drawn_65
    · have hg := it_p hg c_8
      refine lv_ldc (v := (-100000)) hx hb hown (hts (.constant RX6 179 (-100000)) (by decide +kernel)) dX6_drawn_19 ?_
      exact r_ireti S hr hlk hw.2.2.2.2 hw hg dX6_drawn_21
set_option maxHeartbeats 4000000 in
set_option maxRecDepth 100000 in
theorem c_X6_odds (l : Launch) {G : GW} {N : Nat} {ln : Nat → Nat} {cT cS : ClassId} (hG : isX G N ln cT cS) {F sz : Nat} {a1 : Int32} {a2 : Int32} {a3 : Int32} {a4 : Int32} {σ σR : Sg} {r : Int64} (hg : g_X6_odds F N ln a1 a2 a3 a4 σ = some (σR, r)) : Met l yX6_odds wsX6_odds ({ frames := 6, cells := 0, slots := 0, locals := 181 } : Room) (va_Pc [.ref (gAd G 0), .int a1, .int a2, .int a3, .int a4] (PX G σ sz)) (QcL G (gA G sz) σR r) 0 0 (gA G sz) := by
  refine metX (by decide) rfl (Nat.le_of_ble_eq_true rfl) ?_
  intro p e s m args below meth c ls S hr hlk hsz hA hK hw hl hmn
  have S : CallFix p m c cX6_odds 7 s args wsX6_odds RX6 := S
  obtain ⟨hx, hb, hml, hown, hts⟩ := id S
  have hl : lv_has ls 7 [(0, .ref (gAd G 0)), (1, .int a1), (2, .int a2), (3, .int a3), (4, .int a4)] := hl
  have hinX6 : ∀ w ∈ wsX60, w ∈ wsX6_odds := by decide +kernel
  have L64 : ∀ (v1 : Int32) (v2 : Int32) (v3 : Int32) (v4 : Int32) (n64 : Nat) (v5 : Int32) (v6 : Int32) (σ : Sg) (H : Heap) (locs : List Loc) (ls : Array Slot) (hg : g_X6_odds_l64 F N ln v1 v2 v3 v4 n64 v5 v6 σ = some (σR, r)) (hw : XD G (gA G sz) s.heap σ H locs) (hl : lv_has ls 7 [(0, .ref (gAd G 0)), (1, .int v1), (2, .int v2), (3, .int v3), (4, .int v4), (5, .int v5), (6, .int v6)]), W p l e (headSpec wsX6_odds ({ frames := 6, cells := 0, slots := 0, locals := 181 } : Room)).room s m args below meth c H locs 0 0 (MQ below (QcL G (gA G sz) σR r) args s 0 0 (gA G sz)) (F0 m 64 ls []) := by
    intro v1 v2 v3 v4
    intro n64
    induction n64 with
    | zero => intro v5 v6 σ H locs ls hg hw hl; exact no_e hg
    | succ n64 ih64 =>
      have J96 : ∀ (v5 : Int32) (v6 : Int32) (σ : Sg) (H : Heap) (locs : List Loc) (ls : Array Slot) (hg : g_X6_odds_b96 F N ln (fun v5_ v6_ σ_ => g_X6_odds_l64 F N ln v1 v2 v3 v4 n64 v5_ v6_ σ_) v1 v2 v3 v4 v5 v6 σ = some (σR, r)) (hw : XD G (gA G sz) s.heap σ H locs) (hl : lv_has ls 7 [(0, .ref (gAd G 0)), (1, .int v1), (2, .int v2), (3, .int v3), (4, .int v4), (5, .int v5), (6, .int v6)]), W p l e (headSpec wsX6_odds ({ frames := 6, cells := 0, slots := 0, locals := 181 } : Room)).room s m args below meth c H locs 0 0 (MQ below (QcL G (gA G sz) σR r) args s 0 0 (gA G sz)) (F0 m 96 ls []) := by
        intro v5 v6 σ H locs ls hg hw hl
        rw [g_X6_odds_b96] at hg
        refine lv_iinc (v := (v6 + 1)) (lv' := [(6, .int (v6 + 1)), (0, .ref (gAd G 0)), (1, .int v1), (2, .int v2), (3, .int v3), (4, .int v4), (5, .int v5)]) hx hb dX6_odds_96 hl (k := 6) rfl rfl (by decide) rfl (fun ls hl => ?_)
        refine lv_goto (tgt := 64) hx hb dX6_odds_99 (by decide) ?_
        exact ih64 _ _ _ _ _ _ hg hw (lv_sub hl [1, 2, 3, 4, 5, 6, 0] rfl)
      intro v5 v6 σ H locs ls hg hw hl
      rw [g_X6_odds_l64] at hg
      refine lv_iload hx hb dX6_odds_64 (lv_at hl 6 rfl) ?_
      refine lv_iload_n hx hb dX6_odds_66 rfl (lv_at hl 2 rfl) ?_
      refine lv_icmp_ge (tgt := 102) hx hb dX6_odds_67 (by decide) (fun c_1 => ?_) (fun c_1 => ?_)
      · have hg := it_p hg c_1
        refine lv_iload hx hb dX6_odds_102 (lv_at hl 5 rfl) ?_
        refine lv_iload_n hx hb dX6_odds_104 rfl (lv_at hl 2 rfl) ?_
        refine lv_iload hx hb dX6_odds_105 (lv_at hl 4 rfl) ?_
        obtain ⟨s_2, x_3, h_4, hg⟩ := bnL_e hg
        refine r_lS (As := [.int v5, .int v2, .int v4]) (rest := []) S hA hK hw (c_X6_inLowestTerms l hG  h_4) (va_cwS 3 hts gX6_odds_X6_inLowestTerms rfl rfl rfl (by decide +kernel) ⟨Nat.le_of_ble_eq_true rfl, Nat.le_of_ble_eq_true rfl⟩) rfl hl.1 (Nat.le_of_ble_eq_true rfl) dX6_odds_107 ⟨Nat.zero_le _, Nat.zero_le _⟩ rfl (fun H locs hw => ?_)
        exact r_lreti S hr hlk hw.2.2.2.2 hw hg dX6_odds_110
      · have hg := it_n hg c_1
        refine lv_aload_n hx hb dX6_odds_70 rfl (lv_at hl 0 rfl) ?_
        refine r_getr (C := RX6) (T := TX6) (N := 12) (k' := 6) S hK hw (kX_0 hG).1 (kX_0 hG).2 rfl hinX6 1 (by decide) (o := 6) rfl rfl (hts (.fieldLink RX6 16 "SoupByRank" "thought" "LSoupByRank$Court;") (by decide +kernel)) rfl dX6_odds_71 ?_
        refine lv_iload_n hx hb dX6_odds_74 rfl (lv_at hl 1 rfl) ?_
        refine lv_iload hx hb dX6_odds_75 (lv_at hl 6 rfl) ?_
        refine lv_iadd hx hb dX6_odds_77 ?_
        obtain ⟨s_5, h_7, hg⟩ := bnV_e hg
        refine r_vV (As := [.int (v1 + v6)]) (rest := []) S hA hK hw (c_X1_drawRanks l hG isCt_6 h_7) (cwV 1 hts gX6_odds_X1_drawRanks rfl rfl rfl (by decide +kernel) ⟨Nat.le_of_ble_eq_true rfl, Nat.le_of_ble_eq_true rfl⟩) (r_recv hK hw (kX_6 hG).1 (kX_6 hG).2 rfl) rfl hl.1 (Nat.le_of_ble_eq_true rfl) dX6_odds_78 ⟨Nat.zero_le _, Nat.zero_le _⟩ rfl (fun H locs hw => ?_)
        refine lv_aload_n hx hb dX6_odds_81 rfl (lv_at hl 0 rfl) ?_
        refine lv_aload_n hx hb dX6_odds_82 rfl (lv_at hl 0 rfl) ?_
        refine r_getr (C := RX6) (T := TX6) (N := 12) (k' := 6) S hK hw (kX_0 hG).1 (kX_0 hG).2 rfl hinX6 1 (by decide) (o := 6) rfl rfl (hts (.fieldLink RX6 16 "SoupByRank" "thought" "LSoupByRank$Court;") (by decide +kernel)) rfl dX6_odds_83 ?_
        obtain ⟨s_8, x_9, h_10, hg⟩ := bnI_e hg
        refine r_iV (As := [.ref (gAd G 6)]) (rest := []) S hA hK hw (c_X6_serve l hG isCt_6 h_10) (cwV 1 hts gX6_odds_X6_serve rfl rfl rfl (by decide +kernel) ⟨Nat.le_of_ble_eq_true rfl, Nat.le_of_ble_eq_true rfl⟩) (r_recv hK hw (kX_0 hG).1 (kX_0 hG).2 rfl) rfl hl.1 (Nat.le_of_ble_eq_true rfl) dX6_odds_86 ⟨Nat.zero_le _, Nat.zero_le _⟩ rfl (fun H locs hw => ?_)
        refine lv_iload_n hx hb dX6_odds_89 rfl (lv_at hl 3 rfl) ?_
        refine lv_icmp_gt (tgt := 96) hx hb dX6_odds_90 (by decide) (fun c_11 => ?_) (fun c_11 => ?_)
        · have hg := it_p hg c_11
          exact J96 v5 v6 _ _ _ _ hg hw (lv_sub hl [0, 1, 2, 3, 4, 5, 6] rfl)
        · have hg := it_n hg c_11
          refine lv_iinc (v := (v5 + 1)) (lv' := [(5, .int (v5 + 1)), (0, .ref (gAd G 0)), (1, .int v1), (2, .int v2), (3, .int v3), (4, .int v4), (6, .int v6)]) hx hb dX6_odds_93 hl (k := 5) rfl rfl (by decide) rfl (fun ls hl => ?_)
          exact J96 (v5 + 1) v6 _ _ _ _ hg hw (lv_sub hl [1, 2, 3, 4, 5, 0, 6] rfl)
  rw [g_X6_odds] at hg
  refine lv_iload_n hx hb dX6_odds_0 rfl (lv_at hl 1 rfl) ?_
  refine lv_iconst (v := 0) hx hb dX6_odds_1 (by decide) ?_
  refine lv_ldc (v := 99999) hx hb hown (hts (.constant RX6 246 (99999)) (by decide +kernel)) dX6_odds_2 ?_
  obtain ⟨s_12, x_13, h_14, hg⟩ := bnI_e hg
  refine r_iS (As := [.int a1, .int 0, .int 99999]) (rest := []) S hA hK hw (c_X6_isWithin l hG  h_14) (va_cwS 3 hts gX6_odds_X6_isWithin rfl rfl rfl (by decide +kernel) ⟨Nat.le_of_ble_eq_true rfl, Nat.le_of_ble_eq_true rfl⟩) rfl hl.1 (Nat.le_of_ble_eq_true rfl) dX6_odds_4 ⟨Nat.zero_le _, Nat.zero_le _⟩ rfl (fun H locs hw => ?_)
  refine lv_if_eq (tgt := 43) hx hb dX6_odds_7 (by decide) (fun c_15 => ?_) (fun c_15 => ?_)
  · have hg := it_p hg c_15
    refine lv_ldc2 (v := (-4611686018427387904)) hx hb hown (hts (.constantLong RX6 221 (-4611686018427387904)) (by decide +kernel)) dX6_odds_43 ?_
    exact r_lreti S hr hlk hw.2.2.2.2 hw hg dX6_odds_46
  · have hg := it_n hg c_15
    refine lv_iload_n hx hb dX6_odds_10 rfl (lv_at hl 2 rfl) ?_
    refine lv_iconst (v := 1) hx hb dX6_odds_11 (by decide) ?_
    refine lv_bipush (v := 40) hx hb dX6_odds_12 (by decide) ?_
    obtain ⟨s_16, x_17, h_18, hg⟩ := bnI_e hg
    refine r_iS (As := [.int a2, .int 1, .int 40]) (rest := []) S hA hK hw (c_X6_isWithin l hG  h_18) (va_cwS 3 hts gX6_odds_X6_isWithin rfl rfl rfl (by decide +kernel) ⟨Nat.le_of_ble_eq_true rfl, Nat.le_of_ble_eq_true rfl⟩) rfl hl.1 (Nat.le_of_ble_eq_true rfl) dX6_odds_14 ⟨Nat.zero_le _, Nat.zero_le _⟩ rfl (fun H locs hw => ?_)
    refine lv_if_eq (tgt := 43) hx hb dX6_odds_17 (by decide) (fun c_19 => ?_) (fun c_19 => ?_)
    · have hg := it_p hg c_19
      refine lv_ldc2 (v := (-4611686018427387904)) hx hb hown (hts (.constantLong RX6 221 (-4611686018427387904)) (by decide +kernel)) dX6_odds_43 ?_
      exact r_lreti S hr hlk hw.2.2.2.2 hw hg dX6_odds_46
    · have hg := it_n hg c_19
      refine lv_iload_n hx hb dX6_odds_20 rfl (lv_at hl 3 rfl) ?_
      refine lv_sipush (v := (-999)) hx hb dX6_odds_21 (by decide) ?_
      refine lv_sipush (v := 9999) hx hb dX6_odds_24 (by decide) ?_
      obtain ⟨s_20, x_21, h_22, hg⟩ := bnI_e hg
      refine r_iS (As := [.int a3, .int (-999), .int 9999]) (rest := []) S hA hK hw (c_X6_isWithin l hG  h_22) (va_cwS 3 hts gX6_odds_X6_isWithin rfl rfl rfl (by decide +kernel) ⟨Nat.le_of_ble_eq_true rfl, Nat.le_of_ble_eq_true rfl⟩) rfl hl.1 (Nat.le_of_ble_eq_true rfl) dX6_odds_27 ⟨Nat.zero_le _, Nat.zero_le _⟩ rfl (fun H locs hw => ?_)
      refine lv_if_eq (tgt := 43) hx hb dX6_odds_30 (by decide) (fun c_23 => ?_) (fun c_23 => ?_)
      · have hg := it_p hg c_23
        refine lv_ldc2 (v := (-4611686018427387904)) hx hb hown (hts (.constantLong RX6 221 (-4611686018427387904)) (by decide +kernel)) dX6_odds_43 ?_
        exact r_lreti S hr hlk hw.2.2.2.2 hw hg dX6_odds_46
      · have hg := it_n hg c_23
        refine lv_iload hx hb dX6_odds_33 (lv_at hl 4 rfl) ?_
        refine lv_iconst (v := 0) hx hb dX6_odds_35 (by decide) ?_
        refine lv_iconst (v := 1) hx hb dX6_odds_36 (by decide) ?_
        obtain ⟨s_24, x_25, h_26, hg⟩ := bnI_e hg
        refine r_iS (As := [.int a4, .int 0, .int 1]) (rest := []) S hA hK hw (c_X6_isWithin l hG  h_26) (va_cwS 3 hts gX6_odds_X6_isWithin rfl rfl rfl (by decide +kernel) ⟨Nat.le_of_ble_eq_true rfl, Nat.le_of_ble_eq_true rfl⟩) rfl hl.1 (Nat.le_of_ble_eq_true rfl) dX6_odds_37 ⟨Nat.zero_le _, Nat.zero_le _⟩ rfl (fun H locs hw => ?_)
        refine lv_if_ne (tgt := 47) hx hb dX6_odds_40 (by decide) (fun c_27 => ?_) (fun c_27 => ?_)
        · have hg := it_n hg c_27
          refine lv_aload_n hx hb dX6_odds_47 rfl (lv_at hl 0 rfl) ?_
          refine r_getr (C := RX6) (T := TX6) (N := 12) (k' := 6) S hK hw (kX_0 hG).1 (kX_0 hG).2 rfl hinX6 1 (by decide) (o := 6) rfl rfl (hts (.fieldLink RX6 16 "SoupByRank" "thought" "LSoupByRank$Court;") (by decide +kernel)) rfl dX6_odds_48 ?_
          refine lv_aload_n hx hb dX6_odds_51 rfl (lv_at hl 0 rfl) ?_
          refine r_getr (C := RX6) (T := TX6) (N := 12) (k' := 1) S hK hw (kX_0 hG).1 (kX_0 hG).2 rfl hinX6 0 (by decide) (o := 1) rfl rfl (hts (.fieldLink RX6 10 "SoupByRank" "court" "LSoupByRank$Court;") (by decide +kernel)) rfl dX6_odds_52 ?_
          obtain ⟨s_28, h_30, hg⟩ := bnV_e hg
          refine r_vV (As := [.ref (gAd G 1)]) (rest := []) S hA hK hw (c_X1_takeFrom l hG isCt_6 isCt_1 h_30) (cwV 1 hts gX6_odds_X1_takeFrom rfl rfl rfl (by decide +kernel) ⟨Nat.le_of_ble_eq_true rfl, Nat.le_of_ble_eq_true rfl⟩) (r_recv hK hw (kX_6 hG).1 (kX_6 hG).2 rfl) rfl hl.1 (Nat.le_of_ble_eq_true rfl) dX6_odds_55 ⟨Nat.zero_le _, Nat.zero_le _⟩ rfl (fun H locs hw => ?_)
          refine lv_iconst (v := 0) hx hb dX6_odds_58 (by decide) ?_
          refine lv_istore (lv' := [(5, .int 0), (0, .ref (gAd G 0)), (1, .int a1), (2, .int a2), (3, .int a3), (4, .int a4)]) hx hb dX6_odds_59 hl (by decide) rfl (fun ls hl => ?_)
          refine lv_iconst (v := 0) hx hb dX6_odds_61 (by decide) ?_
          refine lv_istore (lv' := [(6, .int 0), (5, .int 0), (0, .ref (gAd G 0)), (1, .int a1), (2, .int a2), (3, .int a3), (4, .int a4)]) hx hb dX6_odds_62 hl (by decide) rfl (fun ls hl => ?_)
          exact L64 a1 a2 a3 a4 F _ _ _ _ _ _ hg hw (lv_sub hl [2, 3, 4, 5, 6, 1, 0] rfl)
        · have hg := it_p hg c_27
          refine lv_ldc2 (v := (-4611686018427387904)) hx hb hown (hts (.constantLong RX6 221 (-4611686018427387904)) (by decide +kernel)) dX6_odds_43 ?_
          exact r_lreti S hr hlk hw.2.2.2.2 hw hg dX6_odds_46
set_option maxHeartbeats 4000000 in
set_option maxRecDepth 100000 in
theorem c_X6_image (l : Launch) {G : GW} {N : Nat} {ln : Nat → Nat} {cT cS : ClassId} (hG : isX G N ln cT cS) {F sz : Nat} {σ σR : Sg} {r : Int32} (hg : g_X6_image F N ln σ = some (σR, r)) : Met l yX6_image wsX6_image ({ frames := 1, cells := 0, slots := 0, locals := 22 } : Room) (va_Pc [.ref (gAd G 0)] (PX G σ sz)) (QcI G (gA G sz) σR r) 0 0 (gA G sz) := by
  refine metX (by decide) rfl (Nat.le_of_ble_eq_true rfl) ?_
  intro p e s m args below meth c ls S hr hlk hsz hA hK hw hl hmn
  have S : CallFix p m c cX6_image 1 s args wsX6_image RX6 := S
  obtain ⟨hx, hb, hml, hown, hts⟩ := id S
  have hl : lv_has ls 1 [(0, .ref (gAd G 0))] := hl
  have hinX1 : ∀ w ∈ wsX10, w ∈ wsX6_image := by decide +kernel
  have hinX6 : ∀ w ∈ wsX60, w ∈ wsX6_image := by decide +kernel
  rw [g_X6_image] at hg
  refine lv_aload_n hx hb dX6_image_0 rfl (lv_at hl 0 rfl) ?_
  refine r_getr (C := RX6) (T := TX6) (N := 12) (k' := 11) S hK hw (kX_0 hG).1 (kX_0 hG).2 rfl hinX6 2 (by decide) (o := 11) rfl rfl (hts (.fieldLink RX6 19 "SoupByRank" "kept" "LSoupByRank$Court;") (by decide +kernel)) rfl dX6_image_1 ?_
  refine lv_aload_n hx hb dX6_image_4 rfl (lv_at hl 0 rfl) ?_
  refine r_getr (C := RX6) (T := TX6) (N := 12) (k' := 1) S hK hw (kX_0 hG).1 (kX_0 hG).2 rfl hinX6 0 (by decide) (o := 1) rfl rfl (hts (.fieldLink RX6 10 "SoupByRank" "court" "LSoupByRank$Court;") (by decide +kernel)) rfl dX6_image_5 ?_
  obtain ⟨s_1, h_3, hg⟩ := bnV_e hg
  refine r_vV (As := [.ref (gAd G 1)]) (rest := []) S hA hK hw (c_X1_takeFrom l hG isCt_11 isCt_1 h_3) (cwV 1 hts gX6_image_X1_takeFrom rfl rfl rfl (by decide +kernel) ⟨Nat.le_of_ble_eq_true rfl, Nat.le_of_ble_eq_true rfl⟩) (r_recv hK hw (kX_11 hG).1 (kX_11 hG).2 rfl) rfl hl.1 (Nat.le_of_ble_eq_true rfl) dX6_image_8 ⟨Nat.zero_le _, Nat.zero_le _⟩ rfl (fun H locs hw => ?_)
  refine lv_aload_n hx hb dX6_image_11 rfl (lv_at hl 0 rfl) ?_
  refine lv_iconst (v := 1) hx hb dX6_image_12 (by decide) ?_
  obtain ⟨s_4, e_5, hg⟩ := wrF_e hg
  refine r_put (C := RX6) (T := TX6) (N := 12) S hK hw (kX_0 hG).1 (kX_0 hG).2 rfl hinX6 tyX6_ok nmX6 3 (by decide) rfl rfl rfl rfl (hts (.fieldLink RX6 250 "SoupByRank" "isKept" "Z") (by decide +kernel)) rfl e_5 dX6_image_13 (fun H locs hw => ?_)
  refine lv_aload_n hx hb dX6_image_16 rfl (lv_at hl 0 rfl) ?_
  refine r_getr (C := RX6) (T := TX6) (N := 12) (k' := 1) S hK hw (kX_0 hG).1 (kX_0 hG).2 rfl hinX6 0 (by decide) (o := 1) rfl rfl (hts (.fieldLink RX6 10 "SoupByRank" "court" "LSoupByRank$Court;") (by decide +kernel)) rfl dX6_image_17 ?_
  refine r_getN (C := RX1) (T := TX1) (N := 9) (host := RX6) S hK hw (kX_1 hG).1 (kX_1 hG).2 rfl hinX1 0 (by decide) rfl (by decide +kernel) rfl dX6_image_20 ?_
  exact r_ireti S hr hlk hw.2.2.2.2 hw hg dX6_image_23
set_option maxHeartbeats 4000000 in
set_option maxRecDepth 100000 in
theorem c_X6_back (l : Launch) {G : GW} {N : Nat} {ln : Nat → Nat} {cT cS : ClassId} (hG : isX G N ln cT cS) {F sz : Nat} {σ σR : Sg} {r : Int32} (hg : g_X6_back F N ln σ = some (σR, r)) : Met l yX6_back wsX6_back ({ frames := 1, cells := 0, slots := 0, locals := 22 } : Room) (va_Pc [.ref (gAd G 0)] (PX G σ sz)) (QcI G (gA G sz) σR r) 0 0 (gA G sz) := by
  refine metX (by decide) rfl (Nat.le_of_ble_eq_true rfl) ?_
  intro p e s m args below meth c ls S hr hlk hsz hA hK hw hl hmn
  have S : CallFix p m c cX6_back 1 s args wsX6_back RX6 := S
  obtain ⟨hx, hb, hml, hown, hts⟩ := id S
  have hl : lv_has ls 1 [(0, .ref (gAd G 0))] := hl
  have hinX1 : ∀ w ∈ wsX10, w ∈ wsX6_back := by decide +kernel
  have hinX6 : ∀ w ∈ wsX60, w ∈ wsX6_back := by decide +kernel
  rw [g_X6_back] at hg
  refine lv_aload_n hx hb dX6_back_0 rfl (lv_at hl 0 rfl) ?_
  refine r_get (C := RX6) (T := TX6) (N := 12) S hK hw (kX_0 hG).1 (kX_0 hG).2 rfl hinX6 3 (by decide) rfl (hts (.fieldLink RX6 250 "SoupByRank" "isKept" "Z") (by decide +kernel)) rfl dX6_back_1 ?_
  refine lv_if_ne (tgt := 10) hx hb dX6_back_4 (by decide) (fun c_1 => ?_) (fun c_1 => ?_)
  · have hg := it_n hg c_1
    refine lv_aload_n hx hb dX6_back_10 rfl (lv_at hl 0 rfl) ?_
    refine r_getr (C := RX6) (T := TX6) (N := 12) (k' := 1) S hK hw (kX_0 hG).1 (kX_0 hG).2 rfl hinX6 0 (by decide) (o := 1) rfl rfl (hts (.fieldLink RX6 10 "SoupByRank" "court" "LSoupByRank$Court;") (by decide +kernel)) rfl dX6_back_11 ?_
    refine lv_aload_n hx hb dX6_back_14 rfl (lv_at hl 0 rfl) ?_
    refine r_getr (C := RX6) (T := TX6) (N := 12) (k' := 11) S hK hw (kX_0 hG).1 (kX_0 hG).2 rfl hinX6 2 (by decide) (o := 11) rfl rfl (hts (.fieldLink RX6 19 "SoupByRank" "kept" "LSoupByRank$Court;") (by decide +kernel)) rfl dX6_back_15 ?_
    obtain ⟨s_2, h_4, hg⟩ := bnV_e hg
    refine r_vV (As := [.ref (gAd G 11)]) (rest := []) S hA hK hw (c_X1_takeFrom l hG isCt_1 isCt_11 h_4) (cwV 1 hts gX6_back_X1_takeFrom rfl rfl rfl (by decide +kernel) ⟨Nat.le_of_ble_eq_true rfl, Nat.le_of_ble_eq_true rfl⟩) (r_recv hK hw (kX_1 hG).1 (kX_1 hG).2 rfl) rfl hl.1 (Nat.le_of_ble_eq_true rfl) dX6_back_18 ⟨Nat.zero_le _, Nat.zero_le _⟩ rfl (fun H locs hw => ?_)
    refine lv_aload_n hx hb dX6_back_21 rfl (lv_at hl 0 rfl) ?_
    refine r_getr (C := RX6) (T := TX6) (N := 12) (k' := 1) S hK hw (kX_0 hG).1 (kX_0 hG).2 rfl hinX6 0 (by decide) (o := 1) rfl rfl (hts (.fieldLink RX6 10 "SoupByRank" "court" "LSoupByRank$Court;") (by decide +kernel)) rfl dX6_back_22 ?_
    refine r_getN (C := RX1) (T := TX1) (N := 9) (host := RX6) S hK hw (kX_1 hG).1 (kX_1 hG).2 rfl hinX1 0 (by decide) rfl (by decide +kernel) rfl dX6_back_25 ?_
    exact r_ireti S hr hlk hw.2.2.2.2 hw hg dX6_back_28
  · have hg := it_p hg c_1
    refine lv_bipush (v := (-3)) hx hb dX6_back_7 (by decide) ?_
    exact r_ireti S hr hlk hw.2.2.2.2 hw hg dX6_back_9
set_option maxHeartbeats 4000000 in
set_option maxRecDepth 100000 in
theorem c_X6_isSort (l : Launch) {G : GW} {N : Nat} {ln : Nat → Nat} {cT cS : ClassId} (hG : isX G N ln cT cS) {F sz : Nat} {a0 : Int32} {σ σR : Sg} {r : Int32} (hg : g_X6_isSort F N ln a0 σ = some (σR, r)) : Met l yX6_isSort wsX6_isSort ({ frames := 1, cells := 0, slots := 0, locals := 22 } : Room) (va_Pc [.int a0] (PX G σ sz)) (QcI G (gA G sz) σR r) 0 0 (gA G sz) := by
  refine metX (by decide) rfl (Nat.le_of_ble_eq_true rfl) ?_
  intro p e s m args below meth c ls S hr hlk hsz hA hK hw hl hmn
  have S : CallFix p m c cX6_isSort 1 s args wsX6_isSort RX6 := S
  obtain ⟨hx, hb, hml, hown, hts⟩ := id S
  have hl : lv_has ls 1 [(0, .int a0)] := hl
  rw [g_X6_isSort] at hg
  refine lv_iload_n hx hb dX6_isSort_0 rfl (lv_at hl 0 rfl) ?_
  refine lv_iconst (v := 0) hx hb dX6_isSort_1 (by decide) ?_
  refine lv_iconst (v := 2) hx hb dX6_isSort_2 (by decide) ?_
  obtain ⟨s_1, x_2, h_3, hg⟩ := bnI_e hg
  refine r_iS (As := [.int a0, .int 0, .int 2]) (rest := []) S hA hK hw (c_X6_isWithin l hG  h_3) (va_cwS 3 hts gX6_isSort_X6_isWithin rfl rfl rfl (by decide +kernel) ⟨Nat.le_of_ble_eq_true rfl, Nat.le_of_ble_eq_true rfl⟩) rfl hl.1 (Nat.le_of_ble_eq_true rfl) dX6_isSort_3 ⟨Nat.zero_le _, Nat.zero_le _⟩ rfl (fun H locs hw => ?_)
  obtain ⟨hz, hg⟩ := retZ_e hg
  exact r_iretz S hr (by rcases hz with h | h <;> rw [h] <;> rfl) hlk hw.2.2.2.2 hw hg dX6_isSort_6
set_option maxHeartbeats 4000000 in
set_option maxRecDepth 100000 in
theorem c_X6_sheet (l : Launch) {G : GW} {N : Nat} {ln : Nat → Nat} {cT cS : ClassId} (hG : isX G N ln cT cS) {F sz : Nat} {a1 : Int32} {a2 : Int32} {a3 : Int32} {σ σR : Sg} {r : Int32} (hg : g_X6_sheet F N ln a1 a2 a3 σ = some (σR, r)) : Met l yX6_sheet wsX6_sheet ({ frames := 2, cells := 0, slots := 0, locals := 103 } : Room) (va_Pc [.ref (gAd G 0), .int a1, .int a2, .int a3] (PX G σ sz)) (QcI G (gA G sz) σR r) 0 0 (gA G sz) := by
  refine metX (by decide) rfl (Nat.le_of_ble_eq_true rfl) ?_
  intro p e s m args below meth c ls S hr hlk hsz hA hK hw hl hmn
  have S : CallFix p m c cX6_sheet 4 s args wsX6_sheet RX6 := S
  obtain ⟨hx, hb, hml, hown, hts⟩ := id S
  have hl : lv_has ls 4 [(0, .ref (gAd G 0)), (1, .int a1), (2, .int a2), (3, .int a3)] := hl
  have hinX6 : ∀ w ∈ wsX60, w ∈ wsX6_sheet := by decide +kernel
  rw [g_X6_sheet] at hg
  refine lv_iload_n hx hb dX6_sheet_0 rfl (lv_at hl 1 rfl) ?_
  obtain ⟨s_1, x_2, h_3, hg⟩ := bnI_e hg
  refine r_iS (As := [.int a1]) (rest := []) S hA hK hw (c_X6_isSheet l hG  h_3) (va_cwS 1 hts gX6_sheet_X6_isSheet rfl rfl rfl (by decide +kernel) ⟨Nat.le_of_ble_eq_true rfl, Nat.le_of_ble_eq_true rfl⟩) rfl hl.1 (Nat.le_of_ble_eq_true rfl) dX6_sheet_1 ⟨Nat.zero_le _, Nat.zero_le _⟩ rfl (fun H locs hw => ?_)
  refine lv_if_ne (tgt := 10) hx hb dX6_sheet_4 (by decide) (fun c_4 => ?_) (fun c_4 => ?_)
  · have hg := it_n hg c_4
    refine lv_iload_n hx hb dX6_sheet_10 rfl (lv_at hl 2 rfl) ?_
    refine lv_iconst (v := (-1)) hx hb dX6_sheet_11 (by decide) ?_
    refine lv_icmp_ne (tgt := 28) hx hb dX6_sheet_12 (by decide) (fun c_5 => ?_) (fun c_5 => ?_)
    · have hg := it_n hg c_5
      refine lv_iload_n hx hb dX6_sheet_28 rfl (lv_at hl 2 rfl) ?_
      obtain ⟨s_6, x_7, h_8, hg⟩ := bnI_e hg
      refine r_iS (As := [.int a2]) (rest := []) S hA hK hw (c_X6_isSort l hG  h_8) (va_cwS 1 hts gX6_sheet_X6_isSort rfl rfl rfl (by decide +kernel) ⟨Nat.le_of_ble_eq_true rfl, Nat.le_of_ble_eq_true rfl⟩) rfl hl.1 (Nat.le_of_ble_eq_true rfl) dX6_sheet_29 ⟨Nat.zero_le _, Nat.zero_le _⟩ rfl (fun H locs hw => ?_)
      refine lv_if_eq (tgt := 41) hx hb dX6_sheet_32 (by decide) (fun c_9 => ?_) (fun c_9 => ?_)
      · have hg := it_p hg c_9
        refine lv_bipush (v := (-2)) hx hb dX6_sheet_41 (by decide) ?_
        exact r_ireti S hr hlk hw.2.2.2.2 hw hg dX6_sheet_43
      · have hg := it_n hg c_9
        refine lv_iload_n hx hb dX6_sheet_35 rfl (lv_at hl 3 rfl) ?_
        refine lv_bipush (v := 40) hx hb dX6_sheet_36 (by decide) ?_
        refine lv_icmp_le (tgt := 44) hx hb dX6_sheet_38 (by decide) (fun c_10 => ?_) (fun c_10 => ?_)
        · have hg := it_p hg c_10
          refine lv_iload_n hx hb dX6_sheet_44 rfl (lv_at hl 3 rfl) ?_
          refine lv_if_ge (tgt := 51) hx hb dX6_sheet_45 (by decide) (fun c_11 => ?_) (fun c_11 => ?_)
          · have hg := it_p hg c_11
            refine lv_aload_n hx hb dX6_sheet_51 rfl (lv_at hl 0 rfl) ?_
            refine r_getr (C := RX6) (T := TX6) (N := 12) (k' := 34) S hK hw (kX_0 hG).1 (kX_0 hG).2 rfl hinX6 10 (by decide) (o := 34) rfl rfl (hts (.fieldLink RX6 62 "SoupByRank" "sheets" "[LSoupByRank$Sheet;") (by decide +kernel)) rfl dX6_sheet_52 ?_
            refine lv_iload_n hx hb dX6_sheet_55 rfl (lv_at hl 1 rfl) ?_
            obtain ⟨h_13, q_12, e_14, h_q_12, hg⟩ := rdS_e hg
            refine r_aald (t0 := 2) S hK hw (kX_34 hG).1 (kX_34 hG).2 (tyS hG) h_13 e_14 dX6_sheet_56 ?_
            refine lv_iload_n hx hb dX6_sheet_57 rfl (lv_at hl 2 rfl) ?_
            refine lv_iload_n hx hb dX6_sheet_58 rfl (lv_at hl 3 rfl) ?_
            obtain ⟨s_15, h_17, hg⟩ := bnV_e hg
            refine r_vV (As := [.int a2, .int a3]) (rest := []) S hA hK hw (c_X3_become l hG h_q_12 h_17) (cwV 2 hts gX6_sheet_X3_become rfl rfl rfl (by decide +kernel) ⟨Nat.le_of_ble_eq_true rfl, Nat.le_of_ble_eq_true rfl⟩) (r_recv hK hw (kS0 hG h_q_12).1 (kS0 hG h_q_12).2 rfl) rfl hl.1 (Nat.le_of_ble_eq_true rfl) dX6_sheet_59 ⟨Nat.zero_le _, Nat.zero_le _⟩ rfl (fun H locs hw => ?_)
            refine lv_iconst (v := 1) hx hb dX6_sheet_62 (by decide) ?_
            exact r_ireti S hr hlk hw.2.2.2.2 hw hg dX6_sheet_63
          · have hg := it_n hg c_11
            refine lv_bipush (v := (-14)) hx hb dX6_sheet_48 (by decide) ?_
            exact r_ireti S hr hlk hw.2.2.2.2 hw hg dX6_sheet_50
        · have hg := it_n hg c_10
          refine lv_bipush (v := (-2)) hx hb dX6_sheet_41 (by decide) ?_
          exact r_ireti S hr hlk hw.2.2.2.2 hw hg dX6_sheet_43
    · have hg := it_p hg c_5
      refine lv_aload_n hx hb dX6_sheet_15 rfl (lv_at hl 0 rfl) ?_
      refine r_getr (C := RX6) (T := TX6) (N := 12) (k' := 34) S hK hw (kX_0 hG).1 (kX_0 hG).2 rfl hinX6 10 (by decide) (o := 34) rfl rfl (hts (.fieldLink RX6 62 "SoupByRank" "sheets" "[LSoupByRank$Sheet;") (by decide +kernel)) rfl dX6_sheet_16 ?_
      refine lv_iload_n hx hb dX6_sheet_19 rfl (lv_at hl 1 rfl) ?_
      obtain ⟨h_19, q_18, e_20, h_q_18, hg⟩ := rdS_e hg
      refine r_aald (t0 := 2) S hK hw (kX_34 hG).1 (kX_34 hG).2 (tyS hG) h_19 e_20 dX6_sheet_20 ?_
      refine lv_iconst (v := (-1)) hx hb dX6_sheet_21 (by decide) ?_
      refine lv_iconst (v := 0) hx hb dX6_sheet_22 (by decide) ?_
      obtain ⟨s_21, h_23, hg⟩ := bnV_e hg
      refine r_vV (As := [.int (-1), .int 0]) (rest := []) S hA hK hw (c_X3_become l hG h_q_18 h_23) (cwV 2 hts gX6_sheet_X3_become rfl rfl rfl (by decide +kernel) ⟨Nat.le_of_ble_eq_true rfl, Nat.le_of_ble_eq_true rfl⟩) (r_recv hK hw (kS0 hG h_q_18).1 (kS0 hG h_q_18).2 rfl) rfl hl.1 (Nat.le_of_ble_eq_true rfl) dX6_sheet_23 ⟨Nat.zero_le _, Nat.zero_le _⟩ rfl (fun H locs hw => ?_)
      refine lv_iconst (v := 1) hx hb dX6_sheet_26 (by decide) ?_
      exact r_ireti S hr hlk hw.2.2.2.2 hw hg dX6_sheet_27
  · have hg := it_p hg c_4
    refine lv_bipush (v := (-2)) hx hb dX6_sheet_7 (by decide) ?_
    exact r_ireti S hr hlk hw.2.2.2.2 hw hg dX6_sheet_9
set_option maxHeartbeats 4000000 in
set_option maxRecDepth 100000 in
theorem c_X6_cell (l : Launch) {G : GW} {N : Nat} {ln : Nat → Nat} {cT cS : ClassId} (hG : isX G N ln cT cS) {F sz : Nat} {a1 : Int32} {a2 : Int32} {a3 : Int32} {σ σR : Sg} {r : Int32} (hg : g_X6_cell F N ln a1 a2 a3 σ = some (σR, r)) : Met l yX6_cell wsX6_cell ({ frames := 2, cells := 0, slots := 0, locals := 43 } : Room) (va_Pc [.ref (gAd G 0), .int a1, .int a2, .int a3] (PX G σ sz)) (QcI G (gA G sz) σR r) 0 0 (gA G sz) := by
  refine metX (by decide) rfl (Nat.le_of_ble_eq_true rfl) ?_
  intro p e s m args below meth c ls S hr hlk hsz hA hK hw hl hmn
  have S : CallFix p m c cX6_cell 4 s args wsX6_cell RX6 := S
  obtain ⟨hx, hb, hml, hown, hts⟩ := id S
  have hl : lv_has ls 4 [(0, .ref (gAd G 0)), (1, .int a1), (2, .int a2), (3, .int a3)] := hl
  have hinX6 : ∀ w ∈ wsX60, w ∈ wsX6_cell := by decide +kernel
  rw [g_X6_cell] at hg
  refine lv_iload_n hx hb dX6_cell_0 rfl (lv_at hl 1 rfl) ?_
  obtain ⟨s_1, x_2, h_3, hg⟩ := bnI_e hg
  refine r_iS (As := [.int a1]) (rest := []) S hA hK hw (c_X6_isSheet l hG  h_3) (va_cwS 1 hts gX6_cell_X6_isSheet rfl rfl rfl (by decide +kernel) ⟨Nat.le_of_ble_eq_true rfl, Nat.le_of_ble_eq_true rfl⟩) rfl hl.1 (Nat.le_of_ble_eq_true rfl) dX6_cell_1 ⟨Nat.zero_le _, Nat.zero_le _⟩ rfl (fun H locs hw => ?_)
  refine lv_if_ne (tgt := 10) hx hb dX6_cell_4 (by decide) (fun c_4 => ?_) (fun c_4 => ?_)
  · have hg := it_n hg c_4
    refine lv_aload_n hx hb dX6_cell_10 rfl (lv_at hl 0 rfl) ?_
    refine r_getr (C := RX6) (T := TX6) (N := 12) (k' := 34) S hK hw (kX_0 hG).1 (kX_0 hG).2 rfl hinX6 10 (by decide) (o := 34) rfl rfl (hts (.fieldLink RX6 62 "SoupByRank" "sheets" "[LSoupByRank$Sheet;") (by decide +kernel)) rfl dX6_cell_11 ?_
    refine lv_iload_n hx hb dX6_cell_14 rfl (lv_at hl 1 rfl) ?_
    obtain ⟨h_6, q_5, e_7, h_q_5, hg⟩ := rdS_e hg
    refine r_aald (t0 := 2) S hK hw (kX_34 hG).1 (kX_34 hG).2 (tyS hG) h_6 e_7 dX6_cell_15 ?_
    obtain ⟨s_8, x_9, h_10, hg⟩ := bnI_e hg
    refine r_iV (As := []) (rest := []) S hA hK hw (c_X3_isMissing l hG h_q_5 h_10) (cwV 0 hts gX6_cell_X3_isMissing rfl rfl rfl (by decide +kernel) ⟨Nat.le_of_ble_eq_true rfl, Nat.le_of_ble_eq_true rfl⟩) (r_recv hK hw (kS0 hG h_q_5).1 (kS0 hG h_q_5).2 rfl) rfl hl.1 (Nat.le_of_ble_eq_true rfl) dX6_cell_16 ⟨Nat.zero_le _, Nat.zero_le _⟩ rfl (fun H locs hw => ?_)
    refine lv_if_eq (tgt := 25) hx hb dX6_cell_19 (by decide) (fun c_11 => ?_) (fun c_11 => ?_)
    · have hg := it_p hg c_11
      refine lv_aload_n hx hb dX6_cell_25 rfl (lv_at hl 0 rfl) ?_
      refine r_getr (C := RX6) (T := TX6) (N := 12) (k' := 34) S hK hw (kX_0 hG).1 (kX_0 hG).2 rfl hinX6 10 (by decide) (o := 34) rfl rfl (hts (.fieldLink RX6 62 "SoupByRank" "sheets" "[LSoupByRank$Sheet;") (by decide +kernel)) rfl dX6_cell_26 ?_
      refine lv_iload_n hx hb dX6_cell_29 rfl (lv_at hl 1 rfl) ?_
      obtain ⟨h_13, q_12, e_14, h_q_12, hg⟩ := rdS_e hg
      refine r_aald (t0 := 2) S hK hw (kX_34 hG).1 (kX_34 hG).2 (tyS hG) h_13 e_14 dX6_cell_30 ?_
      refine lv_iload_n hx hb dX6_cell_31 rfl (lv_at hl 2 rfl) ?_
      obtain ⟨s_15, x_16, h_17, hg⟩ := bnI_e hg
      refine r_iV (As := [.int a2]) (rest := []) S hA hK hw (c_X3_hasPlace l hG h_q_12 h_17) (cwV 1 hts gX6_cell_X3_hasPlace rfl rfl rfl (by decide +kernel) ⟨Nat.le_of_ble_eq_true rfl, Nat.le_of_ble_eq_true rfl⟩) (r_recv hK hw (kS0 hG h_q_12).1 (kS0 hG h_q_12).2 rfl) rfl hl.1 (Nat.le_of_ble_eq_true rfl) dX6_cell_32 ⟨Nat.zero_le _, Nat.zero_le _⟩ rfl (fun H locs hw => ?_)
      refine lv_if_ne (tgt := 41) hx hb dX6_cell_35 (by decide) (fun c_18 => ?_) (fun c_18 => ?_)
      · have hg := it_n hg c_18
        refine lv_aload_n hx hb dX6_cell_41 rfl (lv_at hl 0 rfl) ?_
        refine r_getr (C := RX6) (T := TX6) (N := 12) (k' := 34) S hK hw (kX_0 hG).1 (kX_0 hG).2 rfl hinX6 10 (by decide) (o := 34) rfl rfl (hts (.fieldLink RX6 62 "SoupByRank" "sheets" "[LSoupByRank$Sheet;") (by decide +kernel)) rfl dX6_cell_42 ?_
        refine lv_iload_n hx hb dX6_cell_45 rfl (lv_at hl 1 rfl) ?_
        obtain ⟨h_20, q_19, e_21, h_q_19, hg⟩ := rdS_e hg
        refine r_aald (t0 := 2) S hK hw (kX_34 hG).1 (kX_34 hG).2 (tyS hG) h_20 e_21 dX6_cell_46 ?_
        refine lv_iload_n hx hb dX6_cell_47 rfl (lv_at hl 2 rfl) ?_
        refine lv_iload_n hx hb dX6_cell_48 rfl (lv_at hl 3 rfl) ?_
        obtain ⟨s_22, h_24, hg⟩ := bnV_e hg
        refine r_vV (As := [.int a2, .int a3]) (rest := []) S hA hK hw (c_X3_write l hG h_q_19 h_24) (cwV 2 hts gX6_cell_X3_write rfl rfl rfl (by decide +kernel) ⟨Nat.le_of_ble_eq_true rfl, Nat.le_of_ble_eq_true rfl⟩) (r_recv hK hw (kS0 hG h_q_19).1 (kS0 hG h_q_19).2 rfl) rfl hl.1 (Nat.le_of_ble_eq_true rfl) dX6_cell_49 ⟨Nat.zero_le _, Nat.zero_le _⟩ rfl (fun H locs hw => ?_)
        refine lv_iconst (v := 1) hx hb dX6_cell_52 (by decide) ?_
        exact r_ireti S hr hlk hw.2.2.2.2 hw hg dX6_cell_53
      · have hg := it_p hg c_18
        refine lv_bipush (v := (-12)) hx hb dX6_cell_38 (by decide) ?_
        exact r_ireti S hr hlk hw.2.2.2.2 hw hg dX6_cell_40
    · have hg := it_n hg c_11
      refine lv_bipush (v := (-11)) hx hb dX6_cell_22 (by decide) ?_
      exact r_ireti S hr hlk hw.2.2.2.2 hw hg dX6_cell_24
  · have hg := it_p hg c_4
    refine lv_bipush (v := (-2)) hx hb dX6_cell_7 (by decide) ?_
    exact r_ireti S hr hlk hw.2.2.2.2 hw hg dX6_cell_9
set_option maxHeartbeats 4000000 in
set_option maxRecDepth 100000 in
theorem c_X6_copy (l : Launch) {G : GW} {N : Nat} {ln : Nat → Nat} {cT cS : ClassId} (hG : isX G N ln cT cS) {F sz : Nat} {a1 : Int32} {a2 : Int32} {a3 : Int32} {a4 : Int32} {a5 : Int32} {σ σR : Sg} {r : Int32} (hg : g_X6_copy F N ln a1 a2 a3 a4 a5 σ = some (σR, r)) : Met l yX6_copy wsX6_copy ({ frames := 2, cells := 0, slots := 0, locals := 80 } : Room) (va_Pc [.ref (gAd G 0), .int a1, .int a2, .int a3, .int a4, .int a5] (PX G σ sz)) (QcI G (gA G sz) σR r) 0 0 (gA G sz) := by
  refine metX (by decide) rfl (Nat.le_of_ble_eq_true rfl) ?_
  intro p e s m args below meth c ls S hr hlk hsz hA hK hw hl hmn
  have S : CallFix p m c cX6_copy 8 s args wsX6_copy RX6 := S
  obtain ⟨hx, hb, hml, hown, hts⟩ := id S
  have hl : lv_has ls 8 [(0, .ref (gAd G 0)), (1, .int a1), (2, .int a2), (3, .int a3), (4, .int a4), (5, .int a5)] := hl
  have hinX3 : ∀ w ∈ wsX30, w ∈ wsX6_copy := by decide +kernel
  have hinX6 : ∀ w ∈ wsX60, w ∈ wsX6_copy := by decide +kernel
  rw [g_X6_copy] at hg
  refine lv_iload_n hx hb dX6_copy_0 rfl (lv_at hl 1 rfl) ?_
  obtain ⟨s_1, x_2, h_3, hg⟩ := bnI_e hg
  refine r_iS (As := [.int a1]) (rest := []) S hA hK hw (c_X6_isSheet l hG  h_3) (va_cwS 1 hts gX6_copy_X6_isSheet rfl rfl rfl (by decide +kernel) ⟨Nat.le_of_ble_eq_true rfl, Nat.le_of_ble_eq_true rfl⟩) rfl hl.1 (Nat.le_of_ble_eq_true rfl) dX6_copy_1 ⟨Nat.zero_le _, Nat.zero_le _⟩ rfl (fun H locs hw => ?_)
  refine lv_if_eq (tgt := 14) hx hb dX6_copy_4 (by decide) (fun c_4 => ?_) (fun c_4 => ?_)
  · have hg := it_p hg c_4
    refine lv_bipush (v := (-2)) hx hb dX6_copy_14 (by decide) ?_
    exact r_ireti S hr hlk hw.2.2.2.2 hw hg dX6_copy_16
  · have hg := it_n hg c_4
    refine lv_iload_n hx hb dX6_copy_7 rfl (lv_at hl 3 rfl) ?_
    obtain ⟨s_5, x_6, h_7, hg⟩ := bnI_e hg
    refine r_iS (As := [.int a3]) (rest := []) S hA hK hw (c_X6_isSheet l hG  h_7) (va_cwS 1 hts gX6_copy_X6_isSheet rfl rfl rfl (by decide +kernel) ⟨Nat.le_of_ble_eq_true rfl, Nat.le_of_ble_eq_true rfl⟩) rfl hl.1 (Nat.le_of_ble_eq_true rfl) dX6_copy_8 ⟨Nat.zero_le _, Nat.zero_le _⟩ rfl (fun H locs hw => ?_)
    refine lv_if_ne (tgt := 17) hx hb dX6_copy_11 (by decide) (fun c_8 => ?_) (fun c_8 => ?_)
    · have hg := it_n hg c_8
      refine lv_aload_n hx hb dX6_copy_17 rfl (lv_at hl 0 rfl) ?_
      refine r_getr (C := RX6) (T := TX6) (N := 12) (k' := 34) S hK hw (kX_0 hG).1 (kX_0 hG).2 rfl hinX6 10 (by decide) (o := 34) rfl rfl (hts (.fieldLink RX6 62 "SoupByRank" "sheets" "[LSoupByRank$Sheet;") (by decide +kernel)) rfl dX6_copy_18 ?_
      refine lv_iload_n hx hb dX6_copy_21 rfl (lv_at hl 1 rfl) ?_
      obtain ⟨h_10, q_9, e_11, h_q_9, hg⟩ := rdS_e hg
      refine r_aald (t0 := 2) S hK hw (kX_34 hG).1 (kX_34 hG).2 (tyS hG) h_10 e_11 dX6_copy_22 ?_
      refine lv_astore (lv' := [(6, .ref (gAd G q_9)), (0, .ref (gAd G 0)), (1, .int a1), (2, .int a2), (3, .int a3), (4, .int a4), (5, .int a5)]) hx hb dX6_copy_23 hl (by decide) rfl (fun ls hl => ?_)
      refine lv_aload_n hx hb dX6_copy_25 rfl (lv_at hl 1 rfl) ?_
      refine r_getr (C := RX6) (T := TX6) (N := 12) (k' := 34) S hK hw (kX_0 hG).1 (kX_0 hG).2 rfl hinX6 10 (by decide) (o := 34) rfl rfl (hts (.fieldLink RX6 62 "SoupByRank" "sheets" "[LSoupByRank$Sheet;") (by decide +kernel)) rfl dX6_copy_26 ?_
      refine lv_iload_n hx hb dX6_copy_29 rfl (lv_at hl 4 rfl) ?_
      obtain ⟨h_13, q_12, e_14, h_q_12, hg⟩ := rdS_e hg
      refine r_aald (t0 := 2) S hK hw (kX_34 hG).1 (kX_34 hG).2 (tyS hG) h_13 e_14 dX6_copy_30 ?_
      refine lv_astore (lv' := [(7, .ref (gAd G q_12)), (6, .ref (gAd G q_9)), (0, .ref (gAd G 0)), (1, .int a1), (2, .int a2), (3, .int a3), (4, .int a4), (5, .int a5)]) hx hb dX6_copy_31 hl (by decide) rfl (fun ls hl => ?_)
      refine lv_aload hx hb dX6_copy_33 (lv_at hl 1 rfl) ?_
      obtain ⟨s_15, x_16, h_17, hg⟩ := bnI_e hg
      refine r_iV (As := []) (rest := []) S hA hK hw (c_X3_isMissing l hG h_q_9 h_17) (cwV 0 hts gX6_copy_X3_isMissing rfl rfl rfl (by decide +kernel) ⟨Nat.le_of_ble_eq_true rfl, Nat.le_of_ble_eq_true rfl⟩) (r_recv hK hw (kS0 hG h_q_9).1 (kS0 hG h_q_9).2 rfl) rfl hl.1 (Nat.le_of_ble_eq_true rfl) dX6_copy_35 ⟨Nat.zero_le _, Nat.zero_le _⟩ rfl (fun H locs hw => ?_)
      refine lv_if_ne (tgt := 49) hx hb dX6_copy_38 (by decide) (fun c_18 => ?_) (fun c_18 => ?_)
      · have hg := it_n hg c_18
        refine lv_bipush (v := (-11)) hx hb dX6_copy_49 (by decide) ?_
        exact r_ireti S hr hlk hw.2.2.2.2 hw hg dX6_copy_51
      · have hg := it_p hg c_18
        refine lv_aload hx hb dX6_copy_41 (lv_at hl 0 rfl) ?_
        obtain ⟨s_19, x_20, h_21, hg⟩ := bnI_e hg
        refine r_iV (As := []) (rest := []) S hA hK hw (c_X3_isMissing l hG h_q_12 h_21) (cwV 0 hts gX6_copy_X3_isMissing rfl rfl rfl (by decide +kernel) ⟨Nat.le_of_ble_eq_true rfl, Nat.le_of_ble_eq_true rfl⟩) (r_recv hK hw (kS0 hG h_q_12).1 (kS0 hG h_q_12).2 rfl) rfl hl.1 (Nat.le_of_ble_eq_true rfl) dX6_copy_43 ⟨Nat.zero_le _, Nat.zero_le _⟩ rfl (fun H locs hw => ?_)
        refine lv_if_eq (tgt := 52) hx hb dX6_copy_46 (by decide) (fun c_22 => ?_) (fun c_22 => ?_)
        · have hg := it_p hg c_22
          refine lv_aload hx hb dX6_copy_52 (lv_at hl 1 rfl) ?_
          refine r_getN (C := RX3) (T := TX3) (N := 3) (host := RX6) S hK hw (kS0 hG h_q_9).1 (kS0 hG h_q_9).2 rfl hinX3 0 (by decide) rfl (by decide +kernel) rfl dX6_copy_54 ?_
          refine lv_aload hx hb dX6_copy_57 (lv_at hl 0 rfl) ?_
          refine r_getN (C := RX3) (T := TX3) (N := 3) (host := RX6) S hK hw (kS0 hG h_q_12).1 (kS0 hG h_q_12).2 rfl hinX3 0 (by decide) rfl (by decide +kernel) rfl dX6_copy_59 ?_
          refine lv_icmp_eq (tgt := 68) hx hb dX6_copy_62 (by decide) (fun c_23 => ?_) (fun c_23 => ?_)
          · have hg := it_p hg c_23
            refine lv_aload hx hb dX6_copy_68 (lv_at hl 1 rfl) ?_
            refine lv_iload_n hx hb dX6_copy_70 rfl (lv_at hl 4 rfl) ?_
            refine lv_iload hx hb dX6_copy_71 (lv_at hl 7 rfl) ?_
            obtain ⟨s_24, x_25, h_26, hg⟩ := bnI_e hg
            refine r_iV (As := [.int a2, .int a5]) (rest := []) S hA hK hw (c_X3_hasPlaces l hG h_q_9 h_26) (cwV 2 hts gX6_copy_X3_hasPlaces rfl rfl rfl (by decide +kernel) ⟨Nat.le_of_ble_eq_true rfl, Nat.le_of_ble_eq_true rfl⟩) (r_recv hK hw (kS0 hG h_q_9).1 (kS0 hG h_q_9).2 rfl) rfl hl.1 (Nat.le_of_ble_eq_true rfl) dX6_copy_73 ⟨Nat.zero_le _, Nat.zero_le _⟩ rfl (fun H locs hw => ?_)
            refine lv_if_eq (tgt := 91) hx hb dX6_copy_76 (by decide) (fun c_27 => ?_) (fun c_27 => ?_)
            · have hg := it_p hg c_27
              refine lv_bipush (v := (-12)) hx hb dX6_copy_91 (by decide) ?_
              exact r_ireti S hr hlk hw.2.2.2.2 hw hg dX6_copy_93
            · have hg := it_n hg c_27
              refine lv_aload hx hb dX6_copy_79 (lv_at hl 0 rfl) ?_
              refine lv_iload hx hb dX6_copy_81 (lv_at hl 6 rfl) ?_
              refine lv_iload hx hb dX6_copy_83 (lv_at hl 7 rfl) ?_
              obtain ⟨s_28, x_29, h_30, hg⟩ := bnI_e hg
              refine r_iV (As := [.int a4, .int a5]) (rest := []) S hA hK hw (c_X3_hasPlaces l hG h_q_12 h_30) (cwV 2 hts gX6_copy_X3_hasPlaces rfl rfl rfl (by decide +kernel) ⟨Nat.le_of_ble_eq_true rfl, Nat.le_of_ble_eq_true rfl⟩) (r_recv hK hw (kS0 hG h_q_12).1 (kS0 hG h_q_12).2 rfl) rfl hl.1 (Nat.le_of_ble_eq_true rfl) dX6_copy_85 ⟨Nat.zero_le _, Nat.zero_le _⟩ rfl (fun H locs hw => ?_)
              refine lv_if_ne (tgt := 94) hx hb dX6_copy_88 (by decide) (fun c_31 => ?_) (fun c_31 => ?_)
              · have hg := it_n hg c_31
                refine lv_aload hx hb dX6_copy_94 (lv_at hl 1 rfl) ?_
                refine r_getrN (C := RX3) (T := TX3) (N := 3) (host := RX6) (k' := (q_9 + 1)) S hK hw (kS0 hG h_q_9).1 (kS0 hG h_q_9).2 rfl hinX3 2 (by decide) (o := 1) rfl rfl (by decide +kernel) rfl dX6_copy_96 ?_
                refine lv_iload_n hx hb dX6_copy_99 rfl (lv_at hl 4 rfl) ?_
                refine lv_aload hx hb dX6_copy_100 (lv_at hl 0 rfl) ?_
                refine r_getrN (C := RX3) (T := TX3) (N := 3) (host := RX6) (k' := (q_12 + 1)) S hK hw (kS0 hG h_q_12).1 (kS0 hG h_q_12).2 rfl hinX3 2 (by decide) (o := 1) rfl rfl (by decide +kernel) rfl dX6_copy_102 ?_
                refine lv_iload hx hb dX6_copy_105 (lv_at hl 6 rfl) ?_
                refine lv_iload hx hb dX6_copy_107 (lv_at hl 7 rfl) ?_
                obtain ⟨h_33, s_32, e_34, hg⟩ := cpA_e hg
                refine r_acopy S hK hw (kS1 hG h_q_9).1 (kS1 hG h_q_9).2 (kS1 hG h_q_12).1 (kS1 hG h_q_12).2 (hts (.methodLink RX6 272 arraycopyName) (by decide +kernel)) (hts (.native arraycopyName) (by decide +kernel)) (hts (.static arraycopyName) (by decide +kernel)) (hts (.initialized "java/lang/System") (by decide +kernel)) hl.1 (Nat.le_of_ble_eq_true rfl) (Nat.le_of_ble_eq_true rfl) h_33 e_34 dX6_copy_109 (fun H locs hw => ?_)
                refine lv_iload hx hb dX6_copy_112 (lv_at hl 7 rfl) ?_
                exact r_ireti S hr hlk hw.2.2.2.2 hw hg dX6_copy_114
              · have hg := it_p hg c_31
                refine lv_bipush (v := (-12)) hx hb dX6_copy_91 (by decide) ?_
                exact r_ireti S hr hlk hw.2.2.2.2 hw hg dX6_copy_93
          · have hg := it_n hg c_23
            refine lv_bipush (v := (-13)) hx hb dX6_copy_65 (by decide) ?_
            exact r_ireti S hr hlk hw.2.2.2.2 hw hg dX6_copy_67
        · have hg := it_n hg c_22
          refine lv_bipush (v := (-11)) hx hb dX6_copy_49 (by decide) ?_
          exact r_ireti S hr hlk hw.2.2.2.2 hw hg dX6_copy_51
    · have hg := it_p hg c_8
      refine lv_bipush (v := (-2)) hx hb dX6_copy_14 (by decide) ?_
      exact r_ireti S hr hlk hw.2.2.2.2 hw hg dX6_copy_16
set_option maxHeartbeats 4000000 in
set_option maxRecDepth 100000 in
theorem c_X6_courtBy (l : Launch) {G : GW} {N : Nat} {ln : Nat → Nat} {cT cS : ClassId} (hG : isX G N ln cT cS) {F sz : Nat} {a1 : Int32} {a2 : Int32} {a3 : Int32} {a4 : Int32} {σ σR : Sg} {r : Int32} (hg : g_X6_courtBy F N ln a1 a2 a3 a4 σ = some (σR, r)) : Met l yX6_courtBy wsX6_courtBy ({ frames := 3, cells := 0, slots := 0, locals := 65 } : Room) (va_Pc [.ref (gAd G 0), .int a1, .int a2, .int a3, .int a4] (PX G σ sz)) (QcI G (gA G sz) σR r) 0 0 (gA G sz) := by
  refine metX (by decide) rfl (Nat.le_of_ble_eq_true rfl) ?_
  intro p e s m args below meth c ls S hr hlk hsz hA hK hw hl hmn
  have S : CallFix p m c cX6_courtBy 8 s args wsX6_courtBy RX6 := S
  obtain ⟨hx, hb, hml, hown, hts⟩ := id S
  have hl : lv_has ls 8 [(0, .ref (gAd G 0)), (1, .int a1), (2, .int a2), (3, .int a3), (4, .int a4)] := hl
  have hinX3 : ∀ w ∈ wsX30, w ∈ wsX6_courtBy := by decide +kernel
  have hinX6 : ∀ w ∈ wsX60, w ∈ wsX6_courtBy := by decide +kernel
  have L65 : ∀ (v3 : Int32) (v4 : Int32) (q5 : Nat) (h_q5 : isSh q5) (n65 : Nat) (v6 : Int32) (v7 : Int32) (σ : Sg) (H : Heap) (locs : List Loc) (ls : Array Slot) (hg : g_X6_courtBy_l65 F N ln v3 v4 q5 n65 v6 v7 σ = some (σR, r)) (hw : XD G (gA G sz) s.heap σ H locs) (hl : lv_has ls 8 [(0, .ref (gAd G 0)), (3, .int v3), (4, .int v4), (5, .ref (gAd G q5)), (6, .int v6), (7, .int v7)]), W p l e (headSpec wsX6_courtBy ({ frames := 3, cells := 0, slots := 0, locals := 65 } : Room)).room s m args below meth c H locs 0 0 (MQ below (QcI G (gA G sz) σR r) args s 0 0 (gA G sz)) (F0 m 65 ls []) := by
    intro v3 v4 q5 h_q5
    intro n65
    induction n65 with
    | zero => intro v6 v7 σ H locs ls hg hw hl; exact no_e hg
    | succ n65 ih65 =>
      have J126 : ∀ (v6 : Int32) (v7 : Int32) (σ : Sg) (H : Heap) (locs : List Loc) (ls : Array Slot) (hg : g_X6_courtBy_b126 F N ln (fun v6_ v7_ σ_ => g_X6_courtBy_l65 F N ln v3 v4 q5 n65 v6_ v7_ σ_) v3 v4 q5 v6 v7 σ = some (σR, r)) (hw : XD G (gA G sz) s.heap σ H locs) (hl : lv_has ls 8 [(0, .ref (gAd G 0)), (3, .int v3), (4, .int v4), (5, .ref (gAd G q5)), (6, .int v6), (7, .int v7)]), W p l e (headSpec wsX6_courtBy ({ frames := 3, cells := 0, slots := 0, locals := 65 } : Room)).room s m args below meth c H locs 0 0 (MQ below (QcI G (gA G sz) σR r) args s 0 0 (gA G sz)) (F0 m 126 ls []) := by
        intro v6 v7 σ H locs ls hg hw hl
        rw [g_X6_courtBy_b126] at hg
        refine lv_iinc (v := (v7 + 1)) (lv' := [(7, .int (v7 + 1)), (0, .ref (gAd G 0)), (3, .int v3), (4, .int v4), (5, .ref (gAd G q5)), (6, .int v6)]) hx hb dX6_courtBy_126 hl (k := 5) rfl rfl (by decide) rfl (fun ls hl => ?_)
        refine lv_goto (tgt := 65) hx hb dX6_courtBy_129 (by decide) ?_
        exact ih65 _ _ _ _ _ _ hg hw (lv_sub hl [1, 2, 3, 4, 5, 0] rfl)
      intro v6 v7 σ H locs ls hg hw hl
      rw [g_X6_courtBy_l65] at hg
      refine lv_iload hx hb dX6_courtBy_65 (lv_at hl 5 rfl) ?_
      refine lv_iload hx hb dX6_courtBy_67 (lv_at hl 2 rfl) ?_
      refine lv_icmp_ge (tgt := 132) hx hb dX6_courtBy_69 (by decide) (fun c_1 => ?_) (fun c_1 => ?_)
      · have hg := it_p hg c_1
        refine lv_iload hx hb dX6_courtBy_132 (lv_at hl 4 rfl) ?_
        exact r_ireti S hr hlk hw.2.2.2.2 hw hg dX6_courtBy_134
      · have hg := it_n hg c_1
        refine lv_aload hx hb dX6_courtBy_72 (lv_at hl 3 rfl) ?_
        refine lv_iload_n hx hb dX6_courtBy_74 rfl (lv_at hl 1 rfl) ?_
        refine lv_iconst (v := 2) hx hb dX6_courtBy_75 (by decide) ?_
        refine lv_iload hx hb dX6_courtBy_76 (lv_at hl 5 rfl) ?_
        refine lv_imul hx hb dX6_courtBy_78 ?_
        refine lv_iconst (v := 2) hx hb dX6_courtBy_79 (by decide) ?_
        refine lv_iadd hx hb dX6_courtBy_80 ?_
        obtain ⟨s_2, x_3, h_4, hg⟩ := bnI_e hg
        refine r_iV (As := [.int v3, .int ((2 * v7) + 2)]) (rest := []) S hA hK hw (c_X3_hasPlaces l hG h_q5 h_4) (cwV 2 hts gX6_courtBy_X3_hasPlaces rfl rfl rfl (by decide +kernel) ⟨Nat.le_of_ble_eq_true rfl, Nat.le_of_ble_eq_true rfl⟩) (r_recv hK hw (kS0 hG h_q5).1 (kS0 hG h_q5).2 rfl) rfl hl.1 (Nat.le_of_ble_eq_true rfl) dX6_courtBy_81 ⟨Nat.zero_le _, Nat.zero_le _⟩ rfl (fun H locs hw => ?_)
        refine lv_if_ne (tgt := 90) hx hb dX6_courtBy_84 (by decide) (fun c_5 => ?_) (fun c_5 => ?_)
        · have hg := it_n hg c_5
          refine lv_aload_n hx hb dX6_courtBy_90 rfl (lv_at hl 0 rfl) ?_
          refine lv_aload hx hb dX6_courtBy_91 (lv_at hl 3 rfl) ?_
          refine r_getrN (C := RX3) (T := TX3) (N := 3) (host := RX6) (k' := (q5 + 1)) S hK hw (kS0 hG h_q5).1 (kS0 hG h_q5).2 rfl hinX3 2 (by decide) (o := 1) rfl rfl (by decide +kernel) rfl dX6_courtBy_93 ?_
          refine lv_iload_n hx hb dX6_courtBy_96 rfl (lv_at hl 1 rfl) ?_
          refine lv_iconst (v := 2) hx hb dX6_courtBy_97 (by decide) ?_
          refine lv_iload hx hb dX6_courtBy_98 (lv_at hl 5 rfl) ?_
          refine lv_imul hx hb dX6_courtBy_100 ?_
          refine lv_iadd hx hb dX6_courtBy_101 ?_
          obtain ⟨h_7, x_6, e_8, hg⟩ := rdA_e hg
          refine r_iald S hK hw (kS1 hG h_q5).1 (kS1 hG h_q5).2 h_7 e_8 dX6_courtBy_102 ?_
          refine lv_aload hx hb dX6_courtBy_103 (lv_at hl 3 rfl) ?_
          refine r_getrN (C := RX3) (T := TX3) (N := 3) (host := RX6) (k' := (q5 + 1)) S hK hw (kS0 hG h_q5).1 (kS0 hG h_q5).2 rfl hinX3 2 (by decide) (o := 1) rfl rfl (by decide +kernel) rfl dX6_courtBy_105 ?_
          refine lv_iload_n hx hb dX6_courtBy_108 rfl (lv_at hl 1 rfl) ?_
          refine lv_iconst (v := 2) hx hb dX6_courtBy_109 (by decide) ?_
          refine lv_iload hx hb dX6_courtBy_110 (lv_at hl 5 rfl) ?_
          refine lv_imul hx hb dX6_courtBy_112 ?_
          refine lv_iadd hx hb dX6_courtBy_113 ?_
          refine lv_iconst (v := 1) hx hb dX6_courtBy_114 (by decide) ?_
          refine lv_iadd hx hb dX6_courtBy_115 ?_
          obtain ⟨h_10, x_9, e_11, hg⟩ := rdA_e hg
          refine r_iald S hK hw (kS1 hG h_q5).1 (kS1 hG h_q5).2 h_10 e_11 dX6_courtBy_116 ?_
          obtain ⟨s_12, x_13, h_14, hg⟩ := bnI_e hg
          refine r_iV (As := [.int x_6, .int x_9]) (rest := []) S hA hK hw (c_X6_courtier l hG  h_14) (cwV 2 hts gX6_courtBy_X6_courtier rfl rfl rfl (by decide +kernel) ⟨Nat.le_of_ble_eq_true rfl, Nat.le_of_ble_eq_true rfl⟩) (r_recv hK hw (kX_0 hG).1 (kX_0 hG).2 rfl) rfl hl.1 (Nat.le_of_ble_eq_true rfl) dX6_courtBy_117 ⟨Nat.zero_le _, Nat.zero_le _⟩ rfl (fun H locs hw => ?_)
          refine lv_if_lt (tgt := 126) hx hb dX6_courtBy_120 (by decide) (fun c_15 => ?_) (fun c_15 => ?_)
          · have hg := it_p hg c_15
            exact J126 v6 v7 _ _ _ _ hg hw (lv_sub hl [0, 1, 2, 3, 4, 5] rfl)
          · have hg := it_n hg c_15
            refine lv_iinc (v := (v6 + 1)) (lv' := [(6, .int (v6 + 1)), (0, .ref (gAd G 0)), (3, .int v3), (4, .int v4), (5, .ref (gAd G q5)), (7, .int v7)]) hx hb dX6_courtBy_123 hl (k := 4) rfl rfl (by decide) rfl (fun ls hl => ?_)
            exact J126 (v6 + 1) v7 _ _ _ _ hg hw (lv_sub hl [1, 2, 3, 4, 0, 5] rfl)
        · have hg := it_p hg c_5
          refine lv_bipush (v := (-12)) hx hb dX6_courtBy_87 (by decide) ?_
          exact r_ireti S hr hlk hw.2.2.2.2 hw hg dX6_courtBy_89
  rw [g_X6_courtBy] at hg
  refine lv_iload_n hx hb dX6_courtBy_0 rfl (lv_at hl 1 rfl) ?_
  obtain ⟨s_16, x_17, h_18, hg⟩ := bnI_e hg
  refine r_iS (As := [.int a1]) (rest := []) S hA hK hw (c_X6_isSheet l hG  h_18) (va_cwS 1 hts gX6_courtBy_X6_isSheet rfl rfl rfl (by decide +kernel) ⟨Nat.le_of_ble_eq_true rfl, Nat.le_of_ble_eq_true rfl⟩) rfl hl.1 (Nat.le_of_ble_eq_true rfl) dX6_courtBy_1 ⟨Nat.zero_le _, Nat.zero_le _⟩ rfl (fun H locs hw => ?_)
  refine lv_if_eq (tgt := 25) hx hb dX6_courtBy_4 (by decide) (fun c_19 => ?_) (fun c_19 => ?_)
  · have hg := it_p hg c_19
    refine lv_bipush (v := (-2)) hx hb dX6_courtBy_25 (by decide) ?_
    exact r_ireti S hr hlk hw.2.2.2.2 hw hg dX6_courtBy_27
  · have hg := it_n hg c_19
    refine lv_iload_n hx hb dX6_courtBy_7 rfl (lv_at hl 2 rfl) ?_
    obtain ⟨s_20, x_21, h_22, hg⟩ := bnI_e hg
    refine r_iS (As := [.int a2]) (rest := []) S hA hK hw (c_X6_isSort l hG  h_22) (va_cwS 1 hts gX6_courtBy_X6_isSort rfl rfl rfl (by decide +kernel) ⟨Nat.le_of_ble_eq_true rfl, Nat.le_of_ble_eq_true rfl⟩) rfl hl.1 (Nat.le_of_ble_eq_true rfl) dX6_courtBy_8 ⟨Nat.zero_le _, Nat.zero_le _⟩ rfl (fun H locs hw => ?_)
    refine lv_if_eq (tgt := 25) hx hb dX6_courtBy_11 (by decide) (fun c_23 => ?_) (fun c_23 => ?_)
    · have hg := it_p hg c_23
      refine lv_bipush (v := (-2)) hx hb dX6_courtBy_25 (by decide) ?_
      exact r_ireti S hr hlk hw.2.2.2.2 hw hg dX6_courtBy_27
    · have hg := it_n hg c_23
      refine lv_iload hx hb dX6_courtBy_14 (lv_at hl 4 rfl) ?_
      refine lv_iconst (v := 0) hx hb dX6_courtBy_16 (by decide) ?_
      refine lv_bipush (v := 6) hx hb dX6_courtBy_17 (by decide) ?_
      obtain ⟨s_24, x_25, h_26, hg⟩ := bnI_e hg
      refine r_iS (As := [.int a4, .int 0, .int 6]) (rest := []) S hA hK hw (c_X6_isWithin l hG  h_26) (va_cwS 3 hts gX6_courtBy_X6_isWithin rfl rfl rfl (by decide +kernel) ⟨Nat.le_of_ble_eq_true rfl, Nat.le_of_ble_eq_true rfl⟩) rfl hl.1 (Nat.le_of_ble_eq_true rfl) dX6_courtBy_19 ⟨Nat.zero_le _, Nat.zero_le _⟩ rfl (fun H locs hw => ?_)
      refine lv_if_ne (tgt := 28) hx hb dX6_courtBy_22 (by decide) (fun c_27 => ?_) (fun c_27 => ?_)
      · have hg := it_n hg c_27
        refine lv_aload_n hx hb dX6_courtBy_28 rfl (lv_at hl 0 rfl) ?_
        refine r_getr (C := RX6) (T := TX6) (N := 12) (k' := 34) S hK hw (kX_0 hG).1 (kX_0 hG).2 rfl hinX6 10 (by decide) (o := 34) rfl rfl (hts (.fieldLink RX6 62 "SoupByRank" "sheets" "[LSoupByRank$Sheet;") (by decide +kernel)) rfl dX6_courtBy_29 ?_
        refine lv_iload_n hx hb dX6_courtBy_32 rfl (lv_at hl 1 rfl) ?_
        obtain ⟨h_29, q_28, e_30, h_q_28, hg⟩ := rdS_e hg
        refine r_aald (t0 := 2) S hK hw (kX_34 hG).1 (kX_34 hG).2 (tyS hG) h_29 e_30 dX6_courtBy_33 ?_
        refine lv_astore (lv' := [(5, .ref (gAd G q_28)), (0, .ref (gAd G 0)), (1, .int a1), (2, .int a2), (3, .int a3), (4, .int a4)]) hx hb dX6_courtBy_34 hl (by decide) rfl (fun ls hl => ?_)
        refine lv_aload hx hb dX6_courtBy_36 (lv_at hl 0 rfl) ?_
        obtain ⟨s_31, x_32, h_33, hg⟩ := bnI_e hg
        refine r_iV (As := []) (rest := []) S hA hK hw (c_X3_isMissing l hG h_q_28 h_33) (cwV 0 hts gX6_courtBy_X3_isMissing rfl rfl rfl (by decide +kernel) ⟨Nat.le_of_ble_eq_true rfl, Nat.le_of_ble_eq_true rfl⟩) (r_recv hK hw (kS0 hG h_q_28).1 (kS0 hG h_q_28).2 rfl) rfl hl.1 (Nat.le_of_ble_eq_true rfl) dX6_courtBy_38 ⟨Nat.zero_le _, Nat.zero_le _⟩ rfl (fun H locs hw => ?_)
        refine lv_if_eq (tgt := 47) hx hb dX6_courtBy_41 (by decide) (fun c_34 => ?_) (fun c_34 => ?_)
        · have hg := it_p hg c_34
          refine lv_aload hx hb dX6_courtBy_47 (lv_at hl 0 rfl) ?_
          refine r_getN (C := RX3) (T := TX3) (N := 3) (host := RX6) S hK hw (kS0 hG h_q_28).1 (kS0 hG h_q_28).2 rfl hinX3 0 (by decide) rfl (by decide +kernel) rfl dX6_courtBy_49 ?_
          refine lv_iload_n hx hb dX6_courtBy_52 rfl (lv_at hl 3 rfl) ?_
          refine lv_icmp_eq (tgt := 59) hx hb dX6_courtBy_53 (by decide) (fun c_35 => ?_) (fun c_35 => ?_)
          · have hg := it_p hg c_35
            refine lv_iconst (v := 0) hx hb dX6_courtBy_59 (by decide) ?_
            refine lv_istore (lv' := [(6, .int 0), (5, .ref (gAd G q_28)), (0, .ref (gAd G 0)), (1, .int a1), (2, .int a2), (3, .int a3), (4, .int a4)]) hx hb dX6_courtBy_60 hl (by decide) rfl (fun ls hl => ?_)
            refine lv_iconst (v := 0) hx hb dX6_courtBy_62 (by decide) ?_
            refine lv_istore (lv' := [(7, .int 0), (6, .int 0), (5, .ref (gAd G q_28)), (0, .ref (gAd G 0)), (1, .int a1), (2, .int a2), (3, .int a3), (4, .int a4)]) hx hb dX6_courtBy_63 hl (by decide) rfl (fun ls hl => ?_)
            exact L65 a3 a4 q_28 h_q_28 F _ _ _ _ _ _ hg hw (lv_sub hl [3, 6, 7, 2, 1, 0] rfl)
          · have hg := it_n hg c_35
            refine lv_bipush (v := (-13)) hx hb dX6_courtBy_56 (by decide) ?_
            exact r_ireti S hr hlk hw.2.2.2.2 hw hg dX6_courtBy_58
        · have hg := it_n hg c_34
          refine lv_bipush (v := (-11)) hx hb dX6_courtBy_44 (by decide) ?_
          exact r_ireti S hr hlk hw.2.2.2.2 hw hg dX6_courtBy_46
      · have hg := it_p hg c_27
        refine lv_bipush (v := (-2)) hx hb dX6_courtBy_25 (by decide) ?_
        exact r_ireti S hr hlk hw.2.2.2.2 hw hg dX6_courtBy_27
set_option maxHeartbeats 4000000 in
set_option maxRecDepth 100000 in
theorem c_X6_isOneOf (l : Launch) {G : GW} {N : Nat} {ln : Nat → Nat} {cT cS : ClassId} (hG : isX G N ln cT cS) {F sz : Nat} {a0 : Int32} {a1 : Int32} {σ σR : Sg} {r : Int32} (hg : g_X6_isOneOf F N ln a0 a1 σ = some (σR, r)) : Met l yX6_isOneOf wsX6_isOneOf ({ frames := 0, cells := 0, slots := 0, locals := 0 } : Room) (va_Pc [.int a0, .int a1] (PX G σ sz)) (QcI G (gA G sz) σR r) 0 0 (gA G sz) := by
  refine metX (by decide) rfl (Nat.le_of_ble_eq_true rfl) ?_
  intro p e s m args below meth c ls S hr hlk hsz hA hK hw hl hmn
  have S : CallFix p m c cX6_isOneOf 2 s args wsX6_isOneOf RX6 := S
  obtain ⟨hx, hb, hml, hown, hts⟩ := id S
  have hl : lv_has ls 2 [(0, .int a0), (1, .int a1)] := hl
  have J56 : ∀ (σ : Sg) (H : Heap) (locs : List Loc) (ls : Array Slot) (hg : g_X6_isOneOf_b56 F N ln σ = some (σR, r)) (hw : XD G (gA G sz) s.heap σ H locs) (hl : lv_has ls 2 []), W p l e (headSpec wsX6_isOneOf ({ frames := 0, cells := 0, slots := 0, locals := 0 } : Room)).room s m args below meth c H locs 0 0 (MQ below (QcI G (gA G sz) σR r) args s 0 0 (gA G sz)) (F0 m 56 ls []) := by
    intro  σ H locs ls hg hw hl
    rw [g_X6_isOneOf_b56] at hg
    refine lv_iconst (v := 1) hx hb dX6_isOneOf_56 (by decide) ?_
    refine lv_goto (tgt := 61) hx hb dX6_isOneOf_57 (by decide) ?_
    exact r_iretz S hr rfl hlk hw.2.2.2.2 hw hg dX6_isOneOf_61
  have J40 : ∀ (σ : Sg) (H : Heap) (locs : List Loc) (ls : Array Slot) (hg : g_X6_isOneOf_b40 F N ln σ = some (σR, r)) (hw : XD G (gA G sz) s.heap σ H locs) (hl : lv_has ls 2 []), W p l e (headSpec wsX6_isOneOf ({ frames := 0, cells := 0, slots := 0, locals := 0 } : Room)).room s m args below meth c H locs 0 0 (MQ below (QcI G (gA G sz) σR r) args s 0 0 (gA G sz)) (F0 m 40 ls []) := by
    intro  σ H locs ls hg hw hl
    rw [g_X6_isOneOf_b40] at hg
    refine lv_iconst (v := 1) hx hb dX6_isOneOf_40 (by decide) ?_
    refine lv_goto (tgt := 45) hx hb dX6_isOneOf_41 (by decide) ?_
    exact r_iretz S hr rfl hlk hw.2.2.2.2 hw hg dX6_isOneOf_45
  rw [g_X6_isOneOf] at hg
  refine lv_iload_n hx hb dX6_isOneOf_0 rfl (lv_at hl 1 rfl) ?_
  by_cases c_1 : a1 = 0
  · have hg := it_p hg c_1
    refine lv_tableIn (tgt := 28) hx hb dX6_isOneOf_1 (by rw [c_1]; decide) (by rw [c_1]; decide) (off := 27) (by rw [c_1]; rfl) (by decide) ?_
    refine lv_iconst (v := 1) hx hb dX6_isOneOf_28 (by decide) ?_
    exact r_iretz S hr rfl hlk hw.2.2.2.2 hw hg dX6_isOneOf_29
  have hg := it_n hg c_1
  by_cases c_2 : a1 = 1
  · have hg := it_p hg c_2
    refine lv_tableIn (tgt := 30) hx hb dX6_isOneOf_1 (by rw [c_2]; decide) (by rw [c_2]; decide) (off := 29) (by rw [c_2]; rfl) (by decide) ?_
    refine lv_iload_n hx hb dX6_isOneOf_30 rfl (lv_at hl 0 rfl) ?_
    refine lv_iconst (v := 1) hx hb dX6_isOneOf_31 (by decide) ?_
    refine lv_icmp_eq (tgt := 40) hx hb dX6_isOneOf_32 (by decide) (fun c_3 => ?_) (fun c_3 => ?_)
    · have hg := it_p hg c_3
      exact J40 _ _ _ _ hg hw (lv_sub hl [] rfl)
    · have hg := it_n hg c_3
      refine lv_iload_n hx hb dX6_isOneOf_35 rfl (lv_at hl 0 rfl) ?_
      refine lv_iconst (v := 3) hx hb dX6_isOneOf_36 (by decide) ?_
      refine lv_icmp_ne (tgt := 44) hx hb dX6_isOneOf_37 (by decide) (fun c_4 => ?_) (fun c_4 => ?_)
      · have hg := it_n hg c_4
        refine lv_iconst (v := 0) hx hb dX6_isOneOf_44 (by decide) ?_
        exact r_iretz S hr rfl hlk hw.2.2.2.2 hw hg dX6_isOneOf_45
      · have hg := it_p hg c_4
        exact J40 _ _ _ _ hg hw (lv_sub hl [] rfl)
  have hg := it_n hg c_2
  by_cases c_5 : a1 = 2
  · have hg := it_p hg c_5
    refine lv_tableIn (tgt := 46) hx hb dX6_isOneOf_1 (by rw [c_5]; decide) (by rw [c_5]; decide) (off := 45) (by rw [c_5]; rfl) (by decide) ?_
    refine lv_iload_n hx hb dX6_isOneOf_46 rfl (lv_at hl 0 rfl) ?_
    refine lv_iconst (v := 2) hx hb dX6_isOneOf_47 (by decide) ?_
    refine lv_icmp_eq (tgt := 56) hx hb dX6_isOneOf_48 (by decide) (fun c_6 => ?_) (fun c_6 => ?_)
    · have hg := it_p hg c_6
      exact J56 _ _ _ _ hg hw (lv_sub hl [] rfl)
    · have hg := it_n hg c_6
      refine lv_iload_n hx hb dX6_isOneOf_51 rfl (lv_at hl 0 rfl) ?_
      refine lv_iconst (v := 4) hx hb dX6_isOneOf_52 (by decide) ?_
      refine lv_icmp_ne (tgt := 60) hx hb dX6_isOneOf_53 (by decide) (fun c_7 => ?_) (fun c_7 => ?_)
      · have hg := it_n hg c_7
        refine lv_iconst (v := 0) hx hb dX6_isOneOf_60 (by decide) ?_
        exact r_iretz S hr rfl hlk hw.2.2.2.2 hw hg dX6_isOneOf_61
      · have hg := it_p hg c_7
        exact J56 _ _ _ _ hg hw (lv_sub hl [] rfl)
  have hg := it_n hg c_5
  have hsw := tb_out (lo := 0) (hi := 2) (x := a1) (fun n h1 h2 => by rcases (show n = 0 ∨ n = 1 ∨ n = 2 by omega) with rfl | rfl | rfl; exact lv_neT c_1 (by decide); exact lv_neT c_2 (by decide); exact lv_neT c_5 (by decide))
  refine lv_tableOut (tgt := 62) hx hb dX6_isOneOf_1 hsw (by decide) ?_
  refine lv_iload_n hx hb dX6_isOneOf_62 rfl (lv_at hl 0 rfl) ?_
  refine lv_iload_n hx hb dX6_isOneOf_63 rfl (lv_at hl 1 rfl) ?_
  refine lv_icmp_ne (tgt := 71) hx hb dX6_isOneOf_64 (by decide) (fun c_8 => ?_) (fun c_8 => ?_)
  · have hg := it_n hg c_8
    refine lv_iconst (v := 0) hx hb dX6_isOneOf_71 (by decide) ?_
    exact r_iretz S hr rfl hlk hw.2.2.2.2 hw hg dX6_isOneOf_72
  · have hg := it_p hg c_8
    refine lv_iconst (v := 1) hx hb dX6_isOneOf_67 (by decide) ?_
    refine lv_goto (tgt := 72) hx hb dX6_isOneOf_68 (by decide) ?_
    exact r_iretz S hr rfl hlk hw.2.2.2.2 hw hg dX6_isOneOf_72
set_option maxHeartbeats 4000000 in
set_option maxRecDepth 100000 in
theorem c_X6_taken (l : Launch) {G : GW} {N : Nat} {ln : Nat → Nat} {cT cS : ClassId} (hG : isX G N ln cT cS) {F sz : Nat} {a1 : Int32} {a2 : Int32} {σ σR : Sg} {r : Int32} (hg : g_X6_taken F N ln a1 a2 σ = some (σR, r)) : Met l yX6_taken wsX6_taken ({ frames := 2, cells := 0, slots := 0, locals := 43 } : Room) (va_Pc [.ref (gAd G 0), .int a1, .int a2] (PX G σ sz)) (QcI G (gA G sz) σR r) 0 0 (gA G sz) := by
  refine metX (by decide) rfl (Nat.le_of_ble_eq_true rfl) ?_
  intro p e s m args below meth c ls S hr hlk hsz hA hK hw hl hmn
  have S : CallFix p m c cX6_taken 4 s args wsX6_taken RX6 := S
  obtain ⟨hx, hb, hml, hown, hts⟩ := id S
  have hl : lv_has ls 4 [(0, .ref (gAd G 0)), (1, .int a1), (2, .int a2)] := hl
  have hinX1 : ∀ w ∈ wsX10, w ∈ wsX6_taken := by decide +kernel
  have hinX6 : ∀ w ∈ wsX60, w ∈ wsX6_taken := by decide +kernel
  rw [g_X6_taken] at hg
  refine lv_iload_n hx hb dX6_taken_0 rfl (lv_at hl 2 rfl) ?_
  refine lv_iconst (v := 0) hx hb dX6_taken_1 (by decide) ?_
  refine lv_bipush (v := 6) hx hb dX6_taken_2 (by decide) ?_
  obtain ⟨s_1, x_2, h_3, hg⟩ := bnI_e hg
  refine r_iS (As := [.int a2, .int 0, .int 6]) (rest := []) S hA hK hw (c_X6_isWithin l hG  h_3) (va_cwS 3 hts gX6_taken_X6_isWithin rfl rfl rfl (by decide +kernel) ⟨Nat.le_of_ble_eq_true rfl, Nat.le_of_ble_eq_true rfl⟩) rfl hl.1 (Nat.le_of_ble_eq_true rfl) dX6_taken_4 ⟨Nat.zero_le _, Nat.zero_le _⟩ rfl (fun H locs hw => ?_)
  refine lv_if_ne (tgt := 13) hx hb dX6_taken_7 (by decide) (fun c_4 => ?_) (fun c_4 => ?_)
  · have hg := it_n hg c_4
    refine lv_iload_n hx hb dX6_taken_13 rfl (lv_at hl 1 rfl) ?_
    refine lv_iconst (v := 0) hx hb dX6_taken_14 (by decide) ?_
    refine lv_bipush (v := 11) hx hb dX6_taken_15 (by decide) ?_
    obtain ⟨s_5, x_6, h_7, hg⟩ := bnI_e hg
    refine r_iS (As := [.int a1, .int 0, .int 11]) (rest := []) S hA hK hw (c_X6_isWithin l hG  h_7) (va_cwS 3 hts gX6_taken_X6_isWithin rfl rfl rfl (by decide +kernel) ⟨Nat.le_of_ble_eq_true rfl, Nat.le_of_ble_eq_true rfl⟩) rfl hl.1 (Nat.le_of_ble_eq_true rfl) dX6_taken_17 ⟨Nat.zero_le _, Nat.zero_le _⟩ rfl (fun H locs hw => ?_)
    refine lv_if_ne (tgt := 26) hx hb dX6_taken_20 (by decide) (fun c_8 => ?_) (fun c_8 => ?_)
    · have hg := it_n hg c_8
      refine lv_iload_n hx hb dX6_taken_26 rfl (lv_at hl 1 rfl) ?_
      refine lv_bipush (v := 6) hx hb dX6_taken_27 (by decide) ?_
      obtain ⟨h_10, hg⟩ := remI_e hg
      refine lv_irem hx hb dX6_taken_29 h_10 ?_
      refine lv_istore_n (lv' := [(3, .int (a1 - a1 / 6 * 6)), (0, .ref (gAd G 0)), (1, .int a1), (2, .int a2)]) hx hb dX6_taken_30 rfl hl (by decide) rfl (fun ls hl => ?_)
      refine lv_aload_n hx hb dX6_taken_31 rfl (lv_at hl 1 rfl) ?_
      refine lv_iload_n hx hb dX6_taken_32 rfl (lv_at hl 0 rfl) ?_
      obtain ⟨s_12, x_13, h_14, hg⟩ := bnI_e hg
      refine r_iV (As := [.int (a1 - a1 / 6 * 6)]) (rest := []) S hA hK hw (c_X6_isThere l hG  h_14) (cwV 1 hts gX6_taken_X6_isThere rfl rfl rfl (by decide +kernel) ⟨Nat.le_of_ble_eq_true rfl, Nat.le_of_ble_eq_true rfl⟩) (r_recv hK hw (kX_0 hG).1 (kX_0 hG).2 rfl) rfl hl.1 (Nat.le_of_ble_eq_true rfl) dX6_taken_33 ⟨Nat.zero_le _, Nat.zero_le _⟩ rfl (fun H locs hw => ?_)
      refine lv_if_ne (tgt := 42) hx hb dX6_taken_36 (by decide) (fun c_15 => ?_) (fun c_15 => ?_)
      · have hg := it_n hg c_15
        refine lv_iload_n hx hb dX6_taken_42 rfl (lv_at hl 2 rfl) ?_
        refine lv_bipush (v := 6) hx hb dX6_taken_43 (by decide) ?_
        refine lv_icmp_lt (tgt := 69) hx hb dX6_taken_45 (by decide) (fun c_16 => ?_) (fun c_16 => ?_)
        · have hg := it_p hg c_16
          refine lv_aload_n hx hb dX6_taken_69 rfl (lv_at hl 1 rfl) ?_
          refine r_getr (C := RX6) (T := TX6) (N := 12) (k' := 1) S hK hw (kX_0 hG).1 (kX_0 hG).2 rfl hinX6 0 (by decide) (o := 1) rfl rfl (hts (.fieldLink RX6 10 "SoupByRank" "court" "LSoupByRank$Court;") (by decide +kernel)) rfl dX6_taken_70 ?_
          refine r_getrN (C := RX1) (T := TX1) (N := 9) (host := RX6) (k' := 2) S hK hw (kX_1 hG).1 (kX_1 hG).2 rfl hinX1 5 (by decide) (o := 1) rfl rfl (by decide +kernel) rfl dX6_taken_73 ?_
          refine lv_iload_n hx hb dX6_taken_76 rfl (lv_at hl 0 rfl) ?_
          obtain ⟨h_18, x_17, e_19, hg⟩ := rdA_e hg
          refine r_iald S hK hw (kX_2 hG).1 (kX_2 hG).2 h_18 e_19 dX6_taken_77 ?_
          refine lv_iload_n hx hb dX6_taken_78 rfl (lv_at hl 3 rfl) ?_
          obtain ⟨s_20, x_21, h_22, hg⟩ := bnI_e hg
          refine r_iS (As := [.int x_17, .int a2]) (rest := []) S hA hK hw (c_X6_isOneOf l hG  h_22) (va_cwS 2 hts gX6_taken_X6_isOneOf rfl rfl rfl (by decide +kernel) ⟨Nat.le_of_ble_eq_true rfl, Nat.le_of_ble_eq_true rfl⟩) rfl hl.1 (Nat.le_of_ble_eq_true rfl) dX6_taken_79 ⟨Nat.zero_le _, Nat.zero_le _⟩ rfl (fun H locs hw => ?_)
          refine lv_if_eq (tgt := 89) hx hb dX6_taken_82 (by decide) (fun c_23 => ?_) (fun c_23 => ?_)
          · have hg := it_p hg c_23
            refine lv_bipush (v := (-13)) hx hb dX6_taken_89 (by decide) ?_
            exact r_ireti S hr hlk hw.2.2.2.2 hw hg dX6_taken_91
          · have hg := it_n hg c_23
            refine lv_iload_n hx hb dX6_taken_85 rfl (lv_at hl 0 rfl) ?_
            refine lv_goto (tgt := 91) hx hb dX6_taken_86 (by decide) ?_
            exact r_ireti S hr hlk hw.2.2.2.2 hw hg dX6_taken_91
        · have hg := it_n hg c_16
          refine lv_iload_n hx hb dX6_taken_48 rfl (lv_at hl 3 rfl) ?_
          refine lv_bipush (v := 6) hx hb dX6_taken_49 (by decide) ?_
          refine lv_icmp_ne (tgt := 66) hx hb dX6_taken_51 (by decide) (fun c_24 => ?_) (fun c_24 => ?_)
          · have hg := it_n hg c_24
            refine lv_bipush (v := (-13)) hx hb dX6_taken_66 (by decide) ?_
            exact r_ireti S hr hlk hw.2.2.2.2 hw hg dX6_taken_68
          · have hg := it_p hg c_24
            refine lv_aload_n hx hb dX6_taken_54 rfl (lv_at hl 1 rfl) ?_
            refine r_getr (C := RX6) (T := TX6) (N := 12) (k' := 1) S hK hw (kX_0 hG).1 (kX_0 hG).2 rfl hinX6 0 (by decide) (o := 1) rfl rfl (hts (.fieldLink RX6 10 "SoupByRank" "court" "LSoupByRank$Court;") (by decide +kernel)) rfl dX6_taken_55 ?_
            refine r_getrN (C := RX1) (T := TX1) (N := 9) (host := RX6) (k' := 5) S hK hw (kX_1 hG).1 (kX_1 hG).2 rfl hinX1 8 (by decide) (o := 4) rfl rfl (by decide +kernel) rfl dX6_taken_58 ?_
            refine lv_iload_n hx hb dX6_taken_61 rfl (lv_at hl 0 rfl) ?_
            obtain ⟨h_26, x_25, e_27, hg⟩ := rdA_e hg
            refine r_iald S hK hw (kX_5 hG).1 (kX_5 hG).2 h_26 e_27 dX6_taken_62 ?_
            refine lv_goto (tgt := 68) hx hb dX6_taken_63 (by decide) ?_
            exact r_ireti S hr hlk hw.2.2.2.2 hw hg dX6_taken_68
      · have hg := it_p hg c_15
        refine lv_bipush (v := (-11)) hx hb dX6_taken_39 (by decide) ?_
        exact r_ireti S hr hlk hw.2.2.2.2 hw hg dX6_taken_41
    · have hg := it_p hg c_8
      refine lv_bipush (v := (-12)) hx hb dX6_taken_23 (by decide) ?_
      exact r_ireti S hr hlk hw.2.2.2.2 hw hg dX6_taken_25
  · have hg := it_p hg c_4
    refine lv_bipush (v := (-2)) hx hb dX6_taken_10 (by decide) ?_
    exact r_ireti S hr hlk hw.2.2.2.2 hw hg dX6_taken_12
