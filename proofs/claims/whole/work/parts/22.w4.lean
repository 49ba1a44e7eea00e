set_option maxHeartbeats 4000000 in
set_option maxRecDepth 100000 in
theorem c_X4_add (l : Launch) {G : GW} {N : Nat} {ln : Nat → Nat} {cT cS : ClassId} (hG : isX G N ln cT cS) {F sz : Nat} {a1 : Int32} {σ σR : Sg} (hg : g_X4_add F N ln a1 σ = some σR) : Met l yX4_add wsX4_add ({ frames := 0, cells := 0, slots := 0, locals := 0 } : Room) (va_Pc [.ref (gAd G 30), .int a1] (PX G σ sz)) (QcV G (gA G sz) σR) 0 0 (gA G sz) := by
  refine metX (by decide) rfl (Nat.le_of_ble_eq_true rfl) ?_
  intro p e s m args below meth c ls S hr hlk hsz hA hK hw hl hmn
  have S : CallFix p m c cX4_add 2 s args wsX4_add RX4 := S
  obtain ⟨hx, hb, hml, hown, hts⟩ := id S
  have hl : lv_has ls 2 [(0, .ref (gAd G 30)), (1, .int a1)] := hl
  have hinX4 : ∀ w ∈ wsX40, w ∈ wsX4_add := by decide +kernel
  rw [g_X4_add] at hg
  refine lv_aload_n hx hb dX4_add_0 rfl (lv_at hl 0 rfl) ?_
  refine r_get (C := RX4) (T := TX4) (N := 10) S hK hw (kX_30 hG).1 (kX_30 hG).2 rfl hinX4 1 (by decide) rfl (hts (.fieldLink RX4 21 "SoupByRank$Tape" "size" "I") (by decide +kernel)) rfl dX4_add_1 ?_
  refine lv_aload_n hx hb dX4_add_4 rfl (lv_at hl 0 rfl) ?_
  refine r_getr (C := RX4) (T := TX4) (N := 10) (k' := 31) S hK hw (kX_30 hG).1 (kX_30 hG).2 rfl hinX4 0 (by decide) (o := 1) rfl rfl (hts (.fieldLink RX4 9 "SoupByRank$Tape" "bytes" "[I") (by decide +kernel)) rfl dX4_add_5 ?_
  refine r_alen S hK hw (kX_31 hG).1 (kX_31 hG).2 dX4_add_8 ?_
  refine lv_icmp_ge (tgt := 32) hx hb dX4_add_9 (by decide) (fun c_1 => ?_) (fun c_1 => ?_)
  · have hg := it_p hg c_1
    exact r_vreti S hr hlk hw.2.2.2.2 hw hg dX4_add_32
  · have hg := it_n hg c_1
    refine lv_aload_n hx hb dX4_add_12 rfl (lv_at hl 0 rfl) ?_
    refine r_getr (C := RX4) (T := TX4) (N := 10) (k' := 31) S hK hw (kX_30 hG).1 (kX_30 hG).2 rfl hinX4 0 (by decide) (o := 1) rfl rfl (hts (.fieldLink RX4 9 "SoupByRank$Tape" "bytes" "[I") (by decide +kernel)) rfl dX4_add_13 ?_
    refine lv_aload_n hx hb dX4_add_16 rfl (lv_at hl 0 rfl) ?_
    refine r_get (C := RX4) (T := TX4) (N := 10) S hK hw (kX_30 hG).1 (kX_30 hG).2 rfl hinX4 1 (by decide) rfl (hts (.fieldLink RX4 21 "SoupByRank$Tape" "size" "I") (by decide +kernel)) rfl dX4_add_17 ?_
    refine lv_iload_n hx hb dX4_add_20 rfl (lv_at hl 1 rfl) ?_
    obtain ⟨h_3, s_2, e_4, hg⟩ := wrA_e hg
    refine r_iast S hK hw (kX_31 hG).1 (kX_31 hG).2 h_3 e_4 dX4_add_21 (fun H locs hw => ?_)
    refine lv_aload_n hx hb dX4_add_22 rfl (lv_at hl 0 rfl) ?_
    refine lv_dup hx hb dX4_add_23 rfl ?_
    refine r_get (C := RX4) (T := TX4) (N := 10) S hK hw (kX_30 hG).1 (kX_30 hG).2 rfl hinX4 1 (by decide) rfl (hts (.fieldLink RX4 21 "SoupByRank$Tape" "size" "I") (by decide +kernel)) rfl dX4_add_24 ?_
    refine lv_iconst (v := 1) hx hb dX4_add_27 (by decide) ?_
    refine lv_iadd hx hb dX4_add_28 ?_
    obtain ⟨s_5, e_6, hg⟩ := wrF_e hg
    refine r_put (C := RX4) (T := TX4) (N := 10) S hK hw (kX_30 hG).1 (kX_30 hG).2 rfl hinX4 tyX4_ok nmX4 1 (by decide) rfl rfl rfl rfl (hts (.fieldLink RX4 21 "SoupByRank$Tape" "size" "I") (by decide +kernel)) rfl e_6 dX4_add_29 (fun H locs hw => ?_)
    exact r_vreti S hr hlk hw.2.2.2.2 hw hg dX4_add_32
set_option maxHeartbeats 4000000 in
set_option maxRecDepth 100000 in
theorem c_X4_isBlank (l : Launch) {G : GW} {N : Nat} {ln : Nat → Nat} {cT cS : ClassId} (hG : isX G N ln cT cS) {F sz : Nat} {a0 : Int32} {σ σR : Sg} {r : Int32} (hg : g_X4_isBlank F N ln a0 σ = some (σR, r)) : Met l yX4_isBlank wsX4_isBlank ({ frames := 0, cells := 0, slots := 0, locals := 0 } : Room) (va_Pc [.int a0] (PX G σ sz)) (QcI G (gA G sz) σR r) 0 0 (gA G sz) := by
  refine metX (by decide) rfl (Nat.le_of_ble_eq_true rfl) ?_
  intro p e s m args below meth c ls S hr hlk hsz hA hK hw hl hmn
  have S : CallFix p m c cX4_isBlank 1 s args wsX4_isBlank RX4 := S
  obtain ⟨hx, hb, hml, hown, hts⟩ := id S
  have hl : lv_has ls 1 [(0, .int a0)] := hl
  have J12 : ∀ (σ : Sg) (H : Heap) (locs : List Loc) (ls : Array Slot) (hg : g_X4_isBlank_b12 F N ln σ = some (σR, r)) (hw : XD G (gA G sz) s.heap σ H locs) (hl : lv_has ls 1 []), W p l e (headSpec wsX4_isBlank ({ frames := 0, cells := 0, slots := 0, locals := 0 } : Room)).room s m args below meth c H locs 0 0 (MQ below (QcI G (gA G sz) σR r) args s 0 0 (gA G sz)) (F0 m 12 ls []) := by
    intro  σ H locs ls hg hw hl
    rw [g_X4_isBlank_b12] at hg
    refine lv_iconst (v := 1) hx hb dX4_isBlank_12 (by decide) ?_
    refine lv_goto (tgt := 17) hx hb dX4_isBlank_13 (by decide) ?_
    exact r_iretz S hr rfl hlk hw.2.2.2.2 hw hg dX4_isBlank_17
  rw [g_X4_isBlank] at hg
  refine lv_iload_n hx hb dX4_isBlank_0 rfl (lv_at hl 0 rfl) ?_
  refine lv_bipush (v := 32) hx hb dX4_isBlank_1 (by decide) ?_
  refine lv_icmp_eq (tgt := 12) hx hb dX4_isBlank_3 (by decide) (fun c_1 => ?_) (fun c_1 => ?_)
  · have hg := it_p hg c_1
    exact J12 _ _ _ _ hg hw (lv_sub hl [] rfl)
  · have hg := it_n hg c_1
    refine lv_iload_n hx hb dX4_isBlank_6 rfl (lv_at hl 0 rfl) ?_
    refine lv_bipush (v := 10) hx hb dX4_isBlank_7 (by decide) ?_
    refine lv_icmp_ne (tgt := 16) hx hb dX4_isBlank_9 (by decide) (fun c_2 => ?_) (fun c_2 => ?_)
    · have hg := it_n hg c_2
      refine lv_iconst (v := 0) hx hb dX4_isBlank_16 (by decide) ?_
      exact r_iretz S hr rfl hlk hw.2.2.2.2 hw hg dX4_isBlank_17
    · have hg := it_p hg c_2
      exact J12 _ _ _ _ hg hw (lv_sub hl [] rfl)
set_option maxHeartbeats 4000000 in
set_option maxRecDepth 100000 in
theorem c_X4_isLetter (l : Launch) {G : GW} {N : Nat} {ln : Nat → Nat} {cT cS : ClassId} (hG : isX G N ln cT cS) {F sz : Nat} {a0 : Int32} {σ σR : Sg} {r : Int32} (hg : g_X4_isLetter F N ln a0 σ = some (σR, r)) : Met l yX4_isLetter wsX4_isLetter ({ frames := 0, cells := 0, slots := 0, locals := 0 } : Room) (va_Pc [.int a0] (PX G σ sz)) (QcI G (gA G sz) σR r) 0 0 (gA G sz) := by
  refine metX (by decide) rfl (Nat.le_of_ble_eq_true rfl) ?_
  intro p e s m args below meth c ls S hr hlk hsz hA hK hw hl hmn
  have S : CallFix p m c cX4_isLetter 1 s args wsX4_isLetter RX4 := S
  obtain ⟨hx, hb, hml, hown, hts⟩ := id S
  have hl : lv_has ls 1 [(0, .int a0)] := hl
  rw [g_X4_isLetter] at hg
  refine lv_iload_n hx hb dX4_isLetter_0 rfl (lv_at hl 0 rfl) ?_
  refine lv_bipush (v := 97) hx hb dX4_isLetter_1 (by decide) ?_
  refine lv_icmp_lt (tgt := 16) hx hb dX4_isLetter_3 (by decide) (fun c_1 => ?_) (fun c_1 => ?_)
  · have hg := it_p hg c_1
    refine lv_iconst (v := 0) hx hb dX4_isLetter_16 (by decide) ?_
    exact r_iretz S hr rfl hlk hw.2.2.2.2 hw hg dX4_isLetter_17
  · have hg := it_n hg c_1
    refine lv_iload_n hx hb dX4_isLetter_6 rfl (lv_at hl 0 rfl) ?_
    refine lv_bipush (v := 122) hx hb dX4_isLetter_7 (by decide) ?_
    refine lv_icmp_gt (tgt := 16) hx hb dX4_isLetter_9 (by decide) (fun c_2 => ?_) (fun c_2 => ?_)
    · have hg := it_p hg c_2
      refine lv_iconst (v := 0) hx hb dX4_isLetter_16 (by decide) ?_
      exact r_iretz S hr rfl hlk hw.2.2.2.2 hw hg dX4_isLetter_17
    · have hg := it_n hg c_2
      refine lv_iconst (v := 1) hx hb dX4_isLetter_12 (by decide) ?_
      refine lv_goto (tgt := 17) hx hb dX4_isLetter_13 (by decide) ?_
      exact r_iretz S hr rfl hlk hw.2.2.2.2 hw hg dX4_isLetter_17
set_option maxHeartbeats 4000000 in
set_option maxRecDepth 100000 in
theorem c_X4_isWord (l : Launch) {G : GW} {N : Nat} {ln : Nat → Nat} {cT cS : ClassId} (hG : isX G N ln cT cS) {F sz : Nat} {a1 : Int32} {a2 : Int32} {a3 : Int32} {σ σR : Sg} {r : Int32} (hg : g_X4_isWord F N ln a1 a2 a3 σ = some (σR, r)) : Met l yX4_isWord wsX4_isWord ({ frames := 8, cells := 0, slots := 0, locals := 400 } : Room) (va_Pc [.ref (gAd G 30), .int a1, .int a2, .int a3] (PX G σ sz)) (QcI G (gA G sz) σR r) 0 0 (gA G sz) := by
  refine metX (by decide) rfl (Nat.le_of_ble_eq_true rfl) ?_
  intro p e s m args below meth c ls S hr hlk hsz hA hK hw hl hmn
  have S : CallFix p m c cX4_isWord 6 s args wsX4_isWord RX4 := S
  obtain ⟨hx, hb, hml, hown, hts⟩ := id S
  have hl : lv_has ls 6 [(0, .ref (gAd G 30)), (1, .int a1), (2, .int a2), (3, .int a3)] := hl
  have hinX4 : ∀ w ∈ wsX40, w ∈ wsX4_isWord := by decide +kernel
  have L13 : ∀ (v1 : Int32) (v2 : Int32) (v3 : Int32) (n13 : Nat) (v4 : Int32) (σ : Sg) (H : Heap) (locs : List Loc) (ls : Array Slot) (hg : g_X4_isWord_l13 F N ln v1 v2 v3 n13 v4 σ = some (σR, r)) (hw : XD G (gA G sz) s.heap σ H locs) (hl : lv_has ls 6 [(0, .ref (gAd G 30)), (1, .int v1), (2, .int v2), (3, .int v3), (4, .int v4)]), W p l e (headSpec wsX4_isWord ({ frames := 8, cells := 0, slots := 0, locals := 400 } : Room)).room s m args below meth c H locs 0 0 (MQ below (QcI G (gA G sz) σR r) args s 0 0 (gA G sz)) (F0 m 13 ls []) := by
    intro v1 v2 v3
    intro n13
    induction n13 with
    | zero => intro v4 σ H locs ls hg hw hl; exact no_e hg
    | succ n13 ih13 =>
      have J42 : ∀ (v4 : Int32) (u0 : Int32) (σ : Sg) (H : Heap) (locs : List Loc) (ls : Array Slot) (hg : g_X4_isWord_b42 F N ln (fun v4_ σ_ => g_X4_isWord_l13 F N ln v1 v2 v3 n13 v4_ σ_) v1 v2 v3 v4 u0 σ = some (σR, r)) (hw : XD G (gA G sz) s.heap σ H locs) (hl : lv_has ls 6 [(0, .ref (gAd G 30)), (1, .int v1), (2, .int v2), (3, .int v3), (4, .int v4)]), W p l e (headSpec wsX4_isWord ({ frames := 8, cells := 0, slots := 0, locals := 400 } : Room)).room s m args below meth c H locs 0 0 (MQ below (QcI G (gA G sz) σR r) args s 0 0 (gA G sz)) (F0 m 42 ls [.int u0]) := by
        intro v4 u0 σ H locs ls hg hw hl
        rw [g_X4_isWord_b42] at hg
        refine lv_istore (lv' := [(5, .int u0), (0, .ref (gAd G 30)), (1, .int v1), (2, .int v2), (3, .int v3), (4, .int v4)]) hx hb dX4_isWord_42 hl (by decide) rfl (fun ls hl => ?_)
        refine lv_iload hx hb dX4_isWord_44 (lv_at hl 0 rfl) ?_
        refine va_ldcS hx hb hown hK.2.2.2.2.2.1 dX4_isWord_46 ?_
        refine lv_bipush (v := 6) hx hb dX4_isWord_48 (by decide) ?_
        refine lv_iload_n hx hb dX4_isWord_50 rfl (lv_at hl 2 rfl) ?_
        refine lv_imul hx hb dX4_isWord_51 ?_
        refine lv_iload hx hb dX4_isWord_52 (lv_at hl 5 rfl) ?_
        refine lv_iadd hx hb dX4_isWord_54 ?_
        obtain ⟨x_1, h_2, hg⟩ := chA_e hg
        refine r_iV (As := [.int ((6 * v1) + v4)]) (rest := [.int u0]) S hA hK hw (j_charAt_i l (by decide) h_2) (cwV 1 hts gX4_isWord_J0_charAt_5068e rfl rfl rfl (by decide +kernel) ⟨Nat.le_of_ble_eq_true rfl, Nat.le_of_ble_eq_true rfl⟩) (vk_recv hK.2.2.2.2.1 (by decide) hw.2.2) rfl hl.1 (Nat.le_of_ble_eq_true rfl) dX4_isWord_55 ⟨Nat.zero_le _, Nat.zero_le _⟩ rfl (fun H locs hw => ?_)
        refine lv_icmp_eq (tgt := 63) hx hb dX4_isWord_58 (by decide) (fun c_4 => ?_) (fun c_4 => ?_)
        · have hg := it_p hg c_4
          refine lv_iinc (v := (v4 + 1)) (lv' := [(4, .int (v4 + 1)), (5, .int u0), (0, .ref (gAd G 30)), (1, .int v1), (2, .int v2), (3, .int v3)]) hx hb dX4_isWord_63 hl (k := 5) rfl rfl (by decide) rfl (fun ls hl => ?_)
          refine lv_goto (tgt := 13) hx hb dX4_isWord_66 (by decide) ?_
          exact ih13 _ _ _ _ _ hg hw (lv_sub hl [2, 3, 4, 5, 0] rfl)
        · have hg := it_n hg c_4
          refine lv_iconst (v := 0) hx hb dX4_isWord_61 (by decide) ?_
          exact r_iretz S hr rfl hlk hw.2.2.2.2 hw hg dX4_isWord_62
      intro v4 σ H locs ls hg hw hl
      rw [g_X4_isWord_l13] at hg
      refine lv_iload hx hb dX4_isWord_13 (lv_at hl 4 rfl) ?_
      refine lv_bipush (v := 6) hx hb dX4_isWord_15 (by decide) ?_
      refine lv_icmp_ge (tgt := 69) hx hb dX4_isWord_17 (by decide) (fun c_5 => ?_) (fun c_5 => ?_)
      · have hg := it_p hg c_5
        refine lv_iconst (v := 1) hx hb dX4_isWord_69 (by decide) ?_
        exact r_iretz S hr rfl hlk hw.2.2.2.2 hw hg dX4_isWord_70
      · have hg := it_n hg c_5
        refine lv_iload_n hx hb dX4_isWord_20 rfl (lv_at hl 2 rfl) ?_
        refine lv_iload hx hb dX4_isWord_21 (lv_at hl 4 rfl) ?_
        refine lv_iadd hx hb dX4_isWord_23 ?_
        refine lv_iload_n hx hb dX4_isWord_24 rfl (lv_at hl 3 rfl) ?_
        refine lv_icmp_ge (tgt := 40) hx hb dX4_isWord_25 (by decide) (fun c_6 => ?_) (fun c_6 => ?_)
        · have hg := it_p hg c_6
          refine lv_bipush (v := 32) hx hb dX4_isWord_40 (by decide) ?_
          exact J42 v4 32 _ _ _ _ hg hw (lv_sub hl [0, 1, 2, 3, 4] rfl)
        · have hg := it_n hg c_6
          refine lv_aload_n hx hb dX4_isWord_28 rfl (lv_at hl 0 rfl) ?_
          refine r_getr (C := RX4) (T := TX4) (N := 10) (k' := 31) S hK hw (kX_30 hG).1 (kX_30 hG).2 rfl hinX4 0 (by decide) (o := 1) rfl rfl (hts (.fieldLink RX4 9 "SoupByRank$Tape" "bytes" "[I") (by decide +kernel)) rfl dX4_isWord_29 ?_
          refine lv_iload_n hx hb dX4_isWord_32 rfl (lv_at hl 2 rfl) ?_
          refine lv_iload hx hb dX4_isWord_33 (lv_at hl 4 rfl) ?_
          refine lv_iadd hx hb dX4_isWord_35 ?_
          obtain ⟨h_8, x_7, e_9, hg⟩ := rdA_e hg
          refine r_iald S hK hw (kX_31 hG).1 (kX_31 hG).2 h_8 e_9 dX4_isWord_36 ?_
          refine lv_goto (tgt := 42) hx hb dX4_isWord_37 (by decide) ?_
          exact J42 v4 x_7 _ _ _ _ hg hw (lv_sub hl [0, 1, 2, 3, 4] rfl)
  rw [g_X4_isWord] at hg
  refine lv_iload_n hx hb dX4_isWord_0 rfl (lv_at hl 3 rfl) ?_
  refine lv_iload_n hx hb dX4_isWord_1 rfl (lv_at hl 2 rfl) ?_
  refine lv_isub hx hb dX4_isWord_2 ?_
  refine lv_bipush (v := 6) hx hb dX4_isWord_3 (by decide) ?_
  refine lv_icmp_le (tgt := 10) hx hb dX4_isWord_5 (by decide) (fun c_10 => ?_) (fun c_10 => ?_)
  · have hg := it_p hg c_10
    refine lv_iconst (v := 0) hx hb dX4_isWord_10 (by decide) ?_
    refine lv_istore (lv' := [(4, .int 0), (0, .ref (gAd G 30)), (1, .int a1), (2, .int a2), (3, .int a3)]) hx hb dX4_isWord_11 hl (by decide) rfl (fun ls hl => ?_)
    exact L13 a1 a2 a3 F _ _ _ _ _ hg hw (lv_sub hl [1, 2, 3, 4, 0] rfl)
  · have hg := it_n hg c_10
    refine lv_iconst (v := 0) hx hb dX4_isWord_8 (by decide) ?_
    exact r_iretz S hr rfl hlk hw.2.2.2.2 hw hg dX4_isWord_9
set_option maxHeartbeats 4000000 in
set_option maxRecDepth 100000 in
theorem c_X4_wordFrom (l : Launch) {G : GW} {N : Nat} {ln : Nat → Nat} {cT cS : ClassId} (hG : isX G N ln cT cS) {F sz : Nat} {a1 : Int32} {a2 : Int32} {σ σR : Sg} {r : Int32} (hg : g_X4_wordFrom F N ln a1 a2 σ = some (σR, r)) : Met l yX4_wordFrom wsX4_wordFrom ({ frames := 9, cells := 0, slots := 0, locals := 425 } : Room) (va_Pc [.ref (gAd G 30), .int a1, .int a2] (PX G σ sz)) (QcI G (gA G sz) σR r) 0 0 (gA G sz) := by
  refine metX (by decide) rfl (Nat.le_of_ble_eq_true rfl) ?_
  intro p e s m args below meth c ls S hr hlk hsz hA hK hw hl hmn
  have S : CallFix p m c cX4_wordFrom 4 s args wsX4_wordFrom RX4 := S
  obtain ⟨hx, hb, hml, hown, hts⟩ := id S
  have hl : lv_has ls 4 [(0, .ref (gAd G 30)), (1, .int a1), (2, .int a2)] := hl
  have L2 : ∀ (v1 : Int32) (v2 : Int32) (n2 : Nat) (v3 : Int32) (σ : Sg) (H : Heap) (locs : List Loc) (ls : Array Slot) (hg : g_X4_wordFrom_l2 F N ln v1 v2 n2 v3 σ = some (σR, r)) (hw : XD G (gA G sz) s.heap σ H locs) (hl : lv_has ls 4 [(0, .ref (gAd G 30)), (1, .int v1), (2, .int v2), (3, .int v3)]), W p l e (headSpec wsX4_wordFrom ({ frames := 9, cells := 0, slots := 0, locals := 425 } : Room)).room s m args below meth c H locs 0 0 (MQ below (QcI G (gA G sz) σR r) args s 0 0 (gA G sz)) (F0 m 2 ls []) := by
    intro v1 v2
    intro n2
    induction n2 with
    | zero => intro v3 σ H locs ls hg hw hl; exact no_e hg
    | succ n2 ih2 =>
      intro v3 σ H locs ls hg hw hl
      rw [g_X4_wordFrom_l2] at hg
      refine lv_iload_n hx hb dX4_wordFrom_2 rfl (lv_at hl 3 rfl) ?_
      refine lv_bipush (v := 12) hx hb dX4_wordFrom_3 (by decide) ?_
      refine lv_icmp_ge (tgt := 30) hx hb dX4_wordFrom_5 (by decide) (fun c_1 => ?_) (fun c_1 => ?_)
      · have hg := it_p hg c_1
        refine lv_iconst (v := 1) hx hb dX4_wordFrom_30 (by decide) ?_
        exact r_ireti S hr hlk hw.2.2.2.2 hw hg dX4_wordFrom_31
      · have hg := it_n hg c_1
        refine lv_aload_n hx hb dX4_wordFrom_8 rfl (lv_at hl 0 rfl) ?_
        refine lv_iload_n hx hb dX4_wordFrom_9 rfl (lv_at hl 3 rfl) ?_
        refine lv_iload_n hx hb dX4_wordFrom_10 rfl (lv_at hl 1 rfl) ?_
        refine lv_iload_n hx hb dX4_wordFrom_11 rfl (lv_at hl 2 rfl) ?_
        obtain ⟨s_2, x_3, h_4, hg⟩ := bnI_e hg
        refine r_iV (As := [.int v3, .int v1, .int v2]) (rest := []) S hA hK hw (c_X4_isWord l hG  h_4) (cwV 3 hts gX4_wordFrom_X4_isWord rfl rfl rfl (by decide +kernel) ⟨Nat.le_of_ble_eq_true rfl, Nat.le_of_ble_eq_true rfl⟩) (r_recv hK hw (kX_30 hG).1 (kX_30 hG).2 rfl) rfl hl.1 (Nat.le_of_ble_eq_true rfl) dX4_wordFrom_12 ⟨Nat.zero_le _, Nat.zero_le _⟩ rfl (fun H locs hw => ?_)
        refine lv_if_eq (tgt := 24) hx hb dX4_wordFrom_15 (by decide) (fun c_5 => ?_) (fun c_5 => ?_)
        · have hg := it_p hg c_5
          refine lv_iinc (v := (v3 + 1)) (lv' := [(3, .int (v3 + 1)), (0, .ref (gAd G 30)), (1, .int v1), (2, .int v2)]) hx hb dX4_wordFrom_24 hl (k := 3) rfl rfl (by decide) rfl (fun ls hl => ?_)
          refine lv_goto (tgt := 2) hx hb dX4_wordFrom_27 (by decide) ?_
          exact ih2 _ _ _ _ _ hg hw (lv_sub hl [1, 2, 3, 0] rfl)
        · have hg := it_n hg c_5
          refine lv_sipush (v := 1000) hx hb dX4_wordFrom_18 (by decide) ?_
          refine lv_iload_n hx hb dX4_wordFrom_21 rfl (lv_at hl 3 rfl) ?_
          refine lv_iadd hx hb dX4_wordFrom_22 ?_
          exact r_ireti S hr hlk hw.2.2.2.2 hw hg dX4_wordFrom_23
  rw [g_X4_wordFrom] at hg
  refine lv_iconst (v := 0) hx hb dX4_wordFrom_0 (by decide) ?_
  refine lv_istore_n (lv' := [(3, .int 0), (0, .ref (gAd G 30)), (1, .int a1), (2, .int a2)]) hx hb dX4_wordFrom_1 rfl hl (by decide) rfl (fun ls hl => ?_)
  exact L2 a1 a2 F _ _ _ _ _ hg hw (lv_sub hl [1, 2, 3, 0] rfl)
set_option maxHeartbeats 4000000 in
set_option maxRecDepth 100000 in
theorem c_X4_isDigit (l : Launch) {G : GW} {N : Nat} {ln : Nat → Nat} {cT cS : ClassId} (hG : isX G N ln cT cS) {F sz : Nat} {a0 : Int32} {σ σR : Sg} {r : Int32} (hg : g_X4_isDigit F N ln a0 σ = some (σR, r)) : Met l yX4_isDigit wsX4_isDigit ({ frames := 0, cells := 0, slots := 0, locals := 0 } : Room) (va_Pc [.int a0] (PX G σ sz)) (QcI G (gA G sz) σR r) 0 0 (gA G sz) := by
  refine metX (by decide) rfl (Nat.le_of_ble_eq_true rfl) ?_
  intro p e s m args below meth c ls S hr hlk hsz hA hK hw hl hmn
  have S : CallFix p m c cX4_isDigit 1 s args wsX4_isDigit RX4 := S
  obtain ⟨hx, hb, hml, hown, hts⟩ := id S
  have hl : lv_has ls 1 [(0, .int a0)] := hl
  rw [g_X4_isDigit] at hg
  refine lv_iload_n hx hb dX4_isDigit_0 rfl (lv_at hl 0 rfl) ?_
  refine lv_bipush (v := 48) hx hb dX4_isDigit_1 (by decide) ?_
  refine lv_icmp_lt (tgt := 16) hx hb dX4_isDigit_3 (by decide) (fun c_1 => ?_) (fun c_1 => ?_)
  · have hg := it_p hg c_1
    refine lv_iconst (v := 0) hx hb dX4_isDigit_16 (by decide) ?_
    exact r_iretz S hr rfl hlk hw.2.2.2.2 hw hg dX4_isDigit_17
  · have hg := it_n hg c_1
    refine lv_iload_n hx hb dX4_isDigit_6 rfl (lv_at hl 0 rfl) ?_
    refine lv_bipush (v := 57) hx hb dX4_isDigit_7 (by decide) ?_
    refine lv_icmp_gt (tgt := 16) hx hb dX4_isDigit_9 (by decide) (fun c_2 => ?_) (fun c_2 => ?_)
    · have hg := it_p hg c_2
      refine lv_iconst (v := 0) hx hb dX4_isDigit_16 (by decide) ?_
      exact r_iretz S hr rfl hlk hw.2.2.2.2 hw hg dX4_isDigit_17
    · have hg := it_n hg c_2
      refine lv_iconst (v := 1) hx hb dX4_isDigit_12 (by decide) ?_
      refine lv_goto (tgt := 17) hx hb dX4_isDigit_13 (by decide) ?_
      exact r_iretz S hr rfl hlk hw.2.2.2.2 hw hg dX4_isDigit_17
set_option maxHeartbeats 4000000 in
set_option maxRecDepth 100000 in
theorem c_X4_numberFrom (l : Launch) {G : GW} {N : Nat} {ln : Nat → Nat} {cT cS : ClassId} (hG : isX G N ln cT cS) {F sz : Nat} {a1 : Int32} {a2 : Int32} {σ σR : Sg} {r : Int32} (hg : g_X4_numberFrom F N ln a1 a2 σ = some (σR, r)) : Met l yX4_numberFrom wsX4_numberFrom ({ frames := 0, cells := 0, slots := 0, locals := 0 } : Room) (va_Pc [.ref (gAd G 30), .int a1, .int a2] (PX G σ sz)) (QcI G (gA G sz) σR r) 0 0 (gA G sz) := by
  refine metX (by decide) rfl (Nat.le_of_ble_eq_true rfl) ?_
  intro p e s m args below meth c ls S hr hlk hsz hA hK hw hl hmn
  have S : CallFix p m c cX4_numberFrom 4 s args wsX4_numberFrom RX4 := S
  obtain ⟨hx, hb, hml, hown, hts⟩ := id S
  have hl : lv_has ls 4 [(0, .ref (gAd G 30)), (1, .int a1), (2, .int a2)] := hl
  have hinX4 : ∀ w ∈ wsX40, w ∈ wsX4_numberFrom := by decide +kernel
  have L16 : ∀ (v2 : Int32) (n16 : Nat) (v3 : Int32) (σ : Sg) (H : Heap) (locs : List Loc) (ls : Array Slot) (hg : g_X4_numberFrom_l16 F N ln v2 n16 v3 σ = some (σR, r)) (hw : XD G (gA G sz) s.heap σ H locs) (hl : lv_has ls 4 [(0, .ref (gAd G 30)), (2, .int v2), (3, .int v3)]), W p l e (headSpec wsX4_numberFrom ({ frames := 0, cells := 0, slots := 0, locals := 0 } : Room)).room s m args below meth c H locs 0 0 (MQ below (QcI G (gA G sz) σR r) args s 0 0 (gA G sz)) (F0 m 16 ls []) := by
    intro v2
    intro n16
    induction n16 with
    | zero => intro v3 σ H locs ls hg hw hl; exact no_e hg
    | succ n16 ih16 =>
      intro v3 σ H locs ls hg hw hl
      rw [g_X4_numberFrom_l16] at hg
      refine lv_iload_n hx hb dX4_numberFrom_16 rfl (lv_at hl 2 rfl) ?_
      refine lv_iload_n hx hb dX4_numberFrom_17 rfl (lv_at hl 1 rfl) ?_
      refine lv_icmp_ge (tgt := 48) hx hb dX4_numberFrom_18 (by decide) (fun c_1 => ?_) (fun c_1 => ?_)
      · have hg := it_p hg c_1
        refine lv_iconst (v := 2) hx hb dX4_numberFrom_48 (by decide) ?_
        exact r_ireti S hr hlk hw.2.2.2.2 hw hg dX4_numberFrom_49
      · have hg := it_n hg c_1
        refine lv_aload_n hx hb dX4_numberFrom_21 rfl (lv_at hl 0 rfl) ?_
        refine lv_bipush (v := 10) hx hb dX4_numberFrom_22 (by decide) ?_
        refine lv_aload_n hx hb dX4_numberFrom_24 rfl (lv_at hl 0 rfl) ?_
        refine r_get (C := RX4) (T := TX4) (N := 10) S hK hw (kX_30 hG).1 (kX_30 hG).2 rfl hinX4 8 (by decide) rfl (hts (.fieldLink RX4 95 "SoupByRank$Tape" "number" "I") (by decide +kernel)) rfl dX4_numberFrom_25 ?_
        refine lv_imul hx hb dX4_numberFrom_28 ?_
        refine lv_aload_n hx hb dX4_numberFrom_29 rfl (lv_at hl 0 rfl) ?_
        refine r_getr (C := RX4) (T := TX4) (N := 10) (k' := 31) S hK hw (kX_30 hG).1 (kX_30 hG).2 rfl hinX4 0 (by decide) (o := 1) rfl rfl (hts (.fieldLink RX4 9 "SoupByRank$Tape" "bytes" "[I") (by decide +kernel)) rfl dX4_numberFrom_30 ?_
        refine lv_iload_n hx hb dX4_numberFrom_33 rfl (lv_at hl 2 rfl) ?_
        obtain ⟨h_3, x_2, e_4, hg⟩ := rdA_e hg
        refine r_iald S hK hw (kX_31 hG).1 (kX_31 hG).2 h_3 e_4 dX4_numberFrom_34 ?_
        refine lv_iadd hx hb dX4_numberFrom_35 ?_
        refine lv_bipush (v := 48) hx hb dX4_numberFrom_36 (by decide) ?_
        refine lv_isub hx hb dX4_numberFrom_38 ?_
        obtain ⟨s_5, e_6, hg⟩ := wrF_e hg
        refine r_put (C := RX4) (T := TX4) (N := 10) S hK hw (kX_30 hG).1 (kX_30 hG).2 rfl hinX4 tyX4_ok nmX4 8 (by decide) rfl rfl rfl rfl (hts (.fieldLink RX4 95 "SoupByRank$Tape" "number" "I") (by decide +kernel)) rfl e_6 dX4_numberFrom_39 (fun H locs hw => ?_)
        refine lv_iinc (v := (v3 + 1)) (lv' := [(3, .int (v3 + 1)), (0, .ref (gAd G 30)), (2, .int v2)]) hx hb dX4_numberFrom_42 hl (k := 2) rfl rfl (by decide) rfl (fun ls hl => ?_)
        refine lv_goto (tgt := 16) hx hb dX4_numberFrom_45 (by decide) ?_
        exact ih16 _ _ _ _ _ hg hw (lv_sub hl [1, 2, 0] rfl)
  rw [g_X4_numberFrom] at hg
  refine lv_iload_n hx hb dX4_numberFrom_0 rfl (lv_at hl 2 rfl) ?_
  refine lv_iload_n hx hb dX4_numberFrom_1 rfl (lv_at hl 1 rfl) ?_
  refine lv_isub hx hb dX4_numberFrom_2 ?_
  refine lv_iconst (v := 4) hx hb dX4_numberFrom_3 (by decide) ?_
  refine lv_icmp_le (tgt := 9) hx hb dX4_numberFrom_4 (by decide) (fun c_7 => ?_) (fun c_7 => ?_)
  · have hg := it_p hg c_7
    refine lv_aload_n hx hb dX4_numberFrom_9 rfl (lv_at hl 0 rfl) ?_
    refine lv_iconst (v := 0) hx hb dX4_numberFrom_10 (by decide) ?_
    obtain ⟨s_8, e_9, hg⟩ := wrF_e hg
    refine r_put (C := RX4) (T := TX4) (N := 10) S hK hw (kX_30 hG).1 (kX_30 hG).2 rfl hinX4 tyX4_ok nmX4 8 (by decide) rfl rfl rfl rfl (hts (.fieldLink RX4 95 "SoupByRank$Tape" "number" "I") (by decide +kernel)) rfl e_9 dX4_numberFrom_11 (fun H locs hw => ?_)
    refine lv_iload_n hx hb dX4_numberFrom_14 rfl (lv_at hl 1 rfl) ?_
    refine lv_istore_n (lv' := [(3, .int a1), (0, .ref (gAd G 30)), (1, .int a1), (2, .int a2)]) hx hb dX4_numberFrom_15 rfl hl (by decide) rfl (fun ls hl => ?_)
    exact L16 a2 F _ _ _ _ _ hg hw (lv_sub hl [1, 3, 0] rfl)
  · have hg := it_n hg c_7
    refine lv_iconst (v := 1) hx hb dX4_numberFrom_7 (by decide) ?_
    exact r_ireti S hr hlk hw.2.2.2.2 hw hg dX4_numberFrom_8
set_option maxHeartbeats 4000000 in
set_option maxRecDepth 100000 in
theorem c_X4_isSign (l : Launch) {G : GW} {N : Nat} {ln : Nat → Nat} {cT cS : ClassId} (hG : isX G N ln cT cS) {F sz : Nat} {a0 : Int32} {σ σR : Sg} {r : Int32} (hg : g_X4_isSign F N ln a0 σ = some (σR, r)) : Met l yX4_isSign wsX4_isSign ({ frames := 8, cells := 0, slots := 0, locals := 400 } : Room) (va_Pc [.int a0] (PX G σ sz)) (QcI G (gA G sz) σR r) 0 0 (gA G sz) := by
  refine metX (by decide) rfl (Nat.le_of_ble_eq_true rfl) ?_
  intro p e s m args below meth c ls S hr hlk hsz hA hK hw hl hmn
  have S : CallFix p m c cX4_isSign 1 s args wsX4_isSign RX4 := S
  obtain ⟨hx, hb, hml, hown, hts⟩ := id S
  have hl : lv_has ls 1 [(0, .int a0)] := hl
  rw [g_X4_isSign] at hg
  refine va_ldcS hx hb hown hK.2.2.2.2.2.2.1 dX4_isSign_0 ?_
  refine lv_iload_n hx hb dX4_isSign_2 rfl (lv_at hl 0 rfl) ?_
  refine lv_i2c (v := (UInt32.toInt32 (Int32.toUInt32 a0 % 65536))) hx hb dX4_isSign_3 rfl ?_
  refine r_iV (As := [.int (UInt32.toInt32 (Int32.toUInt32 a0 % 65536))]) (rest := []) S hA hK hw (j_indexOf l (by decide)) (cwV 1 hts gX4_isSign_J0_indexOf_0f7a4 rfl rfl rfl (by decide +kernel) ⟨Nat.le_of_ble_eq_true rfl, Nat.le_of_ble_eq_true rfl⟩) (vk_recv hK.2.2.2.2.1 (by decide) hw.2.2) rfl hl.1 (Nat.le_of_ble_eq_true rfl) dX4_isSign_4 ⟨Nat.zero_le _, Nat.zero_le _⟩ rfl (fun H locs hw => ?_)
  refine lv_if_lt (tgt := 14) hx hb dX4_isSign_7 (by decide) (fun c_2 => ?_) (fun c_2 => ?_)
  · have hg := it_p hg c_2
    refine lv_iconst (v := 0) hx hb dX4_isSign_14 (by decide) ?_
    exact r_iretz S hr rfl hlk hw.2.2.2.2 hw hg dX4_isSign_15
  · have hg := it_n hg c_2
    refine lv_iconst (v := 1) hx hb dX4_isSign_10 (by decide) ?_
    refine lv_goto (tgt := 15) hx hb dX4_isSign_11 (by decide) ?_
    exact r_iretz S hr rfl hlk hw.2.2.2.2 hw hg dX4_isSign_15
set_option maxHeartbeats 4000000 in
set_option maxRecDepth 100000 in
theorem c_X4_advance (l : Launch) {G : GW} {N : Nat} {ln : Nat → Nat} {cT cS : ClassId} (hG : isX G N ln cT cS) {F sz : Nat} {σ σR : Sg} (hg : g_X4_advance F N ln σ = some σR) : Met l yX4_advance wsX4_advance ({ frames := 10, cells := 0, slots := 0, locals := 448 } : Room) (va_Pc [.ref (gAd G 30)] (PX G σ sz)) (QcV G (gA G sz) σR) 0 0 (gA G sz) := by
  refine metX (by decide) rfl (Nat.le_of_ble_eq_true rfl) ?_
  intro p e s m args below meth c ls S hr hlk hsz hA hK hw hl hmn
  have S : CallFix p m c cX4_advance 1 s args wsX4_advance RX4 := S
  obtain ⟨hx, hb, hml, hown, hts⟩ := id S
  have hl : lv_has ls 1 [(0, .ref (gAd G 30))] := hl
  have hinX4 : ∀ w ∈ wsX40, w ∈ wsX4_advance := by decide +kernel
  have J250 : ∀ (u0 : Int32) (σ : Sg) (H : Heap) (locs : List Loc) (ls : Array Slot) (hg : g_X4_advance_b250 F N ln u0 σ = some σR) (hw : XD G (gA G sz) s.heap σ H locs) (hl : lv_has ls 1 [(0, .ref (gAd G 30))]), W p l e (headSpec wsX4_advance ({ frames := 10, cells := 0, slots := 0, locals := 448 } : Room)).room s m args below meth c H locs 0 0 (MQ below (QcV G (gA G sz) σR) args s 0 0 (gA G sz)) (F0 m 250 ls [.int u0, .ref (gAd G 30)]) := by
    intro u0 σ H locs ls hg hw hl
    rw [g_X4_advance_b250] at hg
    obtain ⟨s_1, e_2, hg⟩ := wrF_e hg
    refine r_put (C := RX4) (T := TX4) (N := 10) S hK hw (kX_30 hG).1 (kX_30 hG).2 rfl hinX4 tyX4_ok nmX4 6 (by decide) rfl rfl rfl rfl (hts (.fieldLink RX4 44 "SoupByRank$Tape" "token" "I") (by decide +kernel)) rfl e_2 dX4_advance_250 (fun H locs hw => ?_)
    refine lv_aload_n hx hb dX4_advance_253 rfl (lv_at hl 0 rfl) ?_
    refine lv_dup hx hb dX4_advance_254 rfl ?_
    refine r_get (C := RX4) (T := TX4) (N := 10) S hK hw (kX_30 hG).1 (kX_30 hG).2 rfl hinX4 5 (by decide) rfl (hts (.fieldLink RX4 28 "SoupByRank$Tape" "place" "I") (by decide +kernel)) rfl dX4_advance_255 ?_
    refine lv_iconst (v := 1) hx hb dX4_advance_258 (by decide) ?_
    refine lv_iadd hx hb dX4_advance_259 ?_
    obtain ⟨s_3, e_4, hg⟩ := wrF_e hg
    refine r_put (C := RX4) (T := TX4) (N := 10) S hK hw (kX_30 hG).1 (kX_30 hG).2 rfl hinX4 tyX4_ok nmX4 5 (by decide) rfl rfl rfl rfl (hts (.fieldLink RX4 28 "SoupByRank$Tape" "place" "I") (by decide +kernel)) rfl e_4 dX4_advance_260 (fun H locs hw => ?_)
    exact r_vreti S hr hlk hw.2.2.2.2 hw hg dX4_advance_263
  have J202 : ∀ (σ : Sg) (H : Heap) (locs : List Loc) (ls : Array Slot) (hg : g_X4_advance_b202 F N ln σ = some σR) (hw : XD G (gA G sz) s.heap σ H locs) (hl : lv_has ls 1 [(0, .ref (gAd G 30))]), W p l e (headSpec wsX4_advance ({ frames := 10, cells := 0, slots := 0, locals := 448 } : Room)).room s m args below meth c H locs 0 0 (MQ below (QcV G (gA G sz) σR) args s 0 0 (gA G sz)) (F0 m 202 ls []) := by
    intro  σ H locs ls hg hw hl
    rw [g_X4_advance_b202] at hg
    refine lv_aload_n hx hb dX4_advance_202 rfl (lv_at hl 0 rfl) ?_
    refine lv_aload_n hx hb dX4_advance_203 rfl (lv_at hl 0 rfl) ?_
    refine lv_aload_n hx hb dX4_advance_204 rfl (lv_at hl 0 rfl) ?_
    refine r_get (C := RX4) (T := TX4) (N := 10) S hK hw (kX_30 hG).1 (kX_30 hG).2 rfl hinX4 7 (by decide) rfl (hts (.fieldLink RX4 98 "SoupByRank$Tape" "tokenPlace" "I") (by decide +kernel)) rfl dX4_advance_205 ?_
    refine lv_aload_n hx hb dX4_advance_208 rfl (lv_at hl 0 rfl) ?_
    refine r_get (C := RX4) (T := TX4) (N := 10) S hK hw (kX_30 hG).1 (kX_30 hG).2 rfl hinX4 5 (by decide) rfl (hts (.fieldLink RX4 28 "SoupByRank$Tape" "place" "I") (by decide +kernel)) rfl dX4_advance_209 ?_
    obtain ⟨s_5, x_6, h_7, hg⟩ := bnI_e hg
    refine r_iV (As := [.int (σ 30 7), .int (σ 30 5)]) (rest := [.ref (gAd G 30)]) S hA hK hw (c_X4_numberFrom l hG  h_7) (cwV 2 hts gX4_advance_X4_numberFrom rfl rfl rfl (by decide +kernel) ⟨Nat.le_of_ble_eq_true rfl, Nat.le_of_ble_eq_true rfl⟩) (r_recv hK hw (kX_30 hG).1 (kX_30 hG).2 rfl) rfl hl.1 (Nat.le_of_ble_eq_true rfl) dX4_advance_212 ⟨Nat.zero_le _, Nat.zero_le _⟩ rfl (fun H locs hw => ?_)
    obtain ⟨s_8, e_9, hg⟩ := wrF_e hg
    refine r_put (C := RX4) (T := TX4) (N := 10) S hK hw (kX_30 hG).1 (kX_30 hG).2 rfl hinX4 tyX4_ok nmX4 6 (by decide) rfl rfl rfl rfl (hts (.fieldLink RX4 44 "SoupByRank$Tape" "token" "I") (by decide +kernel)) rfl e_9 dX4_advance_215 (fun H locs hw => ?_)
    refine lv_goto (tgt := 263) hx hb dX4_advance_218 (by decide) ?_
    exact r_vreti S hr hlk hw.2.2.2.2 hw hg dX4_advance_263
  have L163 : ∀ (n163 : Nat) (σ : Sg) (H : Heap) (locs : List Loc) (ls : Array Slot) (hg : g_X4_advance_l163 F N ln n163 σ = some σR) (hw : XD G (gA G sz) s.heap σ H locs) (hl : lv_has ls 1 [(0, .ref (gAd G 30))]), W p l e (headSpec wsX4_advance ({ frames := 10, cells := 0, slots := 0, locals := 448 } : Room)).room s m args below meth c H locs 0 0 (MQ below (QcV G (gA G sz) σR) args s 0 0 (gA G sz)) (F0 m 163 ls []) := by
    intro n163
    induction n163 with
    | zero => intro  σ H locs ls hg hw hl; exact no_e hg
    | succ n163 ih163 =>
      intro  σ H locs ls hg hw hl
      rw [g_X4_advance_l163] at hg
      refine lv_aload_n hx hb dX4_advance_163 rfl (lv_at hl 0 rfl) ?_
      refine r_get (C := RX4) (T := TX4) (N := 10) S hK hw (kX_30 hG).1 (kX_30 hG).2 rfl hinX4 5 (by decide) rfl (hts (.fieldLink RX4 28 "SoupByRank$Tape" "place" "I") (by decide +kernel)) rfl dX4_advance_164 ?_
      refine lv_aload_n hx hb dX4_advance_167 rfl (lv_at hl 0 rfl) ?_
      refine r_get (C := RX4) (T := TX4) (N := 10) S hK hw (kX_30 hG).1 (kX_30 hG).2 rfl hinX4 1 (by decide) rfl (hts (.fieldLink RX4 21 "SoupByRank$Tape" "size" "I") (by decide +kernel)) rfl dX4_advance_168 ?_
      refine lv_icmp_ge (tgt := 202) hx hb dX4_advance_171 (by decide) (fun c_10 => ?_) (fun c_10 => ?_)
      · have hg := it_p hg c_10
        exact J202 _ _ _ _ hg hw (lv_sub hl [0] rfl)
      · have hg := it_n hg c_10
        refine lv_aload_n hx hb dX4_advance_174 rfl (lv_at hl 0 rfl) ?_
        refine r_getr (C := RX4) (T := TX4) (N := 10) (k' := 31) S hK hw (kX_30 hG).1 (kX_30 hG).2 rfl hinX4 0 (by decide) (o := 1) rfl rfl (hts (.fieldLink RX4 9 "SoupByRank$Tape" "bytes" "[I") (by decide +kernel)) rfl dX4_advance_175 ?_
        refine lv_aload_n hx hb dX4_advance_178 rfl (lv_at hl 0 rfl) ?_
        refine r_get (C := RX4) (T := TX4) (N := 10) S hK hw (kX_30 hG).1 (kX_30 hG).2 rfl hinX4 5 (by decide) rfl (hts (.fieldLink RX4 28 "SoupByRank$Tape" "place" "I") (by decide +kernel)) rfl dX4_advance_179 ?_
        obtain ⟨h_12, x_11, e_13, hg⟩ := rdA_e hg
        refine r_iald S hK hw (kX_31 hG).1 (kX_31 hG).2 h_12 e_13 dX4_advance_182 ?_
        obtain ⟨s_14, x_15, h_16, hg⟩ := bnI_e hg
        refine r_iS (As := [.int x_11]) (rest := []) S hA hK hw (c_X4_isDigit l hG  h_16) (va_cwS 1 hts gX4_advance_X4_isDigit rfl rfl rfl (by decide +kernel) ⟨Nat.le_of_ble_eq_true rfl, Nat.le_of_ble_eq_true rfl⟩) rfl hl.1 (Nat.le_of_ble_eq_true rfl) dX4_advance_183 ⟨Nat.zero_le _, Nat.zero_le _⟩ rfl (fun H locs hw => ?_)
        refine lv_if_eq (tgt := 202) hx hb dX4_advance_186 (by decide) (fun c_17 => ?_) (fun c_17 => ?_)
        · have hg := it_p hg c_17
          exact J202 _ _ _ _ hg hw (lv_sub hl [0] rfl)
        · have hg := it_n hg c_17
          refine lv_aload_n hx hb dX4_advance_189 rfl (lv_at hl 0 rfl) ?_
          refine lv_dup hx hb dX4_advance_190 rfl ?_
          refine r_get (C := RX4) (T := TX4) (N := 10) S hK hw (kX_30 hG).1 (kX_30 hG).2 rfl hinX4 5 (by decide) rfl (hts (.fieldLink RX4 28 "SoupByRank$Tape" "place" "I") (by decide +kernel)) rfl dX4_advance_191 ?_
          refine lv_iconst (v := 1) hx hb dX4_advance_194 (by decide) ?_
          refine lv_iadd hx hb dX4_advance_195 ?_
          obtain ⟨s_18, e_19, hg⟩ := wrF_e hg
          refine r_put (C := RX4) (T := TX4) (N := 10) S hK hw (kX_30 hG).1 (kX_30 hG).2 rfl hinX4 tyX4_ok nmX4 5 (by decide) rfl rfl rfl rfl (hts (.fieldLink RX4 28 "SoupByRank$Tape" "place" "I") (by decide +kernel)) rfl e_19 dX4_advance_196 (fun H locs hw => ?_)
          refine lv_goto (tgt := 163) hx hb dX4_advance_199 (by decide) ?_
          exact ih163 _ _ _ _ hg hw (lv_sub hl [0] rfl)
  have J129 : ∀ (σ : Sg) (H : Heap) (locs : List Loc) (ls : Array Slot) (hg : g_X4_advance_b129 F N ln σ = some σR) (hw : XD G (gA G sz) s.heap σ H locs) (hl : lv_has ls 1 [(0, .ref (gAd G 30))]), W p l e (headSpec wsX4_advance ({ frames := 10, cells := 0, slots := 0, locals := 448 } : Room)).room s m args below meth c H locs 0 0 (MQ below (QcV G (gA G sz) σR) args s 0 0 (gA G sz)) (F0 m 129 ls []) := by
    intro  σ H locs ls hg hw hl
    rw [g_X4_advance_b129] at hg
    refine lv_aload_n hx hb dX4_advance_129 rfl (lv_at hl 0 rfl) ?_
    refine lv_aload_n hx hb dX4_advance_130 rfl (lv_at hl 0 rfl) ?_
    refine lv_aload_n hx hb dX4_advance_131 rfl (lv_at hl 0 rfl) ?_
    refine r_get (C := RX4) (T := TX4) (N := 10) S hK hw (kX_30 hG).1 (kX_30 hG).2 rfl hinX4 7 (by decide) rfl (hts (.fieldLink RX4 98 "SoupByRank$Tape" "tokenPlace" "I") (by decide +kernel)) rfl dX4_advance_132 ?_
    refine lv_aload_n hx hb dX4_advance_135 rfl (lv_at hl 0 rfl) ?_
    refine r_get (C := RX4) (T := TX4) (N := 10) S hK hw (kX_30 hG).1 (kX_30 hG).2 rfl hinX4 5 (by decide) rfl (hts (.fieldLink RX4 28 "SoupByRank$Tape" "place" "I") (by decide +kernel)) rfl dX4_advance_136 ?_
    obtain ⟨s_20, x_21, h_22, hg⟩ := bnI_e hg
    refine r_iV (As := [.int (σ 30 7), .int (σ 30 5)]) (rest := [.ref (gAd G 30)]) S hA hK hw (c_X4_wordFrom l hG  h_22) (cwV 2 hts gX4_advance_X4_wordFrom rfl rfl rfl (by decide +kernel) ⟨Nat.le_of_ble_eq_true rfl, Nat.le_of_ble_eq_true rfl⟩) (r_recv hK hw (kX_30 hG).1 (kX_30 hG).2 rfl) rfl hl.1 (Nat.le_of_ble_eq_true rfl) dX4_advance_139 ⟨Nat.zero_le _, Nat.zero_le _⟩ rfl (fun H locs hw => ?_)
    obtain ⟨s_23, e_24, hg⟩ := wrF_e hg
    refine r_put (C := RX4) (T := TX4) (N := 10) S hK hw (kX_30 hG).1 (kX_30 hG).2 rfl hinX4 tyX4_ok nmX4 6 (by decide) rfl rfl rfl rfl (hts (.fieldLink RX4 44 "SoupByRank$Tape" "token" "I") (by decide +kernel)) rfl e_24 dX4_advance_142 (fun H locs hw => ?_)
    refine lv_goto (tgt := 263) hx hb dX4_advance_145 (by decide) ?_
    exact r_vreti S hr hlk hw.2.2.2.2 hw hg dX4_advance_263
  have L90 : ∀ (n90 : Nat) (σ : Sg) (H : Heap) (locs : List Loc) (ls : Array Slot) (hg : g_X4_advance_l90 F N ln n90 σ = some σR) (hw : XD G (gA G sz) s.heap σ H locs) (hl : lv_has ls 1 [(0, .ref (gAd G 30))]), W p l e (headSpec wsX4_advance ({ frames := 10, cells := 0, slots := 0, locals := 448 } : Room)).room s m args below meth c H locs 0 0 (MQ below (QcV G (gA G sz) σR) args s 0 0 (gA G sz)) (F0 m 90 ls []) := by
    intro n90
    induction n90 with
    | zero => intro  σ H locs ls hg hw hl; exact no_e hg
    | succ n90 ih90 =>
      intro  σ H locs ls hg hw hl
      rw [g_X4_advance_l90] at hg
      refine lv_aload_n hx hb dX4_advance_90 rfl (lv_at hl 0 rfl) ?_
      refine r_get (C := RX4) (T := TX4) (N := 10) S hK hw (kX_30 hG).1 (kX_30 hG).2 rfl hinX4 5 (by decide) rfl (hts (.fieldLink RX4 28 "SoupByRank$Tape" "place" "I") (by decide +kernel)) rfl dX4_advance_91 ?_
      refine lv_aload_n hx hb dX4_advance_94 rfl (lv_at hl 0 rfl) ?_
      refine r_get (C := RX4) (T := TX4) (N := 10) S hK hw (kX_30 hG).1 (kX_30 hG).2 rfl hinX4 1 (by decide) rfl (hts (.fieldLink RX4 21 "SoupByRank$Tape" "size" "I") (by decide +kernel)) rfl dX4_advance_95 ?_
      refine lv_icmp_ge (tgt := 129) hx hb dX4_advance_98 (by decide) (fun c_25 => ?_) (fun c_25 => ?_)
      · have hg := it_p hg c_25
        exact J129 _ _ _ _ hg hw (lv_sub hl [0] rfl)
      · have hg := it_n hg c_25
        refine lv_aload_n hx hb dX4_advance_101 rfl (lv_at hl 0 rfl) ?_
        refine r_getr (C := RX4) (T := TX4) (N := 10) (k' := 31) S hK hw (kX_30 hG).1 (kX_30 hG).2 rfl hinX4 0 (by decide) (o := 1) rfl rfl (hts (.fieldLink RX4 9 "SoupByRank$Tape" "bytes" "[I") (by decide +kernel)) rfl dX4_advance_102 ?_
        refine lv_aload_n hx hb dX4_advance_105 rfl (lv_at hl 0 rfl) ?_
        refine r_get (C := RX4) (T := TX4) (N := 10) S hK hw (kX_30 hG).1 (kX_30 hG).2 rfl hinX4 5 (by decide) rfl (hts (.fieldLink RX4 28 "SoupByRank$Tape" "place" "I") (by decide +kernel)) rfl dX4_advance_106 ?_
        obtain ⟨h_27, x_26, e_28, hg⟩ := rdA_e hg
        refine r_iald S hK hw (kX_31 hG).1 (kX_31 hG).2 h_27 e_28 dX4_advance_109 ?_
        obtain ⟨s_29, x_30, h_31, hg⟩ := bnI_e hg
        refine r_iS (As := [.int x_26]) (rest := []) S hA hK hw (c_X4_isLetter l hG  h_31) (va_cwS 1 hts gX4_advance_X4_isLetter rfl rfl rfl (by decide +kernel) ⟨Nat.le_of_ble_eq_true rfl, Nat.le_of_ble_eq_true rfl⟩) rfl hl.1 (Nat.le_of_ble_eq_true rfl) dX4_advance_110 ⟨Nat.zero_le _, Nat.zero_le _⟩ rfl (fun H locs hw => ?_)
        refine lv_if_eq (tgt := 129) hx hb dX4_advance_113 (by decide) (fun c_32 => ?_) (fun c_32 => ?_)
        · have hg := it_p hg c_32
          exact J129 _ _ _ _ hg hw (lv_sub hl [0] rfl)
        · have hg := it_n hg c_32
          refine lv_aload_n hx hb dX4_advance_116 rfl (lv_at hl 0 rfl) ?_
          refine lv_dup hx hb dX4_advance_117 rfl ?_
          refine r_get (C := RX4) (T := TX4) (N := 10) S hK hw (kX_30 hG).1 (kX_30 hG).2 rfl hinX4 5 (by decide) rfl (hts (.fieldLink RX4 28 "SoupByRank$Tape" "place" "I") (by decide +kernel)) rfl dX4_advance_118 ?_
          refine lv_iconst (v := 1) hx hb dX4_advance_121 (by decide) ?_
          refine lv_iadd hx hb dX4_advance_122 ?_
          obtain ⟨s_33, e_34, hg⟩ := wrF_e hg
          refine r_put (C := RX4) (T := TX4) (N := 10) S hK hw (kX_30 hG).1 (kX_30 hG).2 rfl hinX4 tyX4_ok nmX4 5 (by decide) rfl rfl rfl rfl (hts (.fieldLink RX4 28 "SoupByRank$Tape" "place" "I") (by decide +kernel)) rfl e_34 dX4_advance_123 (fun H locs hw => ?_)
          refine lv_goto (tgt := 90) hx hb dX4_advance_126 (by decide) ?_
          exact ih90 _ _ _ _ hg hw (lv_sub hl [0] rfl)
  have J48 : ∀ (σ : Sg) (H : Heap) (locs : List Loc) (ls : Array Slot) (hg : g_X4_advance_b48 F N ln σ = some σR) (hw : XD G (gA G sz) s.heap σ H locs) (hl : lv_has ls 1 [(0, .ref (gAd G 30))]), W p l e (headSpec wsX4_advance ({ frames := 10, cells := 0, slots := 0, locals := 448 } : Room)).room s m args below meth c H locs 0 0 (MQ below (QcV G (gA G sz) σR) args s 0 0 (gA G sz)) (F0 m 48 ls []) := by
    intro  σ H locs ls hg hw hl
    rw [g_X4_advance_b48] at hg
    refine lv_aload_n hx hb dX4_advance_48 rfl (lv_at hl 0 rfl) ?_
    refine lv_aload_n hx hb dX4_advance_49 rfl (lv_at hl 0 rfl) ?_
    refine r_get (C := RX4) (T := TX4) (N := 10) S hK hw (kX_30 hG).1 (kX_30 hG).2 rfl hinX4 5 (by decide) rfl (hts (.fieldLink RX4 28 "SoupByRank$Tape" "place" "I") (by decide +kernel)) rfl dX4_advance_50 ?_
    obtain ⟨s_35, e_36, hg⟩ := wrF_e hg
    refine r_put (C := RX4) (T := TX4) (N := 10) S hK hw (kX_30 hG).1 (kX_30 hG).2 rfl hinX4 tyX4_ok nmX4 7 (by decide) rfl rfl rfl rfl (hts (.fieldLink RX4 98 "SoupByRank$Tape" "tokenPlace" "I") (by decide +kernel)) rfl e_36 dX4_advance_53 (fun H locs hw => ?_)
    refine lv_aload_n hx hb dX4_advance_56 rfl (lv_at hl 0 rfl) ?_
    refine r_get (C := RX4) (T := TX4) (N := 10) S hK hw (kX_30 hG).1 (kX_30 hG).2 rfl hinX4 5 (by decide) rfl (hts (.fieldLink RX4 28 "SoupByRank$Tape" "place" "I") (by decide +kernel)) rfl dX4_advance_57 ?_
    refine lv_aload_n hx hb dX4_advance_60 rfl (lv_at hl 0 rfl) ?_
    refine r_get (C := RX4) (T := TX4) (N := 10) S hK hw (kX_30 hG).1 (kX_30 hG).2 rfl hinX4 1 (by decide) rfl (hts (.fieldLink RX4 21 "SoupByRank$Tape" "size" "I") (by decide +kernel)) rfl dX4_advance_61 ?_
    refine lv_icmp_lt (tgt := 75) hx hb dX4_advance_64 (by decide) (fun c_37 => ?_) (fun c_37 => ?_)
    · have hg := it_p hg c_37
      refine lv_aload_n hx hb dX4_advance_75 rfl (lv_at hl 0 rfl) ?_
      refine r_getr (C := RX4) (T := TX4) (N := 10) (k' := 31) S hK hw (kX_30 hG).1 (kX_30 hG).2 rfl hinX4 0 (by decide) (o := 1) rfl rfl (hts (.fieldLink RX4 9 "SoupByRank$Tape" "bytes" "[I") (by decide +kernel)) rfl dX4_advance_76 ?_
      refine lv_aload_n hx hb dX4_advance_79 rfl (lv_at hl 0 rfl) ?_
      refine r_get (C := RX4) (T := TX4) (N := 10) S hK hw (kX_30 hG).1 (kX_30 hG).2 rfl hinX4 5 (by decide) rfl (hts (.fieldLink RX4 28 "SoupByRank$Tape" "place" "I") (by decide +kernel)) rfl dX4_advance_80 ?_
      obtain ⟨h_39, x_38, e_40, hg⟩ := rdA_e hg
      refine r_iald S hK hw (kX_31 hG).1 (kX_31 hG).2 h_39 e_40 dX4_advance_83 ?_
      obtain ⟨s_41, x_42, h_43, hg⟩ := bnI_e hg
      refine r_iS (As := [.int x_38]) (rest := []) S hA hK hw (c_X4_isLetter l hG  h_43) (va_cwS 1 hts gX4_advance_X4_isLetter rfl rfl rfl (by decide +kernel) ⟨Nat.le_of_ble_eq_true rfl, Nat.le_of_ble_eq_true rfl⟩) rfl hl.1 (Nat.le_of_ble_eq_true rfl) dX4_advance_84 ⟨Nat.zero_le _, Nat.zero_le _⟩ rfl (fun H locs hw => ?_)
      refine lv_if_eq (tgt := 148) hx hb dX4_advance_87 (by decide) (fun c_44 => ?_) (fun c_44 => ?_)
      · have hg := it_p hg c_44
        refine lv_aload_n hx hb dX4_advance_148 rfl (lv_at hl 0 rfl) ?_
        refine r_getr (C := RX4) (T := TX4) (N := 10) (k' := 31) S hK hw (kX_30 hG).1 (kX_30 hG).2 rfl hinX4 0 (by decide) (o := 1) rfl rfl (hts (.fieldLink RX4 9 "SoupByRank$Tape" "bytes" "[I") (by decide +kernel)) rfl dX4_advance_149 ?_
        refine lv_aload_n hx hb dX4_advance_152 rfl (lv_at hl 0 rfl) ?_
        refine r_get (C := RX4) (T := TX4) (N := 10) S hK hw (kX_30 hG).1 (kX_30 hG).2 rfl hinX4 5 (by decide) rfl (hts (.fieldLink RX4 28 "SoupByRank$Tape" "place" "I") (by decide +kernel)) rfl dX4_advance_153 ?_
        obtain ⟨h_46, x_45, e_47, hg⟩ := rdA_e hg
        refine r_iald S hK hw (kX_31 hG).1 (kX_31 hG).2 h_46 e_47 dX4_advance_156 ?_
        obtain ⟨s_48, x_49, h_50, hg⟩ := bnI_e hg
        refine r_iS (As := [.int x_45]) (rest := []) S hA hK hw (c_X4_isDigit l hG  h_50) (va_cwS 1 hts gX4_advance_X4_isDigit rfl rfl rfl (by decide +kernel) ⟨Nat.le_of_ble_eq_true rfl, Nat.le_of_ble_eq_true rfl⟩) rfl hl.1 (Nat.le_of_ble_eq_true rfl) dX4_advance_157 ⟨Nat.zero_le _, Nat.zero_le _⟩ rfl (fun H locs hw => ?_)
        refine lv_if_eq (tgt := 221) hx hb dX4_advance_160 (by decide) (fun c_51 => ?_) (fun c_51 => ?_)
        · have hg := it_p hg c_51
          refine lv_aload_n hx hb dX4_advance_221 rfl (lv_at hl 0 rfl) ?_
          refine lv_aload_n hx hb dX4_advance_222 rfl (lv_at hl 0 rfl) ?_
          refine r_getr (C := RX4) (T := TX4) (N := 10) (k' := 31) S hK hw (kX_30 hG).1 (kX_30 hG).2 rfl hinX4 0 (by decide) (o := 1) rfl rfl (hts (.fieldLink RX4 9 "SoupByRank$Tape" "bytes" "[I") (by decide +kernel)) rfl dX4_advance_223 ?_
          refine lv_aload_n hx hb dX4_advance_226 rfl (lv_at hl 0 rfl) ?_
          refine r_get (C := RX4) (T := TX4) (N := 10) S hK hw (kX_30 hG).1 (kX_30 hG).2 rfl hinX4 5 (by decide) rfl (hts (.fieldLink RX4 28 "SoupByRank$Tape" "place" "I") (by decide +kernel)) rfl dX4_advance_227 ?_
          obtain ⟨h_53, x_52, e_54, hg⟩ := rdA_e hg
          refine r_iald S hK hw (kX_31 hG).1 (kX_31 hG).2 h_53 e_54 dX4_advance_230 ?_
          obtain ⟨s_55, x_56, h_57, hg⟩ := bnI_e hg
          refine r_iS (As := [.int x_52]) (rest := [.ref (gAd G 30)]) S hA hK hw (c_X4_isSign l hG  h_57) (va_cwS 1 hts gX4_advance_X4_isSign rfl rfl rfl (by decide +kernel) ⟨Nat.le_of_ble_eq_true rfl, Nat.le_of_ble_eq_true rfl⟩) rfl hl.1 (Nat.le_of_ble_eq_true rfl) dX4_advance_231 ⟨Nat.zero_le _, Nat.zero_le _⟩ rfl (fun H locs hw => ?_)
          refine lv_if_eq (tgt := 249) hx hb dX4_advance_234 (by decide) (fun c_58 => ?_) (fun c_58 => ?_)
          · have hg := it_p hg c_58
            refine lv_iconst (v := 1) hx hb dX4_advance_249 (by decide) ?_
            exact J250 1 _ _ _ _ hg hw (lv_sub hl [0] rfl)
          · have hg := it_n hg c_58
            refine lv_aload_n hx hb dX4_advance_237 rfl (lv_at hl 0 rfl) ?_
            refine r_getr (C := RX4) (T := TX4) (N := 10) (k' := 31) S hK hw (kX_30 hG).1 (kX_30 hG).2 rfl hinX4 0 (by decide) (o := 1) rfl rfl (hts (.fieldLink RX4 9 "SoupByRank$Tape" "bytes" "[I") (by decide +kernel)) rfl dX4_advance_238 ?_
            refine lv_aload_n hx hb dX4_advance_241 rfl (lv_at hl 0 rfl) ?_
            refine r_get (C := RX4) (T := TX4) (N := 10) S hK hw (kX_30 hG).1 (kX_30 hG).2 rfl hinX4 5 (by decide) rfl (hts (.fieldLink RX4 28 "SoupByRank$Tape" "place" "I") (by decide +kernel)) rfl dX4_advance_242 ?_
            obtain ⟨h_60, x_59, e_61, hg⟩ := rdA_e hg
            refine r_iald S hK hw (kX_31 hG).1 (kX_31 hG).2 h_60 e_61 dX4_advance_245 ?_
            refine lv_goto (tgt := 250) hx hb dX4_advance_246 (by decide) ?_
            exact J250 x_59 _ _ _ _ hg hw (lv_sub hl [0] rfl)
        · have hg := it_n hg c_51
          exact L163 F _ _ _ _ hg hw (lv_sub hl [0] rfl)
      · have hg := it_n hg c_44
        exact L90 F _ _ _ _ hg hw (lv_sub hl [0] rfl)
    · have hg := it_n hg c_37
      refine lv_aload_n hx hb dX4_advance_67 rfl (lv_at hl 0 rfl) ?_
      refine lv_iconst (v := 0) hx hb dX4_advance_68 (by decide) ?_
      obtain ⟨s_62, e_63, hg⟩ := wrF_e hg
      refine r_put (C := RX4) (T := TX4) (N := 10) S hK hw (kX_30 hG).1 (kX_30 hG).2 rfl hinX4 tyX4_ok nmX4 6 (by decide) rfl rfl rfl rfl (hts (.fieldLink RX4 44 "SoupByRank$Tape" "token" "I") (by decide +kernel)) rfl e_63 dX4_advance_69 (fun H locs hw => ?_)
      refine lv_goto (tgt := 263) hx hb dX4_advance_72 (by decide) ?_
      exact r_vreti S hr hlk hw.2.2.2.2 hw hg dX4_advance_263
  have L9 : ∀ (n9 : Nat) (σ : Sg) (H : Heap) (locs : List Loc) (ls : Array Slot) (hg : g_X4_advance_l9 F N ln n9 σ = some σR) (hw : XD G (gA G sz) s.heap σ H locs) (hl : lv_has ls 1 [(0, .ref (gAd G 30))]), W p l e (headSpec wsX4_advance ({ frames := 10, cells := 0, slots := 0, locals := 448 } : Room)).room s m args below meth c H locs 0 0 (MQ below (QcV G (gA G sz) σR) args s 0 0 (gA G sz)) (F0 m 9 ls []) := by
    intro n9
    induction n9 with
    | zero => intro  σ H locs ls hg hw hl; exact no_e hg
    | succ n9 ih9 =>
      intro  σ H locs ls hg hw hl
      rw [g_X4_advance_l9] at hg
      refine lv_aload_n hx hb dX4_advance_9 rfl (lv_at hl 0 rfl) ?_
      refine r_get (C := RX4) (T := TX4) (N := 10) S hK hw (kX_30 hG).1 (kX_30 hG).2 rfl hinX4 5 (by decide) rfl (hts (.fieldLink RX4 28 "SoupByRank$Tape" "place" "I") (by decide +kernel)) rfl dX4_advance_10 ?_
      refine lv_aload_n hx hb dX4_advance_13 rfl (lv_at hl 0 rfl) ?_
      refine r_get (C := RX4) (T := TX4) (N := 10) S hK hw (kX_30 hG).1 (kX_30 hG).2 rfl hinX4 1 (by decide) rfl (hts (.fieldLink RX4 21 "SoupByRank$Tape" "size" "I") (by decide +kernel)) rfl dX4_advance_14 ?_
      refine lv_icmp_ge (tgt := 48) hx hb dX4_advance_17 (by decide) (fun c_64 => ?_) (fun c_64 => ?_)
      · have hg := it_p hg c_64
        exact J48 _ _ _ _ hg hw (lv_sub hl [0] rfl)
      · have hg := it_n hg c_64
        refine lv_aload_n hx hb dX4_advance_20 rfl (lv_at hl 0 rfl) ?_
        refine r_getr (C := RX4) (T := TX4) (N := 10) (k' := 31) S hK hw (kX_30 hG).1 (kX_30 hG).2 rfl hinX4 0 (by decide) (o := 1) rfl rfl (hts (.fieldLink RX4 9 "SoupByRank$Tape" "bytes" "[I") (by decide +kernel)) rfl dX4_advance_21 ?_
        refine lv_aload_n hx hb dX4_advance_24 rfl (lv_at hl 0 rfl) ?_
        refine r_get (C := RX4) (T := TX4) (N := 10) S hK hw (kX_30 hG).1 (kX_30 hG).2 rfl hinX4 5 (by decide) rfl (hts (.fieldLink RX4 28 "SoupByRank$Tape" "place" "I") (by decide +kernel)) rfl dX4_advance_25 ?_
        obtain ⟨h_66, x_65, e_67, hg⟩ := rdA_e hg
        refine r_iald S hK hw (kX_31 hG).1 (kX_31 hG).2 h_66 e_67 dX4_advance_28 ?_
        obtain ⟨s_68, x_69, h_70, hg⟩ := bnI_e hg
        refine r_iS (As := [.int x_65]) (rest := []) S hA hK hw (c_X4_isBlank l hG  h_70) (va_cwS 1 hts gX4_advance_X4_isBlank rfl rfl rfl (by decide +kernel) ⟨Nat.le_of_ble_eq_true rfl, Nat.le_of_ble_eq_true rfl⟩) rfl hl.1 (Nat.le_of_ble_eq_true rfl) dX4_advance_29 ⟨Nat.zero_le _, Nat.zero_le _⟩ rfl (fun H locs hw => ?_)
        refine lv_if_eq (tgt := 48) hx hb dX4_advance_32 (by decide) (fun c_71 => ?_) (fun c_71 => ?_)
        · have hg := it_p hg c_71
          exact J48 _ _ _ _ hg hw (lv_sub hl [0] rfl)
        · have hg := it_n hg c_71
          refine lv_aload_n hx hb dX4_advance_35 rfl (lv_at hl 0 rfl) ?_
          refine lv_dup hx hb dX4_advance_36 rfl ?_
          refine r_get (C := RX4) (T := TX4) (N := 10) S hK hw (kX_30 hG).1 (kX_30 hG).2 rfl hinX4 5 (by decide) rfl (hts (.fieldLink RX4 28 "SoupByRank$Tape" "place" "I") (by decide +kernel)) rfl dX4_advance_37 ?_
          refine lv_iconst (v := 1) hx hb dX4_advance_40 (by decide) ?_
          refine lv_iadd hx hb dX4_advance_41 ?_
          obtain ⟨s_72, e_73, hg⟩ := wrF_e hg
          refine r_put (C := RX4) (T := TX4) (N := 10) S hK hw (kX_30 hG).1 (kX_30 hG).2 rfl hinX4 tyX4_ok nmX4 5 (by decide) rfl rfl rfl rfl (hts (.fieldLink RX4 28 "SoupByRank$Tape" "place" "I") (by decide +kernel)) rfl e_73 dX4_advance_42 (fun H locs hw => ?_)
          refine lv_goto (tgt := 9) hx hb dX4_advance_45 (by decide) ?_
          exact ih9 _ _ _ _ hg hw (lv_sub hl [0] rfl)
  rw [g_X4_advance] at hg
  refine lv_aload_n hx hb dX4_advance_0 rfl (lv_at hl 0 rfl) ?_
  refine r_get (C := RX4) (T := TX4) (N := 10) S hK hw (kX_30 hG).1 (kX_30 hG).2 rfl hinX4 9 (by decide) rfl (hts (.fieldLink RX4 31 "SoupByRank$Tape" "fault" "I") (by decide +kernel)) rfl dX4_advance_1 ?_
  refine lv_iconst (v := (-1)) hx hb dX4_advance_4 (by decide) ?_
  refine lv_icmp_eq (tgt := 9) hx hb dX4_advance_5 (by decide) (fun c_74 => ?_) (fun c_74 => ?_)
  · have hg := it_p hg c_74
    exact L9 F _ _ _ _ hg hw (lv_sub hl [0] rfl)
  · have hg := it_n hg c_74
    exact r_vreti S hr hlk hw.2.2.2.2 hw hg dX4_advance_8
set_option maxHeartbeats 4000000 in
set_option maxRecDepth 100000 in
theorem c_X4_refuse (l : Launch) {G : GW} {N : Nat} {ln : Nat → Nat} {cT cS : ClassId} (hG : isX G N ln cT cS) {F sz : Nat} {σ σR : Sg} (hg : g_X4_refuse F N ln σ = some σR) : Met l yX4_refuse wsX4_refuse ({ frames := 0, cells := 0, slots := 0, locals := 0 } : Room) (va_Pc [.ref (gAd G 30)] (PX G σ sz)) (QcV G (gA G sz) σR) 0 0 (gA G sz) := by
  refine metX (by decide) rfl (Nat.le_of_ble_eq_true rfl) ?_
  intro p e s m args below meth c ls S hr hlk hsz hA hK hw hl hmn
  have S : CallFix p m c cX4_refuse 1 s args wsX4_refuse RX4 := S
  obtain ⟨hx, hb, hml, hown, hts⟩ := id S
  have hl : lv_has ls 1 [(0, .ref (gAd G 30))] := hl
  have hinX4 : ∀ w ∈ wsX40, w ∈ wsX4_refuse := by decide +kernel
  rw [g_X4_refuse] at hg
  refine lv_aload_n hx hb dX4_refuse_0 rfl (lv_at hl 0 rfl) ?_
  refine r_get (C := RX4) (T := TX4) (N := 10) S hK hw (kX_30 hG).1 (kX_30 hG).2 rfl hinX4 9 (by decide) rfl (hts (.fieldLink RX4 31 "SoupByRank$Tape" "fault" "I") (by decide +kernel)) rfl dX4_refuse_1 ?_
  refine lv_iconst (v := (-1)) hx hb dX4_refuse_4 (by decide) ?_
  refine lv_icmp_ne (tgt := 16) hx hb dX4_refuse_5 (by decide) (fun c_1 => ?_) (fun c_1 => ?_)
  · have hg := it_n hg c_1
    refine lv_aload_n hx hb dX4_refuse_16 rfl (lv_at hl 0 rfl) ?_
    refine lv_iconst (v := 1) hx hb dX4_refuse_17 (by decide) ?_
    obtain ⟨s_2, e_3, hg⟩ := wrF_e hg
    refine r_put (C := RX4) (T := TX4) (N := 10) S hK hw (kX_30 hG).1 (kX_30 hG).2 rfl hinX4 tyX4_ok nmX4 6 (by decide) rfl rfl rfl rfl (hts (.fieldLink RX4 44 "SoupByRank$Tape" "token" "I") (by decide +kernel)) rfl e_3 dX4_refuse_18 (fun H locs hw => ?_)
    exact r_vreti S hr hlk hw.2.2.2.2 hw hg dX4_refuse_21
  · have hg := it_p hg c_1
    refine lv_aload_n hx hb dX4_refuse_8 rfl (lv_at hl 0 rfl) ?_
    refine lv_aload_n hx hb dX4_refuse_9 rfl (lv_at hl 0 rfl) ?_
    refine r_get (C := RX4) (T := TX4) (N := 10) S hK hw (kX_30 hG).1 (kX_30 hG).2 rfl hinX4 7 (by decide) rfl (hts (.fieldLink RX4 98 "SoupByRank$Tape" "tokenPlace" "I") (by decide +kernel)) rfl dX4_refuse_10 ?_
    obtain ⟨s_4, e_5, hg⟩ := wrF_e hg
    refine r_put (C := RX4) (T := TX4) (N := 10) S hK hw (kX_30 hG).1 (kX_30 hG).2 rfl hinX4 tyX4_ok nmX4 9 (by decide) rfl rfl rfl rfl (hts (.fieldLink RX4 31 "SoupByRank$Tape" "fault" "I") (by decide +kernel)) rfl e_5 dX4_refuse_13 (fun H locs hw => ?_)
    refine lv_aload_n hx hb dX4_refuse_16 rfl (lv_at hl 0 rfl) ?_
    refine lv_iconst (v := 1) hx hb dX4_refuse_17 (by decide) ?_
    obtain ⟨s_6, e_7, hg⟩ := wrF_e hg
    refine r_put (C := RX4) (T := TX4) (N := 10) S hK hw (kX_30 hG).1 (kX_30 hG).2 rfl hinX4 tyX4_ok nmX4 6 (by decide) rfl rfl rfl rfl (hts (.fieldLink RX4 44 "SoupByRank$Tape" "token" "I") (by decide +kernel)) rfl e_7 dX4_refuse_18 (fun H locs hw => ?_)
    exact r_vreti S hr hlk hw.2.2.2.2 hw hg dX4_refuse_21
set_option maxHeartbeats 4000000 in
set_option maxRecDepth 100000 in
theorem c_X4_demand (l : Launch) {G : GW} {N : Nat} {ln : Nat → Nat} {cT cS : ClassId} (hG : isX G N ln cT cS) {F sz : Nat} {a1 : Int32} {σ σR : Sg} (hg : g_X4_demand F N ln a1 σ = some σR) : Met l yX4_demand wsX4_demand ({ frames := 11, cells := 0, slots := 0, locals := 468 } : Room) (va_Pc [.ref (gAd G 30), .int a1] (PX G σ sz)) (QcV G (gA G sz) σR) 0 0 (gA G sz) := by
  refine metX (by decide) rfl (Nat.le_of_ble_eq_true rfl) ?_
  intro p e s m args below meth c ls S hr hlk hsz hA hK hw hl hmn
  have S : CallFix p m c cX4_demand 2 s args wsX4_demand RX4 := S
  obtain ⟨hx, hb, hml, hown, hts⟩ := id S
  have hl : lv_has ls 2 [(0, .ref (gAd G 30)), (1, .int a1)] := hl
  have hinX4 : ∀ w ∈ wsX40, w ∈ wsX4_demand := by decide +kernel
  rw [g_X4_demand] at hg
  refine lv_aload_n hx hb dX4_demand_0 rfl (lv_at hl 0 rfl) ?_
  refine r_get (C := RX4) (T := TX4) (N := 10) S hK hw (kX_30 hG).1 (kX_30 hG).2 rfl hinX4 6 (by decide) rfl (hts (.fieldLink RX4 44 "SoupByRank$Tape" "token" "I") (by decide +kernel)) rfl dX4_demand_1 ?_
  refine lv_iload_n hx hb dX4_demand_4 rfl (lv_at hl 1 rfl) ?_
  refine lv_icmp_ne (tgt := 15) hx hb dX4_demand_5 (by decide) (fun c_1 => ?_) (fun c_1 => ?_)
  · have hg := it_n hg c_1
    refine lv_aload_n hx hb dX4_demand_15 rfl (lv_at hl 0 rfl) ?_
    obtain ⟨s_2, h_4, hg⟩ := bnV_e hg
    refine r_vV (As := []) (rest := []) S hA hK hw (c_X4_refuse l hG  h_4) (cwV 0 hts gX4_demand_X4_refuse rfl rfl rfl (by decide +kernel) ⟨Nat.le_of_ble_eq_true rfl, Nat.le_of_ble_eq_true rfl⟩) (r_recv hK hw (kX_30 hG).1 (kX_30 hG).2 rfl) rfl hl.1 (Nat.le_of_ble_eq_true rfl) dX4_demand_16 ⟨Nat.zero_le _, Nat.zero_le _⟩ rfl (fun H locs hw => ?_)
    exact r_vreti S hr hlk hw.2.2.2.2 hw hg dX4_demand_19
  · have hg := it_p hg c_1
    refine lv_aload_n hx hb dX4_demand_8 rfl (lv_at hl 0 rfl) ?_
    obtain ⟨s_5, h_7, hg⟩ := bnV_e hg
    refine r_vV (As := []) (rest := []) S hA hK hw (c_X4_advance l hG  h_7) (cwV 0 hts gX4_demand_X4_advance rfl rfl rfl (by decide +kernel) ⟨Nat.le_of_ble_eq_true rfl, Nat.le_of_ble_eq_true rfl⟩) (r_recv hK hw (kX_30 hG).1 (kX_30 hG).2 rfl) rfl hl.1 (Nat.le_of_ble_eq_true rfl) dX4_demand_9 ⟨Nat.zero_le _, Nat.zero_le _⟩ rfl (fun H locs hw => ?_)
    refine lv_goto (tgt := 19) hx hb dX4_demand_12 (by decide) ?_
    exact r_vreti S hr hlk hw.2.2.2.2 hw hg dX4_demand_19
set_option maxHeartbeats 4000000 in
set_option maxRecDepth 100000 in
theorem c_X4_write (l : Launch) {G : GW} {N : Nat} {ln : Nat → Nat} {cT cS : ClassId} (hG : isX G N ln cT cS) {F sz : Nat} {a1 : Int32} {σ σR : Sg} (hg : g_X4_write F N ln a1 σ = some σR) : Met l yX4_write wsX4_write ({ frames := 0, cells := 0, slots := 0, locals := 0 } : Room) (va_Pc [.ref (gAd G 30), .int a1] (PX G σ sz)) (QcV G (gA G sz) σR) 0 0 (gA G sz) := by
  refine metX (by decide) rfl (Nat.le_of_ble_eq_true rfl) ?_
  intro p e s m args below meth c ls S hr hlk hsz hA hK hw hl hmn
  have S : CallFix p m c cX4_write 2 s args wsX4_write RX4 := S
  obtain ⟨hx, hb, hml, hown, hts⟩ := id S
  have hl : lv_has ls 2 [(0, .ref (gAd G 30)), (1, .int a1)] := hl
  have hinX4 : ∀ w ∈ wsX40, w ∈ wsX4_write := by decide +kernel
  rw [g_X4_write] at hg
  refine lv_aload_n hx hb dX4_write_0 rfl (lv_at hl 0 rfl) ?_
  refine r_get (C := RX4) (T := TX4) (N := 10) S hK hw (kX_30 hG).1 (kX_30 hG).2 rfl hinX4 4 (by decide) rfl (hts (.fieldLink RX4 25 "SoupByRank$Tape" "used" "I") (by decide +kernel)) rfl dX4_write_1 ?_
  refine lv_aload_n hx hb dX4_write_4 rfl (lv_at hl 0 rfl) ?_
  refine r_getr (C := RX4) (T := TX4) (N := 10) (k' := 32) S hK hw (kX_30 hG).1 (kX_30 hG).2 rfl hinX4 2 (by decide) (o := 2) rfl rfl (hts (.fieldLink RX4 15 "SoupByRank$Tape" "codes" "[I") (by decide +kernel)) rfl dX4_write_5 ?_
  refine r_alen S hK hw (kX_32 hG).1 (kX_32 hG).2 dX4_write_8 ?_
  refine lv_icmp_ge (tgt := 32) hx hb dX4_write_9 (by decide) (fun c_1 => ?_) (fun c_1 => ?_)
  · have hg := it_p hg c_1
    exact r_vreti S hr hlk hw.2.2.2.2 hw hg dX4_write_32
  · have hg := it_n hg c_1
    refine lv_aload_n hx hb dX4_write_12 rfl (lv_at hl 0 rfl) ?_
    refine r_getr (C := RX4) (T := TX4) (N := 10) (k' := 32) S hK hw (kX_30 hG).1 (kX_30 hG).2 rfl hinX4 2 (by decide) (o := 2) rfl rfl (hts (.fieldLink RX4 15 "SoupByRank$Tape" "codes" "[I") (by decide +kernel)) rfl dX4_write_13 ?_
    refine lv_aload_n hx hb dX4_write_16 rfl (lv_at hl 0 rfl) ?_
    refine r_get (C := RX4) (T := TX4) (N := 10) S hK hw (kX_30 hG).1 (kX_30 hG).2 rfl hinX4 4 (by decide) rfl (hts (.fieldLink RX4 25 "SoupByRank$Tape" "used" "I") (by decide +kernel)) rfl dX4_write_17 ?_
    refine lv_iload_n hx hb dX4_write_20 rfl (lv_at hl 1 rfl) ?_
    obtain ⟨h_3, s_2, e_4, hg⟩ := wrA_e hg
    refine r_iast S hK hw (kX_32 hG).1 (kX_32 hG).2 h_3 e_4 dX4_write_21 (fun H locs hw => ?_)
    refine lv_aload_n hx hb dX4_write_22 rfl (lv_at hl 0 rfl) ?_
    refine lv_dup hx hb dX4_write_23 rfl ?_
    refine r_get (C := RX4) (T := TX4) (N := 10) S hK hw (kX_30 hG).1 (kX_30 hG).2 rfl hinX4 4 (by decide) rfl (hts (.fieldLink RX4 25 "SoupByRank$Tape" "used" "I") (by decide +kernel)) rfl dX4_write_24 ?_
    refine lv_iconst (v := 1) hx hb dX4_write_27 (by decide) ?_
    refine lv_iadd hx hb dX4_write_28 ?_
    obtain ⟨s_5, e_6, hg⟩ := wrF_e hg
    refine r_put (C := RX4) (T := TX4) (N := 10) S hK hw (kX_30 hG).1 (kX_30 hG).2 rfl hinX4 tyX4_ok nmX4 4 (by decide) rfl rfl rfl rfl (hts (.fieldLink RX4 25 "SoupByRank$Tape" "used" "I") (by decide +kernel)) rfl e_6 dX4_write_29 (fun H locs hw => ?_)
    exact r_vreti S hr hlk hw.2.2.2.2 hw hg dX4_write_32
set_option maxHeartbeats 4000000 in
set_option maxRecDepth 100000 in
theorem c_X4_readOne (l : Launch) {G : GW} {N : Nat} {ln : Nat → Nat} {cT cS : ClassId} (hG : isX G N ln cT cS) {d : Nat} {RR : Nat → Int32 → Sg → Option Sg} (hR0 : ∀ {a : Int32} {σ σ2 : Sg} {sz : Nat}, RR 0 a σ = some σ2 → Met l yX4_readEither wsX4_readEither (rmG d) (va_Pc [.ref (gAd G 30), .int a] (PX G σ sz)) (QcV G (gA G sz) σ2) 0 0 (gA G sz)) (hR1 : ∀ {a : Int32} {σ σ2 : Sg} {sz : Nat}, RR 1 a σ = some σ2 → Met l yX4_readBoth wsX4_readBoth (rmG d) (va_Pc [.ref (gAd G 30), .int a] (PX G σ sz)) (QcV G (gA G sz) σ2) 0 0 (gA G sz)) (hR2 : ∀ {a : Int32} {σ σ2 : Sg} {sz : Nat}, RR 2 a σ = some σ2 → Met l yX4_readNot wsX4_readNot (rmG d) (va_Pc [.ref (gAd G 30), .int a] (PX G σ sz)) (QcV G (gA G sz) σ2) 0 0 (gA G sz)) (hR3 : ∀ {a : Int32} {σ σ2 : Sg} {sz : Nat}, RR 3 a σ = some σ2 → Met l yX4_readComparison wsX4_readComparison (rmG d) (va_Pc [.ref (gAd G 30), .int a] (PX G σ sz)) (QcV G (gA G sz) σ2) 0 0 (gA G sz)) (hR4 : ∀ {a : Int32} {σ σ2 : Sg} {sz : Nat}, RR 4 a σ = some σ2 → Met l yX4_readSum wsX4_readSum (rmG d) (va_Pc [.ref (gAd G 30), .int a] (PX G σ sz)) (QcV G (gA G sz) σ2) 0 0 (gA G sz)) (hR5 : ∀ {a : Int32} {σ σ2 : Sg} {sz : Nat}, RR 5 a σ = some σ2 → Met l yX4_readTerm wsX4_readTerm (rmG d) (va_Pc [.ref (gAd G 30), .int a] (PX G σ sz)) (QcV G (gA G sz) σ2) 0 0 (gA G sz)) (hR6 : ∀ {a : Int32} {σ σ2 : Sg} {sz : Nat}, RR 6 a σ = some σ2 → Met l yX4_readOne wsX4_readOne (rmG d) (va_Pc [.ref (gAd G 30), .int a] (PX G σ sz)) (QcV G (gA G sz) σ2) 0 0 (gA G sz)) {F sz : Nat} {a1 : Int32} {σ σR : Sg} (hg : g_X4_readOne F N ln RR a1 σ = some σR) : Met l yX4_readOne wsX4_readOne (rmG (d + 1)) (va_Pc [.ref (gAd G 30), .int a1] (PX G σ sz)) (QcV G (gA G sz) σR) 0 0 (gA G sz) := by
  refine metX (by decide) rfl (Nat.le_of_ble_eq_true rfl) ?_
  intro p e s m args below meth c ls S hr hlk hsz hA hK hw hl hmn
  have S : CallFix p m c cX4_readOne 2 s args wsX4_readOne RX4 := S
  obtain ⟨hx, hb, hml, hown, hts⟩ := id S
  have hl : lv_has ls 2 [(0, .ref (gAd G 30)), (1, .int a1)] := hl
  have hinX4 : ∀ w ∈ wsX40, w ∈ wsX4_readOne := by decide +kernel
  have J122 : ∀ (σ : Sg) (H : Heap) (locs : List Loc) (ls : Array Slot) (hg : g_X4_readOne_b122 F N ln RR σ = some σR) (hw : XD G (gA G sz) s.heap σ H locs) (hl : lv_has ls 2 [(0, .ref (gAd G 30))]), W p l e (headSpec wsX4_readOne (rmG (d + 1))).room s m args below meth c H locs 0 0 (MQ below (QcV G (gA G sz) σR) args s 0 0 (gA G sz)) (F0 m 122 ls []) := by
    intro  σ H locs ls hg hw hl
    rw [g_X4_readOne_b122] at hg
    refine lv_aload_n hx hb dX4_readOne_122 rfl (lv_at hl 0 rfl) ?_
    obtain ⟨s_1, h_3, hg⟩ := bnV_e hg
    refine r_vV (As := []) (rest := []) S hA hK hw (c_X4_refuse l hG  h_3) (cwV 0 hts gX4_readOne_X4_refuse rfl rfl rfl (by decide +kernel) ⟨by show 0 + 1 ≤ d + 1 + 20; omega, by show 8 + (1 + 11) + 0 ≤ 24 * (d + 1) + 700; omega⟩) (r_recv hK hw (kX_30 hG).1 (kX_30 hG).2 rfl) rfl hl.1 (Nat.le_of_ble_eq_true rfl) dX4_readOne_123 ⟨Nat.zero_le _, Nat.zero_le _⟩ rfl (fun H locs hw => ?_)
    exact r_vreti S hr hlk hw.2.2.2.2 hw hg dX4_readOne_126
  have J88 : ∀ (v1 : Int32) (σ : Sg) (H : Heap) (locs : List Loc) (ls : Array Slot) (hg : g_X4_readOne_b88 F N ln RR v1 σ = some σR) (hw : XD G (gA G sz) s.heap σ H locs) (hl : lv_has ls 2 [(0, .ref (gAd G 30)), (1, .int v1)]), W p l e (headSpec wsX4_readOne (rmG (d + 1))).room s m args below meth c H locs 0 0 (MQ below (QcV G (gA G sz) σR) args s 0 0 (gA G sz)) (F0 m 88 ls []) := by
    intro v1 σ H locs ls hg hw hl
    rw [g_X4_readOne_b88] at hg
    refine lv_aload_n hx hb dX4_readOne_88 rfl (lv_at hl 0 rfl) ?_
    refine r_get (C := RX4) (T := TX4) (N := 10) S hK hw (kX_30 hG).1 (kX_30 hG).2 rfl hinX4 6 (by decide) rfl (hts (.fieldLink RX4 44 "SoupByRank$Tape" "token" "I") (by decide +kernel)) rfl dX4_readOne_89 ?_
    refine lv_bipush (v := 40) hx hb dX4_readOne_92 (by decide) ?_
    refine lv_icmp_ne (tgt := 122) hx hb dX4_readOne_94 (by decide) (fun c_4 => ?_) (fun c_4 => ?_)
    · have hg := it_n hg c_4
      exact J122 _ _ _ _ hg hw (lv_sub hl [0] rfl)
    · have hg := it_p hg c_4
      refine lv_iload_n hx hb dX4_readOne_97 rfl (lv_at hl 1 rfl) ?_
      refine lv_iconst (v := 5) hx hb dX4_readOne_98 (by decide) ?_
      refine lv_icmp_ge (tgt := 122) hx hb dX4_readOne_99 (by decide) (fun c_5 => ?_) (fun c_5 => ?_)
      · have hg := it_p hg c_5
        exact J122 _ _ _ _ hg hw (lv_sub hl [0] rfl)
      · have hg := it_n hg c_5
        refine lv_aload_n hx hb dX4_readOne_102 rfl (lv_at hl 0 rfl) ?_
        obtain ⟨s_6, h_8, hg⟩ := bnV_e hg
        refine r_vV (As := []) (rest := []) S hA hK hw (c_X4_advance l hG  h_8) (cwV 0 hts gX4_readOne_X4_advance rfl rfl rfl (by decide +kernel) ⟨by show 10 + 1 ≤ d + 1 + 20; omega, by show 8 + (1 + 11) + 448 ≤ 24 * (d + 1) + 700; omega⟩) (r_recv hK hw (kX_30 hG).1 (kX_30 hG).2 rfl) rfl hl.1 (Nat.le_of_ble_eq_true rfl) dX4_readOne_103 ⟨Nat.zero_le _, Nat.zero_le _⟩ rfl (fun H locs hw => ?_)
        refine lv_aload_n hx hb dX4_readOne_106 rfl (lv_at hl 0 rfl) ?_
        refine lv_iload_n hx hb dX4_readOne_107 rfl (lv_at hl 1 rfl) ?_
        refine lv_iconst (v := 1) hx hb dX4_readOne_108 (by decide) ?_
        refine lv_iadd hx hb dX4_readOne_109 ?_
        obtain ⟨s_9, h_11, hg⟩ := bnV_e hg
        refine r_vV (As := [.int (v1 + 1)]) (rest := []) S hA hK hw (hR0 h_11) (cwV 1 hts gX4_readOne_X4_readEither rfl rfl rfl (by decide +kernel) ⟨by show d + 20 + 1 ≤ d + 1 + 20; omega, by show 8 + (3 + 11) + (24 * d + 700) ≤ 24 * (d + 1) + 700; omega⟩) (r_recv hK hw (kX_30 hG).1 (kX_30 hG).2 rfl) rfl hl.1 (Nat.le_of_ble_eq_true rfl) dX4_readOne_110 ⟨Nat.zero_le _, Nat.zero_le _⟩ rfl (fun H locs hw => ?_)
        refine lv_aload_n hx hb dX4_readOne_113 rfl (lv_at hl 0 rfl) ?_
        refine lv_bipush (v := 41) hx hb dX4_readOne_114 (by decide) ?_
        obtain ⟨s_12, h_14, hg⟩ := bnV_e hg
        refine r_vV (As := [.int 41]) (rest := []) S hA hK hw (c_X4_demand l hG  h_14) (cwV 1 hts gX4_readOne_X4_demand rfl rfl rfl (by decide +kernel) ⟨by show 11 + 1 ≤ d + 1 + 20; omega, by show 8 + (2 + 11) + 468 ≤ 24 * (d + 1) + 700; omega⟩) (r_recv hK hw (kX_30 hG).1 (kX_30 hG).2 rfl) rfl hl.1 (Nat.le_of_ble_eq_true rfl) dX4_readOne_116 ⟨Nat.zero_le _, Nat.zero_le _⟩ rfl (fun H locs hw => ?_)
        refine lv_goto (tgt := 126) hx hb dX4_readOne_119 (by decide) ?_
        exact r_vreti S hr hlk hw.2.2.2.2 hw hg dX4_readOne_126
  rw [g_X4_readOne] at hg
  refine lv_aload_n hx hb dX4_readOne_0 rfl (lv_at hl 0 rfl) ?_
  refine r_get (C := RX4) (T := TX4) (N := 10) S hK hw (kX_30 hG).1 (kX_30 hG).2 rfl hinX4 6 (by decide) rfl (hts (.fieldLink RX4 44 "SoupByRank$Tape" "token" "I") (by decide +kernel)) rfl dX4_readOne_1 ?_
  refine lv_iconst (v := 2) hx hb dX4_readOne_4 (by decide) ?_
  refine lv_icmp_ne (tgt := 23) hx hb dX4_readOne_5 (by decide) (fun c_15 => ?_) (fun c_15 => ?_)
  · have hg := it_n hg c_15
    refine lv_aload_n hx hb dX4_readOne_23 rfl (lv_at hl 0 rfl) ?_
    refine r_get (C := RX4) (T := TX4) (N := 10) S hK hw (kX_30 hG).1 (kX_30 hG).2 rfl hinX4 6 (by decide) rfl (hts (.fieldLink RX4 44 "SoupByRank$Tape" "token" "I") (by decide +kernel)) rfl dX4_readOne_24 ?_
    refine lv_sipush (v := 1006) hx hb dX4_readOne_27 (by decide) ?_
    refine lv_icmp_lt (tgt := 54) hx hb dX4_readOne_30 (by decide) (fun c_16 => ?_) (fun c_16 => ?_)
    · have hg := it_p hg c_16
      refine lv_aload_n hx hb dX4_readOne_54 rfl (lv_at hl 0 rfl) ?_
      refine r_get (C := RX4) (T := TX4) (N := 10) S hK hw (kX_30 hG).1 (kX_30 hG).2 rfl hinX4 6 (by decide) rfl (hts (.fieldLink RX4 44 "SoupByRank$Tape" "token" "I") (by decide +kernel)) rfl dX4_readOne_55 ?_
      refine lv_bipush (v := 45) hx hb dX4_readOne_58 (by decide) ?_
      refine lv_icmp_ne (tgt := 88) hx hb dX4_readOne_60 (by decide) (fun c_17 => ?_) (fun c_17 => ?_)
      · have hg := it_n hg c_17
        exact J88 a1 _ _ _ _ hg hw (lv_sub hl [0, 1] rfl)
      · have hg := it_p hg c_17
        refine lv_iload_n hx hb dX4_readOne_63 rfl (lv_at hl 1 rfl) ?_
        refine lv_iconst (v := 5) hx hb dX4_readOne_64 (by decide) ?_
        refine lv_icmp_ge (tgt := 88) hx hb dX4_readOne_65 (by decide) (fun c_18 => ?_) (fun c_18 => ?_)
        · have hg := it_p hg c_18
          exact J88 a1 _ _ _ _ hg hw (lv_sub hl [0, 1] rfl)
        · have hg := it_n hg c_18
          refine lv_aload_n hx hb dX4_readOne_68 rfl (lv_at hl 0 rfl) ?_
          obtain ⟨s_19, h_21, hg⟩ := bnV_e hg
          refine r_vV (As := []) (rest := []) S hA hK hw (c_X4_advance l hG  h_21) (cwV 0 hts gX4_readOne_X4_advance rfl rfl rfl (by decide +kernel) ⟨by show 10 + 1 ≤ d + 1 + 20; omega, by show 8 + (1 + 11) + 448 ≤ 24 * (d + 1) + 700; omega⟩) (r_recv hK hw (kX_30 hG).1 (kX_30 hG).2 rfl) rfl hl.1 (Nat.le_of_ble_eq_true rfl) dX4_readOne_69 ⟨Nat.zero_le _, Nat.zero_le _⟩ rfl (fun H locs hw => ?_)
          refine lv_aload_n hx hb dX4_readOne_72 rfl (lv_at hl 0 rfl) ?_
          refine lv_iload_n hx hb dX4_readOne_73 rfl (lv_at hl 1 rfl) ?_
          refine lv_iconst (v := 1) hx hb dX4_readOne_74 (by decide) ?_
          refine lv_iadd hx hb dX4_readOne_75 ?_
          obtain ⟨s_22, h_24, hg⟩ := bnV_e hg
          refine r_vV (As := [.int (a1 + 1)]) (rest := []) S hA hK hw (hR6 h_24) (cwV 1 hts gX4_readOne_X4_readOne rfl rfl rfl (by decide +kernel) ⟨by show d + 20 + 1 ≤ d + 1 + 20; omega, by show 8 + (2 + 11) + (24 * d + 700) ≤ 24 * (d + 1) + 700; omega⟩) (r_recv hK hw (kX_30 hG).1 (kX_30 hG).2 rfl) rfl hl.1 (Nat.le_of_ble_eq_true rfl) dX4_readOne_76 ⟨Nat.zero_le _, Nat.zero_le _⟩ rfl (fun H locs hw => ?_)
          refine lv_aload_n hx hb dX4_readOne_79 rfl (lv_at hl 0 rfl) ?_
          refine lv_bipush (v := (-7)) hx hb dX4_readOne_80 (by decide) ?_
          obtain ⟨s_25, h_27, hg⟩ := bnV_e hg
          refine r_vV (As := [.int (-7)]) (rest := []) S hA hK hw (c_X4_write l hG  h_27) (cwV 1 hts gX4_readOne_X4_write rfl rfl rfl (by decide +kernel) ⟨by show 0 + 1 ≤ d + 1 + 20; omega, by show 8 + (2 + 11) + 0 ≤ 24 * (d + 1) + 700; omega⟩) (r_recv hK hw (kX_30 hG).1 (kX_30 hG).2 rfl) rfl hl.1 (Nat.le_of_ble_eq_true rfl) dX4_readOne_82 ⟨Nat.zero_le _, Nat.zero_le _⟩ rfl (fun H locs hw => ?_)
          refine lv_goto (tgt := 126) hx hb dX4_readOne_85 (by decide) ?_
          exact r_vreti S hr hlk hw.2.2.2.2 hw hg dX4_readOne_126
    · have hg := it_n hg c_16
      refine lv_aload_n hx hb dX4_readOne_33 rfl (lv_at hl 0 rfl) ?_
      refine lv_iconst (v := (-1)) hx hb dX4_readOne_34 (by decide) ?_
      refine lv_aload_n hx hb dX4_readOne_35 rfl (lv_at hl 0 rfl) ?_
      refine r_get (C := RX4) (T := TX4) (N := 10) S hK hw (kX_30 hG).1 (kX_30 hG).2 rfl hinX4 6 (by decide) rfl (hts (.fieldLink RX4 44 "SoupByRank$Tape" "token" "I") (by decide +kernel)) rfl dX4_readOne_36 ?_
      refine lv_sipush (v := 1006) hx hb dX4_readOne_39 (by decide) ?_
      refine lv_isub hx hb dX4_readOne_42 ?_
      refine lv_isub hx hb dX4_readOne_43 ?_
      obtain ⟨s_28, h_30, hg⟩ := bnV_e hg
      refine r_vV (As := [.int ((-1) - ((σ 30 6) - 1006))]) (rest := []) S hA hK hw (c_X4_write l hG  h_30) (cwV 1 hts gX4_readOne_X4_write rfl rfl rfl (by decide +kernel) ⟨by show 0 + 1 ≤ d + 1 + 20; omega, by show 8 + (2 + 11) + 0 ≤ 24 * (d + 1) + 700; omega⟩) (r_recv hK hw (kX_30 hG).1 (kX_30 hG).2 rfl) rfl hl.1 (Nat.le_of_ble_eq_true rfl) dX4_readOne_44 ⟨Nat.zero_le _, Nat.zero_le _⟩ rfl (fun H locs hw => ?_)
      refine lv_aload_n hx hb dX4_readOne_47 rfl (lv_at hl 0 rfl) ?_
      obtain ⟨s_31, h_33, hg⟩ := bnV_e hg
      refine r_vV (As := []) (rest := []) S hA hK hw (c_X4_advance l hG  h_33) (cwV 0 hts gX4_readOne_X4_advance rfl rfl rfl (by decide +kernel) ⟨by show 10 + 1 ≤ d + 1 + 20; omega, by show 8 + (1 + 11) + 448 ≤ 24 * (d + 1) + 700; omega⟩) (r_recv hK hw (kX_30 hG).1 (kX_30 hG).2 rfl) rfl hl.1 (Nat.le_of_ble_eq_true rfl) dX4_readOne_48 ⟨Nat.zero_le _, Nat.zero_le _⟩ rfl (fun H locs hw => ?_)
      refine lv_goto (tgt := 126) hx hb dX4_readOne_51 (by decide) ?_
      exact r_vreti S hr hlk hw.2.2.2.2 hw hg dX4_readOne_126
  · have hg := it_p hg c_15
    refine lv_aload_n hx hb dX4_readOne_8 rfl (lv_at hl 0 rfl) ?_
    refine lv_aload_n hx hb dX4_readOne_9 rfl (lv_at hl 0 rfl) ?_
    refine r_get (C := RX4) (T := TX4) (N := 10) S hK hw (kX_30 hG).1 (kX_30 hG).2 rfl hinX4 8 (by decide) rfl (hts (.fieldLink RX4 95 "SoupByRank$Tape" "number" "I") (by decide +kernel)) rfl dX4_readOne_10 ?_
    obtain ⟨s_34, h_36, hg⟩ := bnV_e hg
    refine r_vV (As := [.int (σ 30 8)]) (rest := []) S hA hK hw (c_X4_write l hG  h_36) (cwV 1 hts gX4_readOne_X4_write rfl rfl rfl (by decide +kernel) ⟨by show 0 + 1 ≤ d + 1 + 20; omega, by show 8 + (2 + 11) + 0 ≤ 24 * (d + 1) + 700; omega⟩) (r_recv hK hw (kX_30 hG).1 (kX_30 hG).2 rfl) rfl hl.1 (Nat.le_of_ble_eq_true rfl) dX4_readOne_13 ⟨Nat.zero_le _, Nat.zero_le _⟩ rfl (fun H locs hw => ?_)
    refine lv_aload_n hx hb dX4_readOne_16 rfl (lv_at hl 0 rfl) ?_
    obtain ⟨s_37, h_39, hg⟩ := bnV_e hg
    refine r_vV (As := []) (rest := []) S hA hK hw (c_X4_advance l hG  h_39) (cwV 0 hts gX4_readOne_X4_advance rfl rfl rfl (by decide +kernel) ⟨by show 10 + 1 ≤ d + 1 + 20; omega, by show 8 + (1 + 11) + 448 ≤ 24 * (d + 1) + 700; omega⟩) (r_recv hK hw (kX_30 hG).1 (kX_30 hG).2 rfl) rfl hl.1 (Nat.le_of_ble_eq_true rfl) dX4_readOne_17 ⟨Nat.zero_le _, Nat.zero_le _⟩ rfl (fun H locs hw => ?_)
    refine lv_goto (tgt := 126) hx hb dX4_readOne_20 (by decide) ?_
    exact r_vreti S hr hlk hw.2.2.2.2 hw hg dX4_readOne_126
set_option maxHeartbeats 4000000 in
set_option maxRecDepth 100000 in
theorem c_X4_readTerm (l : Launch) {G : GW} {N : Nat} {ln : Nat → Nat} {cT cS : ClassId} (hG : isX G N ln cT cS) {d : Nat} {RR : Nat → Int32 → Sg → Option Sg} (hR0 : ∀ {a : Int32} {σ σ2 : Sg} {sz : Nat}, RR 0 a σ = some σ2 → Met l yX4_readEither wsX4_readEither (rmG d) (va_Pc [.ref (gAd G 30), .int a] (PX G σ sz)) (QcV G (gA G sz) σ2) 0 0 (gA G sz)) (hR1 : ∀ {a : Int32} {σ σ2 : Sg} {sz : Nat}, RR 1 a σ = some σ2 → Met l yX4_readBoth wsX4_readBoth (rmG d) (va_Pc [.ref (gAd G 30), .int a] (PX G σ sz)) (QcV G (gA G sz) σ2) 0 0 (gA G sz)) (hR2 : ∀ {a : Int32} {σ σ2 : Sg} {sz : Nat}, RR 2 a σ = some σ2 → Met l yX4_readNot wsX4_readNot (rmG d) (va_Pc [.ref (gAd G 30), .int a] (PX G σ sz)) (QcV G (gA G sz) σ2) 0 0 (gA G sz)) (hR3 : ∀ {a : Int32} {σ σ2 : Sg} {sz : Nat}, RR 3 a σ = some σ2 → Met l yX4_readComparison wsX4_readComparison (rmG d) (va_Pc [.ref (gAd G 30), .int a] (PX G σ sz)) (QcV G (gA G sz) σ2) 0 0 (gA G sz)) (hR4 : ∀ {a : Int32} {σ σ2 : Sg} {sz : Nat}, RR 4 a σ = some σ2 → Met l yX4_readSum wsX4_readSum (rmG d) (va_Pc [.ref (gAd G 30), .int a] (PX G σ sz)) (QcV G (gA G sz) σ2) 0 0 (gA G sz)) (hR5 : ∀ {a : Int32} {σ σ2 : Sg} {sz : Nat}, RR 5 a σ = some σ2 → Met l yX4_readTerm wsX4_readTerm (rmG d) (va_Pc [.ref (gAd G 30), .int a] (PX G σ sz)) (QcV G (gA G sz) σ2) 0 0 (gA G sz)) (hR6 : ∀ {a : Int32} {σ σ2 : Sg} {sz : Nat}, RR 6 a σ = some σ2 → Met l yX4_readOne wsX4_readOne (rmG d) (va_Pc [.ref (gAd G 30), .int a] (PX G σ sz)) (QcV G (gA G sz) σ2) 0 0 (gA G sz)) {F sz : Nat} {a1 : Int32} {σ σR : Sg} (hg : g_X4_readTerm F N ln RR a1 σ = some σR) : Met l yX4_readTerm wsX4_readTerm (rmG (d + 1)) (va_Pc [.ref (gAd G 30), .int a1] (PX G σ sz)) (QcV G (gA G sz) σR) 0 0 (gA G sz) := by
  refine metX (by decide) rfl (Nat.le_of_ble_eq_true rfl) ?_
  intro p e s m args below meth c ls S hr hlk hsz hA hK hw hl hmn
  have S : CallFix p m c cX4_readTerm 3 s args wsX4_readTerm RX4 := S
  obtain ⟨hx, hb, hml, hown, hts⟩ := id S
  have hl : lv_has ls 3 [(0, .ref (gAd G 30)), (1, .int a1)] := hl
  have hinX4 : ∀ w ∈ wsX40, w ∈ wsX4_readTerm := by decide +kernel
  have L7 : ∀ (v1 : Int32) (n7 : Nat) (v2 : Int32) (σ : Sg) (H : Heap) (locs : List Loc) (ls : Array Slot) (hg : g_X4_readTerm_l7 F N ln RR v1 n7 v2 σ = some σR) (hw : XD G (gA G sz) s.heap σ H locs) (hl : lv_has ls 3 [(0, .ref (gAd G 30)), (1, .int v1), (2, .int v2)]), W p l e (headSpec wsX4_readTerm (rmG (d + 1))).room s m args below meth c H locs 0 0 (MQ below (QcV G (gA G sz) σR) args s 0 0 (gA G sz)) (F0 m 7 ls []) := by
    intro v1
    intro n7
    induction n7 with
    | zero => intro v2 σ H locs ls hg hw hl; exact no_e hg
    | succ n7 ih7 =>
      intro v2 σ H locs ls hg hw hl
      rw [g_X4_readTerm_l7] at hg
      refine lv_iload_n hx hb dX4_readTerm_7 rfl (lv_at hl 2 rfl) ?_
      refine lv_sipush (v := 160) hx hb dX4_readTerm_8 (by decide) ?_
      refine lv_icmp_ge (tgt := 44) hx hb dX4_readTerm_11 (by decide) (fun c_1 => ?_) (fun c_1 => ?_)
      · have hg := it_p hg c_1
        exact r_vreti S hr hlk hw.2.2.2.2 hw hg dX4_readTerm_44
      · have hg := it_n hg c_1
        refine lv_aload_n hx hb dX4_readTerm_14 rfl (lv_at hl 0 rfl) ?_
        refine r_get (C := RX4) (T := TX4) (N := 10) S hK hw (kX_30 hG).1 (kX_30 hG).2 rfl hinX4 6 (by decide) rfl (hts (.fieldLink RX4 44 "SoupByRank$Tape" "token" "I") (by decide +kernel)) rfl dX4_readTerm_15 ?_
        refine lv_bipush (v := 42) hx hb dX4_readTerm_18 (by decide) ?_
        refine lv_icmp_ne (tgt := 44) hx hb dX4_readTerm_20 (by decide) (fun c_2 => ?_) (fun c_2 => ?_)
        · have hg := it_n hg c_2
          exact r_vreti S hr hlk hw.2.2.2.2 hw hg dX4_readTerm_44
        · have hg := it_p hg c_2
          refine lv_aload_n hx hb dX4_readTerm_23 rfl (lv_at hl 0 rfl) ?_
          obtain ⟨s_3, h_5, hg⟩ := bnV_e hg
          refine r_vV (As := []) (rest := []) S hA hK hw (c_X4_advance l hG  h_5) (cwV 0 hts gX4_readTerm_X4_advance rfl rfl rfl (by decide +kernel) ⟨by show 10 + 1 ≤ d + 1 + 20; omega, by show 8 + (1 + 11) + 448 ≤ 24 * (d + 1) + 700; omega⟩) (r_recv hK hw (kX_30 hG).1 (kX_30 hG).2 rfl) rfl hl.1 (Nat.le_of_ble_eq_true rfl) dX4_readTerm_24 ⟨Nat.zero_le _, Nat.zero_le _⟩ rfl (fun H locs hw => ?_)
          refine lv_aload_n hx hb dX4_readTerm_27 rfl (lv_at hl 0 rfl) ?_
          refine lv_iload_n hx hb dX4_readTerm_28 rfl (lv_at hl 1 rfl) ?_
          obtain ⟨s_6, h_8, hg⟩ := bnV_e hg
          refine r_vV (As := [.int v1]) (rest := []) S hA hK hw (hR6 h_8) (cwV 1 hts gX4_readTerm_X4_readOne rfl rfl rfl (by decide +kernel) ⟨by show d + 20 + 1 ≤ d + 1 + 20; omega, by show 8 + (2 + 11) + (24 * d + 700) ≤ 24 * (d + 1) + 700; omega⟩) (r_recv hK hw (kX_30 hG).1 (kX_30 hG).2 rfl) rfl hl.1 (Nat.le_of_ble_eq_true rfl) dX4_readTerm_29 ⟨Nat.zero_le _, Nat.zero_le _⟩ rfl (fun H locs hw => ?_)
          refine lv_aload_n hx hb dX4_readTerm_32 rfl (lv_at hl 0 rfl) ?_
          refine lv_bipush (v := (-9)) hx hb dX4_readTerm_33 (by decide) ?_
          obtain ⟨s_9, h_11, hg⟩ := bnV_e hg
          refine r_vV (As := [.int (-9)]) (rest := []) S hA hK hw (c_X4_write l hG  h_11) (cwV 1 hts gX4_readTerm_X4_write rfl rfl rfl (by decide +kernel) ⟨by show 0 + 1 ≤ d + 1 + 20; omega, by show 8 + (2 + 11) + 0 ≤ 24 * (d + 1) + 700; omega⟩) (r_recv hK hw (kX_30 hG).1 (kX_30 hG).2 rfl) rfl hl.1 (Nat.le_of_ble_eq_true rfl) dX4_readTerm_35 ⟨Nat.zero_le _, Nat.zero_le _⟩ rfl (fun H locs hw => ?_)
          refine lv_iinc (v := (v2 + 1)) (lv' := [(2, .int (v2 + 1)), (0, .ref (gAd G 30)), (1, .int v1)]) hx hb dX4_readTerm_38 hl (k := 2) rfl rfl (by decide) rfl (fun ls hl => ?_)
          refine lv_goto (tgt := 7) hx hb dX4_readTerm_41 (by decide) ?_
          exact ih7 _ _ _ _ _ hg hw (lv_sub hl [1, 2, 0] rfl)
  rw [g_X4_readTerm] at hg
  refine lv_aload_n hx hb dX4_readTerm_0 rfl (lv_at hl 0 rfl) ?_
  refine lv_iload_n hx hb dX4_readTerm_1 rfl (lv_at hl 1 rfl) ?_
  obtain ⟨s_12, h_14, hg⟩ := bnV_e hg
  refine r_vV (As := [.int a1]) (rest := []) S hA hK hw (hR6 h_14) (cwV 1 hts gX4_readTerm_X4_readOne rfl rfl rfl (by decide +kernel) ⟨by show d + 20 + 1 ≤ d + 1 + 20; omega, by show 8 + (2 + 11) + (24 * d + 700) ≤ 24 * (d + 1) + 700; omega⟩) (r_recv hK hw (kX_30 hG).1 (kX_30 hG).2 rfl) rfl hl.1 (Nat.le_of_ble_eq_true rfl) dX4_readTerm_2 ⟨Nat.zero_le _, Nat.zero_le _⟩ rfl (fun H locs hw => ?_)
  refine lv_iconst (v := 0) hx hb dX4_readTerm_5 (by decide) ?_
  refine lv_istore_n (lv' := [(2, .int 0), (0, .ref (gAd G 30)), (1, .int a1)]) hx hb dX4_readTerm_6 rfl hl (by decide) rfl (fun ls hl => ?_)
  exact L7 a1 F _ _ _ _ _ hg hw (lv_sub hl [1, 2, 0] rfl)
set_option maxHeartbeats 4000000 in
set_option maxRecDepth 100000 in
theorem c_X4_readSum (l : Launch) {G : GW} {N : Nat} {ln : Nat → Nat} {cT cS : ClassId} (hG : isX G N ln cT cS) {d : Nat} {RR : Nat → Int32 → Sg → Option Sg} (hR0 : ∀ {a : Int32} {σ σ2 : Sg} {sz : Nat}, RR 0 a σ = some σ2 → Met l yX4_readEither wsX4_readEither (rmG d) (va_Pc [.ref (gAd G 30), .int a] (PX G σ sz)) (QcV G (gA G sz) σ2) 0 0 (gA G sz)) (hR1 : ∀ {a : Int32} {σ σ2 : Sg} {sz : Nat}, RR 1 a σ = some σ2 → Met l yX4_readBoth wsX4_readBoth (rmG d) (va_Pc [.ref (gAd G 30), .int a] (PX G σ sz)) (QcV G (gA G sz) σ2) 0 0 (gA G sz)) (hR2 : ∀ {a : Int32} {σ σ2 : Sg} {sz : Nat}, RR 2 a σ = some σ2 → Met l yX4_readNot wsX4_readNot (rmG d) (va_Pc [.ref (gAd G 30), .int a] (PX G σ sz)) (QcV G (gA G sz) σ2) 0 0 (gA G sz)) (hR3 : ∀ {a : Int32} {σ σ2 : Sg} {sz : Nat}, RR 3 a σ = some σ2 → Met l yX4_readComparison wsX4_readComparison (rmG d) (va_Pc [.ref (gAd G 30), .int a] (PX G σ sz)) (QcV G (gA G sz) σ2) 0 0 (gA G sz)) (hR4 : ∀ {a : Int32} {σ σ2 : Sg} {sz : Nat}, RR 4 a σ = some σ2 → Met l yX4_readSum wsX4_readSum (rmG d) (va_Pc [.ref (gAd G 30), .int a] (PX G σ sz)) (QcV G (gA G sz) σ2) 0 0 (gA G sz)) (hR5 : ∀ {a : Int32} {σ σ2 : Sg} {sz : Nat}, RR 5 a σ = some σ2 → Met l yX4_readTerm wsX4_readTerm (rmG d) (va_Pc [.ref (gAd G 30), .int a] (PX G σ sz)) (QcV G (gA G sz) σ2) 0 0 (gA G sz)) (hR6 : ∀ {a : Int32} {σ σ2 : Sg} {sz : Nat}, RR 6 a σ = some σ2 → Met l yX4_readOne wsX4_readOne (rmG d) (va_Pc [.ref (gAd G 30), .int a] (PX G σ sz)) (QcV G (gA G sz) σ2) 0 0 (gA G sz)) {F sz : Nat} {a1 : Int32} {σ σR : Sg} (hg : g_X4_readSum F N ln RR a1 σ = some σR) : Met l yX4_readSum wsX4_readSum (rmG (d + 1)) (va_Pc [.ref (gAd G 30), .int a1] (PX G σ sz)) (QcV G (gA G sz) σR) 0 0 (gA G sz) := by
  refine metX (by decide) rfl (Nat.le_of_ble_eq_true rfl) ?_
  intro p e s m args below meth c ls S hr hlk hsz hA hK hw hl hmn
  have S : CallFix p m c cX4_readSum 4 s args wsX4_readSum RX4 := S
  obtain ⟨hx, hb, hml, hown, hts⟩ := id S
  have hl : lv_has ls 4 [(0, .ref (gAd G 30)), (1, .int a1)] := hl
  have hinX4 : ∀ w ∈ wsX40, w ∈ wsX4_readSum := by decide +kernel
  have L7 : ∀ (v1 : Int32) (n7 : Nat) (v2 : Int32) (σ : Sg) (H : Heap) (locs : List Loc) (ls : Array Slot) (hg : g_X4_readSum_l7 F N ln RR v1 n7 v2 σ = some σR) (hw : XD G (gA G sz) s.heap σ H locs) (hl : lv_has ls 4 [(0, .ref (gAd G 30)), (1, .int v1), (2, .int v2)]), W p l e (headSpec wsX4_readSum (rmG (d + 1))).room s m args below meth c H locs 0 0 (MQ below (QcV G (gA G sz) σR) args s 0 0 (gA G sz)) (F0 m 7 ls []) := by
    intro v1
    intro n7
    induction n7 with
    | zero => intro v2 σ H locs ls hg hw hl; exact no_e hg
    | succ n7 ih7 =>
      have J48 : ∀ (v2 : Int32) (u0 : Int32) (σ : Sg) (H : Heap) (locs : List Loc) (ls : Array Slot) (hg : g_X4_readSum_b48 F N ln RR (fun v2_ σ_ => g_X4_readSum_l7 F N ln RR v1 n7 v2_ σ_) v1 v2 u0 σ = some σR) (hw : XD G (gA G sz) s.heap σ H locs) (hl : lv_has ls 4 [(0, .ref (gAd G 30)), (1, .int v1), (2, .int v2)]), W p l e (headSpec wsX4_readSum (rmG (d + 1))).room s m args below meth c H locs 0 0 (MQ below (QcV G (gA G sz) σR) args s 0 0 (gA G sz)) (F0 m 48 ls [.int u0]) := by
        intro v2 u0 σ H locs ls hg hw hl
        rw [g_X4_readSum_b48] at hg
        refine lv_istore_n (lv' := [(3, .int u0), (0, .ref (gAd G 30)), (1, .int v1), (2, .int v2)]) hx hb dX4_readSum_48 rfl hl (by decide) rfl (fun ls hl => ?_)
        refine lv_aload_n hx hb dX4_readSum_49 rfl (lv_at hl 1 rfl) ?_
        obtain ⟨s_1, h_3, hg⟩ := bnV_e hg
        refine r_vV (As := []) (rest := []) S hA hK hw (c_X4_advance l hG  h_3) (cwV 0 hts gX4_readSum_X4_advance rfl rfl rfl (by decide +kernel) ⟨by show 10 + 1 ≤ d + 1 + 20; omega, by show 8 + (1 + 11) + 448 ≤ 24 * (d + 1) + 700; omega⟩) (r_recv hK hw (kX_30 hG).1 (kX_30 hG).2 rfl) rfl hl.1 (Nat.le_of_ble_eq_true rfl) dX4_readSum_50 ⟨Nat.zero_le _, Nat.zero_le _⟩ rfl (fun H locs hw => ?_)
        refine lv_aload_n hx hb dX4_readSum_53 rfl (lv_at hl 1 rfl) ?_
        refine lv_iload_n hx hb dX4_readSum_54 rfl (lv_at hl 2 rfl) ?_
        obtain ⟨s_4, h_6, hg⟩ := bnV_e hg
        refine r_vV (As := [.int v1]) (rest := []) S hA hK hw (hR5 h_6) (cwV 1 hts gX4_readSum_X4_readTerm rfl rfl rfl (by decide +kernel) ⟨by show d + 20 + 1 ≤ d + 1 + 20; omega, by show 8 + (3 + 11) + (24 * d + 700) ≤ 24 * (d + 1) + 700; omega⟩) (r_recv hK hw (kX_30 hG).1 (kX_30 hG).2 rfl) rfl hl.1 (Nat.le_of_ble_eq_true rfl) dX4_readSum_55 ⟨Nat.zero_le _, Nat.zero_le _⟩ rfl (fun H locs hw => ?_)
        refine lv_aload_n hx hb dX4_readSum_58 rfl (lv_at hl 1 rfl) ?_
        refine lv_iload_n hx hb dX4_readSum_59 rfl (lv_at hl 0 rfl) ?_
        obtain ⟨s_7, h_9, hg⟩ := bnV_e hg
        refine r_vV (As := [.int u0]) (rest := []) S hA hK hw (c_X4_write l hG  h_9) (cwV 1 hts gX4_readSum_X4_write rfl rfl rfl (by decide +kernel) ⟨by show 0 + 1 ≤ d + 1 + 20; omega, by show 8 + (2 + 11) + 0 ≤ 24 * (d + 1) + 700; omega⟩) (r_recv hK hw (kX_30 hG).1 (kX_30 hG).2 rfl) rfl hl.1 (Nat.le_of_ble_eq_true rfl) dX4_readSum_60 ⟨Nat.zero_le _, Nat.zero_le _⟩ rfl (fun H locs hw => ?_)
        refine lv_iinc (v := (v2 + 1)) (lv' := [(2, .int (v2 + 1)), (3, .int u0), (0, .ref (gAd G 30)), (1, .int v1)]) hx hb dX4_readSum_63 hl (k := 3) rfl rfl (by decide) rfl (fun ls hl => ?_)
        refine lv_goto (tgt := 7) hx hb dX4_readSum_66 (by decide) ?_
        exact ih7 _ _ _ _ _ hg hw (lv_sub hl [2, 3, 0] rfl)
      have J32 : ∀ (v2 : Int32) (σ : Sg) (H : Heap) (locs : List Loc) (ls : Array Slot) (hg : g_X4_readSum_b32 F N ln RR (fun v2_ σ_ => g_X4_readSum_l7 F N ln RR v1 n7 v2_ σ_) v1 v2 σ = some σR) (hw : XD G (gA G sz) s.heap σ H locs) (hl : lv_has ls 4 [(0, .ref (gAd G 30)), (1, .int v1), (2, .int v2)]), W p l e (headSpec wsX4_readSum (rmG (d + 1))).room s m args below meth c H locs 0 0 (MQ below (QcV G (gA G sz) σR) args s 0 0 (gA G sz)) (F0 m 32 ls []) := by
        intro v2 σ H locs ls hg hw hl
        rw [g_X4_readSum_b32] at hg
        refine lv_aload_n hx hb dX4_readSum_32 rfl (lv_at hl 0 rfl) ?_
        refine r_get (C := RX4) (T := TX4) (N := 10) S hK hw (kX_30 hG).1 (kX_30 hG).2 rfl hinX4 6 (by decide) rfl (hts (.fieldLink RX4 44 "SoupByRank$Tape" "token" "I") (by decide +kernel)) rfl dX4_readSum_33 ?_
        refine lv_bipush (v := 43) hx hb dX4_readSum_36 (by decide) ?_
        refine lv_icmp_ne (tgt := 46) hx hb dX4_readSum_38 (by decide) (fun c_10 => ?_) (fun c_10 => ?_)
        · have hg := it_n hg c_10
          refine lv_bipush (v := (-11)) hx hb dX4_readSum_46 (by decide) ?_
          exact J48 v2 (-11) _ _ _ _ hg hw (lv_sub hl [0, 1, 2] rfl)
        · have hg := it_p hg c_10
          refine lv_bipush (v := (-10)) hx hb dX4_readSum_41 (by decide) ?_
          refine lv_goto (tgt := 48) hx hb dX4_readSum_43 (by decide) ?_
          exact J48 v2 (-10) _ _ _ _ hg hw (lv_sub hl [0, 1, 2] rfl)
      intro v2 σ H locs ls hg hw hl
      rw [g_X4_readSum_l7] at hg
      refine lv_iload_n hx hb dX4_readSum_7 rfl (lv_at hl 2 rfl) ?_
      refine lv_sipush (v := 160) hx hb dX4_readSum_8 (by decide) ?_
      refine lv_icmp_ge (tgt := 69) hx hb dX4_readSum_11 (by decide) (fun c_11 => ?_) (fun c_11 => ?_)
      · have hg := it_p hg c_11
        exact r_vreti S hr hlk hw.2.2.2.2 hw hg dX4_readSum_69
      · have hg := it_n hg c_11
        refine lv_aload_n hx hb dX4_readSum_14 rfl (lv_at hl 0 rfl) ?_
        refine r_get (C := RX4) (T := TX4) (N := 10) S hK hw (kX_30 hG).1 (kX_30 hG).2 rfl hinX4 6 (by decide) rfl (hts (.fieldLink RX4 44 "SoupByRank$Tape" "token" "I") (by decide +kernel)) rfl dX4_readSum_15 ?_
        refine lv_bipush (v := 43) hx hb dX4_readSum_18 (by decide) ?_
        refine lv_icmp_eq (tgt := 32) hx hb dX4_readSum_20 (by decide) (fun c_12 => ?_) (fun c_12 => ?_)
        · have hg := it_p hg c_12
          exact J32 v2 _ _ _ _ hg hw (lv_sub hl [0, 1, 2] rfl)
        · have hg := it_n hg c_12
          refine lv_aload_n hx hb dX4_readSum_23 rfl (lv_at hl 0 rfl) ?_
          refine r_get (C := RX4) (T := TX4) (N := 10) S hK hw (kX_30 hG).1 (kX_30 hG).2 rfl hinX4 6 (by decide) rfl (hts (.fieldLink RX4 44 "SoupByRank$Tape" "token" "I") (by decide +kernel)) rfl dX4_readSum_24 ?_
          refine lv_bipush (v := 45) hx hb dX4_readSum_27 (by decide) ?_
          refine lv_icmp_ne (tgt := 69) hx hb dX4_readSum_29 (by decide) (fun c_13 => ?_) (fun c_13 => ?_)
          · have hg := it_n hg c_13
            exact r_vreti S hr hlk hw.2.2.2.2 hw hg dX4_readSum_69
          · have hg := it_p hg c_13
            exact J32 v2 _ _ _ _ hg hw (lv_sub hl [0, 1, 2] rfl)
  rw [g_X4_readSum] at hg
  refine lv_aload_n hx hb dX4_readSum_0 rfl (lv_at hl 0 rfl) ?_
  refine lv_iload_n hx hb dX4_readSum_1 rfl (lv_at hl 1 rfl) ?_
  obtain ⟨s_14, h_16, hg⟩ := bnV_e hg
  refine r_vV (As := [.int a1]) (rest := []) S hA hK hw (hR5 h_16) (cwV 1 hts gX4_readSum_X4_readTerm rfl rfl rfl (by decide +kernel) ⟨by show d + 20 + 1 ≤ d + 1 + 20; omega, by show 8 + (3 + 11) + (24 * d + 700) ≤ 24 * (d + 1) + 700; omega⟩) (r_recv hK hw (kX_30 hG).1 (kX_30 hG).2 rfl) rfl hl.1 (Nat.le_of_ble_eq_true rfl) dX4_readSum_2 ⟨Nat.zero_le _, Nat.zero_le _⟩ rfl (fun H locs hw => ?_)
  refine lv_iconst (v := 0) hx hb dX4_readSum_5 (by decide) ?_
  refine lv_istore_n (lv' := [(2, .int 0), (0, .ref (gAd G 30)), (1, .int a1)]) hx hb dX4_readSum_6 rfl hl (by decide) rfl (fun ls hl => ?_)
  exact L7 a1 F _ _ _ _ _ hg hw (lv_sub hl [1, 2, 0] rfl)
set_option maxHeartbeats 4000000 in
set_option maxRecDepth 100000 in
theorem c_X4_readComparison (l : Launch) {G : GW} {N : Nat} {ln : Nat → Nat} {cT cS : ClassId} (hG : isX G N ln cT cS) {d : Nat} {RR : Nat → Int32 → Sg → Option Sg} (hR0 : ∀ {a : Int32} {σ σ2 : Sg} {sz : Nat}, RR 0 a σ = some σ2 → Met l yX4_readEither wsX4_readEither (rmG d) (va_Pc [.ref (gAd G 30), .int a] (PX G σ sz)) (QcV G (gA G sz) σ2) 0 0 (gA G sz)) (hR1 : ∀ {a : Int32} {σ σ2 : Sg} {sz : Nat}, RR 1 a σ = some σ2 → Met l yX4_readBoth wsX4_readBoth (rmG d) (va_Pc [.ref (gAd G 30), .int a] (PX G σ sz)) (QcV G (gA G sz) σ2) 0 0 (gA G sz)) (hR2 : ∀ {a : Int32} {σ σ2 : Sg} {sz : Nat}, RR 2 a σ = some σ2 → Met l yX4_readNot wsX4_readNot (rmG d) (va_Pc [.ref (gAd G 30), .int a] (PX G σ sz)) (QcV G (gA G sz) σ2) 0 0 (gA G sz)) (hR3 : ∀ {a : Int32} {σ σ2 : Sg} {sz : Nat}, RR 3 a σ = some σ2 → Met l yX4_readComparison wsX4_readComparison (rmG d) (va_Pc [.ref (gAd G 30), .int a] (PX G σ sz)) (QcV G (gA G sz) σ2) 0 0 (gA G sz)) (hR4 : ∀ {a : Int32} {σ σ2 : Sg} {sz : Nat}, RR 4 a σ = some σ2 → Met l yX4_readSum wsX4_readSum (rmG d) (va_Pc [.ref (gAd G 30), .int a] (PX G σ sz)) (QcV G (gA G sz) σ2) 0 0 (gA G sz)) (hR5 : ∀ {a : Int32} {σ σ2 : Sg} {sz : Nat}, RR 5 a σ = some σ2 → Met l yX4_readTerm wsX4_readTerm (rmG d) (va_Pc [.ref (gAd G 30), .int a] (PX G σ sz)) (QcV G (gA G sz) σ2) 0 0 (gA G sz)) (hR6 : ∀ {a : Int32} {σ σ2 : Sg} {sz : Nat}, RR 6 a σ = some σ2 → Met l yX4_readOne wsX4_readOne (rmG d) (va_Pc [.ref (gAd G 30), .int a] (PX G σ sz)) (QcV G (gA G sz) σ2) 0 0 (gA G sz)) {F sz : Nat} {a1 : Int32} {σ σR : Sg} (hg : g_X4_readComparison F N ln RR a1 σ = some σR) : Met l yX4_readComparison wsX4_readComparison (rmG (d + 1)) (va_Pc [.ref (gAd G 30), .int a1] (PX G σ sz)) (QcV G (gA G sz) σR) 0 0 (gA G sz) := by
  refine metX (by decide) rfl (Nat.le_of_ble_eq_true rfl) ?_
  intro p e s m args below meth c ls S hr hlk hsz hA hK hw hl hmn
  have S : CallFix p m c cX4_readComparison 3 s args wsX4_readComparison RX4 := S
  obtain ⟨hx, hb, hml, hown, hts⟩ := id S
  have hl : lv_has ls 3 [(0, .ref (gAd G 30)), (1, .int a1)] := hl
  have hinX4 : ∀ w ∈ wsX40, w ∈ wsX4_readComparison := by decide +kernel
  have J39 : ∀ (v1 : Int32) (u0 : Int32) (σ : Sg) (H : Heap) (locs : List Loc) (ls : Array Slot) (hg : g_X4_readComparison_b39 F N ln RR v1 u0 σ = some σR) (hw : XD G (gA G sz) s.heap σ H locs) (hl : lv_has ls 3 [(0, .ref (gAd G 30)), (1, .int v1)]), W p l e (headSpec wsX4_readComparison (rmG (d + 1))).room s m args below meth c H locs 0 0 (MQ below (QcV G (gA G sz) σR) args s 0 0 (gA G sz)) (F0 m 39 ls [.int u0]) := by
    intro v1 u0 σ H locs ls hg hw hl
    rw [g_X4_readComparison_b39] at hg
    refine lv_istore_n (lv' := [(2, .int u0), (0, .ref (gAd G 30)), (1, .int v1)]) hx hb dX4_readComparison_39 rfl hl (by decide) rfl (fun ls hl => ?_)
    refine lv_aload_n hx hb dX4_readComparison_40 rfl (lv_at hl 1 rfl) ?_
    obtain ⟨s_1, h_3, hg⟩ := bnV_e hg
    refine r_vV (As := []) (rest := []) S hA hK hw (c_X4_advance l hG  h_3) (cwV 0 hts gX4_readComparison_X4_advance rfl rfl rfl (by decide +kernel) ⟨by show 10 + 1 ≤ d + 1 + 20; omega, by show 8 + (1 + 11) + 448 ≤ 24 * (d + 1) + 700; omega⟩) (r_recv hK hw (kX_30 hG).1 (kX_30 hG).2 rfl) rfl hl.1 (Nat.le_of_ble_eq_true rfl) dX4_readComparison_41 ⟨Nat.zero_le _, Nat.zero_le _⟩ rfl (fun H locs hw => ?_)
    refine lv_aload_n hx hb dX4_readComparison_44 rfl (lv_at hl 1 rfl) ?_
    refine lv_iload_n hx hb dX4_readComparison_45 rfl (lv_at hl 2 rfl) ?_
    obtain ⟨s_4, h_6, hg⟩ := bnV_e hg
    refine r_vV (As := [.int v1]) (rest := []) S hA hK hw (hR4 h_6) (cwV 1 hts gX4_readComparison_X4_readSum rfl rfl rfl (by decide +kernel) ⟨by show d + 20 + 1 ≤ d + 1 + 20; omega, by show 8 + (4 + 11) + (24 * d + 700) ≤ 24 * (d + 1) + 700; omega⟩) (r_recv hK hw (kX_30 hG).1 (kX_30 hG).2 rfl) rfl hl.1 (Nat.le_of_ble_eq_true rfl) dX4_readComparison_46 ⟨Nat.zero_le _, Nat.zero_le _⟩ rfl (fun H locs hw => ?_)
    refine lv_aload_n hx hb dX4_readComparison_49 rfl (lv_at hl 1 rfl) ?_
    refine lv_iload_n hx hb dX4_readComparison_50 rfl (lv_at hl 0 rfl) ?_
    obtain ⟨s_7, h_9, hg⟩ := bnV_e hg
    refine r_vV (As := [.int u0]) (rest := []) S hA hK hw (c_X4_write l hG  h_9) (cwV 1 hts gX4_readComparison_X4_write rfl rfl rfl (by decide +kernel) ⟨by show 0 + 1 ≤ d + 1 + 20; omega, by show 8 + (2 + 11) + 0 ≤ 24 * (d + 1) + 700; omega⟩) (r_recv hK hw (kX_30 hG).1 (kX_30 hG).2 rfl) rfl hl.1 (Nat.le_of_ble_eq_true rfl) dX4_readComparison_51 ⟨Nat.zero_le _, Nat.zero_le _⟩ rfl (fun H locs hw => ?_)
    exact r_vreti S hr hlk hw.2.2.2.2 hw hg dX4_readComparison_54
  have J23 : ∀ (v1 : Int32) (σ : Sg) (H : Heap) (locs : List Loc) (ls : Array Slot) (hg : g_X4_readComparison_b23 F N ln RR v1 σ = some σR) (hw : XD G (gA G sz) s.heap σ H locs) (hl : lv_has ls 3 [(0, .ref (gAd G 30)), (1, .int v1)]), W p l e (headSpec wsX4_readComparison (rmG (d + 1))).room s m args below meth c H locs 0 0 (MQ below (QcV G (gA G sz) σR) args s 0 0 (gA G sz)) (F0 m 23 ls []) := by
    intro v1 σ H locs ls hg hw hl
    rw [g_X4_readComparison_b23] at hg
    refine lv_aload_n hx hb dX4_readComparison_23 rfl (lv_at hl 0 rfl) ?_
    refine r_get (C := RX4) (T := TX4) (N := 10) S hK hw (kX_30 hG).1 (kX_30 hG).2 rfl hinX4 6 (by decide) rfl (hts (.fieldLink RX4 44 "SoupByRank$Tape" "token" "I") (by decide +kernel)) rfl dX4_readComparison_24 ?_
    refine lv_bipush (v := 60) hx hb dX4_readComparison_27 (by decide) ?_
    refine lv_icmp_ne (tgt := 37) hx hb dX4_readComparison_29 (by decide) (fun c_10 => ?_) (fun c_10 => ?_)
    · have hg := it_n hg c_10
      refine lv_bipush (v := (-13)) hx hb dX4_readComparison_37 (by decide) ?_
      exact J39 v1 (-13) _ _ _ _ hg hw (lv_sub hl [0, 1] rfl)
    · have hg := it_p hg c_10
      refine lv_bipush (v := (-12)) hx hb dX4_readComparison_32 (by decide) ?_
      refine lv_goto (tgt := 39) hx hb dX4_readComparison_34 (by decide) ?_
      exact J39 v1 (-12) _ _ _ _ hg hw (lv_sub hl [0, 1] rfl)
  rw [g_X4_readComparison] at hg
  refine lv_aload_n hx hb dX4_readComparison_0 rfl (lv_at hl 0 rfl) ?_
  refine lv_iload_n hx hb dX4_readComparison_1 rfl (lv_at hl 1 rfl) ?_
  obtain ⟨s_11, h_13, hg⟩ := bnV_e hg
  refine r_vV (As := [.int a1]) (rest := []) S hA hK hw (hR4 h_13) (cwV 1 hts gX4_readComparison_X4_readSum rfl rfl rfl (by decide +kernel) ⟨by show d + 20 + 1 ≤ d + 1 + 20; omega, by show 8 + (4 + 11) + (24 * d + 700) ≤ 24 * (d + 1) + 700; omega⟩) (r_recv hK hw (kX_30 hG).1 (kX_30 hG).2 rfl) rfl hl.1 (Nat.le_of_ble_eq_true rfl) dX4_readComparison_2 ⟨Nat.zero_le _, Nat.zero_le _⟩ rfl (fun H locs hw => ?_)
  refine lv_aload_n hx hb dX4_readComparison_5 rfl (lv_at hl 0 rfl) ?_
  refine r_get (C := RX4) (T := TX4) (N := 10) S hK hw (kX_30 hG).1 (kX_30 hG).2 rfl hinX4 6 (by decide) rfl (hts (.fieldLink RX4 44 "SoupByRank$Tape" "token" "I") (by decide +kernel)) rfl dX4_readComparison_6 ?_
  refine lv_bipush (v := 60) hx hb dX4_readComparison_9 (by decide) ?_
  refine lv_icmp_eq (tgt := 23) hx hb dX4_readComparison_11 (by decide) (fun c_14 => ?_) (fun c_14 => ?_)
  · have hg := it_p hg c_14
    exact J23 a1 _ _ _ _ hg hw (lv_sub hl [0, 1] rfl)
  · have hg := it_n hg c_14
    refine lv_aload_n hx hb dX4_readComparison_14 rfl (lv_at hl 0 rfl) ?_
    refine r_get (C := RX4) (T := TX4) (N := 10) S hK hw (kX_30 hG).1 (kX_30 hG).2 rfl hinX4 6 (by decide) rfl (hts (.fieldLink RX4 44 "SoupByRank$Tape" "token" "I") (by decide +kernel)) rfl dX4_readComparison_15 ?_
    refine lv_bipush (v := 61) hx hb dX4_readComparison_18 (by decide) ?_
    refine lv_icmp_ne (tgt := 54) hx hb dX4_readComparison_20 (by decide) (fun c_15 => ?_) (fun c_15 => ?_)
    · have hg := it_n hg c_15
      exact r_vreti S hr hlk hw.2.2.2.2 hw hg dX4_readComparison_54
    · have hg := it_p hg c_15
      exact J23 a1 _ _ _ _ hg hw (lv_sub hl [0, 1] rfl)
set_option maxHeartbeats 4000000 in
set_option maxRecDepth 100000 in
theorem c_X4_readNot (l : Launch) {G : GW} {N : Nat} {ln : Nat → Nat} {cT cS : ClassId} (hG : isX G N ln cT cS) {d : Nat} {RR : Nat → Int32 → Sg → Option Sg} (hR0 : ∀ {a : Int32} {σ σ2 : Sg} {sz : Nat}, RR 0 a σ = some σ2 → Met l yX4_readEither wsX4_readEither (rmG d) (va_Pc [.ref (gAd G 30), .int a] (PX G σ sz)) (QcV G (gA G sz) σ2) 0 0 (gA G sz)) (hR1 : ∀ {a : Int32} {σ σ2 : Sg} {sz : Nat}, RR 1 a σ = some σ2 → Met l yX4_readBoth wsX4_readBoth (rmG d) (va_Pc [.ref (gAd G 30), .int a] (PX G σ sz)) (QcV G (gA G sz) σ2) 0 0 (gA G sz)) (hR2 : ∀ {a : Int32} {σ σ2 : Sg} {sz : Nat}, RR 2 a σ = some σ2 → Met l yX4_readNot wsX4_readNot (rmG d) (va_Pc [.ref (gAd G 30), .int a] (PX G σ sz)) (QcV G (gA G sz) σ2) 0 0 (gA G sz)) (hR3 : ∀ {a : Int32} {σ σ2 : Sg} {sz : Nat}, RR 3 a σ = some σ2 → Met l yX4_readComparison wsX4_readComparison (rmG d) (va_Pc [.ref (gAd G 30), .int a] (PX G σ sz)) (QcV G (gA G sz) σ2) 0 0 (gA G sz)) (hR4 : ∀ {a : Int32} {σ σ2 : Sg} {sz : Nat}, RR 4 a σ = some σ2 → Met l yX4_readSum wsX4_readSum (rmG d) (va_Pc [.ref (gAd G 30), .int a] (PX G σ sz)) (QcV G (gA G sz) σ2) 0 0 (gA G sz)) (hR5 : ∀ {a : Int32} {σ σ2 : Sg} {sz : Nat}, RR 5 a σ = some σ2 → Met l yX4_readTerm wsX4_readTerm (rmG d) (va_Pc [.ref (gAd G 30), .int a] (PX G σ sz)) (QcV G (gA G sz) σ2) 0 0 (gA G sz)) (hR6 : ∀ {a : Int32} {σ σ2 : Sg} {sz : Nat}, RR 6 a σ = some σ2 → Met l yX4_readOne wsX4_readOne (rmG d) (va_Pc [.ref (gAd G 30), .int a] (PX G σ sz)) (QcV G (gA G sz) σ2) 0 0 (gA G sz)) {F sz : Nat} {a1 : Int32} {σ σR : Sg} (hg : g_X4_readNot F N ln RR a1 σ = some σR) : Met l yX4_readNot wsX4_readNot (rmG (d + 1)) (va_Pc [.ref (gAd G 30), .int a1] (PX G σ sz)) (QcV G (gA G sz) σR) 0 0 (gA G sz) := by
  refine metX (by decide) rfl (Nat.le_of_ble_eq_true rfl) ?_
  intro p e s m args below meth c ls S hr hlk hsz hA hK hw hl hmn
  have S : CallFix p m c cX4_readNot 2 s args wsX4_readNot RX4 := S
  obtain ⟨hx, hb, hml, hown, hts⟩ := id S
  have hl : lv_has ls 2 [(0, .ref (gAd G 30)), (1, .int a1)] := hl
  have hinX4 : ∀ w ∈ wsX40, w ∈ wsX4_readNot := by decide +kernel
  rw [g_X4_readNot] at hg
  refine lv_aload_n hx hb dX4_readNot_0 rfl (lv_at hl 0 rfl) ?_
  refine r_get (C := RX4) (T := TX4) (N := 10) S hK hw (kX_30 hG).1 (kX_30 hG).2 rfl hinX4 6 (by decide) rfl (hts (.fieldLink RX4 44 "SoupByRank$Tape" "token" "I") (by decide +kernel)) rfl dX4_readNot_1 ?_
  refine lv_sipush (v := 1005) hx hb dX4_readNot_4 (by decide) ?_
  refine lv_icmp_eq (tgt := 18) hx hb dX4_readNot_7 (by decide) (fun c_1 => ?_) (fun c_1 => ?_)
  · have hg := it_p hg c_1
    refine lv_iload_n hx hb dX4_readNot_18 rfl (lv_at hl 1 rfl) ?_
    refine lv_iconst (v := 5) hx hb dX4_readNot_19 (by decide) ?_
    refine lv_icmp_lt (tgt := 30) hx hb dX4_readNot_20 (by decide) (fun c_2 => ?_) (fun c_2 => ?_)
    · have hg := it_p hg c_2
      refine lv_aload_n hx hb dX4_readNot_30 rfl (lv_at hl 0 rfl) ?_
      obtain ⟨s_3, h_5, hg⟩ := bnV_e hg
      refine r_vV (As := []) (rest := []) S hA hK hw (c_X4_advance l hG  h_5) (cwV 0 hts gX4_readNot_X4_advance rfl rfl rfl (by decide +kernel) ⟨by show 10 + 1 ≤ d + 1 + 20; omega, by show 8 + (1 + 11) + 448 ≤ 24 * (d + 1) + 700; omega⟩) (r_recv hK hw (kX_30 hG).1 (kX_30 hG).2 rfl) rfl hl.1 (Nat.le_of_ble_eq_true rfl) dX4_readNot_31 ⟨Nat.zero_le _, Nat.zero_le _⟩ rfl (fun H locs hw => ?_)
      refine lv_aload_n hx hb dX4_readNot_34 rfl (lv_at hl 0 rfl) ?_
      refine lv_iload_n hx hb dX4_readNot_35 rfl (lv_at hl 1 rfl) ?_
      refine lv_iconst (v := 1) hx hb dX4_readNot_36 (by decide) ?_
      refine lv_iadd hx hb dX4_readNot_37 ?_
      obtain ⟨s_6, h_8, hg⟩ := bnV_e hg
      refine r_vV (As := [.int (a1 + 1)]) (rest := []) S hA hK hw (hR2 h_8) (cwV 1 hts gX4_readNot_X4_readNot rfl rfl rfl (by decide +kernel) ⟨by show d + 20 + 1 ≤ d + 1 + 20; omega, by show 8 + (2 + 11) + (24 * d + 700) ≤ 24 * (d + 1) + 700; omega⟩) (r_recv hK hw (kX_30 hG).1 (kX_30 hG).2 rfl) rfl hl.1 (Nat.le_of_ble_eq_true rfl) dX4_readNot_38 ⟨Nat.zero_le _, Nat.zero_le _⟩ rfl (fun H locs hw => ?_)
      refine lv_aload_n hx hb dX4_readNot_41 rfl (lv_at hl 0 rfl) ?_
      refine lv_bipush (v := (-8)) hx hb dX4_readNot_42 (by decide) ?_
      obtain ⟨s_9, h_11, hg⟩ := bnV_e hg
      refine r_vV (As := [.int (-8)]) (rest := []) S hA hK hw (c_X4_write l hG  h_11) (cwV 1 hts gX4_readNot_X4_write rfl rfl rfl (by decide +kernel) ⟨by show 0 + 1 ≤ d + 1 + 20; omega, by show 8 + (2 + 11) + 0 ≤ 24 * (d + 1) + 700; omega⟩) (r_recv hK hw (kX_30 hG).1 (kX_30 hG).2 rfl) rfl hl.1 (Nat.le_of_ble_eq_true rfl) dX4_readNot_44 ⟨Nat.zero_le _, Nat.zero_le _⟩ rfl (fun H locs hw => ?_)
      exact r_vreti S hr hlk hw.2.2.2.2 hw hg dX4_readNot_47
    · have hg := it_n hg c_2
      refine lv_aload_n hx hb dX4_readNot_23 rfl (lv_at hl 0 rfl) ?_
      obtain ⟨s_12, h_14, hg⟩ := bnV_e hg
      refine r_vV (As := []) (rest := []) S hA hK hw (c_X4_refuse l hG  h_14) (cwV 0 hts gX4_readNot_X4_refuse rfl rfl rfl (by decide +kernel) ⟨by show 0 + 1 ≤ d + 1 + 20; omega, by show 8 + (1 + 11) + 0 ≤ 24 * (d + 1) + 700; omega⟩) (r_recv hK hw (kX_30 hG).1 (kX_30 hG).2 rfl) rfl hl.1 (Nat.le_of_ble_eq_true rfl) dX4_readNot_24 ⟨Nat.zero_le _, Nat.zero_le _⟩ rfl (fun H locs hw => ?_)
      refine lv_goto (tgt := 47) hx hb dX4_readNot_27 (by decide) ?_
      exact r_vreti S hr hlk hw.2.2.2.2 hw hg dX4_readNot_47
  · have hg := it_n hg c_1
    refine lv_aload_n hx hb dX4_readNot_10 rfl (lv_at hl 0 rfl) ?_
    refine lv_iload_n hx hb dX4_readNot_11 rfl (lv_at hl 1 rfl) ?_
    obtain ⟨s_15, h_17, hg⟩ := bnV_e hg
    refine r_vV (As := [.int a1]) (rest := []) S hA hK hw (hR3 h_17) (cwV 1 hts gX4_readNot_X4_readComparison rfl rfl rfl (by decide +kernel) ⟨by show d + 20 + 1 ≤ d + 1 + 20; omega, by show 8 + (3 + 11) + (24 * d + 700) ≤ 24 * (d + 1) + 700; omega⟩) (r_recv hK hw (kX_30 hG).1 (kX_30 hG).2 rfl) rfl hl.1 (Nat.le_of_ble_eq_true rfl) dX4_readNot_12 ⟨Nat.zero_le _, Nat.zero_le _⟩ rfl (fun H locs hw => ?_)
    refine lv_goto (tgt := 47) hx hb dX4_readNot_15 (by decide) ?_
    exact r_vreti S hr hlk hw.2.2.2.2 hw hg dX4_readNot_47
set_option maxHeartbeats 4000000 in
set_option maxRecDepth 100000 in
theorem c_X4_readBoth (l : Launch) {G : GW} {N : Nat} {ln : Nat → Nat} {cT cS : ClassId} (hG : isX G N ln cT cS) {d : Nat} {RR : Nat → Int32 → Sg → Option Sg} (hR0 : ∀ {a : Int32} {σ σ2 : Sg} {sz : Nat}, RR 0 a σ = some σ2 → Met l yX4_readEither wsX4_readEither (rmG d) (va_Pc [.ref (gAd G 30), .int a] (PX G σ sz)) (QcV G (gA G sz) σ2) 0 0 (gA G sz)) (hR1 : ∀ {a : Int32} {σ σ2 : Sg} {sz : Nat}, RR 1 a σ = some σ2 → Met l yX4_readBoth wsX4_readBoth (rmG d) (va_Pc [.ref (gAd G 30), .int a] (PX G σ sz)) (QcV G (gA G sz) σ2) 0 0 (gA G sz)) (hR2 : ∀ {a : Int32} {σ σ2 : Sg} {sz : Nat}, RR 2 a σ = some σ2 → Met l yX4_readNot wsX4_readNot (rmG d) (va_Pc [.ref (gAd G 30), .int a] (PX G σ sz)) (QcV G (gA G sz) σ2) 0 0 (gA G sz)) (hR3 : ∀ {a : Int32} {σ σ2 : Sg} {sz : Nat}, RR 3 a σ = some σ2 → Met l yX4_readComparison wsX4_readComparison (rmG d) (va_Pc [.ref (gAd G 30), .int a] (PX G σ sz)) (QcV G (gA G sz) σ2) 0 0 (gA G sz)) (hR4 : ∀ {a : Int32} {σ σ2 : Sg} {sz : Nat}, RR 4 a σ = some σ2 → Met l yX4_readSum wsX4_readSum (rmG d) (va_Pc [.ref (gAd G 30), .int a] (PX G σ sz)) (QcV G (gA G sz) σ2) 0 0 (gA G sz)) (hR5 : ∀ {a : Int32} {σ σ2 : Sg} {sz : Nat}, RR 5 a σ = some σ2 → Met l yX4_readTerm wsX4_readTerm (rmG d) (va_Pc [.ref (gAd G 30), .int a] (PX G σ sz)) (QcV G (gA G sz) σ2) 0 0 (gA G sz)) (hR6 : ∀ {a : Int32} {σ σ2 : Sg} {sz : Nat}, RR 6 a σ = some σ2 → Met l yX4_readOne wsX4_readOne (rmG d) (va_Pc [.ref (gAd G 30), .int a] (PX G σ sz)) (QcV G (gA G sz) σ2) 0 0 (gA G sz)) {F sz : Nat} {a1 : Int32} {σ σR : Sg} (hg : g_X4_readBoth F N ln RR a1 σ = some σR) : Met l yX4_readBoth wsX4_readBoth (rmG (d + 1)) (va_Pc [.ref (gAd G 30), .int a1] (PX G σ sz)) (QcV G (gA G sz) σR) 0 0 (gA G sz) := by
  refine metX (by decide) rfl (Nat.le_of_ble_eq_true rfl) ?_
  intro p e s m args below meth c ls S hr hlk hsz hA hK hw hl hmn
  have S : CallFix p m c cX4_readBoth 3 s args wsX4_readBoth RX4 := S
  obtain ⟨hx, hb, hml, hown, hts⟩ := id S
  have hl : lv_has ls 3 [(0, .ref (gAd G 30)), (1, .int a1)] := hl
  have hinX4 : ∀ w ∈ wsX40, w ∈ wsX4_readBoth := by decide +kernel
  have L7 : ∀ (v1 : Int32) (n7 : Nat) (v2 : Int32) (σ : Sg) (H : Heap) (locs : List Loc) (ls : Array Slot) (hg : g_X4_readBoth_l7 F N ln RR v1 n7 v2 σ = some σR) (hw : XD G (gA G sz) s.heap σ H locs) (hl : lv_has ls 3 [(0, .ref (gAd G 30)), (1, .int v1), (2, .int v2)]), W p l e (headSpec wsX4_readBoth (rmG (d + 1))).room s m args below meth c H locs 0 0 (MQ below (QcV G (gA G sz) σR) args s 0 0 (gA G sz)) (F0 m 7 ls []) := by
    intro v1
    intro n7
    induction n7 with
    | zero => intro v2 σ H locs ls hg hw hl; exact no_e hg
    | succ n7 ih7 =>
      intro v2 σ H locs ls hg hw hl
      rw [g_X4_readBoth_l7] at hg
      refine lv_iload_n hx hb dX4_readBoth_7 rfl (lv_at hl 2 rfl) ?_
      refine lv_sipush (v := 160) hx hb dX4_readBoth_8 (by decide) ?_
      refine lv_icmp_ge (tgt := 45) hx hb dX4_readBoth_11 (by decide) (fun c_1 => ?_) (fun c_1 => ?_)
      · have hg := it_p hg c_1
        exact r_vreti S hr hlk hw.2.2.2.2 hw hg dX4_readBoth_45
      · have hg := it_n hg c_1
        refine lv_aload_n hx hb dX4_readBoth_14 rfl (lv_at hl 0 rfl) ?_
        refine r_get (C := RX4) (T := TX4) (N := 10) S hK hw (kX_30 hG).1 (kX_30 hG).2 rfl hinX4 6 (by decide) rfl (hts (.fieldLink RX4 44 "SoupByRank$Tape" "token" "I") (by decide +kernel)) rfl dX4_readBoth_15 ?_
        refine lv_sipush (v := 1004) hx hb dX4_readBoth_18 (by decide) ?_
        refine lv_icmp_ne (tgt := 45) hx hb dX4_readBoth_21 (by decide) (fun c_2 => ?_) (fun c_2 => ?_)
        · have hg := it_n hg c_2
          exact r_vreti S hr hlk hw.2.2.2.2 hw hg dX4_readBoth_45
        · have hg := it_p hg c_2
          refine lv_aload_n hx hb dX4_readBoth_24 rfl (lv_at hl 0 rfl) ?_
          obtain ⟨s_3, h_5, hg⟩ := bnV_e hg
          refine r_vV (As := []) (rest := []) S hA hK hw (c_X4_advance l hG  h_5) (cwV 0 hts gX4_readBoth_X4_advance rfl rfl rfl (by decide +kernel) ⟨by show 10 + 1 ≤ d + 1 + 20; omega, by show 8 + (1 + 11) + 448 ≤ 24 * (d + 1) + 700; omega⟩) (r_recv hK hw (kX_30 hG).1 (kX_30 hG).2 rfl) rfl hl.1 (Nat.le_of_ble_eq_true rfl) dX4_readBoth_25 ⟨Nat.zero_le _, Nat.zero_le _⟩ rfl (fun H locs hw => ?_)
          refine lv_aload_n hx hb dX4_readBoth_28 rfl (lv_at hl 0 rfl) ?_
          refine lv_iload_n hx hb dX4_readBoth_29 rfl (lv_at hl 1 rfl) ?_
          obtain ⟨s_6, h_8, hg⟩ := bnV_e hg
          refine r_vV (As := [.int v1]) (rest := []) S hA hK hw (hR2 h_8) (cwV 1 hts gX4_readBoth_X4_readNot rfl rfl rfl (by decide +kernel) ⟨by show d + 20 + 1 ≤ d + 1 + 20; omega, by show 8 + (2 + 11) + (24 * d + 700) ≤ 24 * (d + 1) + 700; omega⟩) (r_recv hK hw (kX_30 hG).1 (kX_30 hG).2 rfl) rfl hl.1 (Nat.le_of_ble_eq_true rfl) dX4_readBoth_30 ⟨Nat.zero_le _, Nat.zero_le _⟩ rfl (fun H locs hw => ?_)
          refine lv_aload_n hx hb dX4_readBoth_33 rfl (lv_at hl 0 rfl) ?_
          refine lv_bipush (v := (-14)) hx hb dX4_readBoth_34 (by decide) ?_
          obtain ⟨s_9, h_11, hg⟩ := bnV_e hg
          refine r_vV (As := [.int (-14)]) (rest := []) S hA hK hw (c_X4_write l hG  h_11) (cwV 1 hts gX4_readBoth_X4_write rfl rfl rfl (by decide +kernel) ⟨by show 0 + 1 ≤ d + 1 + 20; omega, by show 8 + (2 + 11) + 0 ≤ 24 * (d + 1) + 700; omega⟩) (r_recv hK hw (kX_30 hG).1 (kX_30 hG).2 rfl) rfl hl.1 (Nat.le_of_ble_eq_true rfl) dX4_readBoth_36 ⟨Nat.zero_le _, Nat.zero_le _⟩ rfl (fun H locs hw => ?_)
          refine lv_iinc (v := (v2 + 1)) (lv' := [(2, .int (v2 + 1)), (0, .ref (gAd G 30)), (1, .int v1)]) hx hb dX4_readBoth_39 hl (k := 2) rfl rfl (by decide) rfl (fun ls hl => ?_)
          refine lv_goto (tgt := 7) hx hb dX4_readBoth_42 (by decide) ?_
          exact ih7 _ _ _ _ _ hg hw (lv_sub hl [1, 2, 0] rfl)
  rw [g_X4_readBoth] at hg
  refine lv_aload_n hx hb dX4_readBoth_0 rfl (lv_at hl 0 rfl) ?_
  refine lv_iload_n hx hb dX4_readBoth_1 rfl (lv_at hl 1 rfl) ?_
  obtain ⟨s_12, h_14, hg⟩ := bnV_e hg
  refine r_vV (As := [.int a1]) (rest := []) S hA hK hw (hR2 h_14) (cwV 1 hts gX4_readBoth_X4_readNot rfl rfl rfl (by decide +kernel) ⟨by show d + 20 + 1 ≤ d + 1 + 20; omega, by show 8 + (2 + 11) + (24 * d + 700) ≤ 24 * (d + 1) + 700; omega⟩) (r_recv hK hw (kX_30 hG).1 (kX_30 hG).2 rfl) rfl hl.1 (Nat.le_of_ble_eq_true rfl) dX4_readBoth_2 ⟨Nat.zero_le _, Nat.zero_le _⟩ rfl (fun H locs hw => ?_)
  refine lv_iconst (v := 0) hx hb dX4_readBoth_5 (by decide) ?_
  refine lv_istore_n (lv' := [(2, .int 0), (0, .ref (gAd G 30)), (1, .int a1)]) hx hb dX4_readBoth_6 rfl hl (by decide) rfl (fun ls hl => ?_)
  exact L7 a1 F _ _ _ _ _ hg hw (lv_sub hl [1, 2, 0] rfl)
set_option maxHeartbeats 4000000 in
set_option maxRecDepth 100000 in
theorem c_X4_readEither (l : Launch) {G : GW} {N : Nat} {ln : Nat → Nat} {cT cS : ClassId} (hG : isX G N ln cT cS) {d : Nat} {RR : Nat → Int32 → Sg → Option Sg} (hR0 : ∀ {a : Int32} {σ σ2 : Sg} {sz : Nat}, RR 0 a σ = some σ2 → Met l yX4_readEither wsX4_readEither (rmG d) (va_Pc [.ref (gAd G 30), .int a] (PX G σ sz)) (QcV G (gA G sz) σ2) 0 0 (gA G sz)) (hR1 : ∀ {a : Int32} {σ σ2 : Sg} {sz : Nat}, RR 1 a σ = some σ2 → Met l yX4_readBoth wsX4_readBoth (rmG d) (va_Pc [.ref (gAd G 30), .int a] (PX G σ sz)) (QcV G (gA G sz) σ2) 0 0 (gA G sz)) (hR2 : ∀ {a : Int32} {σ σ2 : Sg} {sz : Nat}, RR 2 a σ = some σ2 → Met l yX4_readNot wsX4_readNot (rmG d) (va_Pc [.ref (gAd G 30), .int a] (PX G σ sz)) (QcV G (gA G sz) σ2) 0 0 (gA G sz)) (hR3 : ∀ {a : Int32} {σ σ2 : Sg} {sz : Nat}, RR 3 a σ = some σ2 → Met l yX4_readComparison wsX4_readComparison (rmG d) (va_Pc [.ref (gAd G 30), .int a] (PX G σ sz)) (QcV G (gA G sz) σ2) 0 0 (gA G sz)) (hR4 : ∀ {a : Int32} {σ σ2 : Sg} {sz : Nat}, RR 4 a σ = some σ2 → Met l yX4_readSum wsX4_readSum (rmG d) (va_Pc [.ref (gAd G 30), .int a] (PX G σ sz)) (QcV G (gA G sz) σ2) 0 0 (gA G sz)) (hR5 : ∀ {a : Int32} {σ σ2 : Sg} {sz : Nat}, RR 5 a σ = some σ2 → Met l yX4_readTerm wsX4_readTerm (rmG d) (va_Pc [.ref (gAd G 30), .int a] (PX G σ sz)) (QcV G (gA G sz) σ2) 0 0 (gA G sz)) (hR6 : ∀ {a : Int32} {σ σ2 : Sg} {sz : Nat}, RR 6 a σ = some σ2 → Met l yX4_readOne wsX4_readOne (rmG d) (va_Pc [.ref (gAd G 30), .int a] (PX G σ sz)) (QcV G (gA G sz) σ2) 0 0 (gA G sz)) {F sz : Nat} {a1 : Int32} {σ σR : Sg} (hg : g_X4_readEither F N ln RR a1 σ = some σR) : Met l yX4_readEither wsX4_readEither (rmG (d + 1)) (va_Pc [.ref (gAd G 30), .int a1] (PX G σ sz)) (QcV G (gA G sz) σR) 0 0 (gA G sz) := by
  refine metX (by decide) rfl (Nat.le_of_ble_eq_true rfl) ?_
  intro p e s m args below meth c ls S hr hlk hsz hA hK hw hl hmn
  have S : CallFix p m c cX4_readEither 3 s args wsX4_readEither RX4 := S
  obtain ⟨hx, hb, hml, hown, hts⟩ := id S
  have hl : lv_has ls 3 [(0, .ref (gAd G 30)), (1, .int a1)] := hl
  have hinX4 : ∀ w ∈ wsX40, w ∈ wsX4_readEither := by decide +kernel
  have L7 : ∀ (v1 : Int32) (n7 : Nat) (v2 : Int32) (σ : Sg) (H : Heap) (locs : List Loc) (ls : Array Slot) (hg : g_X4_readEither_l7 F N ln RR v1 n7 v2 σ = some σR) (hw : XD G (gA G sz) s.heap σ H locs) (hl : lv_has ls 3 [(0, .ref (gAd G 30)), (1, .int v1), (2, .int v2)]), W p l e (headSpec wsX4_readEither (rmG (d + 1))).room s m args below meth c H locs 0 0 (MQ below (QcV G (gA G sz) σR) args s 0 0 (gA G sz)) (F0 m 7 ls []) := by
    intro v1
    intro n7
    induction n7 with
    | zero => intro v2 σ H locs ls hg hw hl; exact no_e hg
    | succ n7 ih7 =>
      intro v2 σ H locs ls hg hw hl
      rw [g_X4_readEither_l7] at hg
      refine lv_iload_n hx hb dX4_readEither_7 rfl (lv_at hl 2 rfl) ?_
      refine lv_sipush (v := 160) hx hb dX4_readEither_8 (by decide) ?_
      refine lv_icmp_ge (tgt := 45) hx hb dX4_readEither_11 (by decide) (fun c_1 => ?_) (fun c_1 => ?_)
      · have hg := it_p hg c_1
        exact r_vreti S hr hlk hw.2.2.2.2 hw hg dX4_readEither_45
      · have hg := it_n hg c_1
        refine lv_aload_n hx hb dX4_readEither_14 rfl (lv_at hl 0 rfl) ?_
        refine r_get (C := RX4) (T := TX4) (N := 10) S hK hw (kX_30 hG).1 (kX_30 hG).2 rfl hinX4 6 (by decide) rfl (hts (.fieldLink RX4 44 "SoupByRank$Tape" "token" "I") (by decide +kernel)) rfl dX4_readEither_15 ?_
        refine lv_sipush (v := 1003) hx hb dX4_readEither_18 (by decide) ?_
        refine lv_icmp_ne (tgt := 45) hx hb dX4_readEither_21 (by decide) (fun c_2 => ?_) (fun c_2 => ?_)
        · have hg := it_n hg c_2
          exact r_vreti S hr hlk hw.2.2.2.2 hw hg dX4_readEither_45
        · have hg := it_p hg c_2
          refine lv_aload_n hx hb dX4_readEither_24 rfl (lv_at hl 0 rfl) ?_
          obtain ⟨s_3, h_5, hg⟩ := bnV_e hg
          refine r_vV (As := []) (rest := []) S hA hK hw (c_X4_advance l hG  h_5) (cwV 0 hts gX4_readEither_X4_advance rfl rfl rfl (by decide +kernel) ⟨by show 10 + 1 ≤ d + 1 + 20; omega, by show 8 + (1 + 11) + 448 ≤ 24 * (d + 1) + 700; omega⟩) (r_recv hK hw (kX_30 hG).1 (kX_30 hG).2 rfl) rfl hl.1 (Nat.le_of_ble_eq_true rfl) dX4_readEither_25 ⟨Nat.zero_le _, Nat.zero_le _⟩ rfl (fun H locs hw => ?_)
          refine lv_aload_n hx hb dX4_readEither_28 rfl (lv_at hl 0 rfl) ?_
          refine lv_iload_n hx hb dX4_readEither_29 rfl (lv_at hl 1 rfl) ?_
          obtain ⟨s_6, h_8, hg⟩ := bnV_e hg
          refine r_vV (As := [.int v1]) (rest := []) S hA hK hw (hR1 h_8) (cwV 1 hts gX4_readEither_X4_readBoth rfl rfl rfl (by decide +kernel) ⟨by show d + 20 + 1 ≤ d + 1 + 20; omega, by show 8 + (3 + 11) + (24 * d + 700) ≤ 24 * (d + 1) + 700; omega⟩) (r_recv hK hw (kX_30 hG).1 (kX_30 hG).2 rfl) rfl hl.1 (Nat.le_of_ble_eq_true rfl) dX4_readEither_30 ⟨Nat.zero_le _, Nat.zero_le _⟩ rfl (fun H locs hw => ?_)
          refine lv_aload_n hx hb dX4_readEither_33 rfl (lv_at hl 0 rfl) ?_
          refine lv_bipush (v := (-15)) hx hb dX4_readEither_34 (by decide) ?_
          obtain ⟨s_9, h_11, hg⟩ := bnV_e hg
          refine r_vV (As := [.int (-15)]) (rest := []) S hA hK hw (c_X4_write l hG  h_11) (cwV 1 hts gX4_readEither_X4_write rfl rfl rfl (by decide +kernel) ⟨by show 0 + 1 ≤ d + 1 + 20; omega, by show 8 + (2 + 11) + 0 ≤ 24 * (d + 1) + 700; omega⟩) (r_recv hK hw (kX_30 hG).1 (kX_30 hG).2 rfl) rfl hl.1 (Nat.le_of_ble_eq_true rfl) dX4_readEither_36 ⟨Nat.zero_le _, Nat.zero_le _⟩ rfl (fun H locs hw => ?_)
          refine lv_iinc (v := (v2 + 1)) (lv' := [(2, .int (v2 + 1)), (0, .ref (gAd G 30)), (1, .int v1)]) hx hb dX4_readEither_39 hl (k := 2) rfl rfl (by decide) rfl (fun ls hl => ?_)
          refine lv_goto (tgt := 7) hx hb dX4_readEither_42 (by decide) ?_
          exact ih7 _ _ _ _ _ hg hw (lv_sub hl [1, 2, 0] rfl)
  rw [g_X4_readEither] at hg
  refine lv_aload_n hx hb dX4_readEither_0 rfl (lv_at hl 0 rfl) ?_
  refine lv_iload_n hx hb dX4_readEither_1 rfl (lv_at hl 1 rfl) ?_
  obtain ⟨s_12, h_14, hg⟩ := bnV_e hg
  refine r_vV (As := [.int a1]) (rest := []) S hA hK hw (hR1 h_14) (cwV 1 hts gX4_readEither_X4_readBoth rfl rfl rfl (by decide +kernel) ⟨by show d + 20 + 1 ≤ d + 1 + 20; omega, by show 8 + (3 + 11) + (24 * d + 700) ≤ 24 * (d + 1) + 700; omega⟩) (r_recv hK hw (kX_30 hG).1 (kX_30 hG).2 rfl) rfl hl.1 (Nat.le_of_ble_eq_true rfl) dX4_readEither_2 ⟨Nat.zero_le _, Nat.zero_le _⟩ rfl (fun H locs hw => ?_)
  refine lv_iconst (v := 0) hx hb dX4_readEither_5 (by decide) ?_
  refine lv_istore_n (lv' := [(2, .int 0), (0, .ref (gAd G 30)), (1, .int a1)]) hx hb dX4_readEither_6 rfl hl (by decide) rfl (fun ls hl => ?_)
  exact L7 a1 F _ _ _ _ _ hg hw (lv_sub hl [1, 2, 0] rfl)
theorem c_rd (l : Launch) {G : GW} {N : Nat} {ln : Nat → Nat} {cT cS : ClassId} (hG : isX G N ln cT cS) {F : Nat} : ∀ (d : Nat), (∀ {a : Int32} {σ σ2 : Sg} {sz : Nat}, g_rd F N ln d 0 a σ = some σ2 → Met l yX4_readEither wsX4_readEither (rmG d) (va_Pc [.ref (gAd G 30), .int a] (PX G σ sz)) (QcV G (gA G sz) σ2) 0 0 (gA G sz)) ∧ (∀ {a : Int32} {σ σ2 : Sg} {sz : Nat}, g_rd F N ln d 1 a σ = some σ2 → Met l yX4_readBoth wsX4_readBoth (rmG d) (va_Pc [.ref (gAd G 30), .int a] (PX G σ sz)) (QcV G (gA G sz) σ2) 0 0 (gA G sz)) ∧ (∀ {a : Int32} {σ σ2 : Sg} {sz : Nat}, g_rd F N ln d 2 a σ = some σ2 → Met l yX4_readNot wsX4_readNot (rmG d) (va_Pc [.ref (gAd G 30), .int a] (PX G σ sz)) (QcV G (gA G sz) σ2) 0 0 (gA G sz)) ∧ (∀ {a : Int32} {σ σ2 : Sg} {sz : Nat}, g_rd F N ln d 3 a σ = some σ2 → Met l yX4_readComparison wsX4_readComparison (rmG d) (va_Pc [.ref (gAd G 30), .int a] (PX G σ sz)) (QcV G (gA G sz) σ2) 0 0 (gA G sz)) ∧ (∀ {a : Int32} {σ σ2 : Sg} {sz : Nat}, g_rd F N ln d 4 a σ = some σ2 → Met l yX4_readSum wsX4_readSum (rmG d) (va_Pc [.ref (gAd G 30), .int a] (PX G σ sz)) (QcV G (gA G sz) σ2) 0 0 (gA G sz)) ∧ (∀ {a : Int32} {σ σ2 : Sg} {sz : Nat}, g_rd F N ln d 5 a σ = some σ2 → Met l yX4_readTerm wsX4_readTerm (rmG d) (va_Pc [.ref (gAd G 30), .int a] (PX G σ sz)) (QcV G (gA G sz) σ2) 0 0 (gA G sz)) ∧ (∀ {a : Int32} {σ σ2 : Sg} {sz : Nat}, g_rd F N ln d 6 a σ = some σ2 → Met l yX4_readOne wsX4_readOne (rmG d) (va_Pc [.ref (gAd G 30), .int a] (PX G σ sz)) (QcV G (gA G sz) σ2) 0 0 (gA G sz)) := by
  intro d
  induction d with
  | zero => exact ⟨fun h => no_e h, fun h => no_e h, fun h => no_e h, fun h => no_e h, fun h => no_e h, fun h => no_e h, fun h => no_e h⟩
  | succ d ih =>
    obtain ⟨i0, i1, i2, i3, i4, i5, i6⟩ := ih
    refine ⟨?_, ?_, ?_, ?_, ?_, ?_, ?_⟩
    · intro a σ σ2 sz h; exact c_X4_readEither l hG i0 i1 i2 i3 i4 i5 i6 (by rw [g_rd] at h; exact h)
    · intro a σ σ2 sz h; exact c_X4_readBoth l hG i0 i1 i2 i3 i4 i5 i6 (by rw [g_rd] at h; exact h)
    · intro a σ σ2 sz h; exact c_X4_readNot l hG i0 i1 i2 i3 i4 i5 i6 (by rw [g_rd] at h; exact h)
    · intro a σ σ2 sz h; exact c_X4_readComparison l hG i0 i1 i2 i3 i4 i5 i6 (by rw [g_rd] at h; exact h)
    · intro a σ σ2 sz h; exact c_X4_readSum l hG i0 i1 i2 i3 i4 i5 i6 (by rw [g_rd] at h; exact h)
    · intro a σ σ2 sz h; exact c_X4_readTerm l hG i0 i1 i2 i3 i4 i5 i6 (by rw [g_rd] at h; exact h)
    · intro a σ σ2 sz h; exact c_X4_readOne l hG i0 i1 i2 i3 i4 i5 i6 (by rw [g_rd] at h; exact h)
theorem c_rd_X4_readEither (l : Launch) {G : GW} {N : Nat} {ln : Nat → Nat} {cT cS : ClassId} (hG : isX G N ln cT cS) {F d : Nat} {a : Int32} {σ σ2 : Sg} {sz : Nat} (h : g_rd F N ln d 0 a σ = some σ2) : Met l yX4_readEither wsX4_readEither (rmG d) (va_Pc [.ref (gAd G 30), .int a] (PX G σ sz)) (QcV G (gA G sz) σ2) 0 0 (gA G sz) := (c_rd l hG d).1 h
theorem c_rd_X4_readBoth (l : Launch) {G : GW} {N : Nat} {ln : Nat → Nat} {cT cS : ClassId} (hG : isX G N ln cT cS) {F d : Nat} {a : Int32} {σ σ2 : Sg} {sz : Nat} (h : g_rd F N ln d 1 a σ = some σ2) : Met l yX4_readBoth wsX4_readBoth (rmG d) (va_Pc [.ref (gAd G 30), .int a] (PX G σ sz)) (QcV G (gA G sz) σ2) 0 0 (gA G sz) := (c_rd l hG d).2.1 h
theorem c_rd_X4_readNot (l : Launch) {G : GW} {N : Nat} {ln : Nat → Nat} {cT cS : ClassId} (hG : isX G N ln cT cS) {F d : Nat} {a : Int32} {σ σ2 : Sg} {sz : Nat} (h : g_rd F N ln d 2 a σ = some σ2) : Met l yX4_readNot wsX4_readNot (rmG d) (va_Pc [.ref (gAd G 30), .int a] (PX G σ sz)) (QcV G (gA G sz) σ2) 0 0 (gA G sz) := (c_rd l hG d).2.2.1 h
theorem c_rd_X4_readComparison (l : Launch) {G : GW} {N : Nat} {ln : Nat → Nat} {cT cS : ClassId} (hG : isX G N ln cT cS) {F d : Nat} {a : Int32} {σ σ2 : Sg} {sz : Nat} (h : g_rd F N ln d 3 a σ = some σ2) : Met l yX4_readComparison wsX4_readComparison (rmG d) (va_Pc [.ref (gAd G 30), .int a] (PX G σ sz)) (QcV G (gA G sz) σ2) 0 0 (gA G sz) := (c_rd l hG d).2.2.2.1 h
theorem c_rd_X4_readSum (l : Launch) {G : GW} {N : Nat} {ln : Nat → Nat} {cT cS : ClassId} (hG : isX G N ln cT cS) {F d : Nat} {a : Int32} {σ σ2 : Sg} {sz : Nat} (h : g_rd F N ln d 4 a σ = some σ2) : Met l yX4_readSum wsX4_readSum (rmG d) (va_Pc [.ref (gAd G 30), .int a] (PX G σ sz)) (QcV G (gA G sz) σ2) 0 0 (gA G sz) := (c_rd l hG d).2.2.2.2.1 h
theorem c_rd_X4_readTerm (l : Launch) {G : GW} {N : Nat} {ln : Nat → Nat} {cT cS : ClassId} (hG : isX G N ln cT cS) {F d : Nat} {a : Int32} {σ σ2 : Sg} {sz : Nat} (h : g_rd F N ln d 5 a σ = some σ2) : Met l yX4_readTerm wsX4_readTerm (rmG d) (va_Pc [.ref (gAd G 30), .int a] (PX G σ sz)) (QcV G (gA G sz) σ2) 0 0 (gA G sz) := (c_rd l hG d).2.2.2.2.2.1 h
theorem c_rd_X4_readOne (l : Launch) {G : GW} {N : Nat} {ln : Nat → Nat} {cT cS : ClassId} (hG : isX G N ln cT cS) {F d : Nat} {a : Int32} {σ σ2 : Sg} {sz : Nat} (h : g_rd F N ln d 6 a σ = some σ2) : Met l yX4_readOne wsX4_readOne (rmG d) (va_Pc [.ref (gAd G 30), .int a] (PX G σ sz)) (QcV G (gA G sz) σ2) 0 0 (gA G sz) := (c_rd l hG d).2.2.2.2.2.2 h
set_option maxHeartbeats 4000000 in
set_option maxRecDepth 100000 in
theorem c_X4_read (l : Launch) {G : GW} {N : Nat} {ln : Nat → Nat} {cT cS : ClassId} (hG : isX G N ln cT cS) {F sz : Nat} {σ σR : Sg} {r : Int32} (hg : g_X4_read F N ln σ = some (σR, r)) : Met l yX4_read wsX4_read ({ frames := 71, cells := 0, slots := 0, locals := 1922 } : Room) (va_Pc [.ref (gAd G 30)] (PX G σ sz)) (QcI G (gA G sz) σR r) 0 0 (gA G sz) := by
  refine metX (by decide) rfl (Nat.le_of_ble_eq_true rfl) ?_
  intro p e s m args below meth c ls S hr hlk hsz hA hK hw hl hmn
  have S : CallFix p m c cX4_read 2 s args wsX4_read RX4 := S
  obtain ⟨hx, hb, hml, hown, hts⟩ := id S
  have hl : lv_has ls 2 [(0, .ref (gAd G 30))] := hl
  have hinX4 : ∀ w ∈ wsX40, w ∈ wsX4_read := by decide +kernel
  have L21 : ∀ (n21 : Nat) (v1 : Int32) (σ : Sg) (H : Heap) (locs : List Loc) (ls : Array Slot) (hg : g_X4_read_l21 F N ln n21 v1 σ = some (σR, r)) (hw : XD G (gA G sz) s.heap σ H locs) (hl : lv_has ls 2 [(0, .ref (gAd G 30)), (1, .int v1)]), W p l e (headSpec wsX4_read ({ frames := 71, cells := 0, slots := 0, locals := 1922 } : Room)).room s m args below meth c H locs 0 0 (MQ below (QcI G (gA G sz) σR r) args s 0 0 (gA G sz)) (F0 m 21 ls []) := by
    intro n21
    induction n21 with
    | zero => intro v1 σ H locs ls hg hw hl; exact no_e hg
    | succ n21 ih21 =>
      intro v1 σ H locs ls hg hw hl
      rw [g_X4_read_l21] at hg
      refine lv_iload_n hx hb dX4_read_21 rfl (lv_at hl 1 rfl) ?_
      refine lv_iconst (v := 3) hx hb dX4_read_22 (by decide) ?_
      refine lv_icmp_ge (tgt := 62) hx hb dX4_read_23 (by decide) (fun c_1 => ?_) (fun c_1 => ?_)
      · have hg := it_p hg c_1
        refine lv_aload_n hx hb dX4_read_62 rfl (lv_at hl 0 rfl) ?_
        refine r_get (C := RX4) (T := TX4) (N := 10) S hK hw (kX_30 hG).1 (kX_30 hG).2 rfl hinX4 6 (by decide) rfl (hts (.fieldLink RX4 44 "SoupByRank$Tape" "token" "I") (by decide +kernel)) rfl dX4_read_63 ?_
        refine lv_if_eq (tgt := 73) hx hb dX4_read_66 (by decide) (fun c_2 => ?_) (fun c_2 => ?_)
        · have hg := it_p hg c_2
          refine lv_aload_n hx hb dX4_read_73 rfl (lv_at hl 0 rfl) ?_
          refine r_get (C := RX4) (T := TX4) (N := 10) S hK hw (kX_30 hG).1 (kX_30 hG).2 rfl hinX4 9 (by decide) rfl (hts (.fieldLink RX4 31 "SoupByRank$Tape" "fault" "I") (by decide +kernel)) rfl dX4_read_74 ?_
          exact r_ireti S hr hlk hw.2.2.2.2 hw hg dX4_read_77
        · have hg := it_n hg c_2
          refine lv_aload_n hx hb dX4_read_69 rfl (lv_at hl 0 rfl) ?_
          obtain ⟨s_3, h_5, hg⟩ := bnV_e hg
          refine r_vV (As := []) (rest := []) S hA hK hw (c_X4_refuse l hG  h_5) (cwV 0 hts gX4_read_X4_refuse rfl rfl rfl (by decide +kernel) ⟨Nat.le_of_ble_eq_true rfl, Nat.le_of_ble_eq_true rfl⟩) (r_recv hK hw (kX_30 hG).1 (kX_30 hG).2 rfl) rfl hl.1 (Nat.le_of_ble_eq_true rfl) dX4_read_70 ⟨Nat.zero_le _, Nat.zero_le _⟩ rfl (fun H locs hw => ?_)
          refine lv_aload_n hx hb dX4_read_73 rfl (lv_at hl 0 rfl) ?_
          refine r_get (C := RX4) (T := TX4) (N := 10) S hK hw (kX_30 hG).1 (kX_30 hG).2 rfl hinX4 9 (by decide) rfl (hts (.fieldLink RX4 31 "SoupByRank$Tape" "fault" "I") (by decide +kernel)) rfl dX4_read_74 ?_
          exact r_ireti S hr hlk hw.2.2.2.2 hw hg dX4_read_77
      · have hg := it_n hg c_1
        refine lv_aload_n hx hb dX4_read_26 rfl (lv_at hl 0 rfl) ?_
        refine lv_sipush (v := 1000) hx hb dX4_read_27 (by decide) ?_
        refine lv_iload_n hx hb dX4_read_30 rfl (lv_at hl 1 rfl) ?_
        refine lv_iadd hx hb dX4_read_31 ?_
        obtain ⟨s_6, h_8, hg⟩ := bnV_e hg
        refine r_vV (As := [.int (1000 + v1)]) (rest := []) S hA hK hw (c_X4_demand l hG  h_8) (cwV 1 hts gX4_read_X4_demand rfl rfl rfl (by decide +kernel) ⟨Nat.le_of_ble_eq_true rfl, Nat.le_of_ble_eq_true rfl⟩) (r_recv hK hw (kX_30 hG).1 (kX_30 hG).2 rfl) rfl hl.1 (Nat.le_of_ble_eq_true rfl) dX4_read_32 ⟨Nat.zero_le _, Nat.zero_le _⟩ rfl (fun H locs hw => ?_)
        refine lv_aload_n hx hb dX4_read_35 rfl (lv_at hl 0 rfl) ?_
        refine lv_iconst (v := 0) hx hb dX4_read_36 (by decide) ?_
        obtain ⟨s_9, h_11, hg⟩ := bnV_e hg
        refine r_vV (As := [.int 0]) (rest := []) S hA hK hw (c_rd_X4_readEither l hG (d := 50) h_11) (cwV 1 hts gX4_read_X4_readEither rfl rfl rfl (by decide +kernel) ⟨Nat.le_of_ble_eq_true rfl, Nat.le_of_ble_eq_true rfl⟩) (r_recv hK hw (kX_30 hG).1 (kX_30 hG).2 rfl) rfl hl.1 (Nat.le_of_ble_eq_true rfl) dX4_read_37 ⟨Nat.zero_le _, Nat.zero_le _⟩ rfl (fun H locs hw => ?_)
        refine lv_aload_n hx hb dX4_read_40 rfl (lv_at hl 0 rfl) ?_
        refine lv_bipush (v := 59) hx hb dX4_read_41 (by decide) ?_
        obtain ⟨s_12, h_14, hg⟩ := bnV_e hg
        refine r_vV (As := [.int 59]) (rest := []) S hA hK hw (c_X4_demand l hG  h_14) (cwV 1 hts gX4_read_X4_demand rfl rfl rfl (by decide +kernel) ⟨Nat.le_of_ble_eq_true rfl, Nat.le_of_ble_eq_true rfl⟩) (r_recv hK hw (kX_30 hG).1 (kX_30 hG).2 rfl) rfl hl.1 (Nat.le_of_ble_eq_true rfl) dX4_read_43 ⟨Nat.zero_le _, Nat.zero_le _⟩ rfl (fun H locs hw => ?_)
        refine lv_aload_n hx hb dX4_read_46 rfl (lv_at hl 0 rfl) ?_
        refine r_getr (C := RX4) (T := TX4) (N := 10) (k' := 33) S hK hw (kX_30 hG).1 (kX_30 hG).2 rfl hinX4 3 (by decide) (o := 3) rfl rfl (hts (.fieldLink RX4 18 "SoupByRank$Tape" "ends" "[I") (by decide +kernel)) rfl dX4_read_47 ?_
        refine lv_iload_n hx hb dX4_read_50 rfl (lv_at hl 1 rfl) ?_
        refine lv_aload_n hx hb dX4_read_51 rfl (lv_at hl 0 rfl) ?_
        refine r_get (C := RX4) (T := TX4) (N := 10) S hK hw (kX_30 hG).1 (kX_30 hG).2 rfl hinX4 4 (by decide) rfl (hts (.fieldLink RX4 25 "SoupByRank$Tape" "used" "I") (by decide +kernel)) rfl dX4_read_52 ?_
        obtain ⟨h_16, s_15, e_17, hg⟩ := wrA_e hg
        refine r_iast S hK hw (kX_33 hG).1 (kX_33 hG).2 h_16 e_17 dX4_read_55 (fun H locs hw => ?_)
        refine lv_iinc (v := (v1 + 1)) (lv' := [(1, .int (v1 + 1)), (0, .ref (gAd G 30))]) hx hb dX4_read_56 hl (k := 1) rfl rfl (by decide) rfl (fun ls hl => ?_)
        refine lv_goto (tgt := 21) hx hb dX4_read_59 (by decide) ?_
        exact ih21 _ _ _ _ _ hg hw (lv_sub hl [1, 0] rfl)
  rw [g_X4_read] at hg
  refine lv_aload_n hx hb dX4_read_0 rfl (lv_at hl 0 rfl) ?_
  refine lv_iconst (v := 0) hx hb dX4_read_1 (by decide) ?_
  obtain ⟨s_18, e_19, hg⟩ := wrF_e hg
  refine r_put (C := RX4) (T := TX4) (N := 10) S hK hw (kX_30 hG).1 (kX_30 hG).2 rfl hinX4 tyX4_ok nmX4 4 (by decide) rfl rfl rfl rfl (hts (.fieldLink RX4 25 "SoupByRank$Tape" "used" "I") (by decide +kernel)) rfl e_19 dX4_read_2 (fun H locs hw => ?_)
  refine lv_aload_n hx hb dX4_read_5 rfl (lv_at hl 0 rfl) ?_
  refine lv_iconst (v := 0) hx hb dX4_read_6 (by decide) ?_
  obtain ⟨s_20, e_21, hg⟩ := wrF_e hg
  refine r_put (C := RX4) (T := TX4) (N := 10) S hK hw (kX_30 hG).1 (kX_30 hG).2 rfl hinX4 tyX4_ok nmX4 5 (by decide) rfl rfl rfl rfl (hts (.fieldLink RX4 28 "SoupByRank$Tape" "place" "I") (by decide +kernel)) rfl e_21 dX4_read_7 (fun H locs hw => ?_)
  refine lv_aload_n hx hb dX4_read_10 rfl (lv_at hl 0 rfl) ?_
  refine lv_iconst (v := (-1)) hx hb dX4_read_11 (by decide) ?_
  obtain ⟨s_22, e_23, hg⟩ := wrF_e hg
  refine r_put (C := RX4) (T := TX4) (N := 10) S hK hw (kX_30 hG).1 (kX_30 hG).2 rfl hinX4 tyX4_ok nmX4 9 (by decide) rfl rfl rfl rfl (hts (.fieldLink RX4 31 "SoupByRank$Tape" "fault" "I") (by decide +kernel)) rfl e_23 dX4_read_12 (fun H locs hw => ?_)
  refine lv_aload_n hx hb dX4_read_15 rfl (lv_at hl 0 rfl) ?_
  obtain ⟨s_24, h_26, hg⟩ := bnV_e hg
  refine r_vV (As := []) (rest := []) S hA hK hw (c_X4_advance l hG  h_26) (cwV 0 hts gX4_read_X4_advance rfl rfl rfl (by decide +kernel) ⟨Nat.le_of_ble_eq_true rfl, Nat.le_of_ble_eq_true rfl⟩) (r_recv hK hw (kX_30 hG).1 (kX_30 hG).2 rfl) rfl hl.1 (Nat.le_of_ble_eq_true rfl) dX4_read_16 ⟨Nat.zero_le _, Nat.zero_le _⟩ rfl (fun H locs hw => ?_)
  refine lv_iconst (v := 0) hx hb dX4_read_19 (by decide) ?_
  refine lv_istore_n (lv' := [(1, .int 0), (0, .ref (gAd G 30))]) hx hb dX4_read_20 rfl hl (by decide) rfl (fun ls hl => ?_)
  exact L21 F _ _ _ _ _ hg hw (lv_sub hl [1, 0] rfl)
