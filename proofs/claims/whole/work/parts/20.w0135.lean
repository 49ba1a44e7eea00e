set_option maxHeartbeats 4000000 in
set_option maxRecDepth 100000 in
theorem c_X0_begin (l : Launch) {G : GW} {N : Nat} {ln : Nat → Nat} {cT cS : ClassId} (hG : isX G N ln cT cS) {F sz : Nat} {a1 : Int32} {a2 : Int32} {σ σR : Sg} (hg : g_X0_begin F N ln a1 a2 σ = some σR) : Met l yX0_begin wsX0_begin ({ frames := 0, cells := 0, slots := 0, locals := 0 } : Room) (va_Pc [.ref (gAd G 25), .int a1, .int a2] (PX G σ sz)) (QcV G (gA G sz) σR) 0 0 (gA G sz) := by
  refine metX (by decide) rfl (Nat.le_of_ble_eq_true rfl) ?_
  intro p e s m args below meth c ls S hr hlk hsz hA hK hw hl hmn
  have S : CallFix p m c cX0_begin 3 s args wsX0_begin RX0 := S
  obtain ⟨hx, hb, hml, hown, hts⟩ := id S
  have hl : lv_has ls 3 [(0, .ref (gAd G 25)), (1, .int a1), (2, .int a2)] := hl
  have hinX0 : ∀ w ∈ wsX00, w ∈ wsX0_begin := by decide +kernel
  rw [g_X0_begin] at hg
  refine lv_aload_n hx hb dX0_begin_0 rfl (lv_at hl 0 rfl) ?_
  refine lv_iload_n hx hb dX0_begin_1 rfl (lv_at hl 1 rfl) ?_
  obtain ⟨s_1, e_2, hg⟩ := wrF_e hg
  refine r_put (C := RX0) (T := TX0) (N := 2) S hK hw (kX_25 hG).1 (kX_25 hG).2 rfl hinX0 tyX0_ok nmX0 0 (by decide) rfl rfl rfl rfl (hts (.fieldLink RX0 7 "SoupByRank$Best" "who" "I") (by decide +kernel)) rfl e_2 dX0_begin_2 (fun H locs hw => ?_)
  refine lv_aload_n hx hb dX0_begin_5 rfl (lv_at hl 0 rfl) ?_
  refine lv_iload_n hx hb dX0_begin_6 rfl (lv_at hl 2 rfl) ?_
  obtain ⟨s_3, e_4, hg⟩ := wrF_e hg
  refine r_put (C := RX0) (T := TX0) (N := 2) S hK hw (kX_25 hG).1 (kX_25 hG).2 rfl hinX0 tyX0_ok nmX0 1 (by decide) rfl rfl rfl rfl (hts (.fieldLink RX0 13 "SoupByRank$Best" "least" "I") (by decide +kernel)) rfl e_4 dX0_begin_7 (fun H locs hw => ?_)
  exact r_vreti S hr hlk hw.2.2.2.2 hw hg dX0_begin_10
set_option maxHeartbeats 4000000 in
set_option maxRecDepth 100000 in
theorem c_X0_weigh (l : Launch) {G : GW} {N : Nat} {ln : Nat → Nat} {cT cS : ClassId} (hG : isX G N ln cT cS) {F sz : Nat} {a1 : Int32} {a2 : Int32} {σ σR : Sg} (hg : g_X0_weigh F N ln a1 a2 σ = some σR) : Met l yX0_weigh wsX0_weigh ({ frames := 1, cells := 0, slots := 0, locals := 22 } : Room) (va_Pc [.ref (gAd G 25), .int a1, .int a2] (PX G σ sz)) (QcV G (gA G sz) σR) 0 0 (gA G sz) := by
  refine metX (by decide) rfl (Nat.le_of_ble_eq_true rfl) ?_
  intro p e s m args below meth c ls S hr hlk hsz hA hK hw hl hmn
  have S : CallFix p m c cX0_weigh 3 s args wsX0_weigh RX0 := S
  obtain ⟨hx, hb, hml, hown, hts⟩ := id S
  have hl : lv_has ls 3 [(0, .ref (gAd G 25)), (1, .int a1), (2, .int a2)] := hl
  have hinX0 : ∀ w ∈ wsX00, w ∈ wsX0_weigh := by decide +kernel
  rw [g_X0_weigh] at hg
  refine lv_iload_n hx hb dX0_weigh_0 rfl (lv_at hl 2 rfl) ?_
  refine lv_aload_n hx hb dX0_weigh_1 rfl (lv_at hl 0 rfl) ?_
  refine r_get (C := RX0) (T := TX0) (N := 2) S hK hw (kX_25 hG).1 (kX_25 hG).2 rfl hinX0 1 (by decide) rfl (hts (.fieldLink RX0 13 "SoupByRank$Best" "least" "I") (by decide +kernel)) rfl dX0_weigh_2 ?_
  refine lv_icmp_ge (tgt := 14) hx hb dX0_weigh_5 (by decide) (fun c_1 => ?_) (fun c_1 => ?_)
  · have hg := it_p hg c_1
    exact r_vreti S hr hlk hw.2.2.2.2 hw hg dX0_weigh_14
  · have hg := it_n hg c_1
    refine lv_aload_n hx hb dX0_weigh_8 rfl (lv_at hl 0 rfl) ?_
    refine lv_iload_n hx hb dX0_weigh_9 rfl (lv_at hl 1 rfl) ?_
    refine lv_iload_n hx hb dX0_weigh_10 rfl (lv_at hl 2 rfl) ?_
    obtain ⟨s_2, h_4, hg⟩ := bnV_e hg
    refine r_vV (As := [.int a1, .int a2]) (rest := []) S hA hK hw (c_X0_begin l hG  h_4) (cwV 2 hts gX0_weigh_X0_begin rfl rfl rfl (by decide +kernel) ⟨Nat.le_of_ble_eq_true rfl, Nat.le_of_ble_eq_true rfl⟩) (r_recv hK hw (kX_25 hG).1 (kX_25 hG).2 rfl) rfl hl.1 (Nat.le_of_ble_eq_true rfl) dX0_weigh_11 ⟨Nat.zero_le _, Nat.zero_le _⟩ rfl (fun H locs hw => ?_)
    exact r_vreti S hr hlk hw.2.2.2.2 hw hg dX0_weigh_14
set_option maxHeartbeats 4000000 in
set_option maxRecDepth 100000 in
theorem c_X0_answer (l : Launch) {G : GW} {N : Nat} {ln : Nat → Nat} {cT cS : ClassId} (hG : isX G N ln cT cS) {F sz : Nat} {a1 : Int32} {σ σR : Sg} {r : Int32} (hg : g_X0_answer F N ln a1 σ = some (σR, r)) : Met l yX0_answer wsX0_answer ({ frames := 0, cells := 0, slots := 0, locals := 0 } : Room) (va_Pc [.ref (gAd G 25), .int a1] (PX G σ sz)) (QcI G (gA G sz) σR r) 0 0 (gA G sz) := by
  refine metX (by decide) rfl (Nat.le_of_ble_eq_true rfl) ?_
  intro p e s m args below meth c ls S hr hlk hsz hA hK hw hl hmn
  have S : CallFix p m c cX0_answer 2 s args wsX0_answer RX0 := S
  obtain ⟨hx, hb, hml, hown, hts⟩ := id S
  have hl : lv_has ls 2 [(0, .ref (gAd G 25)), (1, .int a1)] := hl
  have hinX0 : ∀ w ∈ wsX00, w ∈ wsX0_answer := by decide +kernel
  rw [g_X0_answer] at hg
  refine lv_iload_n hx hb dX0_answer_0 rfl (lv_at hl 1 rfl) ?_
  refine lv_if_ne (tgt := 11) hx hb dX0_answer_1 (by decide) (fun c_1 => ?_) (fun c_1 => ?_)
  · have hg := it_n hg c_1
    refine lv_aload_n hx hb dX0_answer_11 rfl (lv_at hl 0 rfl) ?_
    refine r_get (C := RX0) (T := TX0) (N := 2) S hK hw (kX_25 hG).1 (kX_25 hG).2 rfl hinX0 1 (by decide) rfl (hts (.fieldLink RX0 13 "SoupByRank$Best" "least" "I") (by decide +kernel)) rfl dX0_answer_12 ?_
    exact r_ireti S hr hlk hw.2.2.2.2 hw hg dX0_answer_15
  · have hg := it_p hg c_1
    refine lv_aload_n hx hb dX0_answer_4 rfl (lv_at hl 0 rfl) ?_
    refine r_get (C := RX0) (T := TX0) (N := 2) S hK hw (kX_25 hG).1 (kX_25 hG).2 rfl hinX0 0 (by decide) rfl (hts (.fieldLink RX0 7 "SoupByRank$Best" "who" "I") (by decide +kernel)) rfl dX0_answer_5 ?_
    refine lv_goto (tgt := 15) hx hb dX0_answer_8 (by decide) ?_
    exact r_ireti S hr hlk hw.2.2.2.2 hw hg dX0_answer_15
set_option maxHeartbeats 4000000 in
set_option maxRecDepth 100000 in
theorem c_X1_admit (l : Launch) {G : GW} {N : Nat} {ln : Nat → Nat} {cT cS : ClassId} (hG : isX G N ln cT cS) {F sz : Nat} {k : Nat} (h_k : isCt k) {a1 : Int32} {a2 : Int32} {a3 : Int32} {σ σR : Sg} {r : Int32} (hg : g_X1_admit F N ln k a1 a2 a3 σ = some (σR, r)) : Met l yX1_admit wsX1_admit ({ frames := 0, cells := 0, slots := 0, locals := 0 } : Room) (va_Pc [.ref (gAd G k), .int a1, .int a2, .int a3] (PX G σ sz)) (QcI G (gA G sz) σR r) 0 0 (gA G sz) := by
  refine metX (by decide) rfl (Nat.le_of_ble_eq_true rfl) ?_
  intro p e s m args below meth c ls S hr hlk hsz hA hK hw hl hmn
  have S : CallFix p m c cX1_admit 5 s args wsX1_admit RX1 := S
  obtain ⟨hx, hb, hml, hown, hts⟩ := id S
  have hl : lv_has ls 5 [(0, .ref (gAd G k)), (1, .int a1), (2, .int a2), (3, .int a3)] := hl
  have hinX1 : ∀ w ∈ wsX10, w ∈ wsX1_admit := by decide +kernel
  rw [g_X1_admit] at hg
  refine lv_aload_n hx hb dX1_admit_0 rfl (lv_at hl 0 rfl) ?_
  refine r_get (C := RX1) (T := TX1) (N := 9) S hK hw (kC0 hG h_k).1 (kC0 hG h_k).2 rfl hinX1 0 (by decide) rfl (hts (.fieldLink RX1 31 "SoupByRank$Court" "many" "I") (by decide +kernel)) rfl dX1_admit_1 ?_
  refine lv_istore (lv' := [(4, .int (σ k 0)), (0, .ref (gAd G k)), (1, .int a1), (2, .int a2), (3, .int a3)]) hx hb dX1_admit_4 hl (by decide) rfl (fun ls hl => ?_)
  refine lv_iload hx hb dX1_admit_6 (lv_at hl 0 rfl) ?_
  refine lv_bipush (v := 6) hx hb dX1_admit_8 (by decide) ?_
  refine lv_icmp_lt (tgt := 16) hx hb dX1_admit_10 (by decide) (fun c_1 => ?_) (fun c_1 => ?_)
  · have hg := it_p hg c_1
    refine lv_aload_n hx hb dX1_admit_16 rfl (lv_at hl 1 rfl) ?_
    refine r_getr (C := RX1) (T := TX1) (N := 9) (k' := (k + 1)) S hK hw (kC0 hG h_k).1 (kC0 hG h_k).2 rfl hinX1 5 (by decide) (o := 1) rfl rfl (hts (.fieldLink RX1 18 "SoupByRank$Court" "kinds" "[I") (by decide +kernel)) rfl dX1_admit_17 ?_
    refine lv_iload hx hb dX1_admit_20 (lv_at hl 0 rfl) ?_
    refine lv_iload_n hx hb dX1_admit_22 rfl (lv_at hl 2 rfl) ?_
    obtain ⟨h_3, s_2, e_4, hg⟩ := wrA_e hg
    refine r_iast S hK hw (kC1 hG h_k).1 (kC1 hG h_k).2 h_3 e_4 dX1_admit_23 (fun H locs hw => ?_)
    refine lv_aload_n hx hb dX1_admit_24 rfl (lv_at hl 1 rfl) ?_
    refine r_getr (C := RX1) (T := TX1) (N := 9) (k' := (k + 2)) S hK hw (kC0 hG h_k).1 (kC0 hG h_k).2 rfl hinX1 6 (by decide) (o := 2) rfl rfl (hts (.fieldLink RX1 22 "SoupByRank$Court" "mores" "[I") (by decide +kernel)) rfl dX1_admit_25 ?_
    refine lv_iload hx hb dX1_admit_28 (lv_at hl 0 rfl) ?_
    refine lv_iload_n hx hb dX1_admit_30 rfl (lv_at hl 3 rfl) ?_
    obtain ⟨h_6, s_5, e_7, hg⟩ := wrA_e hg
    refine r_iast S hK hw (kC2 hG h_k).1 (kC2 hG h_k).2 h_6 e_7 dX1_admit_31 (fun H locs hw => ?_)
    refine lv_aload_n hx hb dX1_admit_32 rfl (lv_at hl 1 rfl) ?_
    refine r_getr (C := RX1) (T := TX1) (N := 9) (k' := (k + 3)) S hK hw (kC0 hG h_k).1 (kC0 hG h_k).2 rfl hinX1 7 (by decide) (o := 3) rfl rfl (hts (.fieldLink RX1 25 "SoupByRank$Court" "ranks" "[I") (by decide +kernel)) rfl dX1_admit_33 ?_
    refine lv_iload hx hb dX1_admit_36 (lv_at hl 0 rfl) ?_
    refine lv_iload_n hx hb dX1_admit_38 rfl (lv_at hl 4 rfl) ?_
    obtain ⟨h_9, s_8, e_10, hg⟩ := wrA_e hg
    refine r_iast S hK hw (kC3 hG h_k).1 (kC3 hG h_k).2 h_9 e_10 dX1_admit_39 (fun H locs hw => ?_)
    refine lv_aload_n hx hb dX1_admit_40 rfl (lv_at hl 1 rfl) ?_
    refine r_getr (C := RX1) (T := TX1) (N := 9) (k' := (k + 4)) S hK hw (kC0 hG h_k).1 (kC0 hG h_k).2 rfl hinX1 8 (by decide) (o := 4) rfl rfl (hts (.fieldLink RX1 28 "SoupByRank$Court" "moods" "[I") (by decide +kernel)) rfl dX1_admit_41 ?_
    refine lv_iload hx hb dX1_admit_44 (lv_at hl 0 rfl) ?_
    refine lv_sipush (v := 500) hx hb dX1_admit_46 (by decide) ?_
    obtain ⟨h_12, s_11, e_13, hg⟩ := wrA_e hg
    refine r_iast S hK hw (kC4 hG h_k).1 (kC4 hG h_k).2 h_12 e_13 dX1_admit_49 (fun H locs hw => ?_)
    refine lv_aload_n hx hb dX1_admit_50 rfl (lv_at hl 1 rfl) ?_
    refine lv_dup hx hb dX1_admit_51 rfl ?_
    refine r_get (C := RX1) (T := TX1) (N := 9) S hK hw (kC0 hG h_k).1 (kC0 hG h_k).2 rfl hinX1 0 (by decide) rfl (hts (.fieldLink RX1 31 "SoupByRank$Court" "many" "I") (by decide +kernel)) rfl dX1_admit_52 ?_
    refine lv_iconst (v := 1) hx hb dX1_admit_55 (by decide) ?_
    refine lv_iadd hx hb dX1_admit_56 ?_
    obtain ⟨s_14, e_15, hg⟩ := wrF_e hg
    refine r_put (C := RX1) (T := TX1) (N := 9) S hK hw (kC0 hG h_k).1 (kC0 hG h_k).2 rfl hinX1 tyX1_ok nmX1 0 (by decide) rfl rfl rfl rfl (hts (.fieldLink RX1 31 "SoupByRank$Court" "many" "I") (by decide +kernel)) rfl e_15 dX1_admit_57 (fun H locs hw => ?_)
    refine lv_iload hx hb dX1_admit_60 (lv_at hl 0 rfl) ?_
    exact r_ireti S hr hlk hw.2.2.2.2 hw hg dX1_admit_62
  · have hg := it_n hg c_1
    refine lv_bipush (v := (-4)) hx hb dX1_admit_13 (by decide) ?_
    exact r_ireti S hr hlk hw.2.2.2.2 hw hg dX1_admit_15
set_option maxHeartbeats 4000000 in
set_option maxRecDepth 100000 in
theorem c_X1_takeFrom (l : Launch) {G : GW} {N : Nat} {ln : Nat → Nat} {cT cS : ClassId} (hG : isX G N ln cT cS) {F sz : Nat} {k : Nat} {k2 : Nat} (h_k : isCt k) (h_k2 : isCt k2) {σ σR : Sg} (hg : g_X1_takeFrom F N ln k k2 σ = some σR) : Met l yX1_takeFrom wsX1_takeFrom ({ frames := 0, cells := 0, slots := 0, locals := 0 } : Room) (va_Pc [.ref (gAd G k), .ref (gAd G k2)] (PX G σ sz)) (QcV G (gA G sz) σR) 0 0 (gA G sz) := by
  refine metX (by decide) rfl (Nat.le_of_ble_eq_true rfl) ?_
  intro p e s m args below meth c ls S hr hlk hsz hA hK hw hl hmn
  have S : CallFix p m c cX1_takeFrom 3 s args wsX1_takeFrom RX1 := S
  obtain ⟨hx, hb, hml, hown, hts⟩ := id S
  have hl : lv_has ls 3 [(0, .ref (gAd G k)), (1, .ref (gAd G k2))] := hl
  have hinX1 : ∀ w ∈ wsX10, w ∈ wsX1_takeFrom := by decide +kernel
  have L42 : ∀ (n42 : Nat) (v2 : Int32) (σ : Sg) (H : Heap) (locs : List Loc) (ls : Array Slot) (hg : g_X1_takeFrom_l42 F N ln k k2 n42 v2 σ = some σR) (hw : XD G (gA G sz) s.heap σ H locs) (hl : lv_has ls 3 [(0, .ref (gAd G k)), (1, .ref (gAd G k2)), (2, .int v2)]), W p l e (headSpec wsX1_takeFrom ({ frames := 0, cells := 0, slots := 0, locals := 0 } : Room)).room s m args below meth c H locs 0 0 (MQ below (QcV G (gA G sz) σR) args s 0 0 (gA G sz)) (F0 m 42 ls []) := by
    intro n42
    induction n42 with
    | zero => intro v2 σ H locs ls hg hw hl; exact no_e hg
    | succ n42 ih42 =>
      intro v2 σ H locs ls hg hw hl
      rw [g_X1_takeFrom_l42] at hg
      refine lv_iload_n hx hb dX1_takeFrom_42 rfl (lv_at hl 2 rfl) ?_
      refine lv_bipush (v := 6) hx hb dX1_takeFrom_43 (by decide) ?_
      refine lv_icmp_ge (tgt := 102) hx hb dX1_takeFrom_45 (by decide) (fun c_1 => ?_) (fun c_1 => ?_)
      · have hg := it_p hg c_1
        exact r_vreti S hr hlk hw.2.2.2.2 hw hg dX1_takeFrom_102
      · have hg := it_n hg c_1
        refine lv_aload_n hx hb dX1_takeFrom_48 rfl (lv_at hl 0 rfl) ?_
        refine r_getr (C := RX1) (T := TX1) (N := 9) (k' := (k + 1)) S hK hw (kC0 hG h_k).1 (kC0 hG h_k).2 rfl hinX1 5 (by decide) (o := 1) rfl rfl (hts (.fieldLink RX1 18 "SoupByRank$Court" "kinds" "[I") (by decide +kernel)) rfl dX1_takeFrom_49 ?_
        refine lv_iload_n hx hb dX1_takeFrom_52 rfl (lv_at hl 2 rfl) ?_
        refine lv_aload_n hx hb dX1_takeFrom_53 rfl (lv_at hl 1 rfl) ?_
        refine r_getr (C := RX1) (T := TX1) (N := 9) (k' := (k2 + 1)) S hK hw (kC0 hG h_k2).1 (kC0 hG h_k2).2 rfl hinX1 5 (by decide) (o := 1) rfl rfl (hts (.fieldLink RX1 18 "SoupByRank$Court" "kinds" "[I") (by decide +kernel)) rfl dX1_takeFrom_54 ?_
        refine lv_iload_n hx hb dX1_takeFrom_57 rfl (lv_at hl 2 rfl) ?_
        obtain ⟨h_3, x_2, e_4, hg⟩ := rdA_e hg
        refine r_iald S hK hw (kC1 hG h_k2).1 (kC1 hG h_k2).2 h_3 e_4 dX1_takeFrom_58 ?_
        obtain ⟨h_6, s_5, e_7, hg⟩ := wrA_e hg
        refine r_iast S hK hw (kC1 hG h_k).1 (kC1 hG h_k).2 h_6 e_7 dX1_takeFrom_59 (fun H locs hw => ?_)
        refine lv_aload_n hx hb dX1_takeFrom_60 rfl (lv_at hl 0 rfl) ?_
        refine r_getr (C := RX1) (T := TX1) (N := 9) (k' := (k + 2)) S hK hw (kC0 hG h_k).1 (kC0 hG h_k).2 rfl hinX1 6 (by decide) (o := 2) rfl rfl (hts (.fieldLink RX1 22 "SoupByRank$Court" "mores" "[I") (by decide +kernel)) rfl dX1_takeFrom_61 ?_
        refine lv_iload_n hx hb dX1_takeFrom_64 rfl (lv_at hl 2 rfl) ?_
        refine lv_aload_n hx hb dX1_takeFrom_65 rfl (lv_at hl 1 rfl) ?_
        refine r_getr (C := RX1) (T := TX1) (N := 9) (k' := (k2 + 2)) S hK hw (kC0 hG h_k2).1 (kC0 hG h_k2).2 rfl hinX1 6 (by decide) (o := 2) rfl rfl (hts (.fieldLink RX1 22 "SoupByRank$Court" "mores" "[I") (by decide +kernel)) rfl dX1_takeFrom_66 ?_
        refine lv_iload_n hx hb dX1_takeFrom_69 rfl (lv_at hl 2 rfl) ?_
        obtain ⟨h_9, x_8, e_10, hg⟩ := rdA_e hg
        refine r_iald S hK hw (kC2 hG h_k2).1 (kC2 hG h_k2).2 h_9 e_10 dX1_takeFrom_70 ?_
        obtain ⟨h_12, s_11, e_13, hg⟩ := wrA_e hg
        refine r_iast S hK hw (kC2 hG h_k).1 (kC2 hG h_k).2 h_12 e_13 dX1_takeFrom_71 (fun H locs hw => ?_)
        refine lv_aload_n hx hb dX1_takeFrom_72 rfl (lv_at hl 0 rfl) ?_
        refine r_getr (C := RX1) (T := TX1) (N := 9) (k' := (k + 3)) S hK hw (kC0 hG h_k).1 (kC0 hG h_k).2 rfl hinX1 7 (by decide) (o := 3) rfl rfl (hts (.fieldLink RX1 25 "SoupByRank$Court" "ranks" "[I") (by decide +kernel)) rfl dX1_takeFrom_73 ?_
        refine lv_iload_n hx hb dX1_takeFrom_76 rfl (lv_at hl 2 rfl) ?_
        refine lv_aload_n hx hb dX1_takeFrom_77 rfl (lv_at hl 1 rfl) ?_
        refine r_getr (C := RX1) (T := TX1) (N := 9) (k' := (k2 + 3)) S hK hw (kC0 hG h_k2).1 (kC0 hG h_k2).2 rfl hinX1 7 (by decide) (o := 3) rfl rfl (hts (.fieldLink RX1 25 "SoupByRank$Court" "ranks" "[I") (by decide +kernel)) rfl dX1_takeFrom_78 ?_
        refine lv_iload_n hx hb dX1_takeFrom_81 rfl (lv_at hl 2 rfl) ?_
        obtain ⟨h_15, x_14, e_16, hg⟩ := rdA_e hg
        refine r_iald S hK hw (kC3 hG h_k2).1 (kC3 hG h_k2).2 h_15 e_16 dX1_takeFrom_82 ?_
        obtain ⟨h_18, s_17, e_19, hg⟩ := wrA_e hg
        refine r_iast S hK hw (kC3 hG h_k).1 (kC3 hG h_k).2 h_18 e_19 dX1_takeFrom_83 (fun H locs hw => ?_)
        refine lv_aload_n hx hb dX1_takeFrom_84 rfl (lv_at hl 0 rfl) ?_
        refine r_getr (C := RX1) (T := TX1) (N := 9) (k' := (k + 4)) S hK hw (kC0 hG h_k).1 (kC0 hG h_k).2 rfl hinX1 8 (by decide) (o := 4) rfl rfl (hts (.fieldLink RX1 28 "SoupByRank$Court" "moods" "[I") (by decide +kernel)) rfl dX1_takeFrom_85 ?_
        refine lv_iload_n hx hb dX1_takeFrom_88 rfl (lv_at hl 2 rfl) ?_
        refine lv_aload_n hx hb dX1_takeFrom_89 rfl (lv_at hl 1 rfl) ?_
        refine r_getr (C := RX1) (T := TX1) (N := 9) (k' := (k2 + 4)) S hK hw (kC0 hG h_k2).1 (kC0 hG h_k2).2 rfl hinX1 8 (by decide) (o := 4) rfl rfl (hts (.fieldLink RX1 28 "SoupByRank$Court" "moods" "[I") (by decide +kernel)) rfl dX1_takeFrom_90 ?_
        refine lv_iload_n hx hb dX1_takeFrom_93 rfl (lv_at hl 2 rfl) ?_
        obtain ⟨h_21, x_20, e_22, hg⟩ := rdA_e hg
        refine r_iald S hK hw (kC4 hG h_k2).1 (kC4 hG h_k2).2 h_21 e_22 dX1_takeFrom_94 ?_
        obtain ⟨h_24, s_23, e_25, hg⟩ := wrA_e hg
        refine r_iast S hK hw (kC4 hG h_k).1 (kC4 hG h_k).2 h_24 e_25 dX1_takeFrom_95 (fun H locs hw => ?_)
        refine lv_iinc (v := (v2 + 1)) (lv' := [(2, .int (v2 + 1)), (0, .ref (gAd G k)), (1, .ref (gAd G k2))]) hx hb dX1_takeFrom_96 hl (k := 2) rfl rfl (by decide) rfl (fun ls hl => ?_)
        refine lv_goto (tgt := 42) hx hb dX1_takeFrom_99 (by decide) ?_
        exact ih42 _ _ _ _ _ hg hw (lv_sub hl [1, 2, 0] rfl)
  rw [g_X1_takeFrom] at hg
  refine lv_aload_n hx hb dX1_takeFrom_0 rfl (lv_at hl 0 rfl) ?_
  refine lv_aload_n hx hb dX1_takeFrom_1 rfl (lv_at hl 1 rfl) ?_
  refine r_get (C := RX1) (T := TX1) (N := 9) S hK hw (kC0 hG h_k2).1 (kC0 hG h_k2).2 rfl hinX1 0 (by decide) rfl (hts (.fieldLink RX1 31 "SoupByRank$Court" "many" "I") (by decide +kernel)) rfl dX1_takeFrom_2 ?_
  obtain ⟨s_26, e_27, hg⟩ := wrF_e hg
  refine r_put (C := RX1) (T := TX1) (N := 9) S hK hw (kC0 hG h_k).1 (kC0 hG h_k).2 rfl hinX1 tyX1_ok nmX1 0 (by decide) rfl rfl rfl rfl (hts (.fieldLink RX1 31 "SoupByRank$Court" "many" "I") (by decide +kernel)) rfl e_27 dX1_takeFrom_5 (fun H locs hw => ?_)
  refine lv_aload_n hx hb dX1_takeFrom_8 rfl (lv_at hl 0 rfl) ?_
  refine lv_aload_n hx hb dX1_takeFrom_9 rfl (lv_at hl 1 rfl) ?_
  refine r_get (C := RX1) (T := TX1) (N := 9) S hK hw (kC0 hG h_k2).1 (kC0 hG h_k2).2 rfl hinX1 1 (by decide) rfl (hts (.fieldLink RX1 34 "SoupByRank$Court" "supper" "I") (by decide +kernel)) rfl dX1_takeFrom_10 ?_
  obtain ⟨s_28, e_29, hg⟩ := wrF_e hg
  refine r_put (C := RX1) (T := TX1) (N := 9) S hK hw (kC0 hG h_k).1 (kC0 hG h_k).2 rfl hinX1 tyX1_ok nmX1 1 (by decide) rfl rfl rfl rfl (hts (.fieldLink RX1 34 "SoupByRank$Court" "supper" "I") (by decide +kernel)) rfl e_29 dX1_takeFrom_13 (fun H locs hw => ?_)
  refine lv_aload_n hx hb dX1_takeFrom_16 rfl (lv_at hl 0 rfl) ?_
  refine lv_aload_n hx hb dX1_takeFrom_17 rfl (lv_at hl 1 rfl) ?_
  refine r_get (C := RX1) (T := TX1) (N := 9) S hK hw (kC0 hG h_k2).1 (kC0 hG h_k2).2 rfl hinX1 2 (by decide) rfl (hts (.fieldLink RX1 9 "SoupByRank$Court" "heat" "I") (by decide +kernel)) rfl dX1_takeFrom_18 ?_
  obtain ⟨s_30, e_31, hg⟩ := wrF_e hg
  refine r_put (C := RX1) (T := TX1) (N := 9) S hK hw (kC0 hG h_k).1 (kC0 hG h_k).2 rfl hinX1 tyX1_ok nmX1 2 (by decide) rfl rfl rfl rfl (hts (.fieldLink RX1 9 "SoupByRank$Court" "heat" "I") (by decide +kernel)) rfl e_31 dX1_takeFrom_21 (fun H locs hw => ?_)
  refine lv_aload_n hx hb dX1_takeFrom_24 rfl (lv_at hl 0 rfl) ?_
  refine lv_aload_n hx hb dX1_takeFrom_25 rfl (lv_at hl 1 rfl) ?_
  refine r_get (C := RX1) (T := TX1) (N := 9) S hK hw (kC0 hG h_k2).1 (kC0 hG h_k2).2 rfl hinX1 3 (by decide) rfl (hts (.fieldLink RX1 37 "SoupByRank$Court" "law" "I") (by decide +kernel)) rfl dX1_takeFrom_26 ?_
  obtain ⟨s_32, e_33, hg⟩ := wrF_e hg
  refine r_put (C := RX1) (T := TX1) (N := 9) S hK hw (kC0 hG h_k).1 (kC0 hG h_k).2 rfl hinX1 tyX1_ok nmX1 3 (by decide) rfl rfl rfl rfl (hts (.fieldLink RX1 37 "SoupByRank$Court" "law" "I") (by decide +kernel)) rfl e_33 dX1_takeFrom_29 (fun H locs hw => ?_)
  refine lv_aload_n hx hb dX1_takeFrom_32 rfl (lv_at hl 0 rfl) ?_
  refine lv_aload_n hx hb dX1_takeFrom_33 rfl (lv_at hl 1 rfl) ?_
  refine r_get (C := RX1) (T := TX1) (N := 9) S hK hw (kC0 hG h_k2).1 (kC0 hG h_k2).2 rfl hinX1 4 (by decide) rfl (hts (.fieldLink RX1 15 "SoupByRank$Court" "away" "I") (by decide +kernel)) rfl dX1_takeFrom_34 ?_
  obtain ⟨s_34, e_35, hg⟩ := wrF_e hg
  refine r_put (C := RX1) (T := TX1) (N := 9) S hK hw (kC0 hG h_k).1 (kC0 hG h_k).2 rfl hinX1 tyX1_ok nmX1 4 (by decide) rfl rfl rfl rfl (hts (.fieldLink RX1 15 "SoupByRank$Court" "away" "I") (by decide +kernel)) rfl e_35 dX1_takeFrom_37 (fun H locs hw => ?_)
  refine lv_iconst (v := 0) hx hb dX1_takeFrom_40 (by decide) ?_
  refine lv_istore_n (lv' := [(2, .int 0), (0, .ref (gAd G k)), (1, .ref (gAd G k2))]) hx hb dX1_takeFrom_41 rfl hl (by decide) rfl (fun ls hl => ?_)
  exact L42 F _ _ _ _ _ hg hw (lv_sub hl [1, 2, 0] rfl)
set_option maxHeartbeats 4000000 in
set_option maxRecDepth 100000 in
theorem c_X1_isBetter (l : Launch) {G : GW} {N : Nat} {ln : Nat → Nat} {cT cS : ClassId} (hG : isX G N ln cT cS) {F sz : Nat} {k : Nat} (h_k : isCt k) {a1 : Int32} {a2 : Int32} {σ σR : Sg} {r : Int32} (hg : g_X1_isBetter F N ln k a1 a2 σ = some (σR, r)) : Met l yX1_isBetter wsX1_isBetter ({ frames := 0, cells := 0, slots := 0, locals := 0 } : Room) (va_Pc [.ref (gAd G k), .int a1, .int a2] (PX G σ sz)) (QcI G (gA G sz) σR r) 0 0 (gA G sz) := by
  refine metX (by decide) rfl (Nat.le_of_ble_eq_true rfl) ?_
  intro p e s m args below meth c ls S hr hlk hsz hA hK hw hl hmn
  have S : CallFix p m c cX1_isBetter 3 s args wsX1_isBetter RX1 := S
  obtain ⟨hx, hb, hml, hown, hts⟩ := id S
  have hl : lv_has ls 3 [(0, .ref (gAd G k)), (1, .int a1), (2, .int a2)] := hl
  have hinX1 : ∀ w ∈ wsX10, w ∈ wsX1_isBetter := by decide +kernel
  have J35 : ∀ (σ : Sg) (H : Heap) (locs : List Loc) (ls : Array Slot) (hg : g_X1_isBetter_b35 F N ln k σ = some (σR, r)) (hw : XD G (gA G sz) s.heap σ H locs) (hl : lv_has ls 3 []), W p l e (headSpec wsX1_isBetter ({ frames := 0, cells := 0, slots := 0, locals := 0 } : Room)).room s m args below meth c H locs 0 0 (MQ below (QcI G (gA G sz) σR r) args s 0 0 (gA G sz)) (F0 m 35 ls []) := by
    intro  σ H locs ls hg hw hl
    rw [g_X1_isBetter_b35] at hg
    refine lv_iconst (v := 1) hx hb dX1_isBetter_35 (by decide) ?_
    refine lv_goto (tgt := 40) hx hb dX1_isBetter_36 (by decide) ?_
    exact r_iretz S hr rfl hlk hw.2.2.2.2 hw hg dX1_isBetter_40
  rw [g_X1_isBetter] at hg
  refine lv_aload_n hx hb dX1_isBetter_0 rfl (lv_at hl 0 rfl) ?_
  refine r_getr (C := RX1) (T := TX1) (N := 9) (k' := (k + 3)) S hK hw (kC0 hG h_k).1 (kC0 hG h_k).2 rfl hinX1 7 (by decide) (o := 3) rfl rfl (hts (.fieldLink RX1 25 "SoupByRank$Court" "ranks" "[I") (by decide +kernel)) rfl dX1_isBetter_1 ?_
  refine lv_iload_n hx hb dX1_isBetter_4 rfl (lv_at hl 1 rfl) ?_
  obtain ⟨h_2, x_1, e_3, hg⟩ := rdA_e hg
  refine r_iald S hK hw (kC3 hG h_k).1 (kC3 hG h_k).2 h_2 e_3 dX1_isBetter_5 ?_
  refine lv_aload_n hx hb dX1_isBetter_6 rfl (lv_at hl 0 rfl) ?_
  refine r_getr (C := RX1) (T := TX1) (N := 9) (k' := (k + 3)) S hK hw (kC0 hG h_k).1 (kC0 hG h_k).2 rfl hinX1 7 (by decide) (o := 3) rfl rfl (hts (.fieldLink RX1 25 "SoupByRank$Court" "ranks" "[I") (by decide +kernel)) rfl dX1_isBetter_7 ?_
  refine lv_iload_n hx hb dX1_isBetter_10 rfl (lv_at hl 2 rfl) ?_
  obtain ⟨h_5, x_4, e_6, hg⟩ := rdA_e hg
  refine r_iald S hK hw (kC3 hG h_k).1 (kC3 hG h_k).2 h_5 e_6 dX1_isBetter_11 ?_
  refine lv_icmp_gt (tgt := 35) hx hb dX1_isBetter_12 (by decide) (fun c_7 => ?_) (fun c_7 => ?_)
  · have hg := it_p hg c_7
    exact J35 _ _ _ _ hg hw (lv_sub hl [] rfl)
  · have hg := it_n hg c_7
    refine lv_aload_n hx hb dX1_isBetter_15 rfl (lv_at hl 0 rfl) ?_
    refine r_getr (C := RX1) (T := TX1) (N := 9) (k' := (k + 3)) S hK hw (kC0 hG h_k).1 (kC0 hG h_k).2 rfl hinX1 7 (by decide) (o := 3) rfl rfl (hts (.fieldLink RX1 25 "SoupByRank$Court" "ranks" "[I") (by decide +kernel)) rfl dX1_isBetter_16 ?_
    refine lv_iload_n hx hb dX1_isBetter_19 rfl (lv_at hl 1 rfl) ?_
    obtain ⟨h_9, x_8, e_10, hg⟩ := rdA_e hg
    refine r_iald S hK hw (kC3 hG h_k).1 (kC3 hG h_k).2 h_9 e_10 dX1_isBetter_20 ?_
    refine lv_aload_n hx hb dX1_isBetter_21 rfl (lv_at hl 0 rfl) ?_
    refine r_getr (C := RX1) (T := TX1) (N := 9) (k' := (k + 3)) S hK hw (kC0 hG h_k).1 (kC0 hG h_k).2 rfl hinX1 7 (by decide) (o := 3) rfl rfl (hts (.fieldLink RX1 25 "SoupByRank$Court" "ranks" "[I") (by decide +kernel)) rfl dX1_isBetter_22 ?_
    refine lv_iload_n hx hb dX1_isBetter_25 rfl (lv_at hl 2 rfl) ?_
    obtain ⟨h_12, x_11, e_13, hg⟩ := rdA_e hg
    refine r_iald S hK hw (kC3 hG h_k).1 (kC3 hG h_k).2 h_12 e_13 dX1_isBetter_26 ?_
    refine lv_icmp_ne (tgt := 39) hx hb dX1_isBetter_27 (by decide) (fun c_14 => ?_) (fun c_14 => ?_)
    · have hg := it_n hg c_14
      refine lv_iconst (v := 0) hx hb dX1_isBetter_39 (by decide) ?_
      exact r_iretz S hr rfl hlk hw.2.2.2.2 hw hg dX1_isBetter_40
    · have hg := it_p hg c_14
      refine lv_iload_n hx hb dX1_isBetter_30 rfl (lv_at hl 1 rfl) ?_
      refine lv_iload_n hx hb dX1_isBetter_31 rfl (lv_at hl 2 rfl) ?_
      refine lv_icmp_ge (tgt := 39) hx hb dX1_isBetter_32 (by decide) (fun c_15 => ?_) (fun c_15 => ?_)
      · have hg := it_p hg c_15
        refine lv_iconst (v := 0) hx hb dX1_isBetter_39 (by decide) ?_
        exact r_iretz S hr rfl hlk hw.2.2.2.2 hw hg dX1_isBetter_40
      · have hg := it_n hg c_15
        exact J35 _ _ _ _ hg hw (lv_sub hl [] rfl)
set_option maxHeartbeats 4000000 in
set_option maxRecDepth 100000 in
theorem c_X1_changeRanks (l : Launch) {G : GW} {N : Nat} {ln : Nat → Nat} {cT cS : ClassId} (hG : isX G N ln cT cS) {F sz : Nat} {k : Nat} (h_k : isCt k) {a1 : Int32} {a2 : Int32} {σ σR : Sg} (hg : g_X1_changeRanks F N ln k a1 a2 σ = some σR) : Met l yX1_changeRanks wsX1_changeRanks ({ frames := 0, cells := 0, slots := 0, locals := 0 } : Room) (va_Pc [.ref (gAd G k), .int a1, .int a2] (PX G σ sz)) (QcV G (gA G sz) σR) 0 0 (gA G sz) := by
  refine metX (by decide) rfl (Nat.le_of_ble_eq_true rfl) ?_
  intro p e s m args below meth c ls S hr hlk hsz hA hK hw hl hmn
  have S : CallFix p m c cX1_changeRanks 4 s args wsX1_changeRanks RX1 := S
  obtain ⟨hx, hb, hml, hown, hts⟩ := id S
  have hl : lv_has ls 4 [(0, .ref (gAd G k)), (1, .int a1), (2, .int a2)] := hl
  have hinX1 : ∀ w ∈ wsX10, w ∈ wsX1_changeRanks := by decide +kernel
  rw [g_X1_changeRanks] at hg
  refine lv_aload_n hx hb dX1_changeRanks_0 rfl (lv_at hl 0 rfl) ?_
  refine r_getr (C := RX1) (T := TX1) (N := 9) (k' := (k + 3)) S hK hw (kC0 hG h_k).1 (kC0 hG h_k).2 rfl hinX1 7 (by decide) (o := 3) rfl rfl (hts (.fieldLink RX1 25 "SoupByRank$Court" "ranks" "[I") (by decide +kernel)) rfl dX1_changeRanks_1 ?_
  refine lv_iload_n hx hb dX1_changeRanks_4 rfl (lv_at hl 1 rfl) ?_
  obtain ⟨h_2, x_1, e_3, hg⟩ := rdA_e hg
  refine r_iald S hK hw (kC3 hG h_k).1 (kC3 hG h_k).2 h_2 e_3 dX1_changeRanks_5 ?_
  refine lv_istore_n (lv' := [(3, .int x_1), (0, .ref (gAd G k)), (1, .int a1), (2, .int a2)]) hx hb dX1_changeRanks_6 rfl hl (by decide) rfl (fun ls hl => ?_)
  refine lv_aload_n hx hb dX1_changeRanks_7 rfl (lv_at hl 1 rfl) ?_
  refine r_getr (C := RX1) (T := TX1) (N := 9) (k' := (k + 3)) S hK hw (kC0 hG h_k).1 (kC0 hG h_k).2 rfl hinX1 7 (by decide) (o := 3) rfl rfl (hts (.fieldLink RX1 25 "SoupByRank$Court" "ranks" "[I") (by decide +kernel)) rfl dX1_changeRanks_8 ?_
  refine lv_iload_n hx hb dX1_changeRanks_11 rfl (lv_at hl 2 rfl) ?_
  refine lv_aload_n hx hb dX1_changeRanks_12 rfl (lv_at hl 1 rfl) ?_
  refine r_getr (C := RX1) (T := TX1) (N := 9) (k' := (k + 3)) S hK hw (kC0 hG h_k).1 (kC0 hG h_k).2 rfl hinX1 7 (by decide) (o := 3) rfl rfl (hts (.fieldLink RX1 25 "SoupByRank$Court" "ranks" "[I") (by decide +kernel)) rfl dX1_changeRanks_13 ?_
  refine lv_iload_n hx hb dX1_changeRanks_16 rfl (lv_at hl 3 rfl) ?_
  obtain ⟨h_5, x_4, e_6, hg⟩ := rdA_e hg
  refine r_iald S hK hw (kC3 hG h_k).1 (kC3 hG h_k).2 h_5 e_6 dX1_changeRanks_17 ?_
  obtain ⟨h_8, s_7, e_9, hg⟩ := wrA_e hg
  refine r_iast S hK hw (kC3 hG h_k).1 (kC3 hG h_k).2 h_8 e_9 dX1_changeRanks_18 (fun H locs hw => ?_)
  refine lv_aload_n hx hb dX1_changeRanks_19 rfl (lv_at hl 1 rfl) ?_
  refine r_getr (C := RX1) (T := TX1) (N := 9) (k' := (k + 3)) S hK hw (kC0 hG h_k).1 (kC0 hG h_k).2 rfl hinX1 7 (by decide) (o := 3) rfl rfl (hts (.fieldLink RX1 25 "SoupByRank$Court" "ranks" "[I") (by decide +kernel)) rfl dX1_changeRanks_20 ?_
  refine lv_iload_n hx hb dX1_changeRanks_23 rfl (lv_at hl 3 rfl) ?_
  refine lv_iload_n hx hb dX1_changeRanks_24 rfl (lv_at hl 0 rfl) ?_
  obtain ⟨h_11, s_10, e_12, hg⟩ := wrA_e hg
  refine r_iast S hK hw (kC3 hG h_k).1 (kC3 hG h_k).2 h_11 e_12 dX1_changeRanks_25 (fun H locs hw => ?_)
  exact r_vreti S hr hlk hw.2.2.2.2 hw hg dX1_changeRanks_26
set_option maxHeartbeats 4000000 in
set_option maxRecDepth 100000 in
theorem c_X1_drawRanks (l : Launch) {G : GW} {N : Nat} {ln : Nat → Nat} {cT cS : ClassId} (hG : isX G N ln cT cS) {F sz : Nat} {k : Nat} (h_k : isCt k) {a1 : Int32} {σ σR : Sg} (hg : g_X1_drawRanks F N ln k a1 σ = some σR) : Met l yX1_drawRanks wsX1_drawRanks ({ frames := 0, cells := 0, slots := 0, locals := 0 } : Room) (va_Pc [.ref (gAd G k), .int a1] (PX G σ sz)) (QcV G (gA G sz) σR) 0 0 (gA G sz) := by
  refine metX (by decide) rfl (Nat.le_of_ble_eq_true rfl) ?_
  intro p e s m args below meth c ls S hr hlk hsz hA hK hw hl hmn
  have S : CallFix p m c cX1_drawRanks 5 s args wsX1_drawRanks RX1 := S
  obtain ⟨hx, hb, hml, hown, hts⟩ := id S
  have hl : lv_has ls 5 [(0, .ref (gAd G k)), (1, .int a1)] := hl
  have hinX1 : ∀ w ∈ wsX10, w ∈ wsX1_drawRanks := by decide +kernel
  have L8 : ∀ (n8 : Nat) (v2 : Int64) (v4 : Int32) (σ : Sg) (H : Heap) (locs : List Loc) (ls : Array Slot) (hg : g_X1_drawRanks_l8 F N ln k n8 v2 v4 σ = some σR) (hw : XD G (gA G sz) s.heap σ H locs) (hl : lv_has ls 5 [(0, .ref (gAd G k)), (2, .long v2), (4, .int v4)]), W p l e (headSpec wsX1_drawRanks ({ frames := 0, cells := 0, slots := 0, locals := 0 } : Room)).room s m args below meth c H locs 0 0 (MQ below (QcV G (gA G sz) σR) args s 0 0 (gA G sz)) (F0 m 8 ls []) := by
    intro n8
    induction n8 with
    | zero => intro v2 v4 σ H locs ls hg hw hl; exact no_e hg
    | succ n8 ih8 =>
      intro v2 v4 σ H locs ls hg hw hl
      rw [g_X1_drawRanks_l8] at hg
      refine lv_iload hx hb dX1_drawRanks_8 (lv_at hl 2 rfl) ?_
      refine lv_aload_n hx hb dX1_drawRanks_10 rfl (lv_at hl 0 rfl) ?_
      refine r_get (C := RX1) (T := TX1) (N := 9) S hK hw (kC0 hG h_k).1 (kC0 hG h_k).2 rfl hinX1 0 (by decide) rfl (hts (.fieldLink RX1 31 "SoupByRank$Court" "many" "I") (by decide +kernel)) rfl dX1_drawRanks_11 ?_
      refine lv_icmp_ge (tgt := 46) hx hb dX1_drawRanks_14 (by decide) (fun c_1 => ?_) (fun c_1 => ?_)
      · have hg := it_p hg c_1
        exact r_vreti S hr hlk hw.2.2.2.2 hw hg dX1_drawRanks_46
      · have hg := it_n hg c_1
        refine lv_lload_n hx hb dX1_drawRanks_17 rfl (lv_at hl 1 rfl) ?_
        refine lv_ldc2 (v := 48271) hx hb hown (hts (.constantLong RX1 40 (48271)) (by decide +kernel)) dX1_drawRanks_18 ?_
        refine lv_lmul hx hb dX1_drawRanks_21 ?_
        refine lv_ldc2 (v := 2147483647) hx hb hown (hts (.constantLong RX1 42 (2147483647)) (by decide +kernel)) dX1_drawRanks_22 ?_
        obtain ⟨h_3, hg⟩ := remL_e hg
        refine lv_lrem hx hb dX1_drawRanks_25 h_3 ?_
        refine lv_lstore_n (lv' := [(2, .long ((v2 * 48271) - (v2 * 48271) / 2147483647 * 2147483647)), (0, .ref (gAd G k)), (4, .int v4)]) hx hb dX1_drawRanks_26 rfl hl (by decide) rfl (fun ls hl => ?_)
        refine lv_aload_n hx hb dX1_drawRanks_27 rfl (lv_at hl 1 rfl) ?_
        refine r_getr (C := RX1) (T := TX1) (N := 9) (k' := (k + 3)) S hK hw (kC0 hG h_k).1 (kC0 hG h_k).2 rfl hinX1 7 (by decide) (o := 3) rfl rfl (hts (.fieldLink RX1 25 "SoupByRank$Court" "ranks" "[I") (by decide +kernel)) rfl dX1_drawRanks_28 ?_
        refine lv_iload hx hb dX1_drawRanks_31 (lv_at hl 2 rfl) ?_
        refine lv_lload_n hx hb dX1_drawRanks_33 rfl (lv_at hl 0 rfl) ?_
        refine lv_ldc2 (v := 100) hx hb hown (hts (.constantLong RX1 44 (100)) (by decide +kernel)) dX1_drawRanks_34 ?_
        obtain ⟨h_6, hg⟩ := remL_e hg
        refine lv_lrem hx hb dX1_drawRanks_37 h_6 ?_
        refine lv_l2i (v := (Int64.toInt32 (((v2 * 48271) - (v2 * 48271) / 2147483647 * 2147483647) - ((v2 * 48271) - (v2 * 48271) / 2147483647 * 2147483647) / 100 * 100))) hx hb dX1_drawRanks_38 rfl ?_
        obtain ⟨h_9, s_8, e_10, hg⟩ := wrA_e hg
        refine r_iast S hK hw (kC3 hG h_k).1 (kC3 hG h_k).2 h_9 e_10 dX1_drawRanks_39 (fun H locs hw => ?_)
        refine lv_iinc (v := (v4 + 1)) (lv' := [(4, .int (v4 + 1)), (2, .long ((v2 * 48271) - (v2 * 48271) / 2147483647 * 2147483647)), (0, .ref (gAd G k))]) hx hb dX1_drawRanks_40 hl (k := 2) rfl rfl (by decide) rfl (fun ls hl => ?_)
        refine lv_goto (tgt := 8) hx hb dX1_drawRanks_43 (by decide) ?_
        exact ih8 _ _ _ _ _ _ hg hw (lv_sub hl [2, 1, 0] rfl)
  rw [g_X1_drawRanks] at hg
  refine lv_iload_n hx hb dX1_drawRanks_0 rfl (lv_at hl 1 rfl) ?_
  refine lv_i2l (v := (Int32.toInt64 a1)) hx hb dX1_drawRanks_1 rfl ?_
  refine lv_lconst (v := 1) hx hb dX1_drawRanks_2 (by decide) ?_
  refine lv_ladd hx hb dX1_drawRanks_3 ?_
  refine lv_lstore_n (lv' := [(2, .long ((Int32.toInt64 a1) + 1)), (0, .ref (gAd G k)), (1, .int a1)]) hx hb dX1_drawRanks_4 rfl hl (by decide) rfl (fun ls hl => ?_)
  refine lv_iconst (v := 0) hx hb dX1_drawRanks_5 (by decide) ?_
  refine lv_istore (lv' := [(4, .int 0), (2, .long ((Int32.toInt64 a1) + 1)), (0, .ref (gAd G k)), (1, .int a1)]) hx hb dX1_drawRanks_6 hl (by decide) rfl (fun ls hl => ?_)
  exact L8 F _ _ _ _ _ _ hg hw (lv_sub hl [2, 1, 0] rfl)
set_option maxHeartbeats 4000000 in
set_option maxRecDepth 100000 in
theorem c_X5_joined (l : Launch) {G : GW} {N : Nat} {ln : Nat → Nat} {cT cS : ClassId} (hG : isX G N ln cT cS) {F sz : Nat} {a0 : Int32} {a1 : Int32} {a2 : Int32} {σ σR : Sg} {r : Int32} (hg : g_X5_joined F N ln a0 a1 a2 σ = some (σR, r)) : Met l yX5_joined wsX5_joined ({ frames := 0, cells := 0, slots := 0, locals := 0 } : Room) (va_Pc [.int a0, .int a1, .int a2] (PX G σ sz)) (QcI G (gA G sz) σR r) 0 0 (gA G sz) := by
  refine metX (by decide) rfl (Nat.le_of_ble_eq_true rfl) ?_
  intro p e s m args below meth c ls S hr hlk hsz hA hK hw hl hmn
  have S : CallFix p m c cX5_joined 3 s args wsX5_joined RX5 := S
  obtain ⟨hx, hb, hml, hown, hts⟩ := id S
  have hl : lv_has ls 3 [(0, .int a0), (1, .int a1), (2, .int a2)] := hl
  have J100 : ∀ (σ : Sg) (H : Heap) (locs : List Loc) (ls : Array Slot) (hg : g_X5_joined_b100 F N ln σ = some (σR, r)) (hw : XD G (gA G sz) s.heap σ H locs) (hl : lv_has ls 3 []), W p l e (headSpec wsX5_joined ({ frames := 0, cells := 0, slots := 0, locals := 0 } : Room)).room s m args below meth c H locs 0 0 (MQ below (QcI G (gA G sz) σR r) args s 0 0 (gA G sz)) (F0 m 100 ls []) := by
    intro  σ H locs ls hg hw hl
    rw [g_X5_joined_b100] at hg
    refine lv_iconst (v := 1) hx hb dX5_joined_100 (by decide) ?_
    refine lv_goto (tgt := 105) hx hb dX5_joined_101 (by decide) ?_
    exact r_ireti S hr hlk hw.2.2.2.2 hw hg dX5_joined_105
  rw [g_X5_joined] at hg
  refine lv_iload_n hx hb dX5_joined_0 rfl (lv_at hl 0 rfl) ?_
  by_cases c_1 : a0 = (-15)
  · have hg := it_p hg c_1
    refine lv_tableIn (tgt := 92) hx hb dX5_joined_1 (by rw [c_1]; decide) (by rw [c_1]; decide) (off := 91) (by rw [c_1]; rfl) (by decide) ?_
    refine lv_iload_n hx hb dX5_joined_92 rfl (lv_at hl 1 rfl) ?_
    refine lv_if_ne (tgt := 100) hx hb dX5_joined_93 (by decide) (fun c_2 => ?_) (fun c_2 => ?_)
    · have hg := it_n hg c_2
      exact J100 _ _ _ _ hg hw (lv_sub hl [] rfl)
    · have hg := it_p hg c_2
      refine lv_iload_n hx hb dX5_joined_96 rfl (lv_at hl 2 rfl) ?_
      refine lv_if_eq (tgt := 104) hx hb dX5_joined_97 (by decide) (fun c_3 => ?_) (fun c_3 => ?_)
      · have hg := it_p hg c_3
        refine lv_iconst (v := 0) hx hb dX5_joined_104 (by decide) ?_
        exact r_ireti S hr hlk hw.2.2.2.2 hw hg dX5_joined_105
      · have hg := it_n hg c_3
        exact J100 _ _ _ _ hg hw (lv_sub hl [] rfl)
  have hg := it_n hg c_1
  by_cases c_4 : a0 = (-14)
  · have hg := it_p hg c_4
    refine lv_tableIn (tgt := 78) hx hb dX5_joined_1 (by rw [c_4]; decide) (by rw [c_4]; decide) (off := 77) (by rw [c_4]; rfl) (by decide) ?_
    refine lv_iload_n hx hb dX5_joined_78 rfl (lv_at hl 1 rfl) ?_
    refine lv_if_eq (tgt := 90) hx hb dX5_joined_79 (by decide) (fun c_5 => ?_) (fun c_5 => ?_)
    · have hg := it_p hg c_5
      refine lv_iconst (v := 0) hx hb dX5_joined_90 (by decide) ?_
      exact r_ireti S hr hlk hw.2.2.2.2 hw hg dX5_joined_91
    · have hg := it_n hg c_5
      refine lv_iload_n hx hb dX5_joined_82 rfl (lv_at hl 2 rfl) ?_
      refine lv_if_eq (tgt := 90) hx hb dX5_joined_83 (by decide) (fun c_6 => ?_) (fun c_6 => ?_)
      · have hg := it_p hg c_6
        refine lv_iconst (v := 0) hx hb dX5_joined_90 (by decide) ?_
        exact r_ireti S hr hlk hw.2.2.2.2 hw hg dX5_joined_91
      · have hg := it_n hg c_6
        refine lv_iconst (v := 1) hx hb dX5_joined_86 (by decide) ?_
        refine lv_goto (tgt := 91) hx hb dX5_joined_87 (by decide) ?_
        exact r_ireti S hr hlk hw.2.2.2.2 hw hg dX5_joined_91
  have hg := it_n hg c_4
  by_cases c_7 : a0 = (-13)
  · have hg := it_p hg c_7
    refine lv_tableIn (tgt := 67) hx hb dX5_joined_1 (by rw [c_7]; decide) (by rw [c_7]; decide) (off := 66) (by rw [c_7]; rfl) (by decide) ?_
    refine lv_iload_n hx hb dX5_joined_67 rfl (lv_at hl 1 rfl) ?_
    refine lv_iload_n hx hb dX5_joined_68 rfl (lv_at hl 2 rfl) ?_
    refine lv_icmp_ne (tgt := 76) hx hb dX5_joined_69 (by decide) (fun c_8 => ?_) (fun c_8 => ?_)
    · have hg := it_n hg c_8
      refine lv_iconst (v := 0) hx hb dX5_joined_76 (by decide) ?_
      exact r_ireti S hr hlk hw.2.2.2.2 hw hg dX5_joined_77
    · have hg := it_p hg c_8
      refine lv_iconst (v := 1) hx hb dX5_joined_72 (by decide) ?_
      refine lv_goto (tgt := 77) hx hb dX5_joined_73 (by decide) ?_
      exact r_ireti S hr hlk hw.2.2.2.2 hw hg dX5_joined_77
  have hg := it_n hg c_7
  by_cases c_9 : a0 = (-12)
  · have hg := it_p hg c_9
    refine lv_tableIn (tgt := 56) hx hb dX5_joined_1 (by rw [c_9]; decide) (by rw [c_9]; decide) (off := 55) (by rw [c_9]; rfl) (by decide) ?_
    refine lv_iload_n hx hb dX5_joined_56 rfl (lv_at hl 1 rfl) ?_
    refine lv_iload_n hx hb dX5_joined_57 rfl (lv_at hl 2 rfl) ?_
    refine lv_icmp_ge (tgt := 65) hx hb dX5_joined_58 (by decide) (fun c_10 => ?_) (fun c_10 => ?_)
    · have hg := it_p hg c_10
      refine lv_iconst (v := 0) hx hb dX5_joined_65 (by decide) ?_
      exact r_ireti S hr hlk hw.2.2.2.2 hw hg dX5_joined_66
    · have hg := it_n hg c_10
      refine lv_iconst (v := 1) hx hb dX5_joined_61 (by decide) ?_
      refine lv_goto (tgt := 66) hx hb dX5_joined_62 (by decide) ?_
      exact r_ireti S hr hlk hw.2.2.2.2 hw hg dX5_joined_66
  have hg := it_n hg c_9
  by_cases c_11 : a0 = (-11)
  · have hg := it_p hg c_11
    refine lv_tableIn (tgt := 52) hx hb dX5_joined_1 (by rw [c_11]; decide) (by rw [c_11]; decide) (off := 51) (by rw [c_11]; rfl) (by decide) ?_
    refine lv_iload_n hx hb dX5_joined_52 rfl (lv_at hl 1 rfl) ?_
    refine lv_iload_n hx hb dX5_joined_53 rfl (lv_at hl 2 rfl) ?_
    refine lv_isub hx hb dX5_joined_54 ?_
    exact r_ireti S hr hlk hw.2.2.2.2 hw hg dX5_joined_55
  have hg := it_n hg c_11
  by_cases c_12 : a0 = (-10)
  · have hg := it_p hg c_12
    refine lv_tableIn (tgt := 48) hx hb dX5_joined_1 (by rw [c_12]; decide) (by rw [c_12]; decide) (off := 47) (by rw [c_12]; rfl) (by decide) ?_
    refine lv_iload_n hx hb dX5_joined_48 rfl (lv_at hl 1 rfl) ?_
    refine lv_iload_n hx hb dX5_joined_49 rfl (lv_at hl 2 rfl) ?_
    refine lv_iadd hx hb dX5_joined_50 ?_
    exact r_ireti S hr hlk hw.2.2.2.2 hw hg dX5_joined_51
  have hg := it_n hg c_12
  by_cases c_13 : a0 = (-9)
  · have hg := it_p hg c_13
    refine lv_tableIn (tgt := 44) hx hb dX5_joined_1 (by rw [c_13]; decide) (by rw [c_13]; decide) (off := 43) (by rw [c_13]; rfl) (by decide) ?_
    refine lv_iload_n hx hb dX5_joined_44 rfl (lv_at hl 1 rfl) ?_
    refine lv_iload_n hx hb dX5_joined_45 rfl (lv_at hl 2 rfl) ?_
    refine lv_imul hx hb dX5_joined_46 ?_
    exact r_ireti S hr hlk hw.2.2.2.2 hw hg dX5_joined_47
  have hg := it_n hg c_13
  have hsw := tb_out (lo := -15) (hi := -9) (x := a0) (fun n h1 h2 => by rcases (show n = -15 ∨ n = -14 ∨ n = -13 ∨ n = -12 ∨ n = -11 ∨ n = -10 ∨ n = -9 by omega) with rfl | rfl | rfl | rfl | rfl | rfl | rfl; exact lv_neT c_1 (by decide); exact lv_neT c_4 (by decide); exact lv_neT c_7 (by decide); exact lv_neT c_9 (by decide); exact lv_neT c_11 (by decide); exact lv_neT c_12 (by decide); exact lv_neT c_13 (by decide))
  refine lv_tableOut (tgt := 106) hx hb dX5_joined_1 hsw (by decide) ?_
  refine lv_iconst (v := 0) hx hb dX5_joined_106 (by decide) ?_
  exact r_ireti S hr hlk hw.2.2.2.2 hw hg dX5_joined_107
set_option maxHeartbeats 4000000 in
set_option maxRecDepth 100000 in
theorem c_X5_value (l : Launch) {G : GW} {N : Nat} {ln : Nat → Nat} {cT cS : ClassId} (hG : isX G N ln cT cS) {F sz : Nat} {t : Nat} (h_t : t < N) {a1 : Int32} {σ σR : Sg} {r : Int32} (hg : g_X5_value F N ln t a1 σ = some (σR, r)) : Met l yX5_value wsX5_value ({ frames := 1, cells := 0, slots := 0, locals := 22 } : Room) (va_Pc [.ref (gAd G (tc t)), .int a1, .ref (gAd G 23), .ref (gAd G 24)] (PX G σ sz)) (QcI G (gA G sz) σR r) 0 0 (gA G sz) := by
  refine metX (by decide) rfl (Nat.le_of_ble_eq_true rfl) ?_
  intro p e s m args below meth c ls S hr hlk hsz hA hK hw hl hmn
  have S : CallFix p m c cX5_value 7 s args wsX5_value RX5 := S
  obtain ⟨hx, hb, hml, hown, hts⟩ := id S
  have hl : lv_has ls 7 [(0, .ref (gAd G (tc t))), (1, .int a1), (2, .ref (gAd G 23)), (3, .ref (gAd G 24))] := hl
  have hinX5 : ∀ w ∈ wsX50, w ∈ wsX5_value := by decide +kernel
  have J195 : ∀ (v4 : Int32) (σ : Sg) (H : Heap) (locs : List Loc) (ls : Array Slot) (hg : g_X5_value_b195 F N ln t v4 σ = some (σR, r)) (hw : XD G (gA G sz) s.heap σ H locs) (hl : lv_has ls 7 [(3, .ref (gAd G 24)), (4, .int v4)]), W p l e (headSpec wsX5_value ({ frames := 1, cells := 0, slots := 0, locals := 22 } : Room)).room s m args below meth c H locs 0 0 (MQ below (QcI G (gA G sz) σR r) args s 0 0 (gA G sz)) (F0 m 195 ls []) := by
    intro v4 σ H locs ls hg hw hl
    rw [g_X5_value_b195] at hg
    refine lv_iload hx hb dX5_value_195 (lv_at hl 1 rfl) ?_
    refine lv_if_le (tgt := 206) hx hb dX5_value_197 (by decide) (fun c_1 => ?_) (fun c_1 => ?_)
    · have hg := it_p hg c_1
      refine lv_iconst (v := 0) hx hb dX5_value_206 (by decide) ?_
      exact r_ireti S hr hlk hw.2.2.2.2 hw hg dX5_value_207
    · have hg := it_n hg c_1
      refine lv_aload_n hx hb dX5_value_200 rfl (lv_at hl 0 rfl) ?_
      refine lv_iconst (v := 0) hx hb dX5_value_201 (by decide) ?_
      obtain ⟨h_3, x_2, e_4, hg⟩ := rdA_e hg
      refine r_iald S hK hw (kX_24 hG).1 (kX_24 hG).2 h_3 e_4 dX5_value_202 ?_
      refine lv_goto (tgt := 207) hx hb dX5_value_203 (by decide) ?_
      exact r_ireti S hr hlk hw.2.2.2.2 hw hg dX5_value_207
  have L36 : ∀ (v1 : Int32) (n36 : Nat) (v4 : Int32) (v5 : Int32) (σ : Sg) (H : Heap) (locs : List Loc) (ls : Array Slot) (hg : g_X5_value_l36 F N ln t v1 n36 v4 v5 σ = some (σR, r)) (hw : XD G (gA G sz) s.heap σ H locs) (hl : lv_has ls 7 [(0, .ref (gAd G (tc t))), (1, .int v1), (2, .ref (gAd G 23)), (3, .ref (gAd G 24)), (4, .int v4), (5, .int v5)]), W p l e (headSpec wsX5_value ({ frames := 1, cells := 0, slots := 0, locals := 22 } : Room)).room s m args below meth c H locs 0 0 (MQ below (QcI G (gA G sz) σR r) args s 0 0 (gA G sz)) (F0 m 36 ls []) := by
    intro v1
    intro n36
    induction n36 with
    | zero => intro v4 v5 σ H locs ls hg hw hl; exact no_e hg
    | succ n36 ih36 =>
      have J189 : ∀ (v4 : Int32) (v5 : Int32) (σ : Sg) (H : Heap) (locs : List Loc) (ls : Array Slot) (hg : g_X5_value_b189 F N ln t (fun v4_ v5_ σ_ => g_X5_value_l36 F N ln t v1 n36 v4_ v5_ σ_) v1 v4 v5 σ = some (σR, r)) (hw : XD G (gA G sz) s.heap σ H locs) (hl : lv_has ls 7 [(0, .ref (gAd G (tc t))), (1, .int v1), (2, .ref (gAd G 23)), (3, .ref (gAd G 24)), (4, .int v4), (5, .int v5)]), W p l e (headSpec wsX5_value ({ frames := 1, cells := 0, slots := 0, locals := 22 } : Room)).room s m args below meth c H locs 0 0 (MQ below (QcI G (gA G sz) σR r) args s 0 0 (gA G sz)) (F0 m 189 ls []) := by
        intro v4 v5 σ H locs ls hg hw hl
        rw [g_X5_value_b189] at hg
        refine lv_iinc (v := (v5 + 1)) (lv' := [(5, .int (v5 + 1)), (0, .ref (gAd G (tc t))), (1, .int v1), (2, .ref (gAd G 23)), (3, .ref (gAd G 24)), (4, .int v4)]) hx hb dX5_value_189 hl (k := 5) rfl rfl (by decide) rfl (fun ls hl => ?_)
        refine lv_goto (tgt := 36) hx hb dX5_value_192 (by decide) ?_
        exact ih36 _ _ _ _ _ _ hg hw (lv_sub hl [1, 2, 3, 4, 5, 0] rfl)
      have J155 : ∀ (v4 : Int32) (v5 : Int32) (u0 : Int32) (u1 : Int32) (σ : Sg) (H : Heap) (locs : List Loc) (ls : Array Slot) (hg : g_X5_value_b155 F N ln t (fun v4_ v5_ σ_ => g_X5_value_l36 F N ln t v1 n36 v4_ v5_ σ_) v1 v4 v5 u0 u1 σ = some (σR, r)) (hw : XD G (gA G sz) s.heap σ H locs) (hl : lv_has ls 7 [(0, .ref (gAd G (tc t))), (1, .int v1), (2, .ref (gAd G 23)), (3, .ref (gAd G 24)), (4, .int v4), (5, .int v5)]), W p l e (headSpec wsX5_value ({ frames := 1, cells := 0, slots := 0, locals := 22 } : Room)).room s m args below meth c H locs 0 0 (MQ below (QcI G (gA G sz) σR r) args s 0 0 (gA G sz)) (F0 m 155 ls [.int u0, .int u1, .ref (gAd G 24)]) := by
        intro v4 v5 u0 u1 σ H locs ls hg hw hl
        rw [g_X5_value_b155] at hg
        obtain ⟨h_6, s_5, e_7, hg⟩ := wrA_e hg
        refine r_iast S hK hw (kX_24 hG).1 (kX_24 hG).2 h_6 e_7 dX5_value_155 (fun H locs hw => ?_)
        refine lv_goto (tgt := 189) hx hb dX5_value_156 (by decide) ?_
        exact J189 v4 v5 _ _ _ _ hg hw (lv_sub hl [0, 1, 2, 3, 4, 5] rfl)
      have J99 : ∀ (v4 : Int32) (v5 : Int32) (u0 : Int32) (u1 : Int32) (σ : Sg) (H : Heap) (locs : List Loc) (ls : Array Slot) (hg : g_X5_value_b99 F N ln t (fun v4_ v5_ σ_ => g_X5_value_l36 F N ln t v1 n36 v4_ v5_ σ_) v1 v4 v5 u0 u1 σ = some (σR, r)) (hw : XD G (gA G sz) s.heap σ H locs) (hl : lv_has ls 7 [(0, .ref (gAd G (tc t))), (1, .int v1), (2, .ref (gAd G 23)), (3, .ref (gAd G 24)), (4, .int v4), (5, .int v5)]), W p l e (headSpec wsX5_value ({ frames := 1, cells := 0, slots := 0, locals := 22 } : Room)).room s m args below meth c H locs 0 0 (MQ below (QcI G (gA G sz) σR r) args s 0 0 (gA G sz)) (F0 m 99 ls [.int u0, .int u1, .ref (gAd G 24)]) := by
        intro v4 v5 u0 u1 σ H locs ls hg hw hl
        rw [g_X5_value_b99] at hg
        obtain ⟨h_9, s_8, e_10, hg⟩ := wrA_e hg
        refine r_iast S hK hw (kX_24 hG).1 (kX_24 hG).2 h_9 e_10 dX5_value_99 (fun H locs hw => ?_)
        refine lv_iinc (v := (v4 + 1)) (lv' := [(4, .int (v4 + 1)), (0, .ref (gAd G (tc t))), (1, .int v1), (2, .ref (gAd G 23)), (3, .ref (gAd G 24)), (5, .int v5)]) hx hb dX5_value_100 hl (k := 4) rfl rfl (by decide) rfl (fun ls hl => ?_)
        refine lv_goto (tgt := 189) hx hb dX5_value_103 (by decide) ?_
        exact J189 (v4 + 1) v5 _ _ _ _ hg hw (lv_sub hl [1, 2, 3, 4, 0, 5] rfl)
      intro v4 v5 σ H locs ls hg hw hl
      rw [g_X5_value_l36] at hg
      refine lv_iload hx hb dX5_value_36 (lv_at hl 5 rfl) ?_
      refine lv_aload_n hx hb dX5_value_38 rfl (lv_at hl 0 rfl) ?_
      refine r_getr (C := RX5) (T := TX5) (N := 2) (k' := ((tc t) + 2)) S hK hw (kT0 hG h_t).1 (kT0 hG h_t).2 rfl hinX5 1 (by decide) (o := 2) rfl rfl (hts (.fieldLink RX5 13 "SoupByRank$Text" "ends" "[I") (by decide +kernel)) rfl dX5_value_39 ?_
      refine lv_iload_n hx hb dX5_value_42 rfl (lv_at hl 1 rfl) ?_
      obtain ⟨h_12, x_11, e_13, hg⟩ := rdA_e hg
      refine r_iald S hK hw (kT2 hG h_t).1 (kT2 hG h_t).2 h_12 e_13 dX5_value_43 ?_
      refine lv_icmp_ge (tgt := 195) hx hb dX5_value_44 (by decide) (fun c_14 => ?_) (fun c_14 => ?_)
      · have hg := it_p hg c_14
        exact J195 v4 _ _ _ _ hg hw (lv_sub hl [3, 4] rfl)
      · have hg := it_n hg c_14
        refine lv_iload hx hb dX5_value_47 (lv_at hl 5 rfl) ?_
        refine lv_aload_n hx hb dX5_value_49 rfl (lv_at hl 0 rfl) ?_
        refine r_getr (C := RX5) (T := TX5) (N := 2) (k' := ((tc t) + 1)) S hK hw (kT0 hG h_t).1 (kT0 hG h_t).2 rfl hinX5 0 (by decide) (o := 1) rfl rfl (hts (.fieldLink RX5 7 "SoupByRank$Text" "codes" "[I") (by decide +kernel)) rfl dX5_value_50 ?_
        refine r_alen S hK hw (kT1 hG h_t).1 (kT1 hG h_t).2 dX5_value_53 ?_
        refine lv_icmp_ge (tgt := 195) hx hb dX5_value_54 (by decide) (fun c_15 => ?_) (fun c_15 => ?_)
        · have hg := it_p hg c_15
          exact J195 v4 _ _ _ _ hg hw (lv_sub hl [3, 4] rfl)
        · have hg := it_n hg c_15
          refine lv_aload_n hx hb dX5_value_57 rfl (lv_at hl 0 rfl) ?_
          refine r_getr (C := RX5) (T := TX5) (N := 2) (k' := ((tc t) + 1)) S hK hw (kT0 hG h_t).1 (kT0 hG h_t).2 rfl hinX5 0 (by decide) (o := 1) rfl rfl (hts (.fieldLink RX5 7 "SoupByRank$Text" "codes" "[I") (by decide +kernel)) rfl dX5_value_58 ?_
          refine lv_iload hx hb dX5_value_61 (lv_at hl 5 rfl) ?_
          obtain ⟨h_17, x_16, e_18, hg⟩ := rdA_e hg
          refine r_iald S hK hw (kT1 hG h_t).1 (kT1 hG h_t).2 h_17 e_18 dX5_value_63 ?_
          refine lv_istore (lv' := [(6, .int x_16), (0, .ref (gAd G (tc t))), (1, .int v1), (2, .ref (gAd G 23)), (3, .ref (gAd G 24)), (4, .int v4), (5, .int v5)]) hx hb dX5_value_64 hl (by decide) rfl (fun ls hl => ?_)
          refine lv_iload hx hb dX5_value_66 (lv_at hl 0 rfl) ?_
          refine lv_bipush (v := (-6)) hx hb dX5_value_68 (by decide) ?_
          refine lv_icmp_lt (tgt := 106) hx hb dX5_value_70 (by decide) (fun c_19 => ?_) (fun c_19 => ?_)
          · have hg := it_p hg c_19
            refine lv_iload hx hb dX5_value_106 (lv_at hl 0 rfl) ?_
            refine lv_bipush (v := (-8)) hx hb dX5_value_108 (by decide) ?_
            refine lv_icmp_lt (tgt := 159) hx hb dX5_value_110 (by decide) (fun c_20 => ?_) (fun c_20 => ?_)
            · have hg := it_p hg c_20
              refine lv_iload hx hb dX5_value_159 (lv_at hl 5 rfl) ?_
              refine lv_iconst (v := 2) hx hb dX5_value_161 (by decide) ?_
              refine lv_icmp_lt (tgt := 189) hx hb dX5_value_162 (by decide) (fun c_21 => ?_) (fun c_21 => ?_)
              · have hg := it_p hg c_21
                exact J189 v4 v5 _ _ _ _ hg hw (lv_sub hl [1, 2, 3, 4, 5, 6] rfl)
              · have hg := it_n hg c_21
                refine lv_iinc (v := (v4 + (-1))) (lv' := [(4, .int (v4 + (-1))), (6, .int x_16), (0, .ref (gAd G (tc t))), (1, .int v1), (2, .ref (gAd G 23)), (3, .ref (gAd G 24)), (5, .int v5)]) hx hb dX5_value_165 hl (k := 5) rfl rfl (by decide) rfl (fun ls hl => ?_)
                refine lv_aload_n hx hb dX5_value_168 rfl (lv_at hl 5 rfl) ?_
                refine lv_iload hx hb dX5_value_169 (lv_at hl 0 rfl) ?_
                refine lv_iconst (v := 1) hx hb dX5_value_171 (by decide) ?_
                refine lv_isub hx hb dX5_value_172 ?_
                refine lv_iload hx hb dX5_value_173 (lv_at hl 1 rfl) ?_
                refine lv_aload_n hx hb dX5_value_175 rfl (lv_at hl 5 rfl) ?_
                refine lv_iload hx hb dX5_value_176 (lv_at hl 0 rfl) ?_
                refine lv_iconst (v := 1) hx hb dX5_value_178 (by decide) ?_
                refine lv_isub hx hb dX5_value_179 ?_
                obtain ⟨h_23, x_22, e_24, hg⟩ := rdA_e hg
                refine r_iald S hK hw (kX_24 hG).1 (kX_24 hG).2 h_23 e_24 dX5_value_180 ?_
                refine lv_aload_n hx hb dX5_value_181 rfl (lv_at hl 5 rfl) ?_
                refine lv_iload hx hb dX5_value_182 (lv_at hl 0 rfl) ?_
                obtain ⟨h_26, x_25, e_27, hg⟩ := rdA_e hg
                refine r_iald S hK hw (kX_24 hG).1 (kX_24 hG).2 h_26 e_27 dX5_value_184 ?_
                obtain ⟨s_28, x_29, h_30, hg⟩ := bnI_e hg
                refine r_iS (As := [.int x_16, .int x_22, .int x_25]) (rest := [.int ((v4 + (-1)) - 1), .ref (gAd G 24)]) S hA hK hw (c_X5_joined l hG  h_30) (va_cwS 3 hts gX5_value_X5_joined rfl rfl rfl (by decide +kernel) ⟨Nat.le_of_ble_eq_true rfl, Nat.le_of_ble_eq_true rfl⟩) rfl hl.1 (Nat.le_of_ble_eq_true rfl) dX5_value_185 ⟨Nat.zero_le _, Nat.zero_le _⟩ rfl (fun H locs hw => ?_)
                obtain ⟨h_32, s_31, e_33, hg⟩ := wrA_e hg
                refine r_iast S hK hw (kX_24 hG).1 (kX_24 hG).2 h_32 e_33 dX5_value_188 (fun H locs hw => ?_)
                exact J189 (v4 + (-1)) v5 _ _ _ _ hg hw (lv_sub hl [2, 3, 4, 5, 0, 6] rfl)
            · have hg := it_n hg c_20
              refine lv_iload hx hb dX5_value_113 (lv_at hl 5 rfl) ?_
              refine lv_iconst (v := 1) hx hb dX5_value_115 (by decide) ?_
              refine lv_icmp_lt (tgt := 189) hx hb dX5_value_116 (by decide) (fun c_34 => ?_) (fun c_34 => ?_)
              · have hg := it_p hg c_34
                exact J189 v4 v5 _ _ _ _ hg hw (lv_sub hl [1, 2, 3, 4, 5, 6] rfl)
              · have hg := it_n hg c_34
                refine lv_aload_n hx hb dX5_value_119 rfl (lv_at hl 4 rfl) ?_
                refine lv_iload hx hb dX5_value_120 (lv_at hl 5 rfl) ?_
                refine lv_iconst (v := 1) hx hb dX5_value_122 (by decide) ?_
                refine lv_isub hx hb dX5_value_123 ?_
                refine lv_iload hx hb dX5_value_124 (lv_at hl 0 rfl) ?_
                refine lv_bipush (v := (-7)) hx hb dX5_value_126 (by decide) ?_
                refine lv_icmp_ne (tgt := 141) hx hb dX5_value_128 (by decide) (fun c_35 => ?_) (fun c_35 => ?_)
                · have hg := it_n hg c_35
                  refine lv_aload_n hx hb dX5_value_141 rfl (lv_at hl 4 rfl) ?_
                  refine lv_iload hx hb dX5_value_142 (lv_at hl 5 rfl) ?_
                  refine lv_iconst (v := 1) hx hb dX5_value_144 (by decide) ?_
                  refine lv_isub hx hb dX5_value_145 ?_
                  obtain ⟨h_37, x_36, e_38, hg⟩ := rdA_e hg
                  refine r_iald S hK hw (kX_24 hG).1 (kX_24 hG).2 h_37 e_38 dX5_value_146 ?_
                  refine lv_if_ne (tgt := 154) hx hb dX5_value_147 (by decide) (fun c_39 => ?_) (fun c_39 => ?_)
                  · have hg := it_n hg c_39
                    refine lv_iconst (v := 0) hx hb dX5_value_154 (by decide) ?_
                    exact J155 v4 v5 0 (v4 - 1) _ _ _ _ hg hw (lv_sub hl [1, 2, 3, 4, 5, 6] rfl)
                  · have hg := it_p hg c_39
                    refine lv_iconst (v := 1) hx hb dX5_value_150 (by decide) ?_
                    refine lv_goto (tgt := 155) hx hb dX5_value_151 (by decide) ?_
                    exact J155 v4 v5 1 (v4 - 1) _ _ _ _ hg hw (lv_sub hl [1, 2, 3, 4, 5, 6] rfl)
                · have hg := it_p hg c_35
                  refine lv_aload_n hx hb dX5_value_131 rfl (lv_at hl 4 rfl) ?_
                  refine lv_iload hx hb dX5_value_132 (lv_at hl 5 rfl) ?_
                  refine lv_iconst (v := 1) hx hb dX5_value_134 (by decide) ?_
                  refine lv_isub hx hb dX5_value_135 ?_
                  obtain ⟨h_41, x_40, e_42, hg⟩ := rdA_e hg
                  refine r_iald S hK hw (kX_24 hG).1 (kX_24 hG).2 h_41 e_42 dX5_value_136 ?_
                  refine lv_ineg hx hb dX5_value_137 ?_
                  refine lv_goto (tgt := 155) hx hb dX5_value_138 (by decide) ?_
                  exact J155 v4 v5 (-x_40) (v4 - 1) _ _ _ _ hg hw (lv_sub hl [1, 2, 3, 4, 5, 6] rfl)
          · have hg := it_n hg c_19
            refine lv_iload hx hb dX5_value_73 (lv_at hl 5 rfl) ?_
            refine lv_aload_n hx hb dX5_value_75 rfl (lv_at hl 4 rfl) ?_
            refine r_alen S hK hw (kX_24 hG).1 (kX_24 hG).2 dX5_value_76 ?_
            refine lv_icmp_ge (tgt := 189) hx hb dX5_value_77 (by decide) (fun c_43 => ?_) (fun c_43 => ?_)
            · have hg := it_p hg c_43
              exact J189 v4 v5 _ _ _ _ hg hw (lv_sub hl [1, 2, 3, 4, 5, 6] rfl)
            · have hg := it_n hg c_43
              refine lv_aload_n hx hb dX5_value_80 rfl (lv_at hl 4 rfl) ?_
              refine lv_iload hx hb dX5_value_81 (lv_at hl 5 rfl) ?_
              refine lv_iload hx hb dX5_value_83 (lv_at hl 0 rfl) ?_
              refine lv_if_lt (tgt := 93) hx hb dX5_value_85 (by decide) (fun c_44 => ?_) (fun c_44 => ?_)
              · have hg := it_p hg c_44
                refine lv_aload_n hx hb dX5_value_93 rfl (lv_at hl 3 rfl) ?_
                refine lv_iconst (v := (-1)) hx hb dX5_value_94 (by decide) ?_
                refine lv_iload hx hb dX5_value_95 (lv_at hl 0 rfl) ?_
                refine lv_isub hx hb dX5_value_97 ?_
                obtain ⟨h_46, x_45, e_47, hg⟩ := rdA_e hg
                refine r_iald S hK hw (kX_23 hG).1 (kX_23 hG).2 h_46 e_47 dX5_value_98 ?_
                exact J99 v4 v5 x_45 v4 _ _ _ _ hg hw (lv_sub hl [1, 2, 3, 4, 5, 6] rfl)
              · have hg := it_n hg c_44
                refine lv_iload hx hb dX5_value_88 (lv_at hl 0 rfl) ?_
                refine lv_goto (tgt := 99) hx hb dX5_value_90 (by decide) ?_
                exact J99 v4 v5 x_16 v4 _ _ _ _ hg hw (lv_sub hl [1, 2, 3, 4, 5, 6] rfl)
  have J34 : ∀ (v1 : Int32) (v4 : Int32) (u0 : Int32) (σ : Sg) (H : Heap) (locs : List Loc) (ls : Array Slot) (hg : g_X5_value_b34 F N ln t v1 v4 u0 σ = some (σR, r)) (hw : XD G (gA G sz) s.heap σ H locs) (hl : lv_has ls 7 [(0, .ref (gAd G (tc t))), (1, .int v1), (2, .ref (gAd G 23)), (3, .ref (gAd G 24)), (4, .int v4)]), W p l e (headSpec wsX5_value ({ frames := 1, cells := 0, slots := 0, locals := 22 } : Room)).room s m args below meth c H locs 0 0 (MQ below (QcI G (gA G sz) σR r) args s 0 0 (gA G sz)) (F0 m 34 ls [.int u0]) := by
    intro v1 v4 u0 σ H locs ls hg hw hl
    rw [g_X5_value_b34] at hg
    refine lv_istore (lv' := [(5, .int u0), (0, .ref (gAd G (tc t))), (1, .int v1), (2, .ref (gAd G 23)), (3, .ref (gAd G 24)), (4, .int v4)]) hx hb dX5_value_34 hl (by decide) rfl (fun ls hl => ?_)
    exact L36 v1 F _ _ _ _ _ _ hg hw (lv_sub hl [1, 2, 3, 4, 5, 0] rfl)
  rw [g_X5_value] at hg
  refine lv_iload_n hx hb dX5_value_0 rfl (lv_at hl 1 rfl) ?_
  refine lv_if_lt (tgt := 13) hx hb dX5_value_1 (by decide) (fun c_48 => ?_) (fun c_48 => ?_)
  · have hg := it_p hg c_48
    refine lv_iconst (v := 0) hx hb dX5_value_13 (by decide) ?_
    exact r_ireti S hr hlk hw.2.2.2.2 hw hg dX5_value_14
  · have hg := it_n hg c_48
    refine lv_iload_n hx hb dX5_value_4 rfl (lv_at hl 1 rfl) ?_
    refine lv_aload_n hx hb dX5_value_5 rfl (lv_at hl 0 rfl) ?_
    refine r_getr (C := RX5) (T := TX5) (N := 2) (k' := ((tc t) + 2)) S hK hw (kT0 hG h_t).1 (kT0 hG h_t).2 rfl hinX5 1 (by decide) (o := 2) rfl rfl (hts (.fieldLink RX5 13 "SoupByRank$Text" "ends" "[I") (by decide +kernel)) rfl dX5_value_6 ?_
    refine r_alen S hK hw (kT2 hG h_t).1 (kT2 hG h_t).2 dX5_value_9 ?_
    refine lv_icmp_lt (tgt := 15) hx hb dX5_value_10 (by decide) (fun c_49 => ?_) (fun c_49 => ?_)
    · have hg := it_p hg c_49
      refine lv_iconst (v := 0) hx hb dX5_value_15 (by decide) ?_
      refine lv_istore (lv' := [(4, .int 0), (0, .ref (gAd G (tc t))), (1, .int a1), (2, .ref (gAd G 23)), (3, .ref (gAd G 24))]) hx hb dX5_value_16 hl (by decide) rfl (fun ls hl => ?_)
      refine lv_iload_n hx hb dX5_value_18 rfl (lv_at hl 2 rfl) ?_
      refine lv_if_ne (tgt := 26) hx hb dX5_value_19 (by decide) (fun c_50 => ?_) (fun c_50 => ?_)
      · have hg := it_n hg c_50
        refine lv_aload_n hx hb dX5_value_26 rfl (lv_at hl 1 rfl) ?_
        refine r_getr (C := RX5) (T := TX5) (N := 2) (k' := ((tc t) + 2)) S hK hw (kT0 hG h_t).1 (kT0 hG h_t).2 rfl hinX5 1 (by decide) (o := 2) rfl rfl (hts (.fieldLink RX5 13 "SoupByRank$Text" "ends" "[I") (by decide +kernel)) rfl dX5_value_27 ?_
        refine lv_iload_n hx hb dX5_value_30 rfl (lv_at hl 2 rfl) ?_
        refine lv_iconst (v := 1) hx hb dX5_value_31 (by decide) ?_
        refine lv_isub hx hb dX5_value_32 ?_
        obtain ⟨h_52, x_51, e_53, hg⟩ := rdA_e hg
        refine r_iald S hK hw (kT2 hG h_t).1 (kT2 hG h_t).2 h_52 e_53 dX5_value_33 ?_
        exact J34 a1 0 x_51 _ _ _ _ hg hw (lv_sub hl [1, 2, 3, 4, 0] rfl)
      · have hg := it_p hg c_50
        refine lv_iconst (v := 0) hx hb dX5_value_22 (by decide) ?_
        refine lv_goto (tgt := 34) hx hb dX5_value_23 (by decide) ?_
        exact J34 a1 0 0 _ _ _ _ hg hw (lv_sub hl [1, 2, 3, 4, 0] rfl)
    · have hg := it_n hg c_49
      refine lv_iconst (v := 0) hx hb dX5_value_13 (by decide) ?_
      exact r_ireti S hr hlk hw.2.2.2.2 hw hg dX5_value_14
set_option maxHeartbeats 4000000 in
set_option maxRecDepth 100000 in
theorem c_X6_liking (l : Launch) {G : GW} {N : Nat} {ln : Nat → Nat} {cT cS : ClassId} (hG : isX G N ln cT cS) {F sz : Nat} {a0 : Int32} {a1 : Int32} {a2 : Int32} {σ σR : Sg} {r : Int32} (hg : g_X6_liking F N ln a0 a1 a2 σ = some (σR, r)) : Met l yX6_liking wsX6_liking ({ frames := 1, cells := 0, slots := 0, locals := 80 } : Room) (va_Pc [.int a0, .int a1, .int a2] (PX G σ sz)) (QcI G (gA G sz) σR r) 0 0 (gA G sz) := by
  refine metX (by decide) rfl (Nat.le_of_ble_eq_true rfl) ?_
  intro p e s m args below meth c ls S hr hlk hsz hA hK hw hl hmn
  have S : CallFix p m c cX6_liking 3 s args wsX6_liking RX6 := S
  obtain ⟨hx, hb, hml, hown, hts⟩ := id S
  have hl : lv_has ls 3 [(0, .int a0), (1, .int a1), (2, .int a2)] := hl
  have J28 : ∀ (v1 : Int32) (v2 : Int32) (σ : Sg) (H : Heap) (locs : List Loc) (ls : Array Slot) (hg : g_X6_liking_b28 F N ln v1 v2 σ = some (σR, r)) (hw : XD G (gA G sz) s.heap σ H locs) (hl : lv_has ls 3 [(1, .int v1), (2, .int v2)]), W p l e (headSpec wsX6_liking ({ frames := 1, cells := 0, slots := 0, locals := 80 } : Room)).room s m args below meth c H locs 0 0 (MQ below (QcI G (gA G sz) σR r) args s 0 0 (gA G sz)) (F0 m 28 ls []) := by
    intro v1 v2 σ H locs ls hg hw hl
    rw [g_X6_liking_b28] at hg
    refine lv_iconst (v := 0) hx hb dX6_liking_28 (by decide) ?_
    refine lv_iload_n hx hb dX6_liking_29 rfl (lv_at hl 1 rfl) ?_
    refine lv_iload_n hx hb dX6_liking_30 rfl (lv_at hl 0 rfl) ?_
    refine lv_isub hx hb dX6_liking_31 ?_
    refine va_mmax hx hb (hml.trans hl.1.symm) hown (hts (.methodLink RX6 295 Lib.Math.max.name) (by decide +kernel)) (hts (.static Lib.Math.max.name) (by decide +kernel)) (hts (.initialized "java/lang/Math") (by decide +kernel)) (hts (.code Lib.Math.max.name Lib.Math.max.code 2 (some .int)) (by decide +kernel)) (Nat.le_of_ble_eq_true rfl) (Nat.le_of_ble_eq_true rfl) (Nat.zero_le _) (Nat.zero_le _) dX6_liking_32 ?_
    exact r_ireti S hr hlk hw.2.2.2.2 hw hg dX6_liking_35
  rw [g_X6_liking] at hg
  refine lv_iload_n hx hb dX6_liking_0 rfl (lv_at hl 0 rfl) ?_
  by_cases c_1 : a0 = 2
  · have hg := it_p hg c_1
    refine lv_tableIn (tgt := 28) hx hb dX6_liking_1 (by rw [c_1]; decide) (by rw [c_1]; decide) (off := 27) (by rw [c_1]; rfl) (by decide) ?_
    exact J28 a1 a2 _ _ _ _ hg hw (lv_sub hl [1, 2] rfl)
  have hg := it_n hg c_1
  by_cases c_2 : a0 = 3
  · have hg := it_p hg c_2
    refine lv_tableIn (tgt := 36) hx hb dX6_liking_1 (by rw [c_2]; decide) (by rw [c_2]; decide) (off := 35) (by rw [c_2]; rfl) (by decide) ?_
    refine lv_bipush (v := 99) hx hb dX6_liking_36 (by decide) ?_
    refine lv_iload_n hx hb dX6_liking_38 rfl (lv_at hl 2 rfl) ?_
    refine lv_isub hx hb dX6_liking_39 ?_
    exact r_ireti S hr hlk hw.2.2.2.2 hw hg dX6_liking_40
  have hg := it_n hg c_2
  by_cases c_3 : a0 = 4
  · have hg := it_p hg c_3
    refine lv_tableIn (tgt := 28) hx hb dX6_liking_1 (by rw [c_3]; decide) (by rw [c_3]; decide) (off := 27) (by rw [c_3]; rfl) (by decide) ?_
    exact J28 a1 a2 _ _ _ _ hg hw (lv_sub hl [1, 2] rfl)
  have hg := it_n hg c_3
  have hsw := tb_out (lo := 2) (hi := 4) (x := a0) (fun n h1 h2 => by rcases (show n = 2 ∨ n = 3 ∨ n = 4 by omega) with rfl | rfl | rfl; exact lv_neT c_1 (by decide); exact lv_neT c_2 (by decide); exact lv_neT c_3 (by decide))
  refine lv_tableOut (tgt := 41) hx hb dX6_liking_1 hsw (by decide) ?_
  refine lv_iload_n hx hb dX6_liking_41 rfl (lv_at hl 2 rfl) ?_
  exact r_ireti S hr hlk hw.2.2.2.2 hw hg dX6_liking_42
set_option maxHeartbeats 4000000 in
set_option maxRecDepth 100000 in
theorem c_X6_chaplainMinding (l : Launch) {G : GW} {N : Nat} {ln : Nat → Nat} {cT cS : ClassId} (hG : isX G N ln cT cS) {F sz : Nat} {a0 : Int32} {σ σR : Sg} {r : Int32} (hg : g_X6_chaplainMinding F N ln a0 σ = some (σR, r)) : Met l yX6_chaplainMinding wsX6_chaplainMinding ({ frames := 0, cells := 0, slots := 0, locals := 0 } : Room) (va_Pc [.int a0] (PX G σ sz)) (QcI G (gA G sz) σR r) 0 0 (gA G sz) := by
  refine metX (by decide) rfl (Nat.le_of_ble_eq_true rfl) ?_
  intro p e s m args below meth c ls S hr hlk hsz hA hK hw hl hmn
  have S : CallFix p m c cX6_chaplainMinding 1 s args wsX6_chaplainMinding RX6 := S
  obtain ⟨hx, hb, hml, hown, hts⟩ := id S
  have hl : lv_has ls 1 [(0, .int a0)] := hl
  rw [g_X6_chaplainMinding] at hg
  refine lv_iload_n hx hb dX6_chaplainMinding_0 rfl (lv_at hl 0 rfl) ?_
  refine lv_if_ge (tgt := 11) hx hb dX6_chaplainMinding_1 (by decide) (fun c_1 => ?_) (fun c_1 => ?_)
  · have hg := it_p hg c_1
    refine lv_iload_n hx hb dX6_chaplainMinding_11 rfl (lv_at hl 0 rfl) ?_
    exact r_ireti S hr hlk hw.2.2.2.2 hw hg dX6_chaplainMinding_12
  · have hg := it_n hg c_1
    refine lv_iload_n hx hb dX6_chaplainMinding_4 rfl (lv_at hl 0 rfl) ?_
    refine lv_ineg hx hb dX6_chaplainMinding_5 ?_
    refine lv_iconst (v := 2) hx hb dX6_chaplainMinding_6 (by decide) ?_
    obtain ⟨h_3, hg⟩ := divI_e hg
    refine lv_idiv hx hb dX6_chaplainMinding_7 h_3 ?_
    refine lv_goto (tgt := 12) hx hb dX6_chaplainMinding_8 (by decide) ?_
    exact r_ireti S hr hlk hw.2.2.2.2 hw hg dX6_chaplainMinding_12
set_option maxHeartbeats 4000000 in
set_option maxRecDepth 100000 in
theorem c_X6_minding (l : Launch) {G : GW} {N : Nat} {ln : Nat → Nat} {cT cS : ClassId} (hG : isX G N ln cT cS) {F sz : Nat} {a0 : Int32} {a1 : Int32} {a2 : Int32} {σ σR : Sg} {r : Int32} (hg : g_X6_minding F N ln a0 a1 a2 σ = some (σR, r)) : Met l yX6_minding wsX6_minding ({ frames := 1, cells := 0, slots := 0, locals := 80 } : Room) (va_Pc [.int a0, .int a1, .int a2] (PX G σ sz)) (QcI G (gA G sz) σR r) 0 0 (gA G sz) := by
  refine metX (by decide) rfl (Nat.le_of_ble_eq_true rfl) ?_
  intro p e s m args below meth c ls S hr hlk hsz hA hK hw hl hmn
  have S : CallFix p m c cX6_minding 3 s args wsX6_minding RX6 := S
  obtain ⟨hx, hb, hml, hown, hts⟩ := id S
  have hl : lv_has ls 3 [(0, .int a0), (1, .int a1), (2, .int a2)] := hl
  have J36 : ∀ (v2 : Int32) (σ : Sg) (H : Heap) (locs : List Loc) (ls : Array Slot) (hg : g_X6_minding_b36 F N ln v2 σ = some (σR, r)) (hw : XD G (gA G sz) s.heap σ H locs) (hl : lv_has ls 3 [(2, .int v2)]), W p l e (headSpec wsX6_minding ({ frames := 1, cells := 0, slots := 0, locals := 80 } : Room)).room s m args below meth c H locs 0 0 (MQ below (QcI G (gA G sz) σR r) args s 0 0 (gA G sz)) (F0 m 36 ls []) := by
    intro v2 σ H locs ls hg hw hl
    rw [g_X6_minding_b36] at hg
    refine lv_iload_n hx hb dX6_minding_36 rfl (lv_at hl 0 rfl) ?_
    refine lv_if_le (tgt := 46) hx hb dX6_minding_37 (by decide) (fun c_1 => ?_) (fun c_1 => ?_)
    · have hg := it_p hg c_1
      refine lv_iload_n hx hb dX6_minding_46 rfl (lv_at hl 0 rfl) ?_
      refine lv_ineg hx hb dX6_minding_47 ?_
      exact r_ireti S hr hlk hw.2.2.2.2 hw hg dX6_minding_48
    · have hg := it_n hg c_1
      refine lv_iconst (v := 2) hx hb dX6_minding_40 (by decide) ?_
      refine lv_iload_n hx hb dX6_minding_41 rfl (lv_at hl 0 rfl) ?_
      refine lv_imul hx hb dX6_minding_42 ?_
      refine lv_goto (tgt := 48) hx hb dX6_minding_43 (by decide) ?_
      exact r_ireti S hr hlk hw.2.2.2.2 hw hg dX6_minding_48
  rw [g_X6_minding] at hg
  refine lv_iload_n hx hb dX6_minding_0 rfl (lv_at hl 0 rfl) ?_
  by_cases c_2 : a0 = 1
  · have hg := it_p hg c_2
    refine lv_tableIn (tgt := 36) hx hb dX6_minding_1 (by rw [c_2]; decide) (by rw [c_2]; decide) (off := 35) (by rw [c_2]; rfl) (by decide) ?_
    exact J36 a2 _ _ _ _ hg hw (lv_sub hl [2] rfl)
  have hg := it_n hg c_2
  by_cases c_3 : a0 = 2
  · have hg := it_p hg c_3
    refine lv_tableIn (tgt := 49) hx hb dX6_minding_1 (by rw [c_3]; decide) (by rw [c_3]; decide) (off := 48) (by rw [c_3]; rfl) (by decide) ?_
    refine lv_iload_n hx hb dX6_minding_49 rfl (lv_at hl 2 rfl) ?_
    obtain ⟨s_4, x_5, h_6, hg⟩ := bnI_e hg
    refine r_iS (As := [.int a2]) (rest := []) S hA hK hw (c_X6_chaplainMinding l hG  h_6) (va_cwS 1 hts gX6_minding_X6_chaplainMinding rfl rfl rfl (by decide +kernel) ⟨Nat.le_of_ble_eq_true rfl, Nat.le_of_ble_eq_true rfl⟩) rfl hl.1 (Nat.le_of_ble_eq_true rfl) dX6_minding_50 ⟨Nat.zero_le _, Nat.zero_le _⟩ rfl (fun H locs hw => ?_)
    exact r_ireti S hr hlk hw.2.2.2.2 hw hg dX6_minding_53
  have hg := it_n hg c_3
  by_cases c_7 : a0 = 3
  · have hg := it_p hg c_7
    refine lv_tableIn (tgt := 36) hx hb dX6_minding_1 (by rw [c_7]; decide) (by rw [c_7]; decide) (off := 35) (by rw [c_7]; rfl) (by decide) ?_
    exact J36 a2 _ _ _ _ hg hw (lv_sub hl [2] rfl)
  have hg := it_n hg c_7
  by_cases c_8 : a0 = 4
  · have hg := it_p hg c_8
    refine lv_tableIn (tgt := 54) hx hb dX6_minding_1 (by rw [c_8]; decide) (by rw [c_8]; decide) (off := 53) (by rw [c_8]; rfl) (by decide) ?_
    refine lv_iconst (v := 0) hx hb dX6_minding_54 (by decide) ?_
    refine lv_iload_n hx hb dX6_minding_55 rfl (lv_at hl 2 rfl) ?_
    obtain ⟨s_9, x_10, h_11, hg⟩ := bnI_e hg
    refine r_iS (As := [.int a2]) (rest := [.int 0]) S hA hK hw (c_X6_chaplainMinding l hG  h_11) (va_cwS 1 hts gX6_minding_X6_chaplainMinding rfl rfl rfl (by decide +kernel) ⟨Nat.le_of_ble_eq_true rfl, Nat.le_of_ble_eq_true rfl⟩) rfl hl.1 (Nat.le_of_ble_eq_true rfl) dX6_minding_56 ⟨Nat.zero_le _, Nat.zero_le _⟩ rfl (fun H locs hw => ?_)
    refine lv_iload_n hx hb dX6_minding_59 rfl (lv_at hl 1 rfl) ?_
    refine lv_isub hx hb dX6_minding_60 ?_
    refine va_mmax hx hb (hml.trans hl.1.symm) hown (hts (.methodLink RX6 295 Lib.Math.max.name) (by decide +kernel)) (hts (.static Lib.Math.max.name) (by decide +kernel)) (hts (.initialized "java/lang/Math") (by decide +kernel)) (hts (.code Lib.Math.max.name Lib.Math.max.code 2 (some .int)) (by decide +kernel)) (Nat.le_of_ble_eq_true rfl) (Nat.le_of_ble_eq_true rfl) (Nat.zero_le _) (Nat.zero_le _) dX6_minding_61 ?_
    exact r_ireti S hr hlk hw.2.2.2.2 hw hg dX6_minding_64
  have hg := it_n hg c_8
  by_cases c_12 : a0 = 5
  · have hg := it_p hg c_12
    refine lv_tableIn (tgt := 65) hx hb dX6_minding_1 (by rw [c_12]; decide) (by rw [c_12]; decide) (off := 64) (by rw [c_12]; rfl) (by decide) ?_
    refine lv_iload_n hx hb dX6_minding_65 rfl (lv_at hl 1 rfl) ?_
    refine lv_ineg hx hb dX6_minding_66 ?_
    exact r_ireti S hr hlk hw.2.2.2.2 hw hg dX6_minding_67
  have hg := it_n hg c_12
  have hsw := tb_out (lo := 1) (hi := 5) (x := a0) (fun n h1 h2 => by rcases (show n = 1 ∨ n = 2 ∨ n = 3 ∨ n = 4 ∨ n = 5 by omega) with rfl | rfl | rfl | rfl | rfl; exact lv_neT c_2 (by decide); exact lv_neT c_3 (by decide); exact lv_neT c_7 (by decide); exact lv_neT c_8 (by decide); exact lv_neT c_12 (by decide))
  refine lv_tableOut (tgt := 68) hx hb dX6_minding_1 hsw (by decide) ?_
  refine lv_iload_n hx hb dX6_minding_68 rfl (lv_at hl 2 rfl) ?_
  refine va_mabs hx hb (hml.trans hl.1.symm) hown (hts (.methodLink RX6 303 Lib.Math.abs.name) (by decide +kernel)) (hts (.static Lib.Math.abs.name) (by decide +kernel)) (hts (.initialized "java/lang/Math") (by decide +kernel)) (hts (.code Lib.Math.abs.name Lib.Math.abs.code 1 (some .int)) (by decide +kernel)) (Nat.le_of_ble_eq_true rfl) (Nat.le_of_ble_eq_true rfl) (Nat.zero_le _) (Nat.zero_le _) dX6_minding_69 ?_
  exact r_ireti S hr hlk hw.2.2.2.2 hw hg dX6_minding_72
set_option maxHeartbeats 4000000 in
set_option maxRecDepth 100000 in
theorem c_X6_earlWaiting (l : Launch) {G : GW} {N : Nat} {ln : Nat → Nat} {cT cS : ClassId} (hG : isX G N ln cT cS) {F sz : Nat} {a0 : Int32} {a1 : Int32} {a2 : Int32} {σ σR : Sg} {r : Int32} (hg : g_X6_earlWaiting F N ln a0 a1 a2 σ = some (σR, r)) : Met l yX6_earlWaiting wsX6_earlWaiting ({ frames := 0, cells := 0, slots := 0, locals := 0 } : Room) (va_Pc [.int a0, .int a1, .int a2] (PX G σ sz)) (QcI G (gA G sz) σR r) 0 0 (gA G sz) := by
  refine metX (by decide) rfl (Nat.le_of_ble_eq_true rfl) ?_
  intro p e s m args below meth c ls S hr hlk hsz hA hK hw hl hmn
  have S : CallFix p m c cX6_earlWaiting 3 s args wsX6_earlWaiting RX6 := S
  obtain ⟨hx, hb, hml, hown, hts⟩ := id S
  have hl : lv_has ls 3 [(0, .int a0), (1, .int a1), (2, .int a2)] := hl
  rw [g_X6_earlWaiting] at hg
  refine lv_iload_n hx hb dX6_earlWaiting_0 rfl (lv_at hl 2 rfl) ?_
  refine lv_bipush (v := 60) hx hb dX6_earlWaiting_1 (by decide) ?_
  refine lv_icmp_le (tgt := 12) hx hb dX6_earlWaiting_3 (by decide) (fun c_1 => ?_) (fun c_1 => ?_)
  · have hg := it_p hg c_1
    refine lv_iload_n hx hb dX6_earlWaiting_12 rfl (lv_at hl 1 rfl) ?_
    exact r_ireti S hr hlk hw.2.2.2.2 hw hg dX6_earlWaiting_13
  · have hg := it_n hg c_1
    refine lv_iload_n hx hb dX6_earlWaiting_6 rfl (lv_at hl 1 rfl) ?_
    refine lv_iload_n hx hb dX6_earlWaiting_7 rfl (lv_at hl 0 rfl) ?_
    refine lv_iadd hx hb dX6_earlWaiting_8 ?_
    refine lv_goto (tgt := 13) hx hb dX6_earlWaiting_9 (by decide) ?_
    exact r_ireti S hr hlk hw.2.2.2.2 hw hg dX6_earlWaiting_13
set_option maxHeartbeats 4000000 in
set_option maxRecDepth 100000 in
theorem c_X6_waiting (l : Launch) {G : GW} {N : Nat} {ln : Nat → Nat} {cT cS : ClassId} (hG : isX G N ln cT cS) {F sz : Nat} {a0 : Int32} {a1 : Int32} {a2 : Int32} {a3 : Int32} {a4 : Int32} {σ σR : Sg} {r : Int32} (hg : g_X6_waiting F N ln a0 a1 a2 a3 a4 σ = some (σR, r)) : Met l yX6_waiting wsX6_waiting ({ frames := 1, cells := 0, slots := 0, locals := 22 } : Room) (va_Pc [.int a0, .int a1, .int a2, .int a3, .int a4] (PX G σ sz)) (QcI G (gA G sz) σR r) 0 0 (gA G sz) := by
  refine metX (by decide) rfl (Nat.le_of_ble_eq_true rfl) ?_
  intro p e s m args below meth c ls S hr hlk hsz hA hK hw hl hmn
  have S : CallFix p m c cX6_waiting 5 s args wsX6_waiting RX6 := S
  obtain ⟨hx, hb, hml, hown, hts⟩ := id S
  have hl : lv_has ls 5 [(0, .int a0), (1, .int a1), (2, .int a2), (3, .int a3), (4, .int a4)] := hl
  rw [g_X6_waiting] at hg
  refine lv_iload_n hx hb dX6_waiting_0 rfl (lv_at hl 0 rfl) ?_
  by_cases c_1 : a0 = 1
  · have hg := it_p hg c_1
    refine lv_tableIn (tgt := 36) hx hb dX6_waiting_1 (by rw [c_1]; decide) (by rw [c_1]; decide) (off := 35) (by rw [c_1]; rfl) (by decide) ?_
    refine lv_iload_n hx hb dX6_waiting_36 rfl (lv_at hl 1 rfl) ?_
    refine lv_iload_n hx hb dX6_waiting_37 rfl (lv_at hl 2 rfl) ?_
    refine lv_iload_n hx hb dX6_waiting_38 rfl (lv_at hl 3 rfl) ?_
    obtain ⟨s_2, x_3, h_4, hg⟩ := bnI_e hg
    refine r_iS (As := [.int a1, .int a2, .int a3]) (rest := []) S hA hK hw (c_X6_earlWaiting l hG  h_4) (va_cwS 3 hts gX6_waiting_X6_earlWaiting rfl rfl rfl (by decide +kernel) ⟨Nat.le_of_ble_eq_true rfl, Nat.le_of_ble_eq_true rfl⟩) rfl hl.1 (Nat.le_of_ble_eq_true rfl) dX6_waiting_39 ⟨Nat.zero_le _, Nat.zero_le _⟩ rfl (fun H locs hw => ?_)
    exact r_ireti S hr hlk hw.2.2.2.2 hw hg dX6_waiting_42
  have hg := it_n hg c_1
  by_cases c_5 : a0 = 2
  · have hg := it_p hg c_5
    refine lv_tableIn (tgt := 67) hx hb dX6_waiting_1 (by rw [c_5]; decide) (by rw [c_5]; decide) (off := 66) (by rw [c_5]; rfl) (by decide) ?_
    refine lv_iload_n hx hb dX6_waiting_67 rfl (lv_at hl 2 rfl) ?_
    exact r_ireti S hr hlk hw.2.2.2.2 hw hg dX6_waiting_68
  have hg := it_n hg c_5
  by_cases c_6 : a0 = 3
  · have hg := it_p hg c_6
    refine lv_tableIn (tgt := 43) hx hb dX6_waiting_1 (by rw [c_6]; decide) (by rw [c_6]; decide) (off := 42) (by rw [c_6]; rfl) (by decide) ?_
    refine lv_iload_n hx hb dX6_waiting_43 rfl (lv_at hl 1 rfl) ?_
    refine lv_iload_n hx hb dX6_waiting_44 rfl (lv_at hl 2 rfl) ?_
    refine lv_iload_n hx hb dX6_waiting_45 rfl (lv_at hl 3 rfl) ?_
    obtain ⟨s_7, x_8, h_9, hg⟩ := bnI_e hg
    refine r_iS (As := [.int a1, .int a2, .int a3]) (rest := []) S hA hK hw (c_X6_earlWaiting l hG  h_9) (va_cwS 3 hts gX6_waiting_X6_earlWaiting rfl rfl rfl (by decide +kernel) ⟨Nat.le_of_ble_eq_true rfl, Nat.le_of_ble_eq_true rfl⟩) rfl hl.1 (Nat.le_of_ble_eq_true rfl) dX6_waiting_46 ⟨Nat.zero_le _, Nat.zero_le _⟩ rfl (fun H locs hw => ?_)
    refine lv_iconst (v := 2) hx hb dX6_waiting_49 (by decide) ?_
    obtain ⟨h_11, hg⟩ := divI_e hg
    refine lv_idiv hx hb dX6_waiting_50 h_11 ?_
    exact r_ireti S hr hlk hw.2.2.2.2 hw hg dX6_waiting_51
  have hg := it_n hg c_6
  by_cases c_13 : a0 = 4
  · have hg := it_p hg c_13
    refine lv_tableIn (tgt := 52) hx hb dX6_waiting_1 (by rw [c_13]; decide) (by rw [c_13]; decide) (off := 51) (by rw [c_13]; rfl) (by decide) ?_
    refine lv_iload hx hb dX6_waiting_52 (lv_at hl 4 rfl) ?_
    refine lv_iconst (v := 4) hx hb dX6_waiting_54 (by decide) ?_
    obtain ⟨h_15, hg⟩ := remI_e hg
    refine lv_irem hx hb dX6_waiting_55 h_15 ?_
    refine lv_if_ne (tgt := 63) hx hb dX6_waiting_56 (by decide) (fun c_17 => ?_) (fun c_17 => ?_)
    · have hg := it_n hg c_17
      refine lv_iload_n hx hb dX6_waiting_63 rfl (lv_at hl 2 rfl) ?_
      exact r_ireti S hr hlk hw.2.2.2.2 hw hg dX6_waiting_64
    · have hg := it_p hg c_17
      refine lv_iload_n hx hb dX6_waiting_59 rfl (lv_at hl 1 rfl) ?_
      refine lv_goto (tgt := 64) hx hb dX6_waiting_60 (by decide) ?_
      exact r_ireti S hr hlk hw.2.2.2.2 hw hg dX6_waiting_64
  have hg := it_n hg c_13
  by_cases c_18 : a0 = 5
  · have hg := it_p hg c_18
    refine lv_tableIn (tgt := 65) hx hb dX6_waiting_1 (by rw [c_18]; decide) (by rw [c_18]; decide) (off := 64) (by rw [c_18]; rfl) (by decide) ?_
    refine lv_iconst (v := 0) hx hb dX6_waiting_65 (by decide) ?_
    exact r_ireti S hr hlk hw.2.2.2.2 hw hg dX6_waiting_66
  have hg := it_n hg c_18
  have hsw := tb_out (lo := 1) (hi := 5) (x := a0) (fun n h1 h2 => by rcases (show n = 1 ∨ n = 2 ∨ n = 3 ∨ n = 4 ∨ n = 5 by omega) with rfl | rfl | rfl | rfl | rfl; exact lv_neT c_1 (by decide); exact lv_neT c_5 (by decide); exact lv_neT c_6 (by decide); exact lv_neT c_13 (by decide); exact lv_neT c_18 (by decide))
  refine lv_tableOut (tgt := 67) hx hb dX6_waiting_1 hsw (by decide) ?_
  refine lv_iload_n hx hb dX6_waiting_67 rfl (lv_at hl 2 rfl) ?_
  exact r_ireti S hr hlk hw.2.2.2.2 hw hg dX6_waiting_68
set_option maxHeartbeats 4000000 in
set_option maxRecDepth 100000 in
theorem c_X3_become (l : Launch) {G : GW} {N : Nat} {ln : Nat → Nat} {cT cS : ClassId} (hG : isX G N ln cT cS) {F sz : Nat} {ks : Nat} (h_ks : isSh ks) {a1 : Int32} {a2 : Int32} {σ σR : Sg} (hg : g_X3_become F N ln ks a1 a2 σ = some σR) : Met l yX3_become wsX3_become ({ frames := 1, cells := 0, slots := 0, locals := 80 } : Room) (va_Pc [.ref (gAd G ks), .int a1, .int a2] (PX G σ sz)) (QcV G (gA G sz) σR) 0 0 (gA G sz) := by
  refine metX (by decide) rfl (Nat.le_of_ble_eq_true rfl) ?_
  intro p e s m args below meth c ls S hr hlk hsz hA hK hw hl hmn
  have S : CallFix p m c cX3_become 4 s args wsX3_become RX3 := S
  obtain ⟨hx, hb, hml, hown, hts⟩ := id S
  have hl : lv_has ls 4 [(0, .ref (gAd G ks)), (1, .int a1), (2, .int a2)] := hl
  have hinX3 : ∀ w ∈ wsX30, w ∈ wsX3_become := by decide +kernel
  have L21 : ∀ (n21 : Nat) (v3 : Int32) (σ : Sg) (H : Heap) (locs : List Loc) (ls : Array Slot) (hg : g_X3_become_l21 F N ln ks n21 v3 σ = some σR) (hw : XD G (gA G sz) s.heap σ H locs) (hl : lv_has ls 4 [(0, .ref (gAd G ks)), (3, .int v3)]), W p l e (headSpec wsX3_become ({ frames := 1, cells := 0, slots := 0, locals := 80 } : Room)).room s m args below meth c H locs 0 0 (MQ below (QcV G (gA G sz) σR) args s 0 0 (gA G sz)) (F0 m 21 ls []) := by
    intro n21
    induction n21 with
    | zero => intro v3 σ H locs ls hg hw hl; exact no_e hg
    | succ n21 ih21 =>
      intro v3 σ H locs ls hg hw hl
      rw [g_X3_become_l21] at hg
      refine lv_iload_n hx hb dX3_become_21 rfl (lv_at hl 1 rfl) ?_
      refine lv_bipush (v := 40) hx hb dX3_become_22 (by decide) ?_
      refine lv_icmp_ge (tgt := 40) hx hb dX3_become_24 (by decide) (fun c_1 => ?_) (fun c_1 => ?_)
      · have hg := it_p hg c_1
        exact r_vreti S hr hlk hw.2.2.2.2 hw hg dX3_become_40
      · have hg := it_n hg c_1
        refine lv_aload_n hx hb dX3_become_27 rfl (lv_at hl 0 rfl) ?_
        refine r_getr (C := RX3) (T := TX3) (N := 3) (k' := (ks + 1)) S hK hw (kS0 hG h_ks).1 (kS0 hG h_ks).2 rfl hinX3 2 (by decide) (o := 1) rfl rfl (hts (.fieldLink RX3 15 "SoupByRank$Sheet" "cells" "[I") (by decide +kernel)) rfl dX3_become_28 ?_
        refine lv_iload_n hx hb dX3_become_31 rfl (lv_at hl 1 rfl) ?_
        refine lv_iconst (v := 0) hx hb dX3_become_32 (by decide) ?_
        obtain ⟨h_3, s_2, e_4, hg⟩ := wrA_e hg
        refine r_iast S hK hw (kS1 hG h_ks).1 (kS1 hG h_ks).2 h_3 e_4 dX3_become_33 (fun H locs hw => ?_)
        refine lv_iinc (v := (v3 + 1)) (lv' := [(3, .int (v3 + 1)), (0, .ref (gAd G ks))]) hx hb dX3_become_34 hl (k := 1) rfl rfl (by decide) rfl (fun ls hl => ?_)
        refine lv_goto (tgt := 21) hx hb dX3_become_37 (by decide) ?_
        exact ih21 _ _ _ _ _ hg hw (lv_sub hl [1, 0] rfl)
  rw [g_X3_become] at hg
  refine lv_aload_n hx hb dX3_become_0 rfl (lv_at hl 0 rfl) ?_
  refine lv_iload_n hx hb dX3_become_1 rfl (lv_at hl 1 rfl) ?_
  obtain ⟨s_5, e_6, hg⟩ := wrF_e hg
  refine r_put (C := RX3) (T := TX3) (N := 3) S hK hw (kS0 hG h_ks).1 (kS0 hG h_ks).2 rfl hinX3 tyX3_ok nmX3 0 (by decide) rfl rfl rfl rfl (hts (.fieldLink RX3 9 "SoupByRank$Sheet" "sort" "I") (by decide +kernel)) rfl e_6 dX3_become_2 (fun H locs hw => ?_)
  refine lv_aload_n hx hb dX3_become_5 rfl (lv_at hl 0 rfl) ?_
  refine lv_iconst (v := 0) hx hb dX3_become_6 (by decide) ?_
  refine lv_iload_n hx hb dX3_become_7 rfl (lv_at hl 2 rfl) ?_
  refine lv_bipush (v := 40) hx hb dX3_become_8 (by decide) ?_
  refine va_mmin hx hb (hml.trans hl.1.symm) hown (hts (.methodLink RX3 19 Lib.Math.min.name) (by decide +kernel)) (hts (.static Lib.Math.min.name) (by decide +kernel)) (hts (.initialized "java/lang/Math") (by decide +kernel)) (hts (.code Lib.Math.min.name Lib.Math.min.code 2 (some .int)) (by decide +kernel)) (Nat.le_of_ble_eq_true rfl) (Nat.le_of_ble_eq_true rfl) (Nat.zero_le _) (Nat.zero_le _) dX3_become_10 ?_
  refine va_mmax hx hb (hml.trans hl.1.symm) hown (hts (.methodLink RX3 25 Lib.Math.max.name) (by decide +kernel)) (hts (.static Lib.Math.max.name) (by decide +kernel)) (hts (.initialized "java/lang/Math") (by decide +kernel)) (hts (.code Lib.Math.max.name Lib.Math.max.code 2 (some .int)) (by decide +kernel)) (Nat.le_of_ble_eq_true rfl) (Nat.le_of_ble_eq_true rfl) (Nat.zero_le _) (Nat.zero_le _) dX3_become_13 ?_
  obtain ⟨s_7, e_8, hg⟩ := wrF_e hg
  refine r_put (C := RX3) (T := TX3) (N := 3) S hK hw (kS0 hG h_ks).1 (kS0 hG h_ks).2 rfl hinX3 tyX3_ok nmX3 1 (by decide) rfl rfl rfl rfl (hts (.fieldLink RX3 28 "SoupByRank$Sheet" "size" "I") (by decide +kernel)) rfl e_8 dX3_become_16 (fun H locs hw => ?_)
  refine lv_iconst (v := 0) hx hb dX3_become_19 (by decide) ?_
  refine lv_istore_n (lv' := [(3, .int 0), (0, .ref (gAd G ks)), (1, .int a1), (2, .int a2)]) hx hb dX3_become_20 rfl hl (by decide) rfl (fun ls hl => ?_)
  exact L21 F _ _ _ _ _ hg hw (lv_sub hl [1, 0] rfl)
set_option maxHeartbeats 4000000 in
set_option maxRecDepth 100000 in
theorem c_X3_isMissing (l : Launch) {G : GW} {N : Nat} {ln : Nat → Nat} {cT cS : ClassId} (hG : isX G N ln cT cS) {F sz : Nat} {ks : Nat} (h_ks : isSh ks) {σ σR : Sg} {r : Int32} (hg : g_X3_isMissing F N ln ks σ = some (σR, r)) : Met l yX3_isMissing wsX3_isMissing ({ frames := 0, cells := 0, slots := 0, locals := 0 } : Room) (va_Pc [.ref (gAd G ks)] (PX G σ sz)) (QcI G (gA G sz) σR r) 0 0 (gA G sz) := by
  refine metX (by decide) rfl (Nat.le_of_ble_eq_true rfl) ?_
  intro p e s m args below meth c ls S hr hlk hsz hA hK hw hl hmn
  have S : CallFix p m c cX3_isMissing 1 s args wsX3_isMissing RX3 := S
  obtain ⟨hx, hb, hml, hown, hts⟩ := id S
  have hl : lv_has ls 1 [(0, .ref (gAd G ks))] := hl
  have hinX3 : ∀ w ∈ wsX30, w ∈ wsX3_isMissing := by decide +kernel
  rw [g_X3_isMissing] at hg
  refine lv_aload_n hx hb dX3_isMissing_0 rfl (lv_at hl 0 rfl) ?_
  refine r_get (C := RX3) (T := TX3) (N := 3) S hK hw (kS0 hG h_ks).1 (kS0 hG h_ks).2 rfl hinX3 0 (by decide) rfl (hts (.fieldLink RX3 9 "SoupByRank$Sheet" "sort" "I") (by decide +kernel)) rfl dX3_isMissing_1 ?_
  refine lv_iconst (v := (-1)) hx hb dX3_isMissing_4 (by decide) ?_
  refine lv_icmp_ne (tgt := 12) hx hb dX3_isMissing_5 (by decide) (fun c_1 => ?_) (fun c_1 => ?_)
  · have hg := it_n hg c_1
    refine lv_iconst (v := 0) hx hb dX3_isMissing_12 (by decide) ?_
    exact r_iretz S hr rfl hlk hw.2.2.2.2 hw hg dX3_isMissing_13
  · have hg := it_p hg c_1
    refine lv_iconst (v := 1) hx hb dX3_isMissing_8 (by decide) ?_
    refine lv_goto (tgt := 13) hx hb dX3_isMissing_9 (by decide) ?_
    exact r_iretz S hr rfl hlk hw.2.2.2.2 hw hg dX3_isMissing_13
set_option maxHeartbeats 4000000 in
set_option maxRecDepth 100000 in
theorem c_X3_hasPlace (l : Launch) {G : GW} {N : Nat} {ln : Nat → Nat} {cT cS : ClassId} (hG : isX G N ln cT cS) {F sz : Nat} {ks : Nat} (h_ks : isSh ks) {a1 : Int32} {σ σR : Sg} {r : Int32} (hg : g_X3_hasPlace F N ln ks a1 σ = some (σR, r)) : Met l yX3_hasPlace wsX3_hasPlace ({ frames := 0, cells := 0, slots := 0, locals := 0 } : Room) (va_Pc [.ref (gAd G ks), .int a1] (PX G σ sz)) (QcI G (gA G sz) σR r) 0 0 (gA G sz) := by
  refine metX (by decide) rfl (Nat.le_of_ble_eq_true rfl) ?_
  intro p e s m args below meth c ls S hr hlk hsz hA hK hw hl hmn
  have S : CallFix p m c cX3_hasPlace 2 s args wsX3_hasPlace RX3 := S
  obtain ⟨hx, hb, hml, hown, hts⟩ := id S
  have hl : lv_has ls 2 [(0, .ref (gAd G ks)), (1, .int a1)] := hl
  have hinX3 : ∀ w ∈ wsX30, w ∈ wsX3_hasPlace := by decide +kernel
  rw [g_X3_hasPlace] at hg
  refine lv_iload_n hx hb dX3_hasPlace_0 rfl (lv_at hl 1 rfl) ?_
  refine lv_if_lt (tgt := 16) hx hb dX3_hasPlace_1 (by decide) (fun c_1 => ?_) (fun c_1 => ?_)
  · have hg := it_p hg c_1
    refine lv_iconst (v := 0) hx hb dX3_hasPlace_16 (by decide) ?_
    exact r_iretz S hr rfl hlk hw.2.2.2.2 hw hg dX3_hasPlace_17
  · have hg := it_n hg c_1
    refine lv_iload_n hx hb dX3_hasPlace_4 rfl (lv_at hl 1 rfl) ?_
    refine lv_aload_n hx hb dX3_hasPlace_5 rfl (lv_at hl 0 rfl) ?_
    refine r_get (C := RX3) (T := TX3) (N := 3) S hK hw (kS0 hG h_ks).1 (kS0 hG h_ks).2 rfl hinX3 1 (by decide) rfl (hts (.fieldLink RX3 28 "SoupByRank$Sheet" "size" "I") (by decide +kernel)) rfl dX3_hasPlace_6 ?_
    refine lv_icmp_ge (tgt := 16) hx hb dX3_hasPlace_9 (by decide) (fun c_2 => ?_) (fun c_2 => ?_)
    · have hg := it_p hg c_2
      refine lv_iconst (v := 0) hx hb dX3_hasPlace_16 (by decide) ?_
      exact r_iretz S hr rfl hlk hw.2.2.2.2 hw hg dX3_hasPlace_17
    · have hg := it_n hg c_2
      refine lv_iconst (v := 1) hx hb dX3_hasPlace_12 (by decide) ?_
      refine lv_goto (tgt := 17) hx hb dX3_hasPlace_13 (by decide) ?_
      exact r_iretz S hr rfl hlk hw.2.2.2.2 hw hg dX3_hasPlace_17
set_option maxHeartbeats 4000000 in
set_option maxRecDepth 100000 in
theorem c_X3_hasPlaces (l : Launch) {G : GW} {N : Nat} {ln : Nat → Nat} {cT cS : ClassId} (hG : isX G N ln cT cS) {F sz : Nat} {ks : Nat} (h_ks : isSh ks) {a1 : Int32} {a2 : Int32} {σ σR : Sg} {r : Int32} (hg : g_X3_hasPlaces F N ln ks a1 a2 σ = some (σR, r)) : Met l yX3_hasPlaces wsX3_hasPlaces ({ frames := 0, cells := 0, slots := 0, locals := 0 } : Room) (va_Pc [.ref (gAd G ks), .int a1, .int a2] (PX G σ sz)) (QcI G (gA G sz) σR r) 0 0 (gA G sz) := by
  refine metX (by decide) rfl (Nat.le_of_ble_eq_true rfl) ?_
  intro p e s m args below meth c ls S hr hlk hsz hA hK hw hl hmn
  have S : CallFix p m c cX3_hasPlaces 3 s args wsX3_hasPlaces RX3 := S
  obtain ⟨hx, hb, hml, hown, hts⟩ := id S
  have hl : lv_has ls 3 [(0, .ref (gAd G ks)), (1, .int a1), (2, .int a2)] := hl
  have hinX3 : ∀ w ∈ wsX30, w ∈ wsX3_hasPlaces := by decide +kernel
  rw [g_X3_hasPlaces] at hg
  refine lv_iload_n hx hb dX3_hasPlaces_0 rfl (lv_at hl 1 rfl) ?_
  refine lv_if_lt (tgt := 30) hx hb dX3_hasPlaces_1 (by decide) (fun c_1 => ?_) (fun c_1 => ?_)
  · have hg := it_p hg c_1
    refine lv_iconst (v := 0) hx hb dX3_hasPlaces_30 (by decide) ?_
    exact r_iretz S hr rfl hlk hw.2.2.2.2 hw hg dX3_hasPlaces_31
  · have hg := it_n hg c_1
    refine lv_iload_n hx hb dX3_hasPlaces_4 rfl (lv_at hl 2 rfl) ?_
    refine lv_if_lt (tgt := 30) hx hb dX3_hasPlaces_5 (by decide) (fun c_2 => ?_) (fun c_2 => ?_)
    · have hg := it_p hg c_2
      refine lv_iconst (v := 0) hx hb dX3_hasPlaces_30 (by decide) ?_
      exact r_iretz S hr rfl hlk hw.2.2.2.2 hw hg dX3_hasPlaces_31
    · have hg := it_n hg c_2
      refine lv_iload_n hx hb dX3_hasPlaces_8 rfl (lv_at hl 1 rfl) ?_
      refine lv_aload_n hx hb dX3_hasPlaces_9 rfl (lv_at hl 0 rfl) ?_
      refine r_get (C := RX3) (T := TX3) (N := 3) S hK hw (kS0 hG h_ks).1 (kS0 hG h_ks).2 rfl hinX3 1 (by decide) rfl (hts (.fieldLink RX3 28 "SoupByRank$Sheet" "size" "I") (by decide +kernel)) rfl dX3_hasPlaces_10 ?_
      refine lv_icmp_gt (tgt := 30) hx hb dX3_hasPlaces_13 (by decide) (fun c_3 => ?_) (fun c_3 => ?_)
      · have hg := it_p hg c_3
        refine lv_iconst (v := 0) hx hb dX3_hasPlaces_30 (by decide) ?_
        exact r_iretz S hr rfl hlk hw.2.2.2.2 hw hg dX3_hasPlaces_31
      · have hg := it_n hg c_3
        refine lv_iload_n hx hb dX3_hasPlaces_16 rfl (lv_at hl 2 rfl) ?_
        refine lv_aload_n hx hb dX3_hasPlaces_17 rfl (lv_at hl 0 rfl) ?_
        refine r_get (C := RX3) (T := TX3) (N := 3) S hK hw (kS0 hG h_ks).1 (kS0 hG h_ks).2 rfl hinX3 1 (by decide) rfl (hts (.fieldLink RX3 28 "SoupByRank$Sheet" "size" "I") (by decide +kernel)) rfl dX3_hasPlaces_18 ?_
        refine lv_iload_n hx hb dX3_hasPlaces_21 rfl (lv_at hl 1 rfl) ?_
        refine lv_isub hx hb dX3_hasPlaces_22 ?_
        refine lv_icmp_gt (tgt := 30) hx hb dX3_hasPlaces_23 (by decide) (fun c_4 => ?_) (fun c_4 => ?_)
        · have hg := it_p hg c_4
          refine lv_iconst (v := 0) hx hb dX3_hasPlaces_30 (by decide) ?_
          exact r_iretz S hr rfl hlk hw.2.2.2.2 hw hg dX3_hasPlaces_31
        · have hg := it_n hg c_4
          refine lv_iconst (v := 1) hx hb dX3_hasPlaces_26 (by decide) ?_
          refine lv_goto (tgt := 31) hx hb dX3_hasPlaces_27 (by decide) ?_
          exact r_iretz S hr rfl hlk hw.2.2.2.2 hw hg dX3_hasPlaces_31
set_option maxHeartbeats 4000000 in
set_option maxRecDepth 100000 in
theorem c_X3_write (l : Launch) {G : GW} {N : Nat} {ln : Nat → Nat} {cT cS : ClassId} (hG : isX G N ln cT cS) {F sz : Nat} {ks : Nat} (h_ks : isSh ks) {a1 : Int32} {a2 : Int32} {σ σR : Sg} (hg : g_X3_write F N ln ks a1 a2 σ = some σR) : Met l yX3_write wsX3_write ({ frames := 1, cells := 0, slots := 0, locals := 21 } : Room) (va_Pc [.ref (gAd G ks), .int a1, .int a2] (PX G σ sz)) (QcV G (gA G sz) σR) 0 0 (gA G sz) := by
  refine metX (by decide) rfl (Nat.le_of_ble_eq_true rfl) ?_
  intro p e s m args below meth c ls S hr hlk hsz hA hK hw hl hmn
  have S : CallFix p m c cX3_write 3 s args wsX3_write RX3 := S
  obtain ⟨hx, hb, hml, hown, hts⟩ := id S
  have hl : lv_has ls 3 [(0, .ref (gAd G ks)), (1, .int a1), (2, .int a2)] := hl
  have hinX3 : ∀ w ∈ wsX30, w ∈ wsX3_write := by decide +kernel
  have J39 : ∀ (u0 : Int32) (u1 : Int32) (σ : Sg) (H : Heap) (locs : List Loc) (ls : Array Slot) (hg : g_X3_write_b39 F N ln ks u0 u1 σ = some σR) (hw : XD G (gA G sz) s.heap σ H locs) (hl : lv_has ls 3 []), W p l e (headSpec wsX3_write ({ frames := 1, cells := 0, slots := 0, locals := 21 } : Room)).room s m args below meth c H locs 0 0 (MQ below (QcV G (gA G sz) σR) args s 0 0 (gA G sz)) (F0 m 39 ls [.int u0, .int u1, .ref (gAd G (ks + 1))]) := by
    intro u0 u1 σ H locs ls hg hw hl
    rw [g_X3_write_b39] at hg
    obtain ⟨h_2, s_1, e_3, hg⟩ := wrA_e hg
    refine r_iast S hK hw (kS1 hG h_ks).1 (kS1 hG h_ks).2 h_2 e_3 dX3_write_39 (fun H locs hw => ?_)
    exact r_vreti S hr hlk hw.2.2.2.2 hw hg dX3_write_40
  rw [g_X3_write] at hg
  refine lv_aload_n hx hb dX3_write_0 rfl (lv_at hl 0 rfl) ?_
  refine lv_iload_n hx hb dX3_write_1 rfl (lv_at hl 1 rfl) ?_
  obtain ⟨s_4, x_5, h_6, hg⟩ := bnI_e hg
  refine r_iV (As := [.int a1]) (rest := []) S hA hK hw (c_X3_hasPlace l hG h_ks h_6) (cwV 1 hts gX3_write_X3_hasPlace rfl rfl rfl (by decide +kernel) ⟨Nat.le_of_ble_eq_true rfl, Nat.le_of_ble_eq_true rfl⟩) (r_recv hK hw (kS0 hG h_ks).1 (kS0 hG h_ks).2 rfl) rfl hl.1 (Nat.le_of_ble_eq_true rfl) dX3_write_2 ⟨Nat.zero_le _, Nat.zero_le _⟩ rfl (fun H locs hw => ?_)
  refine lv_if_eq (tgt := 40) hx hb dX3_write_5 (by decide) (fun c_7 => ?_) (fun c_7 => ?_)
  · have hg := it_p hg c_7
    exact r_vreti S hr hlk hw.2.2.2.2 hw hg dX3_write_40
  · have hg := it_n hg c_7
    refine lv_aload_n hx hb dX3_write_8 rfl (lv_at hl 0 rfl) ?_
    refine r_getr (C := RX3) (T := TX3) (N := 3) (k' := (ks + 1)) S hK hw (kS0 hG h_ks).1 (kS0 hG h_ks).2 rfl hinX3 2 (by decide) (o := 1) rfl rfl (hts (.fieldLink RX3 15 "SoupByRank$Sheet" "cells" "[I") (by decide +kernel)) rfl dX3_write_9 ?_
    refine lv_iload_n hx hb dX3_write_12 rfl (lv_at hl 1 rfl) ?_
    refine lv_aload_n hx hb dX3_write_13 rfl (lv_at hl 0 rfl) ?_
    refine r_get (C := RX3) (T := TX3) (N := 3) S hK hw (kS0 hG h_ks).1 (kS0 hG h_ks).2 rfl hinX3 0 (by decide) rfl (hts (.fieldLink RX3 9 "SoupByRank$Sheet" "sort" "I") (by decide +kernel)) rfl dX3_write_14 ?_
    refine lv_if_ne (tgt := 25) hx hb dX3_write_17 (by decide) (fun c_8 => ?_) (fun c_8 => ?_)
    · have hg := it_n hg c_8
      refine lv_aload_n hx hb dX3_write_25 rfl (lv_at hl 0 rfl) ?_
      refine r_get (C := RX3) (T := TX3) (N := 3) S hK hw (kS0 hG h_ks).1 (kS0 hG h_ks).2 rfl hinX3 0 (by decide) rfl (hts (.fieldLink RX3 9 "SoupByRank$Sheet" "sort" "I") (by decide +kernel)) rfl dX3_write_26 ?_
      refine lv_iconst (v := 1) hx hb dX3_write_29 (by decide) ?_
      refine lv_icmp_ne (tgt := 38) hx hb dX3_write_30 (by decide) (fun c_9 => ?_) (fun c_9 => ?_)
      · have hg := it_n hg c_9
        refine lv_iload_n hx hb dX3_write_38 rfl (lv_at hl 2 rfl) ?_
        exact J39 a2 a1 _ _ _ _ hg hw (lv_sub hl [] rfl)
      · have hg := it_p hg c_9
        refine lv_iload_n hx hb dX3_write_33 rfl (lv_at hl 2 rfl) ?_
        refine lv_i2s (v := (Int16.toInt32 (Int32.toInt16 a2))) hx hb dX3_write_34 rfl ?_
        refine lv_goto (tgt := 39) hx hb dX3_write_35 (by decide) ?_
        exact J39 (Int16.toInt32 (Int32.toInt16 a2)) a1 _ _ _ _ hg hw (lv_sub hl [] rfl)
    · have hg := it_p hg c_8
      refine lv_iload_n hx hb dX3_write_20 rfl (lv_at hl 2 rfl) ?_
      refine lv_i2b (v := (Int8.toInt32 (Int32.toInt8 a2))) hx hb dX3_write_21 rfl ?_
      refine lv_goto (tgt := 39) hx hb dX3_write_22 (by decide) ?_
      exact J39 (Int8.toInt32 (Int32.toInt8 a2)) a1 _ _ _ _ hg hw (lv_sub hl [] rfl)
