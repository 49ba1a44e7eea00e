set_option maxHeartbeats 4000000 in
set_option maxRecDepth 100000 in
theorem c_X2_hasBegun (l : Launch) {G : GW} {N : Nat} {ln : Nat → Nat} {cT cS : ClassId} (hG : isX G N ln cT cS) {F sz : Nat} {a1 : Int32} {σ σR : Sg} {r : Int32} (hg : g_X2_hasBegun F N ln a1 σ = some (σR, r)) : Met l yX2_hasBegun wsX2_hasBegun ({ frames := 0, cells := 0, slots := 0, locals := 0 } : Room) (va_Pc [.ref (gAd G 16), .int a1] (PX G σ sz)) (QcI G (gA G sz) σR r) 0 0 (gA G sz) := by
  refine metX (by decide) rfl (Nat.le_of_ble_eq_true rfl) ?_
  intro p e s m args below meth c ls S hr hlk hsz hA hK hw hl hmn
  have S : CallFix p m c cX2_hasBegun 2 s args wsX2_hasBegun RX2 := S
  obtain ⟨hx, hb, hml, hown, hts⟩ := id S
  have hl : lv_has ls 2 [(0, .ref (gAd G 16)), (1, .int a1)] := hl
  have hinX2 : ∀ w ∈ wsX20, w ∈ wsX2_hasBegun := by decide +kernel
  rw [g_X2_hasBegun] at hg
  refine lv_aload_n hx hb dX2_hasBegun_0 rfl (lv_at hl 0 rfl) ?_
  refine r_getr (C := RX2) (T := TX2) (N := 11) (k' := 19) S hK hw (kX_16 hG).1 (kX_16 hG).2 rfl hinX2 2 (by decide) (o := 3) rfl rfl (hts (.fieldLink RX2 18 "SoupByRank$Evening" "begins" "[I") (by decide +kernel)) rfl dX2_hasBegun_1 ?_
  refine lv_iload_n hx hb dX2_hasBegun_4 rfl (lv_at hl 1 rfl) ?_
  obtain ⟨h_2, x_1, e_3, hg⟩ := rdA_e hg
  refine r_iald S hK hw (kX_19 hG).1 (kX_19 hG).2 h_2 e_3 dX2_hasBegun_5 ?_
  refine lv_iconst (v := (-1)) hx hb dX2_hasBegun_6 (by decide) ?_
  refine lv_icmp_eq (tgt := 14) hx hb dX2_hasBegun_7 (by decide) (fun c_4 => ?_) (fun c_4 => ?_)
  · have hg := it_p hg c_4
    refine lv_iconst (v := 0) hx hb dX2_hasBegun_14 (by decide) ?_
    exact r_iretz S hr rfl hlk hw.2.2.2.2 hw hg dX2_hasBegun_15
  · have hg := it_n hg c_4
    refine lv_iconst (v := 1) hx hb dX2_hasBegun_10 (by decide) ?_
    refine lv_goto (tgt := 15) hx hb dX2_hasBegun_11 (by decide) ?_
    exact r_iretz S hr rfl hlk hw.2.2.2.2 hw hg dX2_hasBegun_15
set_option maxHeartbeats 4000000 in
set_option maxRecDepth 100000 in
theorem c_X2_costs (l : Launch) {G : GW} {N : Nat} {ln : Nat → Nat} {cT cS : ClassId} (hG : isX G N ln cT cS) {F sz : Nat} {a1 : Int32} {σ σR : Sg} {r : Int32} (hg : g_X2_costs F N ln a1 σ = some (σR, r)) : Met l yX2_costs wsX2_costs ({ frames := 1, cells := 0, slots := 0, locals := 21 } : Room) (va_Pc [.ref (gAd G 16), .int a1] (PX G σ sz)) (QcI G (gA G sz) σR r) 0 0 (gA G sz) := by
  refine metX (by decide) rfl (Nat.le_of_ble_eq_true rfl) ?_
  intro p e s m args below meth c ls S hr hlk hsz hA hK hw hl hmn
  have S : CallFix p m c cX2_costs 2 s args wsX2_costs RX2 := S
  obtain ⟨hx, hb, hml, hown, hts⟩ := id S
  have hl : lv_has ls 2 [(0, .ref (gAd G 16)), (1, .int a1)] := hl
  have hinX2 : ∀ w ∈ wsX20, w ∈ wsX2_costs := by decide +kernel
  rw [g_X2_costs] at hg
  refine lv_aload_n hx hb dX2_costs_0 rfl (lv_at hl 0 rfl) ?_
  refine lv_iload_n hx hb dX2_costs_1 rfl (lv_at hl 1 rfl) ?_
  obtain ⟨s_1, x_2, h_3, hg⟩ := bnI_e hg
  refine r_iV (As := [.int a1]) (rest := []) S hA hK hw (c_X2_hasBegun l hG  h_3) (cwV 1 hts gX2_costs_X2_hasBegun rfl rfl rfl (by decide +kernel) ⟨Nat.le_of_ble_eq_true rfl, Nat.le_of_ble_eq_true rfl⟩) (r_recv hK hw (kX_16 hG).1 (kX_16 hG).2 rfl) rfl hl.1 (Nat.le_of_ble_eq_true rfl) dX2_costs_2 ⟨Nat.zero_le _, Nat.zero_le _⟩ rfl (fun H locs hw => ?_)
  refine lv_if_eq (tgt := 17) hx hb dX2_costs_5 (by decide) (fun c_4 => ?_) (fun c_4 => ?_)
  · have hg := it_p hg c_4
    refine lv_bipush (v := 10) hx hb dX2_costs_17 (by decide) ?_
    exact r_ireti S hr hlk hw.2.2.2.2 hw hg dX2_costs_19
  · have hg := it_n hg c_4
    refine lv_aload_n hx hb dX2_costs_8 rfl (lv_at hl 0 rfl) ?_
    refine r_getr (C := RX2) (T := TX2) (N := 11) (k' := 22) S hK hw (kX_16 hG).1 (kX_16 hG).2 rfl hinX2 5 (by decide) (o := 6) rfl rfl (hts (.fieldLink RX2 27 "SoupByRank$Evening" "minds" "[I") (by decide +kernel)) rfl dX2_costs_9 ?_
    refine lv_iload_n hx hb dX2_costs_12 rfl (lv_at hl 1 rfl) ?_
    obtain ⟨h_6, x_5, e_7, hg⟩ := rdA_e hg
    refine r_iald S hK hw (kX_22 hG).1 (kX_22 hG).2 h_6 e_7 dX2_costs_13 ?_
    refine lv_goto (tgt := 19) hx hb dX2_costs_14 (by decide) ?_
    exact r_ireti S hr hlk hw.2.2.2.2 hw hg dX2_costs_19
set_option maxHeartbeats 4000000 in
set_option maxRecDepth 100000 in
theorem c_X1_rise (l : Launch) {G : GW} {N : Nat} {ln : Nat → Nat} {cT cS : ClassId} (hG : isX G N ln cT cS) {F sz : Nat} {k : Nat} (h_k : isCt k) {σ σR : Sg} (hg : g_X1_rise F N ln k σ = some σR) : Met l yX1_rise wsX1_rise ({ frames := 2, cells := 0, slots := 0, locals := 80 } : Room) (va_Pc [.ref (gAd G k), .ref (gAd G 16)] (PX G σ sz)) (QcV G (gA G sz) σR) 0 0 (gA G sz) := by
  refine metX (by decide) rfl (Nat.le_of_ble_eq_true rfl) ?_
  intro p e s m args below meth c ls S hr hlk hsz hA hK hw hl hmn
  have S : CallFix p m c cX1_rise 3 s args wsX1_rise RX1 := S
  obtain ⟨hx, hb, hml, hown, hts⟩ := id S
  have hl : lv_has ls 3 [(0, .ref (gAd G k)), (1, .ref (gAd G 16))] := hl
  have hinX1 : ∀ w ∈ wsX10, w ∈ wsX1_rise := by decide +kernel
  have L2 : ∀ (n2 : Nat) (v2 : Int32) (σ : Sg) (H : Heap) (locs : List Loc) (ls : Array Slot) (hg : g_X1_rise_l2 F N ln k n2 v2 σ = some σR) (hw : XD G (gA G sz) s.heap σ H locs) (hl : lv_has ls 3 [(0, .ref (gAd G k)), (1, .ref (gAd G 16)), (2, .int v2)]), W p l e (headSpec wsX1_rise ({ frames := 2, cells := 0, slots := 0, locals := 80 } : Room)).room s m args below meth c H locs 0 0 (MQ below (QcV G (gA G sz) σR) args s 0 0 (gA G sz)) (F0 m 2 ls []) := by
    intro n2
    induction n2 with
    | zero => intro v2 σ H locs ls hg hw hl; exact no_e hg
    | succ n2 ih2 =>
      intro v2 σ H locs ls hg hw hl
      rw [g_X1_rise_l2] at hg
      refine lv_iload_n hx hb dX1_rise_2 rfl (lv_at hl 2 rfl) ?_
      refine lv_aload_n hx hb dX1_rise_3 rfl (lv_at hl 0 rfl) ?_
      refine r_get (C := RX1) (T := TX1) (N := 9) S hK hw (kC0 hG h_k).1 (kC0 hG h_k).2 rfl hinX1 0 (by decide) rfl (hts (.fieldLink RX1 31 "SoupByRank$Court" "many" "I") (by decide +kernel)) rfl dX1_rise_4 ?_
      refine lv_icmp_ge (tgt := 44) hx hb dX1_rise_7 (by decide) (fun c_1 => ?_) (fun c_1 => ?_)
      · have hg := it_p hg c_1
        refine lv_aload_n hx hb dX1_rise_44 rfl (lv_at hl 0 rfl) ?_
        refine lv_dup hx hb dX1_rise_45 rfl ?_
        refine r_get (C := RX1) (T := TX1) (N := 9) S hK hw (kC0 hG h_k).1 (kC0 hG h_k).2 rfl hinX1 1 (by decide) rfl (hts (.fieldLink RX1 34 "SoupByRank$Court" "supper" "I") (by decide +kernel)) rfl dX1_rise_46 ?_
        refine lv_iconst (v := 1) hx hb dX1_rise_49 (by decide) ?_
        refine lv_iadd hx hb dX1_rise_50 ?_
        obtain ⟨s_2, e_3, hg⟩ := wrF_e hg
        refine r_put (C := RX1) (T := TX1) (N := 9) S hK hw (kC0 hG h_k).1 (kC0 hG h_k).2 rfl hinX1 tyX1_ok nmX1 1 (by decide) rfl rfl rfl rfl (hts (.fieldLink RX1 34 "SoupByRank$Court" "supper" "I") (by decide +kernel)) rfl e_3 dX1_rise_51 (fun H locs hw => ?_)
        exact r_vreti S hr hlk hw.2.2.2.2 hw hg dX1_rise_54
      · have hg := it_n hg c_1
        refine lv_aload_n hx hb dX1_rise_10 rfl (lv_at hl 0 rfl) ?_
        refine r_getr (C := RX1) (T := TX1) (N := 9) (k' := (k + 4)) S hK hw (kC0 hG h_k).1 (kC0 hG h_k).2 rfl hinX1 8 (by decide) (o := 4) rfl rfl (hts (.fieldLink RX1 28 "SoupByRank$Court" "moods" "[I") (by decide +kernel)) rfl dX1_rise_11 ?_
        refine lv_iload_n hx hb dX1_rise_14 rfl (lv_at hl 2 rfl) ?_
        refine lv_iconst (v := 0) hx hb dX1_rise_15 (by decide) ?_
        refine lv_sipush (v := 999) hx hb dX1_rise_16 (by decide) ?_
        refine lv_aload_n hx hb dX1_rise_19 rfl (lv_at hl 0 rfl) ?_
        refine r_getr (C := RX1) (T := TX1) (N := 9) (k' := (k + 4)) S hK hw (kC0 hG h_k).1 (kC0 hG h_k).2 rfl hinX1 8 (by decide) (o := 4) rfl rfl (hts (.fieldLink RX1 28 "SoupByRank$Court" "moods" "[I") (by decide +kernel)) rfl dX1_rise_20 ?_
        refine lv_iload_n hx hb dX1_rise_23 rfl (lv_at hl 2 rfl) ?_
        obtain ⟨h_5, x_4, e_6, hg⟩ := rdA_e hg
        refine r_iald S hK hw (kC4 hG h_k).1 (kC4 hG h_k).2 h_5 e_6 dX1_rise_24 ?_
        refine lv_aload_n hx hb dX1_rise_25 rfl (lv_at hl 1 rfl) ?_
        refine lv_iload_n hx hb dX1_rise_26 rfl (lv_at hl 2 rfl) ?_
        obtain ⟨s_7, x_8, h_9, hg⟩ := bnI_e hg
        refine r_iV (As := [.int v2]) (rest := [.int x_4, .int 999, .int 0, .int v2, .ref (gAd G (k + 4))]) S hA hK hw (c_X2_costs l hG  h_9) (cwV 1 hts gX1_rise_X2_costs rfl rfl rfl (by decide +kernel) ⟨Nat.le_of_ble_eq_true rfl, Nat.le_of_ble_eq_true rfl⟩) (r_recv hK hw (kX_16 hG).1 (kX_16 hG).2 rfl) rfl hl.1 (Nat.le_of_ble_eq_true rfl) dX1_rise_27 ⟨Nat.zero_le _, Nat.zero_le _⟩ rfl (fun H locs hw => ?_)
        refine lv_isub hx hb dX1_rise_30 ?_
        refine va_mmin hx hb (hml.trans hl.1.symm) hown (hts (.methodLink RX1 52 Lib.Math.min.name) (by decide +kernel)) (hts (.static Lib.Math.min.name) (by decide +kernel)) (hts (.initialized "java/lang/Math") (by decide +kernel)) (hts (.code Lib.Math.min.name Lib.Math.min.code 2 (some .int)) (by decide +kernel)) (Nat.le_of_ble_eq_true rfl) (Nat.le_of_ble_eq_true rfl) (Nat.zero_le _) (Nat.zero_le _) dX1_rise_31 ?_
        refine va_mmax hx hb (hml.trans hl.1.symm) hown (hts (.methodLink RX1 58 Lib.Math.max.name) (by decide +kernel)) (hts (.static Lib.Math.max.name) (by decide +kernel)) (hts (.initialized "java/lang/Math") (by decide +kernel)) (hts (.code Lib.Math.max.name Lib.Math.max.code 2 (some .int)) (by decide +kernel)) (Nat.le_of_ble_eq_true rfl) (Nat.le_of_ble_eq_true rfl) (Nat.zero_le _) (Nat.zero_le _) dX1_rise_34 ?_
        obtain ⟨h_11, s_10, e_12, hg⟩ := wrA_e hg
        refine r_iast S hK hw (kC4 hG h_k).1 (kC4 hG h_k).2 h_11 e_12 dX1_rise_37 (fun H locs hw => ?_)
        refine lv_iinc (v := (v2 + 1)) (lv' := [(2, .int (v2 + 1)), (0, .ref (gAd G k)), (1, .ref (gAd G 16))]) hx hb dX1_rise_38 hl (k := 2) rfl rfl (by decide) rfl (fun ls hl => ?_)
        refine lv_goto (tgt := 2) hx hb dX1_rise_41 (by decide) ?_
        exact ih2 _ _ _ _ _ hg hw (lv_sub hl [1, 2, 0] rfl)
  rw [g_X1_rise] at hg
  refine lv_iconst (v := 0) hx hb dX1_rise_0 (by decide) ?_
  refine lv_istore_n (lv' := [(2, .int 0), (0, .ref (gAd G k)), (1, .ref (gAd G 16))]) hx hb dX1_rise_1 rfl hl (by decide) rfl (fun ls hl => ?_)
  exact L2 F _ _ _ _ _ hg hw (lv_sub hl [1, 2, 0] rfl)
set_option maxHeartbeats 4000000 in
set_option maxRecDepth 100000 in
theorem c_X2_lineUp (l : Launch) {G : GW} {N : Nat} {ln : Nat → Nat} {cT cS : ClassId} (hG : isX G N ln cT cS) {F sz : Nat} {k : Nat} (h_k : isCt k) {σ σR : Sg} (hg : g_X2_lineUp F N ln k σ = some σR) : Met l yX2_lineUp wsX2_lineUp ({ frames := 1, cells := 0, slots := 0, locals := 22 } : Room) (va_Pc [.ref (gAd G 16), .ref (gAd G k)] (PX G σ sz)) (QcV G (gA G sz) σR) 0 0 (gA G sz) := by
  refine metX (by decide) rfl (Nat.le_of_ble_eq_true rfl) ?_
  intro p e s m args below meth c ls S hr hlk hsz hA hK hw hl hmn
  have S : CallFix p m c cX2_lineUp 4 s args wsX2_lineUp RX2 := S
  obtain ⟨hx, hb, hml, hown, hts⟩ := id S
  have hl : lv_has ls 4 [(0, .ref (gAd G 16)), (1, .ref (gAd G k))] := hl
  have hinX1 : ∀ w ∈ wsX10, w ∈ wsX2_lineUp := by decide +kernel
  have hinX2 : ∀ w ∈ wsX20, w ∈ wsX2_lineUp := by decide +kernel
  have L7 : ∀ (n7 : Nat) (v2 : Int32) (σ : Sg) (H : Heap) (locs : List Loc) (ls : Array Slot) (hg : g_X2_lineUp_l7 F N ln k n7 v2 σ = some σR) (hw : XD G (gA G sz) s.heap σ H locs) (hl : lv_has ls 4 [(0, .ref (gAd G 16)), (1, .ref (gAd G k)), (2, .int v2)]), W p l e (headSpec wsX2_lineUp ({ frames := 1, cells := 0, slots := 0, locals := 22 } : Room)).room s m args below meth c H locs 0 0 (MQ below (QcV G (gA G sz) σR) args s 0 0 (gA G sz)) (F0 m 7 ls []) := by
    intro n7
    induction n7 with
    | zero => intro v2 σ H locs ls hg hw hl; exact no_e hg
    | succ n7 ih7 =>
      have J109 : ∀ (v2 : Int32) (σ : Sg) (H : Heap) (locs : List Loc) (ls : Array Slot) (hg : g_X2_lineUp_b109 F N ln k (fun v2_ σ_ => g_X2_lineUp_l7 F N ln k n7 v2_ σ_) v2 σ = some σR) (hw : XD G (gA G sz) s.heap σ H locs) (hl : lv_has ls 4 [(0, .ref (gAd G 16)), (1, .ref (gAd G k)), (2, .int v2)]), W p l e (headSpec wsX2_lineUp ({ frames := 1, cells := 0, slots := 0, locals := 22 } : Room)).room s m args below meth c H locs 0 0 (MQ below (QcV G (gA G sz) σR) args s 0 0 (gA G sz)) (F0 m 109 ls []) := by
        intro v2 σ H locs ls hg hw hl
        rw [g_X2_lineUp_b109] at hg
        refine lv_iinc (v := (v2 + 1)) (lv' := [(2, .int (v2 + 1)), (0, .ref (gAd G 16)), (1, .ref (gAd G k))]) hx hb dX2_lineUp_109 hl (k := 2) rfl rfl (by decide) rfl (fun ls hl => ?_)
        refine lv_goto (tgt := 7) hx hb dX2_lineUp_112 (by decide) ?_
        exact ih7 _ _ _ _ _ hg hw (lv_sub hl [1, 2, 0] rfl)
      have L38 : ∀ (v2 : Int32) (n38 : Nat) (v3 : Int32) (σ : Sg) (H : Heap) (locs : List Loc) (ls : Array Slot) (hg : g_X2_lineUp_l38 F N ln k (fun v2_ σ_ => g_X2_lineUp_l7 F N ln k n7 v2_ σ_) v2 n38 v3 σ = some σR) (hw : XD G (gA G sz) s.heap σ H locs) (hl : lv_has ls 4 [(0, .ref (gAd G 16)), (1, .ref (gAd G k)), (2, .int v2), (3, .int v3)]), W p l e (headSpec wsX2_lineUp ({ frames := 1, cells := 0, slots := 0, locals := 22 } : Room)).room s m args below meth c H locs 0 0 (MQ below (QcV G (gA G sz) σR) args s 0 0 (gA G sz)) (F0 m 38 ls []) := by
        intro v2
        intro n38
        induction n38 with
        | zero => intro v3 σ H locs ls hg hw hl; exact no_e hg
        | succ n38 ih38 =>
          have J73 : ∀ (v3 : Int32) (σ : Sg) (H : Heap) (locs : List Loc) (ls : Array Slot) (hg : g_X2_lineUp_b73 F N ln k (fun v2_ σ_ => g_X2_lineUp_l7 F N ln k n7 v2_ σ_) (fun v3_ σ_ => g_X2_lineUp_l38 F N ln k (fun v2_ σ_ => g_X2_lineUp_l7 F N ln k n7 v2_ σ_) v2 n38 v3_ σ_) v2 v3 σ = some σR) (hw : XD G (gA G sz) s.heap σ H locs) (hl : lv_has ls 4 [(0, .ref (gAd G 16)), (1, .ref (gAd G k)), (2, .int v2), (3, .int v3)]), W p l e (headSpec wsX2_lineUp ({ frames := 1, cells := 0, slots := 0, locals := 22 } : Room)).room s m args below meth c H locs 0 0 (MQ below (QcV G (gA G sz) σR) args s 0 0 (gA G sz)) (F0 m 73 ls []) := by
            intro v3 σ H locs ls hg hw hl
            rw [g_X2_lineUp_b73] at hg
            refine lv_iinc (v := (v3 + 1)) (lv' := [(3, .int (v3 + 1)), (0, .ref (gAd G 16)), (1, .ref (gAd G k)), (2, .int v2)]) hx hb dX2_lineUp_73 hl (k := 3) rfl rfl (by decide) rfl (fun ls hl => ?_)
            refine lv_goto (tgt := 38) hx hb dX2_lineUp_76 (by decide) ?_
            exact ih38 _ _ _ _ _ hg hw (lv_sub hl [1, 2, 3, 0] rfl)
          intro v3 σ H locs ls hg hw hl
          rw [g_X2_lineUp_l38] at hg
          refine lv_iload_n hx hb dX2_lineUp_38 rfl (lv_at hl 3 rfl) ?_
          refine lv_aload_n hx hb dX2_lineUp_39 rfl (lv_at hl 1 rfl) ?_
          refine r_getN (C := RX1) (T := TX1) (N := 9) (host := RX6) S hK hw (kC0 hG h_k).1 (kC0 hG h_k).2 rfl hinX1 0 (by decide) rfl (by decide +kernel) rfl dX2_lineUp_40 ?_
          refine lv_icmp_ge (tgt := 79) hx hb dX2_lineUp_43 (by decide) (fun c_1 => ?_) (fun c_1 => ?_)
          · have hg := it_p hg c_1
            refine lv_iload_n hx hb dX2_lineUp_79 rfl (lv_at hl 2 rfl) ?_
            refine lv_aload_n hx hb dX2_lineUp_80 rfl (lv_at hl 1 rfl) ?_
            refine r_getN (C := RX1) (T := TX1) (N := 9) (host := RX6) S hK hw (kC0 hG h_k).1 (kC0 hG h_k).2 rfl hinX1 4 (by decide) rfl (by decide +kernel) rfl dX2_lineUp_81 ?_
            refine lv_icmp_eq (tgt := 109) hx hb dX2_lineUp_84 (by decide) (fun c_2 => ?_) (fun c_2 => ?_)
            · have hg := it_p hg c_2
              exact J109 v2 _ _ _ _ hg hw (lv_sub hl [0, 1, 2] rfl)
            · have hg := it_n hg c_2
              refine lv_aload_n hx hb dX2_lineUp_87 rfl (lv_at hl 0 rfl) ?_
              refine r_getr (C := RX2) (T := TX2) (N := 11) (k' := 17) S hK hw (kX_16 hG).1 (kX_16 hG).2 rfl hinX2 0 (by decide) (o := 1) rfl rfl (hts (.fieldLink RX2 9 "SoupByRank$Evening" "line" "[I") (by decide +kernel)) rfl dX2_lineUp_88 ?_
              refine lv_aload_n hx hb dX2_lineUp_91 rfl (lv_at hl 0 rfl) ?_
              refine r_getr (C := RX2) (T := TX2) (N := 11) (k' := 18) S hK hw (kX_16 hG).1 (kX_16 hG).2 rfl hinX2 1 (by decide) (o := 2) rfl rfl (hts (.fieldLink RX2 15 "SoupByRank$Evening" "down" "[I") (by decide +kernel)) rfl dX2_lineUp_92 ?_
              refine lv_iload_n hx hb dX2_lineUp_95 rfl (lv_at hl 2 rfl) ?_
              obtain ⟨h_4, x_3, e_5, hg⟩ := rdA_e hg
              refine r_iald S hK hw (kX_18 hG).1 (kX_18 hG).2 h_4 e_5 dX2_lineUp_96 ?_
              refine lv_iload_n hx hb dX2_lineUp_97 rfl (lv_at hl 2 rfl) ?_
              obtain ⟨h_7, s_6, e_8, hg⟩ := wrA_e hg
              refine r_iast S hK hw (kX_17 hG).1 (kX_17 hG).2 h_7 e_8 dX2_lineUp_98 (fun H locs hw => ?_)
              refine lv_aload_n hx hb dX2_lineUp_99 rfl (lv_at hl 0 rfl) ?_
              refine lv_dup hx hb dX2_lineUp_100 rfl ?_
              refine r_get (C := RX2) (T := TX2) (N := 11) S hK hw (kX_16 hG).1 (kX_16 hG).2 rfl hinX2 8 (by decide) rfl (hts (.fieldLink RX2 54 "SoupByRank$Evening" "there" "I") (by decide +kernel)) rfl dX2_lineUp_101 ?_
              refine lv_iconst (v := 1) hx hb dX2_lineUp_104 (by decide) ?_
              refine lv_iadd hx hb dX2_lineUp_105 ?_
              obtain ⟨s_9, e_10, hg⟩ := wrF_e hg
              refine r_put (C := RX2) (T := TX2) (N := 11) S hK hw (kX_16 hG).1 (kX_16 hG).2 rfl hinX2 tyX2_ok nmX2 8 (by decide) rfl rfl rfl rfl (hts (.fieldLink RX2 54 "SoupByRank$Evening" "there" "I") (by decide +kernel)) rfl e_10 dX2_lineUp_106 (fun H locs hw => ?_)
              exact J109 v2 _ _ _ _ hg hw (lv_sub hl [0, 1, 2] rfl)
          · have hg := it_n hg c_1
            refine lv_iload_n hx hb dX2_lineUp_46 rfl (lv_at hl 3 rfl) ?_
            refine lv_aload_n hx hb dX2_lineUp_47 rfl (lv_at hl 1 rfl) ?_
            refine r_getN (C := RX1) (T := TX1) (N := 9) (host := RX6) S hK hw (kC0 hG h_k).1 (kC0 hG h_k).2 rfl hinX1 4 (by decide) rfl (by decide +kernel) rfl dX2_lineUp_48 ?_
            refine lv_icmp_eq (tgt := 73) hx hb dX2_lineUp_51 (by decide) (fun c_11 => ?_) (fun c_11 => ?_)
            · have hg := it_p hg c_11
              exact J73 v3 _ _ _ _ hg hw (lv_sub hl [0, 1, 2, 3] rfl)
            · have hg := it_n hg c_11
              refine lv_aload_n hx hb dX2_lineUp_54 rfl (lv_at hl 1 rfl) ?_
              refine lv_iload_n hx hb dX2_lineUp_55 rfl (lv_at hl 3 rfl) ?_
              refine lv_iload_n hx hb dX2_lineUp_56 rfl (lv_at hl 2 rfl) ?_
              obtain ⟨s_12, x_13, h_14, hg⟩ := bnI_e hg
              refine r_iV (As := [.int v3, .int v2]) (rest := []) S hA hK hw (c_X1_isBetter l hG h_k h_14) (cwV 2 hts gX2_lineUp_X1_isBetter rfl rfl rfl (by decide +kernel) ⟨Nat.le_of_ble_eq_true rfl, Nat.le_of_ble_eq_true rfl⟩) (r_recv hK hw (kC0 hG h_k).1 (kC0 hG h_k).2 rfl) rfl hl.1 (Nat.le_of_ble_eq_true rfl) dX2_lineUp_57 ⟨Nat.zero_le _, Nat.zero_le _⟩ rfl (fun H locs hw => ?_)
              refine lv_if_eq (tgt := 73) hx hb dX2_lineUp_60 (by decide) (fun c_15 => ?_) (fun c_15 => ?_)
              · have hg := it_p hg c_15
                exact J73 v3 _ _ _ _ hg hw (lv_sub hl [0, 1, 2, 3] rfl)
              · have hg := it_n hg c_15
                refine lv_aload_n hx hb dX2_lineUp_63 rfl (lv_at hl 0 rfl) ?_
                refine r_getr (C := RX2) (T := TX2) (N := 11) (k' := 18) S hK hw (kX_16 hG).1 (kX_16 hG).2 rfl hinX2 1 (by decide) (o := 2) rfl rfl (hts (.fieldLink RX2 15 "SoupByRank$Evening" "down" "[I") (by decide +kernel)) rfl dX2_lineUp_64 ?_
                refine lv_iload_n hx hb dX2_lineUp_67 rfl (lv_at hl 2 rfl) ?_
                refine lv_dup2_11 hx hb dX2_lineUp_68 rfl rfl ?_
                obtain ⟨h_17, x_16, e_18, hg⟩ := rdA_e hg
                refine r_iald S hK hw (kX_18 hG).1 (kX_18 hG).2 h_17 e_18 dX2_lineUp_69 ?_
                refine lv_iconst (v := 1) hx hb dX2_lineUp_70 (by decide) ?_
                refine lv_iadd hx hb dX2_lineUp_71 ?_
                obtain ⟨h_20, s_19, e_21, hg⟩ := wrA_e hg
                refine r_iast S hK hw (kX_18 hG).1 (kX_18 hG).2 h_20 e_21 dX2_lineUp_72 (fun H locs hw => ?_)
                exact J73 v3 _ _ _ _ hg hw (lv_sub hl [0, 1, 2, 3] rfl)
      intro v2 σ H locs ls hg hw hl
      rw [g_X2_lineUp_l7] at hg
      refine lv_iload_n hx hb dX2_lineUp_7 rfl (lv_at hl 2 rfl) ?_
      refine lv_aload_n hx hb dX2_lineUp_8 rfl (lv_at hl 1 rfl) ?_
      refine r_getN (C := RX1) (T := TX1) (N := 9) (host := RX6) S hK hw (kC0 hG h_k).1 (kC0 hG h_k).2 rfl hinX1 0 (by decide) rfl (by decide +kernel) rfl dX2_lineUp_9 ?_
      refine lv_icmp_ge (tgt := 115) hx hb dX2_lineUp_12 (by decide) (fun c_22 => ?_) (fun c_22 => ?_)
      · have hg := it_p hg c_22
        exact r_vreti S hr hlk hw.2.2.2.2 hw hg dX2_lineUp_115
      · have hg := it_n hg c_22
        refine lv_aload_n hx hb dX2_lineUp_15 rfl (lv_at hl 0 rfl) ?_
        refine r_getr (C := RX2) (T := TX2) (N := 11) (k' := 19) S hK hw (kX_16 hG).1 (kX_16 hG).2 rfl hinX2 2 (by decide) (o := 3) rfl rfl (hts (.fieldLink RX2 18 "SoupByRank$Evening" "begins" "[I") (by decide +kernel)) rfl dX2_lineUp_16 ?_
        refine lv_iload_n hx hb dX2_lineUp_19 rfl (lv_at hl 2 rfl) ?_
        refine lv_iconst (v := (-1)) hx hb dX2_lineUp_20 (by decide) ?_
        obtain ⟨h_24, s_23, e_25, hg⟩ := wrA_e hg
        refine r_iast S hK hw (kX_19 hG).1 (kX_19 hG).2 h_24 e_25 dX2_lineUp_21 (fun H locs hw => ?_)
        refine lv_aload_n hx hb dX2_lineUp_22 rfl (lv_at hl 0 rfl) ?_
        refine r_getr (C := RX2) (T := TX2) (N := 11) (k' := 20) S hK hw (kX_16 hG).1 (kX_16 hG).2 rfl hinX2 3 (by decide) (o := 4) rfl rfl (hts (.fieldLink RX2 21 "SoupByRank$Evening" "gets" "[I") (by decide +kernel)) rfl dX2_lineUp_23 ?_
        refine lv_iload_n hx hb dX2_lineUp_26 rfl (lv_at hl 2 rfl) ?_
        refine lv_iconst (v := (-1)) hx hb dX2_lineUp_27 (by decide) ?_
        obtain ⟨h_27, s_26, e_28, hg⟩ := wrA_e hg
        refine r_iast S hK hw (kX_20 hG).1 (kX_20 hG).2 h_27 e_28 dX2_lineUp_28 (fun H locs hw => ?_)
        refine lv_aload_n hx hb dX2_lineUp_29 rfl (lv_at hl 0 rfl) ?_
        refine r_getr (C := RX2) (T := TX2) (N := 11) (k' := 18) S hK hw (kX_16 hG).1 (kX_16 hG).2 rfl hinX2 1 (by decide) (o := 2) rfl rfl (hts (.fieldLink RX2 15 "SoupByRank$Evening" "down" "[I") (by decide +kernel)) rfl dX2_lineUp_30 ?_
        refine lv_iload_n hx hb dX2_lineUp_33 rfl (lv_at hl 2 rfl) ?_
        refine lv_iconst (v := 0) hx hb dX2_lineUp_34 (by decide) ?_
        obtain ⟨h_30, s_29, e_31, hg⟩ := wrA_e hg
        refine r_iast S hK hw (kX_18 hG).1 (kX_18 hG).2 h_30 e_31 dX2_lineUp_35 (fun H locs hw => ?_)
        refine lv_iconst (v := 0) hx hb dX2_lineUp_36 (by decide) ?_
        refine lv_istore_n (lv' := [(3, .int 0), (0, .ref (gAd G 16)), (1, .ref (gAd G k)), (2, .int v2)]) hx hb dX2_lineUp_37 rfl hl (by decide) rfl (fun ls hl => ?_)
        exact L38 v2 F _ _ _ _ _ hg hw (lv_sub hl [1, 2, 3, 0] rfl)
  rw [g_X2_lineUp] at hg
  refine lv_aload_n hx hb dX2_lineUp_0 rfl (lv_at hl 0 rfl) ?_
  refine lv_iconst (v := 0) hx hb dX2_lineUp_1 (by decide) ?_
  obtain ⟨s_32, e_33, hg⟩ := wrF_e hg
  refine r_put (C := RX2) (T := TX2) (N := 11) S hK hw (kX_16 hG).1 (kX_16 hG).2 rfl hinX2 tyX2_ok nmX2 8 (by decide) rfl rfl rfl rfl (hts (.fieldLink RX2 54 "SoupByRank$Evening" "there" "I") (by decide +kernel)) rfl e_33 dX2_lineUp_2 (fun H locs hw => ?_)
  refine lv_iconst (v := 0) hx hb dX2_lineUp_5 (by decide) ?_
  refine lv_istore_n (lv' := [(2, .int 0), (0, .ref (gAd G 16)), (1, .ref (gAd G k))]) hx hb dX2_lineUp_6 rfl hl (by decide) rfl (fun ls hl => ?_)
  exact L7 F _ _ _ _ _ hg hw (lv_sub hl [1, 2, 0] rfl)
set_option maxHeartbeats 4000000 in
set_option maxRecDepth 100000 in
theorem c_X2_speakOf (l : Launch) {G : GW} {N : Nat} {ln : Nat → Nat} {cT cS : ClassId} (hG : isX G N ln cT cS) {F sz : Nat} {k : Nat} (h_k : isCt k) {a2 : Int32} {σ σR : Sg} (hg : g_X2_speakOf F N ln k a2 σ = some σR) : Met l yX2_speakOf wsX2_speakOf ({ frames := 0, cells := 0, slots := 0, locals := 0 } : Room) (va_Pc [.ref (gAd G 16), .ref (gAd G k), .int a2] (PX G σ sz)) (QcV G (gA G sz) σR) 0 0 (gA G sz) := by
  refine metX (by decide) rfl (Nat.le_of_ble_eq_true rfl) ?_
  intro p e s m args below meth c ls S hr hlk hsz hA hK hw hl hmn
  have S : CallFix p m c cX2_speakOf 4 s args wsX2_speakOf RX2 := S
  obtain ⟨hx, hb, hml, hown, hts⟩ := id S
  have hl : lv_has ls 4 [(0, .ref (gAd G 16)), (1, .ref (gAd G k)), (2, .int a2)] := hl
  have hinX1 : ∀ w ∈ wsX10, w ∈ wsX2_speakOf := by decide +kernel
  have hinX2 : ∀ w ∈ wsX20, w ∈ wsX2_speakOf := by decide +kernel
  have J75 : ∀ (u0 : Int32) (u1 : Int32) (σ : Sg) (H : Heap) (locs : List Loc) (ls : Array Slot) (hg : g_X2_speakOf_b75 F N ln k u0 u1 σ = some σR) (hw : XD G (gA G sz) s.heap σ H locs) (hl : lv_has ls 4 []), W p l e (headSpec wsX2_speakOf ({ frames := 0, cells := 0, slots := 0, locals := 0 } : Room)).room s m args below meth c H locs 0 0 (MQ below (QcV G (gA G sz) σR) args s 0 0 (gA G sz)) (F0 m 75 ls [.int u0, .int u1, .ref (gAd G 23)]) := by
    intro u0 u1 σ H locs ls hg hw hl
    rw [g_X2_speakOf_b75] at hg
    obtain ⟨h_2, s_1, e_3, hg⟩ := wrA_e hg
    refine r_iast S hK hw (kX_23 hG).1 (kX_23 hG).2 h_2 e_3 dX2_speakOf_75 (fun H locs hw => ?_)
    exact r_vreti S hr hlk hw.2.2.2.2 hw hg dX2_speakOf_76
  have J55 : ∀ (v2 : Int32) (v3 : Int32) (u0 : Int32) (u1 : Int32) (σ : Sg) (H : Heap) (locs : List Loc) (ls : Array Slot) (hg : g_X2_speakOf_b55 F N ln k v2 v3 u0 u1 σ = some σR) (hw : XD G (gA G sz) s.heap σ H locs) (hl : lv_has ls 4 [(0, .ref (gAd G 16)), (1, .ref (gAd G k)), (2, .int v2), (3, .int v3)]), W p l e (headSpec wsX2_speakOf ({ frames := 0, cells := 0, slots := 0, locals := 0 } : Room)).room s m args below meth c H locs 0 0 (MQ below (QcV G (gA G sz) σR) args s 0 0 (gA G sz)) (F0 m 55 ls [.int u0, .int u1, .ref (gAd G 23)]) := by
    intro v2 v3 u0 u1 σ H locs ls hg hw hl
    rw [g_X2_speakOf_b55] at hg
    obtain ⟨h_5, s_4, e_6, hg⟩ := wrA_e hg
    refine r_iast S hK hw (kX_23 hG).1 (kX_23 hG).2 h_5 e_6 dX2_speakOf_55 (fun H locs hw => ?_)
    refine lv_aload_n hx hb dX2_speakOf_56 rfl (lv_at hl 0 rfl) ?_
    refine r_getr (C := RX2) (T := TX2) (N := 11) (k' := 23) S hK hw (kX_16 hG).1 (kX_16 hG).2 rfl hinX2 6 (by decide) (o := 7) rfl rfl (hts (.fieldLink RX2 32 "SoupByRank$Evening" "names" "[I") (by decide +kernel)) rfl dX2_speakOf_57 ?_
    refine lv_iconst (v := 5) hx hb dX2_speakOf_60 (by decide) ?_
    refine lv_iload_n hx hb dX2_speakOf_61 rfl (lv_at hl 3 rfl) ?_
    refine lv_if_eq (tgt := 74) hx hb dX2_speakOf_62 (by decide) (fun c_7 => ?_) (fun c_7 => ?_)
    · have hg := it_p hg c_7
      refine lv_iconst (v := 0) hx hb dX2_speakOf_74 (by decide) ?_
      exact J75 0 5 _ _ _ _ hg hw (lv_sub hl [] rfl)
    · have hg := it_n hg c_7
      refine lv_aload_n hx hb dX2_speakOf_65 rfl (lv_at hl 1 rfl) ?_
      refine r_getrN (C := RX1) (T := TX1) (N := 9) (host := RX6) (k' := (k + 2)) S hK hw (kC0 hG h_k).1 (kC0 hG h_k).2 rfl hinX1 6 (by decide) (o := 2) rfl rfl (by decide +kernel) rfl dX2_speakOf_66 ?_
      refine lv_iload_n hx hb dX2_speakOf_69 rfl (lv_at hl 2 rfl) ?_
      obtain ⟨h_9, x_8, e_10, hg⟩ := rdA_e hg
      refine r_iald S hK hw (kC2 hG h_k).1 (kC2 hG h_k).2 h_9 e_10 dX2_speakOf_70 ?_
      refine lv_goto (tgt := 75) hx hb dX2_speakOf_71 (by decide) ?_
      exact J75 x_8 5 _ _ _ _ hg hw (lv_sub hl [] rfl)
  have J35 : ∀ (v2 : Int32) (v3 : Int32) (u0 : Int32) (u1 : Int32) (σ : Sg) (H : Heap) (locs : List Loc) (ls : Array Slot) (hg : g_X2_speakOf_b35 F N ln k v2 v3 u0 u1 σ = some σR) (hw : XD G (gA G sz) s.heap σ H locs) (hl : lv_has ls 4 [(0, .ref (gAd G 16)), (1, .ref (gAd G k)), (2, .int v2), (3, .int v3)]), W p l e (headSpec wsX2_speakOf ({ frames := 0, cells := 0, slots := 0, locals := 0 } : Room)).room s m args below meth c H locs 0 0 (MQ below (QcV G (gA G sz) σR) args s 0 0 (gA G sz)) (F0 m 35 ls [.int u0, .int u1, .ref (gAd G 23)]) := by
    intro v2 v3 u0 u1 σ H locs ls hg hw hl
    rw [g_X2_speakOf_b35] at hg
    obtain ⟨h_12, s_11, e_13, hg⟩ := wrA_e hg
    refine r_iast S hK hw (kX_23 hG).1 (kX_23 hG).2 h_12 e_13 dX2_speakOf_35 (fun H locs hw => ?_)
    refine lv_aload_n hx hb dX2_speakOf_36 rfl (lv_at hl 0 rfl) ?_
    refine r_getr (C := RX2) (T := TX2) (N := 11) (k' := 23) S hK hw (kX_16 hG).1 (kX_16 hG).2 rfl hinX2 6 (by decide) (o := 7) rfl rfl (hts (.fieldLink RX2 32 "SoupByRank$Evening" "names" "[I") (by decide +kernel)) rfl dX2_speakOf_37 ?_
    refine lv_iconst (v := 4) hx hb dX2_speakOf_40 (by decide) ?_
    refine lv_iload_n hx hb dX2_speakOf_41 rfl (lv_at hl 3 rfl) ?_
    refine lv_if_eq (tgt := 54) hx hb dX2_speakOf_42 (by decide) (fun c_14 => ?_) (fun c_14 => ?_)
    · have hg := it_p hg c_14
      refine lv_iconst (v := 0) hx hb dX2_speakOf_54 (by decide) ?_
      exact J55 v2 v3 0 4 _ _ _ _ hg hw (lv_sub hl [0, 1, 2, 3] rfl)
    · have hg := it_n hg c_14
      refine lv_aload_n hx hb dX2_speakOf_45 rfl (lv_at hl 1 rfl) ?_
      refine r_getrN (C := RX1) (T := TX1) (N := 9) (host := RX6) (k' := (k + 4)) S hK hw (kC0 hG h_k).1 (kC0 hG h_k).2 rfl hinX1 8 (by decide) (o := 4) rfl rfl (by decide +kernel) rfl dX2_speakOf_46 ?_
      refine lv_iload_n hx hb dX2_speakOf_49 rfl (lv_at hl 2 rfl) ?_
      obtain ⟨h_16, x_15, e_17, hg⟩ := rdA_e hg
      refine r_iald S hK hw (kC4 hG h_k).1 (kC4 hG h_k).2 h_16 e_17 dX2_speakOf_50 ?_
      refine lv_goto (tgt := 55) hx hb dX2_speakOf_51 (by decide) ?_
      exact J55 v2 v3 x_15 4 _ _ _ _ hg hw (lv_sub hl [0, 1, 2, 3] rfl)
  have J15 : ∀ (v2 : Int32) (u0 : Int32) (σ : Sg) (H : Heap) (locs : List Loc) (ls : Array Slot) (hg : g_X2_speakOf_b15 F N ln k v2 u0 σ = some σR) (hw : XD G (gA G sz) s.heap σ H locs) (hl : lv_has ls 4 [(0, .ref (gAd G 16)), (1, .ref (gAd G k)), (2, .int v2)]), W p l e (headSpec wsX2_speakOf ({ frames := 0, cells := 0, slots := 0, locals := 0 } : Room)).room s m args below meth c H locs 0 0 (MQ below (QcV G (gA G sz) σR) args s 0 0 (gA G sz)) (F0 m 15 ls [.int u0]) := by
    intro v2 u0 σ H locs ls hg hw hl
    rw [g_X2_speakOf_b15] at hg
    refine lv_istore_n (lv' := [(3, .int u0), (0, .ref (gAd G 16)), (1, .ref (gAd G k)), (2, .int v2)]) hx hb dX2_speakOf_15 rfl hl (by decide) rfl (fun ls hl => ?_)
    refine lv_aload_n hx hb dX2_speakOf_16 rfl (lv_at hl 1 rfl) ?_
    refine r_getr (C := RX2) (T := TX2) (N := 11) (k' := 23) S hK hw (kX_16 hG).1 (kX_16 hG).2 rfl hinX2 6 (by decide) (o := 7) rfl rfl (hts (.fieldLink RX2 32 "SoupByRank$Evening" "names" "[I") (by decide +kernel)) rfl dX2_speakOf_17 ?_
    refine lv_iconst (v := 3) hx hb dX2_speakOf_20 (by decide) ?_
    refine lv_iload_n hx hb dX2_speakOf_21 rfl (lv_at hl 0 rfl) ?_
    refine lv_if_eq (tgt := 34) hx hb dX2_speakOf_22 (by decide) (fun c_18 => ?_) (fun c_18 => ?_)
    · have hg := it_p hg c_18
      refine lv_iconst (v := 0) hx hb dX2_speakOf_34 (by decide) ?_
      exact J35 v2 u0 0 3 _ _ _ _ hg hw (lv_sub hl [1, 2, 3, 0] rfl)
    · have hg := it_n hg c_18
      refine lv_aload_n hx hb dX2_speakOf_25 rfl (lv_at hl 2 rfl) ?_
      refine r_getrN (C := RX1) (T := TX1) (N := 9) (host := RX6) (k' := (k + 3)) S hK hw (kC0 hG h_k).1 (kC0 hG h_k).2 rfl hinX1 7 (by decide) (o := 3) rfl rfl (by decide +kernel) rfl dX2_speakOf_26 ?_
      refine lv_iload_n hx hb dX2_speakOf_29 rfl (lv_at hl 3 rfl) ?_
      obtain ⟨h_20, x_19, e_21, hg⟩ := rdA_e hg
      refine r_iald S hK hw (kC3 hG h_k).1 (kC3 hG h_k).2 h_20 e_21 dX2_speakOf_30 ?_
      refine lv_goto (tgt := 35) hx hb dX2_speakOf_31 (by decide) ?_
      exact J35 v2 u0 x_19 3 _ _ _ _ hg hw (lv_sub hl [1, 2, 3, 0] rfl)
  have J14 : ∀ (v2 : Int32) (σ : Sg) (H : Heap) (locs : List Loc) (ls : Array Slot) (hg : g_X2_speakOf_b14 F N ln k v2 σ = some σR) (hw : XD G (gA G sz) s.heap σ H locs) (hl : lv_has ls 4 [(0, .ref (gAd G 16)), (1, .ref (gAd G k)), (2, .int v2)]), W p l e (headSpec wsX2_speakOf ({ frames := 0, cells := 0, slots := 0, locals := 0 } : Room)).room s m args below meth c H locs 0 0 (MQ below (QcV G (gA G sz) σR) args s 0 0 (gA G sz)) (F0 m 14 ls []) := by
    intro v2 σ H locs ls hg hw hl
    rw [g_X2_speakOf_b14] at hg
    refine lv_iconst (v := 0) hx hb dX2_speakOf_14 (by decide) ?_
    exact J15 v2 0 _ _ _ _ hg hw (lv_sub hl [0, 1, 2] rfl)
  rw [g_X2_speakOf] at hg
  refine lv_iload_n hx hb dX2_speakOf_0 rfl (lv_at hl 2 rfl) ?_
  refine lv_if_lt (tgt := 14) hx hb dX2_speakOf_1 (by decide) (fun c_22 => ?_) (fun c_22 => ?_)
  · have hg := it_p hg c_22
    exact J14 a2 _ _ _ _ hg hw (lv_sub hl [0, 1, 2] rfl)
  · have hg := it_n hg c_22
    refine lv_iload_n hx hb dX2_speakOf_4 rfl (lv_at hl 2 rfl) ?_
    refine lv_bipush (v := 6) hx hb dX2_speakOf_5 (by decide) ?_
    refine lv_icmp_ge (tgt := 14) hx hb dX2_speakOf_7 (by decide) (fun c_23 => ?_) (fun c_23 => ?_)
    · have hg := it_p hg c_23
      exact J14 a2 _ _ _ _ hg hw (lv_sub hl [0, 1, 2] rfl)
    · have hg := it_n hg c_23
      refine lv_iconst (v := 1) hx hb dX2_speakOf_10 (by decide) ?_
      refine lv_goto (tgt := 15) hx hb dX2_speakOf_11 (by decide) ?_
      exact J15 a2 1 _ _ _ _ hg hw (lv_sub hl [0, 1, 2] rfl)
set_option maxHeartbeats 4000000 in
set_option maxRecDepth 100000 in
theorem c_X2_says (l : Launch) {G : GW} {N : Nat} {ln : Nat → Nat} {cT cS : ClassId} (hG : isX G N ln cT cS) {F sz : Nat} {t : Nat} (h_t : t < N) {a2 : Int32} {a3 : Int32} {a4 : Int32} {a5 : Int32} {σ σR : Sg} {r : Int32} (hg : g_X2_says F N ln t a2 a3 a4 a5 σ = some (σR, r)) : Met l yX2_says wsX2_says ({ frames := 2, cells := 0, slots := 0, locals := 80 } : Room) (va_Pc [.ref (gAd G 16), .ref (gAd G (tc t)), .int a2, .int a3, .int a4, .int a5] (PX G σ sz)) (QcI G (gA G sz) σR r) 0 0 (gA G sz) := by
  refine metX (by decide) rfl (Nat.le_of_ble_eq_true rfl) ?_
  intro p e s m args below meth c ls S hr hlk hsz hA hK hw hl hmn
  have S : CallFix p m c cX2_says 7 s args wsX2_says RX2 := S
  obtain ⟨hx, hb, hml, hown, hts⟩ := id S
  have hl : lv_has ls 7 [(0, .ref (gAd G 16)), (1, .ref (gAd G (tc t))), (2, .int a2), (3, .int a3), (4, .int a4), (5, .int a5)] := hl
  have hinX2 : ∀ w ∈ wsX20, w ∈ wsX2_says := by decide +kernel
  have J35 : ∀ (v2 : Int32) (u0 : Int32) (σ : Sg) (H : Heap) (locs : List Loc) (ls : Array Slot) (hg : g_X2_says_b35 F N ln t v2 u0 σ = some (σR, r)) (hw : XD G (gA G sz) s.heap σ H locs) (hl : lv_has ls 7 [(0, .ref (gAd G 16)), (1, .ref (gAd G (tc t))), (2, .int v2)]), W p l e (headSpec wsX2_says ({ frames := 2, cells := 0, slots := 0, locals := 80 } : Room)).room s m args below meth c H locs 0 0 (MQ below (QcI G (gA G sz) σR r) args s 0 0 (gA G sz)) (F0 m 35 ls [.int u0]) := by
    intro v2 u0 σ H locs ls hg hw hl
    rw [g_X2_says_b35] at hg
    refine lv_istore (lv' := [(6, .int u0), (0, .ref (gAd G 16)), (1, .ref (gAd G (tc t))), (2, .int v2)]) hx hb dX2_says_35 hl (by decide) rfl (fun ls hl => ?_)
    refine lv_iconst (v := 0) hx hb dX2_says_37 (by decide) ?_
    refine lv_iload hx hb dX2_says_38 (lv_at hl 0 rfl) ?_
    refine lv_aload_n hx hb dX2_says_40 rfl (lv_at hl 2 rfl) ?_
    refine lv_iload_n hx hb dX2_says_41 rfl (lv_at hl 3 rfl) ?_
    refine lv_aload_n hx hb dX2_says_42 rfl (lv_at hl 1 rfl) ?_
    refine r_getr (C := RX2) (T := TX2) (N := 11) (k' := 23) S hK hw (kX_16 hG).1 (kX_16 hG).2 rfl hinX2 6 (by decide) (o := 7) rfl rfl (hts (.fieldLink RX2 32 "SoupByRank$Evening" "names" "[I") (by decide +kernel)) rfl dX2_says_43 ?_
    refine lv_aload_n hx hb dX2_says_46 rfl (lv_at hl 1 rfl) ?_
    refine r_getr (C := RX2) (T := TX2) (N := 11) (k' := 24) S hK hw (kX_16 hG).1 (kX_16 hG).2 rfl hinX2 7 (by decide) (o := 8) rfl rfl (hts (.fieldLink RX2 35 "SoupByRank$Evening" "stack" "[I") (by decide +kernel)) rfl dX2_says_47 ?_
    obtain ⟨s_1, x_2, h_3, hg⟩ := bnI_e hg
    refine r_iV (As := [.int v2, .ref (gAd G 23), .ref (gAd G 24)]) (rest := [.int u0, .int 0]) S hA hK hw (c_X5_value l hG h_t h_3) (cwV 3 hts gX2_says_X5_value rfl rfl rfl (by decide +kernel) ⟨Nat.le_of_ble_eq_true rfl, Nat.le_of_ble_eq_true rfl⟩) (r_recv hK hw (kT0 hG h_t).1 (kT0 hG h_t).2 rfl) rfl hl.1 (Nat.le_of_ble_eq_true rfl) dX2_says_50 ⟨Nat.zero_le _, Nat.zero_le _⟩ rfl (fun H locs hw => ?_)
    refine va_mmin hx hb (hml.trans hl.1.symm) hown (hts (.methodLink RX2 115 Lib.Math.min.name) (by decide +kernel)) (hts (.static Lib.Math.min.name) (by decide +kernel)) (hts (.initialized "java/lang/Math") (by decide +kernel)) (hts (.code Lib.Math.min.name Lib.Math.min.code 2 (some .int)) (by decide +kernel)) (Nat.le_of_ble_eq_true rfl) (Nat.le_of_ble_eq_true rfl) (Nat.zero_le _) (Nat.zero_le _) dX2_says_53 ?_
    refine va_mmax hx hb (hml.trans hl.1.symm) hown (hts (.methodLink RX2 69 Lib.Math.max.name) (by decide +kernel)) (hts (.static Lib.Math.max.name) (by decide +kernel)) (hts (.initialized "java/lang/Math") (by decide +kernel)) (hts (.code Lib.Math.max.name Lib.Math.max.code 2 (some .int)) (by decide +kernel)) (Nat.le_of_ble_eq_true rfl) (Nat.le_of_ble_eq_true rfl) (Nat.zero_le _) (Nat.zero_le _) dX2_says_56 ?_
    exact r_ireti S hr hlk hw.2.2.2.2 hw hg dX2_says_59
  rw [g_X2_says] at hg
  refine lv_aload_n hx hb dX2_says_0 rfl (lv_at hl 0 rfl) ?_
  refine r_getr (C := RX2) (T := TX2) (N := 11) (k' := 23) S hK hw (kX_16 hG).1 (kX_16 hG).2 rfl hinX2 6 (by decide) (o := 7) rfl rfl (hts (.fieldLink RX2 32 "SoupByRank$Evening" "names" "[I") (by decide +kernel)) rfl dX2_says_1 ?_
  refine lv_iconst (v := 0) hx hb dX2_says_4 (by decide) ?_
  refine lv_iload_n hx hb dX2_says_5 rfl (lv_at hl 3 rfl) ?_
  obtain ⟨h_5, s_4, e_6, hg⟩ := wrA_e hg
  refine r_iast S hK hw (kX_23 hG).1 (kX_23 hG).2 h_5 e_6 dX2_says_6 (fun H locs hw => ?_)
  refine lv_aload_n hx hb dX2_says_7 rfl (lv_at hl 0 rfl) ?_
  refine r_getr (C := RX2) (T := TX2) (N := 11) (k' := 23) S hK hw (kX_16 hG).1 (kX_16 hG).2 rfl hinX2 6 (by decide) (o := 7) rfl rfl (hts (.fieldLink RX2 32 "SoupByRank$Evening" "names" "[I") (by decide +kernel)) rfl dX2_says_8 ?_
  refine lv_iconst (v := 1) hx hb dX2_says_11 (by decide) ?_
  refine lv_iload hx hb dX2_says_12 (lv_at hl 4 rfl) ?_
  obtain ⟨h_8, s_7, e_9, hg⟩ := wrA_e hg
  refine r_iast S hK hw (kX_23 hG).1 (kX_23 hG).2 h_8 e_9 dX2_says_14 (fun H locs hw => ?_)
  refine lv_aload_n hx hb dX2_says_15 rfl (lv_at hl 0 rfl) ?_
  refine r_getr (C := RX2) (T := TX2) (N := 11) (k' := 23) S hK hw (kX_16 hG).1 (kX_16 hG).2 rfl hinX2 6 (by decide) (o := 7) rfl rfl (hts (.fieldLink RX2 32 "SoupByRank$Evening" "names" "[I") (by decide +kernel)) rfl dX2_says_16 ?_
  refine lv_iconst (v := 2) hx hb dX2_says_19 (by decide) ?_
  refine lv_iload hx hb dX2_says_20 (lv_at hl 5 rfl) ?_
  obtain ⟨h_11, s_10, e_12, hg⟩ := wrA_e hg
  refine r_iast S hK hw (kX_23 hG).1 (kX_23 hG).2 h_11 e_12 dX2_says_22 (fun H locs hw => ?_)
  refine lv_iload_n hx hb dX2_says_23 rfl (lv_at hl 2 rfl) ?_
  refine lv_iconst (v := 1) hx hb dX2_says_24 (by decide) ?_
  refine lv_icmp_ne (tgt := 33) hx hb dX2_says_25 (by decide) (fun c_13 => ?_) (fun c_13 => ?_)
  · have hg := it_n hg c_13
    refine lv_bipush (v := 99) hx hb dX2_says_33 (by decide) ?_
    exact J35 a2 99 _ _ _ _ hg hw (lv_sub hl [0, 1, 2] rfl)
  · have hg := it_p hg c_13
    refine lv_bipush (v := 20) hx hb dX2_says_28 (by decide) ?_
    refine lv_goto (tgt := 35) hx hb dX2_says_30 (by decide) ?_
    exact J35 a2 20 _ _ _ _ hg hw (lv_sub hl [0, 1, 2] rfl)
set_option maxHeartbeats 4000000 in
set_option maxRecDepth 100000 in
theorem c_X2_begin (l : Launch) {G : GW} {N : Nat} {ln : Nat → Nat} {cT cS : ClassId} (hG : isX G N ln cT cS) {F sz : Nat} {k : Nat} {t : Nat} (h_k : isCt k) (h_t : t < N) {a3 : Int32} {a4 : Int32} {a5 : Int32} {σ σR : Sg} {r : Int32} (hg : g_X2_begin F N ln k t a3 a4 a5 σ = some (σR, r)) : Met l yX2_begin wsX2_begin ({ frames := 3, cells := 0, slots := 0, locals := 106 } : Room) (va_Pc [.ref (gAd G 16), .ref (gAd G k), .ref (gAd G (tc t)), .int a3, .int a4, .int a5] (PX G σ sz)) (QcI G (gA G sz) σR r) 0 0 (gA G sz) := by
  refine metX (by decide) rfl (Nat.le_of_ble_eq_true rfl) ?_
  intro p e s m args below meth c ls S hr hlk hsz hA hK hw hl hmn
  have S : CallFix p m c cX2_begin 8 s args wsX2_begin RX2 := S
  obtain ⟨hx, hb, hml, hown, hts⟩ := id S
  have hl : lv_has ls 8 [(0, .ref (gAd G 16)), (1, .ref (gAd G k)), (2, .ref (gAd G (tc t))), (3, .int a3), (4, .int a4), (5, .int a5)] := hl
  have hinX1 : ∀ w ∈ wsX10, w ∈ wsX2_begin := by decide +kernel
  have hinX2 : ∀ w ∈ wsX20, w ∈ wsX2_begin := by decide +kernel
  rw [g_X2_begin] at hg
  refine lv_aload_n hx hb dX2_begin_0 rfl (lv_at hl 1 rfl) ?_
  refine r_getrN (C := RX1) (T := TX1) (N := 9) (host := RX6) (k' := (k + 1)) S hK hw (kC0 hG h_k).1 (kC0 hG h_k).2 rfl hinX1 5 (by decide) (o := 1) rfl rfl (by decide +kernel) rfl dX2_begin_1 ?_
  refine lv_iload_n hx hb dX2_begin_4 rfl (lv_at hl 3 rfl) ?_
  obtain ⟨h_2, x_1, e_3, hg⟩ := rdA_e hg
  refine r_iald S hK hw (kC1 hG h_k).1 (kC1 hG h_k).2 h_2 e_3 dX2_begin_5 ?_
  refine lv_istore (lv' := [(6, .int x_1), (0, .ref (gAd G 16)), (1, .ref (gAd G k)), (2, .ref (gAd G (tc t))), (3, .int a3), (4, .int a4), (5, .int a5)]) hx hb dX2_begin_6 hl (by decide) rfl (fun ls hl => ?_)
  refine lv_aload_n hx hb dX2_begin_8 rfl (lv_at hl 2 rfl) ?_
  refine r_getrN (C := RX1) (T := TX1) (N := 9) (host := RX6) (k' := (k + 2)) S hK hw (kC0 hG h_k).1 (kC0 hG h_k).2 rfl hinX1 6 (by decide) (o := 2) rfl rfl (by decide +kernel) rfl dX2_begin_9 ?_
  refine lv_iload_n hx hb dX2_begin_12 rfl (lv_at hl 4 rfl) ?_
  obtain ⟨h_5, x_4, e_6, hg⟩ := rdA_e hg
  refine r_iald S hK hw (kC2 hG h_k).1 (kC2 hG h_k).2 h_5 e_6 dX2_begin_13 ?_
  refine lv_istore (lv' := [(7, .int x_4), (6, .int x_1), (0, .ref (gAd G 16)), (1, .ref (gAd G k)), (2, .ref (gAd G (tc t))), (3, .int a3), (4, .int a4), (5, .int a5)]) hx hb dX2_begin_14 hl (by decide) rfl (fun ls hl => ?_)
  refine lv_aload_n hx hb dX2_begin_16 rfl (lv_at hl 2 rfl) ?_
  refine lv_aload_n hx hb dX2_begin_17 rfl (lv_at hl 3 rfl) ?_
  refine lv_iload_n hx hb dX2_begin_18 rfl (lv_at hl 5 rfl) ?_
  obtain ⟨s_7, h_9, hg⟩ := bnV_e hg
  refine r_vV (As := [.ref (gAd G k), .int a3]) (rest := []) S hA hK hw (c_X2_speakOf l hG h_k h_9) (cwV 2 hts gX2_begin_X2_speakOf rfl rfl rfl (by decide +kernel) ⟨Nat.le_of_ble_eq_true rfl, Nat.le_of_ble_eq_true rfl⟩) (r_recv hK hw (kX_16 hG).1 (kX_16 hG).2 rfl) rfl hl.1 (Nat.le_of_ble_eq_true rfl) dX2_begin_19 ⟨Nat.zero_le _, Nat.zero_le _⟩ rfl (fun H locs hw => ?_)
  refine lv_aload_n hx hb dX2_begin_22 rfl (lv_at hl 2 rfl) ?_
  refine r_getr (C := RX2) (T := TX2) (N := 11) (k' := 19) S hK hw (kX_16 hG).1 (kX_16 hG).2 rfl hinX2 2 (by decide) (o := 3) rfl rfl (hts (.fieldLink RX2 18 "SoupByRank$Evening" "begins" "[I") (by decide +kernel)) rfl dX2_begin_23 ?_
  refine lv_iload_n hx hb dX2_begin_26 rfl (lv_at hl 5 rfl) ?_
  refine lv_iload hx hb dX2_begin_27 (lv_at hl 7 rfl) ?_
  obtain ⟨h_11, s_10, e_12, hg⟩ := wrA_e hg
  refine r_iast S hK hw (kX_19 hG).1 (kX_19 hG).2 h_11 e_12 dX2_begin_29 (fun H locs hw => ?_)
  refine lv_aload_n hx hb dX2_begin_30 rfl (lv_at hl 2 rfl) ?_
  refine r_getr (C := RX2) (T := TX2) (N := 11) (k' := 20) S hK hw (kX_16 hG).1 (kX_16 hG).2 rfl hinX2 3 (by decide) (o := 4) rfl rfl (hts (.fieldLink RX2 21 "SoupByRank$Evening" "gets" "[I") (by decide +kernel)) rfl dX2_begin_31 ?_
  refine lv_iload_n hx hb dX2_begin_34 rfl (lv_at hl 5 rfl) ?_
  refine lv_iload hx hb dX2_begin_35 (lv_at hl 6 rfl) ?_
  obtain ⟨h_14, s_13, e_15, hg⟩ := wrA_e hg
  refine r_iast S hK hw (kX_20 hG).1 (kX_20 hG).2 h_14 e_15 dX2_begin_37 (fun H locs hw => ?_)
  refine lv_aload_n hx hb dX2_begin_38 rfl (lv_at hl 2 rfl) ?_
  refine r_getr (C := RX2) (T := TX2) (N := 11) (k' := 21) S hK hw (kX_16 hG).1 (kX_16 hG).2 rfl hinX2 4 (by decide) (o := 5) rfl rfl (hts (.fieldLink RX2 24 "SoupByRank$Evening" "off" "[I") (by decide +kernel)) rfl dX2_begin_39 ?_
  refine lv_iload_n hx hb dX2_begin_42 rfl (lv_at hl 5 rfl) ?_
  refine lv_iload hx hb dX2_begin_43 (lv_at hl 6 rfl) ?_
  refine lv_iload hx hb dX2_begin_45 (lv_at hl 1 rfl) ?_
  refine lv_iload hx hb dX2_begin_47 (lv_at hl 0 rfl) ?_
  refine lv_aload_n hx hb dX2_begin_49 rfl (lv_at hl 2 rfl) ?_
  refine lv_aload_n hx hb dX2_begin_50 rfl (lv_at hl 4 rfl) ?_
  refine lv_iconst (v := 2) hx hb dX2_begin_51 (by decide) ?_
  refine lv_iload hx hb dX2_begin_52 (lv_at hl 6 rfl) ?_
  refine lv_iload hx hb dX2_begin_54 (lv_at hl 7 rfl) ?_
  refine lv_aload_n hx hb dX2_begin_56 rfl (lv_at hl 2 rfl) ?_
  refine r_getr (C := RX2) (T := TX2) (N := 11) (k' := 18) S hK hw (kX_16 hG).1 (kX_16 hG).2 rfl hinX2 1 (by decide) (o := 2) rfl rfl (hts (.fieldLink RX2 15 "SoupByRank$Evening" "down" "[I") (by decide +kernel)) rfl dX2_begin_57 ?_
  refine lv_iload_n hx hb dX2_begin_60 rfl (lv_at hl 5 rfl) ?_
  obtain ⟨h_17, x_16, e_18, hg⟩ := rdA_e hg
  refine r_iald S hK hw (kX_18 hG).1 (kX_18 hG).2 h_17 e_18 dX2_begin_61 ?_
  obtain ⟨s_19, x_20, h_21, hg⟩ := bnI_e hg
  refine r_iV (As := [.ref (gAd G (tc t)), .int 2, .int a4, .int a5, .int x_16]) (rest := [.int x_4, .int x_1, .int a4, .int a3, .ref (gAd G 21)]) S hA hK hw (c_X2_says l hG h_t h_21) (cwV 5 hts gX2_begin_X2_says rfl rfl rfl (by decide +kernel) ⟨Nat.le_of_ble_eq_true rfl, Nat.le_of_ble_eq_true rfl⟩) (r_recv hK hw (kX_16 hG).1 (kX_16 hG).2 rfl) rfl hl.1 (Nat.le_of_ble_eq_true rfl) dX2_begin_62 ⟨Nat.zero_le _, Nat.zero_le _⟩ rfl (fun H locs hw => ?_)
  obtain ⟨s_22, x_23, h_24, hg⟩ := bnI_e hg
  refine r_iSN (As := [.int x_1, .int x_4, .int x_20]) (rest := [.int a4, .int a3, .ref (gAd G 21)]) (host := RX6) S hA hK hw (c_X6_liking l hG  h_24) ⟨va_cnB 3 hts gX2_begin_X6_liking_n91 rfl rfl rfl (nestM_use hK (by decide +kernel)) (hts (.initialized RX6) (by decide +kernel)) (by decide +kernel) ⟨Nat.le_of_ble_eq_true rfl, Nat.le_of_ble_eq_true rfl⟩, hts (.static yX6_liking) (by decide +kernel), trivial⟩ rfl hl.1 (Nat.le_of_ble_eq_true rfl) dX2_begin_65 ⟨Nat.zero_le _, Nat.zero_le _⟩ rfl (fun H locs hw => ?_)
  refine lv_isub hx hb dX2_begin_68 ?_
  obtain ⟨h_26, s_25, e_27, hg⟩ := wrA_e hg
  refine r_iast S hK hw (kX_21 hG).1 (kX_21 hG).2 h_26 e_27 dX2_begin_69 (fun H locs hw => ?_)
  refine lv_aload_n hx hb dX2_begin_70 rfl (lv_at hl 2 rfl) ?_
  refine r_getr (C := RX2) (T := TX2) (N := 11) (k' := 22) S hK hw (kX_16 hG).1 (kX_16 hG).2 rfl hinX2 5 (by decide) (o := 6) rfl rfl (hts (.fieldLink RX2 27 "SoupByRank$Evening" "minds" "[I") (by decide +kernel)) rfl dX2_begin_71 ?_
  refine lv_iload_n hx hb dX2_begin_74 rfl (lv_at hl 5 rfl) ?_
  refine lv_iload hx hb dX2_begin_75 (lv_at hl 1 rfl) ?_
  refine lv_iload hx hb dX2_begin_77 (lv_at hl 0 rfl) ?_
  refine lv_aload_n hx hb dX2_begin_79 rfl (lv_at hl 2 rfl) ?_
  refine r_getr (C := RX2) (T := TX2) (N := 11) (k' := 21) S hK hw (kX_16 hG).1 (kX_16 hG).2 rfl hinX2 4 (by decide) (o := 5) rfl rfl (hts (.fieldLink RX2 24 "SoupByRank$Evening" "off" "[I") (by decide +kernel)) rfl dX2_begin_80 ?_
  refine lv_iload_n hx hb dX2_begin_83 rfl (lv_at hl 5 rfl) ?_
  obtain ⟨h_29, x_28, e_30, hg⟩ := rdA_e hg
  refine r_iald S hK hw (kX_21 hG).1 (kX_21 hG).2 h_29 e_30 dX2_begin_84 ?_
  obtain ⟨s_31, x_32, h_33, hg⟩ := bnI_e hg
  refine r_iSN (As := [.int x_1, .int x_4, .int x_28]) (rest := [.int a3, .ref (gAd G 22)]) (host := RX6) S hA hK hw (c_X6_minding l hG  h_33) ⟨va_cnB 3 hts gX2_begin_X6_minding_n95 rfl rfl rfl (nestM_use hK (by decide +kernel)) (hts (.initialized RX6) (by decide +kernel)) (by decide +kernel) ⟨Nat.le_of_ble_eq_true rfl, Nat.le_of_ble_eq_true rfl⟩, hts (.static yX6_minding) (by decide +kernel), trivial⟩ rfl hl.1 (Nat.le_of_ble_eq_true rfl) dX2_begin_85 ⟨Nat.zero_le _, Nat.zero_le _⟩ rfl (fun H locs hw => ?_)
  obtain ⟨h_35, s_34, e_36, hg⟩ := wrA_e hg
  refine r_iast S hK hw (kX_22 hG).1 (kX_22 hG).2 h_35 e_36 dX2_begin_88 (fun H locs hw => ?_)
  refine lv_aload_n hx hb dX2_begin_89 rfl (lv_at hl 2 rfl) ?_
  refine lv_dup hx hb dX2_begin_90 rfl ?_
  refine r_get (C := RX2) (T := TX2) (N := 11) S hK hw (kX_16 hG).1 (kX_16 hG).2 rfl hinX2 10 (by decide) rfl (hts (.fieldLink RX2 46 "SoupByRank$Evening" "together" "I") (by decide +kernel)) rfl dX2_begin_91 ?_
  refine lv_aload_n hx hb dX2_begin_94 rfl (lv_at hl 2 rfl) ?_
  refine r_getr (C := RX2) (T := TX2) (N := 11) (k' := 22) S hK hw (kX_16 hG).1 (kX_16 hG).2 rfl hinX2 5 (by decide) (o := 6) rfl rfl (hts (.fieldLink RX2 27 "SoupByRank$Evening" "minds" "[I") (by decide +kernel)) rfl dX2_begin_95 ?_
  refine lv_iload_n hx hb dX2_begin_98 rfl (lv_at hl 5 rfl) ?_
  obtain ⟨h_38, x_37, e_39, hg⟩ := rdA_e hg
  refine r_iald S hK hw (kX_22 hG).1 (kX_22 hG).2 h_38 e_39 dX2_begin_99 ?_
  refine lv_iadd hx hb dX2_begin_100 ?_
  obtain ⟨s_40, e_41, hg⟩ := wrF_e hg
  refine r_put (C := RX2) (T := TX2) (N := 11) S hK hw (kX_16 hG).1 (kX_16 hG).2 rfl hinX2 tyX2_ok nmX2 10 (by decide) rfl rfl rfl rfl (hts (.fieldLink RX2 46 "SoupByRank$Evening" "together" "I") (by decide +kernel)) rfl e_41 dX2_begin_101 (fun H locs hw => ?_)
  refine lv_aload_n hx hb dX2_begin_104 rfl (lv_at hl 2 rfl) ?_
  refine lv_dup hx hb dX2_begin_105 rfl ?_
  refine r_get (C := RX2) (T := TX2) (N := 11) S hK hw (kX_16 hG).1 (kX_16 hG).2 rfl hinX2 9 (by decide) rfl (hts (.fieldLink RX2 42 "SoupByRank$Evening" "begun" "I") (by decide +kernel)) rfl dX2_begin_106 ?_
  refine lv_iconst (v := 1) hx hb dX2_begin_109 (by decide) ?_
  refine lv_iadd hx hb dX2_begin_110 ?_
  obtain ⟨s_42, e_43, hg⟩ := wrF_e hg
  refine r_put (C := RX2) (T := TX2) (N := 11) S hK hw (kX_16 hG).1 (kX_16 hG).2 rfl hinX2 tyX2_ok nmX2 9 (by decide) rfl rfl rfl rfl (hts (.fieldLink RX2 42 "SoupByRank$Evening" "begun" "I") (by decide +kernel)) rfl e_43 dX2_begin_111 (fun H locs hw => ?_)
  refine lv_iload hx hb dX2_begin_114 (lv_at hl 1 rfl) ?_
  refine lv_iload hx hb dX2_begin_116 (lv_at hl 0 rfl) ?_
  refine lv_aload_n hx hb dX2_begin_118 rfl (lv_at hl 2 rfl) ?_
  refine lv_aload_n hx hb dX2_begin_119 rfl (lv_at hl 4 rfl) ?_
  refine lv_iconst (v := 1) hx hb dX2_begin_120 (by decide) ?_
  refine lv_iload hx hb dX2_begin_121 (lv_at hl 6 rfl) ?_
  refine lv_iload hx hb dX2_begin_123 (lv_at hl 7 rfl) ?_
  refine lv_aload_n hx hb dX2_begin_125 rfl (lv_at hl 2 rfl) ?_
  refine r_getr (C := RX2) (T := TX2) (N := 11) (k' := 18) S hK hw (kX_16 hG).1 (kX_16 hG).2 rfl hinX2 1 (by decide) (o := 2) rfl rfl (hts (.fieldLink RX2 15 "SoupByRank$Evening" "down" "[I") (by decide +kernel)) rfl dX2_begin_126 ?_
  refine lv_iload_n hx hb dX2_begin_129 rfl (lv_at hl 5 rfl) ?_
  obtain ⟨h_45, x_44, e_46, hg⟩ := rdA_e hg
  refine r_iald S hK hw (kX_18 hG).1 (kX_18 hG).2 h_45 e_46 dX2_begin_130 ?_
  obtain ⟨s_47, x_48, h_49, hg⟩ := bnI_e hg
  refine r_iV (As := [.ref (gAd G (tc t)), .int 1, .int a4, .int a5, .int x_44]) (rest := [.int x_4, .int x_1]) S hA hK hw (c_X2_says l hG h_t h_49) (cwV 5 hts gX2_begin_X2_says rfl rfl rfl (by decide +kernel) ⟨Nat.le_of_ble_eq_true rfl, Nat.le_of_ble_eq_true rfl⟩) (r_recv hK hw (kX_16 hG).1 (kX_16 hG).2 rfl) rfl hl.1 (Nat.le_of_ble_eq_true rfl) dX2_begin_131 ⟨Nat.zero_le _, Nat.zero_le _⟩ rfl (fun H locs hw => ?_)
  refine lv_iload hx hb dX2_begin_134 (lv_at hl 6 rfl) ?_
  refine lv_aload_n hx hb dX2_begin_136 rfl (lv_at hl 3 rfl) ?_
  refine r_getN (C := RX1) (T := TX1) (N := 9) (host := RX6) S hK hw (kC0 hG h_k).1 (kC0 hG h_k).2 rfl hinX1 1 (by decide) rfl (by decide +kernel) rfl dX2_begin_137 ?_
  obtain ⟨s_50, x_51, h_52, hg⟩ := bnI_e hg
  refine r_iSN (As := [.int x_1, .int x_4, .int x_48, .int a4, .int (s_47 k 1)]) (rest := []) (host := RX6) S hA hK hw (c_X6_waiting l hG  h_52) ⟨va_cnB 5 hts gX2_begin_X6_waiting_n101 rfl rfl rfl (nestM_use hK (by decide +kernel)) (hts (.initialized RX6) (by decide +kernel)) (by decide +kernel) ⟨Nat.le_of_ble_eq_true rfl, Nat.le_of_ble_eq_true rfl⟩, hts (.static yX6_waiting) (by decide +kernel), trivial⟩ rfl hl.1 (Nat.le_of_ble_eq_true rfl) dX2_begin_140 ⟨Nat.zero_le _, Nat.zero_le _⟩ rfl (fun H locs hw => ?_)
  exact r_ireti S hr hlk hw.2.2.2.2 hw hg dX2_begin_143
set_option maxHeartbeats 4000000 in
set_option maxRecDepth 100000 in
theorem c_X2_serve (l : Launch) {G : GW} {N : Nat} {ln : Nat → Nat} {cT cS : ClassId} (hG : isX G N ln cT cS) {F sz : Nat} {k : Nat} {t : Nat} (h_k : isCt k) (h_t : t < N) {σ σR : Sg} {r : Int32} (hg : g_X2_serve F N ln k t σ = some (σR, r)) : Met l yX2_serve wsX2_serve ({ frames := 4, cells := 0, slots := 0, locals := 133 } : Room) (va_Pc [.ref (gAd G 16), .ref (gAd G k), .ref (gAd G (tc t))] (PX G σ sz)) (QcI G (gA G sz) σR r) 0 0 (gA G sz) := by
  refine metX (by decide) rfl (Nat.le_of_ble_eq_true rfl) ?_
  intro p e s m args below meth c ls S hr hlk hsz hA hK hw hl hmn
  have S : CallFix p m c cX2_serve 8 s args wsX2_serve RX2 := S
  obtain ⟨hx, hb, hml, hown, hts⟩ := id S
  have hl : lv_has ls 8 [(0, .ref (gAd G 16)), (1, .ref (gAd G k)), (2, .ref (gAd G (tc t)))] := hl
  have hinX1 : ∀ w ∈ wsX10, w ∈ wsX2_serve := by decide +kernel
  have hinX2 : ∀ w ∈ wsX20, w ∈ wsX2_serve := by decide +kernel
  have L26 : ∀ (n26 : Nat) (v3 : Int32) (v4 : Int32) (v5 : Int32) (σ : Sg) (H : Heap) (locs : List Loc) (ls : Array Slot) (hg : g_X2_serve_l26 F N ln k t n26 v3 v4 v5 σ = some (σR, r)) (hw : XD G (gA G sz) s.heap σ H locs) (hl : lv_has ls 8 [(0, .ref (gAd G 16)), (1, .ref (gAd G k)), (2, .ref (gAd G (tc t))), (3, .int v3), (4, .int v4), (5, .int v5)]), W p l e (headSpec wsX2_serve ({ frames := 4, cells := 0, slots := 0, locals := 133 } : Room)).room s m args below meth c H locs 0 0 (MQ below (QcI G (gA G sz) σR r) args s 0 0 (gA G sz)) (F0 m 26 ls []) := by
    intro n26
    induction n26 with
    | zero => intro v3 v4 v5 σ H locs ls hg hw hl; exact no_e hg
    | succ n26 ih26 =>
      have J127 : ∀ (v3 : Int32) (v4 : Int32) (v5 : Int32) (σ : Sg) (H : Heap) (locs : List Loc) (ls : Array Slot) (hg : g_X2_serve_b127 F N ln k t (fun v3_ v4_ v5_ σ_ => g_X2_serve_l26 F N ln k t n26 v3_ v4_ v5_ σ_) v3 v4 v5 σ = some (σR, r)) (hw : XD G (gA G sz) s.heap σ H locs) (hl : lv_has ls 8 [(0, .ref (gAd G 16)), (1, .ref (gAd G k)), (2, .ref (gAd G (tc t))), (3, .int v3), (4, .int v4), (5, .int v5)]), W p l e (headSpec wsX2_serve ({ frames := 4, cells := 0, slots := 0, locals := 133 } : Room)).room s m args below meth c H locs 0 0 (MQ below (QcI G (gA G sz) σR r) args s 0 0 (gA G sz)) (F0 m 127 ls []) := by
        intro v3 v4 v5 σ H locs ls hg hw hl
        rw [g_X2_serve_b127] at hg
        refine lv_iinc (v := (v5 + 1)) (lv' := [(5, .int (v5 + 1)), (0, .ref (gAd G 16)), (1, .ref (gAd G k)), (2, .ref (gAd G (tc t))), (3, .int v3), (4, .int v4)]) hx hb dX2_serve_127 hl (k := 5) rfl rfl (by decide) rfl (fun ls hl => ?_)
        refine lv_goto (tgt := 26) hx hb dX2_serve_130 (by decide) ?_
        exact ih26 _ _ _ _ _ _ _ hg hw (lv_sub hl [1, 2, 3, 4, 5, 0] rfl)
      have L89 : ∀ (v5 : Int32) (v7 : Int32) (n89 : Nat) (v3 : Int32) (v4 : Int32) (σ : Sg) (H : Heap) (locs : List Loc) (ls : Array Slot) (hg : g_X2_serve_l89 F N ln k t (fun v3_ v4_ v5_ σ_ => g_X2_serve_l26 F N ln k t n26 v3_ v4_ v5_ σ_) v5 v7 n89 v3 v4 σ = some (σR, r)) (hw : XD G (gA G sz) s.heap σ H locs) (hl : lv_has ls 8 [(0, .ref (gAd G 16)), (1, .ref (gAd G k)), (2, .ref (gAd G (tc t))), (3, .int v3), (4, .int v4), (5, .int v5), (7, .int v7)]), W p l e (headSpec wsX2_serve ({ frames := 4, cells := 0, slots := 0, locals := 133 } : Room)).room s m args below meth c H locs 0 0 (MQ below (QcI G (gA G sz) σR r) args s 0 0 (gA G sz)) (F0 m 89 ls []) := by
        intro v5 v7
        intro n89
        induction n89 with
        | zero => intro v3 v4 σ H locs ls hg hw hl; exact no_e hg
        | succ n89 ih89 =>
          intro v3 v4 σ H locs ls hg hw hl
          rw [g_X2_serve_l89] at hg
          refine lv_iload hx hb dX2_serve_89 (lv_at hl 4 rfl) ?_
          refine lv_iload hx hb dX2_serve_91 (lv_at hl 6 rfl) ?_
          refine lv_icmp_ge (tgt := 127) hx hb dX2_serve_93 (by decide) (fun c_1 => ?_) (fun c_1 => ?_)
          · have hg := it_p hg c_1
            exact J127 v3 v4 v5 _ _ _ _ hg hw (lv_sub hl [0, 1, 2, 3, 4, 5] rfl)
          · have hg := it_n hg c_1
            refine lv_iload hx hb dX2_serve_96 (lv_at hl 4 rfl) ?_
            refine lv_bipush (v := 60) hx hb dX2_serve_98 (by decide) ?_
            refine lv_icmp_gt (tgt := 127) hx hb dX2_serve_100 (by decide) (fun c_2 => ?_) (fun c_2 => ?_)
            · have hg := it_p hg c_2
              exact J127 v3 v4 v5 _ _ _ _ hg hw (lv_sub hl [0, 1, 2, 3, 4, 5] rfl)
            · have hg := it_n hg c_2
              refine lv_iconst (v := 0) hx hb dX2_serve_103 (by decide) ?_
              refine lv_iload_n hx hb dX2_serve_104 rfl (lv_at hl 3 rfl) ?_
              refine lv_aload_n hx hb dX2_serve_105 rfl (lv_at hl 0 rfl) ?_
              refine lv_aload_n hx hb dX2_serve_106 rfl (lv_at hl 2 rfl) ?_
              refine lv_iconst (v := 0) hx hb dX2_serve_107 (by decide) ?_
              refine lv_iload_n hx hb dX2_serve_108 rfl (lv_at hl 3 rfl) ?_
              refine lv_iload hx hb dX2_serve_109 (lv_at hl 4 rfl) ?_
              refine lv_iload hx hb dX2_serve_111 (lv_at hl 5 rfl) ?_
              obtain ⟨s_3, x_4, h_5, hg⟩ := bnI_e hg
              refine r_iV (As := [.ref (gAd G (tc t)), .int 0, .int v3, .int v4, .int v5]) (rest := [.int v3, .int 0]) S hA hK hw (c_X2_says l hG h_t h_5) (cwV 5 hts gX2_serve_X2_says rfl rfl rfl (by decide +kernel) ⟨Nat.le_of_ble_eq_true rfl, Nat.le_of_ble_eq_true rfl⟩) (r_recv hK hw (kX_16 hG).1 (kX_16 hG).2 rfl) rfl hl.1 (Nat.le_of_ble_eq_true rfl) dX2_serve_113 ⟨Nat.zero_le _, Nat.zero_le _⟩ rfl (fun H locs hw => ?_)
              refine lv_isub hx hb dX2_serve_116 ?_
              refine va_mmax hx hb (hml.trans hl.1.symm) hown (hts (.methodLink RX2 69 Lib.Math.max.name) (by decide +kernel)) (hts (.static Lib.Math.max.name) (by decide +kernel)) (hts (.initialized "java/lang/Math") (by decide +kernel)) (hts (.code Lib.Math.max.name Lib.Math.max.code 2 (some .int)) (by decide +kernel)) (Nat.le_of_ble_eq_true rfl) (Nat.le_of_ble_eq_true rfl) (Nat.zero_le _) (Nat.zero_le _) dX2_serve_117 ?_
              refine lv_istore_n (lv' := [(3, .int (mxI 0 (v3 - x_4))), (0, .ref (gAd G 16)), (1, .ref (gAd G k)), (2, .ref (gAd G (tc t))), (4, .int v4), (5, .int v5), (7, .int v7)]) hx hb dX2_serve_120 rfl hl (by decide) rfl (fun ls hl => ?_)
              refine lv_iinc (v := (v4 + 1)) (lv' := [(4, .int (v4 + 1)), (3, .int (mxI 0 (v3 - x_4))), (0, .ref (gAd G 16)), (1, .ref (gAd G k)), (2, .ref (gAd G (tc t))), (5, .int v5), (7, .int v7)]) hx hb dX2_serve_121 hl (k := 4) rfl rfl (by decide) rfl (fun ls hl => ?_)
              refine lv_goto (tgt := 89) hx hb dX2_serve_124 (by decide) ?_
              exact ih89 _ _ _ _ _ _ hg hw (lv_sub hl [2, 3, 4, 1, 0, 5, 6] rfl)
      have J81 : ∀ (v3 : Int32) (v4 : Int32) (v5 : Int32) (u0 : Int32) (σ : Sg) (H : Heap) (locs : List Loc) (ls : Array Slot) (hg : g_X2_serve_b81 F N ln k t (fun v3_ v4_ v5_ σ_ => g_X2_serve_l26 F N ln k t n26 v3_ v4_ v5_ σ_) v3 v4 v5 u0 σ = some (σR, r)) (hw : XD G (gA G sz) s.heap σ H locs) (hl : lv_has ls 8 [(0, .ref (gAd G 16)), (1, .ref (gAd G k)), (2, .ref (gAd G (tc t))), (3, .int v3), (4, .int v4), (5, .int v5)]), W p l e (headSpec wsX2_serve ({ frames := 4, cells := 0, slots := 0, locals := 133 } : Room)).room s m args below meth c H locs 0 0 (MQ below (QcI G (gA G sz) σR r) args s 0 0 (gA G sz)) (F0 m 81 ls [.int u0]) := by
        intro v3 v4 v5 u0 σ H locs ls hg hw hl
        rw [g_X2_serve_b81] at hg
        refine lv_istore (lv' := [(7, .int u0), (0, .ref (gAd G 16)), (1, .ref (gAd G k)), (2, .ref (gAd G (tc t))), (3, .int v3), (4, .int v4), (5, .int v5)]) hx hb dX2_serve_81 hl (by decide) rfl (fun ls hl => ?_)
        refine lv_aload_n hx hb dX2_serve_83 rfl (lv_at hl 1 rfl) ?_
        refine lv_aload_n hx hb dX2_serve_84 rfl (lv_at hl 2 rfl) ?_
        refine lv_iconst (v := (-1)) hx hb dX2_serve_85 (by decide) ?_
        obtain ⟨s_6, h_8, hg⟩ := bnV_e hg
        refine r_vV (As := [.ref (gAd G k), .int (-1)]) (rest := []) S hA hK hw (c_X2_speakOf l hG h_k h_8) (cwV 2 hts gX2_serve_X2_speakOf rfl rfl rfl (by decide +kernel) ⟨Nat.le_of_ble_eq_true rfl, Nat.le_of_ble_eq_true rfl⟩) (r_recv hK hw (kX_16 hG).1 (kX_16 hG).2 rfl) rfl hl.1 (Nat.le_of_ble_eq_true rfl) dX2_serve_86 ⟨Nat.zero_le _, Nat.zero_le _⟩ rfl (fun H locs hw => ?_)
        exact L89 v5 u0 F _ _ _ _ _ _ hg hw (lv_sub hl [1, 2, 3, 4, 5, 6, 0] rfl)
      intro v3 v4 v5 σ H locs ls hg hw hl
      rw [g_X2_serve_l26] at hg
      refine lv_iload hx hb dX2_serve_26 (lv_at hl 5 rfl) ?_
      refine lv_aload_n hx hb dX2_serve_28 rfl (lv_at hl 0 rfl) ?_
      refine r_get (C := RX2) (T := TX2) (N := 11) S hK hw (kX_16 hG).1 (kX_16 hG).2 rfl hinX2 8 (by decide) rfl (hts (.fieldLink RX2 54 "SoupByRank$Evening" "there" "I") (by decide +kernel)) rfl dX2_serve_29 ?_
      refine lv_icmp_ge (tgt := 133) hx hb dX2_serve_32 (by decide) (fun c_9 => ?_) (fun c_9 => ?_)
      · have hg := it_p hg c_9
        refine lv_aload_n hx hb dX2_serve_133 rfl (lv_at hl 0 rfl) ?_
        refine r_get (C := RX2) (T := TX2) (N := 11) S hK hw (kX_16 hG).1 (kX_16 hG).2 rfl hinX2 10 (by decide) rfl (hts (.fieldLink RX2 46 "SoupByRank$Evening" "together" "I") (by decide +kernel)) rfl dX2_serve_134 ?_
        exact r_ireti S hr hlk hw.2.2.2.2 hw hg dX2_serve_137
      · have hg := it_n hg c_9
        refine lv_iload hx hb dX2_serve_35 (lv_at hl 4 rfl) ?_
        refine lv_bipush (v := 60) hx hb dX2_serve_37 (by decide) ?_
        refine lv_icmp_gt (tgt := 133) hx hb dX2_serve_39 (by decide) (fun c_10 => ?_) (fun c_10 => ?_)
        · have hg := it_p hg c_10
          refine lv_aload_n hx hb dX2_serve_133 rfl (lv_at hl 0 rfl) ?_
          refine r_get (C := RX2) (T := TX2) (N := 11) S hK hw (kX_16 hG).1 (kX_16 hG).2 rfl hinX2 10 (by decide) rfl (hts (.fieldLink RX2 46 "SoupByRank$Evening" "together" "I") (by decide +kernel)) rfl dX2_serve_134 ?_
          exact r_ireti S hr hlk hw.2.2.2.2 hw hg dX2_serve_137
        · have hg := it_n hg c_10
          refine lv_aload_n hx hb dX2_serve_42 rfl (lv_at hl 0 rfl) ?_
          refine lv_aload_n hx hb dX2_serve_43 rfl (lv_at hl 1 rfl) ?_
          refine lv_aload_n hx hb dX2_serve_44 rfl (lv_at hl 2 rfl) ?_
          refine lv_aload_n hx hb dX2_serve_45 rfl (lv_at hl 0 rfl) ?_
          refine r_getr (C := RX2) (T := TX2) (N := 11) (k' := 17) S hK hw (kX_16 hG).1 (kX_16 hG).2 rfl hinX2 0 (by decide) (o := 1) rfl rfl (hts (.fieldLink RX2 9 "SoupByRank$Evening" "line" "[I") (by decide +kernel)) rfl dX2_serve_46 ?_
          refine lv_iload hx hb dX2_serve_49 (lv_at hl 5 rfl) ?_
          obtain ⟨h_12, x_11, e_13, hg⟩ := rdA_e hg
          refine r_iald S hK hw (kX_17 hG).1 (kX_17 hG).2 h_12 e_13 dX2_serve_51 ?_
          refine lv_iload_n hx hb dX2_serve_52 rfl (lv_at hl 3 rfl) ?_
          refine lv_iload hx hb dX2_serve_53 (lv_at hl 4 rfl) ?_
          obtain ⟨s_14, x_15, h_16, hg⟩ := bnI_e hg
          refine r_iV (As := [.ref (gAd G k), .ref (gAd G (tc t)), .int x_11, .int v3, .int v4]) (rest := []) S hA hK hw (c_X2_begin l hG h_k h_t h_16) (cwV 5 hts gX2_serve_X2_begin rfl rfl rfl (by decide +kernel) ⟨Nat.le_of_ble_eq_true rfl, Nat.le_of_ble_eq_true rfl⟩) (r_recv hK hw (kX_16 hG).1 (kX_16 hG).2 rfl) rfl hl.1 (Nat.le_of_ble_eq_true rfl) dX2_serve_55 ⟨Nat.zero_le _, Nat.zero_le _⟩ rfl (fun H locs hw => ?_)
          refine lv_istore (lv' := [(6, .int x_15), (0, .ref (gAd G 16)), (1, .ref (gAd G k)), (2, .ref (gAd G (tc t))), (3, .int v3), (4, .int v4), (5, .int v5)]) hx hb dX2_serve_58 hl (by decide) rfl (fun ls hl => ?_)
          refine lv_iload hx hb dX2_serve_60 (lv_at hl 6 rfl) ?_
          refine lv_iconst (v := 1) hx hb dX2_serve_62 (by decide) ?_
          refine lv_iadd hx hb dX2_serve_63 ?_
          refine lv_aload_n hx hb dX2_serve_64 rfl (lv_at hl 1 rfl) ?_
          refine r_get (C := RX2) (T := TX2) (N := 11) S hK hw (kX_16 hG).1 (kX_16 hG).2 rfl hinX2 8 (by decide) rfl (hts (.fieldLink RX2 54 "SoupByRank$Evening" "there" "I") (by decide +kernel)) rfl dX2_serve_65 ?_
          refine lv_icmp_ge (tgt := 79) hx hb dX2_serve_68 (by decide) (fun c_17 => ?_) (fun c_17 => ?_)
          · have hg := it_p hg c_17
            refine lv_iload hx hb dX2_serve_79 (lv_at hl 5 rfl) ?_
            exact J81 v3 v4 v5 v4 _ _ _ _ hg hw (lv_sub hl [1, 2, 3, 4, 5, 6] rfl)
          · have hg := it_n hg c_17
            refine lv_iload hx hb dX2_serve_71 (lv_at hl 5 rfl) ?_
            refine lv_iload hx hb dX2_serve_73 (lv_at hl 0 rfl) ?_
            refine lv_iadd hx hb dX2_serve_75 ?_
            refine lv_goto (tgt := 81) hx hb dX2_serve_76 (by decide) ?_
            exact J81 v3 v4 v5 (v4 + x_15) _ _ _ _ hg hw (lv_sub hl [1, 2, 3, 4, 5, 6] rfl)
  rw [g_X2_serve] at hg
  refine lv_aload_n hx hb dX2_serve_0 rfl (lv_at hl 0 rfl) ?_
  refine lv_aload_n hx hb dX2_serve_1 rfl (lv_at hl 1 rfl) ?_
  obtain ⟨s_18, h_20, hg⟩ := bnV_e hg
  refine r_vV (As := [.ref (gAd G k)]) (rest := []) S hA hK hw (c_X2_lineUp l hG h_k h_20) (cwV 1 hts gX2_serve_X2_lineUp rfl rfl rfl (by decide +kernel) ⟨Nat.le_of_ble_eq_true rfl, Nat.le_of_ble_eq_true rfl⟩) (r_recv hK hw (kX_16 hG).1 (kX_16 hG).2 rfl) rfl hl.1 (Nat.le_of_ble_eq_true rfl) dX2_serve_2 ⟨Nat.zero_le _, Nat.zero_le _⟩ rfl (fun H locs hw => ?_)
  refine lv_aload_n hx hb dX2_serve_5 rfl (lv_at hl 0 rfl) ?_
  refine lv_iconst (v := 0) hx hb dX2_serve_6 (by decide) ?_
  obtain ⟨s_21, e_22, hg⟩ := wrF_e hg
  refine r_put (C := RX2) (T := TX2) (N := 11) S hK hw (kX_16 hG).1 (kX_16 hG).2 rfl hinX2 tyX2_ok nmX2 9 (by decide) rfl rfl rfl rfl (hts (.fieldLink RX2 42 "SoupByRank$Evening" "begun" "I") (by decide +kernel)) rfl e_22 dX2_serve_7 (fun H locs hw => ?_)
  refine lv_aload_n hx hb dX2_serve_10 rfl (lv_at hl 0 rfl) ?_
  refine lv_iconst (v := 0) hx hb dX2_serve_11 (by decide) ?_
  obtain ⟨s_23, e_24, hg⟩ := wrF_e hg
  refine r_put (C := RX2) (T := TX2) (N := 11) S hK hw (kX_16 hG).1 (kX_16 hG).2 rfl hinX2 tyX2_ok nmX2 10 (by decide) rfl rfl rfl rfl (hts (.fieldLink RX2 46 "SoupByRank$Evening" "together" "I") (by decide +kernel)) rfl e_24 dX2_serve_12 (fun H locs hw => ?_)
  refine lv_aload_n hx hb dX2_serve_15 rfl (lv_at hl 1 rfl) ?_
  refine r_getN (C := RX1) (T := TX1) (N := 9) (host := RX6) S hK hw (kC0 hG h_k).1 (kC0 hG h_k).2 rfl hinX1 2 (by decide) rfl (by decide +kernel) rfl dX2_serve_16 ?_
  refine lv_istore_n (lv' := [(3, .int (s_23 k 2)), (0, .ref (gAd G 16)), (1, .ref (gAd G k)), (2, .ref (gAd G (tc t)))]) hx hb dX2_serve_19 rfl hl (by decide) rfl (fun ls hl => ?_)
  refine lv_iconst (v := 0) hx hb dX2_serve_20 (by decide) ?_
  refine lv_istore (lv' := [(4, .int 0), (3, .int (s_23 k 2)), (0, .ref (gAd G 16)), (1, .ref (gAd G k)), (2, .ref (gAd G (tc t)))]) hx hb dX2_serve_21 hl (by decide) rfl (fun ls hl => ?_)
  refine lv_iconst (v := 0) hx hb dX2_serve_23 (by decide) ?_
  refine lv_istore (lv' := [(5, .int 0), (4, .int 0), (3, .int (s_23 k 2)), (0, .ref (gAd G 16)), (1, .ref (gAd G k)), (2, .ref (gAd G (tc t)))]) hx hb dX2_serve_24 hl (by decide) rfl (fun ls hl => ?_)
  exact L26 F _ _ _ _ _ _ _ hg hw (lv_sub hl [3, 4, 5, 2, 1, 0] rfl)
set_option maxHeartbeats 4000000 in
set_option maxRecDepth 100000 in
theorem c_X2_last (l : Launch) {G : GW} {N : Nat} {ln : Nat → Nat} {cT cS : ClassId} (hG : isX G N ln cT cS) {F sz : Nat} {σ σR : Sg} {r : Int32} (hg : g_X2_last F N ln σ = some (σR, r)) : Met l yX2_last wsX2_last ({ frames := 0, cells := 0, slots := 0, locals := 0 } : Room) (va_Pc [.ref (gAd G 16)] (PX G σ sz)) (QcI G (gA G sz) σR r) 0 0 (gA G sz) := by
  refine metX (by decide) rfl (Nat.le_of_ble_eq_true rfl) ?_
  intro p e s m args below meth c ls S hr hlk hsz hA hK hw hl hmn
  have S : CallFix p m c cX2_last 1 s args wsX2_last RX2 := S
  obtain ⟨hx, hb, hml, hown, hts⟩ := id S
  have hl : lv_has ls 1 [(0, .ref (gAd G 16))] := hl
  have hinX2 : ∀ w ∈ wsX20, w ∈ wsX2_last := by decide +kernel
  rw [g_X2_last] at hg
  refine lv_aload_n hx hb dX2_last_0 rfl (lv_at hl 0 rfl) ?_
  refine r_get (C := RX2) (T := TX2) (N := 11) S hK hw (kX_16 hG).1 (kX_16 hG).2 rfl hinX2 9 (by decide) rfl (hts (.fieldLink RX2 42 "SoupByRank$Evening" "begun" "I") (by decide +kernel)) rfl dX2_last_1 ?_
  refine lv_if_le (tgt := 21) hx hb dX2_last_4 (by decide) (fun c_1 => ?_) (fun c_1 => ?_)
  · have hg := it_p hg c_1
    refine lv_iconst (v := (-1)) hx hb dX2_last_21 (by decide) ?_
    exact r_ireti S hr hlk hw.2.2.2.2 hw hg dX2_last_22
  · have hg := it_n hg c_1
    refine lv_aload_n hx hb dX2_last_7 rfl (lv_at hl 0 rfl) ?_
    refine r_getr (C := RX2) (T := TX2) (N := 11) (k' := 17) S hK hw (kX_16 hG).1 (kX_16 hG).2 rfl hinX2 0 (by decide) (o := 1) rfl rfl (hts (.fieldLink RX2 9 "SoupByRank$Evening" "line" "[I") (by decide +kernel)) rfl dX2_last_8 ?_
    refine lv_aload_n hx hb dX2_last_11 rfl (lv_at hl 0 rfl) ?_
    refine r_get (C := RX2) (T := TX2) (N := 11) S hK hw (kX_16 hG).1 (kX_16 hG).2 rfl hinX2 9 (by decide) rfl (hts (.fieldLink RX2 42 "SoupByRank$Evening" "begun" "I") (by decide +kernel)) rfl dX2_last_12 ?_
    refine lv_iconst (v := 1) hx hb dX2_last_15 (by decide) ?_
    refine lv_isub hx hb dX2_last_16 ?_
    obtain ⟨h_3, x_2, e_4, hg⟩ := rdA_e hg
    refine r_iald S hK hw (kX_17 hG).1 (kX_17 hG).2 h_3 e_4 dX2_last_17 ?_
    refine lv_goto (tgt := 22) hx hb dX2_last_18 (by decide) ?_
    exact r_ireti S hr hlk hw.2.2.2.2 hw hg dX2_last_22
set_option maxHeartbeats 4000000 in
set_option maxRecDepth 100000 in
theorem c_X2_lastMinute (l : Launch) {G : GW} {N : Nat} {ln : Nat → Nat} {cT cS : ClassId} (hG : isX G N ln cT cS) {F sz : Nat} {σ σR : Sg} {r : Int32} (hg : g_X2_lastMinute F N ln σ = some (σR, r)) : Met l yX2_lastMinute wsX2_lastMinute ({ frames := 0, cells := 0, slots := 0, locals := 0 } : Room) (va_Pc [.ref (gAd G 16)] (PX G σ sz)) (QcI G (gA G sz) σR r) 0 0 (gA G sz) := by
  refine metX (by decide) rfl (Nat.le_of_ble_eq_true rfl) ?_
  intro p e s m args below meth c ls S hr hlk hsz hA hK hw hl hmn
  have S : CallFix p m c cX2_lastMinute 1 s args wsX2_lastMinute RX2 := S
  obtain ⟨hx, hb, hml, hown, hts⟩ := id S
  have hl : lv_has ls 1 [(0, .ref (gAd G 16))] := hl
  have hinX2 : ∀ w ∈ wsX20, w ∈ wsX2_lastMinute := by decide +kernel
  rw [g_X2_lastMinute] at hg
  refine lv_aload_n hx hb dX2_lastMinute_0 rfl (lv_at hl 0 rfl) ?_
  refine r_get (C := RX2) (T := TX2) (N := 11) S hK hw (kX_16 hG).1 (kX_16 hG).2 rfl hinX2 9 (by decide) rfl (hts (.fieldLink RX2 42 "SoupByRank$Evening" "begun" "I") (by decide +kernel)) rfl dX2_lastMinute_1 ?_
  refine lv_if_le (tgt := 26) hx hb dX2_lastMinute_4 (by decide) (fun c_1 => ?_) (fun c_1 => ?_)
  · have hg := it_p hg c_1
    refine lv_iconst (v := (-1)) hx hb dX2_lastMinute_26 (by decide) ?_
    exact r_ireti S hr hlk hw.2.2.2.2 hw hg dX2_lastMinute_27
  · have hg := it_n hg c_1
    refine lv_aload_n hx hb dX2_lastMinute_7 rfl (lv_at hl 0 rfl) ?_
    refine r_getr (C := RX2) (T := TX2) (N := 11) (k' := 19) S hK hw (kX_16 hG).1 (kX_16 hG).2 rfl hinX2 2 (by decide) (o := 3) rfl rfl (hts (.fieldLink RX2 18 "SoupByRank$Evening" "begins" "[I") (by decide +kernel)) rfl dX2_lastMinute_8 ?_
    refine lv_aload_n hx hb dX2_lastMinute_11 rfl (lv_at hl 0 rfl) ?_
    refine r_getr (C := RX2) (T := TX2) (N := 11) (k' := 17) S hK hw (kX_16 hG).1 (kX_16 hG).2 rfl hinX2 0 (by decide) (o := 1) rfl rfl (hts (.fieldLink RX2 9 "SoupByRank$Evening" "line" "[I") (by decide +kernel)) rfl dX2_lastMinute_12 ?_
    refine lv_aload_n hx hb dX2_lastMinute_15 rfl (lv_at hl 0 rfl) ?_
    refine r_get (C := RX2) (T := TX2) (N := 11) S hK hw (kX_16 hG).1 (kX_16 hG).2 rfl hinX2 9 (by decide) rfl (hts (.fieldLink RX2 42 "SoupByRank$Evening" "begun" "I") (by decide +kernel)) rfl dX2_lastMinute_16 ?_
    refine lv_iconst (v := 1) hx hb dX2_lastMinute_19 (by decide) ?_
    refine lv_isub hx hb dX2_lastMinute_20 ?_
    obtain ⟨h_3, x_2, e_4, hg⟩ := rdA_e hg
    refine r_iald S hK hw (kX_17 hG).1 (kX_17 hG).2 h_3 e_4 dX2_lastMinute_21 ?_
    obtain ⟨h_6, x_5, e_7, hg⟩ := rdA_e hg
    refine r_iald S hK hw (kX_19 hG).1 (kX_19 hG).2 h_6 e_7 dX2_lastMinute_22 ?_
    refine lv_goto (tgt := 27) hx hb dX2_lastMinute_23 (by decide) ?_
    exact r_ireti S hr hlk hw.2.2.2.2 hw hg dX2_lastMinute_27
set_option maxHeartbeats 4000000 in
set_option maxRecDepth 100000 in
theorem c_X2_neverBits (l : Launch) {G : GW} {N : Nat} {ln : Nat → Nat} {cT cS : ClassId} (hG : isX G N ln cT cS) {F sz : Nat} {a1 : Int32} {σ σR : Sg} {r : Int32} (hg : g_X2_neverBits F N ln a1 σ = some (σR, r)) : Met l yX2_neverBits wsX2_neverBits ({ frames := 1, cells := 0, slots := 0, locals := 21 } : Room) (va_Pc [.ref (gAd G 16), .int a1] (PX G σ sz)) (QcI G (gA G sz) σR r) 0 0 (gA G sz) := by
  refine metX (by decide) rfl (Nat.le_of_ble_eq_true rfl) ?_
  intro p e s m args below meth c ls S hr hlk hsz hA hK hw hl hmn
  have S : CallFix p m c cX2_neverBits 4 s args wsX2_neverBits RX2 := S
  obtain ⟨hx, hb, hml, hown, hts⟩ := id S
  have hl : lv_has ls 4 [(0, .ref (gAd G 16)), (1, .int a1)] := hl
  have L4 : ∀ (v1 : Int32) (n4 : Nat) (v2 : Int32) (v3 : Int32) (σ : Sg) (H : Heap) (locs : List Loc) (ls : Array Slot) (hg : g_X2_neverBits_l4 F N ln v1 n4 v2 v3 σ = some (σR, r)) (hw : XD G (gA G sz) s.heap σ H locs) (hl : lv_has ls 4 [(0, .ref (gAd G 16)), (1, .int v1), (2, .int v2), (3, .int v3)]), W p l e (headSpec wsX2_neverBits ({ frames := 1, cells := 0, slots := 0, locals := 21 } : Room)).room s m args below meth c H locs 0 0 (MQ below (QcI G (gA G sz) σR r) args s 0 0 (gA G sz)) (F0 m 4 ls []) := by
    intro v1
    intro n4
    induction n4 with
    | zero => intro v2 v3 σ H locs ls hg hw hl; exact no_e hg
    | succ n4 ih4 =>
      have J25 : ∀ (v3 : Int32) (u0 : Int32) (u1 : Int32) (σ : Sg) (H : Heap) (locs : List Loc) (ls : Array Slot) (hg : g_X2_neverBits_b25 F N ln (fun v2_ v3_ σ_ => g_X2_neverBits_l4 F N ln v1 n4 v2_ v3_ σ_) v1 v3 u0 u1 σ = some (σR, r)) (hw : XD G (gA G sz) s.heap σ H locs) (hl : lv_has ls 4 [(0, .ref (gAd G 16)), (1, .int v1), (3, .int v3)]), W p l e (headSpec wsX2_neverBits ({ frames := 1, cells := 0, slots := 0, locals := 21 } : Room)).room s m args below meth c H locs 0 0 (MQ below (QcI G (gA G sz) σR r) args s 0 0 (gA G sz)) (F0 m 25 ls [.int u0, .int u1]) := by
        intro v3 u0 u1 σ H locs ls hg hw hl
        rw [g_X2_neverBits_b25] at hg
        refine lv_ior hx hb dX2_neverBits_25 ?_
        refine lv_istore_n (lv' := [(2, .int (u1 ||| u0)), (0, .ref (gAd G 16)), (1, .int v1), (3, .int v3)]) hx hb dX2_neverBits_26 rfl hl (by decide) rfl (fun ls hl => ?_)
        refine lv_iinc (v := (v3 + 1)) (lv' := [(3, .int (v3 + 1)), (2, .int (u1 ||| u0)), (0, .ref (gAd G 16)), (1, .int v1)]) hx hb dX2_neverBits_27 hl (k := 3) rfl rfl (by decide) rfl (fun ls hl => ?_)
        refine lv_goto (tgt := 4) hx hb dX2_neverBits_30 (by decide) ?_
        exact ih4 _ _ _ _ _ _ hg hw (lv_sub hl [2, 3, 1, 0] rfl)
      intro v2 v3 σ H locs ls hg hw hl
      rw [g_X2_neverBits_l4] at hg
      refine lv_iload_n hx hb dX2_neverBits_4 rfl (lv_at hl 3 rfl) ?_
      refine lv_iload_n hx hb dX2_neverBits_5 rfl (lv_at hl 1 rfl) ?_
      refine lv_icmp_ge (tgt := 33) hx hb dX2_neverBits_6 (by decide) (fun c_1 => ?_) (fun c_1 => ?_)
      · have hg := it_p hg c_1
        refine lv_iload_n hx hb dX2_neverBits_33 rfl (lv_at hl 2 rfl) ?_
        exact r_ireti S hr hlk hw.2.2.2.2 hw hg dX2_neverBits_34
      · have hg := it_n hg c_1
        refine lv_iload_n hx hb dX2_neverBits_9 rfl (lv_at hl 2 rfl) ?_
        refine lv_aload_n hx hb dX2_neverBits_10 rfl (lv_at hl 0 rfl) ?_
        refine lv_iload_n hx hb dX2_neverBits_11 rfl (lv_at hl 3 rfl) ?_
        obtain ⟨s_2, x_3, h_4, hg⟩ := bnI_e hg
        refine r_iV (As := [.int v3]) (rest := [.int v2]) S hA hK hw (c_X2_hasBegun l hG  h_4) (cwV 1 hts gX2_neverBits_X2_hasBegun rfl rfl rfl (by decide +kernel) ⟨Nat.le_of_ble_eq_true rfl, Nat.le_of_ble_eq_true rfl⟩) (r_recv hK hw (kX_16 hG).1 (kX_16 hG).2 rfl) rfl hl.1 (Nat.le_of_ble_eq_true rfl) dX2_neverBits_12 ⟨Nat.zero_le _, Nat.zero_le _⟩ rfl (fun H locs hw => ?_)
        refine lv_if_eq (tgt := 22) hx hb dX2_neverBits_15 (by decide) (fun c_5 => ?_) (fun c_5 => ?_)
        · have hg := it_p hg c_5
          refine lv_iconst (v := 1) hx hb dX2_neverBits_22 (by decide) ?_
          refine lv_iload_n hx hb dX2_neverBits_23 rfl (lv_at hl 3 rfl) ?_
          refine lv_ishl hx hb dX2_neverBits_24 ?_
          exact J25 v3 ((1 : Int32) <<< (v3 &&& 31)) v2 _ _ _ _ hg hw (lv_sub hl [0, 1, 3] rfl)
        · have hg := it_n hg c_5
          refine lv_iconst (v := 0) hx hb dX2_neverBits_18 (by decide) ?_
          refine lv_goto (tgt := 25) hx hb dX2_neverBits_19 (by decide) ?_
          exact J25 v3 0 v2 _ _ _ _ hg hw (lv_sub hl [0, 1, 3] rfl)
  rw [g_X2_neverBits] at hg
  refine lv_iconst (v := 0) hx hb dX2_neverBits_0 (by decide) ?_
  refine lv_istore_n (lv' := [(2, .int 0), (0, .ref (gAd G 16)), (1, .int a1)]) hx hb dX2_neverBits_1 rfl hl (by decide) rfl (fun ls hl => ?_)
  refine lv_iconst (v := 0) hx hb dX2_neverBits_2 (by decide) ?_
  refine lv_istore_n (lv' := [(3, .int 0), (2, .int 0), (0, .ref (gAd G 16)), (1, .int a1)]) hx hb dX2_neverBits_3 rfl hl (by decide) rfl (fun ls hl => ?_)
  exact L4 a1 F _ _ _ _ _ _ hg hw (lv_sub hl [2, 3, 1, 0] rfl)
set_option maxHeartbeats 4000000 in
set_option maxRecDepth 100000 in
theorem c_X2_mindsMost (l : Launch) {G : GW} {N : Nat} {ln : Nat → Nat} {cT cS : ClassId} (hG : isX G N ln cT cS) {F sz : Nat} {a1 : Int32} {σ σR : Sg} {r : Int32} (hg : g_X2_mindsMost F N ln a1 σ = some (σR, r)) : Met l yX2_mindsMost wsX2_mindsMost ({ frames := 1, cells := 0, slots := 0, locals := 21 } : Room) (va_Pc [.ref (gAd G 16), .int a1] (PX G σ sz)) (QcI G (gA G sz) σR r) 0 0 (gA G sz) := by
  refine metX (by decide) rfl (Nat.le_of_ble_eq_true rfl) ?_
  intro p e s m args below meth c ls S hr hlk hsz hA hK hw hl hmn
  have S : CallFix p m c cX2_mindsMost 4 s args wsX2_mindsMost RX2 := S
  obtain ⟨hx, hb, hml, hown, hts⟩ := id S
  have hl : lv_has ls 4 [(0, .ref (gAd G 16)), (1, .int a1)] := hl
  have hinX2 : ∀ w ∈ wsX20, w ∈ wsX2_mindsMost := by decide +kernel
  have L4 : ∀ (v1 : Int32) (n4 : Nat) (v2 : Int32) (v3 : Int32) (σ : Sg) (H : Heap) (locs : List Loc) (ls : Array Slot) (hg : g_X2_mindsMost_l4 F N ln v1 n4 v2 v3 σ = some (σR, r)) (hw : XD G (gA G sz) s.heap σ H locs) (hl : lv_has ls 4 [(0, .ref (gAd G 16)), (1, .int v1), (2, .int v2), (3, .int v3)]), W p l e (headSpec wsX2_mindsMost ({ frames := 1, cells := 0, slots := 0, locals := 21 } : Room)).room s m args below meth c H locs 0 0 (MQ below (QcI G (gA G sz) σR r) args s 0 0 (gA G sz)) (F0 m 4 ls []) := by
    intro v1
    intro n4
    induction n4 with
    | zero => intro v2 v3 σ H locs ls hg hw hl; exact no_e hg
    | succ n4 ih4 =>
      have J39 : ∀ (v2 : Int32) (v3 : Int32) (σ : Sg) (H : Heap) (locs : List Loc) (ls : Array Slot) (hg : g_X2_mindsMost_b39 F N ln (fun v2_ v3_ σ_ => g_X2_mindsMost_l4 F N ln v1 n4 v2_ v3_ σ_) v1 v2 v3 σ = some (σR, r)) (hw : XD G (gA G sz) s.heap σ H locs) (hl : lv_has ls 4 [(0, .ref (gAd G 16)), (1, .int v1), (2, .int v2), (3, .int v3)]), W p l e (headSpec wsX2_mindsMost ({ frames := 1, cells := 0, slots := 0, locals := 21 } : Room)).room s m args below meth c H locs 0 0 (MQ below (QcI G (gA G sz) σR r) args s 0 0 (gA G sz)) (F0 m 39 ls []) := by
        intro v2 v3 σ H locs ls hg hw hl
        rw [g_X2_mindsMost_b39] at hg
        refine lv_iinc (v := (v3 + 1)) (lv' := [(3, .int (v3 + 1)), (0, .ref (gAd G 16)), (1, .int v1), (2, .int v2)]) hx hb dX2_mindsMost_39 hl (k := 3) rfl rfl (by decide) rfl (fun ls hl => ?_)
        refine lv_goto (tgt := 4) hx hb dX2_mindsMost_42 (by decide) ?_
        exact ih4 _ _ _ _ _ _ hg hw (lv_sub hl [1, 2, 3, 0] rfl)
      have J37 : ∀ (v3 : Int32) (σ : Sg) (H : Heap) (locs : List Loc) (ls : Array Slot) (hg : g_X2_mindsMost_b37 F N ln (fun v2_ v3_ σ_ => g_X2_mindsMost_l4 F N ln v1 n4 v2_ v3_ σ_) v1 v3 σ = some (σR, r)) (hw : XD G (gA G sz) s.heap σ H locs) (hl : lv_has ls 4 [(0, .ref (gAd G 16)), (1, .int v1), (3, .int v3)]), W p l e (headSpec wsX2_mindsMost ({ frames := 1, cells := 0, slots := 0, locals := 21 } : Room)).room s m args below meth c H locs 0 0 (MQ below (QcI G (gA G sz) σR r) args s 0 0 (gA G sz)) (F0 m 37 ls []) := by
        intro v3 σ H locs ls hg hw hl
        rw [g_X2_mindsMost_b37] at hg
        refine lv_iload_n hx hb dX2_mindsMost_37 rfl (lv_at hl 2 rfl) ?_
        refine lv_istore_n (lv' := [(2, .int v3), (0, .ref (gAd G 16)), (1, .int v1), (3, .int v3)]) hx hb dX2_mindsMost_38 rfl hl (by decide) rfl (fun ls hl => ?_)
        exact J39 v3 v3 _ _ _ _ hg hw (lv_sub hl [1, 2, 0, 3] rfl)
      intro v2 v3 σ H locs ls hg hw hl
      rw [g_X2_mindsMost_l4] at hg
      refine lv_iload_n hx hb dX2_mindsMost_4 rfl (lv_at hl 3 rfl) ?_
      refine lv_iload_n hx hb dX2_mindsMost_5 rfl (lv_at hl 1 rfl) ?_
      refine lv_icmp_ge (tgt := 45) hx hb dX2_mindsMost_6 (by decide) (fun c_1 => ?_) (fun c_1 => ?_)
      · have hg := it_p hg c_1
        refine lv_iload_n hx hb dX2_mindsMost_45 rfl (lv_at hl 2 rfl) ?_
        exact r_ireti S hr hlk hw.2.2.2.2 hw hg dX2_mindsMost_46
      · have hg := it_n hg c_1
        refine lv_aload_n hx hb dX2_mindsMost_9 rfl (lv_at hl 0 rfl) ?_
        refine lv_iload_n hx hb dX2_mindsMost_10 rfl (lv_at hl 3 rfl) ?_
        obtain ⟨s_2, x_3, h_4, hg⟩ := bnI_e hg
        refine r_iV (As := [.int v3]) (rest := []) S hA hK hw (c_X2_hasBegun l hG  h_4) (cwV 1 hts gX2_mindsMost_X2_hasBegun rfl rfl rfl (by decide +kernel) ⟨Nat.le_of_ble_eq_true rfl, Nat.le_of_ble_eq_true rfl⟩) (r_recv hK hw (kX_16 hG).1 (kX_16 hG).2 rfl) rfl hl.1 (Nat.le_of_ble_eq_true rfl) dX2_mindsMost_11 ⟨Nat.zero_le _, Nat.zero_le _⟩ rfl (fun H locs hw => ?_)
        refine lv_if_eq (tgt := 39) hx hb dX2_mindsMost_14 (by decide) (fun c_5 => ?_) (fun c_5 => ?_)
        · have hg := it_p hg c_5
          exact J39 v2 v3 _ _ _ _ hg hw (lv_sub hl [0, 1, 2, 3] rfl)
        · have hg := it_n hg c_5
          refine lv_iload_n hx hb dX2_mindsMost_17 rfl (lv_at hl 2 rfl) ?_
          refine lv_iconst (v := (-1)) hx hb dX2_mindsMost_18 (by decide) ?_
          refine lv_icmp_eq (tgt := 37) hx hb dX2_mindsMost_19 (by decide) (fun c_6 => ?_) (fun c_6 => ?_)
          · have hg := it_p hg c_6
            exact J37 v3 _ _ _ _ hg hw (lv_sub hl [0, 1, 3] rfl)
          · have hg := it_n hg c_6
            refine lv_aload_n hx hb dX2_mindsMost_22 rfl (lv_at hl 0 rfl) ?_
            refine r_getr (C := RX2) (T := TX2) (N := 11) (k' := 22) S hK hw (kX_16 hG).1 (kX_16 hG).2 rfl hinX2 5 (by decide) (o := 6) rfl rfl (hts (.fieldLink RX2 27 "SoupByRank$Evening" "minds" "[I") (by decide +kernel)) rfl dX2_mindsMost_23 ?_
            refine lv_iload_n hx hb dX2_mindsMost_26 rfl (lv_at hl 3 rfl) ?_
            obtain ⟨h_8, x_7, e_9, hg⟩ := rdA_e hg
            refine r_iald S hK hw (kX_22 hG).1 (kX_22 hG).2 h_8 e_9 dX2_mindsMost_27 ?_
            refine lv_aload_n hx hb dX2_mindsMost_28 rfl (lv_at hl 0 rfl) ?_
            refine r_getr (C := RX2) (T := TX2) (N := 11) (k' := 22) S hK hw (kX_16 hG).1 (kX_16 hG).2 rfl hinX2 5 (by decide) (o := 6) rfl rfl (hts (.fieldLink RX2 27 "SoupByRank$Evening" "minds" "[I") (by decide +kernel)) rfl dX2_mindsMost_29 ?_
            refine lv_iload_n hx hb dX2_mindsMost_32 rfl (lv_at hl 2 rfl) ?_
            obtain ⟨h_11, x_10, e_12, hg⟩ := rdA_e hg
            refine r_iald S hK hw (kX_22 hG).1 (kX_22 hG).2 h_11 e_12 dX2_mindsMost_33 ?_
            refine lv_icmp_le (tgt := 39) hx hb dX2_mindsMost_34 (by decide) (fun c_13 => ?_) (fun c_13 => ?_)
            · have hg := it_p hg c_13
              exact J39 v2 v3 _ _ _ _ hg hw (lv_sub hl [0, 1, 2, 3] rfl)
            · have hg := it_n hg c_13
              exact J37 v3 _ _ _ _ hg hw (lv_sub hl [0, 1, 3] rfl)
  rw [g_X2_mindsMost] at hg
  refine lv_iconst (v := (-1)) hx hb dX2_mindsMost_0 (by decide) ?_
  refine lv_istore_n (lv' := [(2, .int (-1)), (0, .ref (gAd G 16)), (1, .int a1)]) hx hb dX2_mindsMost_1 rfl hl (by decide) rfl (fun ls hl => ?_)
  refine lv_iconst (v := 0) hx hb dX2_mindsMost_2 (by decide) ?_
  refine lv_istore_n (lv' := [(3, .int 0), (2, .int (-1)), (0, .ref (gAd G 16)), (1, .int a1)]) hx hb dX2_mindsMost_3 rfl hl (by decide) rfl (fun ls hl => ?_)
  exact L4 a1 F _ _ _ _ _ _ hg hw (lv_sub hl [2, 3, 1, 0] rfl)
