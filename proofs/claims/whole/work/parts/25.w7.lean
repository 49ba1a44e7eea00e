set_option maxHeartbeats 4000000 in
set_option maxRecDepth 100000 in
theorem c_X7_in (l : Launch) {G : GW} (hG : isM G) {F sz : Nat} {a0 : Int32} {a1 : Int32} {a2 : Int32} {σ σR : Sg} {r : Int32} (hg : g_X7_in F a0 a1 a2 σ = some (σR, r)) : Met l yX7_in wsX7_in ({ frames := 0, cells := 0, slots := 0, locals := 0 } : Room) (va_Pc [.int a0, .int a1, .int a2] (PX G σ sz)) (QcI G (gA G sz) σR r) 0 0 (gA G sz) := by
  refine metX (by decide) rfl (Nat.le_of_ble_eq_true rfl) ?_
  intro p e s m args below meth c ls S hr hlk hsz hA hK hw hl hmn
  have S : CallFix p m c cX7_in 3 s args wsX7_in RX7 := S
  obtain ⟨hx, hb, hml, hown, hts⟩ := id S
  have hl : lv_has ls 3 [(0, .int a0), (1, .int a1), (2, .int a2)] := hl
  rw [g_X7_in] at hg
  refine lv_iload_n hx hb dX7_in_0 rfl (lv_at hl 0 rfl) ?_
  refine lv_iload_n hx hb dX7_in_1 rfl (lv_at hl 1 rfl) ?_
  refine lv_icmp_lt (tgt := 14) hx hb dX7_in_2 (by decide) (fun c_1 => ?_) (fun c_1 => ?_)
  · have hg := it_p hg c_1
    refine lv_iconst (v := 0) hx hb dX7_in_14 (by decide) ?_
    exact r_iretz S hr rfl hlk hw.2.2.2.2 hw hg dX7_in_15
  · have hg := it_n hg c_1
    refine lv_iload_n hx hb dX7_in_5 rfl (lv_at hl 0 rfl) ?_
    refine lv_iload_n hx hb dX7_in_6 rfl (lv_at hl 2 rfl) ?_
    refine lv_icmp_gt (tgt := 14) hx hb dX7_in_7 (by decide) (fun c_2 => ?_) (fun c_2 => ?_)
    · have hg := it_p hg c_2
      refine lv_iconst (v := 0) hx hb dX7_in_14 (by decide) ?_
      exact r_iretz S hr rfl hlk hw.2.2.2.2 hw hg dX7_in_15
    · have hg := it_n hg c_2
      refine lv_iconst (v := 1) hx hb dX7_in_10 (by decide) ?_
      refine lv_goto (tgt := 15) hx hb dX7_in_11 (by decide) ?_
      exact r_iretz S hr rfl hlk hw.2.2.2.2 hw hg dX7_in_15
set_option maxHeartbeats 4000000 in
set_option maxRecDepth 100000 in
theorem c_X7_wordFrom (l : Launch) {G : GW} (hG : isM G) {F sz : Nat} {a1 : Int32} {a2 : Int32} {σ σR : Sg} {r : Int32} (hg : g_X7_wordFrom F a1 a2 σ = some (σR, r)) : Met l yX7_wordFrom wsX7_wordFrom ({ frames := 0, cells := 0, slots := 0, locals := 0 } : Room) (va_Pc [.ref (gAd G 0), .int a1, .int a2] (PX G σ sz)) (QcI G (gA G sz) σR r) 0 0 (gA G sz) := by
  refine metX (by decide) rfl (Nat.le_of_ble_eq_true rfl) ?_
  intro p e s m args below meth c ls S hr hlk hsz hA hK hw hl hmn
  have S : CallFix p m c cX7_wordFrom 6 s args wsX7_wordFrom RX7 := S
  obtain ⟨hx, hb, hml, hown, hts⟩ := id S
  have hl : lv_has ls 6 [(0, .ref (gAd G 0)), (1, .int a1), (2, .int a2)] := hl
  have hinX7 : ∀ w ∈ wsX70, w ∈ wsX7_wordFrom := by decide +kernel
  have L2 : ∀ (v1 : Int32) (v2 : Int32) (n2 : Nat) (v3 : Int32) (σ : Sg) (H : Heap) (locs : List Loc) (ls : Array Slot) (hg : g_X7_wordFrom_l2 F v1 v2 n2 v3 σ = some (σR, r)) (hw : XD G (gA G sz) s.heap σ H locs) (hl : lv_has ls 6 [(0, .ref (gAd G 0)), (1, .int v1), (2, .int v2), (3, .int v3)]), W p l e (headSpec wsX7_wordFrom ({ frames := 0, cells := 0, slots := 0, locals := 0 } : Room)).room s m args below meth c H locs 0 0 (MQ below (QcI G (gA G sz) σR r) args s 0 0 (gA G sz)) (F0 m 2 ls []) := by
    intro v1 v2
    intro n2
    induction n2 with
    | zero => intro v3 σ H locs ls hg hw hl; exact no_e hg
    | succ n2 ih2 =>
      have J88 : ∀ (v3 : Int32) (v4 : Int32) (σ : Sg) (H : Heap) (locs : List Loc) (ls : Array Slot) (hg : g_X7_wordFrom_b88 F (fun v3_ σ_ => g_X7_wordFrom_l2 F v1 v2 n2 v3_ σ_) v1 v2 v3 v4 σ = some (σR, r)) (hw : XD G (gA G sz) s.heap σ H locs) (hl : lv_has ls 6 [(0, .ref (gAd G 0)), (1, .int v1), (2, .int v2), (3, .int v3), (4, .int v4)]), W p l e (headSpec wsX7_wordFrom ({ frames := 0, cells := 0, slots := 0, locals := 0 } : Room)).room s m args below meth c H locs 0 0 (MQ below (QcI G (gA G sz) σR r) args s 0 0 (gA G sz)) (F0 m 88 ls []) := by
        intro v3 v4 σ H locs ls hg hw hl
        rw [g_X7_wordFrom_b88] at hg
        refine lv_iload hx hb dX7_wordFrom_88 (lv_at hl 4 rfl) ?_
        refine lv_if_eq (tgt := 95) hx hb dX7_wordFrom_90 (by decide) (fun c_1 => ?_) (fun c_1 => ?_)
        · have hg := it_p hg c_1
          refine lv_iinc (v := (v3 + 1)) (lv' := [(3, .int (v3 + 1)), (0, .ref (gAd G 0)), (1, .int v1), (2, .int v2), (4, .int v4)]) hx hb dX7_wordFrom_95 hl (k := 3) rfl rfl (by decide) rfl (fun ls hl => ?_)
          refine lv_goto (tgt := 2) hx hb dX7_wordFrom_98 (by decide) ?_
          exact ih2 _ _ _ _ _ hg hw (lv_sub hl [1, 2, 3, 0] rfl)
        · have hg := it_n hg c_1
          refine lv_iload_n hx hb dX7_wordFrom_93 rfl (lv_at hl 3 rfl) ?_
          exact r_ireti S hr hlk hw.2.2.2.2 hw hg dX7_wordFrom_94
      have L26 : ∀ (v3 : Int32) (n26 : Nat) (v4 : Int32) (v5 : Int32) (σ : Sg) (H : Heap) (locs : List Loc) (ls : Array Slot) (hg : g_X7_wordFrom_l26 F (fun v3_ σ_ => g_X7_wordFrom_l2 F v1 v2 n2 v3_ σ_) v1 v2 v3 n26 v4 v5 σ = some (σR, r)) (hw : XD G (gA G sz) s.heap σ H locs) (hl : lv_has ls 6 [(0, .ref (gAd G 0)), (1, .int v1), (2, .int v2), (3, .int v3), (4, .int v4), (5, .int v5)]), W p l e (headSpec wsX7_wordFrom ({ frames := 0, cells := 0, slots := 0, locals := 0 } : Room)).room s m args below meth c H locs 0 0 (MQ below (QcI G (gA G sz) σR r) args s 0 0 (gA G sz)) (F0 m 26 ls []) := by
        intro v3
        intro n26
        induction n26 with
        | zero => intro v4 v5 σ H locs ls hg hw hl; exact no_e hg
        | succ n26 ih26 =>
          have J80 : ∀ (v5 : Int32) (u0 : Int32) (σ : Sg) (H : Heap) (locs : List Loc) (ls : Array Slot) (hg : g_X7_wordFrom_b80 F (fun v3_ σ_ => g_X7_wordFrom_l2 F v1 v2 n2 v3_ σ_) (fun v4_ v5_ σ_ => g_X7_wordFrom_l26 F (fun v3_ σ_ => g_X7_wordFrom_l2 F v1 v2 n2 v3_ σ_) v1 v2 v3 n26 v4_ v5_ σ_) v1 v2 v3 v5 u0 σ = some (σR, r)) (hw : XD G (gA G sz) s.heap σ H locs) (hl : lv_has ls 6 [(0, .ref (gAd G 0)), (1, .int v1), (2, .int v2), (3, .int v3), (5, .int v5)]), W p l e (headSpec wsX7_wordFrom ({ frames := 0, cells := 0, slots := 0, locals := 0 } : Room)).room s m args below meth c H locs 0 0 (MQ below (QcI G (gA G sz) σR r) args s 0 0 (gA G sz)) (F0 m 80 ls [.int u0]) := by
            intro v5 u0 σ H locs ls hg hw hl
            rw [g_X7_wordFrom_b80] at hg
            refine lv_istore (lv' := [(4, .int u0), (0, .ref (gAd G 0)), (1, .int v1), (2, .int v2), (3, .int v3), (5, .int v5)]) hx hb dX7_wordFrom_80 hl (by decide) rfl (fun ls hl => ?_)
            refine lv_iinc (v := (v5 + 1)) (lv' := [(5, .int (v5 + 1)), (4, .int u0), (0, .ref (gAd G 0)), (1, .int v1), (2, .int v2), (3, .int v3)]) hx hb dX7_wordFrom_82 hl (k := 5) rfl rfl (by decide) rfl (fun ls hl => ?_)
            refine lv_goto (tgt := 26) hx hb dX7_wordFrom_85 (by decide) ?_
            exact ih26 _ _ _ _ _ _ hg hw (lv_sub hl [2, 3, 4, 5, 1, 0] rfl)
          have J72 : ∀ (v5 : Int32) (u0 : Int32) (u1 : Int32) (σ : Sg) (H : Heap) (locs : List Loc) (ls : Array Slot) (hg : g_X7_wordFrom_b72 F (fun v3_ σ_ => g_X7_wordFrom_l2 F v1 v2 n2 v3_ σ_) (fun v4_ v5_ σ_ => g_X7_wordFrom_l26 F (fun v3_ σ_ => g_X7_wordFrom_l2 F v1 v2 n2 v3_ σ_) v1 v2 v3 n26 v4_ v5_ σ_) v1 v2 v3 v5 u0 u1 σ = some (σR, r)) (hw : XD G (gA G sz) s.heap σ H locs) (hl : lv_has ls 6 [(0, .ref (gAd G 0)), (1, .int v1), (2, .int v2), (3, .int v3), (5, .int v5)]), W p l e (headSpec wsX7_wordFrom ({ frames := 0, cells := 0, slots := 0, locals := 0 } : Room)).room s m args below meth c H locs 0 0 (MQ below (QcI G (gA G sz) σR r) args s 0 0 (gA G sz)) (F0 m 72 ls [.int u0, .int u1]) := by
            intro v5 u0 u1 σ H locs ls hg hw hl
            rw [g_X7_wordFrom_b72] at hg
            refine lv_icmp_ne (tgt := 79) hx hb dX7_wordFrom_72 (by decide) (fun c_2 => ?_) (fun c_2 => ?_)
            · have hg := it_n hg c_2
              refine lv_iconst (v := 0) hx hb dX7_wordFrom_79 (by decide) ?_
              exact J80 v5 0 _ _ _ _ hg hw (lv_sub hl [0, 1, 2, 3, 4] rfl)
            · have hg := it_p hg c_2
              refine lv_iconst (v := 1) hx hb dX7_wordFrom_75 (by decide) ?_
              refine lv_goto (tgt := 80) hx hb dX7_wordFrom_76 (by decide) ?_
              exact J80 v5 1 _ _ _ _ hg hw (lv_sub hl [0, 1, 2, 3, 4] rfl)
          intro v4 v5 σ H locs ls hg hw hl
          rw [g_X7_wordFrom_l26] at hg
          refine lv_iload hx hb dX7_wordFrom_26 (lv_at hl 5 rfl) ?_
          refine lv_bipush (v := 8) hx hb dX7_wordFrom_28 (by decide) ?_
          refine lv_icmp_ge (tgt := 88) hx hb dX7_wordFrom_30 (by decide) (fun c_3 => ?_) (fun c_3 => ?_)
          · have hg := it_p hg c_3
            exact J88 v3 v4 _ _ _ _ hg hw (lv_sub hl [0, 1, 2, 3, 4] rfl)
          · have hg := it_n hg c_3
            refine lv_iload hx hb dX7_wordFrom_33 (lv_at hl 4 rfl) ?_
            refine lv_if_eq (tgt := 88) hx hb dX7_wordFrom_35 (by decide) (fun c_4 => ?_) (fun c_4 => ?_)
            · have hg := it_p hg c_4
              exact J88 v3 v4 _ _ _ _ hg hw (lv_sub hl [0, 1, 2, 3, 4] rfl)
            · have hg := it_n hg c_4
              refine lv_aload_n hx hb dX7_wordFrom_38 rfl (lv_at hl 0 rfl) ?_
              refine r_getr (C := RX7) (T := TX7) (N := 43) (k' := 13) S hK hw (kM_0 hG).1 (kM_0 hG).2 rfl hinX7 23 (by decide) (o := 13) rfl rfl (hts (.fieldLink RX7 50 "SoupByRankModel" "words" "[I") (by decide +kernel)) rfl dX7_wordFrom_39 ?_
              refine lv_bipush (v := 8) hx hb dX7_wordFrom_42 (by decide) ?_
              refine lv_iload_n hx hb dX7_wordFrom_44 rfl (lv_at hl 3 rfl) ?_
              refine lv_imul hx hb dX7_wordFrom_45 ?_
              refine lv_iload hx hb dX7_wordFrom_46 (lv_at hl 5 rfl) ?_
              refine lv_iadd hx hb dX7_wordFrom_48 ?_
              obtain ⟨h_6, x_5, e_7, hg⟩ := rdA_e hg
              refine r_iald S hK hw (kM_13 hG).1 (kM_13 hG).2 h_6 e_7 dX7_wordFrom_49 ?_
              refine lv_iload_n hx hb dX7_wordFrom_50 rfl (lv_at hl 1 rfl) ?_
              refine lv_iload hx hb dX7_wordFrom_51 (lv_at hl 5 rfl) ?_
              refine lv_iadd hx hb dX7_wordFrom_53 ?_
              refine lv_iload_n hx hb dX7_wordFrom_54 rfl (lv_at hl 2 rfl) ?_
              refine lv_icmp_ge (tgt := 70) hx hb dX7_wordFrom_55 (by decide) (fun c_8 => ?_) (fun c_8 => ?_)
              · have hg := it_p hg c_8
                refine lv_bipush (v := 32) hx hb dX7_wordFrom_70 (by decide) ?_
                exact J72 v5 32 x_5 _ _ _ _ hg hw (lv_sub hl [0, 1, 2, 3, 5] rfl)
              · have hg := it_n hg c_8
                refine lv_aload_n hx hb dX7_wordFrom_58 rfl (lv_at hl 0 rfl) ?_
                refine r_getr (C := RX7) (T := TX7) (N := 43) (k' := 4) S hK hw (kM_0 hG).1 (kM_0 hG).2 rfl hinX7 6 (by decide) (o := 4) rfl rfl (hts (.fieldLink RX7 23 "SoupByRankModel" "tape" "[I") (by decide +kernel)) rfl dX7_wordFrom_59 ?_
                refine lv_iload_n hx hb dX7_wordFrom_62 rfl (lv_at hl 1 rfl) ?_
                refine lv_iload hx hb dX7_wordFrom_63 (lv_at hl 5 rfl) ?_
                refine lv_iadd hx hb dX7_wordFrom_65 ?_
                obtain ⟨h_10, x_9, e_11, hg⟩ := rdA_e hg
                refine r_iald S hK hw (kM_4 hG).1 (kM_4 hG).2 h_10 e_11 dX7_wordFrom_66 ?_
                refine lv_goto (tgt := 72) hx hb dX7_wordFrom_67 (by decide) ?_
                exact J72 v5 x_9 x_5 _ _ _ _ hg hw (lv_sub hl [0, 1, 2, 3, 5] rfl)
      have J21 : ∀ (v3 : Int32) (u0 : Int32) (σ : Sg) (H : Heap) (locs : List Loc) (ls : Array Slot) (hg : g_X7_wordFrom_b21 F (fun v3_ σ_ => g_X7_wordFrom_l2 F v1 v2 n2 v3_ σ_) v1 v2 v3 u0 σ = some (σR, r)) (hw : XD G (gA G sz) s.heap σ H locs) (hl : lv_has ls 6 [(0, .ref (gAd G 0)), (1, .int v1), (2, .int v2), (3, .int v3)]), W p l e (headSpec wsX7_wordFrom ({ frames := 0, cells := 0, slots := 0, locals := 0 } : Room)).room s m args below meth c H locs 0 0 (MQ below (QcI G (gA G sz) σR r) args s 0 0 (gA G sz)) (F0 m 21 ls [.int u0]) := by
        intro v3 u0 σ H locs ls hg hw hl
        rw [g_X7_wordFrom_b21] at hg
        refine lv_istore (lv' := [(4, .int u0), (0, .ref (gAd G 0)), (1, .int v1), (2, .int v2), (3, .int v3)]) hx hb dX7_wordFrom_21 hl (by decide) rfl (fun ls hl => ?_)
        refine lv_iconst (v := 0) hx hb dX7_wordFrom_23 (by decide) ?_
        refine lv_istore (lv' := [(5, .int 0), (4, .int u0), (0, .ref (gAd G 0)), (1, .int v1), (2, .int v2), (3, .int v3)]) hx hb dX7_wordFrom_24 hl (by decide) rfl (fun ls hl => ?_)
        exact L26 v3 F _ _ _ _ _ _ hg hw (lv_sub hl [2, 3, 4, 5, 1, 0] rfl)
      intro v3 σ H locs ls hg hw hl
      rw [g_X7_wordFrom_l2] at hg
      refine lv_iload_n hx hb dX7_wordFrom_2 rfl (lv_at hl 3 rfl) ?_
      refine lv_bipush (v := 12) hx hb dX7_wordFrom_3 (by decide) ?_
      refine lv_icmp_ge (tgt := 101) hx hb dX7_wordFrom_5 (by decide) (fun c_12 => ?_) (fun c_12 => ?_)
      · have hg := it_p hg c_12
        refine lv_bipush (v := 12) hx hb dX7_wordFrom_101 (by decide) ?_
        exact r_ireti S hr hlk hw.2.2.2.2 hw hg dX7_wordFrom_103
      · have hg := it_n hg c_12
        refine lv_iload_n hx hb dX7_wordFrom_8 rfl (lv_at hl 2 rfl) ?_
        refine lv_iload_n hx hb dX7_wordFrom_9 rfl (lv_at hl 1 rfl) ?_
        refine lv_isub hx hb dX7_wordFrom_10 ?_
        refine lv_bipush (v := 8) hx hb dX7_wordFrom_11 (by decide) ?_
        refine lv_icmp_gt (tgt := 20) hx hb dX7_wordFrom_13 (by decide) (fun c_13 => ?_) (fun c_13 => ?_)
        · have hg := it_p hg c_13
          refine lv_iconst (v := 0) hx hb dX7_wordFrom_20 (by decide) ?_
          exact J21 v3 0 _ _ _ _ hg hw (lv_sub hl [0, 1, 2, 3] rfl)
        · have hg := it_n hg c_13
          refine lv_iconst (v := 1) hx hb dX7_wordFrom_16 (by decide) ?_
          refine lv_goto (tgt := 21) hx hb dX7_wordFrom_17 (by decide) ?_
          exact J21 v3 1 _ _ _ _ hg hw (lv_sub hl [0, 1, 2, 3] rfl)
  rw [g_X7_wordFrom] at hg
  refine lv_iconst (v := 0) hx hb dX7_wordFrom_0 (by decide) ?_
  refine lv_istore_n (lv' := [(3, .int 0), (0, .ref (gAd G 0)), (1, .int a1), (2, .int a2)]) hx hb dX7_wordFrom_1 rfl hl (by decide) rfl (fun ls hl => ?_)
  exact L2 a1 a2 F _ _ _ _ _ hg hw (lv_sub hl [1, 2, 3, 0] rfl)
set_option maxHeartbeats 4000000 in
set_option maxRecDepth 100000 in
theorem c_X7_next (l : Launch) {G : GW} (hG : isM G) {F sz : Nat} {σ σR : Sg} (hg : g_X7_next F σ = some σR) : Met l yX7_next wsX7_next ({ frames := 1, cells := 0, slots := 0, locals := 25 } : Room) (va_Pc [.ref (gAd G 0)] (PX G σ sz)) (QcV G (gA G sz) σR) 0 0 (gA G sz) := by
  refine metX (by decide) rfl (Nat.le_of_ble_eq_true rfl) ?_
  intro p e s m args below meth c ls S hr hlk hsz hA hK hw hl hmn
  have S : CallFix p m c cX7_next 3 s args wsX7_next RX7 := S
  obtain ⟨hx, hb, hml, hown, hts⟩ := id S
  have hl : lv_has ls 3 [(0, .ref (gAd G 0))] := hl
  have hinX7 : ∀ w ∈ wsX70, w ∈ wsX7_next := by decide +kernel
  have J390 : ∀ (u0 : Int32) (σ : Sg) (H : Heap) (locs : List Loc) (ls : Array Slot) (hg : g_X7_next_b390 F u0 σ = some σR) (hw : XD G (gA G sz) s.heap σ H locs) (hl : lv_has ls 3 [(0, .ref (gAd G 0))]), W p l e (headSpec wsX7_next ({ frames := 1, cells := 0, slots := 0, locals := 25 } : Room)).room s m args below meth c H locs 0 0 (MQ below (QcV G (gA G sz) σR) args s 0 0 (gA G sz)) (F0 m 390 ls [.int u0, .ref (gAd G 0)]) := by
    intro u0 σ H locs ls hg hw hl
    rw [g_X7_next_b390] at hg
    obtain ⟨s_1, e_2, hg⟩ := wrF_e hg
    refine r_put (C := RX7) (T := TX7) (N := 43) S hK hw (kM_0 hG).1 (kM_0 hG).2 rfl hinX7 tyX7_ok nmX7 21 (by decide) rfl rfl rfl rfl (hts (.fieldLink RX7 116 "SoupByRankModel" "token" "I") (by decide +kernel)) rfl e_2 dX7_next_390 (fun H locs hw => ?_)
    refine lv_aload_n hx hb dX7_next_393 rfl (lv_at hl 0 rfl) ?_
    refine lv_dup hx hb dX7_next_394 rfl ?_
    refine r_get (C := RX7) (T := TX7) (N := 43) S hK hw (kM_0 hG).1 (kM_0 hG).2 rfl hinX7 19 (by decide) rfl (hts (.fieldLink RX7 110 "SoupByRankModel" "at" "I") (by decide +kernel)) rfl dX7_next_395 ?_
    refine lv_iconst (v := 1) hx hb dX7_next_398 (by decide) ?_
    refine lv_iadd hx hb dX7_next_399 ?_
    obtain ⟨s_3, e_4, hg⟩ := wrF_e hg
    refine r_put (C := RX7) (T := TX7) (N := 43) S hK hw (kM_0 hG).1 (kM_0 hG).2 rfl hinX7 tyX7_ok nmX7 19 (by decide) rfl rfl rfl rfl (hts (.fieldLink RX7 110 "SoupByRankModel" "at" "I") (by decide +kernel)) rfl e_4 dX7_next_400 (fun H locs hw => ?_)
    exact r_vreti S hr hlk hw.2.2.2.2 hw hg dX7_next_403
  have J379 : ∀ (v1 : Int32) (u0 : Int32) (σ : Sg) (H : Heap) (locs : List Loc) (ls : Array Slot) (hg : g_X7_next_b379 F v1 u0 σ = some σR) (hw : XD G (gA G sz) s.heap σ H locs) (hl : lv_has ls 3 [(0, .ref (gAd G 0)), (1, .int v1)]), W p l e (headSpec wsX7_next ({ frames := 1, cells := 0, slots := 0, locals := 25 } : Room)).room s m args below meth c H locs 0 0 (MQ below (QcV G (gA G sz) σR) args s 0 0 (gA G sz)) (F0 m 379 ls [.int u0]) := by
    intro v1 u0 σ H locs ls hg hw hl
    rw [g_X7_next_b379] at hg
    refine lv_istore_n (lv' := [(2, .int u0), (0, .ref (gAd G 0)), (1, .int v1)]) hx hb dX7_next_379 rfl hl (by decide) rfl (fun ls hl => ?_)
    refine lv_aload_n hx hb dX7_next_380 rfl (lv_at hl 1 rfl) ?_
    refine lv_iload_n hx hb dX7_next_381 rfl (lv_at hl 0 rfl) ?_
    refine lv_if_eq (tgt := 389) hx hb dX7_next_382 (by decide) (fun c_5 => ?_) (fun c_5 => ?_)
    · have hg := it_p hg c_5
      refine lv_iconst (v := (-1)) hx hb dX7_next_389 (by decide) ?_
      exact J390 (-1) _ _ _ _ hg hw (lv_sub hl [1] rfl)
    · have hg := it_n hg c_5
      refine lv_iload_n hx hb dX7_next_385 rfl (lv_at hl 2 rfl) ?_
      refine lv_goto (tgt := 390) hx hb dX7_next_386 (by decide) ?_
      exact J390 v1 _ _ _ _ hg hw (lv_sub hl [1] rfl)
  have J374 : ∀ (v1 : Int32) (σ : Sg) (H : Heap) (locs : List Loc) (ls : Array Slot) (hg : g_X7_next_b374 F v1 σ = some σR) (hw : XD G (gA G sz) s.heap σ H locs) (hl : lv_has ls 3 [(0, .ref (gAd G 0)), (1, .int v1)]), W p l e (headSpec wsX7_next ({ frames := 1, cells := 0, slots := 0, locals := 25 } : Room)).room s m args below meth c H locs 0 0 (MQ below (QcV G (gA G sz) σR) args s 0 0 (gA G sz)) (F0 m 374 ls []) := by
    intro v1 σ H locs ls hg hw hl
    rw [g_X7_next_b374] at hg
    refine lv_iconst (v := 1) hx hb dX7_next_374 (by decide) ?_
    refine lv_goto (tgt := 379) hx hb dX7_next_375 (by decide) ?_
    exact J379 v1 1 _ _ _ _ hg hw (lv_sub hl [0, 1] rfl)
  have J320 : ∀ (u0 : Int32) (σ : Sg) (H : Heap) (locs : List Loc) (ls : Array Slot) (hg : g_X7_next_b320 F u0 σ = some σR) (hw : XD G (gA G sz) s.heap σ H locs) (hl : lv_has ls 3 []), W p l e (headSpec wsX7_next ({ frames := 1, cells := 0, slots := 0, locals := 25 } : Room)).room s m args below meth c H locs 0 0 (MQ below (QcV G (gA G sz) σR) args s 0 0 (gA G sz)) (F0 m 320 ls [.int u0, .ref (gAd G 0)]) := by
    intro u0 σ H locs ls hg hw hl
    rw [g_X7_next_b320] at hg
    obtain ⟨s_6, e_7, hg⟩ := wrF_e hg
    refine r_put (C := RX7) (T := TX7) (N := 43) S hK hw (kM_0 hG).1 (kM_0 hG).2 rfl hinX7 tyX7_ok nmX7 21 (by decide) rfl rfl rfl rfl (hts (.fieldLink RX7 116 "SoupByRankModel" "token" "I") (by decide +kernel)) rfl e_7 dX7_next_320 (fun H locs hw => ?_)
    refine lv_goto (tgt := 403) hx hb dX7_next_323 (by decide) ?_
    exact r_vreti S hr hlk hw.2.2.2.2 hw hg dX7_next_403
  have J309 : ∀ (v2 : Int32) (σ : Sg) (H : Heap) (locs : List Loc) (ls : Array Slot) (hg : g_X7_next_b309 F v2 σ = some σR) (hw : XD G (gA G sz) s.heap σ H locs) (hl : lv_has ls 3 [(0, .ref (gAd G 0)), (2, .int v2)]), W p l e (headSpec wsX7_next ({ frames := 1, cells := 0, slots := 0, locals := 25 } : Room)).room s m args below meth c H locs 0 0 (MQ below (QcV G (gA G sz) σR) args s 0 0 (gA G sz)) (F0 m 309 ls []) := by
    intro v2 σ H locs ls hg hw hl
    rw [g_X7_next_b309] at hg
    refine lv_aload_n hx hb dX7_next_309 rfl (lv_at hl 0 rfl) ?_
    refine lv_iload_n hx hb dX7_next_310 rfl (lv_at hl 1 rfl) ?_
    refine lv_iconst (v := 4) hx hb dX7_next_311 (by decide) ?_
    refine lv_icmp_le (tgt := 319) hx hb dX7_next_312 (by decide) (fun c_8 => ?_) (fun c_8 => ?_)
    · have hg := it_p hg c_8
      refine lv_iconst (v := 1) hx hb dX7_next_319 (by decide) ?_
      exact J320 1 _ _ _ _ hg hw (lv_sub hl [] rfl)
    · have hg := it_n hg c_8
      refine lv_iconst (v := (-1)) hx hb dX7_next_315 (by decide) ?_
      refine lv_goto (tgt := 320) hx hb dX7_next_316 (by decide) ?_
      exact J320 (-1) _ _ _ _ hg hw (lv_sub hl [] rfl)
  have L230 : ∀ (n230 : Nat) (v2 : Int32) (σ : Sg) (H : Heap) (locs : List Loc) (ls : Array Slot) (hg : g_X7_next_l230 F n230 v2 σ = some σR) (hw : XD G (gA G sz) s.heap σ H locs) (hl : lv_has ls 3 [(0, .ref (gAd G 0)), (2, .int v2)]), W p l e (headSpec wsX7_next ({ frames := 1, cells := 0, slots := 0, locals := 25 } : Room)).room s m args below meth c H locs 0 0 (MQ below (QcV G (gA G sz) σR) args s 0 0 (gA G sz)) (F0 m 230 ls []) := by
    intro n230
    induction n230 with
    | zero => intro v2 σ H locs ls hg hw hl; exact no_e hg
    | succ n230 ih230 =>
      have J290 : ∀ (v2 : Int32) (u0 : Int32) (σ : Sg) (H : Heap) (locs : List Loc) (ls : Array Slot) (hg : g_X7_next_b290 F (fun v2_ σ_ => g_X7_next_l230 F n230 v2_ σ_) v2 u0 σ = some σR) (hw : XD G (gA G sz) s.heap σ H locs) (hl : lv_has ls 3 [(0, .ref (gAd G 0)), (2, .int v2)]), W p l e (headSpec wsX7_next ({ frames := 1, cells := 0, slots := 0, locals := 25 } : Room)).room s m args below meth c H locs 0 0 (MQ below (QcV G (gA G sz) σR) args s 0 0 (gA G sz)) (F0 m 290 ls [.int u0, .ref (gAd G 0)]) := by
        intro v2 u0 σ H locs ls hg hw hl
        rw [g_X7_next_b290] at hg
        obtain ⟨s_9, e_10, hg⟩ := wrF_e hg
        refine r_put (C := RX7) (T := TX7) (N := 43) S hK hw (kM_0 hG).1 (kM_0 hG).2 rfl hinX7 tyX7_ok nmX7 22 (by decide) rfl rfl rfl rfl (hts (.fieldLink RX7 119 "SoupByRankModel" "value" "I") (by decide +kernel)) rfl e_10 dX7_next_290 (fun H locs hw => ?_)
        refine lv_iinc (v := (v2 + 1)) (lv' := [(2, .int (v2 + 1)), (0, .ref (gAd G 0))]) hx hb dX7_next_293 hl (k := 1) rfl rfl (by decide) rfl (fun ls hl => ?_)
        refine lv_aload_n hx hb dX7_next_296 rfl (lv_at hl 1 rfl) ?_
        refine lv_dup hx hb dX7_next_297 rfl ?_
        refine r_get (C := RX7) (T := TX7) (N := 43) S hK hw (kM_0 hG).1 (kM_0 hG).2 rfl hinX7 19 (by decide) rfl (hts (.fieldLink RX7 110 "SoupByRankModel" "at" "I") (by decide +kernel)) rfl dX7_next_298 ?_
        refine lv_iconst (v := 1) hx hb dX7_next_301 (by decide) ?_
        refine lv_iadd hx hb dX7_next_302 ?_
        obtain ⟨s_11, e_12, hg⟩ := wrF_e hg
        refine r_put (C := RX7) (T := TX7) (N := 43) S hK hw (kM_0 hG).1 (kM_0 hG).2 rfl hinX7 tyX7_ok nmX7 19 (by decide) rfl rfl rfl rfl (hts (.fieldLink RX7 110 "SoupByRankModel" "at" "I") (by decide +kernel)) rfl e_12 dX7_next_303 (fun H locs hw => ?_)
        refine lv_goto (tgt := 230) hx hb dX7_next_306 (by decide) ?_
        exact ih230 _ _ _ _ _ hg hw (lv_sub hl [1, 0] rfl)
      intro v2 σ H locs ls hg hw hl
      rw [g_X7_next_l230] at hg
      refine lv_aload_n hx hb dX7_next_230 rfl (lv_at hl 0 rfl) ?_
      refine r_get (C := RX7) (T := TX7) (N := 43) S hK hw (kM_0 hG).1 (kM_0 hG).2 rfl hinX7 19 (by decide) rfl (hts (.fieldLink RX7 110 "SoupByRankModel" "at" "I") (by decide +kernel)) rfl dX7_next_231 ?_
      refine lv_aload_n hx hb dX7_next_234 rfl (lv_at hl 0 rfl) ?_
      refine r_get (C := RX7) (T := TX7) (N := 43) S hK hw (kM_0 hG).1 (kM_0 hG).2 rfl hinX7 7 (by decide) rfl (hts (.fieldLink RX7 83 "SoupByRankModel" "taped" "I") (by decide +kernel)) rfl dX7_next_235 ?_
      refine lv_icmp_ge (tgt := 309) hx hb dX7_next_238 (by decide) (fun c_13 => ?_) (fun c_13 => ?_)
      · have hg := it_p hg c_13
        exact J309 v2 _ _ _ _ hg hw (lv_sub hl [0, 1] rfl)
      · have hg := it_n hg c_13
        refine lv_aload_n hx hb dX7_next_241 rfl (lv_at hl 0 rfl) ?_
        refine r_getr (C := RX7) (T := TX7) (N := 43) (k' := 4) S hK hw (kM_0 hG).1 (kM_0 hG).2 rfl hinX7 6 (by decide) (o := 4) rfl rfl (hts (.fieldLink RX7 23 "SoupByRankModel" "tape" "[I") (by decide +kernel)) rfl dX7_next_242 ?_
        refine lv_aload_n hx hb dX7_next_245 rfl (lv_at hl 0 rfl) ?_
        refine r_get (C := RX7) (T := TX7) (N := 43) S hK hw (kM_0 hG).1 (kM_0 hG).2 rfl hinX7 19 (by decide) rfl (hts (.fieldLink RX7 110 "SoupByRankModel" "at" "I") (by decide +kernel)) rfl dX7_next_246 ?_
        obtain ⟨h_15, x_14, e_16, hg⟩ := rdA_e hg
        refine r_iald S hK hw (kM_4 hG).1 (kM_4 hG).2 h_15 e_16 dX7_next_249 ?_
        refine lv_bipush (v := 48) hx hb dX7_next_250 (by decide) ?_
        refine lv_bipush (v := 57) hx hb dX7_next_252 (by decide) ?_
        obtain ⟨s_17, x_18, h_19, hg⟩ := bnI_e hg
        refine r_iS (As := [.int x_14, .int 48, .int 57]) (rest := []) S hA hK hw (c_X7_in l hG  h_19) (va_cwS 3 hts gX7_next_X7_in rfl rfl rfl (by decide +kernel) ⟨Nat.le_of_ble_eq_true rfl, Nat.le_of_ble_eq_true rfl⟩) rfl hl.1 (Nat.le_of_ble_eq_true rfl) dX7_next_254 ⟨Nat.zero_le _, Nat.zero_le _⟩ rfl (fun H locs hw => ?_)
        refine lv_if_eq (tgt := 309) hx hb dX7_next_257 (by decide) (fun c_20 => ?_) (fun c_20 => ?_)
        · have hg := it_p hg c_20
          exact J309 v2 _ _ _ _ hg hw (lv_sub hl [0, 1] rfl)
        · have hg := it_n hg c_20
          refine lv_aload_n hx hb dX7_next_260 rfl (lv_at hl 0 rfl) ?_
          refine lv_iload_n hx hb dX7_next_261 rfl (lv_at hl 1 rfl) ?_
          refine lv_iconst (v := 4) hx hb dX7_next_262 (by decide) ?_
          refine lv_icmp_ge (tgt := 289) hx hb dX7_next_263 (by decide) (fun c_21 => ?_) (fun c_21 => ?_)
          · have hg := it_p hg c_21
            refine lv_iconst (v := 0) hx hb dX7_next_289 (by decide) ?_
            exact J290 v2 0 _ _ _ _ hg hw (lv_sub hl [0, 1] rfl)
          · have hg := it_n hg c_21
            refine lv_bipush (v := 10) hx hb dX7_next_266 (by decide) ?_
            refine lv_aload_n hx hb dX7_next_268 rfl (lv_at hl 0 rfl) ?_
            refine r_get (C := RX7) (T := TX7) (N := 43) S hK hw (kM_0 hG).1 (kM_0 hG).2 rfl hinX7 22 (by decide) rfl (hts (.fieldLink RX7 119 "SoupByRankModel" "value" "I") (by decide +kernel)) rfl dX7_next_269 ?_
            refine lv_imul hx hb dX7_next_272 ?_
            refine lv_aload_n hx hb dX7_next_273 rfl (lv_at hl 0 rfl) ?_
            refine r_getr (C := RX7) (T := TX7) (N := 43) (k' := 4) S hK hw (kM_0 hG).1 (kM_0 hG).2 rfl hinX7 6 (by decide) (o := 4) rfl rfl (hts (.fieldLink RX7 23 "SoupByRankModel" "tape" "[I") (by decide +kernel)) rfl dX7_next_274 ?_
            refine lv_aload_n hx hb dX7_next_277 rfl (lv_at hl 0 rfl) ?_
            refine r_get (C := RX7) (T := TX7) (N := 43) S hK hw (kM_0 hG).1 (kM_0 hG).2 rfl hinX7 19 (by decide) rfl (hts (.fieldLink RX7 110 "SoupByRankModel" "at" "I") (by decide +kernel)) rfl dX7_next_278 ?_
            obtain ⟨h_23, x_22, e_24, hg⟩ := rdA_e hg
            refine r_iald S hK hw (kM_4 hG).1 (kM_4 hG).2 h_23 e_24 dX7_next_281 ?_
            refine lv_iadd hx hb dX7_next_282 ?_
            refine lv_bipush (v := 48) hx hb dX7_next_283 (by decide) ?_
            refine lv_isub hx hb dX7_next_285 ?_
            refine lv_goto (tgt := 290) hx hb dX7_next_286 (by decide) ?_
            exact J290 v2 (((10 * (s_17 0 22)) + x_22) - 48) _ _ _ _ hg hw (lv_sub hl [0, 1] rfl)
  have J211 : ∀ (u0 : Int32) (σ : Sg) (H : Heap) (locs : List Loc) (ls : Array Slot) (hg : g_X7_next_b211 F u0 σ = some σR) (hw : XD G (gA G sz) s.heap σ H locs) (hl : lv_has ls 3 []), W p l e (headSpec wsX7_next ({ frames := 1, cells := 0, slots := 0, locals := 25 } : Room)).room s m args below meth c H locs 0 0 (MQ below (QcV G (gA G sz) σR) args s 0 0 (gA G sz)) (F0 m 211 ls [.int u0, .ref (gAd G 0)]) := by
    intro u0 σ H locs ls hg hw hl
    rw [g_X7_next_b211] at hg
    obtain ⟨s_25, e_26, hg⟩ := wrF_e hg
    refine r_put (C := RX7) (T := TX7) (N := 43) S hK hw (kM_0 hG).1 (kM_0 hG).2 rfl hinX7 tyX7_ok nmX7 22 (by decide) rfl rfl rfl rfl (hts (.fieldLink RX7 119 "SoupByRankModel" "value" "I") (by decide +kernel)) rfl e_26 dX7_next_211 (fun H locs hw => ?_)
    refine lv_goto (tgt := 403) hx hb dX7_next_214 (by decide) ?_
    exact r_vreti S hr hlk hw.2.2.2.2 hw hg dX7_next_403
  have J195 : ∀ (v2 : Int32) (u0 : Int32) (σ : Sg) (H : Heap) (locs : List Loc) (ls : Array Slot) (hg : g_X7_next_b195 F v2 u0 σ = some σR) (hw : XD G (gA G sz) s.heap σ H locs) (hl : lv_has ls 3 [(0, .ref (gAd G 0)), (2, .int v2)]), W p l e (headSpec wsX7_next ({ frames := 1, cells := 0, slots := 0, locals := 25 } : Room)).room s m args below meth c H locs 0 0 (MQ below (QcV G (gA G sz) σR) args s 0 0 (gA G sz)) (F0 m 195 ls [.int u0, .ref (gAd G 0)]) := by
    intro v2 u0 σ H locs ls hg hw hl
    rw [g_X7_next_b195] at hg
    obtain ⟨s_27, e_28, hg⟩ := wrF_e hg
    refine r_put (C := RX7) (T := TX7) (N := 43) S hK hw (kM_0 hG).1 (kM_0 hG).2 rfl hinX7 tyX7_ok nmX7 21 (by decide) rfl rfl rfl rfl (hts (.fieldLink RX7 116 "SoupByRankModel" "token" "I") (by decide +kernel)) rfl e_28 dX7_next_195 (fun H locs hw => ?_)
    refine lv_aload_n hx hb dX7_next_198 rfl (lv_at hl 0 rfl) ?_
    refine lv_iload_n hx hb dX7_next_199 rfl (lv_at hl 1 rfl) ?_
    refine lv_iconst (v := 3) hx hb dX7_next_200 (by decide) ?_
    refine lv_icmp_ge (tgt := 208) hx hb dX7_next_201 (by decide) (fun c_29 => ?_) (fun c_29 => ?_)
    · have hg := it_p hg c_29
      refine lv_iload_n hx hb dX7_next_208 rfl (lv_at hl 1 rfl) ?_
      refine lv_iconst (v := 3) hx hb dX7_next_209 (by decide) ?_
      refine lv_isub hx hb dX7_next_210 ?_
      exact J211 (v2 - 3) _ _ _ _ hg hw (lv_sub hl [] rfl)
    · have hg := it_n hg c_29
      refine lv_iload_n hx hb dX7_next_204 rfl (lv_at hl 1 rfl) ?_
      refine lv_goto (tgt := 211) hx hb dX7_next_205 (by decide) ?_
      exact J211 v2 _ _ _ _ hg hw (lv_sub hl [] rfl)
  have J146 : ∀ (σ : Sg) (H : Heap) (locs : List Loc) (ls : Array Slot) (hg : g_X7_next_b146 F σ = some σR) (hw : XD G (gA G sz) s.heap σ H locs) (hl : lv_has ls 3 [(0, .ref (gAd G 0))]), W p l e (headSpec wsX7_next ({ frames := 1, cells := 0, slots := 0, locals := 25 } : Room)).room s m args below meth c H locs 0 0 (MQ below (QcV G (gA G sz) σR) args s 0 0 (gA G sz)) (F0 m 146 ls []) := by
    intro  σ H locs ls hg hw hl
    rw [g_X7_next_b146] at hg
    refine lv_aload_n hx hb dX7_next_146 rfl (lv_at hl 0 rfl) ?_
    refine lv_aload_n hx hb dX7_next_147 rfl (lv_at hl 0 rfl) ?_
    refine r_get (C := RX7) (T := TX7) (N := 43) S hK hw (kM_0 hG).1 (kM_0 hG).2 rfl hinX7 20 (by decide) rfl (hts (.fieldLink RX7 113 "SoupByRankModel" "begun" "I") (by decide +kernel)) rfl dX7_next_148 ?_
    refine lv_aload_n hx hb dX7_next_151 rfl (lv_at hl 0 rfl) ?_
    refine r_get (C := RX7) (T := TX7) (N := 43) S hK hw (kM_0 hG).1 (kM_0 hG).2 rfl hinX7 19 (by decide) rfl (hts (.fieldLink RX7 110 "SoupByRankModel" "at" "I") (by decide +kernel)) rfl dX7_next_152 ?_
    obtain ⟨s_30, x_31, h_32, hg⟩ := bnI_e hg
    refine r_iV (As := [.int (σ 0 20), .int (σ 0 19)]) (rest := []) S hA hK hw (c_X7_wordFrom l hG  h_32) (cwV 2 hts gX7_next_X7_wordFrom rfl rfl rfl (by decide +kernel) ⟨Nat.le_of_ble_eq_true rfl, Nat.le_of_ble_eq_true rfl⟩) (r_recv hK hw (kM_0 hG).1 (kM_0 hG).2 rfl) rfl hl.1 (Nat.le_of_ble_eq_true rfl) dX7_next_155 ⟨Nat.zero_le _, Nat.zero_le _⟩ rfl (fun H locs hw => ?_)
    refine lv_istore_n (lv' := [(2, .int x_31), (0, .ref (gAd G 0))]) hx hb dX7_next_158 rfl hl (by decide) rfl (fun ls hl => ?_)
    refine lv_aload_n hx hb dX7_next_159 rfl (lv_at hl 1 rfl) ?_
    refine lv_iload_n hx hb dX7_next_160 rfl (lv_at hl 0 rfl) ?_
    refine lv_iconst (v := 3) hx hb dX7_next_161 (by decide) ?_
    refine lv_icmp_ge (tgt := 169) hx hb dX7_next_162 (by decide) (fun c_33 => ?_) (fun c_33 => ?_)
    · have hg := it_p hg c_33
      refine lv_iload_n hx hb dX7_next_169 rfl (lv_at hl 0 rfl) ?_
      refine lv_bipush (v := 9) hx hb dX7_next_170 (by decide) ?_
      refine lv_icmp_ge (tgt := 179) hx hb dX7_next_172 (by decide) (fun c_34 => ?_) (fun c_34 => ?_)
      · have hg := it_p hg c_34
        refine lv_iload_n hx hb dX7_next_179 rfl (lv_at hl 0 rfl) ?_
        refine lv_bipush (v := 12) hx hb dX7_next_180 (by decide) ?_
        refine lv_icmp_ne (tgt := 189) hx hb dX7_next_182 (by decide) (fun c_35 => ?_) (fun c_35 => ?_)
        · have hg := it_n hg c_35
          refine lv_iconst (v := 4) hx hb dX7_next_189 (by decide) ?_
          refine lv_iload_n hx hb dX7_next_190 rfl (lv_at hl 0 rfl) ?_
          refine lv_iadd hx hb dX7_next_191 ?_
          refine lv_bipush (v := 9) hx hb dX7_next_192 (by decide) ?_
          refine lv_isub hx hb dX7_next_194 ?_
          exact J195 x_31 ((4 + x_31) - 9) _ _ _ _ hg hw (lv_sub hl [1, 0] rfl)
        · have hg := it_p hg c_35
          refine lv_iconst (v := (-1)) hx hb dX7_next_185 (by decide) ?_
          refine lv_goto (tgt := 195) hx hb dX7_next_186 (by decide) ?_
          exact J195 x_31 (-1) _ _ _ _ hg hw (lv_sub hl [1, 0] rfl)
      · have hg := it_n hg c_34
        refine lv_iconst (v := 2) hx hb dX7_next_175 (by decide) ?_
        refine lv_goto (tgt := 195) hx hb dX7_next_176 (by decide) ?_
        exact J195 x_31 2 _ _ _ _ hg hw (lv_sub hl [1, 0] rfl)
    · have hg := it_n hg c_33
      refine lv_iconst (v := 3) hx hb dX7_next_165 (by decide) ?_
      refine lv_goto (tgt := 195) hx hb dX7_next_166 (by decide) ?_
      exact J195 x_31 3 _ _ _ _ hg hw (lv_sub hl [1, 0] rfl)
  have L103 : ∀ (n103 : Nat) (σ : Sg) (H : Heap) (locs : List Loc) (ls : Array Slot) (hg : g_X7_next_l103 F n103 σ = some σR) (hw : XD G (gA G sz) s.heap σ H locs) (hl : lv_has ls 3 [(0, .ref (gAd G 0))]), W p l e (headSpec wsX7_next ({ frames := 1, cells := 0, slots := 0, locals := 25 } : Room)).room s m args below meth c H locs 0 0 (MQ below (QcV G (gA G sz) σR) args s 0 0 (gA G sz)) (F0 m 103 ls []) := by
    intro n103
    induction n103 with
    | zero => intro  σ H locs ls hg hw hl; exact no_e hg
    | succ n103 ih103 =>
      intro  σ H locs ls hg hw hl
      rw [g_X7_next_l103] at hg
      refine lv_aload_n hx hb dX7_next_103 rfl (lv_at hl 0 rfl) ?_
      refine r_get (C := RX7) (T := TX7) (N := 43) S hK hw (kM_0 hG).1 (kM_0 hG).2 rfl hinX7 19 (by decide) rfl (hts (.fieldLink RX7 110 "SoupByRankModel" "at" "I") (by decide +kernel)) rfl dX7_next_104 ?_
      refine lv_aload_n hx hb dX7_next_107 rfl (lv_at hl 0 rfl) ?_
      refine r_get (C := RX7) (T := TX7) (N := 43) S hK hw (kM_0 hG).1 (kM_0 hG).2 rfl hinX7 7 (by decide) rfl (hts (.fieldLink RX7 83 "SoupByRankModel" "taped" "I") (by decide +kernel)) rfl dX7_next_108 ?_
      refine lv_icmp_ge (tgt := 146) hx hb dX7_next_111 (by decide) (fun c_36 => ?_) (fun c_36 => ?_)
      · have hg := it_p hg c_36
        exact J146 _ _ _ _ hg hw (lv_sub hl [0] rfl)
      · have hg := it_n hg c_36
        refine lv_aload_n hx hb dX7_next_114 rfl (lv_at hl 0 rfl) ?_
        refine r_getr (C := RX7) (T := TX7) (N := 43) (k' := 4) S hK hw (kM_0 hG).1 (kM_0 hG).2 rfl hinX7 6 (by decide) (o := 4) rfl rfl (hts (.fieldLink RX7 23 "SoupByRankModel" "tape" "[I") (by decide +kernel)) rfl dX7_next_115 ?_
        refine lv_aload_n hx hb dX7_next_118 rfl (lv_at hl 0 rfl) ?_
        refine r_get (C := RX7) (T := TX7) (N := 43) S hK hw (kM_0 hG).1 (kM_0 hG).2 rfl hinX7 19 (by decide) rfl (hts (.fieldLink RX7 110 "SoupByRankModel" "at" "I") (by decide +kernel)) rfl dX7_next_119 ?_
        obtain ⟨h_38, x_37, e_39, hg⟩ := rdA_e hg
        refine r_iald S hK hw (kM_4 hG).1 (kM_4 hG).2 h_38 e_39 dX7_next_122 ?_
        refine lv_bipush (v := 97) hx hb dX7_next_123 (by decide) ?_
        refine lv_bipush (v := 122) hx hb dX7_next_125 (by decide) ?_
        obtain ⟨s_40, x_41, h_42, hg⟩ := bnI_e hg
        refine r_iS (As := [.int x_37, .int 97, .int 122]) (rest := []) S hA hK hw (c_X7_in l hG  h_42) (va_cwS 3 hts gX7_next_X7_in rfl rfl rfl (by decide +kernel) ⟨Nat.le_of_ble_eq_true rfl, Nat.le_of_ble_eq_true rfl⟩) rfl hl.1 (Nat.le_of_ble_eq_true rfl) dX7_next_127 ⟨Nat.zero_le _, Nat.zero_le _⟩ rfl (fun H locs hw => ?_)
        refine lv_if_eq (tgt := 146) hx hb dX7_next_130 (by decide) (fun c_43 => ?_) (fun c_43 => ?_)
        · have hg := it_p hg c_43
          exact J146 _ _ _ _ hg hw (lv_sub hl [0] rfl)
        · have hg := it_n hg c_43
          refine lv_aload_n hx hb dX7_next_133 rfl (lv_at hl 0 rfl) ?_
          refine lv_dup hx hb dX7_next_134 rfl ?_
          refine r_get (C := RX7) (T := TX7) (N := 43) S hK hw (kM_0 hG).1 (kM_0 hG).2 rfl hinX7 19 (by decide) rfl (hts (.fieldLink RX7 110 "SoupByRankModel" "at" "I") (by decide +kernel)) rfl dX7_next_135 ?_
          refine lv_iconst (v := 1) hx hb dX7_next_138 (by decide) ?_
          refine lv_iadd hx hb dX7_next_139 ?_
          obtain ⟨s_44, e_45, hg⟩ := wrF_e hg
          refine r_put (C := RX7) (T := TX7) (N := 43) S hK hw (kM_0 hG).1 (kM_0 hG).2 rfl hinX7 tyX7_ok nmX7 19 (by decide) rfl rfl rfl rfl (hts (.fieldLink RX7 110 "SoupByRankModel" "at" "I") (by decide +kernel)) rfl e_45 dX7_next_140 (fun H locs hw => ?_)
          refine lv_goto (tgt := 103) hx hb dX7_next_143 (by decide) ?_
          exact ih103 _ _ _ _ hg hw (lv_sub hl [0] rfl)
  have J52 : ∀ (σ : Sg) (H : Heap) (locs : List Loc) (ls : Array Slot) (hg : g_X7_next_b52 F σ = some σR) (hw : XD G (gA G sz) s.heap σ H locs) (hl : lv_has ls 3 [(0, .ref (gAd G 0))]), W p l e (headSpec wsX7_next ({ frames := 1, cells := 0, slots := 0, locals := 25 } : Room)).room s m args below meth c H locs 0 0 (MQ below (QcV G (gA G sz) σR) args s 0 0 (gA G sz)) (F0 m 52 ls []) := by
    intro  σ H locs ls hg hw hl
    rw [g_X7_next_b52] at hg
    refine lv_aload_n hx hb dX7_next_52 rfl (lv_at hl 0 rfl) ?_
    refine lv_aload_n hx hb dX7_next_53 rfl (lv_at hl 0 rfl) ?_
    refine r_get (C := RX7) (T := TX7) (N := 43) S hK hw (kM_0 hG).1 (kM_0 hG).2 rfl hinX7 19 (by decide) rfl (hts (.fieldLink RX7 110 "SoupByRankModel" "at" "I") (by decide +kernel)) rfl dX7_next_54 ?_
    obtain ⟨s_46, e_47, hg⟩ := wrF_e hg
    refine r_put (C := RX7) (T := TX7) (N := 43) S hK hw (kM_0 hG).1 (kM_0 hG).2 rfl hinX7 tyX7_ok nmX7 20 (by decide) rfl rfl rfl rfl (hts (.fieldLink RX7 113 "SoupByRankModel" "begun" "I") (by decide +kernel)) rfl e_47 dX7_next_57 (fun H locs hw => ?_)
    refine lv_aload_n hx hb dX7_next_60 rfl (lv_at hl 0 rfl) ?_
    refine lv_iconst (v := 0) hx hb dX7_next_61 (by decide) ?_
    obtain ⟨s_48, e_49, hg⟩ := wrF_e hg
    refine r_put (C := RX7) (T := TX7) (N := 43) S hK hw (kM_0 hG).1 (kM_0 hG).2 rfl hinX7 tyX7_ok nmX7 21 (by decide) rfl rfl rfl rfl (hts (.fieldLink RX7 116 "SoupByRankModel" "token" "I") (by decide +kernel)) rfl e_49 dX7_next_62 (fun H locs hw => ?_)
    refine lv_aload_n hx hb dX7_next_65 rfl (lv_at hl 0 rfl) ?_
    refine lv_iconst (v := 0) hx hb dX7_next_66 (by decide) ?_
    obtain ⟨s_50, e_51, hg⟩ := wrF_e hg
    refine r_put (C := RX7) (T := TX7) (N := 43) S hK hw (kM_0 hG).1 (kM_0 hG).2 rfl hinX7 tyX7_ok nmX7 22 (by decide) rfl rfl rfl rfl (hts (.fieldLink RX7 119 "SoupByRankModel" "value" "I") (by decide +kernel)) rfl e_51 dX7_next_67 (fun H locs hw => ?_)
    refine lv_aload_n hx hb dX7_next_70 rfl (lv_at hl 0 rfl) ?_
    refine r_get (C := RX7) (T := TX7) (N := 43) S hK hw (kM_0 hG).1 (kM_0 hG).2 rfl hinX7 19 (by decide) rfl (hts (.fieldLink RX7 110 "SoupByRankModel" "at" "I") (by decide +kernel)) rfl dX7_next_71 ?_
    refine lv_aload_n hx hb dX7_next_74 rfl (lv_at hl 0 rfl) ?_
    refine r_get (C := RX7) (T := TX7) (N := 43) S hK hw (kM_0 hG).1 (kM_0 hG).2 rfl hinX7 7 (by decide) rfl (hts (.fieldLink RX7 83 "SoupByRankModel" "taped" "I") (by decide +kernel)) rfl dX7_next_75 ?_
    refine lv_icmp_ne (tgt := 82) hx hb dX7_next_78 (by decide) (fun c_52 => ?_) (fun c_52 => ?_)
    · have hg := it_n hg c_52
      refine lv_aload_n hx hb dX7_next_82 rfl (lv_at hl 0 rfl) ?_
      refine r_getr (C := RX7) (T := TX7) (N := 43) (k' := 4) S hK hw (kM_0 hG).1 (kM_0 hG).2 rfl hinX7 6 (by decide) (o := 4) rfl rfl (hts (.fieldLink RX7 23 "SoupByRankModel" "tape" "[I") (by decide +kernel)) rfl dX7_next_83 ?_
      refine lv_aload_n hx hb dX7_next_86 rfl (lv_at hl 0 rfl) ?_
      refine r_get (C := RX7) (T := TX7) (N := 43) S hK hw (kM_0 hG).1 (kM_0 hG).2 rfl hinX7 19 (by decide) rfl (hts (.fieldLink RX7 110 "SoupByRankModel" "at" "I") (by decide +kernel)) rfl dX7_next_87 ?_
      obtain ⟨h_54, x_53, e_55, hg⟩ := rdA_e hg
      refine r_iald S hK hw (kM_4 hG).1 (kM_4 hG).2 h_54 e_55 dX7_next_90 ?_
      refine lv_istore_n (lv' := [(1, .int x_53), (0, .ref (gAd G 0))]) hx hb dX7_next_91 rfl hl (by decide) rfl (fun ls hl => ?_)
      refine lv_iload_n hx hb dX7_next_92 rfl (lv_at hl 0 rfl) ?_
      refine lv_bipush (v := 97) hx hb dX7_next_93 (by decide) ?_
      refine lv_bipush (v := 122) hx hb dX7_next_95 (by decide) ?_
      obtain ⟨s_56, x_57, h_58, hg⟩ := bnI_e hg
      refine r_iS (As := [.int x_53, .int 97, .int 122]) (rest := []) S hA hK hw (c_X7_in l hG  h_58) (va_cwS 3 hts gX7_next_X7_in rfl rfl rfl (by decide +kernel) ⟨Nat.le_of_ble_eq_true rfl, Nat.le_of_ble_eq_true rfl⟩) rfl hl.1 (Nat.le_of_ble_eq_true rfl) dX7_next_97 ⟨Nat.zero_le _, Nat.zero_le _⟩ rfl (fun H locs hw => ?_)
      refine lv_if_eq (tgt := 217) hx hb dX7_next_100 (by decide) (fun c_59 => ?_) (fun c_59 => ?_)
      · have hg := it_p hg c_59
        refine lv_iload_n hx hb dX7_next_217 rfl (lv_at hl 0 rfl) ?_
        refine lv_bipush (v := 48) hx hb dX7_next_218 (by decide) ?_
        refine lv_bipush (v := 57) hx hb dX7_next_220 (by decide) ?_
        obtain ⟨s_60, x_61, h_62, hg⟩ := bnI_e hg
        refine r_iS (As := [.int x_53, .int 48, .int 57]) (rest := []) S hA hK hw (c_X7_in l hG  h_62) (va_cwS 3 hts gX7_next_X7_in rfl rfl rfl (by decide +kernel) ⟨Nat.le_of_ble_eq_true rfl, Nat.le_of_ble_eq_true rfl⟩) rfl hl.1 (Nat.le_of_ble_eq_true rfl) dX7_next_222 ⟨Nat.zero_le _, Nat.zero_le _⟩ rfl (fun H locs hw => ?_)
        refine lv_if_eq (tgt := 326) hx hb dX7_next_225 (by decide) (fun c_63 => ?_) (fun c_63 => ?_)
        · have hg := it_p hg c_63
          refine lv_iload_n hx hb dX7_next_326 rfl (lv_at hl 0 rfl) ?_
          refine lv_bipush (v := 40) hx hb dX7_next_327 (by decide) ?_
          refine lv_icmp_eq (tgt := 374) hx hb dX7_next_329 (by decide) (fun c_64 => ?_) (fun c_64 => ?_)
          · have hg := it_p hg c_64
            exact J374 x_53 _ _ _ _ hg hw (lv_sub hl [1, 0] rfl)
          · have hg := it_n hg c_64
            refine lv_iload_n hx hb dX7_next_332 rfl (lv_at hl 0 rfl) ?_
            refine lv_bipush (v := 41) hx hb dX7_next_333 (by decide) ?_
            refine lv_icmp_eq (tgt := 374) hx hb dX7_next_335 (by decide) (fun c_65 => ?_) (fun c_65 => ?_)
            · have hg := it_p hg c_65
              exact J374 x_53 _ _ _ _ hg hw (lv_sub hl [1, 0] rfl)
            · have hg := it_n hg c_65
              refine lv_iload_n hx hb dX7_next_338 rfl (lv_at hl 0 rfl) ?_
              refine lv_bipush (v := 59) hx hb dX7_next_339 (by decide) ?_
              refine lv_icmp_eq (tgt := 374) hx hb dX7_next_341 (by decide) (fun c_66 => ?_) (fun c_66 => ?_)
              · have hg := it_p hg c_66
                exact J374 x_53 _ _ _ _ hg hw (lv_sub hl [1, 0] rfl)
              · have hg := it_n hg c_66
                refine lv_iload_n hx hb dX7_next_344 rfl (lv_at hl 0 rfl) ?_
                refine lv_bipush (v := 43) hx hb dX7_next_345 (by decide) ?_
                refine lv_icmp_eq (tgt := 374) hx hb dX7_next_347 (by decide) (fun c_67 => ?_) (fun c_67 => ?_)
                · have hg := it_p hg c_67
                  exact J374 x_53 _ _ _ _ hg hw (lv_sub hl [1, 0] rfl)
                · have hg := it_n hg c_67
                  refine lv_iload_n hx hb dX7_next_350 rfl (lv_at hl 0 rfl) ?_
                  refine lv_bipush (v := 45) hx hb dX7_next_351 (by decide) ?_
                  refine lv_icmp_eq (tgt := 374) hx hb dX7_next_353 (by decide) (fun c_68 => ?_) (fun c_68 => ?_)
                  · have hg := it_p hg c_68
                    exact J374 x_53 _ _ _ _ hg hw (lv_sub hl [1, 0] rfl)
                  · have hg := it_n hg c_68
                    refine lv_iload_n hx hb dX7_next_356 rfl (lv_at hl 0 rfl) ?_
                    refine lv_bipush (v := 42) hx hb dX7_next_357 (by decide) ?_
                    refine lv_icmp_eq (tgt := 374) hx hb dX7_next_359 (by decide) (fun c_69 => ?_) (fun c_69 => ?_)
                    · have hg := it_p hg c_69
                      exact J374 x_53 _ _ _ _ hg hw (lv_sub hl [1, 0] rfl)
                    · have hg := it_n hg c_69
                      refine lv_iload_n hx hb dX7_next_362 rfl (lv_at hl 0 rfl) ?_
                      refine lv_bipush (v := 60) hx hb dX7_next_363 (by decide) ?_
                      refine lv_icmp_eq (tgt := 374) hx hb dX7_next_365 (by decide) (fun c_70 => ?_) (fun c_70 => ?_)
                      · have hg := it_p hg c_70
                        exact J374 x_53 _ _ _ _ hg hw (lv_sub hl [1, 0] rfl)
                      · have hg := it_n hg c_70
                        refine lv_iload_n hx hb dX7_next_368 rfl (lv_at hl 0 rfl) ?_
                        refine lv_bipush (v := 61) hx hb dX7_next_369 (by decide) ?_
                        refine lv_icmp_ne (tgt := 378) hx hb dX7_next_371 (by decide) (fun c_71 => ?_) (fun c_71 => ?_)
                        · have hg := it_n hg c_71
                          refine lv_iconst (v := 0) hx hb dX7_next_378 (by decide) ?_
                          exact J379 x_53 0 _ _ _ _ hg hw (lv_sub hl [1, 0] rfl)
                        · have hg := it_p hg c_71
                          exact J374 x_53 _ _ _ _ hg hw (lv_sub hl [1, 0] rfl)
        · have hg := it_n hg c_63
          refine lv_iconst (v := 0) hx hb dX7_next_228 (by decide) ?_
          refine lv_istore_n (lv' := [(2, .int 0), (1, .int x_53), (0, .ref (gAd G 0))]) hx hb dX7_next_229 rfl hl (by decide) rfl (fun ls hl => ?_)
          exact L230 F _ _ _ _ _ hg hw (lv_sub hl [2, 0] rfl)
      · have hg := it_n hg c_59
        exact L103 F _ _ _ _ hg hw (lv_sub hl [1] rfl)
    · have hg := it_p hg c_52
      exact r_vreti S hr hlk hw.2.2.2.2 hw hg dX7_next_81
  have L0 : ∀ (n0 : Nat) (σ : Sg) (H : Heap) (locs : List Loc) (ls : Array Slot) (hg : g_X7_next_l0 F n0 σ = some σR) (hw : XD G (gA G sz) s.heap σ H locs) (hl : lv_has ls 3 [(0, .ref (gAd G 0))]), W p l e (headSpec wsX7_next ({ frames := 1, cells := 0, slots := 0, locals := 25 } : Room)).room s m args below meth c H locs 0 0 (MQ below (QcV G (gA G sz) σR) args s 0 0 (gA G sz)) (F0 m 0 ls []) := by
    intro n0
    induction n0 with
    | zero => intro  σ H locs ls hg hw hl; exact no_e hg
    | succ n0 ih0 =>
      have J39 : ∀ (σ : Sg) (H : Heap) (locs : List Loc) (ls : Array Slot) (hg : g_X7_next_b39 F (fun σ_ => g_X7_next_l0 F n0 σ_) σ = some σR) (hw : XD G (gA G sz) s.heap σ H locs) (hl : lv_has ls 3 [(0, .ref (gAd G 0))]), W p l e (headSpec wsX7_next ({ frames := 1, cells := 0, slots := 0, locals := 25 } : Room)).room s m args below meth c H locs 0 0 (MQ below (QcV G (gA G sz) σR) args s 0 0 (gA G sz)) (F0 m 39 ls []) := by
        intro  σ H locs ls hg hw hl
        rw [g_X7_next_b39] at hg
        refine lv_aload_n hx hb dX7_next_39 rfl (lv_at hl 0 rfl) ?_
        refine lv_dup hx hb dX7_next_40 rfl ?_
        refine r_get (C := RX7) (T := TX7) (N := 43) S hK hw (kM_0 hG).1 (kM_0 hG).2 rfl hinX7 19 (by decide) rfl (hts (.fieldLink RX7 110 "SoupByRankModel" "at" "I") (by decide +kernel)) rfl dX7_next_41 ?_
        refine lv_iconst (v := 1) hx hb dX7_next_44 (by decide) ?_
        refine lv_iadd hx hb dX7_next_45 ?_
        obtain ⟨s_72, e_73, hg⟩ := wrF_e hg
        refine r_put (C := RX7) (T := TX7) (N := 43) S hK hw (kM_0 hG).1 (kM_0 hG).2 rfl hinX7 tyX7_ok nmX7 19 (by decide) rfl rfl rfl rfl (hts (.fieldLink RX7 110 "SoupByRankModel" "at" "I") (by decide +kernel)) rfl e_73 dX7_next_46 (fun H locs hw => ?_)
        refine lv_goto (tgt := 0) hx hb dX7_next_49 (by decide) ?_
        exact ih0 _ _ _ _ hg hw (lv_sub hl [0] rfl)
      intro  σ H locs ls hg hw hl
      rw [g_X7_next_l0] at hg
      refine lv_aload_n hx hb dX7_next_0 rfl (lv_at hl 0 rfl) ?_
      refine r_get (C := RX7) (T := TX7) (N := 43) S hK hw (kM_0 hG).1 (kM_0 hG).2 rfl hinX7 19 (by decide) rfl (hts (.fieldLink RX7 110 "SoupByRankModel" "at" "I") (by decide +kernel)) rfl dX7_next_1 ?_
      refine lv_aload_n hx hb dX7_next_4 rfl (lv_at hl 0 rfl) ?_
      refine r_get (C := RX7) (T := TX7) (N := 43) S hK hw (kM_0 hG).1 (kM_0 hG).2 rfl hinX7 7 (by decide) rfl (hts (.fieldLink RX7 83 "SoupByRankModel" "taped" "I") (by decide +kernel)) rfl dX7_next_5 ?_
      refine lv_icmp_ge (tgt := 52) hx hb dX7_next_8 (by decide) (fun c_74 => ?_) (fun c_74 => ?_)
      · have hg := it_p hg c_74
        exact J52 _ _ _ _ hg hw (lv_sub hl [0] rfl)
      · have hg := it_n hg c_74
        refine lv_aload_n hx hb dX7_next_11 rfl (lv_at hl 0 rfl) ?_
        refine r_getr (C := RX7) (T := TX7) (N := 43) (k' := 4) S hK hw (kM_0 hG).1 (kM_0 hG).2 rfl hinX7 6 (by decide) (o := 4) rfl rfl (hts (.fieldLink RX7 23 "SoupByRankModel" "tape" "[I") (by decide +kernel)) rfl dX7_next_12 ?_
        refine lv_aload_n hx hb dX7_next_15 rfl (lv_at hl 0 rfl) ?_
        refine r_get (C := RX7) (T := TX7) (N := 43) S hK hw (kM_0 hG).1 (kM_0 hG).2 rfl hinX7 19 (by decide) rfl (hts (.fieldLink RX7 110 "SoupByRankModel" "at" "I") (by decide +kernel)) rfl dX7_next_16 ?_
        obtain ⟨h_76, x_75, e_77, hg⟩ := rdA_e hg
        refine r_iald S hK hw (kM_4 hG).1 (kM_4 hG).2 h_76 e_77 dX7_next_19 ?_
        refine lv_bipush (v := 32) hx hb dX7_next_20 (by decide) ?_
        refine lv_icmp_eq (tgt := 39) hx hb dX7_next_22 (by decide) (fun c_78 => ?_) (fun c_78 => ?_)
        · have hg := it_p hg c_78
          exact J39 _ _ _ _ hg hw (lv_sub hl [0] rfl)
        · have hg := it_n hg c_78
          refine lv_aload_n hx hb dX7_next_25 rfl (lv_at hl 0 rfl) ?_
          refine r_getr (C := RX7) (T := TX7) (N := 43) (k' := 4) S hK hw (kM_0 hG).1 (kM_0 hG).2 rfl hinX7 6 (by decide) (o := 4) rfl rfl (hts (.fieldLink RX7 23 "SoupByRankModel" "tape" "[I") (by decide +kernel)) rfl dX7_next_26 ?_
          refine lv_aload_n hx hb dX7_next_29 rfl (lv_at hl 0 rfl) ?_
          refine r_get (C := RX7) (T := TX7) (N := 43) S hK hw (kM_0 hG).1 (kM_0 hG).2 rfl hinX7 19 (by decide) rfl (hts (.fieldLink RX7 110 "SoupByRankModel" "at" "I") (by decide +kernel)) rfl dX7_next_30 ?_
          obtain ⟨h_80, x_79, e_81, hg⟩ := rdA_e hg
          refine r_iald S hK hw (kM_4 hG).1 (kM_4 hG).2 h_80 e_81 dX7_next_33 ?_
          refine lv_bipush (v := 10) hx hb dX7_next_34 (by decide) ?_
          refine lv_icmp_ne (tgt := 52) hx hb dX7_next_36 (by decide) (fun c_82 => ?_) (fun c_82 => ?_)
          · have hg := it_n hg c_82
            exact J52 _ _ _ _ hg hw (lv_sub hl [0] rfl)
          · have hg := it_p hg c_82
            exact J39 _ _ _ _ hg hw (lv_sub hl [0] rfl)
  rw [g_X7_next] at hg
  exact L0 F _ _ _ _ hg hw (lv_sub hl [0] rfl)
set_option maxHeartbeats 4000000 in
set_option maxRecDepth 100000 in
theorem c_X7_puts (l : Launch) {G : GW} (hG : isM G) {F sz : Nat} {a1 : Int32} {σ σR : Sg} (hg : g_X7_puts F a1 σ = some σR) : Met l yX7_puts wsX7_puts ({ frames := 0, cells := 0, slots := 0, locals := 0 } : Room) (va_Pc [.ref (gAd G 0), .int a1] (PX G σ sz)) (QcV G (gA G sz) σR) 0 0 (gA G sz) := by
  refine metX (by decide) rfl (Nat.le_of_ble_eq_true rfl) ?_
  intro p e s m args below meth c ls S hr hlk hsz hA hK hw hl hmn
  have S : CallFix p m c cX7_puts 2 s args wsX7_puts RX7 := S
  obtain ⟨hx, hb, hml, hown, hts⟩ := id S
  have hl : lv_has ls 2 [(0, .ref (gAd G 0)), (1, .int a1)] := hl
  have hinX7 : ∀ w ∈ wsX70, w ∈ wsX7_puts := by decide +kernel
  rw [g_X7_puts] at hg
  refine lv_aload_n hx hb dX7_puts_0 rfl (lv_at hl 0 rfl) ?_
  refine r_getr (C := RX7) (T := TX7) (N := 43) (k' := 5) S hK hw (kM_0 hG).1 (kM_0 hG).2 rfl hinX7 8 (by decide) (o := 5) rfl rfl (hts (.fieldLink RX7 26 "SoupByRankModel" "codes" "[I") (by decide +kernel)) rfl dX7_puts_1 ?_
  refine lv_sipush (v := 200) hx hb dX7_puts_4 (by decide) ?_
  refine lv_aload_n hx hb dX7_puts_7 rfl (lv_at hl 0 rfl) ?_
  refine r_get (C := RX7) (T := TX7) (N := 43) S hK hw (kM_0 hG).1 (kM_0 hG).2 rfl hinX7 10 (by decide) rfl (hts (.fieldLink RX7 100 "SoupByRankModel" "texts" "I") (by decide +kernel)) rfl dX7_puts_8 ?_
  refine lv_imul hx hb dX7_puts_11 ?_
  refine lv_aload_n hx hb dX7_puts_12 rfl (lv_at hl 0 rfl) ?_
  refine r_get (C := RX7) (T := TX7) (N := 43) S hK hw (kM_0 hG).1 (kM_0 hG).2 rfl hinX7 27 (by decide) rfl (hts (.fieldLink RX7 126 "SoupByRankModel" "out" "I") (by decide +kernel)) rfl dX7_puts_13 ?_
  refine lv_iadd hx hb dX7_puts_16 ?_
  refine lv_iload_n hx hb dX7_puts_17 rfl (lv_at hl 1 rfl) ?_
  obtain ⟨h_2, s_1, e_3, hg⟩ := wrA_e hg
  refine r_iast S hK hw (kM_5 hG).1 (kM_5 hG).2 h_2 e_3 dX7_puts_18 (fun H locs hw => ?_)
  refine lv_aload_n hx hb dX7_puts_19 rfl (lv_at hl 0 rfl) ?_
  refine lv_dup hx hb dX7_puts_20 rfl ?_
  refine r_get (C := RX7) (T := TX7) (N := 43) S hK hw (kM_0 hG).1 (kM_0 hG).2 rfl hinX7 27 (by decide) rfl (hts (.fieldLink RX7 126 "SoupByRankModel" "out" "I") (by decide +kernel)) rfl dX7_puts_21 ?_
  refine lv_iconst (v := 1) hx hb dX7_puts_24 (by decide) ?_
  refine lv_iadd hx hb dX7_puts_25 ?_
  obtain ⟨s_4, e_5, hg⟩ := wrF_e hg
  refine r_put (C := RX7) (T := TX7) (N := 43) S hK hw (kM_0 hG).1 (kM_0 hG).2 rfl hinX7 tyX7_ok nmX7 27 (by decide) rfl rfl rfl rfl (hts (.fieldLink RX7 126 "SoupByRankModel" "out" "I") (by decide +kernel)) rfl e_5 dX7_puts_26 (fun H locs hw => ?_)
  exact r_vreti S hr hlk hw.2.2.2.2 hw hg dX7_puts_29
set_option maxHeartbeats 4000000 in
set_option maxRecDepth 100000 in
theorem c_X7_rank (l : Launch) {G : GW} (hG : isM G) {F sz : Nat} {a0 : Int32} {σ σR : Sg} {r : Int32} (hg : g_X7_rank F a0 σ = some (σR, r)) : Met l yX7_rank wsX7_rank ({ frames := 0, cells := 0, slots := 0, locals := 0 } : Room) (va_Pc [.int a0] (PX G σ sz)) (QcI G (gA G sz) σR r) 0 0 (gA G sz) := by
  refine metX (by decide) rfl (Nat.le_of_ble_eq_true rfl) ?_
  intro p e s m args below meth c ls S hr hlk hsz hA hK hw hl hmn
  have S : CallFix p m c cX7_rank 1 s args wsX7_rank RX7 := S
  obtain ⟨hx, hb, hml, hown, hts⟩ := id S
  have hl : lv_has ls 1 [(0, .int a0)] := hl
  rw [g_X7_rank] at hg
  refine lv_iload_n hx hb dX7_rank_0 rfl (lv_at hl 0 rfl) ?_
  refine lv_if_ne (tgt := 8) hx hb dX7_rank_1 (by decide) (fun c_1 => ?_) (fun c_1 => ?_)
  · have hg := it_n hg c_1
    refine lv_iload_n hx hb dX7_rank_8 rfl (lv_at hl 0 rfl) ?_
    refine lv_bipush (v := 11) hx hb dX7_rank_9 (by decide) ?_
    refine lv_icmp_ne (tgt := 18) hx hb dX7_rank_11 (by decide) (fun c_2 => ?_) (fun c_2 => ?_)
    · have hg := it_n hg c_2
      refine lv_iload_n hx hb dX7_rank_18 rfl (lv_at hl 0 rfl) ?_
      refine lv_bipush (v := 12) hx hb dX7_rank_19 (by decide) ?_
      refine lv_icmp_ne (tgt := 28) hx hb dX7_rank_21 (by decide) (fun c_3 => ?_) (fun c_3 => ?_)
      · have hg := it_n hg c_3
        refine lv_iload_n hx hb dX7_rank_28 rfl (lv_at hl 0 rfl) ?_
        refine lv_bipush (v := 13) hx hb dX7_rank_29 (by decide) ?_
        refine lv_icmp_ne (tgt := 38) hx hb dX7_rank_31 (by decide) (fun c_4 => ?_) (fun c_4 => ?_)
        · have hg := it_n hg c_4
          refine lv_iload_n hx hb dX7_rank_38 rfl (lv_at hl 0 rfl) ?_
          refine lv_bipush (v := 15) hx hb dX7_rank_39 (by decide) ?_
          refine lv_icmp_gt (tgt := 48) hx hb dX7_rank_41 (by decide) (fun c_5 => ?_) (fun c_5 => ?_)
          · have hg := it_p hg c_5
            refine lv_iload_n hx hb dX7_rank_48 rfl (lv_at hl 0 rfl) ?_
            refine lv_bipush (v := 17) hx hb dX7_rank_49 (by decide) ?_
            refine lv_icmp_gt (tgt := 58) hx hb dX7_rank_51 (by decide) (fun c_6 => ?_) (fun c_6 => ?_)
            · have hg := it_p hg c_6
              refine lv_iload_n hx hb dX7_rank_58 rfl (lv_at hl 0 rfl) ?_
              refine lv_bipush (v := 18) hx hb dX7_rank_59 (by decide) ?_
              refine lv_icmp_ne (tgt := 69) hx hb dX7_rank_61 (by decide) (fun c_7 => ?_) (fun c_7 => ?_)
              · have hg := it_n hg c_7
                refine lv_bipush (v := 7) hx hb dX7_rank_69 (by decide) ?_
                exact r_ireti S hr hlk hw.2.2.2.2 hw hg dX7_rank_71
              · have hg := it_p hg c_7
                refine lv_bipush (v := 6) hx hb dX7_rank_64 (by decide) ?_
                refine lv_goto (tgt := 71) hx hb dX7_rank_66 (by decide) ?_
                exact r_ireti S hr hlk hw.2.2.2.2 hw hg dX7_rank_71
            · have hg := it_n hg c_6
              refine lv_iconst (v := 5) hx hb dX7_rank_54 (by decide) ?_
              refine lv_goto (tgt := 71) hx hb dX7_rank_55 (by decide) ?_
              exact r_ireti S hr hlk hw.2.2.2.2 hw hg dX7_rank_71
          · have hg := it_n hg c_5
            refine lv_iconst (v := 4) hx hb dX7_rank_44 (by decide) ?_
            refine lv_goto (tgt := 71) hx hb dX7_rank_45 (by decide) ?_
            exact r_ireti S hr hlk hw.2.2.2.2 hw hg dX7_rank_71
        · have hg := it_p hg c_4
          refine lv_iconst (v := 3) hx hb dX7_rank_34 (by decide) ?_
          refine lv_goto (tgt := 71) hx hb dX7_rank_35 (by decide) ?_
          exact r_ireti S hr hlk hw.2.2.2.2 hw hg dX7_rank_71
      · have hg := it_p hg c_3
        refine lv_iconst (v := 2) hx hb dX7_rank_24 (by decide) ?_
        refine lv_goto (tgt := 71) hx hb dX7_rank_25 (by decide) ?_
        exact r_ireti S hr hlk hw.2.2.2.2 hw hg dX7_rank_71
    · have hg := it_p hg c_2
      refine lv_iconst (v := 1) hx hb dX7_rank_14 (by decide) ?_
      refine lv_goto (tgt := 71) hx hb dX7_rank_15 (by decide) ?_
      exact r_ireti S hr hlk hw.2.2.2.2 hw hg dX7_rank_71
  · have hg := it_p hg c_1
    refine lv_iconst (v := 0) hx hb dX7_rank_4 (by decide) ?_
    refine lv_goto (tgt := 71) hx hb dX7_rank_5 (by decide) ?_
    exact r_ireti S hr hlk hw.2.2.2.2 hw hg dX7_rank_71
set_option maxHeartbeats 4000000 in
set_option maxRecDepth 100000 in
theorem c_X7_unwinds (l : Launch) {G : GW} (hG : isM G) {F sz : Nat} {a1 : Int32} {σ σR : Sg} (hg : g_X7_unwinds F a1 σ = some σR) : Met l yX7_unwinds wsX7_unwinds ({ frames := 1, cells := 0, slots := 0, locals := 21 } : Room) (va_Pc [.ref (gAd G 0), .int a1] (PX G σ sz)) (QcV G (gA G sz) σR) 0 0 (gA G sz) := by
  refine metX (by decide) rfl (Nat.le_of_ble_eq_true rfl) ?_
  intro p e s m args below meth c ls S hr hlk hsz hA hK hw hl hmn
  have S : CallFix p m c cX7_unwinds 3 s args wsX7_unwinds RX7 := S
  obtain ⟨hx, hb, hml, hown, hts⟩ := id S
  have hl : lv_has ls 3 [(0, .ref (gAd G 0)), (1, .int a1)] := hl
  have hinX7 : ∀ w ∈ wsX70, w ∈ wsX7_unwinds := by decide +kernel
  have L0 : ∀ (v1 : Int32) (n0 : Nat) (σ : Sg) (H : Heap) (locs : List Loc) (ls : Array Slot) (hg : g_X7_unwinds_l0 F v1 n0 σ = some σR) (hw : XD G (gA G sz) s.heap σ H locs) (hl : lv_has ls 3 [(0, .ref (gAd G 0)), (1, .int v1)]), W p l e (headSpec wsX7_unwinds ({ frames := 1, cells := 0, slots := 0, locals := 21 } : Room)).room s m args below meth c H locs 0 0 (MQ below (QcV G (gA G sz) σR) args s 0 0 (gA G sz)) (F0 m 0 ls []) := by
    intro v1
    intro n0
    induction n0 with
    | zero => intro  σ H locs ls hg hw hl; exact no_e hg
    | succ n0 ih0 =>
      have J67 : ∀ (v2 : Int32) (u0 : Int32) (u1 : Int32) (σ : Sg) (H : Heap) (locs : List Loc) (ls : Array Slot) (hg : g_X7_unwinds_b67 F (fun σ_ => g_X7_unwinds_l0 F v1 n0 σ_) v1 v2 u0 u1 σ = some σR) (hw : XD G (gA G sz) s.heap σ H locs) (hl : lv_has ls 3 [(0, .ref (gAd G 0)), (1, .int v1), (2, .int v2)]), W p l e (headSpec wsX7_unwinds ({ frames := 1, cells := 0, slots := 0, locals := 21 } : Room)).room s m args below meth c H locs 0 0 (MQ below (QcV G (gA G sz) σR) args s 0 0 (gA G sz)) (F0 m 67 ls [.int u0, .int u1, .ref (gAd G 0)]) := by
        intro v2 u0 u1 σ H locs ls hg hw hl
        rw [g_X7_unwinds_b67] at hg
        refine lv_isub hx hb dX7_unwinds_67 ?_
        obtain ⟨s_1, e_2, hg⟩ := wrF_e hg
        refine r_put (C := RX7) (T := TX7) (N := 43) S hK hw (kM_0 hG).1 (kM_0 hG).2 rfl hinX7 tyX7_ok nmX7 26 (by decide) rfl rfl rfl rfl (hts (.fieldLink RX7 136 "SoupByRankModel" "opens" "I") (by decide +kernel)) rfl e_2 dX7_unwinds_68 (fun H locs hw => ?_)
        refine lv_aload_n hx hb dX7_unwinds_71 rfl (lv_at hl 0 rfl) ?_
        refine lv_iload_n hx hb dX7_unwinds_72 rfl (lv_at hl 2 rfl) ?_
        obtain ⟨s_3, h_5, hg⟩ := bnV_e hg
        refine r_vV (As := [.int v2]) (rest := []) S hA hK hw (c_X7_puts l hG  h_5) (cwV 1 hts gX7_unwinds_X7_puts rfl rfl rfl (by decide +kernel) ⟨Nat.le_of_ble_eq_true rfl, Nat.le_of_ble_eq_true rfl⟩) (r_recv hK hw (kM_0 hG).1 (kM_0 hG).2 rfl) rfl hl.1 (Nat.le_of_ble_eq_true rfl) dX7_unwinds_73 ⟨Nat.zero_le _, Nat.zero_le _⟩ rfl (fun H locs hw => ?_)
        refine lv_goto (tgt := 0) hx hb dX7_unwinds_76 (by decide) ?_
        exact ih0 _ _ _ _ hg hw (lv_sub hl [0, 1] rfl)
      have J62 : ∀ (v2 : Int32) (u0 : Int32) (σ : Sg) (H : Heap) (locs : List Loc) (ls : Array Slot) (hg : g_X7_unwinds_b62 F (fun σ_ => g_X7_unwinds_l0 F v1 n0 σ_) v1 v2 u0 σ = some σR) (hw : XD G (gA G sz) s.heap σ H locs) (hl : lv_has ls 3 [(0, .ref (gAd G 0)), (1, .int v1), (2, .int v2)]), W p l e (headSpec wsX7_unwinds ({ frames := 1, cells := 0, slots := 0, locals := 21 } : Room)).room s m args below meth c H locs 0 0 (MQ below (QcV G (gA G sz) σR) args s 0 0 (gA G sz)) (F0 m 62 ls [.int u0, .ref (gAd G 0)]) := by
        intro v2 u0 σ H locs ls hg hw hl
        rw [g_X7_unwinds_b62] at hg
        refine lv_iconst (v := 1) hx hb dX7_unwinds_62 (by decide) ?_
        refine lv_goto (tgt := 67) hx hb dX7_unwinds_63 (by decide) ?_
        exact J67 v2 1 u0 _ _ _ _ hg hw (lv_sub hl [0, 1, 2] rfl)
      intro  σ H locs ls hg hw hl
      rw [g_X7_unwinds_l0] at hg
      refine lv_aload_n hx hb dX7_unwinds_0 rfl (lv_at hl 0 rfl) ?_
      refine r_get (C := RX7) (T := TX7) (N := 43) S hK hw (kM_0 hG).1 (kM_0 hG).2 rfl hinX7 25 (by decide) rfl (hts (.fieldLink RX7 129 "SoupByRankModel" "heldMany" "I") (by decide +kernel)) rfl dX7_unwinds_1 ?_
      refine lv_if_le (tgt := 79) hx hb dX7_unwinds_4 (by decide) (fun c_6 => ?_) (fun c_6 => ?_)
      · have hg := it_p hg c_6
        exact r_vreti S hr hlk hw.2.2.2.2 hw hg dX7_unwinds_79
      · have hg := it_n hg c_6
        refine lv_aload_n hx hb dX7_unwinds_7 rfl (lv_at hl 0 rfl) ?_
        refine r_getr (C := RX7) (T := TX7) (N := 43) (k' := 14) S hK hw (kM_0 hG).1 (kM_0 hG).2 rfl hinX7 24 (by decide) (o := 14) rfl rfl (hts (.fieldLink RX7 53 "SoupByRankModel" "held" "[I") (by decide +kernel)) rfl dX7_unwinds_8 ?_
        refine lv_aload_n hx hb dX7_unwinds_11 rfl (lv_at hl 0 rfl) ?_
        refine r_get (C := RX7) (T := TX7) (N := 43) S hK hw (kM_0 hG).1 (kM_0 hG).2 rfl hinX7 25 (by decide) rfl (hts (.fieldLink RX7 129 "SoupByRankModel" "heldMany" "I") (by decide +kernel)) rfl dX7_unwinds_12 ?_
        refine lv_iconst (v := 1) hx hb dX7_unwinds_15 (by decide) ?_
        refine lv_isub hx hb dX7_unwinds_16 ?_
        obtain ⟨h_8, x_7, e_9, hg⟩ := rdA_e hg
        refine r_iald S hK hw (kM_14 hG).1 (kM_14 hG).2 h_8 e_9 dX7_unwinds_17 ?_
        obtain ⟨s_10, x_11, h_12, hg⟩ := bnI_e hg
        refine r_iS (As := [.int x_7]) (rest := []) S hA hK hw (c_X7_rank l hG  h_12) (va_cwS 1 hts gX7_unwinds_X7_rank rfl rfl rfl (by decide +kernel) ⟨Nat.le_of_ble_eq_true rfl, Nat.le_of_ble_eq_true rfl⟩) rfl hl.1 (Nat.le_of_ble_eq_true rfl) dX7_unwinds_18 ⟨Nat.zero_le _, Nat.zero_le _⟩ rfl (fun H locs hw => ?_)
        refine lv_iload_n hx hb dX7_unwinds_21 rfl (lv_at hl 1 rfl) ?_
        refine lv_icmp_lt (tgt := 79) hx hb dX7_unwinds_22 (by decide) (fun c_13 => ?_) (fun c_13 => ?_)
        · have hg := it_p hg c_13
          exact r_vreti S hr hlk hw.2.2.2.2 hw hg dX7_unwinds_79
        · have hg := it_n hg c_13
          refine lv_aload_n hx hb dX7_unwinds_25 rfl (lv_at hl 0 rfl) ?_
          refine lv_dup hx hb dX7_unwinds_26 rfl ?_
          refine r_get (C := RX7) (T := TX7) (N := 43) S hK hw (kM_0 hG).1 (kM_0 hG).2 rfl hinX7 25 (by decide) rfl (hts (.fieldLink RX7 129 "SoupByRankModel" "heldMany" "I") (by decide +kernel)) rfl dX7_unwinds_27 ?_
          refine lv_iconst (v := 1) hx hb dX7_unwinds_30 (by decide) ?_
          refine lv_isub hx hb dX7_unwinds_31 ?_
          obtain ⟨s_14, e_15, hg⟩ := wrF_e hg
          refine r_put (C := RX7) (T := TX7) (N := 43) S hK hw (kM_0 hG).1 (kM_0 hG).2 rfl hinX7 tyX7_ok nmX7 25 (by decide) rfl rfl rfl rfl (hts (.fieldLink RX7 129 "SoupByRankModel" "heldMany" "I") (by decide +kernel)) rfl e_15 dX7_unwinds_32 (fun H locs hw => ?_)
          refine lv_aload_n hx hb dX7_unwinds_35 rfl (lv_at hl 0 rfl) ?_
          refine r_getr (C := RX7) (T := TX7) (N := 43) (k' := 14) S hK hw (kM_0 hG).1 (kM_0 hG).2 rfl hinX7 24 (by decide) (o := 14) rfl rfl (hts (.fieldLink RX7 53 "SoupByRankModel" "held" "[I") (by decide +kernel)) rfl dX7_unwinds_36 ?_
          refine lv_aload_n hx hb dX7_unwinds_39 rfl (lv_at hl 0 rfl) ?_
          refine r_get (C := RX7) (T := TX7) (N := 43) S hK hw (kM_0 hG).1 (kM_0 hG).2 rfl hinX7 25 (by decide) rfl (hts (.fieldLink RX7 129 "SoupByRankModel" "heldMany" "I") (by decide +kernel)) rfl dX7_unwinds_40 ?_
          obtain ⟨h_17, x_16, e_18, hg⟩ := rdA_e hg
          refine r_iald S hK hw (kM_14 hG).1 (kM_14 hG).2 h_17 e_18 dX7_unwinds_43 ?_
          refine lv_istore_n (lv' := [(2, .int x_16), (0, .ref (gAd G 0)), (1, .int v1)]) hx hb dX7_unwinds_44 rfl hl (by decide) rfl (fun ls hl => ?_)
          refine lv_aload_n hx hb dX7_unwinds_45 rfl (lv_at hl 1 rfl) ?_
          refine lv_dup hx hb dX7_unwinds_46 rfl ?_
          refine r_get (C := RX7) (T := TX7) (N := 43) S hK hw (kM_0 hG).1 (kM_0 hG).2 rfl hinX7 26 (by decide) rfl (hts (.fieldLink RX7 136 "SoupByRankModel" "opens" "I") (by decide +kernel)) rfl dX7_unwinds_47 ?_
          refine lv_iload_n hx hb dX7_unwinds_50 rfl (lv_at hl 0 rfl) ?_
          refine lv_bipush (v := 13) hx hb dX7_unwinds_51 (by decide) ?_
          refine lv_icmp_eq (tgt := 62) hx hb dX7_unwinds_53 (by decide) (fun c_19 => ?_) (fun c_19 => ?_)
          · have hg := it_p hg c_19
            exact J62 x_16 (s_14 0 26) _ _ _ _ hg hw (lv_sub hl [1, 2, 0] rfl)
          · have hg := it_n hg c_19
            refine lv_iload_n hx hb dX7_unwinds_56 rfl (lv_at hl 0 rfl) ?_
            refine lv_bipush (v := 19) hx hb dX7_unwinds_57 (by decide) ?_
            refine lv_icmp_ne (tgt := 66) hx hb dX7_unwinds_59 (by decide) (fun c_20 => ?_) (fun c_20 => ?_)
            · have hg := it_n hg c_20
              refine lv_iconst (v := 0) hx hb dX7_unwinds_66 (by decide) ?_
              exact J67 x_16 0 (s_14 0 26) _ _ _ _ hg hw (lv_sub hl [1, 2, 0] rfl)
            · have hg := it_p hg c_20
              exact J62 x_16 (s_14 0 26) _ _ _ _ hg hw (lv_sub hl [1, 2, 0] rfl)
  rw [g_X7_unwinds] at hg
  exact L0 a1 F _ _ _ _ hg hw (lv_sub hl [0, 1] rfl)
set_option maxHeartbeats 4000000 in
set_option maxRecDepth 100000 in
theorem c_X7_holds (l : Launch) {G : GW} (hG : isM G) {F sz : Nat} {a1 : Int32} {σ σR : Sg} (hg : g_X7_holds F a1 σ = some σR) : Met l yX7_holds wsX7_holds ({ frames := 0, cells := 0, slots := 0, locals := 0 } : Room) (va_Pc [.ref (gAd G 0), .int a1] (PX G σ sz)) (QcV G (gA G sz) σR) 0 0 (gA G sz) := by
  refine metX (by decide) rfl (Nat.le_of_ble_eq_true rfl) ?_
  intro p e s m args below meth c ls S hr hlk hsz hA hK hw hl hmn
  have S : CallFix p m c cX7_holds 2 s args wsX7_holds RX7 := S
  obtain ⟨hx, hb, hml, hown, hts⟩ := id S
  have hl : lv_has ls 2 [(0, .ref (gAd G 0)), (1, .int a1)] := hl
  have hinX7 : ∀ w ∈ wsX70, w ∈ wsX7_holds := by decide +kernel
  rw [g_X7_holds] at hg
  refine lv_aload_n hx hb dX7_holds_0 rfl (lv_at hl 0 rfl) ?_
  refine r_getr (C := RX7) (T := TX7) (N := 43) (k' := 14) S hK hw (kM_0 hG).1 (kM_0 hG).2 rfl hinX7 24 (by decide) (o := 14) rfl rfl (hts (.fieldLink RX7 53 "SoupByRankModel" "held" "[I") (by decide +kernel)) rfl dX7_holds_1 ?_
  refine lv_aload_n hx hb dX7_holds_4 rfl (lv_at hl 0 rfl) ?_
  refine r_get (C := RX7) (T := TX7) (N := 43) S hK hw (kM_0 hG).1 (kM_0 hG).2 rfl hinX7 25 (by decide) rfl (hts (.fieldLink RX7 129 "SoupByRankModel" "heldMany" "I") (by decide +kernel)) rfl dX7_holds_5 ?_
  refine lv_iload_n hx hb dX7_holds_8 rfl (lv_at hl 1 rfl) ?_
  obtain ⟨h_2, s_1, e_3, hg⟩ := wrA_e hg
  refine r_iast S hK hw (kM_14 hG).1 (kM_14 hG).2 h_2 e_3 dX7_holds_9 (fun H locs hw => ?_)
  refine lv_aload_n hx hb dX7_holds_10 rfl (lv_at hl 0 rfl) ?_
  refine lv_dup hx hb dX7_holds_11 rfl ?_
  refine r_get (C := RX7) (T := TX7) (N := 43) S hK hw (kM_0 hG).1 (kM_0 hG).2 rfl hinX7 25 (by decide) rfl (hts (.fieldLink RX7 129 "SoupByRankModel" "heldMany" "I") (by decide +kernel)) rfl dX7_holds_12 ?_
  refine lv_iconst (v := 1) hx hb dX7_holds_15 (by decide) ?_
  refine lv_iadd hx hb dX7_holds_16 ?_
  obtain ⟨s_4, e_5, hg⟩ := wrF_e hg
  refine r_put (C := RX7) (T := TX7) (N := 43) S hK hw (kM_0 hG).1 (kM_0 hG).2 rfl hinX7 tyX7_ok nmX7 25 (by decide) rfl rfl rfl rfl (hts (.fieldLink RX7 129 "SoupByRankModel" "heldMany" "I") (by decide +kernel)) rfl e_5 dX7_holds_17 (fun H locs hw => ?_)
  exact r_vreti S hr hlk hw.2.2.2.2 hw hg dX7_holds_20
set_option maxHeartbeats 4000000 in
set_option maxRecDepth 100000 in
theorem c_X7_opensOne (l : Launch) {G : GW} (hG : isM G) {F sz : Nat} {a1 : Int32} {σ σR : Sg} {r : Int32} (hg : g_X7_opensOne F a1 σ = some (σR, r)) : Met l yX7_opensOne wsX7_opensOne ({ frames := 1, cells := 0, slots := 0, locals := 21 } : Room) (va_Pc [.ref (gAd G 0), .int a1] (PX G σ sz)) (QcI G (gA G sz) σR r) 0 0 (gA G sz) := by
  refine metX (by decide) rfl (Nat.le_of_ble_eq_true rfl) ?_
  intro p e s m args below meth c ls S hr hlk hsz hA hK hw hl hmn
  have S : CallFix p m c cX7_opensOne 2 s args wsX7_opensOne RX7 := S
  obtain ⟨hx, hb, hml, hown, hts⟩ := id S
  have hl : lv_has ls 2 [(0, .ref (gAd G 0)), (1, .int a1)] := hl
  have hinX7 : ∀ w ∈ wsX70, w ∈ wsX7_opensOne := by decide +kernel
  rw [g_X7_opensOne] at hg
  refine lv_aload_n hx hb dX7_opensOne_0 rfl (lv_at hl 0 rfl) ?_
  refine r_get (C := RX7) (T := TX7) (N := 43) S hK hw (kM_0 hG).1 (kM_0 hG).2 rfl hinX7 26 (by decide) rfl (hts (.fieldLink RX7 136 "SoupByRankModel" "opens" "I") (by decide +kernel)) rfl dX7_opensOne_1 ?_
  refine lv_iconst (v := 5) hx hb dX7_opensOne_4 (by decide) ?_
  refine lv_icmp_ne (tgt := 10) hx hb dX7_opensOne_5 (by decide) (fun c_1 => ?_) (fun c_1 => ?_)
  · have hg := it_n hg c_1
    refine lv_aload_n hx hb dX7_opensOne_10 rfl (lv_at hl 0 rfl) ?_
    refine lv_dup hx hb dX7_opensOne_11 rfl ?_
    refine r_get (C := RX7) (T := TX7) (N := 43) S hK hw (kM_0 hG).1 (kM_0 hG).2 rfl hinX7 26 (by decide) rfl (hts (.fieldLink RX7 136 "SoupByRankModel" "opens" "I") (by decide +kernel)) rfl dX7_opensOne_12 ?_
    refine lv_iconst (v := 1) hx hb dX7_opensOne_15 (by decide) ?_
    refine lv_iadd hx hb dX7_opensOne_16 ?_
    obtain ⟨s_2, e_3, hg⟩ := wrF_e hg
    refine r_put (C := RX7) (T := TX7) (N := 43) S hK hw (kM_0 hG).1 (kM_0 hG).2 rfl hinX7 tyX7_ok nmX7 26 (by decide) rfl rfl rfl rfl (hts (.fieldLink RX7 136 "SoupByRankModel" "opens" "I") (by decide +kernel)) rfl e_3 dX7_opensOne_17 (fun H locs hw => ?_)
    refine lv_aload_n hx hb dX7_opensOne_20 rfl (lv_at hl 0 rfl) ?_
    refine lv_iload_n hx hb dX7_opensOne_21 rfl (lv_at hl 1 rfl) ?_
    obtain ⟨s_4, h_6, hg⟩ := bnV_e hg
    refine r_vV (As := [.int a1]) (rest := []) S hA hK hw (c_X7_holds l hG  h_6) (cwV 1 hts gX7_opensOne_X7_holds rfl rfl rfl (by decide +kernel) ⟨Nat.le_of_ble_eq_true rfl, Nat.le_of_ble_eq_true rfl⟩) (r_recv hK hw (kM_0 hG).1 (kM_0 hG).2 rfl) rfl hl.1 (Nat.le_of_ble_eq_true rfl) dX7_opensOne_22 ⟨Nat.zero_le _, Nat.zero_le _⟩ rfl (fun H locs hw => ?_)
    refine lv_iconst (v := 1) hx hb dX7_opensOne_25 (by decide) ?_
    exact r_iretz S hr rfl hlk hw.2.2.2.2 hw hg dX7_opensOne_26
  · have hg := it_p hg c_1
    refine lv_iconst (v := 0) hx hb dX7_opensOne_8 (by decide) ?_
    exact r_iretz S hr rfl hlk hw.2.2.2.2 hw hg dX7_opensOne_9
set_option maxHeartbeats 4000000 in
set_option maxRecDepth 100000 in
theorem c_X7_signOf (l : Launch) {G : GW} (hG : isM G) {F sz : Nat} {σ σR : Sg} {r : Int32} (hg : g_X7_signOf F σ = some (σR, r)) : Met l yX7_signOf wsX7_signOf ({ frames := 0, cells := 0, slots := 0, locals := 0 } : Room) (va_Pc [.ref (gAd G 0)] (PX G σ sz)) (QcI G (gA G sz) σR r) 0 0 (gA G sz) := by
  refine metX (by decide) rfl (Nat.le_of_ble_eq_true rfl) ?_
  intro p e s m args below meth c ls S hr hlk hsz hA hK hw hl hmn
  have S : CallFix p m c cX7_signOf 1 s args wsX7_signOf RX7 := S
  obtain ⟨hx, hb, hml, hown, hts⟩ := id S
  have hl : lv_has ls 1 [(0, .ref (gAd G 0))] := hl
  have hinX7 : ∀ w ∈ wsX70, w ∈ wsX7_signOf := by decide +kernel
  rw [g_X7_signOf] at hg
  refine lv_aload_n hx hb dX7_signOf_0 rfl (lv_at hl 0 rfl) ?_
  refine r_get (C := RX7) (T := TX7) (N := 43) S hK hw (kM_0 hG).1 (kM_0 hG).2 rfl hinX7 21 (by decide) rfl (hts (.fieldLink RX7 116 "SoupByRankModel" "token" "I") (by decide +kernel)) rfl dX7_signOf_1 ?_
  refine lv_iconst (v := 4) hx hb dX7_signOf_4 (by decide) ?_
  refine lv_icmp_ne (tgt := 13) hx hb dX7_signOf_5 (by decide) (fun c_1 => ?_) (fun c_1 => ?_)
  · have hg := it_n hg c_1
    refine lv_aload_n hx hb dX7_signOf_13 rfl (lv_at hl 0 rfl) ?_
    refine r_get (C := RX7) (T := TX7) (N := 43) S hK hw (kM_0 hG).1 (kM_0 hG).2 rfl hinX7 21 (by decide) rfl (hts (.fieldLink RX7 116 "SoupByRankModel" "token" "I") (by decide +kernel)) rfl dX7_signOf_14 ?_
    refine lv_iconst (v := 5) hx hb dX7_signOf_17 (by decide) ?_
    refine lv_icmp_ne (tgt := 26) hx hb dX7_signOf_18 (by decide) (fun c_2 => ?_) (fun c_2 => ?_)
    · have hg := it_n hg c_2
      refine lv_aload_n hx hb dX7_signOf_26 rfl (lv_at hl 0 rfl) ?_
      refine r_get (C := RX7) (T := TX7) (N := 43) S hK hw (kM_0 hG).1 (kM_0 hG).2 rfl hinX7 21 (by decide) rfl (hts (.fieldLink RX7 116 "SoupByRankModel" "token" "I") (by decide +kernel)) rfl dX7_signOf_27 ?_
      refine lv_bipush (v := 60) hx hb dX7_signOf_30 (by decide) ?_
      refine lv_icmp_ne (tgt := 40) hx hb dX7_signOf_32 (by decide) (fun c_3 => ?_) (fun c_3 => ?_)
      · have hg := it_n hg c_3
        refine lv_aload_n hx hb dX7_signOf_40 rfl (lv_at hl 0 rfl) ?_
        refine r_get (C := RX7) (T := TX7) (N := 43) S hK hw (kM_0 hG).1 (kM_0 hG).2 rfl hinX7 21 (by decide) rfl (hts (.fieldLink RX7 116 "SoupByRankModel" "token" "I") (by decide +kernel)) rfl dX7_signOf_41 ?_
        refine lv_bipush (v := 61) hx hb dX7_signOf_44 (by decide) ?_
        refine lv_icmp_ne (tgt := 54) hx hb dX7_signOf_46 (by decide) (fun c_4 => ?_) (fun c_4 => ?_)
        · have hg := it_n hg c_4
          refine lv_aload_n hx hb dX7_signOf_54 rfl (lv_at hl 0 rfl) ?_
          refine r_get (C := RX7) (T := TX7) (N := 43) S hK hw (kM_0 hG).1 (kM_0 hG).2 rfl hinX7 21 (by decide) rfl (hts (.fieldLink RX7 116 "SoupByRankModel" "token" "I") (by decide +kernel)) rfl dX7_signOf_55 ?_
          refine lv_bipush (v := 43) hx hb dX7_signOf_58 (by decide) ?_
          refine lv_icmp_ne (tgt := 68) hx hb dX7_signOf_60 (by decide) (fun c_5 => ?_) (fun c_5 => ?_)
          · have hg := it_n hg c_5
            refine lv_aload_n hx hb dX7_signOf_68 rfl (lv_at hl 0 rfl) ?_
            refine r_get (C := RX7) (T := TX7) (N := 43) S hK hw (kM_0 hG).1 (kM_0 hG).2 rfl hinX7 21 (by decide) rfl (hts (.fieldLink RX7 116 "SoupByRankModel" "token" "I") (by decide +kernel)) rfl dX7_signOf_69 ?_
            refine lv_bipush (v := 45) hx hb dX7_signOf_72 (by decide) ?_
            refine lv_icmp_ne (tgt := 82) hx hb dX7_signOf_74 (by decide) (fun c_6 => ?_) (fun c_6 => ?_)
            · have hg := it_n hg c_6
              refine lv_aload_n hx hb dX7_signOf_82 rfl (lv_at hl 0 rfl) ?_
              refine r_get (C := RX7) (T := TX7) (N := 43) S hK hw (kM_0 hG).1 (kM_0 hG).2 rfl hinX7 21 (by decide) rfl (hts (.fieldLink RX7 116 "SoupByRankModel" "token" "I") (by decide +kernel)) rfl dX7_signOf_83 ?_
              refine lv_bipush (v := 42) hx hb dX7_signOf_86 (by decide) ?_
              refine lv_icmp_ne (tgt := 96) hx hb dX7_signOf_88 (by decide) (fun c_7 => ?_) (fun c_7 => ?_)
              · have hg := it_n hg c_7
                refine lv_iconst (v := (-1)) hx hb dX7_signOf_96 (by decide) ?_
                exact r_ireti S hr hlk hw.2.2.2.2 hw hg dX7_signOf_97
              · have hg := it_p hg c_7
                refine lv_bipush (v := 18) hx hb dX7_signOf_91 (by decide) ?_
                refine lv_goto (tgt := 97) hx hb dX7_signOf_93 (by decide) ?_
                exact r_ireti S hr hlk hw.2.2.2.2 hw hg dX7_signOf_97
            · have hg := it_p hg c_6
              refine lv_bipush (v := 17) hx hb dX7_signOf_77 (by decide) ?_
              refine lv_goto (tgt := 97) hx hb dX7_signOf_79 (by decide) ?_
              exact r_ireti S hr hlk hw.2.2.2.2 hw hg dX7_signOf_97
          · have hg := it_p hg c_5
            refine lv_bipush (v := 16) hx hb dX7_signOf_63 (by decide) ?_
            refine lv_goto (tgt := 97) hx hb dX7_signOf_65 (by decide) ?_
            exact r_ireti S hr hlk hw.2.2.2.2 hw hg dX7_signOf_97
        · have hg := it_p hg c_4
          refine lv_bipush (v := 15) hx hb dX7_signOf_49 (by decide) ?_
          refine lv_goto (tgt := 97) hx hb dX7_signOf_51 (by decide) ?_
          exact r_ireti S hr hlk hw.2.2.2.2 hw hg dX7_signOf_97
      · have hg := it_p hg c_3
        refine lv_bipush (v := 14) hx hb dX7_signOf_35 (by decide) ?_
        refine lv_goto (tgt := 97) hx hb dX7_signOf_37 (by decide) ?_
        exact r_ireti S hr hlk hw.2.2.2.2 hw hg dX7_signOf_97
    · have hg := it_p hg c_2
      refine lv_bipush (v := 12) hx hb dX7_signOf_21 (by decide) ?_
      refine lv_goto (tgt := 97) hx hb dX7_signOf_23 (by decide) ?_
      exact r_ireti S hr hlk hw.2.2.2.2 hw hg dX7_signOf_97
  · have hg := it_p hg c_1
    refine lv_bipush (v := 11) hx hb dX7_signOf_8 (by decide) ?_
    refine lv_goto (tgt := 97) hx hb dX7_signOf_10 (by decide) ?_
    exact r_ireti S hr hlk hw.2.2.2.2 hw hg dX7_signOf_97
set_option maxHeartbeats 4000000 in
set_option maxRecDepth 100000 in
theorem c_X7_between (l : Launch) {G : GW} (hG : isM G) {F sz : Nat} {a1 : Int32} {σ σR : Sg} {r : Int32} (hg : g_X7_between F a1 σ = some (σR, r)) : Met l yX7_between wsX7_between ({ frames := 2, cells := 0, slots := 0, locals := 43 } : Room) (va_Pc [.ref (gAd G 0), .int a1] (PX G σ sz)) (QcI G (gA G sz) σR r) 0 0 (gA G sz) := by
  refine metX (by decide) rfl (Nat.le_of_ble_eq_true rfl) ?_
  intro p e s m args below meth c ls S hr hlk hsz hA hK hw hl hmn
  have S : CallFix p m c cX7_between 2 s args wsX7_between RX7 := S
  obtain ⟨hx, hb, hml, hown, hts⟩ := id S
  have hl : lv_has ls 2 [(0, .ref (gAd G 0)), (1, .int a1)] := hl
  have hinX7 : ∀ w ∈ wsX70, w ∈ wsX7_between := by decide +kernel
  have J55 : ∀ (v1 : Int32) (σ : Sg) (H : Heap) (locs : List Loc) (ls : Array Slot) (hg : g_X7_between_b55 F v1 σ = some (σR, r)) (hw : XD G (gA G sz) s.heap σ H locs) (hl : lv_has ls 2 [(0, .ref (gAd G 0)), (1, .int v1)]), W p l e (headSpec wsX7_between ({ frames := 2, cells := 0, slots := 0, locals := 43 } : Room)).room s m args below meth c H locs 0 0 (MQ below (QcI G (gA G sz) σR r) args s 0 0 (gA G sz)) (F0 m 55 ls []) := by
    intro v1 σ H locs ls hg hw hl
    rw [g_X7_between_b55] at hg
    refine lv_aload_n hx hb dX7_between_55 rfl (lv_at hl 0 rfl) ?_
    refine lv_iload_n hx hb dX7_between_56 rfl (lv_at hl 1 rfl) ?_
    obtain ⟨s_1, h_3, hg⟩ := bnV_e hg
    refine r_vV (As := [.int v1]) (rest := []) S hA hK hw (c_X7_holds l hG  h_3) (cwV 1 hts gX7_between_X7_holds rfl rfl rfl (by decide +kernel) ⟨Nat.le_of_ble_eq_true rfl, Nat.le_of_ble_eq_true rfl⟩) (r_recv hK hw (kM_0 hG).1 (kM_0 hG).2 rfl) rfl hl.1 (Nat.le_of_ble_eq_true rfl) dX7_between_57 ⟨Nat.zero_le _, Nat.zero_le _⟩ rfl (fun H locs hw => ?_)
    refine lv_iconst (v := 1) hx hb dX7_between_60 (by decide) ?_
    exact r_iretz S hr rfl hlk hw.2.2.2.2 hw hg dX7_between_61
  have J17 : ∀ (v1 : Int32) (u0 : Int32) (σ : Sg) (H : Heap) (locs : List Loc) (ls : Array Slot) (hg : g_X7_between_b17 F v1 u0 σ = some (σR, r)) (hw : XD G (gA G sz) s.heap σ H locs) (hl : lv_has ls 2 [(0, .ref (gAd G 0)), (1, .int v1)]), W p l e (headSpec wsX7_between ({ frames := 2, cells := 0, slots := 0, locals := 43 } : Room)).room s m args below meth c H locs 0 0 (MQ below (QcI G (gA G sz) σR r) args s 0 0 (gA G sz)) (F0 m 17 ls [.int u0, .ref (gAd G 0)]) := by
    intro v1 u0 σ H locs ls hg hw hl
    rw [g_X7_between_b17] at hg
    obtain ⟨s_4, h_6, hg⟩ := bnV_e hg
    refine r_vV (As := [.int u0]) (rest := []) S hA hK hw (c_X7_unwinds l hG  h_6) (cwV 1 hts gX7_between_X7_unwinds rfl rfl rfl (by decide +kernel) ⟨Nat.le_of_ble_eq_true rfl, Nat.le_of_ble_eq_true rfl⟩) (r_recv hK hw (kM_0 hG).1 (kM_0 hG).2 rfl) rfl hl.1 (Nat.le_of_ble_eq_true rfl) dX7_between_17 ⟨Nat.zero_le _, Nat.zero_le _⟩ rfl (fun H locs hw => ?_)
    refine lv_iload_n hx hb dX7_between_20 rfl (lv_at hl 1 rfl) ?_
    obtain ⟨s_7, x_8, h_9, hg⟩ := bnI_e hg
    refine r_iS (As := [.int v1]) (rest := []) S hA hK hw (c_X7_rank l hG  h_9) (va_cwS 1 hts gX7_between_X7_rank rfl rfl rfl (by decide +kernel) ⟨Nat.le_of_ble_eq_true rfl, Nat.le_of_ble_eq_true rfl⟩) rfl hl.1 (Nat.le_of_ble_eq_true rfl) dX7_between_21 ⟨Nat.zero_le _, Nat.zero_le _⟩ rfl (fun H locs hw => ?_)
    refine lv_iconst (v := 4) hx hb dX7_between_24 (by decide) ?_
    refine lv_icmp_ne (tgt := 55) hx hb dX7_between_25 (by decide) (fun c_10 => ?_) (fun c_10 => ?_)
    · have hg := it_n hg c_10
      exact J55 v1 _ _ _ _ hg hw (lv_sub hl [0, 1] rfl)
    · have hg := it_p hg c_10
      refine lv_aload_n hx hb dX7_between_28 rfl (lv_at hl 0 rfl) ?_
      refine r_get (C := RX7) (T := TX7) (N := 43) S hK hw (kM_0 hG).1 (kM_0 hG).2 rfl hinX7 25 (by decide) rfl (hts (.fieldLink RX7 129 "SoupByRankModel" "heldMany" "I") (by decide +kernel)) rfl dX7_between_29 ?_
      refine lv_if_le (tgt := 55) hx hb dX7_between_32 (by decide) (fun c_11 => ?_) (fun c_11 => ?_)
      · have hg := it_p hg c_11
        exact J55 v1 _ _ _ _ hg hw (lv_sub hl [0, 1] rfl)
      · have hg := it_n hg c_11
        refine lv_aload_n hx hb dX7_between_35 rfl (lv_at hl 0 rfl) ?_
        refine r_getr (C := RX7) (T := TX7) (N := 43) (k' := 14) S hK hw (kM_0 hG).1 (kM_0 hG).2 rfl hinX7 24 (by decide) (o := 14) rfl rfl (hts (.fieldLink RX7 53 "SoupByRankModel" "held" "[I") (by decide +kernel)) rfl dX7_between_36 ?_
        refine lv_aload_n hx hb dX7_between_39 rfl (lv_at hl 0 rfl) ?_
        refine r_get (C := RX7) (T := TX7) (N := 43) S hK hw (kM_0 hG).1 (kM_0 hG).2 rfl hinX7 25 (by decide) rfl (hts (.fieldLink RX7 129 "SoupByRankModel" "heldMany" "I") (by decide +kernel)) rfl dX7_between_40 ?_
        refine lv_iconst (v := 1) hx hb dX7_between_43 (by decide) ?_
        refine lv_isub hx hb dX7_between_44 ?_
        obtain ⟨h_13, x_12, e_14, hg⟩ := rdA_e hg
        refine r_iald S hK hw (kM_14 hG).1 (kM_14 hG).2 h_13 e_14 dX7_between_45 ?_
        obtain ⟨s_15, x_16, h_17, hg⟩ := bnI_e hg
        refine r_iS (As := [.int x_12]) (rest := []) S hA hK hw (c_X7_rank l hG  h_17) (va_cwS 1 hts gX7_between_X7_rank rfl rfl rfl (by decide +kernel) ⟨Nat.le_of_ble_eq_true rfl, Nat.le_of_ble_eq_true rfl⟩) rfl hl.1 (Nat.le_of_ble_eq_true rfl) dX7_between_46 ⟨Nat.zero_le _, Nat.zero_le _⟩ rfl (fun H locs hw => ?_)
        refine lv_iconst (v := 4) hx hb dX7_between_49 (by decide) ?_
        refine lv_icmp_ne (tgt := 55) hx hb dX7_between_50 (by decide) (fun c_18 => ?_) (fun c_18 => ?_)
        · have hg := it_n hg c_18
          exact J55 v1 _ _ _ _ hg hw (lv_sub hl [0, 1] rfl)
        · have hg := it_p hg c_18
          refine lv_iconst (v := 0) hx hb dX7_between_53 (by decide) ?_
          exact r_iretz S hr rfl hlk hw.2.2.2.2 hw hg dX7_between_54
  rw [g_X7_between] at hg
  refine lv_aload_n hx hb dX7_between_0 rfl (lv_at hl 0 rfl) ?_
  refine lv_iload_n hx hb dX7_between_1 rfl (lv_at hl 1 rfl) ?_
  obtain ⟨s_19, x_20, h_21, hg⟩ := bnI_e hg
  refine r_iS (As := [.int a1]) (rest := [.ref (gAd G 0)]) S hA hK hw (c_X7_rank l hG  h_21) (va_cwS 1 hts gX7_between_X7_rank rfl rfl rfl (by decide +kernel) ⟨Nat.le_of_ble_eq_true rfl, Nat.le_of_ble_eq_true rfl⟩) rfl hl.1 (Nat.le_of_ble_eq_true rfl) dX7_between_2 ⟨Nat.zero_le _, Nat.zero_le _⟩ rfl (fun H locs hw => ?_)
  refine lv_iconst (v := 4) hx hb dX7_between_5 (by decide) ?_
  refine lv_icmp_ne (tgt := 13) hx hb dX7_between_6 (by decide) (fun c_22 => ?_) (fun c_22 => ?_)
  · have hg := it_n hg c_22
    refine lv_iload_n hx hb dX7_between_13 rfl (lv_at hl 1 rfl) ?_
    obtain ⟨s_23, x_24, h_25, hg⟩ := bnI_e hg
    refine r_iS (As := [.int a1]) (rest := [.ref (gAd G 0)]) S hA hK hw (c_X7_rank l hG  h_25) (va_cwS 1 hts gX7_between_X7_rank rfl rfl rfl (by decide +kernel) ⟨Nat.le_of_ble_eq_true rfl, Nat.le_of_ble_eq_true rfl⟩) rfl hl.1 (Nat.le_of_ble_eq_true rfl) dX7_between_14 ⟨Nat.zero_le _, Nat.zero_le _⟩ rfl (fun H locs hw => ?_)
    exact J17 a1 x_24 _ _ _ _ hg hw (lv_sub hl [0, 1] rfl)
  · have hg := it_p hg c_22
    refine lv_iconst (v := 5) hx hb dX7_between_9 (by decide) ?_
    refine lv_goto (tgt := 17) hx hb dX7_between_10 (by decide) ?_
    exact J17 a1 5 _ _ _ _ hg hw (lv_sub hl [0, 1] rfl)
set_option maxHeartbeats 4000000 in
set_option maxRecDepth 100000 in
theorem c_X7_eRead (l : Launch) {G : GW} (hG : isM G) {F sz : Nat} {σ σR : Sg} {r : Int32} (hg : g_X7_eRead F σ = some (σR, r)) : Met l yX7_eRead wsX7_eRead ({ frames := 3, cells := 0, slots := 0, locals := 64 } : Room) (va_Pc [.ref (gAd G 0)] (PX G σ sz)) (QcI G (gA G sz) σR r) 0 0 (gA G sz) := by
  refine metX (by decide) rfl (Nat.le_of_ble_eq_true rfl) ?_
  intro p e s m args below meth c ls S hr hlk hsz hA hK hw hl hmn
  have S : CallFix p m c cX7_eRead 4 s args wsX7_eRead RX7 := S
  obtain ⟨hx, hb, hml, hown, hts⟩ := id S
  have hl : lv_has ls 4 [(0, .ref (gAd G 0))] := hl
  have hinX7 : ∀ w ∈ wsX70, w ∈ wsX7_eRead := by decide +kernel
  have L14 : ∀ (n14 : Nat) (v1 : Int32) (v2 : Int32) (σ : Sg) (H : Heap) (locs : List Loc) (ls : Array Slot) (hg : g_X7_eRead_l14 F n14 v1 v2 σ = some (σR, r)) (hw : XD G (gA G sz) s.heap σ H locs) (hl : lv_has ls 4 [(0, .ref (gAd G 0)), (1, .int v1), (2, .int v2)]), W p l e (headSpec wsX7_eRead ({ frames := 3, cells := 0, slots := 0, locals := 64 } : Room)).room s m args below meth c H locs 0 0 (MQ below (QcI G (gA G sz) σR r) args s 0 0 (gA G sz)) (F0 m 14 ls []) := by
    intro n14
    induction n14 with
    | zero => intro v1 v2 σ H locs ls hg hw hl; exact no_e hg
    | succ n14 ih14 =>
      have J262 : ∀ (v1 : Int32) (u0 : Int32) (σ : Sg) (H : Heap) (locs : List Loc) (ls : Array Slot) (hg : g_X7_eRead_b262 F (fun v1_ v2_ σ_ => g_X7_eRead_l14 F n14 v1_ v2_ σ_) v1 u0 σ = some (σR, r)) (hw : XD G (gA G sz) s.heap σ H locs) (hl : lv_has ls 4 [(0, .ref (gAd G 0)), (1, .int v1)]), W p l e (headSpec wsX7_eRead ({ frames := 3, cells := 0, slots := 0, locals := 64 } : Room)).room s m args below meth c H locs 0 0 (MQ below (QcI G (gA G sz) σR r) args s 0 0 (gA G sz)) (F0 m 262 ls [.int u0]) := by
        intro v1 u0 σ H locs ls hg hw hl
        rw [g_X7_eRead_b262] at hg
        refine lv_istore_n (lv' := [(2, .int u0), (0, .ref (gAd G 0)), (1, .int v1)]) hx hb dX7_eRead_262 rfl hl (by decide) rfl (fun ls hl => ?_)
        refine lv_goto (tgt := 14) hx hb dX7_eRead_263 (by decide) ?_
        exact ih14 _ _ _ _ _ _ hg hw (lv_sub hl [1, 2, 0] rfl)
      have J99 : ∀ (v1 : Int32) (σ : Sg) (H : Heap) (locs : List Loc) (ls : Array Slot) (hg : g_X7_eRead_b99 F (fun v1_ v2_ σ_ => g_X7_eRead_l14 F n14 v1_ v2_ σ_) v1 σ = some (σR, r)) (hw : XD G (gA G sz) s.heap σ H locs) (hl : lv_has ls 4 [(0, .ref (gAd G 0)), (1, .int v1)]), W p l e (headSpec wsX7_eRead ({ frames := 3, cells := 0, slots := 0, locals := 64 } : Room)).room s m args below meth c H locs 0 0 (MQ below (QcI G (gA G sz) σR r) args s 0 0 (gA G sz)) (F0 m 99 ls []) := by
        intro v1 σ H locs ls hg hw hl
        rw [g_X7_eRead_b99] at hg
        refine lv_aload_n hx hb dX7_eRead_99 rfl (lv_at hl 0 rfl) ?_
        refine r_get (C := RX7) (T := TX7) (N := 43) S hK hw (kM_0 hG).1 (kM_0 hG).2 rfl hinX7 21 (by decide) rfl (hts (.fieldLink RX7 116 "SoupByRankModel" "token" "I") (by decide +kernel)) rfl dX7_eRead_100 ?_
        refine lv_bipush (v := 45) hx hb dX7_eRead_103 (by decide) ?_
        refine lv_icmp_ne (tgt := 124) hx hb dX7_eRead_105 (by decide) (fun c_1 => ?_) (fun c_1 => ?_)
        · have hg := it_n hg c_1
          refine lv_aload_n hx hb dX7_eRead_124 rfl (lv_at hl 0 rfl) ?_
          refine r_get (C := RX7) (T := TX7) (N := 43) S hK hw (kM_0 hG).1 (kM_0 hG).2 rfl hinX7 21 (by decide) rfl (hts (.fieldLink RX7 116 "SoupByRankModel" "token" "I") (by decide +kernel)) rfl dX7_eRead_125 ?_
          refine lv_bipush (v := 40) hx hb dX7_eRead_128 (by decide) ?_
          refine lv_icmp_ne (tgt := 148) hx hb dX7_eRead_130 (by decide) (fun c_2 => ?_) (fun c_2 => ?_)
          · have hg := it_n hg c_2
            refine lv_iconst (v := 0) hx hb dX7_eRead_148 (by decide) ?_
            exact r_iretz S hr rfl hlk hw.2.2.2.2 hw hg dX7_eRead_149
          · have hg := it_p hg c_2
            refine lv_aload_n hx hb dX7_eRead_133 rfl (lv_at hl 0 rfl) ?_
            refine lv_iconst (v := 0) hx hb dX7_eRead_134 (by decide) ?_
            obtain ⟨s_3, x_4, h_5, hg⟩ := bnI_e hg
            refine r_iV (As := [.int 0]) (rest := []) S hA hK hw (c_X7_opensOne l hG  h_5) (cwV 1 hts gX7_eRead_X7_opensOne rfl rfl rfl (by decide +kernel) ⟨Nat.le_of_ble_eq_true rfl, Nat.le_of_ble_eq_true rfl⟩) (r_recv hK hw (kM_0 hG).1 (kM_0 hG).2 rfl) rfl hl.1 (Nat.le_of_ble_eq_true rfl) dX7_eRead_135 ⟨Nat.zero_le _, Nat.zero_le _⟩ rfl (fun H locs hw => ?_)
            refine lv_if_ne (tgt := 143) hx hb dX7_eRead_138 (by decide) (fun c_6 => ?_) (fun c_6 => ?_)
            · have hg := it_n hg c_6
              refine lv_iconst (v := 1) hx hb dX7_eRead_143 (by decide) ?_
              refine lv_istore_n (lv' := [(2, .int 1), (0, .ref (gAd G 0)), (1, .int v1)]) hx hb dX7_eRead_144 rfl hl (by decide) rfl (fun ls hl => ?_)
              refine lv_goto (tgt := 14) hx hb dX7_eRead_145 (by decide) ?_
              exact ih14 _ _ _ _ _ _ hg hw (lv_sub hl [1, 2, 0] rfl)
            · have hg := it_p hg c_6
              refine lv_iconst (v := 0) hx hb dX7_eRead_141 (by decide) ?_
              exact r_iretz S hr rfl hlk hw.2.2.2.2 hw hg dX7_eRead_142
        · have hg := it_p hg c_1
          refine lv_aload_n hx hb dX7_eRead_108 rfl (lv_at hl 0 rfl) ?_
          refine lv_bipush (v := 19) hx hb dX7_eRead_109 (by decide) ?_
          obtain ⟨s_7, x_8, h_9, hg⟩ := bnI_e hg
          refine r_iV (As := [.int 19]) (rest := []) S hA hK hw (c_X7_opensOne l hG  h_9) (cwV 1 hts gX7_eRead_X7_opensOne rfl rfl rfl (by decide +kernel) ⟨Nat.le_of_ble_eq_true rfl, Nat.le_of_ble_eq_true rfl⟩) (r_recv hK hw (kM_0 hG).1 (kM_0 hG).2 rfl) rfl hl.1 (Nat.le_of_ble_eq_true rfl) dX7_eRead_111 ⟨Nat.zero_le _, Nat.zero_le _⟩ rfl (fun H locs hw => ?_)
          refine lv_if_ne (tgt := 119) hx hb dX7_eRead_114 (by decide) (fun c_10 => ?_) (fun c_10 => ?_)
          · have hg := it_n hg c_10
            refine lv_iconst (v := 0) hx hb dX7_eRead_119 (by decide) ?_
            refine lv_istore_n (lv' := [(2, .int 0), (0, .ref (gAd G 0)), (1, .int v1)]) hx hb dX7_eRead_120 rfl hl (by decide) rfl (fun ls hl => ?_)
            refine lv_goto (tgt := 14) hx hb dX7_eRead_121 (by decide) ?_
            exact ih14 _ _ _ _ _ _ hg hw (lv_sub hl [1, 2, 0] rfl)
          · have hg := it_p hg c_10
            refine lv_iconst (v := 0) hx hb dX7_eRead_117 (by decide) ?_
            exact r_iretz S hr rfl hlk hw.2.2.2.2 hw hg dX7_eRead_118
      have J61 : ∀ (v2 : Int32) (u0 : Int32) (σ : Sg) (H : Heap) (locs : List Loc) (ls : Array Slot) (hg : g_X7_eRead_b61 F (fun v1_ v2_ σ_ => g_X7_eRead_l14 F n14 v1_ v2_ σ_) v2 u0 σ = some (σR, r)) (hw : XD G (gA G sz) s.heap σ H locs) (hl : lv_has ls 4 [(0, .ref (gAd G 0)), (2, .int v2)]), W p l e (headSpec wsX7_eRead ({ frames := 3, cells := 0, slots := 0, locals := 64 } : Room)).room s m args below meth c H locs 0 0 (MQ below (QcI G (gA G sz) σR r) args s 0 0 (gA G sz)) (F0 m 61 ls [.int u0, .ref (gAd G 0)]) := by
        intro v2 u0 σ H locs ls hg hw hl
        rw [g_X7_eRead_b61] at hg
        obtain ⟨s_11, h_13, hg⟩ := bnV_e hg
        refine r_vV (As := [.int u0]) (rest := []) S hA hK hw (c_X7_puts l hG  h_13) (cwV 1 hts gX7_eRead_X7_puts rfl rfl rfl (by decide +kernel) ⟨Nat.le_of_ble_eq_true rfl, Nat.le_of_ble_eq_true rfl⟩) (r_recv hK hw (kM_0 hG).1 (kM_0 hG).2 rfl) rfl hl.1 (Nat.le_of_ble_eq_true rfl) dX7_eRead_61 ⟨Nat.zero_le _, Nat.zero_le _⟩ rfl (fun H locs hw => ?_)
        refine lv_aload_n hx hb dX7_eRead_64 rfl (lv_at hl 0 rfl) ?_
        refine lv_bipush (v := 7) hx hb dX7_eRead_65 (by decide) ?_
        obtain ⟨s_14, h_16, hg⟩ := bnV_e hg
        refine r_vV (As := [.int 7]) (rest := []) S hA hK hw (c_X7_unwinds l hG  h_16) (cwV 1 hts gX7_eRead_X7_unwinds rfl rfl rfl (by decide +kernel) ⟨Nat.le_of_ble_eq_true rfl, Nat.le_of_ble_eq_true rfl⟩) (r_recv hK hw (kM_0 hG).1 (kM_0 hG).2 rfl) rfl hl.1 (Nat.le_of_ble_eq_true rfl) dX7_eRead_67 ⟨Nat.zero_le _, Nat.zero_le _⟩ rfl (fun H locs hw => ?_)
        refine lv_iconst (v := 0) hx hb dX7_eRead_70 (by decide) ?_
        refine lv_istore_n (lv' := [(1, .int 0), (0, .ref (gAd G 0)), (2, .int v2)]) hx hb dX7_eRead_71 rfl hl (by decide) rfl (fun ls hl => ?_)
        refine lv_goto (tgt := 14) hx hb dX7_eRead_72 (by decide) ?_
        exact ih14 _ _ _ _ _ _ hg hw (lv_sub hl [1, 0, 2] rfl)
      have J38 : ∀ (v2 : Int32) (σ : Sg) (H : Heap) (locs : List Loc) (ls : Array Slot) (hg : g_X7_eRead_b38 F (fun v1_ v2_ σ_ => g_X7_eRead_l14 F n14 v1_ v2_ σ_) v2 σ = some (σR, r)) (hw : XD G (gA G sz) s.heap σ H locs) (hl : lv_has ls 4 [(0, .ref (gAd G 0)), (2, .int v2)]), W p l e (headSpec wsX7_eRead ({ frames := 3, cells := 0, slots := 0, locals := 64 } : Room)).room s m args below meth c H locs 0 0 (MQ below (QcI G (gA G sz) σR r) args s 0 0 (gA G sz)) (F0 m 38 ls []) := by
        intro v2 σ H locs ls hg hw hl
        rw [g_X7_eRead_b38] at hg
        refine lv_aload_n hx hb dX7_eRead_38 rfl (lv_at hl 0 rfl) ?_
        refine lv_aload_n hx hb dX7_eRead_39 rfl (lv_at hl 0 rfl) ?_
        refine r_get (C := RX7) (T := TX7) (N := 43) S hK hw (kM_0 hG).1 (kM_0 hG).2 rfl hinX7 21 (by decide) rfl (hts (.fieldLink RX7 116 "SoupByRankModel" "token" "I") (by decide +kernel)) rfl dX7_eRead_40 ?_
        refine lv_iconst (v := 1) hx hb dX7_eRead_43 (by decide) ?_
        refine lv_icmp_ne (tgt := 57) hx hb dX7_eRead_44 (by decide) (fun c_17 => ?_) (fun c_17 => ?_)
        · have hg := it_n hg c_17
          refine lv_aload_n hx hb dX7_eRead_57 rfl (lv_at hl 0 rfl) ?_
          refine r_get (C := RX7) (T := TX7) (N := 43) S hK hw (kM_0 hG).1 (kM_0 hG).2 rfl hinX7 22 (by decide) rfl (hts (.fieldLink RX7 119 "SoupByRankModel" "value" "I") (by decide +kernel)) rfl dX7_eRead_58 ?_
          exact J61 v2 (σ 0 22) _ _ _ _ hg hw (lv_sub hl [0, 1] rfl)
        · have hg := it_p hg c_17
          refine lv_ldc (v := 100000) hx hb hown (hts (.constant RX7 152 (100000)) (by decide +kernel)) dX7_eRead_47 ?_
          refine lv_aload_n hx hb dX7_eRead_49 rfl (lv_at hl 0 rfl) ?_
          refine r_get (C := RX7) (T := TX7) (N := 43) S hK hw (kM_0 hG).1 (kM_0 hG).2 rfl hinX7 22 (by decide) rfl (hts (.fieldLink RX7 119 "SoupByRankModel" "value" "I") (by decide +kernel)) rfl dX7_eRead_50 ?_
          refine lv_iadd hx hb dX7_eRead_53 ?_
          refine lv_goto (tgt := 61) hx hb dX7_eRead_54 (by decide) ?_
          exact J61 v2 (100000 + (σ 0 22)) _ _ _ _ hg hw (lv_sub hl [0, 1] rfl)
      intro v1 v2 σ H locs ls hg hw hl
      rw [g_X7_eRead_l14] at hg
      refine lv_aload_n hx hb dX7_eRead_14 rfl (lv_at hl 0 rfl) ?_
      obtain ⟨s_18, h_20, hg⟩ := bnV_e hg
      refine r_vV (As := []) (rest := []) S hA hK hw (c_X7_next l hG  h_20) (cwV 0 hts gX7_eRead_X7_next rfl rfl rfl (by decide +kernel) ⟨Nat.le_of_ble_eq_true rfl, Nat.le_of_ble_eq_true rfl⟩) (r_recv hK hw (kM_0 hG).1 (kM_0 hG).2 rfl) rfl hl.1 (Nat.le_of_ble_eq_true rfl) dX7_eRead_15 ⟨Nat.zero_le _, Nat.zero_le _⟩ rfl (fun H locs hw => ?_)
      refine lv_iload_n hx hb dX7_eRead_18 rfl (lv_at hl 1 rfl) ?_
      refine lv_if_eq (tgt := 150) hx hb dX7_eRead_19 (by decide) (fun c_21 => ?_) (fun c_21 => ?_)
      · have hg := it_p hg c_21
        refine lv_aload_n hx hb dX7_eRead_150 rfl (lv_at hl 0 rfl) ?_
        refine r_get (C := RX7) (T := TX7) (N := 43) S hK hw (kM_0 hG).1 (kM_0 hG).2 rfl hinX7 21 (by decide) rfl (hts (.fieldLink RX7 116 "SoupByRankModel" "token" "I") (by decide +kernel)) rfl dX7_eRead_151 ?_
        refine lv_bipush (v := 59) hx hb dX7_eRead_154 (by decide) ?_
        refine lv_icmp_ne (tgt := 177) hx hb dX7_eRead_156 (by decide) (fun c_22 => ?_) (fun c_22 => ?_)
        · have hg := it_n hg c_22
          refine lv_aload_n hx hb dX7_eRead_177 rfl (lv_at hl 0 rfl) ?_
          refine r_get (C := RX7) (T := TX7) (N := 43) S hK hw (kM_0 hG).1 (kM_0 hG).2 rfl hinX7 21 (by decide) rfl (hts (.fieldLink RX7 116 "SoupByRankModel" "token" "I") (by decide +kernel)) rfl dX7_eRead_178 ?_
          refine lv_bipush (v := 41) hx hb dX7_eRead_181 (by decide) ?_
          refine lv_icmp_ne (tgt := 229) hx hb dX7_eRead_183 (by decide) (fun c_23 => ?_) (fun c_23 => ?_)
          · have hg := it_n hg c_23
            refine lv_aload_n hx hb dX7_eRead_229 rfl (lv_at hl 0 rfl) ?_
            obtain ⟨s_24, x_25, h_26, hg⟩ := bnI_e hg
            refine r_iV (As := []) (rest := []) S hA hK hw (c_X7_signOf l hG  h_26) (cwV 0 hts gX7_eRead_X7_signOf rfl rfl rfl (by decide +kernel) ⟨Nat.le_of_ble_eq_true rfl, Nat.le_of_ble_eq_true rfl⟩) (r_recv hK hw (kM_0 hG).1 (kM_0 hG).2 rfl) rfl hl.1 (Nat.le_of_ble_eq_true rfl) dX7_eRead_230 ⟨Nat.zero_le _, Nat.zero_le _⟩ rfl (fun H locs hw => ?_)
            refine lv_istore_n (lv' := [(3, .int x_25), (0, .ref (gAd G 0)), (1, .int v1), (2, .int v2)]) hx hb dX7_eRead_233 rfl hl (by decide) rfl (fun ls hl => ?_)
            refine lv_iload_n hx hb dX7_eRead_234 rfl (lv_at hl 0 rfl) ?_
            refine lv_iconst (v := (-1)) hx hb dX7_eRead_235 (by decide) ?_
            refine lv_icmp_eq (tgt := 247) hx hb dX7_eRead_236 (by decide) (fun c_27 => ?_) (fun c_27 => ?_)
            · have hg := it_p hg c_27
              refine lv_iconst (v := 0) hx hb dX7_eRead_247 (by decide) ?_
              exact r_iretz S hr rfl hlk hw.2.2.2.2 hw hg dX7_eRead_248
            · have hg := it_n hg c_27
              refine lv_aload_n hx hb dX7_eRead_239 rfl (lv_at hl 1 rfl) ?_
              refine lv_iload_n hx hb dX7_eRead_240 rfl (lv_at hl 0 rfl) ?_
              obtain ⟨s_28, x_29, h_30, hg⟩ := bnI_e hg
              refine r_iV (As := [.int x_25]) (rest := []) S hA hK hw (c_X7_between l hG  h_30) (cwV 1 hts gX7_eRead_X7_between rfl rfl rfl (by decide +kernel) ⟨Nat.le_of_ble_eq_true rfl, Nat.le_of_ble_eq_true rfl⟩) (r_recv hK hw (kM_0 hG).1 (kM_0 hG).2 rfl) rfl hl.1 (Nat.le_of_ble_eq_true rfl) dX7_eRead_241 ⟨Nat.zero_le _, Nat.zero_le _⟩ rfl (fun H locs hw => ?_)
              refine lv_if_ne (tgt := 249) hx hb dX7_eRead_244 (by decide) (fun c_31 => ?_) (fun c_31 => ?_)
              · have hg := it_n hg c_31
                refine lv_iconst (v := 1) hx hb dX7_eRead_249 (by decide) ?_
                refine lv_istore_n (lv' := [(1, .int 1), (3, .int x_25), (0, .ref (gAd G 0)), (2, .int v2)]) hx hb dX7_eRead_250 rfl hl (by decide) rfl (fun ls hl => ?_)
                refine lv_iload_n hx hb dX7_eRead_251 rfl (lv_at hl 1 rfl) ?_
                refine lv_bipush (v := 12) hx hb dX7_eRead_252 (by decide) ?_
                refine lv_icmp_gt (tgt := 261) hx hb dX7_eRead_254 (by decide) (fun c_32 => ?_) (fun c_32 => ?_)
                · have hg := it_p hg c_32
                  refine lv_iconst (v := 0) hx hb dX7_eRead_261 (by decide) ?_
                  exact J262 1 0 _ _ _ _ hg hw (lv_sub hl [2, 0] rfl)
                · have hg := it_n hg c_32
                  refine lv_iconst (v := 1) hx hb dX7_eRead_257 (by decide) ?_
                  refine lv_goto (tgt := 262) hx hb dX7_eRead_258 (by decide) ?_
                  exact J262 1 1 _ _ _ _ hg hw (lv_sub hl [2, 0] rfl)
              · have hg := it_p hg c_31
                refine lv_iconst (v := 0) hx hb dX7_eRead_247 (by decide) ?_
                exact r_iretz S hr rfl hlk hw.2.2.2.2 hw hg dX7_eRead_248
          · have hg := it_p hg c_23
            refine lv_aload_n hx hb dX7_eRead_186 rfl (lv_at hl 0 rfl) ?_
            refine lv_iconst (v := 1) hx hb dX7_eRead_187 (by decide) ?_
            obtain ⟨s_33, h_35, hg⟩ := bnV_e hg
            refine r_vV (As := [.int 1]) (rest := []) S hA hK hw (c_X7_unwinds l hG  h_35) (cwV 1 hts gX7_eRead_X7_unwinds rfl rfl rfl (by decide +kernel) ⟨Nat.le_of_ble_eq_true rfl, Nat.le_of_ble_eq_true rfl⟩) (r_recv hK hw (kM_0 hG).1 (kM_0 hG).2 rfl) rfl hl.1 (Nat.le_of_ble_eq_true rfl) dX7_eRead_188 ⟨Nat.zero_le _, Nat.zero_le _⟩ rfl (fun H locs hw => ?_)
            refine lv_aload_n hx hb dX7_eRead_191 rfl (lv_at hl 0 rfl) ?_
            refine r_get (C := RX7) (T := TX7) (N := 43) S hK hw (kM_0 hG).1 (kM_0 hG).2 rfl hinX7 25 (by decide) rfl (hts (.fieldLink RX7 129 "SoupByRankModel" "heldMany" "I") (by decide +kernel)) rfl dX7_eRead_192 ?_
            refine lv_if_ne (tgt := 200) hx hb dX7_eRead_195 (by decide) (fun c_36 => ?_) (fun c_36 => ?_)
            · have hg := it_n hg c_36
              refine lv_aload_n hx hb dX7_eRead_200 rfl (lv_at hl 0 rfl) ?_
              refine lv_dup hx hb dX7_eRead_201 rfl ?_
              refine r_get (C := RX7) (T := TX7) (N := 43) S hK hw (kM_0 hG).1 (kM_0 hG).2 rfl hinX7 25 (by decide) rfl (hts (.fieldLink RX7 129 "SoupByRankModel" "heldMany" "I") (by decide +kernel)) rfl dX7_eRead_202 ?_
              refine lv_iconst (v := 1) hx hb dX7_eRead_205 (by decide) ?_
              refine lv_isub hx hb dX7_eRead_206 ?_
              obtain ⟨s_37, e_38, hg⟩ := wrF_e hg
              refine r_put (C := RX7) (T := TX7) (N := 43) S hK hw (kM_0 hG).1 (kM_0 hG).2 rfl hinX7 tyX7_ok nmX7 25 (by decide) rfl rfl rfl rfl (hts (.fieldLink RX7 129 "SoupByRankModel" "heldMany" "I") (by decide +kernel)) rfl e_38 dX7_eRead_207 (fun H locs hw => ?_)
              refine lv_aload_n hx hb dX7_eRead_210 rfl (lv_at hl 0 rfl) ?_
              refine lv_dup hx hb dX7_eRead_211 rfl ?_
              refine r_get (C := RX7) (T := TX7) (N := 43) S hK hw (kM_0 hG).1 (kM_0 hG).2 rfl hinX7 26 (by decide) rfl (hts (.fieldLink RX7 136 "SoupByRankModel" "opens" "I") (by decide +kernel)) rfl dX7_eRead_212 ?_
              refine lv_iconst (v := 1) hx hb dX7_eRead_215 (by decide) ?_
              refine lv_isub hx hb dX7_eRead_216 ?_
              obtain ⟨s_39, e_40, hg⟩ := wrF_e hg
              refine r_put (C := RX7) (T := TX7) (N := 43) S hK hw (kM_0 hG).1 (kM_0 hG).2 rfl hinX7 tyX7_ok nmX7 26 (by decide) rfl rfl rfl rfl (hts (.fieldLink RX7 136 "SoupByRankModel" "opens" "I") (by decide +kernel)) rfl e_40 dX7_eRead_217 (fun H locs hw => ?_)
              refine lv_aload_n hx hb dX7_eRead_220 rfl (lv_at hl 0 rfl) ?_
              refine lv_bipush (v := 7) hx hb dX7_eRead_221 (by decide) ?_
              obtain ⟨s_41, h_43, hg⟩ := bnV_e hg
              refine r_vV (As := [.int 7]) (rest := []) S hA hK hw (c_X7_unwinds l hG  h_43) (cwV 1 hts gX7_eRead_X7_unwinds rfl rfl rfl (by decide +kernel) ⟨Nat.le_of_ble_eq_true rfl, Nat.le_of_ble_eq_true rfl⟩) (r_recv hK hw (kM_0 hG).1 (kM_0 hG).2 rfl) rfl hl.1 (Nat.le_of_ble_eq_true rfl) dX7_eRead_223 ⟨Nat.zero_le _, Nat.zero_le _⟩ rfl (fun H locs hw => ?_)
              refine lv_goto (tgt := 14) hx hb dX7_eRead_226 (by decide) ?_
              exact ih14 _ _ _ _ _ _ hg hw (lv_sub hl [0, 1, 2] rfl)
            · have hg := it_p hg c_36
              refine lv_iconst (v := 0) hx hb dX7_eRead_198 (by decide) ?_
              exact r_iretz S hr rfl hlk hw.2.2.2.2 hw hg dX7_eRead_199
        · have hg := it_p hg c_22
          refine lv_aload_n hx hb dX7_eRead_159 rfl (lv_at hl 0 rfl) ?_
          refine lv_iconst (v := 1) hx hb dX7_eRead_160 (by decide) ?_
          obtain ⟨s_44, h_46, hg⟩ := bnV_e hg
          refine r_vV (As := [.int 1]) (rest := []) S hA hK hw (c_X7_unwinds l hG  h_46) (cwV 1 hts gX7_eRead_X7_unwinds rfl rfl rfl (by decide +kernel) ⟨Nat.le_of_ble_eq_true rfl, Nat.le_of_ble_eq_true rfl⟩) (r_recv hK hw (kM_0 hG).1 (kM_0 hG).2 rfl) rfl hl.1 (Nat.le_of_ble_eq_true rfl) dX7_eRead_161 ⟨Nat.zero_le _, Nat.zero_le _⟩ rfl (fun H locs hw => ?_)
          refine lv_aload_n hx hb dX7_eRead_164 rfl (lv_at hl 0 rfl) ?_
          refine r_get (C := RX7) (T := TX7) (N := 43) S hK hw (kM_0 hG).1 (kM_0 hG).2 rfl hinX7 25 (by decide) rfl (hts (.fieldLink RX7 129 "SoupByRankModel" "heldMany" "I") (by decide +kernel)) rfl dX7_eRead_165 ?_
          refine lv_if_ne (tgt := 175) hx hb dX7_eRead_168 (by decide) (fun c_47 => ?_) (fun c_47 => ?_)
          · have hg := it_n hg c_47
            refine lv_iconst (v := 0) hx hb dX7_eRead_175 (by decide) ?_
            exact r_iretz S hr rfl hlk hw.2.2.2.2 hw hg dX7_eRead_176
          · have hg := it_p hg c_47
            refine lv_iconst (v := 1) hx hb dX7_eRead_171 (by decide) ?_
            refine lv_goto (tgt := 176) hx hb dX7_eRead_172 (by decide) ?_
            exact r_iretz S hr rfl hlk hw.2.2.2.2 hw hg dX7_eRead_176
      · have hg := it_n hg c_21
        refine lv_aload_n hx hb dX7_eRead_22 rfl (lv_at hl 0 rfl) ?_
        refine r_get (C := RX7) (T := TX7) (N := 43) S hK hw (kM_0 hG).1 (kM_0 hG).2 rfl hinX7 21 (by decide) rfl (hts (.fieldLink RX7 116 "SoupByRankModel" "token" "I") (by decide +kernel)) rfl dX7_eRead_23 ?_
        refine lv_iconst (v := 1) hx hb dX7_eRead_26 (by decide) ?_
        refine lv_icmp_eq (tgt := 38) hx hb dX7_eRead_27 (by decide) (fun c_48 => ?_) (fun c_48 => ?_)
        · have hg := it_p hg c_48
          exact J38 v2 _ _ _ _ hg hw (lv_sub hl [0, 2] rfl)
        · have hg := it_n hg c_48
          refine lv_aload_n hx hb dX7_eRead_30 rfl (lv_at hl 0 rfl) ?_
          refine r_get (C := RX7) (T := TX7) (N := 43) S hK hw (kM_0 hG).1 (kM_0 hG).2 rfl hinX7 21 (by decide) rfl (hts (.fieldLink RX7 116 "SoupByRankModel" "token" "I") (by decide +kernel)) rfl dX7_eRead_31 ?_
          refine lv_iconst (v := 2) hx hb dX7_eRead_34 (by decide) ?_
          refine lv_icmp_ne (tgt := 75) hx hb dX7_eRead_35 (by decide) (fun c_49 => ?_) (fun c_49 => ?_)
          · have hg := it_n hg c_49
            refine lv_aload_n hx hb dX7_eRead_75 rfl (lv_at hl 0 rfl) ?_
            refine r_get (C := RX7) (T := TX7) (N := 43) S hK hw (kM_0 hG).1 (kM_0 hG).2 rfl hinX7 21 (by decide) rfl (hts (.fieldLink RX7 116 "SoupByRankModel" "token" "I") (by decide +kernel)) rfl dX7_eRead_76 ?_
            refine lv_bipush (v := 6) hx hb dX7_eRead_79 (by decide) ?_
            refine lv_icmp_ne (tgt := 99) hx hb dX7_eRead_81 (by decide) (fun c_50 => ?_) (fun c_50 => ?_)
            · have hg := it_n hg c_50
              exact J99 v1 _ _ _ _ hg hw (lv_sub hl [0, 1] rfl)
            · have hg := it_p hg c_50
              refine lv_iload_n hx hb dX7_eRead_84 rfl (lv_at hl 2 rfl) ?_
              refine lv_if_eq (tgt := 99) hx hb dX7_eRead_85 (by decide) (fun c_51 => ?_) (fun c_51 => ?_)
              · have hg := it_p hg c_51
                exact J99 v1 _ _ _ _ hg hw (lv_sub hl [0, 1] rfl)
              · have hg := it_n hg c_51
                refine lv_aload_n hx hb dX7_eRead_88 rfl (lv_at hl 0 rfl) ?_
                refine lv_bipush (v := 13) hx hb dX7_eRead_89 (by decide) ?_
                obtain ⟨s_52, x_53, h_54, hg⟩ := bnI_e hg
                refine r_iV (As := [.int 13]) (rest := []) S hA hK hw (c_X7_opensOne l hG  h_54) (cwV 1 hts gX7_eRead_X7_opensOne rfl rfl rfl (by decide +kernel) ⟨Nat.le_of_ble_eq_true rfl, Nat.le_of_ble_eq_true rfl⟩) (r_recv hK hw (kM_0 hG).1 (kM_0 hG).2 rfl) rfl hl.1 (Nat.le_of_ble_eq_true rfl) dX7_eRead_91 ⟨Nat.zero_le _, Nat.zero_le _⟩ rfl (fun H locs hw => ?_)
                refine lv_if_ne (tgt := 14) hx hb dX7_eRead_94 (by decide) (fun c_55 => ?_) (fun c_55 => ?_)
                · have hg := it_n hg c_55
                  exact ih14 _ _ _ _ _ _ hg hw (lv_sub hl [0, 1, 2] rfl)
                · have hg := it_p hg c_55
                  refine lv_iconst (v := 0) hx hb dX7_eRead_97 (by decide) ?_
                  exact r_iretz S hr rfl hlk hw.2.2.2.2 hw hg dX7_eRead_98
          · have hg := it_p hg c_49
            exact J38 v2 _ _ _ _ hg hw (lv_sub hl [0, 2] rfl)
  rw [g_X7_eRead] at hg
  refine lv_aload_n hx hb dX7_eRead_0 rfl (lv_at hl 0 rfl) ?_
  refine lv_iconst (v := 0) hx hb dX7_eRead_1 (by decide) ?_
  obtain ⟨s_56, e_57, hg⟩ := wrF_e hg
  refine r_put (C := RX7) (T := TX7) (N := 43) S hK hw (kM_0 hG).1 (kM_0 hG).2 rfl hinX7 tyX7_ok nmX7 25 (by decide) rfl rfl rfl rfl (hts (.fieldLink RX7 129 "SoupByRankModel" "heldMany" "I") (by decide +kernel)) rfl e_57 dX7_eRead_2 (fun H locs hw => ?_)
  refine lv_aload_n hx hb dX7_eRead_5 rfl (lv_at hl 0 rfl) ?_
  refine lv_iconst (v := 0) hx hb dX7_eRead_6 (by decide) ?_
  obtain ⟨s_58, e_59, hg⟩ := wrF_e hg
  refine r_put (C := RX7) (T := TX7) (N := 43) S hK hw (kM_0 hG).1 (kM_0 hG).2 rfl hinX7 tyX7_ok nmX7 26 (by decide) rfl rfl rfl rfl (hts (.fieldLink RX7 136 "SoupByRankModel" "opens" "I") (by decide +kernel)) rfl e_59 dX7_eRead_7 (fun H locs hw => ?_)
  refine lv_iconst (v := 1) hx hb dX7_eRead_10 (by decide) ?_
  refine lv_istore_n (lv' := [(1, .int 1), (0, .ref (gAd G 0))]) hx hb dX7_eRead_11 rfl hl (by decide) rfl (fun ls hl => ?_)
  refine lv_iconst (v := 1) hx hb dX7_eRead_12 (by decide) ?_
  refine lv_istore_n (lv' := [(2, .int 1), (1, .int 1), (0, .ref (gAd G 0))]) hx hb dX7_eRead_13 rfl hl (by decide) rfl (fun ls hl => ?_)
  exact L14 F _ _ _ _ _ _ hg hw (lv_sub hl [2, 1, 0] rfl)
set_option maxHeartbeats 4000000 in
set_option maxRecDepth 100000 in
theorem c_X7_text (l : Launch) {G : GW} (hG : isM G) {F sz : Nat} {σ σR : Sg} {r : Int32} (hg : g_X7_text F σ = some (σR, r)) : Met l yX7_text wsX7_text ({ frames := 4, cells := 0, slots := 0, locals := 87 } : Room) (va_Pc [.ref (gAd G 0)] (PX G σ sz)) (QcI G (gA G sz) σR r) 0 0 (gA G sz) := by
  refine metX (by decide) rfl (Nat.le_of_ble_eq_true rfl) ?_
  intro p e s m args below meth c ls S hr hlk hsz hA hK hw hl hmn
  have S : CallFix p m c cX7_text 3 s args wsX7_text RX7 := S
  obtain ⟨hx, hb, hml, hown, hts⟩ := id S
  have hl : lv_has ls 3 [(0, .ref (gAd G 0))] := hl
  have hinX7 : ∀ w ∈ wsX70, w ∈ wsX7_text := by decide +kernel
  have J122 : ∀ (v1 : Int32) (σ : Sg) (H : Heap) (locs : List Loc) (ls : Array Slot) (hg : g_X7_text_b122 F v1 σ = some (σR, r)) (hw : XD G (gA G sz) s.heap σ H locs) (hl : lv_has ls 3 [(0, .ref (gAd G 0)), (1, .int v1)]), W p l e (headSpec wsX7_text ({ frames := 4, cells := 0, slots := 0, locals := 87 } : Room)).room s m args below meth c H locs 0 0 (MQ below (QcI G (gA G sz) σR r) args s 0 0 (gA G sz)) (F0 m 122 ls []) := by
    intro v1 σ H locs ls hg hw hl
    rw [g_X7_text_b122] at hg
    refine lv_aload_n hx hb dX7_text_122 rfl (lv_at hl 0 rfl) ?_
    refine r_getr (C := RX7) (T := TX7) (N := 43) (k' := 6) S hK hw (kM_0 hG).1 (kM_0 hG).2 rfl hinX7 9 (by decide) (o := 6) rfl rfl (hts (.fieldLink RX7 29 "SoupByRankModel" "starts" "[I") (by decide +kernel)) rfl dX7_text_123 ?_
    refine lv_iconst (v := 4) hx hb dX7_text_126 (by decide) ?_
    refine lv_aload_n hx hb dX7_text_127 rfl (lv_at hl 0 rfl) ?_
    refine r_get (C := RX7) (T := TX7) (N := 43) S hK hw (kM_0 hG).1 (kM_0 hG).2 rfl hinX7 10 (by decide) rfl (hts (.fieldLink RX7 100 "SoupByRankModel" "texts" "I") (by decide +kernel)) rfl dX7_text_128 ?_
    refine lv_imul hx hb dX7_text_131 ?_
    refine lv_iconst (v := 3) hx hb dX7_text_132 (by decide) ?_
    refine lv_iadd hx hb dX7_text_133 ?_
    refine lv_aload_n hx hb dX7_text_134 rfl (lv_at hl 0 rfl) ?_
    refine r_get (C := RX7) (T := TX7) (N := 43) S hK hw (kM_0 hG).1 (kM_0 hG).2 rfl hinX7 27 (by decide) rfl (hts (.fieldLink RX7 126 "SoupByRankModel" "out" "I") (by decide +kernel)) rfl dX7_text_135 ?_
    obtain ⟨h_2, s_1, e_3, hg⟩ := wrA_e hg
    refine r_iast S hK hw (kM_6 hG).1 (kM_6 hG).2 h_2 e_3 dX7_text_138 (fun H locs hw => ?_)
    refine lv_aload_n hx hb dX7_text_139 rfl (lv_at hl 0 rfl) ?_
    refine lv_iconst (v := 0) hx hb dX7_text_140 (by decide) ?_
    obtain ⟨s_4, e_5, hg⟩ := wrF_e hg
    refine r_put (C := RX7) (T := TX7) (N := 43) S hK hw (kM_0 hG).1 (kM_0 hG).2 rfl hinX7 tyX7_ok nmX7 7 (by decide) rfl rfl rfl rfl (hts (.fieldLink RX7 83 "SoupByRankModel" "taped" "I") (by decide +kernel)) rfl e_5 dX7_text_141 (fun H locs hw => ?_)
    refine lv_iload_n hx hb dX7_text_144 rfl (lv_at hl 1 rfl) ?_
    refine lv_if_ne (tgt := 156) hx hb dX7_text_145 (by decide) (fun c_6 => ?_) (fun c_6 => ?_)
    · have hg := it_n hg c_6
      refine lv_aload_n hx hb dX7_text_156 rfl (lv_at hl 0 rfl) ?_
      refine lv_dup hx hb dX7_text_157 rfl ?_
      refine r_get (C := RX7) (T := TX7) (N := 43) S hK hw (kM_0 hG).1 (kM_0 hG).2 rfl hinX7 10 (by decide) rfl (hts (.fieldLink RX7 100 "SoupByRankModel" "texts" "I") (by decide +kernel)) rfl dX7_text_158 ?_
      refine lv_iconst (v := 1) hx hb dX7_text_161 (by decide) ?_
      refine lv_iadd hx hb dX7_text_162 ?_
      obtain ⟨s_7, e_8, hg⟩ := wrF_e hg
      refine r_put (C := RX7) (T := TX7) (N := 43) S hK hw (kM_0 hG).1 (kM_0 hG).2 rfl hinX7 tyX7_ok nmX7 10 (by decide) rfl rfl rfl rfl (hts (.fieldLink RX7 100 "SoupByRankModel" "texts" "I") (by decide +kernel)) rfl e_8 dX7_text_163 (fun H locs hw => ?_)
      refine lv_aload_n hx hb dX7_text_166 rfl (lv_at hl 0 rfl) ?_
      refine r_get (C := RX7) (T := TX7) (N := 43) S hK hw (kM_0 hG).1 (kM_0 hG).2 rfl hinX7 10 (by decide) rfl (hts (.fieldLink RX7 100 "SoupByRankModel" "texts" "I") (by decide +kernel)) rfl dX7_text_167 ?_
      refine lv_iconst (v := 1) hx hb dX7_text_170 (by decide) ?_
      refine lv_isub hx hb dX7_text_171 ?_
      exact r_ireti S hr hlk hw.2.2.2.2 hw hg dX7_text_172
    · have hg := it_p hg c_6
      refine lv_bipush (v := (-100)) hx hb dX7_text_148 (by decide) ?_
      refine lv_aload_n hx hb dX7_text_150 rfl (lv_at hl 0 rfl) ?_
      refine r_get (C := RX7) (T := TX7) (N := 43) S hK hw (kM_0 hG).1 (kM_0 hG).2 rfl hinX7 20 (by decide) rfl (hts (.fieldLink RX7 113 "SoupByRankModel" "begun" "I") (by decide +kernel)) rfl dX7_text_151 ?_
      refine lv_isub hx hb dX7_text_154 ?_
      exact r_ireti S hr hlk hw.2.2.2.2 hw hg dX7_text_155
  have J121 : ∀ (u0 : Int32) (σ : Sg) (H : Heap) (locs : List Loc) (ls : Array Slot) (hg : g_X7_text_b121 F u0 σ = some (σR, r)) (hw : XD G (gA G sz) s.heap σ H locs) (hl : lv_has ls 3 [(0, .ref (gAd G 0))]), W p l e (headSpec wsX7_text ({ frames := 4, cells := 0, slots := 0, locals := 87 } : Room)).room s m args below meth c H locs 0 0 (MQ below (QcI G (gA G sz) σR r) args s 0 0 (gA G sz)) (F0 m 121 ls [.int u0]) := by
    intro u0 σ H locs ls hg hw hl
    rw [g_X7_text_b121] at hg
    refine lv_istore_n (lv' := [(1, .int u0), (0, .ref (gAd G 0))]) hx hb dX7_text_121 rfl hl (by decide) rfl (fun ls hl => ?_)
    exact J122 u0 _ _ _ _ hg hw (lv_sub hl [1, 0] rfl)
  have J101 : ∀ (v1 : Int32) (σ : Sg) (H : Heap) (locs : List Loc) (ls : Array Slot) (hg : g_X7_text_b101 F v1 σ = some (σR, r)) (hw : XD G (gA G sz) s.heap σ H locs) (hl : lv_has ls 3 [(0, .ref (gAd G 0)), (1, .int v1)]), W p l e (headSpec wsX7_text ({ frames := 4, cells := 0, slots := 0, locals := 87 } : Room)).room s m args below meth c H locs 0 0 (MQ below (QcI G (gA G sz) σR r) args s 0 0 (gA G sz)) (F0 m 101 ls []) := by
    intro v1 σ H locs ls hg hw hl
    rw [g_X7_text_b101] at hg
    refine lv_iload_n hx hb dX7_text_101 rfl (lv_at hl 1 rfl) ?_
    refine lv_if_eq (tgt := 122) hx hb dX7_text_102 (by decide) (fun c_9 => ?_) (fun c_9 => ?_)
    · have hg := it_p hg c_9
      exact J122 v1 _ _ _ _ hg hw (lv_sub hl [0, 1] rfl)
    · have hg := it_n hg c_9
      refine lv_aload_n hx hb dX7_text_105 rfl (lv_at hl 0 rfl) ?_
      obtain ⟨s_10, h_12, hg⟩ := bnV_e hg
      refine r_vV (As := []) (rest := []) S hA hK hw (c_X7_next l hG  h_12) (cwV 0 hts gX7_text_X7_next rfl rfl rfl (by decide +kernel) ⟨Nat.le_of_ble_eq_true rfl, Nat.le_of_ble_eq_true rfl⟩) (r_recv hK hw (kM_0 hG).1 (kM_0 hG).2 rfl) rfl hl.1 (Nat.le_of_ble_eq_true rfl) dX7_text_106 ⟨Nat.zero_le _, Nat.zero_le _⟩ rfl (fun H locs hw => ?_)
      refine lv_aload_n hx hb dX7_text_109 rfl (lv_at hl 0 rfl) ?_
      refine r_get (C := RX7) (T := TX7) (N := 43) S hK hw (kM_0 hG).1 (kM_0 hG).2 rfl hinX7 21 (by decide) rfl (hts (.fieldLink RX7 116 "SoupByRankModel" "token" "I") (by decide +kernel)) rfl dX7_text_110 ?_
      refine lv_if_ne (tgt := 120) hx hb dX7_text_113 (by decide) (fun c_13 => ?_) (fun c_13 => ?_)
      · have hg := it_n hg c_13
        refine lv_iconst (v := 0) hx hb dX7_text_120 (by decide) ?_
        exact J121 0 _ _ _ _ hg hw (lv_sub hl [0] rfl)
      · have hg := it_p hg c_13
        refine lv_iconst (v := 1) hx hb dX7_text_116 (by decide) ?_
        refine lv_goto (tgt := 121) hx hb dX7_text_117 (by decide) ?_
        exact J121 1 _ _ _ _ hg hw (lv_sub hl [0] rfl)
  have L26 : ∀ (n26 : Nat) (v1 : Int32) (v2 : Int32) (σ : Sg) (H : Heap) (locs : List Loc) (ls : Array Slot) (hg : g_X7_text_l26 F n26 v1 v2 σ = some (σR, r)) (hw : XD G (gA G sz) s.heap σ H locs) (hl : lv_has ls 3 [(0, .ref (gAd G 0)), (1, .int v1), (2, .int v2)]), W p l e (headSpec wsX7_text ({ frames := 4, cells := 0, slots := 0, locals := 87 } : Room)).room s m args below meth c H locs 0 0 (MQ below (QcI G (gA G sz) σR r) args s 0 0 (gA G sz)) (F0 m 26 ls []) := by
    intro n26
    induction n26 with
    | zero => intro v1 v2 σ H locs ls hg hw hl; exact no_e hg
    | succ n26 ih26 =>
      have J94 : ∀ (v2 : Int32) (u0 : Int32) (σ : Sg) (H : Heap) (locs : List Loc) (ls : Array Slot) (hg : g_X7_text_b94 F (fun v1_ v2_ σ_ => g_X7_text_l26 F n26 v1_ v2_ σ_) v2 u0 σ = some (σR, r)) (hw : XD G (gA G sz) s.heap σ H locs) (hl : lv_has ls 3 [(0, .ref (gAd G 0)), (2, .int v2)]), W p l e (headSpec wsX7_text ({ frames := 4, cells := 0, slots := 0, locals := 87 } : Room)).room s m args below meth c H locs 0 0 (MQ below (QcI G (gA G sz) σR r) args s 0 0 (gA G sz)) (F0 m 94 ls [.int u0]) := by
        intro v2 u0 σ H locs ls hg hw hl
        rw [g_X7_text_b94] at hg
        refine lv_istore_n (lv' := [(1, .int u0), (0, .ref (gAd G 0)), (2, .int v2)]) hx hb dX7_text_94 rfl hl (by decide) rfl (fun ls hl => ?_)
        refine lv_iinc (v := (v2 + 1)) (lv' := [(2, .int (v2 + 1)), (1, .int u0), (0, .ref (gAd G 0))]) hx hb dX7_text_95 hl (k := 2) rfl rfl (by decide) rfl (fun ls hl => ?_)
        refine lv_goto (tgt := 26) hx hb dX7_text_98 (by decide) ?_
        exact ih26 _ _ _ _ _ _ hg hw (lv_sub hl [2, 1, 0] rfl)
      have J93 : ∀ (v2 : Int32) (σ : Sg) (H : Heap) (locs : List Loc) (ls : Array Slot) (hg : g_X7_text_b93 F (fun v1_ v2_ σ_ => g_X7_text_l26 F n26 v1_ v2_ σ_) v2 σ = some (σR, r)) (hw : XD G (gA G sz) s.heap σ H locs) (hl : lv_has ls 3 [(0, .ref (gAd G 0)), (2, .int v2)]), W p l e (headSpec wsX7_text ({ frames := 4, cells := 0, slots := 0, locals := 87 } : Room)).room s m args below meth c H locs 0 0 (MQ below (QcI G (gA G sz) σR r) args s 0 0 (gA G sz)) (F0 m 93 ls []) := by
        intro v2 σ H locs ls hg hw hl
        rw [g_X7_text_b93] at hg
        refine lv_iconst (v := 0) hx hb dX7_text_93 (by decide) ?_
        exact J94 v2 0 _ _ _ _ hg hw (lv_sub hl [0, 1] rfl)
      have J60 : ∀ (v2 : Int32) (u0 : Int32) (σ : Sg) (H : Heap) (locs : List Loc) (ls : Array Slot) (hg : g_X7_text_b60 F (fun v1_ v2_ σ_ => g_X7_text_l26 F n26 v1_ v2_ σ_) v2 u0 σ = some (σR, r)) (hw : XD G (gA G sz) s.heap σ H locs) (hl : lv_has ls 3 [(0, .ref (gAd G 0)), (2, .int v2)]), W p l e (headSpec wsX7_text ({ frames := 4, cells := 0, slots := 0, locals := 87 } : Room)).room s m args below meth c H locs 0 0 (MQ below (QcI G (gA G sz) σR r) args s 0 0 (gA G sz)) (F0 m 60 ls [.int u0]) := by
        intro v2 u0 σ H locs ls hg hw hl
        rw [g_X7_text_b60] at hg
        refine lv_istore_n (lv' := [(1, .int u0), (0, .ref (gAd G 0)), (2, .int v2)]) hx hb dX7_text_60 rfl hl (by decide) rfl (fun ls hl => ?_)
        refine lv_aload_n hx hb dX7_text_61 rfl (lv_at hl 1 rfl) ?_
        refine r_getr (C := RX7) (T := TX7) (N := 43) (k' := 6) S hK hw (kM_0 hG).1 (kM_0 hG).2 rfl hinX7 9 (by decide) (o := 6) rfl rfl (hts (.fieldLink RX7 29 "SoupByRankModel" "starts" "[I") (by decide +kernel)) rfl dX7_text_62 ?_
        refine lv_iconst (v := 4) hx hb dX7_text_65 (by decide) ?_
        refine lv_aload_n hx hb dX7_text_66 rfl (lv_at hl 1 rfl) ?_
        refine r_get (C := RX7) (T := TX7) (N := 43) S hK hw (kM_0 hG).1 (kM_0 hG).2 rfl hinX7 10 (by decide) rfl (hts (.fieldLink RX7 100 "SoupByRankModel" "texts" "I") (by decide +kernel)) rfl dX7_text_67 ?_
        refine lv_imul hx hb dX7_text_70 ?_
        refine lv_iload_n hx hb dX7_text_71 rfl (lv_at hl 2 rfl) ?_
        refine lv_iadd hx hb dX7_text_72 ?_
        refine lv_aload_n hx hb dX7_text_73 rfl (lv_at hl 1 rfl) ?_
        refine r_get (C := RX7) (T := TX7) (N := 43) S hK hw (kM_0 hG).1 (kM_0 hG).2 rfl hinX7 27 (by decide) rfl (hts (.fieldLink RX7 126 "SoupByRankModel" "out" "I") (by decide +kernel)) rfl dX7_text_74 ?_
        obtain ⟨h_15, s_14, e_16, hg⟩ := wrA_e hg
        refine r_iast S hK hw (kM_6 hG).1 (kM_6 hG).2 h_15 e_16 dX7_text_77 (fun H locs hw => ?_)
        refine lv_iload_n hx hb dX7_text_78 rfl (lv_at hl 0 rfl) ?_
        refine lv_if_eq (tgt := 93) hx hb dX7_text_79 (by decide) (fun c_17 => ?_) (fun c_17 => ?_)
        · have hg := it_p hg c_17
          exact J93 v2 _ _ _ _ hg hw (lv_sub hl [1, 2] rfl)
        · have hg := it_n hg c_17
          refine lv_aload_n hx hb dX7_text_82 rfl (lv_at hl 1 rfl) ?_
          obtain ⟨s_18, x_19, h_20, hg⟩ := bnI_e hg
          refine r_iV (As := []) (rest := []) S hA hK hw (c_X7_eRead l hG  h_20) (cwV 0 hts gX7_text_X7_eRead rfl rfl rfl (by decide +kernel) ⟨Nat.le_of_ble_eq_true rfl, Nat.le_of_ble_eq_true rfl⟩) (r_recv hK hw (kM_0 hG).1 (kM_0 hG).2 rfl) rfl hl.1 (Nat.le_of_ble_eq_true rfl) dX7_text_83 ⟨Nat.zero_le _, Nat.zero_le _⟩ rfl (fun H locs hw => ?_)
          refine lv_if_eq (tgt := 93) hx hb dX7_text_86 (by decide) (fun c_21 => ?_) (fun c_21 => ?_)
          · have hg := it_p hg c_21
            exact J93 v2 _ _ _ _ hg hw (lv_sub hl [1, 2] rfl)
          · have hg := it_n hg c_21
            refine lv_iconst (v := 1) hx hb dX7_text_89 (by decide) ?_
            refine lv_goto (tgt := 94) hx hb dX7_text_90 (by decide) ?_
            exact J94 v2 1 _ _ _ _ hg hw (lv_sub hl [1, 2] rfl)
      have J59 : ∀ (v2 : Int32) (σ : Sg) (H : Heap) (locs : List Loc) (ls : Array Slot) (hg : g_X7_text_b59 F (fun v1_ v2_ σ_ => g_X7_text_l26 F n26 v1_ v2_ σ_) v2 σ = some (σR, r)) (hw : XD G (gA G sz) s.heap σ H locs) (hl : lv_has ls 3 [(0, .ref (gAd G 0)), (2, .int v2)]), W p l e (headSpec wsX7_text ({ frames := 4, cells := 0, slots := 0, locals := 87 } : Room)).room s m args below meth c H locs 0 0 (MQ below (QcI G (gA G sz) σR r) args s 0 0 (gA G sz)) (F0 m 59 ls []) := by
        intro v2 σ H locs ls hg hw hl
        rw [g_X7_text_b59] at hg
        refine lv_iconst (v := 0) hx hb dX7_text_59 (by decide) ?_
        exact J60 v2 0 _ _ _ _ hg hw (lv_sub hl [0, 1] rfl)
      intro v1 v2 σ H locs ls hg hw hl
      rw [g_X7_text_l26] at hg
      refine lv_iload_n hx hb dX7_text_26 rfl (lv_at hl 2 rfl) ?_
      refine lv_iconst (v := 3) hx hb dX7_text_27 (by decide) ?_
      refine lv_icmp_ge (tgt := 101) hx hb dX7_text_28 (by decide) (fun c_22 => ?_) (fun c_22 => ?_)
      · have hg := it_p hg c_22
        exact J101 v1 _ _ _ _ hg hw (lv_sub hl [0, 1] rfl)
      · have hg := it_n hg c_22
        refine lv_iload_n hx hb dX7_text_31 rfl (lv_at hl 1 rfl) ?_
        refine lv_if_eq (tgt := 101) hx hb dX7_text_32 (by decide) (fun c_23 => ?_) (fun c_23 => ?_)
        · have hg := it_p hg c_23
          exact J101 v1 _ _ _ _ hg hw (lv_sub hl [0, 1] rfl)
        · have hg := it_n hg c_23
          refine lv_aload_n hx hb dX7_text_35 rfl (lv_at hl 0 rfl) ?_
          obtain ⟨s_24, h_26, hg⟩ := bnV_e hg
          refine r_vV (As := []) (rest := []) S hA hK hw (c_X7_next l hG  h_26) (cwV 0 hts gX7_text_X7_next rfl rfl rfl (by decide +kernel) ⟨Nat.le_of_ble_eq_true rfl, Nat.le_of_ble_eq_true rfl⟩) (r_recv hK hw (kM_0 hG).1 (kM_0 hG).2 rfl) rfl hl.1 (Nat.le_of_ble_eq_true rfl) dX7_text_36 ⟨Nat.zero_le _, Nat.zero_le _⟩ rfl (fun H locs hw => ?_)
          refine lv_aload_n hx hb dX7_text_39 rfl (lv_at hl 0 rfl) ?_
          refine r_get (C := RX7) (T := TX7) (N := 43) S hK hw (kM_0 hG).1 (kM_0 hG).2 rfl hinX7 21 (by decide) rfl (hts (.fieldLink RX7 116 "SoupByRankModel" "token" "I") (by decide +kernel)) rfl dX7_text_40 ?_
          refine lv_iconst (v := 3) hx hb dX7_text_43 (by decide) ?_
          refine lv_icmp_ne (tgt := 59) hx hb dX7_text_44 (by decide) (fun c_27 => ?_) (fun c_27 => ?_)
          · have hg := it_n hg c_27
            exact J59 v2 _ _ _ _ hg hw (lv_sub hl [0, 2] rfl)
          · have hg := it_p hg c_27
            refine lv_aload_n hx hb dX7_text_47 rfl (lv_at hl 0 rfl) ?_
            refine r_get (C := RX7) (T := TX7) (N := 43) S hK hw (kM_0 hG).1 (kM_0 hG).2 rfl hinX7 22 (by decide) rfl (hts (.fieldLink RX7 119 "SoupByRankModel" "value" "I") (by decide +kernel)) rfl dX7_text_48 ?_
            refine lv_iload_n hx hb dX7_text_51 rfl (lv_at hl 2 rfl) ?_
            refine lv_icmp_ne (tgt := 59) hx hb dX7_text_52 (by decide) (fun c_28 => ?_) (fun c_28 => ?_)
            · have hg := it_n hg c_28
              exact J59 v2 _ _ _ _ hg hw (lv_sub hl [0, 2] rfl)
            · have hg := it_p hg c_28
              refine lv_iconst (v := 1) hx hb dX7_text_55 (by decide) ?_
              refine lv_goto (tgt := 60) hx hb dX7_text_56 (by decide) ?_
              exact J60 v2 1 _ _ _ _ hg hw (lv_sub hl [0, 2] rfl)
  rw [g_X7_text] at hg
  refine lv_aload_n hx hb dX7_text_0 rfl (lv_at hl 0 rfl) ?_
  refine r_get (C := RX7) (T := TX7) (N := 43) S hK hw (kM_0 hG).1 (kM_0 hG).2 rfl hinX7 10 (by decide) rfl (hts (.fieldLink RX7 100 "SoupByRankModel" "texts" "I") (by decide +kernel)) rfl dX7_text_1 ?_
  refine lv_bipush (v := 6) hx hb dX7_text_4 (by decide) ?_
  refine lv_icmp_ne (tgt := 12) hx hb dX7_text_6 (by decide) (fun c_29 => ?_) (fun c_29 => ?_)
  · have hg := it_n hg c_29
    refine lv_aload_n hx hb dX7_text_12 rfl (lv_at hl 0 rfl) ?_
    refine lv_iconst (v := 0) hx hb dX7_text_13 (by decide) ?_
    obtain ⟨s_30, e_31, hg⟩ := wrF_e hg
    refine r_put (C := RX7) (T := TX7) (N := 43) S hK hw (kM_0 hG).1 (kM_0 hG).2 rfl hinX7 tyX7_ok nmX7 19 (by decide) rfl rfl rfl rfl (hts (.fieldLink RX7 110 "SoupByRankModel" "at" "I") (by decide +kernel)) rfl e_31 dX7_text_14 (fun H locs hw => ?_)
    refine lv_aload_n hx hb dX7_text_17 rfl (lv_at hl 0 rfl) ?_
    refine lv_iconst (v := 0) hx hb dX7_text_18 (by decide) ?_
    obtain ⟨s_32, e_33, hg⟩ := wrF_e hg
    refine r_put (C := RX7) (T := TX7) (N := 43) S hK hw (kM_0 hG).1 (kM_0 hG).2 rfl hinX7 tyX7_ok nmX7 27 (by decide) rfl rfl rfl rfl (hts (.fieldLink RX7 126 "SoupByRankModel" "out" "I") (by decide +kernel)) rfl e_33 dX7_text_19 (fun H locs hw => ?_)
    refine lv_iconst (v := 1) hx hb dX7_text_22 (by decide) ?_
    refine lv_istore_n (lv' := [(1, .int 1), (0, .ref (gAd G 0))]) hx hb dX7_text_23 rfl hl (by decide) rfl (fun ls hl => ?_)
    refine lv_iconst (v := 0) hx hb dX7_text_24 (by decide) ?_
    refine lv_istore_n (lv' := [(2, .int 0), (1, .int 1), (0, .ref (gAd G 0))]) hx hb dX7_text_25 rfl hl (by decide) rfl (fun ls hl => ?_)
    exact L26 F _ _ _ _ _ _ hg hw (lv_sub hl [2, 1, 0] rfl)
  · have hg := it_p hg c_29
    refine lv_bipush (v := (-4)) hx hb dX7_text_9 (by decide) ?_
    exact r_ireti S hr hlk hw.2.2.2.2 hw hg dX7_text_11
set_option maxHeartbeats 4000000 in
set_option maxRecDepth 100000 in
theorem c_X7_within (l : Launch) {G : GW} (hG : isM G) {F sz : Nat} {a0 : Int32} {a1 : Int32} {a2 : Int32} {σ σR : Sg} {r : Int32} (hg : g_X7_within F a0 a1 a2 σ = some (σR, r)) : Met l yX7_within wsX7_within ({ frames := 0, cells := 0, slots := 0, locals := 0 } : Room) (va_Pc [.int a0, .int a1, .int a2] (PX G σ sz)) (QcI G (gA G sz) σR r) 0 0 (gA G sz) := by
  refine metX (by decide) rfl (Nat.le_of_ble_eq_true rfl) ?_
  intro p e s m args below meth c ls S hr hlk hsz hA hK hw hl hmn
  have S : CallFix p m c cX7_within 3 s args wsX7_within RX7 := S
  obtain ⟨hx, hb, hml, hown, hts⟩ := id S
  have hl : lv_has ls 3 [(0, .int a0), (1, .int a1), (2, .int a2)] := hl
  rw [g_X7_within] at hg
  refine lv_iload_n hx hb dX7_within_0 rfl (lv_at hl 0 rfl) ?_
  refine lv_iload_n hx hb dX7_within_1 rfl (lv_at hl 1 rfl) ?_
  refine lv_icmp_ge (tgt := 9) hx hb dX7_within_2 (by decide) (fun c_1 => ?_) (fun c_1 => ?_)
  · have hg := it_p hg c_1
    refine lv_iload_n hx hb dX7_within_9 rfl (lv_at hl 0 rfl) ?_
    refine lv_iload_n hx hb dX7_within_10 rfl (lv_at hl 2 rfl) ?_
    refine lv_icmp_le (tgt := 18) hx hb dX7_within_11 (by decide) (fun c_2 => ?_) (fun c_2 => ?_)
    · have hg := it_p hg c_2
      refine lv_iload_n hx hb dX7_within_18 rfl (lv_at hl 0 rfl) ?_
      exact r_ireti S hr hlk hw.2.2.2.2 hw hg dX7_within_19
    · have hg := it_n hg c_2
      refine lv_iload_n hx hb dX7_within_14 rfl (lv_at hl 2 rfl) ?_
      refine lv_goto (tgt := 19) hx hb dX7_within_15 (by decide) ?_
      exact r_ireti S hr hlk hw.2.2.2.2 hw hg dX7_within_19
  · have hg := it_n hg c_1
    refine lv_iload_n hx hb dX7_within_5 rfl (lv_at hl 1 rfl) ?_
    refine lv_goto (tgt := 19) hx hb dX7_within_6 (by decide) ?_
    exact r_ireti S hr hlk hw.2.2.2.2 hw hg dX7_within_19
set_option maxHeartbeats 4000000 in
set_option maxRecDepth 100000 in
theorem c_X7_isOne (l : Launch) {G : GW} (hG : isM G) {F sz : Nat} {a1 : Int32} {σ σR : Sg} {r : Int32} (hg : g_X7_isOne F a1 σ = some (σR, r)) : Met l yX7_isOne wsX7_isOne ({ frames := 1, cells := 0, slots := 0, locals := 22 } : Room) (va_Pc [.ref (gAd G 0), .int a1] (PX G σ sz)) (QcI G (gA G sz) σR r) 0 0 (gA G sz) := by
  refine metX (by decide) rfl (Nat.le_of_ble_eq_true rfl) ?_
  intro p e s m args below meth c ls S hr hlk hsz hA hK hw hl hmn
  have S : CallFix p m c cX7_isOne 2 s args wsX7_isOne RX7 := S
  obtain ⟨hx, hb, hml, hown, hts⟩ := id S
  have hl : lv_has ls 2 [(0, .ref (gAd G 0)), (1, .int a1)] := hl
  have hinX7 : ∀ w ∈ wsX70, w ∈ wsX7_isOne := by decide +kernel
  rw [g_X7_isOne] at hg
  refine lv_iload_n hx hb dX7_isOne_0 rfl (lv_at hl 1 rfl) ?_
  refine lv_iconst (v := 0) hx hb dX7_isOne_1 (by decide) ?_
  refine lv_aload_n hx hb dX7_isOne_2 rfl (lv_at hl 0 rfl) ?_
  refine r_get (C := RX7) (T := TX7) (N := 43) S hK hw (kM_0 hG).1 (kM_0 hG).2 rfl hinX7 0 (by decide) rfl (hts (.fieldLink RX7 90 "SoupByRankModel" "courtiers" "I") (by decide +kernel)) rfl dX7_isOne_3 ?_
  refine lv_iconst (v := 1) hx hb dX7_isOne_6 (by decide) ?_
  refine lv_isub hx hb dX7_isOne_7 ?_
  obtain ⟨s_1, x_2, h_3, hg⟩ := bnI_e hg
  refine r_iS (As := [.int a1, .int 0, .int ((σ 0 0) - 1)]) (rest := []) S hA hK hw (c_X7_in l hG  h_3) (va_cwS 3 hts gX7_isOne_X7_in rfl rfl rfl (by decide +kernel) ⟨Nat.le_of_ble_eq_true rfl, Nat.le_of_ble_eq_true rfl⟩) rfl hl.1 (Nat.le_of_ble_eq_true rfl) dX7_isOne_8 ⟨Nat.zero_le _, Nat.zero_le _⟩ rfl (fun H locs hw => ?_)
  obtain ⟨hz, hg⟩ := retZ_e hg
  exact r_iretz S hr (by rcases hz with h | h <;> rw [h] <;> rfl) hlk hw.2.2.2.2 hw hg dX7_isOne_11
set_option maxHeartbeats 4000000 in
set_option maxRecDepth 100000 in
theorem c_X7_count (l : Launch) {G : GW} (hG : isM G) {F sz : Nat} {a1 : Int32} {σ σR : Sg} {r : Int32} (hg : g_X7_count F a1 σ = some (σR, r)) : Met l yX7_count wsX7_count ({ frames := 0, cells := 0, slots := 0, locals := 0 } : Room) (va_Pc [.ref (gAd G 0), .int a1] (PX G σ sz)) (QcI G (gA G sz) σR r) 0 0 (gA G sz) := by
  refine metX (by decide) rfl (Nat.le_of_ble_eq_true rfl) ?_
  intro p e s m args below meth c ls S hr hlk hsz hA hK hw hl hmn
  have S : CallFix p m c cX7_count 2 s args wsX7_count RX7 := S
  obtain ⟨hx, hb, hml, hown, hts⟩ := id S
  have hl : lv_has ls 2 [(0, .ref (gAd G 0)), (1, .int a1)] := hl
  have hinX7 : ∀ w ∈ wsX70, w ∈ wsX7_count := by decide +kernel
  rw [g_X7_count] at hg
  refine lv_iload_n hx hb dX7_count_0 rfl (lv_at hl 1 rfl) ?_
  by_cases c_1 : a1 = 0
  · have hg := it_p hg c_1
    refine lv_tableIn (tgt := 40) hx hb dX7_count_1 (by rw [c_1]; decide) (by rw [c_1]; decide) (off := 39) (by rw [c_1]; rfl) (by decide) ?_
    refine lv_aload_n hx hb dX7_count_40 rfl (lv_at hl 0 rfl) ?_
    refine r_get (C := RX7) (T := TX7) (N := 43) S hK hw (kM_0 hG).1 (kM_0 hG).2 rfl hinX7 0 (by decide) rfl (hts (.fieldLink RX7 90 "SoupByRankModel" "courtiers" "I") (by decide +kernel)) rfl dX7_count_41 ?_
    exact r_ireti S hr hlk hw.2.2.2.2 hw hg dX7_count_44
  have hg := it_n hg c_1
  by_cases c_2 : a1 = 1
  · have hg := it_p hg c_2
    refine lv_tableIn (tgt := 45) hx hb dX7_count_1 (by rw [c_2]; decide) (by rw [c_2]; decide) (off := 44) (by rw [c_2]; rfl) (by decide) ?_
    refine lv_aload_n hx hb dX7_count_45 rfl (lv_at hl 0 rfl) ?_
    refine r_get (C := RX7) (T := TX7) (N := 43) S hK hw (kM_0 hG).1 (kM_0 hG).2 rfl hinX7 4 (by decide) rfl (hts (.fieldLink RX7 97 "SoupByRankModel" "suppers" "I") (by decide +kernel)) rfl dX7_count_46 ?_
    exact r_ireti S hr hlk hw.2.2.2.2 hw hg dX7_count_49
  have hg := it_n hg c_2
  by_cases c_3 : a1 = 2
  · have hg := it_p hg c_3
    refine lv_tableIn (tgt := 50) hx hb dX7_count_1 (by rw [c_3]; decide) (by rw [c_3]; decide) (off := 49) (by rw [c_3]; rfl) (by decide) ?_
    refine lv_aload_n hx hb dX7_count_50 rfl (lv_at hl 0 rfl) ?_
    refine r_get (C := RX7) (T := TX7) (N := 43) S hK hw (kM_0 hG).1 (kM_0 hG).2 rfl hinX7 5 (by decide) rfl (hts (.fieldLink RX7 19 "SoupByRankModel" "heat" "I") (by decide +kernel)) rfl dX7_count_51 ?_
    exact r_ireti S hr hlk hw.2.2.2.2 hw hg dX7_count_54
  have hg := it_n hg c_3
  by_cases c_4 : a1 = 3
  · have hg := it_p hg c_4
    refine lv_tableIn (tgt := 55) hx hb dX7_count_1 (by rw [c_4]; decide) (by rw [c_4]; decide) (off := 54) (by rw [c_4]; rfl) (by decide) ?_
    refine lv_aload_n hx hb dX7_count_55 rfl (lv_at hl 0 rfl) ?_
    refine r_get (C := RX7) (T := TX7) (N := 43) S hK hw (kM_0 hG).1 (kM_0 hG).2 rfl hinX7 10 (by decide) rfl (hts (.fieldLink RX7 100 "SoupByRankModel" "texts" "I") (by decide +kernel)) rfl dX7_count_56 ?_
    exact r_ireti S hr hlk hw.2.2.2.2 hw hg dX7_count_59
  have hg := it_n hg c_4
  by_cases c_5 : a1 = 4
  · have hg := it_p hg c_5
    refine lv_tableIn (tgt := 60) hx hb dX7_count_1 (by rw [c_5]; decide) (by rw [c_5]; decide) (off := 59) (by rw [c_5]; rfl) (by decide) ?_
    refine lv_aload_n hx hb dX7_count_60 rfl (lv_at hl 0 rfl) ?_
    refine r_get (C := RX7) (T := TX7) (N := 43) S hK hw (kM_0 hG).1 (kM_0 hG).2 rfl hinX7 11 (by decide) rfl (hts (.fieldLink RX7 103 "SoupByRankModel" "rule" "I") (by decide +kernel)) rfl dX7_count_61 ?_
    exact r_ireti S hr hlk hw.2.2.2.2 hw hg dX7_count_64
  have hg := it_n hg c_5
  by_cases c_6 : a1 = 5
  · have hg := it_p hg c_6
    refine lv_tableIn (tgt := 65) hx hb dX7_count_1 (by rw [c_6]; decide) (by rw [c_6]; decide) (off := 64) (by rw [c_6]; rfl) (by decide) ?_
    refine lv_aload_n hx hb dX7_count_65 rfl (lv_at hl 0 rfl) ?_
    refine r_get (C := RX7) (T := TX7) (N := 43) S hK hw (kM_0 hG).1 (kM_0 hG).2 rfl hinX7 7 (by decide) rfl (hts (.fieldLink RX7 83 "SoupByRankModel" "taped" "I") (by decide +kernel)) rfl dX7_count_66 ?_
    exact r_ireti S hr hlk hw.2.2.2.2 hw hg dX7_count_69
  have hg := it_n hg c_6
  have hsw := tb_out (lo := 0) (hi := 5) (x := a1) (fun n h1 h2 => by rcases (show n = 0 ∨ n = 1 ∨ n = 2 ∨ n = 3 ∨ n = 4 ∨ n = 5 by omega) with rfl | rfl | rfl | rfl | rfl | rfl; exact lv_neT c_1 (by decide); exact lv_neT c_2 (by decide); exact lv_neT c_3 (by decide); exact lv_neT c_4 (by decide); exact lv_neT c_5 (by decide); exact lv_neT c_6 (by decide))
  refine lv_tableOut (tgt := 70) hx hb dX7_count_1 hsw (by decide) ?_
  refine lv_bipush (v := (-2)) hx hb dX7_count_70 (by decide) ?_
  exact r_ireti S hr hlk hw.2.2.2.2 hw hg dX7_count_72
set_option maxHeartbeats 4000000 in
set_option maxRecDepth 100000 in
theorem c_X7_brings (l : Launch) {G : GW} (hG : isM G) {F sz : Nat} {a1 : Int32} {a2 : Int32} {σ σR : Sg} {r : Int32} (hg : g_X7_brings F a1 a2 σ = some (σR, r)) : Met l yX7_brings wsX7_brings ({ frames := 1, cells := 0, slots := 0, locals := 22 } : Room) (va_Pc [.ref (gAd G 0), .int a1, .int a2] (PX G σ sz)) (QcI G (gA G sz) σR r) 0 0 (gA G sz) := by
  refine metX (by decide) rfl (Nat.le_of_ble_eq_true rfl) ?_
  intro p e s m args below meth c ls S hr hlk hsz hA hK hw hl hmn
  have S : CallFix p m c cX7_brings 4 s args wsX7_brings RX7 := S
  obtain ⟨hx, hb, hml, hown, hts⟩ := id S
  have hl : lv_has ls 4 [(0, .ref (gAd G 0)), (1, .int a1), (2, .int a2)] := hl
  have hinX7 : ∀ w ∈ wsX70, w ∈ wsX7_brings := by decide +kernel
  have J47 : ∀ (v1 : Int32) (v2 : Int32) (u0 : Int32) (σ : Sg) (H : Heap) (locs : List Loc) (ls : Array Slot) (hg : g_X7_brings_b47 F v1 v2 u0 σ = some (σR, r)) (hw : XD G (gA G sz) s.heap σ H locs) (hl : lv_has ls 4 [(0, .ref (gAd G 0)), (1, .int v1), (2, .int v2)]), W p l e (headSpec wsX7_brings ({ frames := 1, cells := 0, slots := 0, locals := 22 } : Room)).room s m args below meth c H locs 0 0 (MQ below (QcI G (gA G sz) σR r) args s 0 0 (gA G sz)) (F0 m 47 ls [.int u0]) := by
    intro v1 v2 u0 σ H locs ls hg hw hl
    rw [g_X7_brings_b47] at hg
    refine lv_istore_n (lv' := [(3, .int u0), (0, .ref (gAd G 0)), (1, .int v1), (2, .int v2)]) hx hb dX7_brings_47 rfl hl (by decide) rfl (fun ls hl => ?_)
    refine lv_iload_n hx hb dX7_brings_48 rfl (lv_at hl 2 rfl) ?_
    refine lv_if_ne (tgt := 60) hx hb dX7_brings_49 (by decide) (fun c_1 => ?_) (fun c_1 => ?_)
    · have hg := it_n hg c_1
      refine lv_aload_n hx hb dX7_brings_60 rfl (lv_at hl 1 rfl) ?_
      refine lv_iload_n hx hb dX7_brings_61 rfl (lv_at hl 3 rfl) ?_
      obtain ⟨s_2, e_3, hg⟩ := wrF_e hg
      refine r_put (C := RX7) (T := TX7) (N := 43) S hK hw (kM_0 hG).1 (kM_0 hG).2 rfl hinX7 tyX7_ok nmX7 5 (by decide) rfl rfl rfl rfl (hts (.fieldLink RX7 19 "SoupByRankModel" "heat" "I") (by decide +kernel)) rfl e_3 dX7_brings_62 (fun H locs hw => ?_)
      refine lv_iload_n hx hb dX7_brings_65 rfl (lv_at hl 0 rfl) ?_
      exact r_ireti S hr hlk hw.2.2.2.2 hw hg dX7_brings_66
    · have hg := it_p hg c_1
      refine lv_aload_n hx hb dX7_brings_52 rfl (lv_at hl 1 rfl) ?_
      refine lv_iload_n hx hb dX7_brings_53 rfl (lv_at hl 3 rfl) ?_
      obtain ⟨s_4, e_5, hg⟩ := wrF_e hg
      refine r_put (C := RX7) (T := TX7) (N := 43) S hK hw (kM_0 hG).1 (kM_0 hG).2 rfl hinX7 tyX7_ok nmX7 4 (by decide) rfl rfl rfl rfl (hts (.fieldLink RX7 97 "SoupByRankModel" "suppers" "I") (by decide +kernel)) rfl e_5 dX7_brings_54 (fun H locs hw => ?_)
      refine lv_goto (tgt := 65) hx hb dX7_brings_57 (by decide) ?_
      refine lv_iload_n hx hb dX7_brings_65 rfl (lv_at hl 0 rfl) ?_
      exact r_ireti S hr hlk hw.2.2.2.2 hw hg dX7_brings_66
  have J23 : ∀ (v1 : Int32) (v2 : Int32) (u0 : Int32) (u1 : Int32) (u2 : Int32) (σ : Sg) (H : Heap) (locs : List Loc) (ls : Array Slot) (hg : g_X7_brings_b23 F v1 v2 u0 u1 u2 σ = some (σR, r)) (hw : XD G (gA G sz) s.heap σ H locs) (hl : lv_has ls 4 [(0, .ref (gAd G 0)), (1, .int v1), (2, .int v2)]), W p l e (headSpec wsX7_brings ({ frames := 1, cells := 0, slots := 0, locals := 22 } : Room)).room s m args below meth c H locs 0 0 (MQ below (QcI G (gA G sz) σR r) args s 0 0 (gA G sz)) (F0 m 23 ls [.int u0, .int u1, .int u2]) := by
    intro v1 v2 u0 u1 u2 σ H locs ls hg hw hl
    rw [g_X7_brings_b23] at hg
    obtain ⟨s_6, x_7, h_8, hg⟩ := bnI_e hg
    refine r_iS (As := [.int u2, .int u1, .int u0]) (rest := []) S hA hK hw (c_X7_in l hG  h_8) (va_cwS 3 hts gX7_brings_X7_in rfl rfl rfl (by decide +kernel) ⟨Nat.le_of_ble_eq_true rfl, Nat.le_of_ble_eq_true rfl⟩) rfl hl.1 (Nat.le_of_ble_eq_true rfl) dX7_brings_23 ⟨Nat.zero_le _, Nat.zero_le _⟩ rfl (fun H locs hw => ?_)
    refine lv_if_ne (tgt := 32) hx hb dX7_brings_26 (by decide) (fun c_9 => ?_) (fun c_9 => ?_)
    · have hg := it_n hg c_9
      refine lv_iload_n hx hb dX7_brings_32 rfl (lv_at hl 1 rfl) ?_
      refine lv_if_ne (tgt := 43) hx hb dX7_brings_33 (by decide) (fun c_10 => ?_) (fun c_10 => ?_)
      · have hg := it_n hg c_10
        refine lv_aload_n hx hb dX7_brings_43 rfl (lv_at hl 0 rfl) ?_
        refine r_get (C := RX7) (T := TX7) (N := 43) S hK hw (kM_0 hG).1 (kM_0 hG).2 rfl hinX7 5 (by decide) rfl (hts (.fieldLink RX7 19 "SoupByRankModel" "heat" "I") (by decide +kernel)) rfl dX7_brings_44 ?_
        exact J47 v1 v2 (s_6 0 5) _ _ _ _ hg hw (lv_sub hl [0, 1, 2] rfl)
      · have hg := it_p hg c_10
        refine lv_aload_n hx hb dX7_brings_36 rfl (lv_at hl 0 rfl) ?_
        refine r_get (C := RX7) (T := TX7) (N := 43) S hK hw (kM_0 hG).1 (kM_0 hG).2 rfl hinX7 4 (by decide) rfl (hts (.fieldLink RX7 97 "SoupByRankModel" "suppers" "I") (by decide +kernel)) rfl dX7_brings_37 ?_
        refine lv_goto (tgt := 47) hx hb dX7_brings_40 (by decide) ?_
        exact J47 v1 v2 (s_6 0 4) _ _ _ _ hg hw (lv_sub hl [0, 1, 2] rfl)
    · have hg := it_p hg c_9
      refine lv_bipush (v := (-2)) hx hb dX7_brings_29 (by decide) ?_
      exact r_ireti S hr hlk hw.2.2.2.2 hw hg dX7_brings_31
  rw [g_X7_brings] at hg
  refine lv_iload_n hx hb dX7_brings_0 rfl (lv_at hl 1 rfl) ?_
  refine lv_iconst (v := 0) hx hb dX7_brings_1 (by decide) ?_
  refine lv_iconst (v := 1) hx hb dX7_brings_2 (by decide) ?_
  obtain ⟨s_11, x_12, h_13, hg⟩ := bnI_e hg
  refine r_iS (As := [.int a1, .int 0, .int 1]) (rest := []) S hA hK hw (c_X7_in l hG  h_13) (va_cwS 3 hts gX7_brings_X7_in rfl rfl rfl (by decide +kernel) ⟨Nat.le_of_ble_eq_true rfl, Nat.le_of_ble_eq_true rfl⟩) rfl hl.1 (Nat.le_of_ble_eq_true rfl) dX7_brings_3 ⟨Nat.zero_le _, Nat.zero_le _⟩ rfl (fun H locs hw => ?_)
  refine lv_if_eq (tgt := 29) hx hb dX7_brings_6 (by decide) (fun c_14 => ?_) (fun c_14 => ?_)
  · have hg := it_p hg c_14
    refine lv_bipush (v := (-2)) hx hb dX7_brings_29 (by decide) ?_
    exact r_ireti S hr hlk hw.2.2.2.2 hw hg dX7_brings_31
  · have hg := it_n hg c_14
    refine lv_iload_n hx hb dX7_brings_9 rfl (lv_at hl 2 rfl) ?_
    refine lv_iconst (v := 0) hx hb dX7_brings_10 (by decide) ?_
    refine lv_iload_n hx hb dX7_brings_11 rfl (lv_at hl 1 rfl) ?_
    refine lv_if_ne (tgt := 21) hx hb dX7_brings_12 (by decide) (fun c_15 => ?_) (fun c_15 => ?_)
    · have hg := it_n hg c_15
      refine lv_bipush (v := 99) hx hb dX7_brings_21 (by decide) ?_
      exact J23 a1 a2 99 0 a2 _ _ _ _ hg hw (lv_sub hl [0, 1, 2] rfl)
    · have hg := it_p hg c_15
      refine lv_sipush (v := 999) hx hb dX7_brings_15 (by decide) ?_
      refine lv_goto (tgt := 23) hx hb dX7_brings_18 (by decide) ?_
      exact J23 a1 a2 999 0 a2 _ _ _ _ hg hw (lv_sub hl [0, 1, 2] rfl)
set_option maxHeartbeats 4000000 in
set_option maxRecDepth 100000 in
theorem c_X7_isByte (l : Launch) {G : GW} (hG : isM G) {F sz : Nat} {a0 : Int32} {σ σR : Sg} {r : Int32} (hg : g_X7_isByte F a0 σ = some (σR, r)) : Met l yX7_isByte wsX7_isByte ({ frames := 1, cells := 0, slots := 0, locals := 22 } : Room) (va_Pc [.int a0] (PX G σ sz)) (QcI G (gA G sz) σR r) 0 0 (gA G sz) := by
  refine metX (by decide) rfl (Nat.le_of_ble_eq_true rfl) ?_
  intro p e s m args below meth c ls S hr hlk hsz hA hK hw hl hmn
  have S : CallFix p m c cX7_isByte 1 s args wsX7_isByte RX7 := S
  obtain ⟨hx, hb, hml, hown, hts⟩ := id S
  have hl : lv_has ls 1 [(0, .int a0)] := hl
  rw [g_X7_isByte] at hg
  refine lv_iload_n hx hb dX7_isByte_0 rfl (lv_at hl 0 rfl) ?_
  refine lv_iconst (v := 0) hx hb dX7_isByte_1 (by decide) ?_
  refine lv_sipush (v := 255) hx hb dX7_isByte_2 (by decide) ?_
  obtain ⟨s_1, x_2, h_3, hg⟩ := bnI_e hg
  refine r_iS (As := [.int a0, .int 0, .int 255]) (rest := []) S hA hK hw (c_X7_in l hG  h_3) (va_cwS 3 hts gX7_isByte_X7_in rfl rfl rfl (by decide +kernel) ⟨Nat.le_of_ble_eq_true rfl, Nat.le_of_ble_eq_true rfl⟩) rfl hl.1 (Nat.le_of_ble_eq_true rfl) dX7_isByte_5 ⟨Nat.zero_le _, Nat.zero_le _⟩ rfl (fun H locs hw => ?_)
  obtain ⟨hz, hg⟩ := retZ_e hg
  exact r_iretz S hr (by rcases hz with h | h <;> rw [h] <;> rfl) hlk hw.2.2.2.2 hw hg dX7_isByte_8
set_option maxHeartbeats 4000000 in
set_option maxRecDepth 100000 in
theorem c_X7_feed (l : Launch) {G : GW} (hG : isM G) {F sz : Nat} {a1 : Int32} {a2 : Int32} {a3 : Int32} {a4 : Int32} {a5 : Int32} {a6 : Int32} {σ σR : Sg} {r : Int32} (hg : g_X7_feed F a1 a2 a3 a4 a5 a6 σ = some (σR, r)) : Met l yX7_feed wsX7_feed ({ frames := 2, cells := 0, slots := 0, locals := 42 } : Room) (va_Pc [.ref (gAd G 0), .int a1, .int a2, .int a3, .int a4, .int a5, .int a6] (PX G σ sz)) (QcI G (gA G sz) σR r) 0 0 (gA G sz) := by
  refine metX (by decide) rfl (Nat.le_of_ble_eq_true rfl) ?_
  intro p e s m args below meth c ls S hr hlk hsz hA hK hw hl hmn
  have S : CallFix p m c cX7_feed 8 s args wsX7_feed RX7 := S
  obtain ⟨hx, hb, hml, hown, hts⟩ := id S
  have hl : lv_has ls 8 [(0, .ref (gAd G 0)), (1, .int a1), (2, .int a2), (3, .int a3), (4, .int a4), (5, .int a5), (6, .int a6)] := hl
  have hinX7 : ∀ w ∈ wsX70, w ∈ wsX7_feed := by decide +kernel
  have L68 : ∀ (v1 : Int32) (v2 : Int32) (v3 : Int32) (v4 : Int32) (v5 : Int32) (v6 : Int32) (n68 : Nat) (v7 : Int32) (σ : Sg) (H : Heap) (locs : List Loc) (ls : Array Slot) (hg : g_X7_feed_l68 F v1 v2 v3 v4 v5 v6 n68 v7 σ = some (σR, r)) (hw : XD G (gA G sz) s.heap σ H locs) (hl : lv_has ls 8 [(0, .ref (gAd G 0)), (1, .int v1), (2, .int v2), (3, .int v3), (4, .int v4), (5, .int v5), (6, .int v6), (7, .int v7)]), W p l e (headSpec wsX7_feed ({ frames := 2, cells := 0, slots := 0, locals := 42 } : Room)).room s m args below meth c H locs 0 0 (MQ below (QcI G (gA G sz) σR r) args s 0 0 (gA G sz)) (F0 m 68 ls []) := by
    intro v1 v2 v3 v4 v5 v6
    intro n68
    induction n68 with
    | zero => intro v7 σ H locs ls hg hw hl; exact no_e hg
    | succ n68 ih68 =>
      have J125 : ∀ (v7 : Int32) (u0 : Int32) (u1 : Int32) (σ : Sg) (H : Heap) (locs : List Loc) (ls : Array Slot) (hg : g_X7_feed_b125 F (fun v7_ σ_ => g_X7_feed_l68 F v1 v2 v3 v4 v5 v6 n68 v7_ σ_) v1 v2 v3 v4 v5 v6 v7 u0 u1 σ = some (σR, r)) (hw : XD G (gA G sz) s.heap σ H locs) (hl : lv_has ls 8 [(0, .ref (gAd G 0)), (1, .int v1), (2, .int v2), (3, .int v3), (4, .int v4), (5, .int v5), (6, .int v6), (7, .int v7)]), W p l e (headSpec wsX7_feed ({ frames := 2, cells := 0, slots := 0, locals := 42 } : Room)).room s m args below meth c H locs 0 0 (MQ below (QcI G (gA G sz) σR r) args s 0 0 (gA G sz)) (F0 m 125 ls [.int u0, .int u1, .ref (gAd G 4)]) := by
        intro v7 u0 u1 σ H locs ls hg hw hl
        rw [g_X7_feed_b125] at hg
        obtain ⟨h_2, s_1, e_3, hg⟩ := wrA_e hg
        refine r_iast S hK hw (kM_4 hG).1 (kM_4 hG).2 h_2 e_3 dX7_feed_125 (fun H locs hw => ?_)
        refine lv_aload_n hx hb dX7_feed_126 rfl (lv_at hl 0 rfl) ?_
        refine lv_dup hx hb dX7_feed_127 rfl ?_
        refine r_get (C := RX7) (T := TX7) (N := 43) S hK hw (kM_0 hG).1 (kM_0 hG).2 rfl hinX7 7 (by decide) rfl (hts (.fieldLink RX7 83 "SoupByRankModel" "taped" "I") (by decide +kernel)) rfl dX7_feed_128 ?_
        refine lv_iconst (v := 1) hx hb dX7_feed_131 (by decide) ?_
        refine lv_iadd hx hb dX7_feed_132 ?_
        obtain ⟨s_4, e_5, hg⟩ := wrF_e hg
        refine r_put (C := RX7) (T := TX7) (N := 43) S hK hw (kM_0 hG).1 (kM_0 hG).2 rfl hinX7 tyX7_ok nmX7 7 (by decide) rfl rfl rfl rfl (hts (.fieldLink RX7 83 "SoupByRankModel" "taped" "I") (by decide +kernel)) rfl e_5 dX7_feed_133 (fun H locs hw => ?_)
        refine lv_iinc (v := (v7 + 1)) (lv' := [(7, .int (v7 + 1)), (0, .ref (gAd G 0)), (1, .int v1), (2, .int v2), (3, .int v3), (4, .int v4), (5, .int v5), (6, .int v6)]) hx hb dX7_feed_136 hl (k := 7) rfl rfl (by decide) rfl (fun ls hl => ?_)
        refine lv_goto (tgt := 68) hx hb dX7_feed_139 (by decide) ?_
        exact ih68 _ _ _ _ _ hg hw (lv_sub hl [1, 2, 3, 4, 5, 6, 7, 0] rfl)
      intro v7 σ H locs ls hg hw hl
      rw [g_X7_feed_l68] at hg
      refine lv_iload hx hb dX7_feed_68 (lv_at hl 7 rfl) ?_
      refine lv_iload_n hx hb dX7_feed_70 rfl (lv_at hl 1 rfl) ?_
      refine lv_icmp_ge (tgt := 142) hx hb dX7_feed_71 (by decide) (fun c_6 => ?_) (fun c_6 => ?_)
      · have hg := it_p hg c_6
        refine lv_aload_n hx hb dX7_feed_142 rfl (lv_at hl 0 rfl) ?_
        refine r_get (C := RX7) (T := TX7) (N := 43) S hK hw (kM_0 hG).1 (kM_0 hG).2 rfl hinX7 7 (by decide) rfl (hts (.fieldLink RX7 83 "SoupByRankModel" "taped" "I") (by decide +kernel)) rfl dX7_feed_143 ?_
        exact r_ireti S hr hlk hw.2.2.2.2 hw hg dX7_feed_146
      · have hg := it_n hg c_6
        refine lv_aload_n hx hb dX7_feed_74 rfl (lv_at hl 0 rfl) ?_
        refine r_getr (C := RX7) (T := TX7) (N := 43) (k' := 4) S hK hw (kM_0 hG).1 (kM_0 hG).2 rfl hinX7 6 (by decide) (o := 4) rfl rfl (hts (.fieldLink RX7 23 "SoupByRankModel" "tape" "[I") (by decide +kernel)) rfl dX7_feed_75 ?_
        refine lv_aload_n hx hb dX7_feed_78 rfl (lv_at hl 0 rfl) ?_
        refine r_get (C := RX7) (T := TX7) (N := 43) S hK hw (kM_0 hG).1 (kM_0 hG).2 rfl hinX7 7 (by decide) rfl (hts (.fieldLink RX7 83 "SoupByRankModel" "taped" "I") (by decide +kernel)) rfl dX7_feed_79 ?_
        refine lv_iload hx hb dX7_feed_82 (lv_at hl 7 rfl) ?_
        refine lv_if_ne (tgt := 91) hx hb dX7_feed_84 (by decide) (fun c_7 => ?_) (fun c_7 => ?_)
        · have hg := it_n hg c_7
          refine lv_iload hx hb dX7_feed_91 (lv_at hl 7 rfl) ?_
          refine lv_iconst (v := 1) hx hb dX7_feed_93 (by decide) ?_
          refine lv_icmp_ne (tgt := 101) hx hb dX7_feed_94 (by decide) (fun c_8 => ?_) (fun c_8 => ?_)
          · have hg := it_n hg c_8
            refine lv_iload hx hb dX7_feed_101 (lv_at hl 7 rfl) ?_
            refine lv_iconst (v := 2) hx hb dX7_feed_103 (by decide) ?_
            refine lv_icmp_ne (tgt := 112) hx hb dX7_feed_104 (by decide) (fun c_9 => ?_) (fun c_9 => ?_)
            · have hg := it_n hg c_9
              refine lv_iload hx hb dX7_feed_112 (lv_at hl 7 rfl) ?_
              refine lv_iconst (v := 3) hx hb dX7_feed_114 (by decide) ?_
              refine lv_icmp_ne (tgt := 123) hx hb dX7_feed_115 (by decide) (fun c_10 => ?_) (fun c_10 => ?_)
              · have hg := it_n hg c_10
                refine lv_iload hx hb dX7_feed_123 (lv_at hl 6 rfl) ?_
                exact J125 v7 v6 (σ 0 7) _ _ _ _ hg hw (lv_sub hl [0, 1, 2, 3, 4, 5, 6, 7] rfl)
              · have hg := it_p hg c_10
                refine lv_iload hx hb dX7_feed_118 (lv_at hl 5 rfl) ?_
                refine lv_goto (tgt := 125) hx hb dX7_feed_120 (by decide) ?_
                exact J125 v7 v5 (σ 0 7) _ _ _ _ hg hw (lv_sub hl [0, 1, 2, 3, 4, 5, 6, 7] rfl)
            · have hg := it_p hg c_9
              refine lv_iload hx hb dX7_feed_107 (lv_at hl 4 rfl) ?_
              refine lv_goto (tgt := 125) hx hb dX7_feed_109 (by decide) ?_
              exact J125 v7 v4 (σ 0 7) _ _ _ _ hg hw (lv_sub hl [0, 1, 2, 3, 4, 5, 6, 7] rfl)
          · have hg := it_p hg c_8
            refine lv_iload_n hx hb dX7_feed_97 rfl (lv_at hl 3 rfl) ?_
            refine lv_goto (tgt := 125) hx hb dX7_feed_98 (by decide) ?_
            exact J125 v7 v3 (σ 0 7) _ _ _ _ hg hw (lv_sub hl [0, 1, 2, 3, 4, 5, 6, 7] rfl)
        · have hg := it_p hg c_7
          refine lv_iload_n hx hb dX7_feed_87 rfl (lv_at hl 2 rfl) ?_
          refine lv_goto (tgt := 125) hx hb dX7_feed_88 (by decide) ?_
          exact J125 v7 v2 (σ 0 7) _ _ _ _ hg hw (lv_sub hl [0, 1, 2, 3, 4, 5, 6, 7] rfl)
  rw [g_X7_feed] at hg
  refine lv_iload_n hx hb dX7_feed_0 rfl (lv_at hl 1 rfl) ?_
  refine lv_iconst (v := 1) hx hb dX7_feed_1 (by decide) ?_
  refine lv_iconst (v := 5) hx hb dX7_feed_2 (by decide) ?_
  obtain ⟨s_11, x_12, h_13, hg⟩ := bnI_e hg
  refine r_iS (As := [.int a1, .int 1, .int 5]) (rest := []) S hA hK hw (c_X7_in l hG  h_13) (va_cwS 3 hts gX7_feed_X7_in rfl rfl rfl (by decide +kernel) ⟨Nat.le_of_ble_eq_true rfl, Nat.le_of_ble_eq_true rfl⟩) rfl hl.1 (Nat.le_of_ble_eq_true rfl) dX7_feed_3 ⟨Nat.zero_le _, Nat.zero_le _⟩ rfl (fun H locs hw => ?_)
  refine lv_if_eq (tgt := 47) hx hb dX7_feed_6 (by decide) (fun c_14 => ?_) (fun c_14 => ?_)
  · have hg := it_p hg c_14
    refine lv_bipush (v := (-2)) hx hb dX7_feed_47 (by decide) ?_
    exact r_ireti S hr hlk hw.2.2.2.2 hw hg dX7_feed_49
  · have hg := it_n hg c_14
    refine lv_iload_n hx hb dX7_feed_9 rfl (lv_at hl 2 rfl) ?_
    obtain ⟨s_15, x_16, h_17, hg⟩ := bnI_e hg
    refine r_iS (As := [.int a2]) (rest := []) S hA hK hw (c_X7_isByte l hG  h_17) (va_cwS 1 hts gX7_feed_X7_isByte rfl rfl rfl (by decide +kernel) ⟨Nat.le_of_ble_eq_true rfl, Nat.le_of_ble_eq_true rfl⟩) rfl hl.1 (Nat.le_of_ble_eq_true rfl) dX7_feed_10 ⟨Nat.zero_le _, Nat.zero_le _⟩ rfl (fun H locs hw => ?_)
    refine lv_if_eq (tgt := 47) hx hb dX7_feed_13 (by decide) (fun c_18 => ?_) (fun c_18 => ?_)
    · have hg := it_p hg c_18
      refine lv_bipush (v := (-2)) hx hb dX7_feed_47 (by decide) ?_
      exact r_ireti S hr hlk hw.2.2.2.2 hw hg dX7_feed_49
    · have hg := it_n hg c_18
      refine lv_iload_n hx hb dX7_feed_16 rfl (lv_at hl 3 rfl) ?_
      obtain ⟨s_19, x_20, h_21, hg⟩ := bnI_e hg
      refine r_iS (As := [.int a3]) (rest := []) S hA hK hw (c_X7_isByte l hG  h_21) (va_cwS 1 hts gX7_feed_X7_isByte rfl rfl rfl (by decide +kernel) ⟨Nat.le_of_ble_eq_true rfl, Nat.le_of_ble_eq_true rfl⟩) rfl hl.1 (Nat.le_of_ble_eq_true rfl) dX7_feed_17 ⟨Nat.zero_le _, Nat.zero_le _⟩ rfl (fun H locs hw => ?_)
      refine lv_if_eq (tgt := 47) hx hb dX7_feed_20 (by decide) (fun c_22 => ?_) (fun c_22 => ?_)
      · have hg := it_p hg c_22
        refine lv_bipush (v := (-2)) hx hb dX7_feed_47 (by decide) ?_
        exact r_ireti S hr hlk hw.2.2.2.2 hw hg dX7_feed_49
      · have hg := it_n hg c_22
        refine lv_iload hx hb dX7_feed_23 (lv_at hl 4 rfl) ?_
        obtain ⟨s_23, x_24, h_25, hg⟩ := bnI_e hg
        refine r_iS (As := [.int a4]) (rest := []) S hA hK hw (c_X7_isByte l hG  h_25) (va_cwS 1 hts gX7_feed_X7_isByte rfl rfl rfl (by decide +kernel) ⟨Nat.le_of_ble_eq_true rfl, Nat.le_of_ble_eq_true rfl⟩) rfl hl.1 (Nat.le_of_ble_eq_true rfl) dX7_feed_25 ⟨Nat.zero_le _, Nat.zero_le _⟩ rfl (fun H locs hw => ?_)
        refine lv_if_eq (tgt := 47) hx hb dX7_feed_28 (by decide) (fun c_26 => ?_) (fun c_26 => ?_)
        · have hg := it_p hg c_26
          refine lv_bipush (v := (-2)) hx hb dX7_feed_47 (by decide) ?_
          exact r_ireti S hr hlk hw.2.2.2.2 hw hg dX7_feed_49
        · have hg := it_n hg c_26
          refine lv_iload hx hb dX7_feed_31 (lv_at hl 5 rfl) ?_
          obtain ⟨s_27, x_28, h_29, hg⟩ := bnI_e hg
          refine r_iS (As := [.int a5]) (rest := []) S hA hK hw (c_X7_isByte l hG  h_29) (va_cwS 1 hts gX7_feed_X7_isByte rfl rfl rfl (by decide +kernel) ⟨Nat.le_of_ble_eq_true rfl, Nat.le_of_ble_eq_true rfl⟩) rfl hl.1 (Nat.le_of_ble_eq_true rfl) dX7_feed_33 ⟨Nat.zero_le _, Nat.zero_le _⟩ rfl (fun H locs hw => ?_)
          refine lv_if_eq (tgt := 47) hx hb dX7_feed_36 (by decide) (fun c_30 => ?_) (fun c_30 => ?_)
          · have hg := it_p hg c_30
            refine lv_bipush (v := (-2)) hx hb dX7_feed_47 (by decide) ?_
            exact r_ireti S hr hlk hw.2.2.2.2 hw hg dX7_feed_49
          · have hg := it_n hg c_30
            refine lv_iload hx hb dX7_feed_39 (lv_at hl 6 rfl) ?_
            obtain ⟨s_31, x_32, h_33, hg⟩ := bnI_e hg
            refine r_iS (As := [.int a6]) (rest := []) S hA hK hw (c_X7_isByte l hG  h_33) (va_cwS 1 hts gX7_feed_X7_isByte rfl rfl rfl (by decide +kernel) ⟨Nat.le_of_ble_eq_true rfl, Nat.le_of_ble_eq_true rfl⟩) rfl hl.1 (Nat.le_of_ble_eq_true rfl) dX7_feed_41 ⟨Nat.zero_le _, Nat.zero_le _⟩ rfl (fun H locs hw => ?_)
            refine lv_if_ne (tgt := 50) hx hb dX7_feed_44 (by decide) (fun c_34 => ?_) (fun c_34 => ?_)
            · have hg := it_n hg c_34
              refine lv_aload_n hx hb dX7_feed_50 rfl (lv_at hl 0 rfl) ?_
              refine r_get (C := RX7) (T := TX7) (N := 43) S hK hw (kM_0 hG).1 (kM_0 hG).2 rfl hinX7 7 (by decide) rfl (hts (.fieldLink RX7 83 "SoupByRankModel" "taped" "I") (by decide +kernel)) rfl dX7_feed_51 ?_
              refine lv_iload_n hx hb dX7_feed_54 rfl (lv_at hl 1 rfl) ?_
              refine lv_iadd hx hb dX7_feed_55 ?_
              refine lv_sipush (v := 160) hx hb dX7_feed_56 (by decide) ?_
              refine lv_icmp_le (tgt := 65) hx hb dX7_feed_59 (by decide) (fun c_35 => ?_) (fun c_35 => ?_)
              · have hg := it_p hg c_35
                refine lv_iconst (v := 0) hx hb dX7_feed_65 (by decide) ?_
                refine lv_istore (lv' := [(7, .int 0), (0, .ref (gAd G 0)), (1, .int a1), (2, .int a2), (3, .int a3), (4, .int a4), (5, .int a5), (6, .int a6)]) hx hb dX7_feed_66 hl (by decide) rfl (fun ls hl => ?_)
                exact L68 a1 a2 a3 a4 a5 a6 F _ _ _ _ _ hg hw (lv_sub hl [1, 2, 3, 4, 5, 6, 7, 0] rfl)
              · have hg := it_n hg c_35
                refine lv_bipush (v := (-4)) hx hb dX7_feed_62 (by decide) ?_
                exact r_ireti S hr hlk hw.2.2.2.2 hw hg dX7_feed_64
            · have hg := it_p hg c_34
              refine lv_bipush (v := (-2)) hx hb dX7_feed_47 (by decide) ?_
              exact r_ireti S hr hlk hw.2.2.2.2 hw hg dX7_feed_49
set_option maxHeartbeats 4000000 in
set_option maxRecDepth 100000 in
theorem c_X7_two (l : Launch) {G : GW} (hG : isM G) {F sz : Nat} {a0 : Int32} {a1 : Int32} {a2 : Int32} {σ σR : Sg} {r : Int32} (hg : g_X7_two F a0 a1 a2 σ = some (σR, r)) : Met l yX7_two wsX7_two ({ frames := 0, cells := 0, slots := 0, locals := 0 } : Room) (va_Pc [.int a0, .int a1, .int a2] (PX G σ sz)) (QcI G (gA G sz) σR r) 0 0 (gA G sz) := by
  refine metX (by decide) rfl (Nat.le_of_ble_eq_true rfl) ?_
  intro p e s m args below meth c ls S hr hlk hsz hA hK hw hl hmn
  have S : CallFix p m c cX7_two 3 s args wsX7_two RX7 := S
  obtain ⟨hx, hb, hml, hown, hts⟩ := id S
  have hl : lv_has ls 3 [(0, .int a0), (1, .int a1), (2, .int a2)] := hl
  have J52 : ∀ (σ : Sg) (H : Heap) (locs : List Loc) (ls : Array Slot) (hg : g_X7_two_b52 F σ = some (σR, r)) (hw : XD G (gA G sz) s.heap σ H locs) (hl : lv_has ls 3 []), W p l e (headSpec wsX7_two ({ frames := 0, cells := 0, slots := 0, locals := 0 } : Room)).room s m args below meth c H locs 0 0 (MQ below (QcI G (gA G sz) σR r) args s 0 0 (gA G sz)) (F0 m 52 ls []) := by
    intro  σ H locs ls hg hw hl
    rw [g_X7_two_b52] at hg
    refine lv_iconst (v := 1) hx hb dX7_two_52 (by decide) ?_
    refine lv_goto (tgt := 57) hx hb dX7_two_53 (by decide) ?_
    exact r_ireti S hr hlk hw.2.2.2.2 hw hg dX7_two_57
  rw [g_X7_two] at hg
  refine lv_iload_n hx hb dX7_two_0 rfl (lv_at hl 0 rfl) ?_
  by_cases c_1 : a0 = 11
  · have hg := it_p hg c_1
    refine lv_tableIn (tgt := 44) hx hb dX7_two_1 (by rw [c_1]; decide) (by rw [c_1]; decide) (off := 43) (by rw [c_1]; rfl) (by decide) ?_
    refine lv_iload_n hx hb dX7_two_44 rfl (lv_at hl 1 rfl) ?_
    refine lv_if_ne (tgt := 52) hx hb dX7_two_45 (by decide) (fun c_2 => ?_) (fun c_2 => ?_)
    · have hg := it_n hg c_2
      exact J52 _ _ _ _ hg hw (lv_sub hl [] rfl)
    · have hg := it_p hg c_2
      refine lv_iload_n hx hb dX7_two_48 rfl (lv_at hl 2 rfl) ?_
      refine lv_if_eq (tgt := 56) hx hb dX7_two_49 (by decide) (fun c_3 => ?_) (fun c_3 => ?_)
      · have hg := it_p hg c_3
        refine lv_iconst (v := 0) hx hb dX7_two_56 (by decide) ?_
        exact r_ireti S hr hlk hw.2.2.2.2 hw hg dX7_two_57
      · have hg := it_n hg c_3
        exact J52 _ _ _ _ hg hw (lv_sub hl [] rfl)
  have hg := it_n hg c_1
  by_cases c_4 : a0 = 12
  · have hg := it_p hg c_4
    refine lv_tableIn (tgt := 58) hx hb dX7_two_1 (by rw [c_4]; decide) (by rw [c_4]; decide) (off := 57) (by rw [c_4]; rfl) (by decide) ?_
    refine lv_iload_n hx hb dX7_two_58 rfl (lv_at hl 1 rfl) ?_
    refine lv_if_eq (tgt := 70) hx hb dX7_two_59 (by decide) (fun c_5 => ?_) (fun c_5 => ?_)
    · have hg := it_p hg c_5
      refine lv_iconst (v := 0) hx hb dX7_two_70 (by decide) ?_
      exact r_ireti S hr hlk hw.2.2.2.2 hw hg dX7_two_71
    · have hg := it_n hg c_5
      refine lv_iload_n hx hb dX7_two_62 rfl (lv_at hl 2 rfl) ?_
      refine lv_if_eq (tgt := 70) hx hb dX7_two_63 (by decide) (fun c_6 => ?_) (fun c_6 => ?_)
      · have hg := it_p hg c_6
        refine lv_iconst (v := 0) hx hb dX7_two_70 (by decide) ?_
        exact r_ireti S hr hlk hw.2.2.2.2 hw hg dX7_two_71
      · have hg := it_n hg c_6
        refine lv_iconst (v := 1) hx hb dX7_two_66 (by decide) ?_
        refine lv_goto (tgt := 71) hx hb dX7_two_67 (by decide) ?_
        exact r_ireti S hr hlk hw.2.2.2.2 hw hg dX7_two_71
  have hg := it_n hg c_4
  by_cases c_7 : a0 = 13
  · have hg := it_p hg c_7
    refine lv_tableIn (tgt := 102) hx hb dX7_two_1 (by rw [c_7]; decide) (by rw [c_7]; decide) (off := 101) (by rw [c_7]; rfl) (by decide) ?_
    refine lv_iload_n hx hb dX7_two_102 rfl (lv_at hl 1 rfl) ?_
    refine lv_iload_n hx hb dX7_two_103 rfl (lv_at hl 2 rfl) ?_
    refine lv_imul hx hb dX7_two_104 ?_
    exact r_ireti S hr hlk hw.2.2.2.2 hw hg dX7_two_105
  have hg := it_n hg c_7
  by_cases c_8 : a0 = 14
  · have hg := it_p hg c_8
    refine lv_tableIn (tgt := 72) hx hb dX7_two_1 (by rw [c_8]; decide) (by rw [c_8]; decide) (off := 71) (by rw [c_8]; rfl) (by decide) ?_
    refine lv_iload_n hx hb dX7_two_72 rfl (lv_at hl 1 rfl) ?_
    refine lv_iload_n hx hb dX7_two_73 rfl (lv_at hl 2 rfl) ?_
    refine lv_icmp_ge (tgt := 81) hx hb dX7_two_74 (by decide) (fun c_9 => ?_) (fun c_9 => ?_)
    · have hg := it_p hg c_9
      refine lv_iconst (v := 0) hx hb dX7_two_81 (by decide) ?_
      exact r_ireti S hr hlk hw.2.2.2.2 hw hg dX7_two_82
    · have hg := it_n hg c_9
      refine lv_iconst (v := 1) hx hb dX7_two_77 (by decide) ?_
      refine lv_goto (tgt := 82) hx hb dX7_two_78 (by decide) ?_
      exact r_ireti S hr hlk hw.2.2.2.2 hw hg dX7_two_82
  have hg := it_n hg c_8
  by_cases c_10 : a0 = 15
  · have hg := it_p hg c_10
    refine lv_tableIn (tgt := 83) hx hb dX7_two_1 (by rw [c_10]; decide) (by rw [c_10]; decide) (off := 82) (by rw [c_10]; rfl) (by decide) ?_
    refine lv_iload_n hx hb dX7_two_83 rfl (lv_at hl 1 rfl) ?_
    refine lv_iload_n hx hb dX7_two_84 rfl (lv_at hl 2 rfl) ?_
    refine lv_icmp_ne (tgt := 92) hx hb dX7_two_85 (by decide) (fun c_11 => ?_) (fun c_11 => ?_)
    · have hg := it_n hg c_11
      refine lv_iconst (v := 0) hx hb dX7_two_92 (by decide) ?_
      exact r_ireti S hr hlk hw.2.2.2.2 hw hg dX7_two_93
    · have hg := it_p hg c_11
      refine lv_iconst (v := 1) hx hb dX7_two_88 (by decide) ?_
      refine lv_goto (tgt := 93) hx hb dX7_two_89 (by decide) ?_
      exact r_ireti S hr hlk hw.2.2.2.2 hw hg dX7_two_93
  have hg := it_n hg c_10
  by_cases c_12 : a0 = 16
  · have hg := it_p hg c_12
    refine lv_tableIn (tgt := 94) hx hb dX7_two_1 (by rw [c_12]; decide) (by rw [c_12]; decide) (off := 93) (by rw [c_12]; rfl) (by decide) ?_
    refine lv_iload_n hx hb dX7_two_94 rfl (lv_at hl 1 rfl) ?_
    refine lv_iload_n hx hb dX7_two_95 rfl (lv_at hl 2 rfl) ?_
    refine lv_iadd hx hb dX7_two_96 ?_
    exact r_ireti S hr hlk hw.2.2.2.2 hw hg dX7_two_97
  have hg := it_n hg c_12
  by_cases c_13 : a0 = 17
  · have hg := it_p hg c_13
    refine lv_tableIn (tgt := 98) hx hb dX7_two_1 (by rw [c_13]; decide) (by rw [c_13]; decide) (off := 97) (by rw [c_13]; rfl) (by decide) ?_
    refine lv_iload_n hx hb dX7_two_98 rfl (lv_at hl 1 rfl) ?_
    refine lv_iload_n hx hb dX7_two_99 rfl (lv_at hl 2 rfl) ?_
    refine lv_isub hx hb dX7_two_100 ?_
    exact r_ireti S hr hlk hw.2.2.2.2 hw hg dX7_two_101
  have hg := it_n hg c_13
  have hsw := tb_out (lo := 11) (hi := 17) (x := a0) (fun n h1 h2 => by rcases (show n = 11 ∨ n = 12 ∨ n = 13 ∨ n = 14 ∨ n = 15 ∨ n = 16 ∨ n = 17 by omega) with rfl | rfl | rfl | rfl | rfl | rfl | rfl; exact lv_neT c_1 (by decide); exact lv_neT c_4 (by decide); exact lv_neT c_7 (by decide); exact lv_neT c_8 (by decide); exact lv_neT c_10 (by decide); exact lv_neT c_12 (by decide); exact lv_neT c_13 (by decide))
  refine lv_tableOut (tgt := 102) hx hb dX7_two_1 hsw (by decide) ?_
  refine lv_iload_n hx hb dX7_two_102 rfl (lv_at hl 1 rfl) ?_
  refine lv_iload_n hx hb dX7_two_103 rfl (lv_at hl 2 rfl) ?_
  refine lv_imul hx hb dX7_two_104 ?_
  exact r_ireti S hr hlk hw.2.2.2.2 hw hg dX7_two_105
set_option maxHeartbeats 4000000 in
set_option maxRecDepth 100000 in
theorem c_X7_says (l : Launch) {G : GW} (hG : isM G) {F sz : Nat} {a1 : Int32} {σ σR : Sg} {r : Int32} (hg : g_X7_says F a1 σ = some (σR, r)) : Met l yX7_says wsX7_says ({ frames := 1, cells := 0, slots := 0, locals := 22 } : Room) (va_Pc [.ref (gAd G 0), .int a1] (PX G σ sz)) (QcI G (gA G sz) σR r) 0 0 (gA G sz) := by
  refine metX (by decide) rfl (Nat.le_of_ble_eq_true rfl) ?_
  intro p e s m args below meth c ls S hr hlk hsz hA hK hw hl hmn
  have S : CallFix p m c cX7_says 5 s args wsX7_says RX7 := S
  obtain ⟨hx, hb, hml, hown, hts⟩ := id S
  have hl : lv_has ls 5 [(0, .ref (gAd G 0)), (1, .int a1)] := hl
  have hinX7 : ∀ w ∈ wsX70, w ∈ wsX7_says := by decide +kernel
  have L16 : ∀ (v1 : Int32) (n16 : Nat) (v2 : Int32) (v3 : Int32) (σ : Sg) (H : Heap) (locs : List Loc) (ls : Array Slot) (hg : g_X7_says_l16 F v1 n16 v2 v3 σ = some (σR, r)) (hw : XD G (gA G sz) s.heap σ H locs) (hl : lv_has ls 5 [(0, .ref (gAd G 0)), (1, .int v1), (2, .int v2), (3, .int v3)]), W p l e (headSpec wsX7_says ({ frames := 1, cells := 0, slots := 0, locals := 22 } : Room)).room s m args below meth c H locs 0 0 (MQ below (QcI G (gA G sz) σR r) args s 0 0 (gA G sz)) (F0 m 16 ls []) := by
    intro v1
    intro n16
    induction n16 with
    | zero => intro v2 v3 σ H locs ls hg hw hl; exact no_e hg
    | succ n16 ih16 =>
      have J191 : ∀ (v2 : Int32) (v3 : Int32) (σ : Sg) (H : Heap) (locs : List Loc) (ls : Array Slot) (hg : g_X7_says_b191 F (fun v2_ v3_ σ_ => g_X7_says_l16 F v1 n16 v2_ v3_ σ_) v1 v2 v3 σ = some (σR, r)) (hw : XD G (gA G sz) s.heap σ H locs) (hl : lv_has ls 5 [(0, .ref (gAd G 0)), (1, .int v1), (2, .int v2), (3, .int v3)]), W p l e (headSpec wsX7_says ({ frames := 1, cells := 0, slots := 0, locals := 22 } : Room)).room s m args below meth c H locs 0 0 (MQ below (QcI G (gA G sz) σR r) args s 0 0 (gA G sz)) (F0 m 191 ls []) := by
        intro v2 v3 σ H locs ls hg hw hl
        rw [g_X7_says_b191] at hg
        refine lv_iinc (v := (v3 + 1)) (lv' := [(3, .int (v3 + 1)), (0, .ref (gAd G 0)), (1, .int v1), (2, .int v2)]) hx hb dX7_says_191 hl (k := 3) rfl rfl (by decide) rfl (fun ls hl => ?_)
        refine lv_goto (tgt := 16) hx hb dX7_says_194 (by decide) ?_
        exact ih16 _ _ _ _ _ _ hg hw (lv_sub hl [1, 2, 3, 0] rfl)
      have J130 : ∀ (v2 : Int32) (v3 : Int32) (u0 : Int32) (u1 : Int32) (σ : Sg) (H : Heap) (locs : List Loc) (ls : Array Slot) (hg : g_X7_says_b130 F (fun v2_ v3_ σ_ => g_X7_says_l16 F v1 n16 v2_ v3_ σ_) v1 v2 v3 u0 u1 σ = some (σR, r)) (hw : XD G (gA G sz) s.heap σ H locs) (hl : lv_has ls 5 [(0, .ref (gAd G 0)), (1, .int v1), (2, .int v2), (3, .int v3)]), W p l e (headSpec wsX7_says ({ frames := 1, cells := 0, slots := 0, locals := 22 } : Room)).room s m args below meth c H locs 0 0 (MQ below (QcI G (gA G sz) σR r) args s 0 0 (gA G sz)) (F0 m 130 ls [.int u0, .int u1, .ref (gAd G 15)]) := by
        intro v2 v3 u0 u1 σ H locs ls hg hw hl
        rw [g_X7_says_b130] at hg
        obtain ⟨h_2, s_1, e_3, hg⟩ := wrA_e hg
        refine r_iast S hK hw (kM_15 hG).1 (kM_15 hG).2 h_2 e_3 dX7_says_130 (fun H locs hw => ?_)
        refine lv_goto (tgt := 191) hx hb dX7_says_131 (by decide) ?_
        exact J191 v2 v3 _ _ _ _ hg hw (lv_sub hl [0, 1, 2, 3] rfl)
      have J93 : ∀ (v2 : Int32) (v3 : Int32) (u0 : Int32) (u1 : Int32) (σ : Sg) (H : Heap) (locs : List Loc) (ls : Array Slot) (hg : g_X7_says_b93 F (fun v2_ v3_ σ_ => g_X7_says_l16 F v1 n16 v2_ v3_ σ_) v1 v2 v3 u0 u1 σ = some (σR, r)) (hw : XD G (gA G sz) s.heap σ H locs) (hl : lv_has ls 5 [(0, .ref (gAd G 0)), (1, .int v1), (2, .int v2), (3, .int v3)]), W p l e (headSpec wsX7_says ({ frames := 1, cells := 0, slots := 0, locals := 22 } : Room)).room s m args below meth c H locs 0 0 (MQ below (QcI G (gA G sz) σR r) args s 0 0 (gA G sz)) (F0 m 93 ls [.int u0, .int u1, .ref (gAd G 15)]) := by
        intro v2 v3 u0 u1 σ H locs ls hg hw hl
        rw [g_X7_says_b93] at hg
        obtain ⟨h_5, s_4, e_6, hg⟩ := wrA_e hg
        refine r_iast S hK hw (kM_15 hG).1 (kM_15 hG).2 h_5 e_6 dX7_says_93 (fun H locs hw => ?_)
        refine lv_iinc (v := (v2 + 1)) (lv' := [(2, .int (v2 + 1)), (0, .ref (gAd G 0)), (1, .int v1), (3, .int v3)]) hx hb dX7_says_94 hl (k := 2) rfl rfl (by decide) rfl (fun ls hl => ?_)
        refine lv_goto (tgt := 191) hx hb dX7_says_97 (by decide) ?_
        exact J191 (v2 + 1) v3 _ _ _ _ hg hw (lv_sub hl [1, 2, 0, 3] rfl)
      have J66 : ∀ (v2 : Int32) (v3 : Int32) (v4 : Int32) (σ : Sg) (H : Heap) (locs : List Loc) (ls : Array Slot) (hg : g_X7_says_b66 F (fun v2_ v3_ σ_ => g_X7_says_l16 F v1 n16 v2_ v3_ σ_) v1 v2 v3 v4 σ = some (σR, r)) (hw : XD G (gA G sz) s.heap σ H locs) (hl : lv_has ls 5 [(0, .ref (gAd G 0)), (1, .int v1), (2, .int v2), (3, .int v3), (4, .int v4)]), W p l e (headSpec wsX7_says ({ frames := 1, cells := 0, slots := 0, locals := 22 } : Room)).room s m args below meth c H locs 0 0 (MQ below (QcI G (gA G sz) σR r) args s 0 0 (gA G sz)) (F0 m 66 ls []) := by
        intro v2 v3 v4 σ H locs ls hg hw hl
        rw [g_X7_says_b66] at hg
        refine lv_aload_n hx hb dX7_says_66 rfl (lv_at hl 0 rfl) ?_
        refine r_getr (C := RX7) (T := TX7) (N := 43) (k' := 15) S hK hw (kM_0 hG).1 (kM_0 hG).2 rfl hinX7 28 (by decide) (o := 15) rfl rfl (hts (.fieldLink RX7 56 "SoupByRankModel" "stack" "[I") (by decide +kernel)) rfl dX7_says_67 ?_
        refine lv_iload_n hx hb dX7_says_70 rfl (lv_at hl 2 rfl) ?_
        refine lv_iload hx hb dX7_says_71 (lv_at hl 4 rfl) ?_
        refine lv_bipush (v := 11) hx hb dX7_says_73 (by decide) ?_
        refine lv_icmp_ge (tgt := 88) hx hb dX7_says_75 (by decide) (fun c_7 => ?_) (fun c_7 => ?_)
        · have hg := it_p hg c_7
          refine lv_iload hx hb dX7_says_88 (lv_at hl 4 rfl) ?_
          refine lv_ldc (v := 100000) hx hb hown (hts (.constant RX7 152 (100000)) (by decide +kernel)) dX7_says_90 ?_
          refine lv_isub hx hb dX7_says_92 ?_
          exact J93 v2 v3 (v4 - 100000) v2 _ _ _ _ hg hw (lv_sub hl [0, 1, 2, 3] rfl)
        · have hg := it_n hg c_7
          refine lv_aload_n hx hb dX7_says_78 rfl (lv_at hl 0 rfl) ?_
          refine r_getr (C := RX7) (T := TX7) (N := 43) (k' := 16) S hK hw (kM_0 hG).1 (kM_0 hG).2 rfl hinX7 29 (by decide) (o := 16) rfl rfl (hts (.fieldLink RX7 59 "SoupByRankModel" "named" "[I") (by decide +kernel)) rfl dX7_says_79 ?_
          refine lv_iload hx hb dX7_says_82 (lv_at hl 4 rfl) ?_
          obtain ⟨h_9, x_8, e_10, hg⟩ := rdA_e hg
          refine r_iald S hK hw (kM_16 hG).1 (kM_16 hG).2 h_9 e_10 dX7_says_84 ?_
          refine lv_goto (tgt := 93) hx hb dX7_says_85 (by decide) ?_
          exact J93 v2 v3 x_8 v2 _ _ _ _ hg hw (lv_sub hl [0, 1, 2, 3] rfl)
      intro v2 v3 σ H locs ls hg hw hl
      rw [g_X7_says_l16] at hg
      refine lv_iload_n hx hb dX7_says_16 rfl (lv_at hl 3 rfl) ?_
      refine lv_aload_n hx hb dX7_says_17 rfl (lv_at hl 0 rfl) ?_
      refine r_getr (C := RX7) (T := TX7) (N := 43) (k' := 6) S hK hw (kM_0 hG).1 (kM_0 hG).2 rfl hinX7 9 (by decide) (o := 6) rfl rfl (hts (.fieldLink RX7 29 "SoupByRankModel" "starts" "[I") (by decide +kernel)) rfl dX7_says_18 ?_
      refine lv_iconst (v := 4) hx hb dX7_says_21 (by decide) ?_
      refine lv_aload_n hx hb dX7_says_22 rfl (lv_at hl 0 rfl) ?_
      refine r_get (C := RX7) (T := TX7) (N := 43) S hK hw (kM_0 hG).1 (kM_0 hG).2 rfl hinX7 11 (by decide) rfl (hts (.fieldLink RX7 103 "SoupByRankModel" "rule" "I") (by decide +kernel)) rfl dX7_says_23 ?_
      refine lv_imul hx hb dX7_says_26 ?_
      refine lv_iload_n hx hb dX7_says_27 rfl (lv_at hl 1 rfl) ?_
      refine lv_iadd hx hb dX7_says_28 ?_
      refine lv_iconst (v := 1) hx hb dX7_says_29 (by decide) ?_
      refine lv_iadd hx hb dX7_says_30 ?_
      obtain ⟨h_12, x_11, e_13, hg⟩ := rdA_e hg
      refine r_iald S hK hw (kM_6 hG).1 (kM_6 hG).2 h_12 e_13 dX7_says_31 ?_
      refine lv_icmp_ge (tgt := 197) hx hb dX7_says_32 (by decide) (fun c_14 => ?_) (fun c_14 => ?_)
      · have hg := it_p hg c_14
        refine lv_aload_n hx hb dX7_says_197 rfl (lv_at hl 0 rfl) ?_
        refine r_getr (C := RX7) (T := TX7) (N := 43) (k' := 15) S hK hw (kM_0 hG).1 (kM_0 hG).2 rfl hinX7 28 (by decide) (o := 15) rfl rfl (hts (.fieldLink RX7 56 "SoupByRankModel" "stack" "[I") (by decide +kernel)) rfl dX7_says_198 ?_
        refine lv_iconst (v := 0) hx hb dX7_says_201 (by decide) ?_
        obtain ⟨h_16, x_15, e_17, hg⟩ := rdA_e hg
        refine r_iald S hK hw (kM_15 hG).1 (kM_15 hG).2 h_16 e_17 dX7_says_202 ?_
        exact r_ireti S hr hlk hw.2.2.2.2 hw hg dX7_says_203
      · have hg := it_n hg c_14
        refine lv_aload_n hx hb dX7_says_35 rfl (lv_at hl 0 rfl) ?_
        refine r_getr (C := RX7) (T := TX7) (N := 43) (k' := 5) S hK hw (kM_0 hG).1 (kM_0 hG).2 rfl hinX7 8 (by decide) (o := 5) rfl rfl (hts (.fieldLink RX7 26 "SoupByRankModel" "codes" "[I") (by decide +kernel)) rfl dX7_says_36 ?_
        refine lv_sipush (v := 200) hx hb dX7_says_39 (by decide) ?_
        refine lv_aload_n hx hb dX7_says_42 rfl (lv_at hl 0 rfl) ?_
        refine r_get (C := RX7) (T := TX7) (N := 43) S hK hw (kM_0 hG).1 (kM_0 hG).2 rfl hinX7 11 (by decide) rfl (hts (.fieldLink RX7 103 "SoupByRankModel" "rule" "I") (by decide +kernel)) rfl dX7_says_43 ?_
        refine lv_imul hx hb dX7_says_46 ?_
        refine lv_iload_n hx hb dX7_says_47 rfl (lv_at hl 3 rfl) ?_
        refine lv_iadd hx hb dX7_says_48 ?_
        obtain ⟨h_19, x_18, e_20, hg⟩ := rdA_e hg
        refine r_iald S hK hw (kM_5 hG).1 (kM_5 hG).2 h_19 e_20 dX7_says_49 ?_
        refine lv_istore (lv' := [(4, .int x_18), (0, .ref (gAd G 0)), (1, .int v1), (2, .int v2), (3, .int v3)]) hx hb dX7_says_50 hl (by decide) rfl (fun ls hl => ?_)
        refine lv_iload hx hb dX7_says_52 (lv_at hl 0 rfl) ?_
        refine lv_ldc (v := 100000) hx hb hown (hts (.constant RX7 152 (100000)) (by decide +kernel)) dX7_says_54 ?_
        refine lv_icmp_ge (tgt := 66) hx hb dX7_says_56 (by decide) (fun c_21 => ?_) (fun c_21 => ?_)
        · have hg := it_p hg c_21
          exact J66 v2 v3 x_18 _ _ _ _ hg hw (lv_sub hl [1, 2, 3, 4, 0] rfl)
        · have hg := it_n hg c_21
          refine lv_iload hx hb dX7_says_59 (lv_at hl 0 rfl) ?_
          refine lv_bipush (v := 11) hx hb dX7_says_61 (by decide) ?_
          refine lv_icmp_ge (tgt := 100) hx hb dX7_says_63 (by decide) (fun c_22 => ?_) (fun c_22 => ?_)
          · have hg := it_p hg c_22
            refine lv_iload hx hb dX7_says_100 (lv_at hl 0 rfl) ?_
            refine lv_bipush (v := 13) hx hb dX7_says_102 (by decide) ?_
            refine lv_icmp_ne (tgt := 134) hx hb dX7_says_104 (by decide) (fun c_23 => ?_) (fun c_23 => ?_)
            · have hg := it_n hg c_23
              refine lv_iload hx hb dX7_says_134 (lv_at hl 0 rfl) ?_
              refine lv_bipush (v := 19) hx hb dX7_says_136 (by decide) ?_
              refine lv_icmp_ne (tgt := 161) hx hb dX7_says_138 (by decide) (fun c_24 => ?_) (fun c_24 => ?_)
              · have hg := it_n hg c_24
                refine lv_iinc (v := (v2 + (-1))) (lv' := [(2, .int (v2 + (-1))), (4, .int x_18), (0, .ref (gAd G 0)), (1, .int v1), (3, .int v3)]) hx hb dX7_says_161 hl (k := 3) rfl rfl (by decide) rfl (fun ls hl => ?_)
                refine lv_aload_n hx hb dX7_says_164 rfl (lv_at hl 2 rfl) ?_
                refine r_getr (C := RX7) (T := TX7) (N := 43) (k' := 15) S hK hw (kM_0 hG).1 (kM_0 hG).2 rfl hinX7 28 (by decide) (o := 15) rfl rfl (hts (.fieldLink RX7 56 "SoupByRankModel" "stack" "[I") (by decide +kernel)) rfl dX7_says_165 ?_
                refine lv_iload_n hx hb dX7_says_168 rfl (lv_at hl 0 rfl) ?_
                refine lv_iconst (v := 1) hx hb dX7_says_169 (by decide) ?_
                refine lv_isub hx hb dX7_says_170 ?_
                refine lv_iload hx hb dX7_says_171 (lv_at hl 1 rfl) ?_
                refine lv_aload_n hx hb dX7_says_173 rfl (lv_at hl 2 rfl) ?_
                refine r_getr (C := RX7) (T := TX7) (N := 43) (k' := 15) S hK hw (kM_0 hG).1 (kM_0 hG).2 rfl hinX7 28 (by decide) (o := 15) rfl rfl (hts (.fieldLink RX7 56 "SoupByRankModel" "stack" "[I") (by decide +kernel)) rfl dX7_says_174 ?_
                refine lv_iload_n hx hb dX7_says_177 rfl (lv_at hl 0 rfl) ?_
                refine lv_iconst (v := 1) hx hb dX7_says_178 (by decide) ?_
                refine lv_isub hx hb dX7_says_179 ?_
                obtain ⟨h_26, x_25, e_27, hg⟩ := rdA_e hg
                refine r_iald S hK hw (kM_15 hG).1 (kM_15 hG).2 h_26 e_27 dX7_says_180 ?_
                refine lv_aload_n hx hb dX7_says_181 rfl (lv_at hl 2 rfl) ?_
                refine r_getr (C := RX7) (T := TX7) (N := 43) (k' := 15) S hK hw (kM_0 hG).1 (kM_0 hG).2 rfl hinX7 28 (by decide) (o := 15) rfl rfl (hts (.fieldLink RX7 56 "SoupByRankModel" "stack" "[I") (by decide +kernel)) rfl dX7_says_182 ?_
                refine lv_iload_n hx hb dX7_says_185 rfl (lv_at hl 0 rfl) ?_
                obtain ⟨h_29, x_28, e_30, hg⟩ := rdA_e hg
                refine r_iald S hK hw (kM_15 hG).1 (kM_15 hG).2 h_29 e_30 dX7_says_186 ?_
                obtain ⟨s_31, x_32, h_33, hg⟩ := bnI_e hg
                refine r_iS (As := [.int x_18, .int x_25, .int x_28]) (rest := [.int ((v2 + (-1)) - 1), .ref (gAd G 15)]) S hA hK hw (c_X7_two l hG  h_33) (va_cwS 3 hts gX7_says_X7_two rfl rfl rfl (by decide +kernel) ⟨Nat.le_of_ble_eq_true rfl, Nat.le_of_ble_eq_true rfl⟩) rfl hl.1 (Nat.le_of_ble_eq_true rfl) dX7_says_187 ⟨Nat.zero_le _, Nat.zero_le _⟩ rfl (fun H locs hw => ?_)
                obtain ⟨h_35, s_34, e_36, hg⟩ := wrA_e hg
                refine r_iast S hK hw (kM_15 hG).1 (kM_15 hG).2 h_35 e_36 dX7_says_190 (fun H locs hw => ?_)
                exact J191 (v2 + (-1)) v3 _ _ _ _ hg hw (lv_sub hl [2, 3, 0, 4] rfl)
              · have hg := it_p hg c_24
                refine lv_aload_n hx hb dX7_says_141 rfl (lv_at hl 1 rfl) ?_
                refine r_getr (C := RX7) (T := TX7) (N := 43) (k' := 15) S hK hw (kM_0 hG).1 (kM_0 hG).2 rfl hinX7 28 (by decide) (o := 15) rfl rfl (hts (.fieldLink RX7 56 "SoupByRankModel" "stack" "[I") (by decide +kernel)) rfl dX7_says_142 ?_
                refine lv_iload_n hx hb dX7_says_145 rfl (lv_at hl 3 rfl) ?_
                refine lv_iconst (v := 1) hx hb dX7_says_146 (by decide) ?_
                refine lv_isub hx hb dX7_says_147 ?_
                refine lv_aload_n hx hb dX7_says_148 rfl (lv_at hl 1 rfl) ?_
                refine r_getr (C := RX7) (T := TX7) (N := 43) (k' := 15) S hK hw (kM_0 hG).1 (kM_0 hG).2 rfl hinX7 28 (by decide) (o := 15) rfl rfl (hts (.fieldLink RX7 56 "SoupByRankModel" "stack" "[I") (by decide +kernel)) rfl dX7_says_149 ?_
                refine lv_iload_n hx hb dX7_says_152 rfl (lv_at hl 3 rfl) ?_
                refine lv_iconst (v := 1) hx hb dX7_says_153 (by decide) ?_
                refine lv_isub hx hb dX7_says_154 ?_
                obtain ⟨h_38, x_37, e_39, hg⟩ := rdA_e hg
                refine r_iald S hK hw (kM_15 hG).1 (kM_15 hG).2 h_38 e_39 dX7_says_155 ?_
                refine lv_ineg hx hb dX7_says_156 ?_
                obtain ⟨h_41, s_40, e_42, hg⟩ := wrA_e hg
                refine r_iast S hK hw (kM_15 hG).1 (kM_15 hG).2 h_41 e_42 dX7_says_157 (fun H locs hw => ?_)
                refine lv_goto (tgt := 191) hx hb dX7_says_158 (by decide) ?_
                exact J191 v2 v3 _ _ _ _ hg hw (lv_sub hl [1, 2, 3, 4] rfl)
            · have hg := it_p hg c_23
              refine lv_aload_n hx hb dX7_says_107 rfl (lv_at hl 1 rfl) ?_
              refine r_getr (C := RX7) (T := TX7) (N := 43) (k' := 15) S hK hw (kM_0 hG).1 (kM_0 hG).2 rfl hinX7 28 (by decide) (o := 15) rfl rfl (hts (.fieldLink RX7 56 "SoupByRankModel" "stack" "[I") (by decide +kernel)) rfl dX7_says_108 ?_
              refine lv_iload_n hx hb dX7_says_111 rfl (lv_at hl 3 rfl) ?_
              refine lv_iconst (v := 1) hx hb dX7_says_112 (by decide) ?_
              refine lv_isub hx hb dX7_says_113 ?_
              refine lv_aload_n hx hb dX7_says_114 rfl (lv_at hl 1 rfl) ?_
              refine r_getr (C := RX7) (T := TX7) (N := 43) (k' := 15) S hK hw (kM_0 hG).1 (kM_0 hG).2 rfl hinX7 28 (by decide) (o := 15) rfl rfl (hts (.fieldLink RX7 56 "SoupByRankModel" "stack" "[I") (by decide +kernel)) rfl dX7_says_115 ?_
              refine lv_iload_n hx hb dX7_says_118 rfl (lv_at hl 3 rfl) ?_
              refine lv_iconst (v := 1) hx hb dX7_says_119 (by decide) ?_
              refine lv_isub hx hb dX7_says_120 ?_
              obtain ⟨h_44, x_43, e_45, hg⟩ := rdA_e hg
              refine r_iald S hK hw (kM_15 hG).1 (kM_15 hG).2 h_44 e_45 dX7_says_121 ?_
              refine lv_if_ne (tgt := 129) hx hb dX7_says_122 (by decide) (fun c_46 => ?_) (fun c_46 => ?_)
              · have hg := it_n hg c_46
                refine lv_iconst (v := 0) hx hb dX7_says_129 (by decide) ?_
                exact J130 v2 v3 0 (v2 - 1) _ _ _ _ hg hw (lv_sub hl [1, 2, 3, 4] rfl)
              · have hg := it_p hg c_46
                refine lv_iconst (v := 1) hx hb dX7_says_125 (by decide) ?_
                refine lv_goto (tgt := 130) hx hb dX7_says_126 (by decide) ?_
                exact J130 v2 v3 1 (v2 - 1) _ _ _ _ hg hw (lv_sub hl [1, 2, 3, 4] rfl)
          · have hg := it_n hg c_22
            exact J66 v2 v3 x_18 _ _ _ _ hg hw (lv_sub hl [1, 2, 3, 4, 0] rfl)
  rw [g_X7_says] at hg
  refine lv_iconst (v := 0) hx hb dX7_says_0 (by decide) ?_
  refine lv_istore_n (lv' := [(2, .int 0), (0, .ref (gAd G 0)), (1, .int a1)]) hx hb dX7_says_1 rfl hl (by decide) rfl (fun ls hl => ?_)
  refine lv_aload_n hx hb dX7_says_2 rfl (lv_at hl 1 rfl) ?_
  refine r_getr (C := RX7) (T := TX7) (N := 43) (k' := 6) S hK hw (kM_0 hG).1 (kM_0 hG).2 rfl hinX7 9 (by decide) (o := 6) rfl rfl (hts (.fieldLink RX7 29 "SoupByRankModel" "starts" "[I") (by decide +kernel)) rfl dX7_says_3 ?_
  refine lv_iconst (v := 4) hx hb dX7_says_6 (by decide) ?_
  refine lv_aload_n hx hb dX7_says_7 rfl (lv_at hl 1 rfl) ?_
  refine r_get (C := RX7) (T := TX7) (N := 43) S hK hw (kM_0 hG).1 (kM_0 hG).2 rfl hinX7 11 (by decide) rfl (hts (.fieldLink RX7 103 "SoupByRankModel" "rule" "I") (by decide +kernel)) rfl dX7_says_8 ?_
  refine lv_imul hx hb dX7_says_11 ?_
  refine lv_iload_n hx hb dX7_says_12 rfl (lv_at hl 2 rfl) ?_
  refine lv_iadd hx hb dX7_says_13 ?_
  obtain ⟨h_48, x_47, e_49, hg⟩ := rdA_e hg
  refine r_iald S hK hw (kM_6 hG).1 (kM_6 hG).2 h_48 e_49 dX7_says_14 ?_
  refine lv_istore_n (lv' := [(3, .int x_47), (2, .int 0), (0, .ref (gAd G 0)), (1, .int a1)]) hx hb dX7_says_15 rfl hl (by decide) rfl (fun ls hl => ?_)
  exact L16 a1 F _ _ _ _ _ _ hg hw (lv_sub hl [2, 3, 1, 0] rfl)
set_option maxHeartbeats 4000000 in
set_option maxRecDepth 100000 in
theorem c_X7_force (l : Launch) {G : GW} (hG : isM G) {F sz : Nat} {a1 : Int32} {σ σR : Sg} {r : Int32} (hg : g_X7_force F a1 σ = some (σR, r)) : Met l yX7_force wsX7_force ({ frames := 1, cells := 0, slots := 0, locals := 22 } : Room) (va_Pc [.ref (gAd G 0), .int a1] (PX G σ sz)) (QcI G (gA G sz) σR r) 0 0 (gA G sz) := by
  refine metX (by decide) rfl (Nat.le_of_ble_eq_true rfl) ?_
  intro p e s m args below meth c ls S hr hlk hsz hA hK hw hl hmn
  have S : CallFix p m c cX7_force 3 s args wsX7_force RX7 := S
  obtain ⟨hx, hb, hml, hown, hts⟩ := id S
  have hl : lv_has ls 3 [(0, .ref (gAd G 0)), (1, .int a1)] := hl
  have hinX7 : ∀ w ∈ wsX70, w ∈ wsX7_force := by decide +kernel
  rw [g_X7_force] at hg
  refine lv_iload_n hx hb dX7_force_0 rfl (lv_at hl 1 rfl) ?_
  refine lv_iconst (v := 0) hx hb dX7_force_1 (by decide) ?_
  refine lv_aload_n hx hb dX7_force_2 rfl (lv_at hl 0 rfl) ?_
  refine r_get (C := RX7) (T := TX7) (N := 43) S hK hw (kM_0 hG).1 (kM_0 hG).2 rfl hinX7 10 (by decide) rfl (hts (.fieldLink RX7 100 "SoupByRankModel" "texts" "I") (by decide +kernel)) rfl dX7_force_3 ?_
  refine lv_iconst (v := 1) hx hb dX7_force_6 (by decide) ?_
  refine lv_isub hx hb dX7_force_7 ?_
  obtain ⟨s_1, x_2, h_3, hg⟩ := bnI_e hg
  refine r_iS (As := [.int a1, .int 0, .int ((σ 0 10) - 1)]) (rest := []) S hA hK hw (c_X7_in l hG  h_3) (va_cwS 3 hts gX7_force_X7_in rfl rfl rfl (by decide +kernel) ⟨Nat.le_of_ble_eq_true rfl, Nat.le_of_ble_eq_true rfl⟩) rfl hl.1 (Nat.le_of_ble_eq_true rfl) dX7_force_8 ⟨Nat.zero_le _, Nat.zero_le _⟩ rfl (fun H locs hw => ?_)
  refine lv_if_ne (tgt := 17) hx hb dX7_force_11 (by decide) (fun c_4 => ?_) (fun c_4 => ?_)
  · have hg := it_n hg c_4
    refine lv_aload_n hx hb dX7_force_17 rfl (lv_at hl 0 rfl) ?_
    refine r_get (C := RX7) (T := TX7) (N := 43) S hK hw (kM_0 hG).1 (kM_0 hG).2 rfl hinX7 11 (by decide) rfl (hts (.fieldLink RX7 103 "SoupByRankModel" "rule" "I") (by decide +kernel)) rfl dX7_force_18 ?_
    refine lv_istore_n (lv' := [(2, .int (s_1 0 11)), (0, .ref (gAd G 0)), (1, .int a1)]) hx hb dX7_force_21 rfl hl (by decide) rfl (fun ls hl => ?_)
    refine lv_aload_n hx hb dX7_force_22 rfl (lv_at hl 1 rfl) ?_
    refine lv_iload_n hx hb dX7_force_23 rfl (lv_at hl 2 rfl) ?_
    obtain ⟨s_5, e_6, hg⟩ := wrF_e hg
    refine r_put (C := RX7) (T := TX7) (N := 43) S hK hw (kM_0 hG).1 (kM_0 hG).2 rfl hinX7 tyX7_ok nmX7 11 (by decide) rfl rfl rfl rfl (hts (.fieldLink RX7 103 "SoupByRankModel" "rule" "I") (by decide +kernel)) rfl e_6 dX7_force_24 (fun H locs hw => ?_)
    refine lv_iload_n hx hb dX7_force_27 rfl (lv_at hl 0 rfl) ?_
    exact r_ireti S hr hlk hw.2.2.2.2 hw hg dX7_force_28
  · have hg := it_p hg c_4
    refine lv_bipush (v := (-2)) hx hb dX7_force_14 (by decide) ?_
    exact r_ireti S hr hlk hw.2.2.2.2 hw hg dX7_force_16
set_option maxHeartbeats 4000000 in
set_option maxRecDepth 100000 in
theorem c_X7_asksOf (l : Launch) {G : GW} (hG : isM G) {F sz : Nat} {a1 : Int32} {a2 : Int32} {a3 : Int32} {a4 : Int32} {a5 : Int32} {σ σR : Sg} {r : Int32} (hg : g_X7_asksOf F a1 a2 a3 a4 a5 σ = some (σR, r)) : Met l yX7_asksOf wsX7_asksOf ({ frames := 2, cells := 0, slots := 0, locals := 46 } : Room) (va_Pc [.ref (gAd G 0), .int a1, .int a2, .int a3, .int a4, .int a5] (PX G σ sz)) (QcI G (gA G sz) σR r) 0 0 (gA G sz) := by
  refine metX (by decide) rfl (Nat.le_of_ble_eq_true rfl) ?_
  intro p e s m args below meth c ls S hr hlk hsz hA hK hw hl hmn
  have S : CallFix p m c cX7_asksOf 6 s args wsX7_asksOf RX7 := S
  obtain ⟨hx, hb, hml, hown, hts⟩ := id S
  have hl : lv_has ls 6 [(0, .ref (gAd G 0)), (1, .int a1), (2, .int a2), (3, .int a3), (4, .int a4), (5, .int a5)] := hl
  have hinX7 : ∀ w ∈ wsX70, w ∈ wsX7_asksOf := by decide +kernel
  have J113 : ∀ (u0 : Int32) (u1 : Int32) (u2 : Int32) (σ : Sg) (H : Heap) (locs : List Loc) (ls : Array Slot) (hg : g_X7_asksOf_b113 F u0 u1 u2 σ = some (σR, r)) (hw : XD G (gA G sz) s.heap σ H locs) (hl : lv_has ls 6 []), W p l e (headSpec wsX7_asksOf ({ frames := 2, cells := 0, slots := 0, locals := 46 } : Room)).room s m args below meth c H locs 0 0 (MQ below (QcI G (gA G sz) σR r) args s 0 0 (gA G sz)) (F0 m 113 ls [.int u0, .int u1, .int u2]) := by
    intro u0 u1 u2 σ H locs ls hg hw hl
    rw [g_X7_asksOf_b113] at hg
    obtain ⟨s_1, x_2, h_3, hg⟩ := bnI_e hg
    refine r_iS (As := [.int u2, .int u1, .int u0]) (rest := []) S hA hK hw (c_X7_within l hG  h_3) (va_cwS 3 hts gX7_asksOf_X7_within rfl rfl rfl (by decide +kernel) ⟨Nat.le_of_ble_eq_true rfl, Nat.le_of_ble_eq_true rfl⟩) rfl hl.1 (Nat.le_of_ble_eq_true rfl) dX7_asksOf_113 ⟨Nat.zero_le _, Nat.zero_le _⟩ rfl (fun H locs hw => ?_)
    exact r_ireti S hr hlk hw.2.2.2.2 hw hg dX7_asksOf_116
  have J95 : ∀ (v1 : Int32) (σ : Sg) (H : Heap) (locs : List Loc) (ls : Array Slot) (hg : g_X7_asksOf_b95 F v1 σ = some (σR, r)) (hw : XD G (gA G sz) s.heap σ H locs) (hl : lv_has ls 6 [(0, .ref (gAd G 0)), (1, .int v1)]), W p l e (headSpec wsX7_asksOf ({ frames := 2, cells := 0, slots := 0, locals := 46 } : Room)).room s m args below meth c H locs 0 0 (MQ below (QcI G (gA G sz) σR r) args s 0 0 (gA G sz)) (F0 m 95 ls []) := by
    intro v1 σ H locs ls hg hw hl
    rw [g_X7_asksOf_b95] at hg
    refine lv_aload_n hx hb dX7_asksOf_95 rfl (lv_at hl 0 rfl) ?_
    refine lv_iload_n hx hb dX7_asksOf_96 rfl (lv_at hl 1 rfl) ?_
    obtain ⟨s_4, x_5, h_6, hg⟩ := bnI_e hg
    refine r_iV (As := [.int v1]) (rest := []) S hA hK hw (c_X7_says l hG  h_6) (cwV 1 hts gX7_asksOf_X7_says rfl rfl rfl (by decide +kernel) ⟨Nat.le_of_ble_eq_true rfl, Nat.le_of_ble_eq_true rfl⟩) (r_recv hK hw (kM_0 hG).1 (kM_0 hG).2 rfl) rfl hl.1 (Nat.le_of_ble_eq_true rfl) dX7_asksOf_97 ⟨Nat.zero_le _, Nat.zero_le _⟩ rfl (fun H locs hw => ?_)
    refine lv_iconst (v := 0) hx hb dX7_asksOf_100 (by decide) ?_
    refine lv_iload_n hx hb dX7_asksOf_101 rfl (lv_at hl 1 rfl) ?_
    refine lv_iconst (v := 1) hx hb dX7_asksOf_102 (by decide) ?_
    refine lv_icmp_ne (tgt := 111) hx hb dX7_asksOf_103 (by decide) (fun c_7 => ?_) (fun c_7 => ?_)
    · have hg := it_n hg c_7
      refine lv_bipush (v := 99) hx hb dX7_asksOf_111 (by decide) ?_
      exact J113 99 0 x_5 _ _ _ _ hg hw (lv_sub hl [] rfl)
    · have hg := it_p hg c_7
      refine lv_bipush (v := 20) hx hb dX7_asksOf_106 (by decide) ?_
      refine lv_goto (tgt := 113) hx hb dX7_asksOf_108 (by decide) ?_
      exact J113 20 0 x_5 _ _ _ _ hg hw (lv_sub hl [] rfl)
  rw [g_X7_asksOf] at hg
  refine lv_aload_n hx hb dX7_asksOf_0 rfl (lv_at hl 0 rfl) ?_
  refine r_getr (C := RX7) (T := TX7) (N := 43) (k' := 16) S hK hw (kM_0 hG).1 (kM_0 hG).2 rfl hinX7 29 (by decide) (o := 16) rfl rfl (hts (.fieldLink RX7 59 "SoupByRankModel" "named" "[I") (by decide +kernel)) rfl dX7_asksOf_1 ?_
  refine lv_iconst (v := 0) hx hb dX7_asksOf_4 (by decide) ?_
  refine lv_iload_n hx hb dX7_asksOf_5 rfl (lv_at hl 3 rfl) ?_
  obtain ⟨h_9, s_8, e_10, hg⟩ := wrA_e hg
  refine r_iast S hK hw (kM_16 hG).1 (kM_16 hG).2 h_9 e_10 dX7_asksOf_6 (fun H locs hw => ?_)
  refine lv_aload_n hx hb dX7_asksOf_7 rfl (lv_at hl 0 rfl) ?_
  refine r_getr (C := RX7) (T := TX7) (N := 43) (k' := 16) S hK hw (kM_0 hG).1 (kM_0 hG).2 rfl hinX7 29 (by decide) (o := 16) rfl rfl (hts (.fieldLink RX7 59 "SoupByRankModel" "named" "[I") (by decide +kernel)) rfl dX7_asksOf_8 ?_
  refine lv_iconst (v := 1) hx hb dX7_asksOf_11 (by decide) ?_
  refine lv_iload hx hb dX7_asksOf_12 (lv_at hl 4 rfl) ?_
  obtain ⟨h_12, s_11, e_13, hg⟩ := wrA_e hg
  refine r_iast S hK hw (kM_16 hG).1 (kM_16 hG).2 h_12 e_13 dX7_asksOf_14 (fun H locs hw => ?_)
  refine lv_aload_n hx hb dX7_asksOf_15 rfl (lv_at hl 0 rfl) ?_
  refine r_getr (C := RX7) (T := TX7) (N := 43) (k' := 16) S hK hw (kM_0 hG).1 (kM_0 hG).2 rfl hinX7 29 (by decide) (o := 16) rfl rfl (hts (.fieldLink RX7 59 "SoupByRankModel" "named" "[I") (by decide +kernel)) rfl dX7_asksOf_16 ?_
  refine lv_iconst (v := 2) hx hb dX7_asksOf_19 (by decide) ?_
  refine lv_iload hx hb dX7_asksOf_20 (lv_at hl 5 rfl) ?_
  obtain ⟨h_15, s_14, e_16, hg⟩ := wrA_e hg
  refine r_iast S hK hw (kM_16 hG).1 (kM_16 hG).2 h_15 e_16 dX7_asksOf_22 (fun H locs hw => ?_)
  refine lv_aload_n hx hb dX7_asksOf_23 rfl (lv_at hl 0 rfl) ?_
  refine r_getr (C := RX7) (T := TX7) (N := 43) (k' := 16) S hK hw (kM_0 hG).1 (kM_0 hG).2 rfl hinX7 29 (by decide) (o := 16) rfl rfl (hts (.fieldLink RX7 59 "SoupByRankModel" "named" "[I") (by decide +kernel)) rfl dX7_asksOf_24 ?_
  refine lv_iconst (v := 3) hx hb dX7_asksOf_27 (by decide) ?_
  refine lv_iconst (v := 0) hx hb dX7_asksOf_28 (by decide) ?_
  obtain ⟨h_18, s_17, e_19, hg⟩ := wrA_e hg
  refine r_iast S hK hw (kM_16 hG).1 (kM_16 hG).2 h_18 e_19 dX7_asksOf_29 (fun H locs hw => ?_)
  refine lv_aload_n hx hb dX7_asksOf_30 rfl (lv_at hl 0 rfl) ?_
  refine r_getr (C := RX7) (T := TX7) (N := 43) (k' := 16) S hK hw (kM_0 hG).1 (kM_0 hG).2 rfl hinX7 29 (by decide) (o := 16) rfl rfl (hts (.fieldLink RX7 59 "SoupByRankModel" "named" "[I") (by decide +kernel)) rfl dX7_asksOf_31 ?_
  refine lv_iconst (v := 4) hx hb dX7_asksOf_34 (by decide) ?_
  refine lv_iconst (v := 0) hx hb dX7_asksOf_35 (by decide) ?_
  obtain ⟨h_21, s_20, e_22, hg⟩ := wrA_e hg
  refine r_iast S hK hw (kM_16 hG).1 (kM_16 hG).2 h_21 e_22 dX7_asksOf_36 (fun H locs hw => ?_)
  refine lv_aload_n hx hb dX7_asksOf_37 rfl (lv_at hl 0 rfl) ?_
  refine r_getr (C := RX7) (T := TX7) (N := 43) (k' := 16) S hK hw (kM_0 hG).1 (kM_0 hG).2 rfl hinX7 29 (by decide) (o := 16) rfl rfl (hts (.fieldLink RX7 59 "SoupByRankModel" "named" "[I") (by decide +kernel)) rfl dX7_asksOf_38 ?_
  refine lv_iconst (v := 5) hx hb dX7_asksOf_41 (by decide) ?_
  refine lv_iconst (v := 0) hx hb dX7_asksOf_42 (by decide) ?_
  obtain ⟨h_24, s_23, e_25, hg⟩ := wrA_e hg
  refine r_iast S hK hw (kM_16 hG).1 (kM_16 hG).2 h_24 e_25 dX7_asksOf_43 (fun H locs hw => ?_)
  refine lv_iload_n hx hb dX7_asksOf_44 rfl (lv_at hl 2 rfl) ?_
  refine lv_iconst (v := (-1)) hx hb dX7_asksOf_45 (by decide) ?_
  refine lv_icmp_eq (tgt := 95) hx hb dX7_asksOf_46 (by decide) (fun c_26 => ?_) (fun c_26 => ?_)
  · have hg := it_p hg c_26
    exact J95 a1 _ _ _ _ hg hw (lv_sub hl [0, 1] rfl)
  · have hg := it_n hg c_26
    refine lv_iload_n hx hb dX7_asksOf_49 rfl (lv_at hl 1 rfl) ?_
    refine lv_if_le (tgt := 95) hx hb dX7_asksOf_50 (by decide) (fun c_27 => ?_) (fun c_27 => ?_)
    · have hg := it_p hg c_27
      exact J95 a1 _ _ _ _ hg hw (lv_sub hl [0, 1] rfl)
    · have hg := it_n hg c_27
      refine lv_aload_n hx hb dX7_asksOf_53 rfl (lv_at hl 0 rfl) ?_
      refine r_getr (C := RX7) (T := TX7) (N := 43) (k' := 16) S hK hw (kM_0 hG).1 (kM_0 hG).2 rfl hinX7 29 (by decide) (o := 16) rfl rfl (hts (.fieldLink RX7 59 "SoupByRankModel" "named" "[I") (by decide +kernel)) rfl dX7_asksOf_54 ?_
      refine lv_iconst (v := 3) hx hb dX7_asksOf_57 (by decide) ?_
      refine lv_aload_n hx hb dX7_asksOf_58 rfl (lv_at hl 0 rfl) ?_
      refine r_getr (C := RX7) (T := TX7) (N := 43) (k' := 3) S hK hw (kM_0 hG).1 (kM_0 hG).2 rfl hinX7 3 (by decide) (o := 3) rfl rfl (hts (.fieldLink RX7 16 "SoupByRankModel" "rows" "[I") (by decide +kernel)) rfl dX7_asksOf_59 ?_
      refine lv_iconst (v := 2) hx hb dX7_asksOf_62 (by decide) ?_
      refine lv_iload_n hx hb dX7_asksOf_63 rfl (lv_at hl 2 rfl) ?_
      refine lv_imul hx hb dX7_asksOf_64 ?_
      obtain ⟨h_29, x_28, e_30, hg⟩ := rdA_e hg
      refine r_iald S hK hw (kM_3 hG).1 (kM_3 hG).2 h_29 e_30 dX7_asksOf_65 ?_
      obtain ⟨h_32, s_31, e_33, hg⟩ := wrA_e hg
      refine r_iast S hK hw (kM_16 hG).1 (kM_16 hG).2 h_32 e_33 dX7_asksOf_66 (fun H locs hw => ?_)
      refine lv_aload_n hx hb dX7_asksOf_67 rfl (lv_at hl 0 rfl) ?_
      refine r_getr (C := RX7) (T := TX7) (N := 43) (k' := 16) S hK hw (kM_0 hG).1 (kM_0 hG).2 rfl hinX7 29 (by decide) (o := 16) rfl rfl (hts (.fieldLink RX7 59 "SoupByRankModel" "named" "[I") (by decide +kernel)) rfl dX7_asksOf_68 ?_
      refine lv_iconst (v := 4) hx hb dX7_asksOf_71 (by decide) ?_
      refine lv_aload_n hx hb dX7_asksOf_72 rfl (lv_at hl 0 rfl) ?_
      refine r_getr (C := RX7) (T := TX7) (N := 43) (k' := 3) S hK hw (kM_0 hG).1 (kM_0 hG).2 rfl hinX7 3 (by decide) (o := 3) rfl rfl (hts (.fieldLink RX7 16 "SoupByRankModel" "rows" "[I") (by decide +kernel)) rfl dX7_asksOf_73 ?_
      refine lv_iconst (v := 2) hx hb dX7_asksOf_76 (by decide) ?_
      refine lv_iload_n hx hb dX7_asksOf_77 rfl (lv_at hl 2 rfl) ?_
      refine lv_imul hx hb dX7_asksOf_78 ?_
      refine lv_iconst (v := 1) hx hb dX7_asksOf_79 (by decide) ?_
      refine lv_iadd hx hb dX7_asksOf_80 ?_
      obtain ⟨h_35, x_34, e_36, hg⟩ := rdA_e hg
      refine r_iald S hK hw (kM_3 hG).1 (kM_3 hG).2 h_35 e_36 dX7_asksOf_81 ?_
      obtain ⟨h_38, s_37, e_39, hg⟩ := wrA_e hg
      refine r_iast S hK hw (kM_16 hG).1 (kM_16 hG).2 h_38 e_39 dX7_asksOf_82 (fun H locs hw => ?_)
      refine lv_aload_n hx hb dX7_asksOf_83 rfl (lv_at hl 0 rfl) ?_
      refine r_getr (C := RX7) (T := TX7) (N := 43) (k' := 16) S hK hw (kM_0 hG).1 (kM_0 hG).2 rfl hinX7 29 (by decide) (o := 16) rfl rfl (hts (.fieldLink RX7 59 "SoupByRankModel" "named" "[I") (by decide +kernel)) rfl dX7_asksOf_84 ?_
      refine lv_iconst (v := 5) hx hb dX7_asksOf_87 (by decide) ?_
      refine lv_aload_n hx hb dX7_asksOf_88 rfl (lv_at hl 0 rfl) ?_
      refine r_getr (C := RX7) (T := TX7) (N := 43) (k' := 2) S hK hw (kM_0 hG).1 (kM_0 hG).2 rfl hinX7 2 (by decide) (o := 2) rfl rfl (hts (.fieldLink RX7 13 "SoupByRankModel" "moreOf" "[I") (by decide +kernel)) rfl dX7_asksOf_89 ?_
      refine lv_iload_n hx hb dX7_asksOf_92 rfl (lv_at hl 2 rfl) ?_
      obtain ⟨h_41, x_40, e_42, hg⟩ := rdA_e hg
      refine r_iald S hK hw (kM_2 hG).1 (kM_2 hG).2 h_41 e_42 dX7_asksOf_93 ?_
      obtain ⟨h_44, s_43, e_45, hg⟩ := wrA_e hg
      refine r_iast S hK hw (kM_16 hG).1 (kM_16 hG).2 h_44 e_45 dX7_asksOf_94 (fun H locs hw => ?_)
      exact J95 a1 _ _ _ _ hg hw (lv_sub hl [0, 1] rfl)
set_option maxHeartbeats 4000000 in
set_option maxRecDepth 100000 in
theorem c_X7_asks (l : Launch) {G : GW} (hG : isM G) {F sz : Nat} {a1 : Int32} {a2 : Int32} {a3 : Int32} {a4 : Int32} {a5 : Int32} {σ σR : Sg} {r : Int32} (hg : g_X7_asks F a1 a2 a3 a4 a5 σ = some (σR, r)) : Met l yX7_asks wsX7_asks ({ frames := 3, cells := 0, slots := 0, locals := 71 } : Room) (va_Pc [.ref (gAd G 0), .int a1, .int a2, .int a3, .int a4, .int a5] (PX G σ sz)) (QcI G (gA G sz) σR r) 0 0 (gA G sz) := by
  refine metX (by decide) rfl (Nat.le_of_ble_eq_true rfl) ?_
  intro p e s m args below meth c ls S hr hlk hsz hA hK hw hl hmn
  have S : CallFix p m c cX7_asks 7 s args wsX7_asks RX7 := S
  obtain ⟨hx, hb, hml, hown, hts⟩ := id S
  have hl : lv_has ls 7 [(0, .ref (gAd G 0)), (1, .int a1), (2, .int a2), (3, .int a3), (4, .int a4), (5, .int a5)] := hl
  have J27 : ∀ (v1 : Int32) (v2 : Int32) (v3 : Int32) (v4 : Int32) (v5 : Int32) (u0 : Int32) (σ : Sg) (H : Heap) (locs : List Loc) (ls : Array Slot) (hg : g_X7_asks_b27 F v1 v2 v3 v4 v5 u0 σ = some (σR, r)) (hw : XD G (gA G sz) s.heap σ H locs) (hl : lv_has ls 7 [(0, .ref (gAd G 0)), (1, .int v1), (2, .int v2), (3, .int v3), (4, .int v4), (5, .int v5)]), W p l e (headSpec wsX7_asks ({ frames := 3, cells := 0, slots := 0, locals := 71 } : Room)).room s m args below meth c H locs 0 0 (MQ below (QcI G (gA G sz) σR r) args s 0 0 (gA G sz)) (F0 m 27 ls [.int u0]) := by
    intro v1 v2 v3 v4 v5 u0 σ H locs ls hg hw hl
    rw [g_X7_asks_b27] at hg
    refine lv_istore (lv' := [(6, .int u0), (0, .ref (gAd G 0)), (1, .int v1), (2, .int v2), (3, .int v3), (4, .int v4), (5, .int v5)]) hx hb dX7_asks_27 hl (by decide) rfl (fun ls hl => ?_)
    refine lv_iload hx hb dX7_asks_29 (lv_at hl 0 rfl) ?_
    refine lv_if_eq (tgt := 66) hx hb dX7_asks_31 (by decide) (fun c_1 => ?_) (fun c_1 => ?_)
    · have hg := it_p hg c_1
      refine lv_bipush (v := (-2)) hx hb dX7_asks_66 (by decide) ?_
      exact r_ireti S hr hlk hw.2.2.2.2 hw hg dX7_asks_68
    · have hg := it_n hg c_1
      refine lv_iload_n hx hb dX7_asks_34 rfl (lv_at hl 4 rfl) ?_
      refine lv_iconst (v := 0) hx hb dX7_asks_35 (by decide) ?_
      refine lv_bipush (v := 99) hx hb dX7_asks_36 (by decide) ?_
      obtain ⟨s_2, x_3, h_4, hg⟩ := bnI_e hg
      refine r_iS (As := [.int v3, .int 0, .int 99]) (rest := []) S hA hK hw (c_X7_in l hG  h_4) (va_cwS 3 hts gX7_asks_X7_in rfl rfl rfl (by decide +kernel) ⟨Nat.le_of_ble_eq_true rfl, Nat.le_of_ble_eq_true rfl⟩) rfl hl.1 (Nat.le_of_ble_eq_true rfl) dX7_asks_38 ⟨Nat.zero_le _, Nat.zero_le _⟩ rfl (fun H locs hw => ?_)
      refine lv_if_eq (tgt := 66) hx hb dX7_asks_41 (by decide) (fun c_5 => ?_) (fun c_5 => ?_)
      · have hg := it_p hg c_5
        refine lv_bipush (v := (-2)) hx hb dX7_asks_66 (by decide) ?_
        exact r_ireti S hr hlk hw.2.2.2.2 hw hg dX7_asks_68
      · have hg := it_n hg c_5
        refine lv_iload hx hb dX7_asks_44 (lv_at hl 5 rfl) ?_
        refine lv_iconst (v := 0) hx hb dX7_asks_46 (by decide) ?_
        refine lv_bipush (v := 60) hx hb dX7_asks_47 (by decide) ?_
        obtain ⟨s_6, x_7, h_8, hg⟩ := bnI_e hg
        refine r_iS (As := [.int v4, .int 0, .int 60]) (rest := []) S hA hK hw (c_X7_in l hG  h_8) (va_cwS 3 hts gX7_asks_X7_in rfl rfl rfl (by decide +kernel) ⟨Nat.le_of_ble_eq_true rfl, Nat.le_of_ble_eq_true rfl⟩) rfl hl.1 (Nat.le_of_ble_eq_true rfl) dX7_asks_49 ⟨Nat.zero_le _, Nat.zero_le _⟩ rfl (fun H locs hw => ?_)
        refine lv_if_eq (tgt := 66) hx hb dX7_asks_52 (by decide) (fun c_9 => ?_) (fun c_9 => ?_)
        · have hg := it_p hg c_9
          refine lv_bipush (v := (-2)) hx hb dX7_asks_66 (by decide) ?_
          exact r_ireti S hr hlk hw.2.2.2.2 hw hg dX7_asks_68
        · have hg := it_n hg c_9
          refine lv_iload hx hb dX7_asks_55 (lv_at hl 6 rfl) ?_
          refine lv_iconst (v := 0) hx hb dX7_asks_57 (by decide) ?_
          refine lv_bipush (v := 6) hx hb dX7_asks_58 (by decide) ?_
          obtain ⟨s_10, x_11, h_12, hg⟩ := bnI_e hg
          refine r_iS (As := [.int v5, .int 0, .int 6]) (rest := []) S hA hK hw (c_X7_in l hG  h_12) (va_cwS 3 hts gX7_asks_X7_in rfl rfl rfl (by decide +kernel) ⟨Nat.le_of_ble_eq_true rfl, Nat.le_of_ble_eq_true rfl⟩) rfl hl.1 (Nat.le_of_ble_eq_true rfl) dX7_asks_60 ⟨Nat.zero_le _, Nat.zero_le _⟩ rfl (fun H locs hw => ?_)
          refine lv_if_ne (tgt := 69) hx hb dX7_asks_63 (by decide) (fun c_13 => ?_) (fun c_13 => ?_)
          · have hg := it_n hg c_13
            refine lv_aload_n hx hb dX7_asks_69 rfl (lv_at hl 1 rfl) ?_
            refine lv_iload_n hx hb dX7_asks_70 rfl (lv_at hl 2 rfl) ?_
            refine lv_iload_n hx hb dX7_asks_71 rfl (lv_at hl 3 rfl) ?_
            refine lv_iload_n hx hb dX7_asks_72 rfl (lv_at hl 4 rfl) ?_
            refine lv_iload hx hb dX7_asks_73 (lv_at hl 5 rfl) ?_
            refine lv_iload hx hb dX7_asks_75 (lv_at hl 6 rfl) ?_
            obtain ⟨s_14, x_15, h_16, hg⟩ := bnI_e hg
            refine r_iV (As := [.int v1, .int v2, .int v3, .int v4, .int v5]) (rest := []) S hA hK hw (c_X7_asksOf l hG  h_16) (cwV 5 hts gX7_asks_X7_asksOf rfl rfl rfl (by decide +kernel) ⟨Nat.le_of_ble_eq_true rfl, Nat.le_of_ble_eq_true rfl⟩) (r_recv hK hw (kM_0 hG).1 (kM_0 hG).2 rfl) rfl hl.1 (Nat.le_of_ble_eq_true rfl) dX7_asks_77 ⟨Nat.zero_le _, Nat.zero_le _⟩ rfl (fun H locs hw => ?_)
            exact r_ireti S hr hlk hw.2.2.2.2 hw hg dX7_asks_80
          · have hg := it_p hg c_13
            refine lv_bipush (v := (-2)) hx hb dX7_asks_66 (by decide) ?_
            exact r_ireti S hr hlk hw.2.2.2.2 hw hg dX7_asks_68
  have J26 : ∀ (v1 : Int32) (v2 : Int32) (v3 : Int32) (v4 : Int32) (v5 : Int32) (σ : Sg) (H : Heap) (locs : List Loc) (ls : Array Slot) (hg : g_X7_asks_b26 F v1 v2 v3 v4 v5 σ = some (σR, r)) (hw : XD G (gA G sz) s.heap σ H locs) (hl : lv_has ls 7 [(0, .ref (gAd G 0)), (1, .int v1), (2, .int v2), (3, .int v3), (4, .int v4), (5, .int v5)]), W p l e (headSpec wsX7_asks ({ frames := 3, cells := 0, slots := 0, locals := 71 } : Room)).room s m args below meth c H locs 0 0 (MQ below (QcI G (gA G sz) σR r) args s 0 0 (gA G sz)) (F0 m 26 ls []) := by
    intro v1 v2 v3 v4 v5 σ H locs ls hg hw hl
    rw [g_X7_asks_b26] at hg
    refine lv_iconst (v := 0) hx hb dX7_asks_26 (by decide) ?_
    exact J27 v1 v2 v3 v4 v5 0 _ _ _ _ hg hw (lv_sub hl [0, 1, 2, 3, 4, 5] rfl)
  have J22 : ∀ (v1 : Int32) (v2 : Int32) (v3 : Int32) (v4 : Int32) (v5 : Int32) (σ : Sg) (H : Heap) (locs : List Loc) (ls : Array Slot) (hg : g_X7_asks_b22 F v1 v2 v3 v4 v5 σ = some (σR, r)) (hw : XD G (gA G sz) s.heap σ H locs) (hl : lv_has ls 7 [(0, .ref (gAd G 0)), (1, .int v1), (2, .int v2), (3, .int v3), (4, .int v4), (5, .int v5)]), W p l e (headSpec wsX7_asks ({ frames := 3, cells := 0, slots := 0, locals := 71 } : Room)).room s m args below meth c H locs 0 0 (MQ below (QcI G (gA G sz) σR r) args s 0 0 (gA G sz)) (F0 m 22 ls []) := by
    intro v1 v2 v3 v4 v5 σ H locs ls hg hw hl
    rw [g_X7_asks_b22] at hg
    refine lv_iconst (v := 1) hx hb dX7_asks_22 (by decide) ?_
    refine lv_goto (tgt := 27) hx hb dX7_asks_23 (by decide) ?_
    exact J27 v1 v2 v3 v4 v5 1 _ _ _ _ hg hw (lv_sub hl [0, 1, 2, 3, 4, 5] rfl)
  rw [g_X7_asks] at hg
  refine lv_iload_n hx hb dX7_asks_0 rfl (lv_at hl 1 rfl) ?_
  refine lv_iconst (v := 0) hx hb dX7_asks_1 (by decide) ?_
  refine lv_iconst (v := 2) hx hb dX7_asks_2 (by decide) ?_
  obtain ⟨s_17, x_18, h_19, hg⟩ := bnI_e hg
  refine r_iS (As := [.int a1, .int 0, .int 2]) (rest := []) S hA hK hw (c_X7_in l hG  h_19) (va_cwS 3 hts gX7_asks_X7_in rfl rfl rfl (by decide +kernel) ⟨Nat.le_of_ble_eq_true rfl, Nat.le_of_ble_eq_true rfl⟩) rfl hl.1 (Nat.le_of_ble_eq_true rfl) dX7_asks_3 ⟨Nat.zero_le _, Nat.zero_le _⟩ rfl (fun H locs hw => ?_)
  refine lv_if_eq (tgt := 26) hx hb dX7_asks_6 (by decide) (fun c_20 => ?_) (fun c_20 => ?_)
  · have hg := it_p hg c_20
    exact J26 a1 a2 a3 a4 a5 _ _ _ _ hg hw (lv_sub hl [0, 1, 2, 3, 4, 5] rfl)
  · have hg := it_n hg c_20
    refine lv_iload_n hx hb dX7_asks_9 rfl (lv_at hl 2 rfl) ?_
    refine lv_iconst (v := (-1)) hx hb dX7_asks_10 (by decide) ?_
    refine lv_icmp_eq (tgt := 22) hx hb dX7_asks_11 (by decide) (fun c_21 => ?_) (fun c_21 => ?_)
    · have hg := it_p hg c_21
      exact J22 a1 a2 a3 a4 a5 _ _ _ _ hg hw (lv_sub hl [0, 1, 2, 3, 4, 5] rfl)
    · have hg := it_n hg c_21
      refine lv_aload_n hx hb dX7_asks_14 rfl (lv_at hl 0 rfl) ?_
      refine lv_iload_n hx hb dX7_asks_15 rfl (lv_at hl 2 rfl) ?_
      obtain ⟨s_22, x_23, h_24, hg⟩ := bnI_e hg
      refine r_iV (As := [.int a2]) (rest := []) S hA hK hw (c_X7_isOne l hG  h_24) (cwV 1 hts gX7_asks_X7_isOne rfl rfl rfl (by decide +kernel) ⟨Nat.le_of_ble_eq_true rfl, Nat.le_of_ble_eq_true rfl⟩) (r_recv hK hw (kM_0 hG).1 (kM_0 hG).2 rfl) rfl hl.1 (Nat.le_of_ble_eq_true rfl) dX7_asks_16 ⟨Nat.zero_le _, Nat.zero_le _⟩ rfl (fun H locs hw => ?_)
      refine lv_if_eq (tgt := 26) hx hb dX7_asks_19 (by decide) (fun c_25 => ?_) (fun c_25 => ?_)
      · have hg := it_p hg c_25
        exact J26 a1 a2 a3 a4 a5 _ _ _ _ hg hw (lv_sub hl [0, 1, 2, 3, 4, 5] rfl)
      · have hg := it_n hg c_25
        exact J22 a1 a2 a3 a4 a5 _ _ _ _ hg hw (lv_sub hl [0, 1, 2, 3, 4, 5] rfl)
set_option maxHeartbeats 4000000 in
set_option maxRecDepth 100000 in
theorem c_X7_courtier (l : Launch) {G : GW} (hG : isM G) {F sz : Nat} {a1 : Int32} {a2 : Int32} {σ σR : Sg} {r : Int32} (hg : g_X7_courtier F a1 a2 σ = some (σR, r)) : Met l yX7_courtier wsX7_courtier ({ frames := 1, cells := 0, slots := 0, locals := 22 } : Room) (va_Pc [.ref (gAd G 0), .int a1, .int a2] (PX G σ sz)) (QcI G (gA G sz) σR r) 0 0 (gA G sz) := by
  refine metX (by decide) rfl (Nat.le_of_ble_eq_true rfl) ?_
  intro p e s m args below meth c ls S hr hlk hsz hA hK hw hl hmn
  have S : CallFix p m c cX7_courtier 3 s args wsX7_courtier RX7 := S
  obtain ⟨hx, hb, hml, hown, hts⟩ := id S
  have hl : lv_has ls 3 [(0, .ref (gAd G 0)), (1, .int a1), (2, .int a2)] := hl
  have hinX7 : ∀ w ∈ wsX70, w ∈ wsX7_courtier := by decide +kernel
  rw [g_X7_courtier] at hg
  refine lv_iload_n hx hb dX7_courtier_0 rfl (lv_at hl 1 rfl) ?_
  refine lv_iconst (v := 0) hx hb dX7_courtier_1 (by decide) ?_
  refine lv_bipush (v := 59) hx hb dX7_courtier_2 (by decide) ?_
  obtain ⟨s_1, x_2, h_3, hg⟩ := bnI_e hg
  refine r_iS (As := [.int a1, .int 0, .int 59]) (rest := []) S hA hK hw (c_X7_in l hG  h_3) (va_cwS 3 hts gX7_courtier_X7_in rfl rfl rfl (by decide +kernel) ⟨Nat.le_of_ble_eq_true rfl, Nat.le_of_ble_eq_true rfl⟩) rfl hl.1 (Nat.le_of_ble_eq_true rfl) dX7_courtier_4 ⟨Nat.zero_le _, Nat.zero_le _⟩ rfl (fun H locs hw => ?_)
  refine lv_if_eq (tgt := 20) hx hb dX7_courtier_7 (by decide) (fun c_4 => ?_) (fun c_4 => ?_)
  · have hg := it_p hg c_4
    refine lv_bipush (v := (-2)) hx hb dX7_courtier_20 (by decide) ?_
    exact r_ireti S hr hlk hw.2.2.2.2 hw hg dX7_courtier_22
  · have hg := it_n hg c_4
    refine lv_iload_n hx hb dX7_courtier_10 rfl (lv_at hl 2 rfl) ?_
    refine lv_iconst (v := 0) hx hb dX7_courtier_11 (by decide) ?_
    refine lv_bipush (v := 99) hx hb dX7_courtier_12 (by decide) ?_
    obtain ⟨s_5, x_6, h_7, hg⟩ := bnI_e hg
    refine r_iS (As := [.int a2, .int 0, .int 99]) (rest := []) S hA hK hw (c_X7_in l hG  h_7) (va_cwS 3 hts gX7_courtier_X7_in rfl rfl rfl (by decide +kernel) ⟨Nat.le_of_ble_eq_true rfl, Nat.le_of_ble_eq_true rfl⟩) rfl hl.1 (Nat.le_of_ble_eq_true rfl) dX7_courtier_14 ⟨Nat.zero_le _, Nat.zero_le _⟩ rfl (fun H locs hw => ?_)
    refine lv_if_ne (tgt := 23) hx hb dX7_courtier_17 (by decide) (fun c_8 => ?_) (fun c_8 => ?_)
    · have hg := it_n hg c_8
      refine lv_aload_n hx hb dX7_courtier_23 rfl (lv_at hl 0 rfl) ?_
      refine r_get (C := RX7) (T := TX7) (N := 43) S hK hw (kM_0 hG).1 (kM_0 hG).2 rfl hinX7 0 (by decide) rfl (hts (.fieldLink RX7 90 "SoupByRankModel" "courtiers" "I") (by decide +kernel)) rfl dX7_courtier_24 ?_
      refine lv_bipush (v := 6) hx hb dX7_courtier_27 (by decide) ?_
      refine lv_icmp_ne (tgt := 35) hx hb dX7_courtier_29 (by decide) (fun c_9 => ?_) (fun c_9 => ?_)
      · have hg := it_n hg c_9
        refine lv_aload_n hx hb dX7_courtier_35 rfl (lv_at hl 0 rfl) ?_
        refine r_getr (C := RX7) (T := TX7) (N := 43) (k' := 1) S hK hw (kM_0 hG).1 (kM_0 hG).2 rfl hinX7 1 (by decide) (o := 1) rfl rfl (hts (.fieldLink RX7 7 "SoupByRankModel" "kind" "[I") (by decide +kernel)) rfl dX7_courtier_36 ?_
        refine lv_aload_n hx hb dX7_courtier_39 rfl (lv_at hl 0 rfl) ?_
        refine r_get (C := RX7) (T := TX7) (N := 43) S hK hw (kM_0 hG).1 (kM_0 hG).2 rfl hinX7 0 (by decide) rfl (hts (.fieldLink RX7 90 "SoupByRankModel" "courtiers" "I") (by decide +kernel)) rfl dX7_courtier_40 ?_
        refine lv_iload_n hx hb dX7_courtier_43 rfl (lv_at hl 1 rfl) ?_
        refine lv_bipush (v := 10) hx hb dX7_courtier_44 (by decide) ?_
        obtain ⟨h_11, hg⟩ := divI_e hg
        refine lv_idiv hx hb dX7_courtier_46 h_11 ?_
        obtain ⟨h_14, s_13, e_15, hg⟩ := wrA_e hg
        refine r_iast S hK hw (kM_1 hG).1 (kM_1 hG).2 h_14 e_15 dX7_courtier_47 (fun H locs hw => ?_)
        refine lv_aload_n hx hb dX7_courtier_48 rfl (lv_at hl 0 rfl) ?_
        refine r_getr (C := RX7) (T := TX7) (N := 43) (k' := 2) S hK hw (kM_0 hG).1 (kM_0 hG).2 rfl hinX7 2 (by decide) (o := 2) rfl rfl (hts (.fieldLink RX7 13 "SoupByRankModel" "moreOf" "[I") (by decide +kernel)) rfl dX7_courtier_49 ?_
        refine lv_aload_n hx hb dX7_courtier_52 rfl (lv_at hl 0 rfl) ?_
        refine r_get (C := RX7) (T := TX7) (N := 43) S hK hw (kM_0 hG).1 (kM_0 hG).2 rfl hinX7 0 (by decide) rfl (hts (.fieldLink RX7 90 "SoupByRankModel" "courtiers" "I") (by decide +kernel)) rfl dX7_courtier_53 ?_
        refine lv_iload_n hx hb dX7_courtier_56 rfl (lv_at hl 1 rfl) ?_
        refine lv_bipush (v := 10) hx hb dX7_courtier_57 (by decide) ?_
        obtain ⟨h_17, hg⟩ := remI_e hg
        refine lv_irem hx hb dX7_courtier_59 h_17 ?_
        obtain ⟨h_20, s_19, e_21, hg⟩ := wrA_e hg
        refine r_iast S hK hw (kM_2 hG).1 (kM_2 hG).2 h_20 e_21 dX7_courtier_60 (fun H locs hw => ?_)
        refine lv_aload_n hx hb dX7_courtier_61 rfl (lv_at hl 0 rfl) ?_
        refine r_getr (C := RX7) (T := TX7) (N := 43) (k' := 3) S hK hw (kM_0 hG).1 (kM_0 hG).2 rfl hinX7 3 (by decide) (o := 3) rfl rfl (hts (.fieldLink RX7 16 "SoupByRankModel" "rows" "[I") (by decide +kernel)) rfl dX7_courtier_62 ?_
        refine lv_iconst (v := 2) hx hb dX7_courtier_65 (by decide) ?_
        refine lv_aload_n hx hb dX7_courtier_66 rfl (lv_at hl 0 rfl) ?_
        refine r_get (C := RX7) (T := TX7) (N := 43) S hK hw (kM_0 hG).1 (kM_0 hG).2 rfl hinX7 0 (by decide) rfl (hts (.fieldLink RX7 90 "SoupByRankModel" "courtiers" "I") (by decide +kernel)) rfl dX7_courtier_67 ?_
        refine lv_imul hx hb dX7_courtier_70 ?_
        refine lv_iload_n hx hb dX7_courtier_71 rfl (lv_at hl 2 rfl) ?_
        obtain ⟨h_23, s_22, e_24, hg⟩ := wrA_e hg
        refine r_iast S hK hw (kM_3 hG).1 (kM_3 hG).2 h_23 e_24 dX7_courtier_72 (fun H locs hw => ?_)
        refine lv_aload_n hx hb dX7_courtier_73 rfl (lv_at hl 0 rfl) ?_
        refine r_getr (C := RX7) (T := TX7) (N := 43) (k' := 3) S hK hw (kM_0 hG).1 (kM_0 hG).2 rfl hinX7 3 (by decide) (o := 3) rfl rfl (hts (.fieldLink RX7 16 "SoupByRankModel" "rows" "[I") (by decide +kernel)) rfl dX7_courtier_74 ?_
        refine lv_iconst (v := 2) hx hb dX7_courtier_77 (by decide) ?_
        refine lv_aload_n hx hb dX7_courtier_78 rfl (lv_at hl 0 rfl) ?_
        refine r_get (C := RX7) (T := TX7) (N := 43) S hK hw (kM_0 hG).1 (kM_0 hG).2 rfl hinX7 0 (by decide) rfl (hts (.fieldLink RX7 90 "SoupByRankModel" "courtiers" "I") (by decide +kernel)) rfl dX7_courtier_79 ?_
        refine lv_imul hx hb dX7_courtier_82 ?_
        refine lv_iconst (v := 1) hx hb dX7_courtier_83 (by decide) ?_
        refine lv_iadd hx hb dX7_courtier_84 ?_
        refine lv_sipush (v := 500) hx hb dX7_courtier_85 (by decide) ?_
        obtain ⟨h_26, s_25, e_27, hg⟩ := wrA_e hg
        refine r_iast S hK hw (kM_3 hG).1 (kM_3 hG).2 h_26 e_27 dX7_courtier_88 (fun H locs hw => ?_)
        refine lv_aload_n hx hb dX7_courtier_89 rfl (lv_at hl 0 rfl) ?_
        refine lv_dup hx hb dX7_courtier_90 rfl ?_
        refine r_get (C := RX7) (T := TX7) (N := 43) S hK hw (kM_0 hG).1 (kM_0 hG).2 rfl hinX7 0 (by decide) rfl (hts (.fieldLink RX7 90 "SoupByRankModel" "courtiers" "I") (by decide +kernel)) rfl dX7_courtier_91 ?_
        refine lv_iconst (v := 1) hx hb dX7_courtier_94 (by decide) ?_
        refine lv_iadd hx hb dX7_courtier_95 ?_
        obtain ⟨s_28, e_29, hg⟩ := wrF_e hg
        refine r_put (C := RX7) (T := TX7) (N := 43) S hK hw (kM_0 hG).1 (kM_0 hG).2 rfl hinX7 tyX7_ok nmX7 0 (by decide) rfl rfl rfl rfl (hts (.fieldLink RX7 90 "SoupByRankModel" "courtiers" "I") (by decide +kernel)) rfl e_29 dX7_courtier_96 (fun H locs hw => ?_)
        refine lv_aload_n hx hb dX7_courtier_99 rfl (lv_at hl 0 rfl) ?_
        refine r_get (C := RX7) (T := TX7) (N := 43) S hK hw (kM_0 hG).1 (kM_0 hG).2 rfl hinX7 0 (by decide) rfl (hts (.fieldLink RX7 90 "SoupByRankModel" "courtiers" "I") (by decide +kernel)) rfl dX7_courtier_100 ?_
        refine lv_iconst (v := 1) hx hb dX7_courtier_103 (by decide) ?_
        refine lv_isub hx hb dX7_courtier_104 ?_
        exact r_ireti S hr hlk hw.2.2.2.2 hw hg dX7_courtier_105
      · have hg := it_p hg c_9
        refine lv_bipush (v := (-4)) hx hb dX7_courtier_32 (by decide) ?_
        exact r_ireti S hr hlk hw.2.2.2.2 hw hg dX7_courtier_34
    · have hg := it_p hg c_8
      refine lv_bipush (v := (-2)) hx hb dX7_courtier_20 (by decide) ?_
      exact r_ireti S hr hlk hw.2.2.2.2 hw hg dX7_courtier_22
set_option maxHeartbeats 4000000 in
set_option maxRecDepth 100000 in
theorem c_X7_put (l : Launch) {G : GW} (hG : isM G) {F sz : Nat} {a1 : Int32} {a2 : Int32} {a3 : Int32} {σ σR : Sg} {r : Int32} (hg : g_X7_put F a1 a2 a3 σ = some (σR, r)) : Met l yX7_put wsX7_put ({ frames := 2, cells := 0, slots := 0, locals := 43 } : Room) (va_Pc [.ref (gAd G 0), .int a1, .int a2, .int a3] (PX G σ sz)) (QcI G (gA G sz) σR r) 0 0 (gA G sz) := by
  refine metX (by decide) rfl (Nat.le_of_ble_eq_true rfl) ?_
  intro p e s m args below meth c ls S hr hlk hsz hA hK hw hl hmn
  have S : CallFix p m c cX7_put 5 s args wsX7_put RX7 := S
  obtain ⟨hx, hb, hml, hown, hts⟩ := id S
  have hl : lv_has ls 5 [(0, .ref (gAd G 0)), (1, .int a1), (2, .int a2), (3, .int a3)] := hl
  have hinX7 : ∀ w ∈ wsX70, w ∈ wsX7_put := by decide +kernel
  have J34 : ∀ (v1 : Int32) (v2 : Int32) (v3 : Int32) (u0 : Int32) (u1 : Int32) (u2 : Int32) (σ : Sg) (H : Heap) (locs : List Loc) (ls : Array Slot) (hg : g_X7_put_b34 F v1 v2 v3 u0 u1 u2 σ = some (σR, r)) (hw : XD G (gA G sz) s.heap σ H locs) (hl : lv_has ls 5 [(0, .ref (gAd G 0)), (1, .int v1), (2, .int v2), (3, .int v3)]), W p l e (headSpec wsX7_put ({ frames := 2, cells := 0, slots := 0, locals := 43 } : Room)).room s m args below meth c H locs 0 0 (MQ below (QcI G (gA G sz) σR r) args s 0 0 (gA G sz)) (F0 m 34 ls [.int u0, .int u1, .int u2]) := by
    intro v1 v2 v3 u0 u1 u2 σ H locs ls hg hw hl
    rw [g_X7_put_b34] at hg
    obtain ⟨s_1, x_2, h_3, hg⟩ := bnI_e hg
    refine r_iS (As := [.int u2, .int u1, .int u0]) (rest := []) S hA hK hw (c_X7_in l hG  h_3) (va_cwS 3 hts gX7_put_X7_in rfl rfl rfl (by decide +kernel) ⟨Nat.le_of_ble_eq_true rfl, Nat.le_of_ble_eq_true rfl⟩) rfl hl.1 (Nat.le_of_ble_eq_true rfl) dX7_put_34 ⟨Nat.zero_le _, Nat.zero_le _⟩ rfl (fun H locs hw => ?_)
    refine lv_if_ne (tgt := 43) hx hb dX7_put_37 (by decide) (fun c_4 => ?_) (fun c_4 => ?_)
    · have hg := it_n hg c_4
      refine lv_aload_n hx hb dX7_put_43 rfl (lv_at hl 0 rfl) ?_
      refine r_getr (C := RX7) (T := TX7) (N := 43) (k' := 3) S hK hw (kM_0 hG).1 (kM_0 hG).2 rfl hinX7 3 (by decide) (o := 3) rfl rfl (hts (.fieldLink RX7 16 "SoupByRankModel" "rows" "[I") (by decide +kernel)) rfl dX7_put_44 ?_
      refine lv_iconst (v := 2) hx hb dX7_put_47 (by decide) ?_
      refine lv_iload_n hx hb dX7_put_48 rfl (lv_at hl 1 rfl) ?_
      refine lv_imul hx hb dX7_put_49 ?_
      refine lv_iload_n hx hb dX7_put_50 rfl (lv_at hl 2 rfl) ?_
      refine lv_iadd hx hb dX7_put_51 ?_
      obtain ⟨h_6, x_5, e_7, hg⟩ := rdA_e hg
      refine r_iald S hK hw (kM_3 hG).1 (kM_3 hG).2 h_6 e_7 dX7_put_52 ?_
      refine lv_istore (lv' := [(4, .int x_5), (0, .ref (gAd G 0)), (1, .int v1), (2, .int v2), (3, .int v3)]) hx hb dX7_put_53 hl (by decide) rfl (fun ls hl => ?_)
      refine lv_aload_n hx hb dX7_put_55 rfl (lv_at hl 1 rfl) ?_
      refine r_getr (C := RX7) (T := TX7) (N := 43) (k' := 3) S hK hw (kM_0 hG).1 (kM_0 hG).2 rfl hinX7 3 (by decide) (o := 3) rfl rfl (hts (.fieldLink RX7 16 "SoupByRankModel" "rows" "[I") (by decide +kernel)) rfl dX7_put_56 ?_
      refine lv_iconst (v := 2) hx hb dX7_put_59 (by decide) ?_
      refine lv_iload_n hx hb dX7_put_60 rfl (lv_at hl 2 rfl) ?_
      refine lv_imul hx hb dX7_put_61 ?_
      refine lv_iload_n hx hb dX7_put_62 rfl (lv_at hl 3 rfl) ?_
      refine lv_iadd hx hb dX7_put_63 ?_
      refine lv_iload_n hx hb dX7_put_64 rfl (lv_at hl 4 rfl) ?_
      obtain ⟨h_9, s_8, e_10, hg⟩ := wrA_e hg
      refine r_iast S hK hw (kM_3 hG).1 (kM_3 hG).2 h_9 e_10 dX7_put_65 (fun H locs hw => ?_)
      refine lv_iload hx hb dX7_put_66 (lv_at hl 0 rfl) ?_
      exact r_ireti S hr hlk hw.2.2.2.2 hw hg dX7_put_68
    · have hg := it_p hg c_4
      refine lv_bipush (v := (-7)) hx hb dX7_put_40 (by decide) ?_
      exact r_ireti S hr hlk hw.2.2.2.2 hw hg dX7_put_42
  rw [g_X7_put] at hg
  refine lv_aload_n hx hb dX7_put_0 rfl (lv_at hl 0 rfl) ?_
  refine lv_iload_n hx hb dX7_put_1 rfl (lv_at hl 1 rfl) ?_
  obtain ⟨s_11, x_12, h_13, hg⟩ := bnI_e hg
  refine r_iV (As := [.int a1]) (rest := []) S hA hK hw (c_X7_isOne l hG  h_13) (cwV 1 hts gX7_put_X7_isOne rfl rfl rfl (by decide +kernel) ⟨Nat.le_of_ble_eq_true rfl, Nat.le_of_ble_eq_true rfl⟩) (r_recv hK hw (kM_0 hG).1 (kM_0 hG).2 rfl) rfl hl.1 (Nat.le_of_ble_eq_true rfl) dX7_put_2 ⟨Nat.zero_le _, Nat.zero_le _⟩ rfl (fun H locs hw => ?_)
  refine lv_if_ne (tgt := 11) hx hb dX7_put_5 (by decide) (fun c_14 => ?_) (fun c_14 => ?_)
  · have hg := it_n hg c_14
    refine lv_iload_n hx hb dX7_put_11 rfl (lv_at hl 2 rfl) ?_
    refine lv_iconst (v := 0) hx hb dX7_put_12 (by decide) ?_
    refine lv_iconst (v := 1) hx hb dX7_put_13 (by decide) ?_
    obtain ⟨s_15, x_16, h_17, hg⟩ := bnI_e hg
    refine r_iS (As := [.int a2, .int 0, .int 1]) (rest := []) S hA hK hw (c_X7_in l hG  h_17) (va_cwS 3 hts gX7_put_X7_in rfl rfl rfl (by decide +kernel) ⟨Nat.le_of_ble_eq_true rfl, Nat.le_of_ble_eq_true rfl⟩) rfl hl.1 (Nat.le_of_ble_eq_true rfl) dX7_put_14 ⟨Nat.zero_le _, Nat.zero_le _⟩ rfl (fun H locs hw => ?_)
    refine lv_if_eq (tgt := 40) hx hb dX7_put_17 (by decide) (fun c_18 => ?_) (fun c_18 => ?_)
    · have hg := it_p hg c_18
      refine lv_bipush (v := (-7)) hx hb dX7_put_40 (by decide) ?_
      exact r_ireti S hr hlk hw.2.2.2.2 hw hg dX7_put_42
    · have hg := it_n hg c_18
      refine lv_iload_n hx hb dX7_put_20 rfl (lv_at hl 3 rfl) ?_
      refine lv_iconst (v := 0) hx hb dX7_put_21 (by decide) ?_
      refine lv_iload_n hx hb dX7_put_22 rfl (lv_at hl 2 rfl) ?_
      refine lv_if_ne (tgt := 31) hx hb dX7_put_23 (by decide) (fun c_19 => ?_) (fun c_19 => ?_)
      · have hg := it_n hg c_19
        refine lv_sipush (v := 999) hx hb dX7_put_31 (by decide) ?_
        exact J34 a1 a2 a3 999 0 a3 _ _ _ _ hg hw (lv_sub hl [0, 1, 2, 3] rfl)
      · have hg := it_p hg c_19
        refine lv_bipush (v := 99) hx hb dX7_put_26 (by decide) ?_
        refine lv_goto (tgt := 34) hx hb dX7_put_28 (by decide) ?_
        exact J34 a1 a2 a3 99 0 a3 _ _ _ _ hg hw (lv_sub hl [0, 1, 2, 3] rfl)
  · have hg := it_p hg c_14
    refine lv_bipush (v := (-5)) hx hb dX7_put_8 (by decide) ?_
    exact r_ireti S hr hlk hw.2.2.2.2 hw hg dX7_put_10
set_option maxHeartbeats 4000000 in
set_option maxRecDepth 100000 in
theorem c_X7_waitsOf (l : Launch) {G : GW} (hG : isM G) {F sz : Nat} {a1 : Int32} {a2 : Int32} {a3 : Int32} {a4 : Int32} {σ σR : Sg} {r : Int32} (hg : g_X7_waitsOf F a1 a2 a3 a4 σ = some (σR, r)) : Met l yX7_waitsOf wsX7_waitsOf ({ frames := 3, cells := 0, slots := 0, locals := 71 } : Room) (va_Pc [.ref (gAd G 0), .int a1, .int a2, .int a3, .int a4] (PX G σ sz)) (QcI G (gA G sz) σR r) 0 0 (gA G sz) := by
  refine metX (by decide) rfl (Nat.le_of_ble_eq_true rfl) ?_
  intro p e s m args below meth c ls S hr hlk hsz hA hK hw hl hmn
  have S : CallFix p m c cX7_waitsOf 7 s args wsX7_waitsOf RX7 := S
  obtain ⟨hx, hb, hml, hown, hts⟩ := id S
  have hl : lv_has ls 7 [(0, .ref (gAd G 0)), (1, .int a1), (2, .int a2), (3, .int a3), (4, .int a4)] := hl
  have hinX7 : ∀ w ∈ wsX70, w ∈ wsX7_waitsOf := by decide +kernel
  have J44 : ∀ (v1 : Int32) (v5 : Int32) (u0 : Int32) (σ : Sg) (H : Heap) (locs : List Loc) (ls : Array Slot) (hg : g_X7_waitsOf_b44 F v1 v5 u0 σ = some (σR, r)) (hw : XD G (gA G sz) s.heap σ H locs) (hl : lv_has ls 7 [(0, .ref (gAd G 0)), (1, .int v1), (5, .int v5)]), W p l e (headSpec wsX7_waitsOf ({ frames := 3, cells := 0, slots := 0, locals := 71 } : Room)).room s m args below meth c H locs 0 0 (MQ below (QcI G (gA G sz) σR r) args s 0 0 (gA G sz)) (F0 m 44 ls [.int u0]) := by
    intro v1 v5 u0 σ H locs ls hg hw hl
    rw [g_X7_waitsOf_b44] at hg
    refine lv_istore (lv' := [(6, .int u0), (0, .ref (gAd G 0)), (1, .int v1), (5, .int v5)]) hx hb dX7_waitsOf_44 hl (by decide) rfl (fun ls hl => ?_)
    refine lv_aload_n hx hb dX7_waitsOf_46 rfl (lv_at hl 1 rfl) ?_
    refine r_getr (C := RX7) (T := TX7) (N := 43) (k' := 1) S hK hw (kM_0 hG).1 (kM_0 hG).2 rfl hinX7 1 (by decide) (o := 1) rfl rfl (hts (.fieldLink RX7 7 "SoupByRankModel" "kind" "[I") (by decide +kernel)) rfl dX7_waitsOf_47 ?_
    refine lv_iload_n hx hb dX7_waitsOf_50 rfl (lv_at hl 2 rfl) ?_
    obtain ⟨h_2, x_1, e_3, hg⟩ := rdA_e hg
    refine r_iald S hK hw (kM_1 hG).1 (kM_1 hG).2 h_2 e_3 dX7_waitsOf_51 ?_
    by_cases c_4 : x_1 = 1
    · have hg := it_p hg c_4
      refine lv_tableIn (tgt := 84) hx hb dX7_waitsOf_52 (by rw [c_4]; decide) (by rw [c_4]; decide) (off := 32) (by rw [c_4]; rfl) (by decide) ?_
      refine lv_iload hx hb dX7_waitsOf_84 (lv_at hl 0 rfl) ?_
      exact r_ireti S hr hlk hw.2.2.2.2 hw hg dX7_waitsOf_86
    have hg := it_n hg c_4
    by_cases c_5 : x_1 = 2
    · have hg := it_p hg c_5
      refine lv_tableIn (tgt := 113) hx hb dX7_waitsOf_52 (by rw [c_5]; decide) (by rw [c_5]; decide) (off := 61) (by rw [c_5]; rfl) (by decide) ?_
      refine lv_iload hx hb dX7_waitsOf_113 (lv_at hl 3 rfl) ?_
      exact r_ireti S hr hlk hw.2.2.2.2 hw hg dX7_waitsOf_115
    have hg := it_n hg c_5
    by_cases c_6 : x_1 = 3
    · have hg := it_p hg c_6
      refine lv_tableIn (tgt := 87) hx hb dX7_waitsOf_52 (by rw [c_6]; decide) (by rw [c_6]; decide) (off := 35) (by rw [c_6]; rfl) (by decide) ?_
      refine lv_iload hx hb dX7_waitsOf_87 (lv_at hl 0 rfl) ?_
      refine lv_iconst (v := 2) hx hb dX7_waitsOf_89 (by decide) ?_
      obtain ⟨h_8, hg⟩ := divI_e hg
      refine lv_idiv hx hb dX7_waitsOf_90 h_8 ?_
      exact r_ireti S hr hlk hw.2.2.2.2 hw hg dX7_waitsOf_91
    have hg := it_n hg c_6
    by_cases c_10 : x_1 = 4
    · have hg := it_p hg c_10
      refine lv_tableIn (tgt := 92) hx hb dX7_waitsOf_52 (by rw [c_10]; decide) (by rw [c_10]; decide) (off := 40) (by rw [c_10]; rfl) (by decide) ?_
      refine lv_aload_n hx hb dX7_waitsOf_92 rfl (lv_at hl 1 rfl) ?_
      refine r_get (C := RX7) (T := TX7) (N := 43) S hK hw (kM_0 hG).1 (kM_0 hG).2 rfl hinX7 4 (by decide) rfl (hts (.fieldLink RX7 97 "SoupByRankModel" "suppers" "I") (by decide +kernel)) rfl dX7_waitsOf_93 ?_
      refine lv_iconst (v := 4) hx hb dX7_waitsOf_96 (by decide) ?_
      obtain ⟨h_12, hg⟩ := remI_e hg
      refine lv_irem hx hb dX7_waitsOf_97 h_12 ?_
      refine lv_if_ne (tgt := 110) hx hb dX7_waitsOf_98 (by decide) (fun c_14 => ?_) (fun c_14 => ?_)
      · have hg := it_n hg c_14
        refine lv_iload hx hb dX7_waitsOf_110 (lv_at hl 3 rfl) ?_
        exact r_ireti S hr hlk hw.2.2.2.2 hw hg dX7_waitsOf_112
      · have hg := it_p hg c_14
        refine lv_aload_n hx hb dX7_waitsOf_101 rfl (lv_at hl 1 rfl) ?_
        refine r_getr (C := RX7) (T := TX7) (N := 43) (k' := 2) S hK hw (kM_0 hG).1 (kM_0 hG).2 rfl hinX7 2 (by decide) (o := 2) rfl rfl (hts (.fieldLink RX7 13 "SoupByRankModel" "moreOf" "[I") (by decide +kernel)) rfl dX7_waitsOf_102 ?_
        refine lv_iload_n hx hb dX7_waitsOf_105 rfl (lv_at hl 2 rfl) ?_
        obtain ⟨h_16, x_15, e_17, hg⟩ := rdA_e hg
        refine r_iald S hK hw (kM_2 hG).1 (kM_2 hG).2 h_16 e_17 dX7_waitsOf_106 ?_
        refine lv_goto (tgt := 112) hx hb dX7_waitsOf_107 (by decide) ?_
        exact r_ireti S hr hlk hw.2.2.2.2 hw hg dX7_waitsOf_112
    have hg := it_n hg c_10
    have hsw := tb_out (lo := 1) (hi := 4) (x := x_1) (fun n h1 h2 => by rcases (show n = 1 ∨ n = 2 ∨ n = 3 ∨ n = 4 by omega) with rfl | rfl | rfl | rfl; exact lv_neT c_4 (by decide); exact lv_neT c_5 (by decide); exact lv_neT c_6 (by decide); exact lv_neT c_10 (by decide))
    refine lv_tableOut (tgt := 113) hx hb dX7_waitsOf_52 hsw (by decide) ?_
    refine lv_iload hx hb dX7_waitsOf_113 (lv_at hl 3 rfl) ?_
    exact r_ireti S hr hlk hw.2.2.2.2 hw hg dX7_waitsOf_115
  rw [g_X7_waitsOf] at hg
  refine lv_aload_n hx hb dX7_waitsOf_0 rfl (lv_at hl 0 rfl) ?_
  refine r_getr (C := RX7) (T := TX7) (N := 43) (k' := 1) S hK hw (kM_0 hG).1 (kM_0 hG).2 rfl hinX7 1 (by decide) (o := 1) rfl rfl (hts (.fieldLink RX7 7 "SoupByRankModel" "kind" "[I") (by decide +kernel)) rfl dX7_waitsOf_1 ?_
  refine lv_iload_n hx hb dX7_waitsOf_4 rfl (lv_at hl 1 rfl) ?_
  obtain ⟨h_19, x_18, e_20, hg⟩ := rdA_e hg
  refine r_iald S hK hw (kM_1 hG).1 (kM_1 hG).2 h_19 e_20 dX7_waitsOf_5 ?_
  refine lv_iconst (v := 5) hx hb dX7_waitsOf_6 (by decide) ?_
  refine lv_icmp_ne (tgt := 12) hx hb dX7_waitsOf_7 (by decide) (fun c_21 => ?_) (fun c_21 => ?_)
  · have hg := it_n hg c_21
    refine lv_aload_n hx hb dX7_waitsOf_12 rfl (lv_at hl 0 rfl) ?_
    refine lv_iconst (v := 1) hx hb dX7_waitsOf_13 (by decide) ?_
    refine lv_iload_n hx hb dX7_waitsOf_14 rfl (lv_at hl 1 rfl) ?_
    refine lv_iload_n hx hb dX7_waitsOf_15 rfl (lv_at hl 2 rfl) ?_
    refine lv_iload_n hx hb dX7_waitsOf_16 rfl (lv_at hl 3 rfl) ?_
    refine lv_iload hx hb dX7_waitsOf_17 (lv_at hl 4 rfl) ?_
    obtain ⟨s_22, x_23, h_24, hg⟩ := bnI_e hg
    refine r_iV (As := [.int 1, .int a1, .int a2, .int a3, .int a4]) (rest := []) S hA hK hw (c_X7_asksOf l hG  h_24) (cwV 5 hts gX7_waitsOf_X7_asksOf rfl rfl rfl (by decide +kernel) ⟨Nat.le_of_ble_eq_true rfl, Nat.le_of_ble_eq_true rfl⟩) (r_recv hK hw (kM_0 hG).1 (kM_0 hG).2 rfl) rfl hl.1 (Nat.le_of_ble_eq_true rfl) dX7_waitsOf_19 ⟨Nat.zero_le _, Nat.zero_le _⟩ rfl (fun H locs hw => ?_)
    refine lv_istore (lv' := [(5, .int x_23), (0, .ref (gAd G 0)), (1, .int a1), (2, .int a2), (3, .int a3), (4, .int a4)]) hx hb dX7_waitsOf_22 hl (by decide) rfl (fun ls hl => ?_)
    refine lv_iload_n hx hb dX7_waitsOf_24 rfl (lv_at hl 3 rfl) ?_
    refine lv_bipush (v := 60) hx hb dX7_waitsOf_25 (by decide) ?_
    refine lv_icmp_le (tgt := 42) hx hb dX7_waitsOf_27 (by decide) (fun c_25 => ?_) (fun c_25 => ?_)
    · have hg := it_p hg c_25
      refine lv_iload hx hb dX7_waitsOf_42 (lv_at hl 0 rfl) ?_
      exact J44 a1 x_23 x_23 _ _ _ _ hg hw (lv_sub hl [1, 2, 0] rfl)
    · have hg := it_n hg c_25
      refine lv_iload hx hb dX7_waitsOf_30 (lv_at hl 0 rfl) ?_
      refine lv_aload_n hx hb dX7_waitsOf_32 rfl (lv_at hl 1 rfl) ?_
      refine r_getr (C := RX7) (T := TX7) (N := 43) (k' := 2) S hK hw (kM_0 hG).1 (kM_0 hG).2 rfl hinX7 2 (by decide) (o := 2) rfl rfl (hts (.fieldLink RX7 13 "SoupByRankModel" "moreOf" "[I") (by decide +kernel)) rfl dX7_waitsOf_33 ?_
      refine lv_iload_n hx hb dX7_waitsOf_36 rfl (lv_at hl 2 rfl) ?_
      obtain ⟨h_27, x_26, e_28, hg⟩ := rdA_e hg
      refine r_iald S hK hw (kM_2 hG).1 (kM_2 hG).2 h_27 e_28 dX7_waitsOf_37 ?_
      refine lv_iadd hx hb dX7_waitsOf_38 ?_
      refine lv_goto (tgt := 44) hx hb dX7_waitsOf_39 (by decide) ?_
      exact J44 a1 x_23 (x_23 + x_26) _ _ _ _ hg hw (lv_sub hl [1, 2, 0] rfl)
  · have hg := it_p hg c_21
    refine lv_iconst (v := 0) hx hb dX7_waitsOf_10 (by decide) ?_
    exact r_ireti S hr hlk hw.2.2.2.2 hw hg dX7_waitsOf_11
set_option maxHeartbeats 4000000 in
set_option maxRecDepth 100000 in
theorem c_X7_likesOf (l : Launch) {G : GW} (hG : isM G) {F sz : Nat} {a1 : Int32} {a2 : Int32} {a3 : Int32} {a4 : Int32} {σ σR : Sg} {r : Int32} (hg : g_X7_likesOf F a1 a2 a3 a4 σ = some (σR, r)) : Met l yX7_likesOf wsX7_likesOf ({ frames := 3, cells := 0, slots := 0, locals := 71 } : Room) (va_Pc [.ref (gAd G 0), .int a1, .int a2, .int a3, .int a4] (PX G σ sz)) (QcI G (gA G sz) σR r) 0 0 (gA G sz) := by
  refine metX (by decide) rfl (Nat.le_of_ble_eq_true rfl) ?_
  intro p e s m args below meth c ls S hr hlk hsz hA hK hw hl hmn
  have S : CallFix p m c cX7_likesOf 6 s args wsX7_likesOf RX7 := S
  obtain ⟨hx, hb, hml, hown, hts⟩ := id S
  have hl : lv_has ls 6 [(0, .ref (gAd G 0)), (1, .int a1), (2, .int a2), (3, .int a3), (4, .int a4)] := hl
  have hinX7 : ∀ w ∈ wsX70, w ∈ wsX7_likesOf := by decide +kernel
  have J44 : ∀ (v1 : Int32) (v5 : Int32) (σ : Sg) (H : Heap) (locs : List Loc) (ls : Array Slot) (hg : g_X7_likesOf_b44 F v1 v5 σ = some (σR, r)) (hw : XD G (gA G sz) s.heap σ H locs) (hl : lv_has ls 6 [(0, .ref (gAd G 0)), (1, .int v1), (5, .int v5)]), W p l e (headSpec wsX7_likesOf ({ frames := 3, cells := 0, slots := 0, locals := 71 } : Room)).room s m args below meth c H locs 0 0 (MQ below (QcI G (gA G sz) σR r) args s 0 0 (gA G sz)) (F0 m 44 ls []) := by
    intro v1 v5 σ H locs ls hg hw hl
    rw [g_X7_likesOf_b44] at hg
    refine lv_iload hx hb dX7_likesOf_44 (lv_at hl 2 rfl) ?_
    refine lv_aload_n hx hb dX7_likesOf_46 rfl (lv_at hl 0 rfl) ?_
    refine r_getr (C := RX7) (T := TX7) (N := 43) (k' := 2) S hK hw (kM_0 hG).1 (kM_0 hG).2 rfl hinX7 2 (by decide) (o := 2) rfl rfl (hts (.fieldLink RX7 13 "SoupByRankModel" "moreOf" "[I") (by decide +kernel)) rfl dX7_likesOf_47 ?_
    refine lv_iload_n hx hb dX7_likesOf_50 rfl (lv_at hl 1 rfl) ?_
    obtain ⟨h_2, x_1, e_3, hg⟩ := rdA_e hg
    refine r_iald S hK hw (kM_2 hG).1 (kM_2 hG).2 h_2 e_3 dX7_likesOf_51 ?_
    refine lv_isub hx hb dX7_likesOf_52 ?_
    refine lv_iconst (v := 0) hx hb dX7_likesOf_53 (by decide) ?_
    refine lv_bipush (v := 99) hx hb dX7_likesOf_54 (by decide) ?_
    obtain ⟨s_4, x_5, h_6, hg⟩ := bnI_e hg
    refine r_iS (As := [.int (v5 - x_1), .int 0, .int 99]) (rest := []) S hA hK hw (c_X7_within l hG  h_6) (va_cwS 3 hts gX7_likesOf_X7_within rfl rfl rfl (by decide +kernel) ⟨Nat.le_of_ble_eq_true rfl, Nat.le_of_ble_eq_true rfl⟩) rfl hl.1 (Nat.le_of_ble_eq_true rfl) dX7_likesOf_56 ⟨Nat.zero_le _, Nat.zero_le _⟩ rfl (fun H locs hw => ?_)
    exact r_ireti S hr hlk hw.2.2.2.2 hw hg dX7_likesOf_59
  rw [g_X7_likesOf] at hg
  refine lv_aload_n hx hb dX7_likesOf_0 rfl (lv_at hl 0 rfl) ?_
  refine lv_iconst (v := 2) hx hb dX7_likesOf_1 (by decide) ?_
  refine lv_iload_n hx hb dX7_likesOf_2 rfl (lv_at hl 1 rfl) ?_
  refine lv_iload_n hx hb dX7_likesOf_3 rfl (lv_at hl 2 rfl) ?_
  refine lv_iload_n hx hb dX7_likesOf_4 rfl (lv_at hl 3 rfl) ?_
  refine lv_iload hx hb dX7_likesOf_5 (lv_at hl 4 rfl) ?_
  obtain ⟨s_7, x_8, h_9, hg⟩ := bnI_e hg
  refine r_iV (As := [.int 2, .int a1, .int a2, .int a3, .int a4]) (rest := []) S hA hK hw (c_X7_asksOf l hG  h_9) (cwV 5 hts gX7_likesOf_X7_asksOf rfl rfl rfl (by decide +kernel) ⟨Nat.le_of_ble_eq_true rfl, Nat.le_of_ble_eq_true rfl⟩) (r_recv hK hw (kM_0 hG).1 (kM_0 hG).2 rfl) rfl hl.1 (Nat.le_of_ble_eq_true rfl) dX7_likesOf_7 ⟨Nat.zero_le _, Nat.zero_le _⟩ rfl (fun H locs hw => ?_)
  refine lv_istore (lv' := [(5, .int x_8), (0, .ref (gAd G 0)), (1, .int a1), (2, .int a2), (3, .int a3), (4, .int a4)]) hx hb dX7_likesOf_10 hl (by decide) rfl (fun ls hl => ?_)
  refine lv_aload_n hx hb dX7_likesOf_12 rfl (lv_at hl 1 rfl) ?_
  refine r_getr (C := RX7) (T := TX7) (N := 43) (k' := 1) S hK hw (kM_0 hG).1 (kM_0 hG).2 rfl hinX7 1 (by decide) (o := 1) rfl rfl (hts (.fieldLink RX7 7 "SoupByRankModel" "kind" "[I") (by decide +kernel)) rfl dX7_likesOf_13 ?_
  refine lv_iload_n hx hb dX7_likesOf_16 rfl (lv_at hl 2 rfl) ?_
  obtain ⟨h_11, x_10, e_12, hg⟩ := rdA_e hg
  refine r_iald S hK hw (kM_1 hG).1 (kM_1 hG).2 h_11 e_12 dX7_likesOf_17 ?_
  by_cases c_13 : x_10 = 2
  · have hg := it_p hg c_13
    refine lv_tableIn (tgt := 44) hx hb dX7_likesOf_18 (by rw [c_13]; decide) (by rw [c_13]; decide) (off := 26) (by rw [c_13]; rfl) (by decide) ?_
    exact J44 a1 x_8 _ _ _ _ hg hw (lv_sub hl [1, 2, 0] rfl)
  have hg := it_n hg c_13
  by_cases c_14 : x_10 = 3
  · have hg := it_p hg c_14
    refine lv_tableIn (tgt := 60) hx hb dX7_likesOf_18 (by rw [c_14]; decide) (by rw [c_14]; decide) (off := 42) (by rw [c_14]; rfl) (by decide) ?_
    refine lv_bipush (v := 99) hx hb dX7_likesOf_60 (by decide) ?_
    refine lv_iload hx hb dX7_likesOf_62 (lv_at hl 0 rfl) ?_
    refine lv_isub hx hb dX7_likesOf_64 ?_
    exact r_ireti S hr hlk hw.2.2.2.2 hw hg dX7_likesOf_65
  have hg := it_n hg c_14
  by_cases c_15 : x_10 = 4
  · have hg := it_p hg c_15
    refine lv_tableIn (tgt := 44) hx hb dX7_likesOf_18 (by rw [c_15]; decide) (by rw [c_15]; decide) (off := 26) (by rw [c_15]; rfl) (by decide) ?_
    exact J44 a1 x_8 _ _ _ _ hg hw (lv_sub hl [1, 2, 0] rfl)
  have hg := it_n hg c_15
  have hsw := tb_out (lo := 2) (hi := 4) (x := x_10) (fun n h1 h2 => by rcases (show n = 2 ∨ n = 3 ∨ n = 4 by omega) with rfl | rfl | rfl; exact lv_neT c_13 (by decide); exact lv_neT c_14 (by decide); exact lv_neT c_15 (by decide))
  refine lv_tableOut (tgt := 66) hx hb dX7_likesOf_18 hsw (by decide) ?_
  refine lv_iload hx hb dX7_likesOf_66 (lv_at hl 0 rfl) ?_
  exact r_ireti S hr hlk hw.2.2.2.2 hw hg dX7_likesOf_68
set_option maxHeartbeats 4000000 in
set_option maxRecDepth 100000 in
theorem c_X7_mindsOf (l : Launch) {G : GW} (hG : isM G) {F sz : Nat} {a1 : Int32} {a2 : Int32} {σ σR : Sg} {r : Int32} (hg : g_X7_mindsOf F a1 a2 σ = some (σR, r)) : Met l yX7_mindsOf wsX7_mindsOf ({ frames := 0, cells := 0, slots := 0, locals := 0 } : Room) (va_Pc [.ref (gAd G 0), .int a1, .int a2] (PX G σ sz)) (QcI G (gA G sz) σR r) 0 0 (gA G sz) := by
  refine metX (by decide) rfl (Nat.le_of_ble_eq_true rfl) ?_
  intro p e s m args below meth c ls S hr hlk hsz hA hK hw hl hmn
  have S : CallFix p m c cX7_mindsOf 5 s args wsX7_mindsOf RX7 := S
  obtain ⟨hx, hb, hml, hown, hts⟩ := id S
  have hl : lv_has ls 5 [(0, .ref (gAd G 0)), (1, .int a1), (2, .int a2)] := hl
  have hinX7 : ∀ w ∈ wsX70, w ∈ wsX7_mindsOf := by decide +kernel
  have J64 : ∀ (v2 : Int32) (v3 : Int32) (σ : Sg) (H : Heap) (locs : List Loc) (ls : Array Slot) (hg : g_X7_mindsOf_b64 F v2 v3 σ = some (σR, r)) (hw : XD G (gA G sz) s.heap σ H locs) (hl : lv_has ls 5 [(2, .int v2), (3, .int v3)]), W p l e (headSpec wsX7_mindsOf ({ frames := 0, cells := 0, slots := 0, locals := 0 } : Room)).room s m args below meth c H locs 0 0 (MQ below (QcI G (gA G sz) σR r) args s 0 0 (gA G sz)) (F0 m 64 ls []) := by
    intro v2 v3 σ H locs ls hg hw hl
    rw [g_X7_mindsOf_b64] at hg
    refine lv_iload_n hx hb dX7_mindsOf_64 rfl (lv_at hl 0 rfl) ?_
    refine lv_if_le (tgt := 74) hx hb dX7_mindsOf_65 (by decide) (fun c_1 => ?_) (fun c_1 => ?_)
    · have hg := it_p hg c_1
      refine lv_iload_n hx hb dX7_mindsOf_74 rfl (lv_at hl 1 rfl) ?_
      exact r_ireti S hr hlk hw.2.2.2.2 hw hg dX7_mindsOf_75
    · have hg := it_n hg c_1
      refine lv_iconst (v := 2) hx hb dX7_mindsOf_68 (by decide) ?_
      refine lv_iload_n hx hb dX7_mindsOf_69 rfl (lv_at hl 1 rfl) ?_
      refine lv_imul hx hb dX7_mindsOf_70 ?_
      refine lv_goto (tgt := 75) hx hb dX7_mindsOf_71 (by decide) ?_
      exact r_ireti S hr hlk hw.2.2.2.2 hw hg dX7_mindsOf_75
  have J22 : ∀ (v1 : Int32) (v2 : Int32) (v3 : Int32) (u0 : Int32) (σ : Sg) (H : Heap) (locs : List Loc) (ls : Array Slot) (hg : g_X7_mindsOf_b22 F v1 v2 v3 u0 σ = some (σR, r)) (hw : XD G (gA G sz) s.heap σ H locs) (hl : lv_has ls 5 [(0, .ref (gAd G 0)), (1, .int v1), (2, .int v2), (3, .int v3)]), W p l e (headSpec wsX7_mindsOf ({ frames := 0, cells := 0, slots := 0, locals := 0 } : Room)).room s m args below meth c H locs 0 0 (MQ below (QcI G (gA G sz) σR r) args s 0 0 (gA G sz)) (F0 m 22 ls [.int u0]) := by
    intro v1 v2 v3 u0 σ H locs ls hg hw hl
    rw [g_X7_mindsOf_b22] at hg
    refine lv_istore (lv' := [(4, .int u0), (0, .ref (gAd G 0)), (1, .int v1), (2, .int v2), (3, .int v3)]) hx hb dX7_mindsOf_22 hl (by decide) rfl (fun ls hl => ?_)
    refine lv_aload_n hx hb dX7_mindsOf_24 rfl (lv_at hl 1 rfl) ?_
    refine r_getr (C := RX7) (T := TX7) (N := 43) (k' := 1) S hK hw (kM_0 hG).1 (kM_0 hG).2 rfl hinX7 1 (by decide) (o := 1) rfl rfl (hts (.fieldLink RX7 7 "SoupByRankModel" "kind" "[I") (by decide +kernel)) rfl dX7_mindsOf_25 ?_
    refine lv_iload_n hx hb dX7_mindsOf_28 rfl (lv_at hl 2 rfl) ?_
    obtain ⟨h_3, x_2, e_4, hg⟩ := rdA_e hg
    refine r_iald S hK hw (kM_1 hG).1 (kM_1 hG).2 h_3 e_4 dX7_mindsOf_29 ?_
    by_cases c_5 : x_2 = 1
    · have hg := it_p hg c_5
      refine lv_tableIn (tgt := 64) hx hb dX7_mindsOf_30 (by rw [c_5]; decide) (by rw [c_5]; decide) (off := 34) (by rw [c_5]; rfl) (by decide) ?_
      exact J64 v2 v3 _ _ _ _ hg hw (lv_sub hl [3, 4] rfl)
    have hg := it_n hg c_5
    by_cases c_6 : x_2 = 2
    · have hg := it_p hg c_6
      refine lv_tableIn (tgt := 76) hx hb dX7_mindsOf_30 (by rw [c_6]; decide) (by rw [c_6]; decide) (off := 46) (by rw [c_6]; rfl) (by decide) ?_
      refine lv_iload hx hb dX7_mindsOf_76 (lv_at hl 0 rfl) ?_
      exact r_ireti S hr hlk hw.2.2.2.2 hw hg dX7_mindsOf_78
    have hg := it_n hg c_6
    by_cases c_7 : x_2 = 3
    · have hg := it_p hg c_7
      refine lv_tableIn (tgt := 64) hx hb dX7_mindsOf_30 (by rw [c_7]; decide) (by rw [c_7]; decide) (off := 34) (by rw [c_7]; rfl) (by decide) ?_
      exact J64 v2 v3 _ _ _ _ hg hw (lv_sub hl [3, 4] rfl)
    have hg := it_n hg c_7
    by_cases c_8 : x_2 = 4
    · have hg := it_p hg c_8
      refine lv_tableIn (tgt := 79) hx hb dX7_mindsOf_30 (by rw [c_8]; decide) (by rw [c_8]; decide) (off := 49) (by rw [c_8]; rfl) (by decide) ?_
      refine lv_iload hx hb dX7_mindsOf_79 (lv_at hl 0 rfl) ?_
      refine lv_aload_n hx hb dX7_mindsOf_81 rfl (lv_at hl 1 rfl) ?_
      refine r_getr (C := RX7) (T := TX7) (N := 43) (k' := 2) S hK hw (kM_0 hG).1 (kM_0 hG).2 rfl hinX7 2 (by decide) (o := 2) rfl rfl (hts (.fieldLink RX7 13 "SoupByRankModel" "moreOf" "[I") (by decide +kernel)) rfl dX7_mindsOf_82 ?_
      refine lv_iload_n hx hb dX7_mindsOf_85 rfl (lv_at hl 2 rfl) ?_
      obtain ⟨h_10, x_9, e_11, hg⟩ := rdA_e hg
      refine r_iald S hK hw (kM_2 hG).1 (kM_2 hG).2 h_10 e_11 dX7_mindsOf_86 ?_
      refine lv_icmp_ge (tgt := 94) hx hb dX7_mindsOf_87 (by decide) (fun c_12 => ?_) (fun c_12 => ?_)
      · have hg := it_p hg c_12
        refine lv_iload hx hb dX7_mindsOf_94 (lv_at hl 0 rfl) ?_
        refine lv_aload_n hx hb dX7_mindsOf_96 rfl (lv_at hl 1 rfl) ?_
        refine r_getr (C := RX7) (T := TX7) (N := 43) (k' := 2) S hK hw (kM_0 hG).1 (kM_0 hG).2 rfl hinX7 2 (by decide) (o := 2) rfl rfl (hts (.fieldLink RX7 13 "SoupByRankModel" "moreOf" "[I") (by decide +kernel)) rfl dX7_mindsOf_97 ?_
        refine lv_iload_n hx hb dX7_mindsOf_100 rfl (lv_at hl 2 rfl) ?_
        obtain ⟨h_14, x_13, e_15, hg⟩ := rdA_e hg
        refine r_iald S hK hw (kM_2 hG).1 (kM_2 hG).2 h_14 e_15 dX7_mindsOf_101 ?_
        refine lv_isub hx hb dX7_mindsOf_102 ?_
        exact r_ireti S hr hlk hw.2.2.2.2 hw hg dX7_mindsOf_103
      · have hg := it_n hg c_12
        refine lv_iconst (v := 0) hx hb dX7_mindsOf_90 (by decide) ?_
        refine lv_goto (tgt := 103) hx hb dX7_mindsOf_91 (by decide) ?_
        exact r_ireti S hr hlk hw.2.2.2.2 hw hg dX7_mindsOf_103
    have hg := it_n hg c_8
    by_cases c_16 : x_2 = 5
    · have hg := it_p hg c_16
      refine lv_tableIn (tgt := 104) hx hb dX7_mindsOf_30 (by rw [c_16]; decide) (by rw [c_16]; decide) (off := 74) (by rw [c_16]; rfl) (by decide) ?_
      refine lv_aload_n hx hb dX7_mindsOf_104 rfl (lv_at hl 1 rfl) ?_
      refine r_getr (C := RX7) (T := TX7) (N := 43) (k' := 2) S hK hw (kM_0 hG).1 (kM_0 hG).2 rfl hinX7 2 (by decide) (o := 2) rfl rfl (hts (.fieldLink RX7 13 "SoupByRankModel" "moreOf" "[I") (by decide +kernel)) rfl dX7_mindsOf_105 ?_
      refine lv_iload_n hx hb dX7_mindsOf_108 rfl (lv_at hl 2 rfl) ?_
      obtain ⟨h_18, x_17, e_19, hg⟩ := rdA_e hg
      refine r_iald S hK hw (kM_2 hG).1 (kM_2 hG).2 h_18 e_19 dX7_mindsOf_109 ?_
      refine lv_ineg hx hb dX7_mindsOf_110 ?_
      exact r_ireti S hr hlk hw.2.2.2.2 hw hg dX7_mindsOf_111
    have hg := it_n hg c_16
    have hsw := tb_out (lo := 1) (hi := 5) (x := x_2) (fun n h1 h2 => by rcases (show n = 1 ∨ n = 2 ∨ n = 3 ∨ n = 4 ∨ n = 5 by omega) with rfl | rfl | rfl | rfl | rfl; exact lv_neT c_5 (by decide); exact lv_neT c_6 (by decide); exact lv_neT c_7 (by decide); exact lv_neT c_8 (by decide); exact lv_neT c_16 (by decide))
    refine lv_tableOut (tgt := 112) hx hb dX7_mindsOf_30 hsw (by decide) ?_
    refine lv_iload_n hx hb dX7_mindsOf_112 rfl (lv_at hl 4 rfl) ?_
    exact r_ireti S hr hlk hw.2.2.2.2 hw hg dX7_mindsOf_113
  have J10 : ∀ (v1 : Int32) (v2 : Int32) (u0 : Int32) (σ : Sg) (H : Heap) (locs : List Loc) (ls : Array Slot) (hg : g_X7_mindsOf_b10 F v1 v2 u0 σ = some (σR, r)) (hw : XD G (gA G sz) s.heap σ H locs) (hl : lv_has ls 5 [(0, .ref (gAd G 0)), (1, .int v1), (2, .int v2)]), W p l e (headSpec wsX7_mindsOf ({ frames := 0, cells := 0, slots := 0, locals := 0 } : Room)).room s m args below meth c H locs 0 0 (MQ below (QcI G (gA G sz) σR r) args s 0 0 (gA G sz)) (F0 m 10 ls [.int u0]) := by
    intro v1 v2 u0 σ H locs ls hg hw hl
    rw [g_X7_mindsOf_b10] at hg
    refine lv_istore_n (lv' := [(3, .int u0), (0, .ref (gAd G 0)), (1, .int v1), (2, .int v2)]) hx hb dX7_mindsOf_10 rfl hl (by decide) rfl (fun ls hl => ?_)
    refine lv_iload_n hx hb dX7_mindsOf_11 rfl (lv_at hl 3 rfl) ?_
    refine lv_if_ge (tgt := 21) hx hb dX7_mindsOf_12 (by decide) (fun c_20 => ?_) (fun c_20 => ?_)
    · have hg := it_p hg c_20
      refine lv_iload_n hx hb dX7_mindsOf_21 rfl (lv_at hl 0 rfl) ?_
      exact J22 v1 v2 u0 u0 _ _ _ _ hg hw (lv_sub hl [1, 2, 3, 0] rfl)
    · have hg := it_n hg c_20
      refine lv_iload_n hx hb dX7_mindsOf_15 rfl (lv_at hl 0 rfl) ?_
      refine lv_iconst (v := 2) hx hb dX7_mindsOf_16 (by decide) ?_
      obtain ⟨h_22, hg⟩ := divI_e hg
      refine lv_idiv hx hb dX7_mindsOf_17 h_22 ?_
      refine lv_goto (tgt := 22) hx hb dX7_mindsOf_18 (by decide) ?_
      exact J22 v1 v2 u0 (u0 / 2) _ _ _ _ hg hw (lv_sub hl [1, 2, 3, 0] rfl)
  rw [g_X7_mindsOf] at hg
  refine lv_iload_n hx hb dX7_mindsOf_0 rfl (lv_at hl 2 rfl) ?_
  refine lv_if_ge (tgt := 9) hx hb dX7_mindsOf_1 (by decide) (fun c_24 => ?_) (fun c_24 => ?_)
  · have hg := it_p hg c_24
    refine lv_iload_n hx hb dX7_mindsOf_9 rfl (lv_at hl 2 rfl) ?_
    exact J10 a1 a2 a2 _ _ _ _ hg hw (lv_sub hl [0, 1, 2] rfl)
  · have hg := it_n hg c_24
    refine lv_iload_n hx hb dX7_mindsOf_4 rfl (lv_at hl 2 rfl) ?_
    refine lv_ineg hx hb dX7_mindsOf_5 ?_
    refine lv_goto (tgt := 10) hx hb dX7_mindsOf_6 (by decide) ?_
    exact J10 a1 a2 (-a2) _ _ _ _ hg hw (lv_sub hl [0, 1, 2] rfl)
set_option maxHeartbeats 4000000 in
set_option maxRecDepth 100000 in
theorem c_X7_isBetter (l : Launch) {G : GW} (hG : isM G) {F sz : Nat} {a1 : Int32} {a2 : Int32} {σ σR : Sg} {r : Int32} (hg : g_X7_isBetter F a1 a2 σ = some (σR, r)) : Met l yX7_isBetter wsX7_isBetter ({ frames := 0, cells := 0, slots := 0, locals := 0 } : Room) (va_Pc [.ref (gAd G 0), .int a1, .int a2] (PX G σ sz)) (QcI G (gA G sz) σR r) 0 0 (gA G sz) := by
  refine metX (by decide) rfl (Nat.le_of_ble_eq_true rfl) ?_
  intro p e s m args below meth c ls S hr hlk hsz hA hK hw hl hmn
  have S : CallFix p m c cX7_isBetter 3 s args wsX7_isBetter RX7 := S
  obtain ⟨hx, hb, hml, hown, hts⟩ := id S
  have hl : lv_has ls 3 [(0, .ref (gAd G 0)), (1, .int a1), (2, .int a2)] := hl
  have hinX7 : ∀ w ∈ wsX70, w ∈ wsX7_isBetter := by decide +kernel
  have J43 : ∀ (σ : Sg) (H : Heap) (locs : List Loc) (ls : Array Slot) (hg : g_X7_isBetter_b43 F σ = some (σR, r)) (hw : XD G (gA G sz) s.heap σ H locs) (hl : lv_has ls 3 []), W p l e (headSpec wsX7_isBetter ({ frames := 0, cells := 0, slots := 0, locals := 0 } : Room)).room s m args below meth c H locs 0 0 (MQ below (QcI G (gA G sz) σR r) args s 0 0 (gA G sz)) (F0 m 43 ls []) := by
    intro  σ H locs ls hg hw hl
    rw [g_X7_isBetter_b43] at hg
    refine lv_iconst (v := 1) hx hb dX7_isBetter_43 (by decide) ?_
    refine lv_goto (tgt := 48) hx hb dX7_isBetter_44 (by decide) ?_
    exact r_iretz S hr rfl hlk hw.2.2.2.2 hw hg dX7_isBetter_48
  rw [g_X7_isBetter] at hg
  refine lv_aload_n hx hb dX7_isBetter_0 rfl (lv_at hl 0 rfl) ?_
  refine r_getr (C := RX7) (T := TX7) (N := 43) (k' := 3) S hK hw (kM_0 hG).1 (kM_0 hG).2 rfl hinX7 3 (by decide) (o := 3) rfl rfl (hts (.fieldLink RX7 16 "SoupByRankModel" "rows" "[I") (by decide +kernel)) rfl dX7_isBetter_1 ?_
  refine lv_iconst (v := 2) hx hb dX7_isBetter_4 (by decide) ?_
  refine lv_iload_n hx hb dX7_isBetter_5 rfl (lv_at hl 1 rfl) ?_
  refine lv_imul hx hb dX7_isBetter_6 ?_
  obtain ⟨h_2, x_1, e_3, hg⟩ := rdA_e hg
  refine r_iald S hK hw (kM_3 hG).1 (kM_3 hG).2 h_2 e_3 dX7_isBetter_7 ?_
  refine lv_aload_n hx hb dX7_isBetter_8 rfl (lv_at hl 0 rfl) ?_
  refine r_getr (C := RX7) (T := TX7) (N := 43) (k' := 3) S hK hw (kM_0 hG).1 (kM_0 hG).2 rfl hinX7 3 (by decide) (o := 3) rfl rfl (hts (.fieldLink RX7 16 "SoupByRankModel" "rows" "[I") (by decide +kernel)) rfl dX7_isBetter_9 ?_
  refine lv_iconst (v := 2) hx hb dX7_isBetter_12 (by decide) ?_
  refine lv_iload_n hx hb dX7_isBetter_13 rfl (lv_at hl 2 rfl) ?_
  refine lv_imul hx hb dX7_isBetter_14 ?_
  obtain ⟨h_5, x_4, e_6, hg⟩ := rdA_e hg
  refine r_iald S hK hw (kM_3 hG).1 (kM_3 hG).2 h_5 e_6 dX7_isBetter_15 ?_
  refine lv_icmp_gt (tgt := 43) hx hb dX7_isBetter_16 (by decide) (fun c_7 => ?_) (fun c_7 => ?_)
  · have hg := it_p hg c_7
    exact J43 _ _ _ _ hg hw (lv_sub hl [] rfl)
  · have hg := it_n hg c_7
    refine lv_aload_n hx hb dX7_isBetter_19 rfl (lv_at hl 0 rfl) ?_
    refine r_getr (C := RX7) (T := TX7) (N := 43) (k' := 3) S hK hw (kM_0 hG).1 (kM_0 hG).2 rfl hinX7 3 (by decide) (o := 3) rfl rfl (hts (.fieldLink RX7 16 "SoupByRankModel" "rows" "[I") (by decide +kernel)) rfl dX7_isBetter_20 ?_
    refine lv_iconst (v := 2) hx hb dX7_isBetter_23 (by decide) ?_
    refine lv_iload_n hx hb dX7_isBetter_24 rfl (lv_at hl 1 rfl) ?_
    refine lv_imul hx hb dX7_isBetter_25 ?_
    obtain ⟨h_9, x_8, e_10, hg⟩ := rdA_e hg
    refine r_iald S hK hw (kM_3 hG).1 (kM_3 hG).2 h_9 e_10 dX7_isBetter_26 ?_
    refine lv_aload_n hx hb dX7_isBetter_27 rfl (lv_at hl 0 rfl) ?_
    refine r_getr (C := RX7) (T := TX7) (N := 43) (k' := 3) S hK hw (kM_0 hG).1 (kM_0 hG).2 rfl hinX7 3 (by decide) (o := 3) rfl rfl (hts (.fieldLink RX7 16 "SoupByRankModel" "rows" "[I") (by decide +kernel)) rfl dX7_isBetter_28 ?_
    refine lv_iconst (v := 2) hx hb dX7_isBetter_31 (by decide) ?_
    refine lv_iload_n hx hb dX7_isBetter_32 rfl (lv_at hl 2 rfl) ?_
    refine lv_imul hx hb dX7_isBetter_33 ?_
    obtain ⟨h_12, x_11, e_13, hg⟩ := rdA_e hg
    refine r_iald S hK hw (kM_3 hG).1 (kM_3 hG).2 h_12 e_13 dX7_isBetter_34 ?_
    refine lv_icmp_ne (tgt := 47) hx hb dX7_isBetter_35 (by decide) (fun c_14 => ?_) (fun c_14 => ?_)
    · have hg := it_n hg c_14
      refine lv_iconst (v := 0) hx hb dX7_isBetter_47 (by decide) ?_
      exact r_iretz S hr rfl hlk hw.2.2.2.2 hw hg dX7_isBetter_48
    · have hg := it_p hg c_14
      refine lv_iload_n hx hb dX7_isBetter_38 rfl (lv_at hl 1 rfl) ?_
      refine lv_iload_n hx hb dX7_isBetter_39 rfl (lv_at hl 2 rfl) ?_
      refine lv_icmp_ge (tgt := 47) hx hb dX7_isBetter_40 (by decide) (fun c_15 => ?_) (fun c_15 => ?_)
      · have hg := it_p hg c_15
        refine lv_iconst (v := 0) hx hb dX7_isBetter_47 (by decide) ?_
        exact r_iretz S hr rfl hlk hw.2.2.2.2 hw hg dX7_isBetter_48
      · have hg := it_n hg c_15
        exact J43 _ _ _ _ hg hw (lv_sub hl [] rfl)
set_option maxHeartbeats 4000000 in
set_option maxRecDepth 100000 in
theorem c_X7_standsDown (l : Launch) {G : GW} (hG : isM G) {F sz : Nat} {a1 : Int32} {σ σR : Sg} {r : Int32} (hg : g_X7_standsDown F a1 σ = some (σR, r)) : Met l yX7_standsDown wsX7_standsDown ({ frames := 1, cells := 0, slots := 0, locals := 22 } : Room) (va_Pc [.ref (gAd G 0), .int a1] (PX G σ sz)) (QcI G (gA G sz) σR r) 0 0 (gA G sz) := by
  refine metX (by decide) rfl (Nat.le_of_ble_eq_true rfl) ?_
  intro p e s m args below meth c ls S hr hlk hsz hA hK hw hl hmn
  have S : CallFix p m c cX7_standsDown 6 s args wsX7_standsDown RX7 := S
  obtain ⟨hx, hb, hml, hown, hts⟩ := id S
  have hl : lv_has ls 6 [(0, .ref (gAd G 0)), (1, .int a1)] := hl
  have hinX7 : ∀ w ∈ wsX70, w ∈ wsX7_standsDown := by decide +kernel
  have L4 : ∀ (v1 : Int32) (n4 : Nat) (v2 : Int32) (v3 : Int32) (σ : Sg) (H : Heap) (locs : List Loc) (ls : Array Slot) (hg : g_X7_standsDown_l4 F v1 n4 v2 v3 σ = some (σR, r)) (hw : XD G (gA G sz) s.heap σ H locs) (hl : lv_has ls 6 [(0, .ref (gAd G 0)), (1, .int v1), (2, .int v2), (3, .int v3)]), W p l e (headSpec wsX7_standsDown ({ frames := 1, cells := 0, slots := 0, locals := 22 } : Room)).room s m args below meth c H locs 0 0 (MQ below (QcI G (gA G sz) σR r) args s 0 0 (gA G sz)) (F0 m 4 ls []) := by
    intro v1
    intro n4
    induction n4 with
    | zero => intro v2 v3 σ H locs ls hg hw hl; exact no_e hg
    | succ n4 ih4 =>
      have J89 : ∀ (v2 : Int32) (v3 : Int32) (σ : Sg) (H : Heap) (locs : List Loc) (ls : Array Slot) (hg : g_X7_standsDown_b89 F (fun v2_ v3_ σ_ => g_X7_standsDown_l4 F v1 n4 v2_ v3_ σ_) v1 v2 v3 σ = some (σR, r)) (hw : XD G (gA G sz) s.heap σ H locs) (hl : lv_has ls 6 [(0, .ref (gAd G 0)), (1, .int v1), (2, .int v2), (3, .int v3)]), W p l e (headSpec wsX7_standsDown ({ frames := 1, cells := 0, slots := 0, locals := 22 } : Room)).room s m args below meth c H locs 0 0 (MQ below (QcI G (gA G sz) σR r) args s 0 0 (gA G sz)) (F0 m 89 ls []) := by
        intro v2 v3 σ H locs ls hg hw hl
        rw [g_X7_standsDown_b89] at hg
        refine lv_iinc (v := (v3 + 1)) (lv' := [(3, .int (v3 + 1)), (0, .ref (gAd G 0)), (1, .int v1), (2, .int v2)]) hx hb dX7_standsDown_89 hl (k := 3) rfl rfl (by decide) rfl (fun ls hl => ?_)
        refine lv_goto (tgt := 4) hx hb dX7_standsDown_92 (by decide) ?_
        exact ih4 _ _ _ _ _ _ hg hw (lv_sub hl [1, 2, 3, 0] rfl)
      have L18 : ∀ (v2 : Int32) (v3 : Int32) (n18 : Nat) (v4 : Int32) (v5 : Int32) (σ : Sg) (H : Heap) (locs : List Loc) (ls : Array Slot) (hg : g_X7_standsDown_l18 F (fun v2_ v3_ σ_ => g_X7_standsDown_l4 F v1 n4 v2_ v3_ σ_) v1 v2 v3 n18 v4 v5 σ = some (σR, r)) (hw : XD G (gA G sz) s.heap σ H locs) (hl : lv_has ls 6 [(0, .ref (gAd G 0)), (1, .int v1), (2, .int v2), (3, .int v3), (4, .int v4), (5, .int v5)]), W p l e (headSpec wsX7_standsDown ({ frames := 1, cells := 0, slots := 0, locals := 22 } : Room)).room s m args below meth c H locs 0 0 (MQ below (QcI G (gA G sz) σR r) args s 0 0 (gA G sz)) (F0 m 18 ls []) := by
        intro v2 v3
        intro n18
        induction n18 with
        | zero => intro v4 v5 σ H locs ls hg hw hl; exact no_e hg
        | succ n18 ih18 =>
          have J56 : ∀ (v5 : Int32) (u0 : Int32) (u1 : Int32) (σ : Sg) (H : Heap) (locs : List Loc) (ls : Array Slot) (hg : g_X7_standsDown_b56 F (fun v2_ v3_ σ_ => g_X7_standsDown_l4 F v1 n4 v2_ v3_ σ_) (fun v4_ v5_ σ_ => g_X7_standsDown_l18 F (fun v2_ v3_ σ_ => g_X7_standsDown_l4 F v1 n4 v2_ v3_ σ_) v1 v2 v3 n18 v4_ v5_ σ_) v1 v2 v3 v5 u0 u1 σ = some (σR, r)) (hw : XD G (gA G sz) s.heap σ H locs) (hl : lv_has ls 6 [(0, .ref (gAd G 0)), (1, .int v1), (2, .int v2), (3, .int v3), (5, .int v5)]), W p l e (headSpec wsX7_standsDown ({ frames := 1, cells := 0, slots := 0, locals := 22 } : Room)).room s m args below meth c H locs 0 0 (MQ below (QcI G (gA G sz) σR r) args s 0 0 (gA G sz)) (F0 m 56 ls [.int u0, .int u1]) := by
            intro v5 u0 u1 σ H locs ls hg hw hl
            rw [g_X7_standsDown_b56] at hg
            refine lv_iadd hx hb dX7_standsDown_56 ?_
            refine lv_istore (lv' := [(4, .int (u1 + u0)), (0, .ref (gAd G 0)), (1, .int v1), (2, .int v2), (3, .int v3), (5, .int v5)]) hx hb dX7_standsDown_57 hl (by decide) rfl (fun ls hl => ?_)
            refine lv_iinc (v := (v5 + 1)) (lv' := [(5, .int (v5 + 1)), (4, .int (u1 + u0)), (0, .ref (gAd G 0)), (1, .int v1), (2, .int v2), (3, .int v3)]) hx hb dX7_standsDown_59 hl (k := 5) rfl rfl (by decide) rfl (fun ls hl => ?_)
            refine lv_goto (tgt := 18) hx hb dX7_standsDown_62 (by decide) ?_
            exact ih18 _ _ _ _ _ _ hg hw (lv_sub hl [2, 3, 4, 5, 1, 0] rfl)
          have J55 : ∀ (v5 : Int32) (u0 : Int32) (σ : Sg) (H : Heap) (locs : List Loc) (ls : Array Slot) (hg : g_X7_standsDown_b55 F (fun v2_ v3_ σ_ => g_X7_standsDown_l4 F v1 n4 v2_ v3_ σ_) (fun v4_ v5_ σ_ => g_X7_standsDown_l18 F (fun v2_ v3_ σ_ => g_X7_standsDown_l4 F v1 n4 v2_ v3_ σ_) v1 v2 v3 n18 v4_ v5_ σ_) v1 v2 v3 v5 u0 σ = some (σR, r)) (hw : XD G (gA G sz) s.heap σ H locs) (hl : lv_has ls 6 [(0, .ref (gAd G 0)), (1, .int v1), (2, .int v2), (3, .int v3), (5, .int v5)]), W p l e (headSpec wsX7_standsDown ({ frames := 1, cells := 0, slots := 0, locals := 22 } : Room)).room s m args below meth c H locs 0 0 (MQ below (QcI G (gA G sz) σR r) args s 0 0 (gA G sz)) (F0 m 55 ls [.int u0]) := by
            intro v5 u0 σ H locs ls hg hw hl
            rw [g_X7_standsDown_b55] at hg
            refine lv_iconst (v := 0) hx hb dX7_standsDown_55 (by decide) ?_
            exact J56 v5 0 u0 _ _ _ _ hg hw (lv_sub hl [0, 1, 2, 3, 4] rfl)
          intro v4 v5 σ H locs ls hg hw hl
          rw [g_X7_standsDown_l18] at hg
          refine lv_iload hx hb dX7_standsDown_18 (lv_at hl 5 rfl) ?_
          refine lv_aload_n hx hb dX7_standsDown_20 rfl (lv_at hl 0 rfl) ?_
          refine r_get (C := RX7) (T := TX7) (N := 43) S hK hw (kM_0 hG).1 (kM_0 hG).2 rfl hinX7 0 (by decide) rfl (hts (.fieldLink RX7 90 "SoupByRankModel" "courtiers" "I") (by decide +kernel)) rfl dX7_standsDown_21 ?_
          refine lv_icmp_ge (tgt := 65) hx hb dX7_standsDown_24 (by decide) (fun c_1 => ?_) (fun c_1 => ?_)
          · have hg := it_p hg c_1
            refine lv_aload_n hx hb dX7_standsDown_65 rfl (lv_at hl 0 rfl) ?_
            refine r_getr (C := RX7) (T := TX7) (N := 43) (k' := 18) S hK hw (kM_0 hG).1 (kM_0 hG).2 rfl hinX7 31 (by decide) (o := 18) rfl rfl (hts (.fieldLink RX7 65 "SoupByRankModel" "downOf" "[I") (by decide +kernel)) rfl dX7_standsDown_66 ?_
            refine lv_iload_n hx hb dX7_standsDown_69 rfl (lv_at hl 3 rfl) ?_
            refine lv_iload hx hb dX7_standsDown_70 (lv_at hl 4 rfl) ?_
            obtain ⟨h_3, s_2, e_4, hg⟩ := wrA_e hg
            refine r_iast S hK hw (kM_18 hG).1 (kM_18 hG).2 h_3 e_4 dX7_standsDown_72 (fun H locs hw => ?_)
            refine lv_iload_n hx hb dX7_standsDown_73 rfl (lv_at hl 3 rfl) ?_
            refine lv_iload_n hx hb dX7_standsDown_74 rfl (lv_at hl 1 rfl) ?_
            refine lv_icmp_eq (tgt := 89) hx hb dX7_standsDown_75 (by decide) (fun c_5 => ?_) (fun c_5 => ?_)
            · have hg := it_p hg c_5
              exact J89 v2 v3 _ _ _ _ hg hw (lv_sub hl [0, 1, 2, 3] rfl)
            · have hg := it_n hg c_5
              refine lv_aload_n hx hb dX7_standsDown_78 rfl (lv_at hl 0 rfl) ?_
              refine r_getr (C := RX7) (T := TX7) (N := 43) (k' := 17) S hK hw (kM_0 hG).1 (kM_0 hG).2 rfl hinX7 30 (by decide) (o := 17) rfl rfl (hts (.fieldLink RX7 62 "SoupByRankModel" "inOrder" "[I") (by decide +kernel)) rfl dX7_standsDown_79 ?_
              refine lv_iload hx hb dX7_standsDown_82 (lv_at hl 4 rfl) ?_
              refine lv_iload_n hx hb dX7_standsDown_84 rfl (lv_at hl 3 rfl) ?_
              obtain ⟨h_7, s_6, e_8, hg⟩ := wrA_e hg
              refine r_iast S hK hw (kM_17 hG).1 (kM_17 hG).2 h_7 e_8 dX7_standsDown_85 (fun H locs hw => ?_)
              refine lv_iinc (v := (v2 + 1)) (lv' := [(2, .int (v2 + 1)), (0, .ref (gAd G 0)), (1, .int v1), (3, .int v3), (4, .int v4), (5, .int v5)]) hx hb dX7_standsDown_86 hl (k := 2) rfl rfl (by decide) rfl (fun ls hl => ?_)
              exact J89 (v2 + 1) v3 _ _ _ _ hg hw (lv_sub hl [1, 2, 0, 3] rfl)
          · have hg := it_n hg c_1
            refine lv_iload hx hb dX7_standsDown_27 (lv_at hl 4 rfl) ?_
            refine lv_iload hx hb dX7_standsDown_29 (lv_at hl 5 rfl) ?_
            refine lv_iload_n hx hb dX7_standsDown_31 rfl (lv_at hl 1 rfl) ?_
            refine lv_icmp_eq (tgt := 55) hx hb dX7_standsDown_32 (by decide) (fun c_9 => ?_) (fun c_9 => ?_)
            · have hg := it_p hg c_9
              exact J55 v5 v4 _ _ _ _ hg hw (lv_sub hl [0, 1, 2, 3, 5] rfl)
            · have hg := it_n hg c_9
              refine lv_iload hx hb dX7_standsDown_35 (lv_at hl 5 rfl) ?_
              refine lv_iload_n hx hb dX7_standsDown_37 rfl (lv_at hl 3 rfl) ?_
              refine lv_icmp_eq (tgt := 55) hx hb dX7_standsDown_38 (by decide) (fun c_10 => ?_) (fun c_10 => ?_)
              · have hg := it_p hg c_10
                exact J55 v5 v4 _ _ _ _ hg hw (lv_sub hl [0, 1, 2, 3, 5] rfl)
              · have hg := it_n hg c_10
                refine lv_aload_n hx hb dX7_standsDown_41 rfl (lv_at hl 0 rfl) ?_
                refine lv_iload hx hb dX7_standsDown_42 (lv_at hl 5 rfl) ?_
                refine lv_iload_n hx hb dX7_standsDown_44 rfl (lv_at hl 3 rfl) ?_
                obtain ⟨s_11, x_12, h_13, hg⟩ := bnI_e hg
                refine r_iV (As := [.int v5, .int v3]) (rest := [.int v4]) S hA hK hw (c_X7_isBetter l hG  h_13) (cwV 2 hts gX7_standsDown_X7_isBetter rfl rfl rfl (by decide +kernel) ⟨Nat.le_of_ble_eq_true rfl, Nat.le_of_ble_eq_true rfl⟩) (r_recv hK hw (kM_0 hG).1 (kM_0 hG).2 rfl) rfl hl.1 (Nat.le_of_ble_eq_true rfl) dX7_standsDown_45 ⟨Nat.zero_le _, Nat.zero_le _⟩ rfl (fun H locs hw => ?_)
                refine lv_if_eq (tgt := 55) hx hb dX7_standsDown_48 (by decide) (fun c_14 => ?_) (fun c_14 => ?_)
                · have hg := it_p hg c_14
                  exact J55 v5 v4 _ _ _ _ hg hw (lv_sub hl [0, 1, 2, 3, 5] rfl)
                · have hg := it_n hg c_14
                  refine lv_iconst (v := 1) hx hb dX7_standsDown_51 (by decide) ?_
                  refine lv_goto (tgt := 56) hx hb dX7_standsDown_52 (by decide) ?_
                  exact J56 v5 1 v4 _ _ _ _ hg hw (lv_sub hl [0, 1, 2, 3, 5] rfl)
      intro v2 v3 σ H locs ls hg hw hl
      rw [g_X7_standsDown_l4] at hg
      refine lv_iload_n hx hb dX7_standsDown_4 rfl (lv_at hl 3 rfl) ?_
      refine lv_aload_n hx hb dX7_standsDown_5 rfl (lv_at hl 0 rfl) ?_
      refine r_get (C := RX7) (T := TX7) (N := 43) S hK hw (kM_0 hG).1 (kM_0 hG).2 rfl hinX7 0 (by decide) rfl (hts (.fieldLink RX7 90 "SoupByRankModel" "courtiers" "I") (by decide +kernel)) rfl dX7_standsDown_6 ?_
      refine lv_icmp_ge (tgt := 95) hx hb dX7_standsDown_9 (by decide) (fun c_15 => ?_) (fun c_15 => ?_)
      · have hg := it_p hg c_15
        refine lv_iload_n hx hb dX7_standsDown_95 rfl (lv_at hl 2 rfl) ?_
        exact r_ireti S hr hlk hw.2.2.2.2 hw hg dX7_standsDown_96
      · have hg := it_n hg c_15
        refine lv_iconst (v := 0) hx hb dX7_standsDown_12 (by decide) ?_
        refine lv_istore (lv' := [(4, .int 0), (0, .ref (gAd G 0)), (1, .int v1), (2, .int v2), (3, .int v3)]) hx hb dX7_standsDown_13 hl (by decide) rfl (fun ls hl => ?_)
        refine lv_iconst (v := 0) hx hb dX7_standsDown_15 (by decide) ?_
        refine lv_istore (lv' := [(5, .int 0), (4, .int 0), (0, .ref (gAd G 0)), (1, .int v1), (2, .int v2), (3, .int v3)]) hx hb dX7_standsDown_16 hl (by decide) rfl (fun ls hl => ?_)
        exact L18 v2 v3 F _ _ _ _ _ _ hg hw (lv_sub hl [2, 3, 4, 5, 1, 0] rfl)
  rw [g_X7_standsDown] at hg
  refine lv_iconst (v := 0) hx hb dX7_standsDown_0 (by decide) ?_
  refine lv_istore_n (lv' := [(2, .int 0), (0, .ref (gAd G 0)), (1, .int a1)]) hx hb dX7_standsDown_1 rfl hl (by decide) rfl (fun ls hl => ?_)
  refine lv_iconst (v := 0) hx hb dX7_standsDown_2 (by decide) ?_
  refine lv_istore_n (lv' := [(3, .int 0), (2, .int 0), (0, .ref (gAd G 0)), (1, .int a1)]) hx hb dX7_standsDown_3 rfl hl (by decide) rfl (fun ls hl => ?_)
  exact L4 a1 F _ _ _ _ _ _ hg hw (lv_sub hl [2, 3, 1, 0] rfl)
set_option maxHeartbeats 4000000 in
set_option maxRecDepth 100000 in
theorem c_X7_begins (l : Launch) {G : GW} (hG : isM G) {F sz : Nat} {a1 : Int32} {a2 : Int32} {a3 : Int32} {σ σR : Sg} (hg : g_X7_begins F a1 a2 a3 σ = some σR) : Met l yX7_begins wsX7_begins ({ frames := 4, cells := 0, slots := 0, locals := 96 } : Room) (va_Pc [.ref (gAd G 0), .int a1, .int a2, .int a3] (PX G σ sz)) (QcV G (gA G sz) σR) 0 0 (gA G sz) := by
  refine metX (by decide) rfl (Nat.le_of_ble_eq_true rfl) ?_
  intro p e s m args below meth c ls S hr hlk hsz hA hK hw hl hmn
  have S : CallFix p m c cX7_begins 4 s args wsX7_begins RX7 := S
  obtain ⟨hx, hb, hml, hown, hts⟩ := id S
  have hl : lv_has ls 4 [(0, .ref (gAd G 0)), (1, .int a1), (2, .int a2), (3, .int a3)] := hl
  have hinX7 : ∀ w ∈ wsX70, w ∈ wsX7_begins := by decide +kernel
  rw [g_X7_begins] at hg
  refine lv_aload_n hx hb dX7_begins_0 rfl (lv_at hl 0 rfl) ?_
  refine r_getr (C := RX7) (T := TX7) (N := 43) (k' := 19) S hK hw (kM_0 hG).1 (kM_0 hG).2 rfl hinX7 32 (by decide) (o := 19) rfl rfl (hts (.fieldLink RX7 68 "SoupByRankModel" "beginsOf" "[I") (by decide +kernel)) rfl dX7_begins_1 ?_
  refine lv_iload_n hx hb dX7_begins_4 rfl (lv_at hl 1 rfl) ?_
  refine lv_iload_n hx hb dX7_begins_5 rfl (lv_at hl 2 rfl) ?_
  obtain ⟨h_2, s_1, e_3, hg⟩ := wrA_e hg
  refine r_iast S hK hw (kM_19 hG).1 (kM_19 hG).2 h_2 e_3 dX7_begins_6 (fun H locs hw => ?_)
  refine lv_aload_n hx hb dX7_begins_7 rfl (lv_at hl 0 rfl) ?_
  refine r_getr (C := RX7) (T := TX7) (N := 43) (k' := 20) S hK hw (kM_0 hG).1 (kM_0 hG).2 rfl hinX7 33 (by decide) (o := 20) rfl rfl (hts (.fieldLink RX7 71 "SoupByRankModel" "getsOf" "[I") (by decide +kernel)) rfl dX7_begins_8 ?_
  refine lv_iload_n hx hb dX7_begins_11 rfl (lv_at hl 1 rfl) ?_
  refine lv_iload_n hx hb dX7_begins_12 rfl (lv_at hl 3 rfl) ?_
  obtain ⟨h_5, s_4, e_6, hg⟩ := wrA_e hg
  refine r_iast S hK hw (kM_20 hG).1 (kM_20 hG).2 h_5 e_6 dX7_begins_13 (fun H locs hw => ?_)
  refine lv_aload_n hx hb dX7_begins_14 rfl (lv_at hl 0 rfl) ?_
  refine r_getr (C := RX7) (T := TX7) (N := 43) (k' := 21) S hK hw (kM_0 hG).1 (kM_0 hG).2 rfl hinX7 34 (by decide) (o := 21) rfl rfl (hts (.fieldLink RX7 74 "SoupByRankModel" "offOf" "[I") (by decide +kernel)) rfl dX7_begins_15 ?_
  refine lv_iload_n hx hb dX7_begins_18 rfl (lv_at hl 1 rfl) ?_
  refine lv_iload_n hx hb dX7_begins_19 rfl (lv_at hl 3 rfl) ?_
  refine lv_aload_n hx hb dX7_begins_20 rfl (lv_at hl 0 rfl) ?_
  refine lv_iload_n hx hb dX7_begins_21 rfl (lv_at hl 1 rfl) ?_
  refine lv_iload_n hx hb dX7_begins_22 rfl (lv_at hl 3 rfl) ?_
  refine lv_iload_n hx hb dX7_begins_23 rfl (lv_at hl 2 rfl) ?_
  refine lv_aload_n hx hb dX7_begins_24 rfl (lv_at hl 0 rfl) ?_
  refine r_getr (C := RX7) (T := TX7) (N := 43) (k' := 18) S hK hw (kM_0 hG).1 (kM_0 hG).2 rfl hinX7 31 (by decide) (o := 18) rfl rfl (hts (.fieldLink RX7 65 "SoupByRankModel" "downOf" "[I") (by decide +kernel)) rfl dX7_begins_25 ?_
  refine lv_iload_n hx hb dX7_begins_28 rfl (lv_at hl 1 rfl) ?_
  obtain ⟨h_8, x_7, e_9, hg⟩ := rdA_e hg
  refine r_iald S hK hw (kM_18 hG).1 (kM_18 hG).2 h_8 e_9 dX7_begins_29 ?_
  obtain ⟨s_10, x_11, h_12, hg⟩ := bnI_e hg
  refine r_iV (As := [.int a1, .int a3, .int a2, .int x_7]) (rest := [.int a3, .int a1, .ref (gAd G 21)]) S hA hK hw (c_X7_likesOf l hG  h_12) (cwV 4 hts gX7_begins_X7_likesOf rfl rfl rfl (by decide +kernel) ⟨Nat.le_of_ble_eq_true rfl, Nat.le_of_ble_eq_true rfl⟩) (r_recv hK hw (kM_0 hG).1 (kM_0 hG).2 rfl) rfl hl.1 (Nat.le_of_ble_eq_true rfl) dX7_begins_30 ⟨Nat.zero_le _, Nat.zero_le _⟩ rfl (fun H locs hw => ?_)
  refine lv_isub hx hb dX7_begins_33 ?_
  obtain ⟨h_14, s_13, e_15, hg⟩ := wrA_e hg
  refine r_iast S hK hw (kM_21 hG).1 (kM_21 hG).2 h_14 e_15 dX7_begins_34 (fun H locs hw => ?_)
  refine lv_aload_n hx hb dX7_begins_35 rfl (lv_at hl 0 rfl) ?_
  refine r_getr (C := RX7) (T := TX7) (N := 43) (k' := 22) S hK hw (kM_0 hG).1 (kM_0 hG).2 rfl hinX7 35 (by decide) (o := 22) rfl rfl (hts (.fieldLink RX7 77 "SoupByRankModel" "mind" "[I") (by decide +kernel)) rfl dX7_begins_36 ?_
  refine lv_iload_n hx hb dX7_begins_39 rfl (lv_at hl 1 rfl) ?_
  refine lv_aload_n hx hb dX7_begins_40 rfl (lv_at hl 0 rfl) ?_
  refine lv_iload_n hx hb dX7_begins_41 rfl (lv_at hl 1 rfl) ?_
  refine lv_aload_n hx hb dX7_begins_42 rfl (lv_at hl 0 rfl) ?_
  refine r_getr (C := RX7) (T := TX7) (N := 43) (k' := 21) S hK hw (kM_0 hG).1 (kM_0 hG).2 rfl hinX7 34 (by decide) (o := 21) rfl rfl (hts (.fieldLink RX7 74 "SoupByRankModel" "offOf" "[I") (by decide +kernel)) rfl dX7_begins_43 ?_
  refine lv_iload_n hx hb dX7_begins_46 rfl (lv_at hl 1 rfl) ?_
  obtain ⟨h_17, x_16, e_18, hg⟩ := rdA_e hg
  refine r_iald S hK hw (kM_21 hG).1 (kM_21 hG).2 h_17 e_18 dX7_begins_47 ?_
  obtain ⟨s_19, x_20, h_21, hg⟩ := bnI_e hg
  refine r_iV (As := [.int a1, .int x_16]) (rest := [.int a1, .ref (gAd G 22)]) S hA hK hw (c_X7_mindsOf l hG  h_21) (cwV 2 hts gX7_begins_X7_mindsOf rfl rfl rfl (by decide +kernel) ⟨Nat.le_of_ble_eq_true rfl, Nat.le_of_ble_eq_true rfl⟩) (r_recv hK hw (kM_0 hG).1 (kM_0 hG).2 rfl) rfl hl.1 (Nat.le_of_ble_eq_true rfl) dX7_begins_48 ⟨Nat.zero_le _, Nat.zero_le _⟩ rfl (fun H locs hw => ?_)
  obtain ⟨h_23, s_22, e_24, hg⟩ := wrA_e hg
  refine r_iast S hK hw (kM_22 hG).1 (kM_22 hG).2 h_23 e_24 dX7_begins_51 (fun H locs hw => ?_)
  refine lv_aload_n hx hb dX7_begins_52 rfl (lv_at hl 0 rfl) ?_
  refine lv_iload_n hx hb dX7_begins_53 rfl (lv_at hl 1 rfl) ?_
  obtain ⟨s_25, e_26, hg⟩ := wrF_e hg
  refine r_put (C := RX7) (T := TX7) (N := 43) S hK hw (kM_0 hG).1 (kM_0 hG).2 rfl hinX7 tyX7_ok nmX7 36 (by decide) rfl rfl rfl rfl (hts (.fieldLink RX7 194 "SoupByRankModel" "lastOne" "I") (by decide +kernel)) rfl e_26 dX7_begins_54 (fun H locs hw => ?_)
  refine lv_aload_n hx hb dX7_begins_57 rfl (lv_at hl 0 rfl) ?_
  refine lv_iload_n hx hb dX7_begins_58 rfl (lv_at hl 2 rfl) ?_
  obtain ⟨s_27, e_28, hg⟩ := wrF_e hg
  refine r_put (C := RX7) (T := TX7) (N := 43) S hK hw (kM_0 hG).1 (kM_0 hG).2 rfl hinX7 tyX7_ok nmX7 37 (by decide) rfl rfl rfl rfl (hts (.fieldLink RX7 197 "SoupByRankModel" "lastMinute" "I") (by decide +kernel)) rfl e_28 dX7_begins_59 (fun H locs hw => ?_)
  refine lv_aload_n hx hb dX7_begins_62 rfl (lv_at hl 0 rfl) ?_
  refine lv_dup hx hb dX7_begins_63 rfl ?_
  refine r_get (C := RX7) (T := TX7) (N := 43) S hK hw (kM_0 hG).1 (kM_0 hG).2 rfl hinX7 38 (by decide) rfl (hts (.fieldLink RX7 200 "SoupByRankModel" "mindsAll" "I") (by decide +kernel)) rfl dX7_begins_64 ?_
  refine lv_aload_n hx hb dX7_begins_67 rfl (lv_at hl 0 rfl) ?_
  refine r_getr (C := RX7) (T := TX7) (N := 43) (k' := 22) S hK hw (kM_0 hG).1 (kM_0 hG).2 rfl hinX7 35 (by decide) (o := 22) rfl rfl (hts (.fieldLink RX7 77 "SoupByRankModel" "mind" "[I") (by decide +kernel)) rfl dX7_begins_68 ?_
  refine lv_iload_n hx hb dX7_begins_71 rfl (lv_at hl 1 rfl) ?_
  obtain ⟨h_30, x_29, e_31, hg⟩ := rdA_e hg
  refine r_iald S hK hw (kM_22 hG).1 (kM_22 hG).2 h_30 e_31 dX7_begins_72 ?_
  refine lv_iadd hx hb dX7_begins_73 ?_
  obtain ⟨s_32, e_33, hg⟩ := wrF_e hg
  refine r_put (C := RX7) (T := TX7) (N := 43) S hK hw (kM_0 hG).1 (kM_0 hG).2 rfl hinX7 tyX7_ok nmX7 38 (by decide) rfl rfl rfl rfl (hts (.fieldLink RX7 200 "SoupByRankModel" "mindsAll" "I") (by decide +kernel)) rfl e_33 dX7_begins_74 (fun H locs hw => ?_)
  refine lv_aload_n hx hb dX7_begins_77 rfl (lv_at hl 0 rfl) ?_
  refine lv_dup hx hb dX7_begins_78 rfl ?_
  refine r_get (C := RX7) (T := TX7) (N := 43) S hK hw (kM_0 hG).1 (kM_0 hG).2 rfl hinX7 39 (by decide) rfl (hts (.fieldLink RX7 203 "SoupByRankModel" "gotAll" "I") (by decide +kernel)) rfl dX7_begins_79 ?_
  refine lv_iload_n hx hb dX7_begins_82 rfl (lv_at hl 3 rfl) ?_
  refine lv_iadd hx hb dX7_begins_83 ?_
  obtain ⟨s_34, e_35, hg⟩ := wrF_e hg
  refine r_put (C := RX7) (T := TX7) (N := 43) S hK hw (kM_0 hG).1 (kM_0 hG).2 rfl hinX7 tyX7_ok nmX7 39 (by decide) rfl rfl rfl rfl (hts (.fieldLink RX7 203 "SoupByRankModel" "gotAll" "I") (by decide +kernel)) rfl e_35 dX7_begins_84 (fun H locs hw => ?_)
  refine lv_aload_n hx hb dX7_begins_87 rfl (lv_at hl 0 rfl) ?_
  refine lv_dup hx hb dX7_begins_88 rfl ?_
  refine r_get (C := RX7) (T := TX7) (N := 43) S hK hw (kM_0 hG).1 (kM_0 hG).2 rfl hinX7 40 (by decide) rfl (hts (.fieldLink RX7 206 "SoupByRankModel" "begunMany" "I") (by decide +kernel)) rfl dX7_begins_89 ?_
  refine lv_iconst (v := 1) hx hb dX7_begins_92 (by decide) ?_
  refine lv_iadd hx hb dX7_begins_93 ?_
  obtain ⟨s_36, e_37, hg⟩ := wrF_e hg
  refine r_put (C := RX7) (T := TX7) (N := 43) S hK hw (kM_0 hG).1 (kM_0 hG).2 rfl hinX7 tyX7_ok nmX7 40 (by decide) rfl rfl rfl rfl (hts (.fieldLink RX7 206 "SoupByRankModel" "begunMany" "I") (by decide +kernel)) rfl e_37 dX7_begins_94 (fun H locs hw => ?_)
  exact r_vreti S hr hlk hw.2.2.2.2 hw hg dX7_begins_97
set_option maxHeartbeats 4000000 in
set_option maxRecDepth 100000 in
theorem c_X7_sups (l : Launch) {G : GW} (hG : isM G) {F sz : Nat} {a1 : Int32} {σ σR : Sg} (hg : g_X7_sups F a1 σ = some σR) : Met l yX7_sups wsX7_sups ({ frames := 5, cells := 0, slots := 0, locals := 119 } : Room) (va_Pc [.ref (gAd G 0), .int a1] (PX G σ sz)) (QcV G (gA G sz) σR) 0 0 (gA G sz) := by
  refine metX (by decide) rfl (Nat.le_of_ble_eq_true rfl) ?_
  intro p e s m args below meth c ls S hr hlk hsz hA hK hw hl hmn
  have S : CallFix p m c cX7_sups 10 s args wsX7_sups RX7 := S
  obtain ⟨hx, hb, hml, hown, hts⟩ := id S
  have hl : lv_has ls 10 [(0, .ref (gAd G 0)), (1, .int a1)] := hl
  have hinX7 : ∀ w ∈ wsX70, w ∈ wsX7_sups := by decide +kernel
  have L88 : ∀ (v2 : Int32) (n88 : Nat) (v3 : Int32) (v4 : Int32) (v5 : Int32) (σ : Sg) (H : Heap) (locs : List Loc) (ls : Array Slot) (hg : g_X7_sups_l88 F v2 n88 v3 v4 v5 σ = some σR) (hw : XD G (gA G sz) s.heap σ H locs) (hl : lv_has ls 10 [(0, .ref (gAd G 0)), (2, .int v2), (3, .int v3), (4, .int v4), (5, .int v5)]), W p l e (headSpec wsX7_sups ({ frames := 5, cells := 0, slots := 0, locals := 119 } : Room)).room s m args below meth c H locs 0 0 (MQ below (QcV G (gA G sz) σR) args s 0 0 (gA G sz)) (F0 m 88 ls []) := by
    intro v2
    intro n88
    induction n88 with
    | zero => intro v3 v4 v5 σ H locs ls hg hw hl; exact no_e hg
    | succ n88 ih88 =>
      have J196 : ∀ (v4 : Int32) (v5 : Int32) (v7 : Int32) (σ : Sg) (H : Heap) (locs : List Loc) (ls : Array Slot) (hg : g_X7_sups_b196 F (fun v3_ v4_ v5_ σ_ => g_X7_sups_l88 F v2 n88 v3_ v4_ v5_ σ_) v2 v4 v5 v7 σ = some σR) (hw : XD G (gA G sz) s.heap σ H locs) (hl : lv_has ls 10 [(0, .ref (gAd G 0)), (2, .int v2), (4, .int v4), (5, .int v5), (7, .int v7)]), W p l e (headSpec wsX7_sups ({ frames := 5, cells := 0, slots := 0, locals := 119 } : Room)).room s m args below meth c H locs 0 0 (MQ below (QcV G (gA G sz) σR) args s 0 0 (gA G sz)) (F0 m 196 ls []) := by
        intro v4 v5 v7 σ H locs ls hg hw hl
        rw [g_X7_sups_b196] at hg
        refine lv_iload hx hb dX7_sups_196 (lv_at hl 4 rfl) ?_
        refine lv_istore_n (lv' := [(3, .int v7), (0, .ref (gAd G 0)), (2, .int v2), (4, .int v4), (5, .int v5), (7, .int v7)]) hx hb dX7_sups_198 rfl hl (by decide) rfl (fun ls hl => ?_)
        refine lv_iinc (v := (v5 + 1)) (lv' := [(5, .int (v5 + 1)), (3, .int v7), (0, .ref (gAd G 0)), (2, .int v2), (4, .int v4), (7, .int v7)]) hx hb dX7_sups_199 hl (k := 4) rfl rfl (by decide) rfl (fun ls hl => ?_)
        refine lv_goto (tgt := 88) hx hb dX7_sups_202 (by decide) ?_
        exact ih88 _ _ _ _ _ _ _ hg hw (lv_sub hl [2, 3, 1, 4, 0] rfl)
      have L148 : ∀ (v5 : Int32) (v6 : Int32) (v7 : Int32) (n148 : Nat) (v4 : Int32) (v8 : Int32) (σ : Sg) (H : Heap) (locs : List Loc) (ls : Array Slot) (hg : g_X7_sups_l148 F (fun v3_ v4_ v5_ σ_ => g_X7_sups_l88 F v2 n88 v3_ v4_ v5_ σ_) v2 v5 v6 v7 n148 v4 v8 σ = some σR) (hw : XD G (gA G sz) s.heap σ H locs) (hl : lv_has ls 10 [(0, .ref (gAd G 0)), (2, .int v2), (4, .int v4), (5, .int v5), (6, .int v6), (7, .int v7), (8, .int v8)]), W p l e (headSpec wsX7_sups ({ frames := 5, cells := 0, slots := 0, locals := 119 } : Room)).room s m args below meth c H locs 0 0 (MQ below (QcV G (gA G sz) σR) args s 0 0 (gA G sz)) (F0 m 148 ls []) := by
        intro v5 v6 v7
        intro n148
        induction n148 with
        | zero => intro v4 v8 σ H locs ls hg hw hl; exact no_e hg
        | succ n148 ih148 =>
          have J188 : ∀ (v8 : Int32) (u0 : Int32) (σ : Sg) (H : Heap) (locs : List Loc) (ls : Array Slot) (hg : g_X7_sups_b188 F (fun v3_ v4_ v5_ σ_ => g_X7_sups_l88 F v2 n88 v3_ v4_ v5_ σ_) (fun v4_ v8_ σ_ => g_X7_sups_l148 F (fun v3_ v4_ v5_ σ_ => g_X7_sups_l88 F v2 n88 v3_ v4_ v5_ σ_) v2 v5 v6 v7 n148 v4_ v8_ σ_) v2 v5 v6 v7 v8 u0 σ = some σR) (hw : XD G (gA G sz) s.heap σ H locs) (hl : lv_has ls 10 [(0, .ref (gAd G 0)), (2, .int v2), (5, .int v5), (6, .int v6), (7, .int v7), (8, .int v8)]), W p l e (headSpec wsX7_sups ({ frames := 5, cells := 0, slots := 0, locals := 119 } : Room)).room s m args below meth c H locs 0 0 (MQ below (QcV G (gA G sz) σR) args s 0 0 (gA G sz)) (F0 m 188 ls [.int u0]) := by
            intro v8 u0 σ H locs ls hg hw hl
            rw [g_X7_sups_b188] at hg
            refine lv_istore (lv' := [(4, .int u0), (0, .ref (gAd G 0)), (2, .int v2), (5, .int v5), (6, .int v6), (7, .int v7), (8, .int v8)]) hx hb dX7_sups_188 hl (by decide) rfl (fun ls hl => ?_)
            refine lv_iinc (v := (v8 + 1)) (lv' := [(8, .int (v8 + 1)), (4, .int u0), (0, .ref (gAd G 0)), (2, .int v2), (5, .int v5), (6, .int v6), (7, .int v7)]) hx hb dX7_sups_190 hl (k := 6) rfl rfl (by decide) rfl (fun ls hl => ?_)
            refine lv_goto (tgt := 148) hx hb dX7_sups_193 (by decide) ?_
            exact ih148 _ _ _ _ _ _ hg hw (lv_sub hl [2, 3, 1, 4, 5, 6, 0] rfl)
          intro v4 v8 σ H locs ls hg hw hl
          rw [g_X7_sups_l148] at hg
          refine lv_iload hx hb dX7_sups_148 (lv_at hl 6 rfl) ?_
          refine lv_iload hx hb dX7_sups_150 (lv_at hl 5 rfl) ?_
          refine lv_icmp_ge (tgt := 196) hx hb dX7_sups_152 (by decide) (fun c_1 => ?_) (fun c_1 => ?_)
          · have hg := it_p hg c_1
            exact J196 v4 v5 v7 _ _ _ _ hg hw (lv_sub hl [0, 1, 2, 3, 5] rfl)
          · have hg := it_n hg c_1
            refine lv_iload hx hb dX7_sups_155 (lv_at hl 2 rfl) ?_
            refine lv_aload_n hx hb dX7_sups_157 rfl (lv_at hl 0 rfl) ?_
            refine lv_iconst (v := 0) hx hb dX7_sups_158 (by decide) ?_
            refine lv_iconst (v := (-1)) hx hb dX7_sups_159 (by decide) ?_
            refine lv_iload hx hb dX7_sups_160 (lv_at hl 2 rfl) ?_
            refine lv_iload hx hb dX7_sups_162 (lv_at hl 6 rfl) ?_
            refine lv_aload_n hx hb dX7_sups_164 rfl (lv_at hl 0 rfl) ?_
            refine r_getr (C := RX7) (T := TX7) (N := 43) (k' := 18) S hK hw (kM_0 hG).1 (kM_0 hG).2 rfl hinX7 31 (by decide) (o := 18) rfl rfl (hts (.fieldLink RX7 65 "SoupByRankModel" "downOf" "[I") (by decide +kernel)) rfl dX7_sups_165 ?_
            refine lv_iload hx hb dX7_sups_168 (lv_at hl 4 rfl) ?_
            obtain ⟨h_3, x_2, e_4, hg⟩ := rdA_e hg
            refine r_iald S hK hw (kM_18 hG).1 (kM_18 hG).2 h_3 e_4 dX7_sups_170 ?_
            obtain ⟨s_5, x_6, h_7, hg⟩ := bnI_e hg
            refine r_iV (As := [.int 0, .int (-1), .int v4, .int v8, .int x_2]) (rest := [.int v4]) S hA hK hw (c_X7_asksOf l hG  h_7) (cwV 5 hts gX7_sups_X7_asksOf rfl rfl rfl (by decide +kernel) ⟨Nat.le_of_ble_eq_true rfl, Nat.le_of_ble_eq_true rfl⟩) (r_recv hK hw (kM_0 hG).1 (kM_0 hG).2 rfl) rfl hl.1 (Nat.le_of_ble_eq_true rfl) dX7_sups_171 ⟨Nat.zero_le _, Nat.zero_le _⟩ rfl (fun H locs hw => ?_)
            refine lv_isub hx hb dX7_sups_174 ?_
            refine lv_istore (lv' := [(9, .int (v4 - x_6)), (0, .ref (gAd G 0)), (2, .int v2), (4, .int v4), (5, .int v5), (6, .int v6), (7, .int v7), (8, .int v8)]) hx hb dX7_sups_175 hl (by decide) rfl (fun ls hl => ?_)
            refine lv_iload hx hb dX7_sups_177 (lv_at hl 0 rfl) ?_
            refine lv_if_ge (tgt := 186) hx hb dX7_sups_179 (by decide) (fun c_8 => ?_) (fun c_8 => ?_)
            · have hg := it_p hg c_8
              refine lv_iload hx hb dX7_sups_186 (lv_at hl 0 rfl) ?_
              exact J188 v8 (v4 - x_6) _ _ _ _ hg hw (lv_sub hl [1, 2, 4, 5, 6, 7] rfl)
            · have hg := it_n hg c_8
              refine lv_iconst (v := 0) hx hb dX7_sups_182 (by decide) ?_
              refine lv_goto (tgt := 188) hx hb dX7_sups_183 (by decide) ?_
              exact J188 v8 0 _ _ _ _ hg hw (lv_sub hl [1, 2, 4, 5, 6, 7] rfl)
      intro v3 v4 v5 σ H locs ls hg hw hl
      rw [g_X7_sups_l88] at hg
      refine lv_iload hx hb dX7_sups_88 (lv_at hl 4 rfl) ?_
      refine lv_iload_n hx hb dX7_sups_90 rfl (lv_at hl 1 rfl) ?_
      refine lv_icmp_ge (tgt := 205) hx hb dX7_sups_91 (by decide) (fun c_9 => ?_) (fun c_9 => ?_)
      · have hg := it_p hg c_9
        exact r_vreti S hr hlk hw.2.2.2.2 hw hg dX7_sups_205
      · have hg := it_n hg c_9
        refine lv_iload_n hx hb dX7_sups_94 rfl (lv_at hl 2 rfl) ?_
        refine lv_bipush (v := 60) hx hb dX7_sups_95 (by decide) ?_
        refine lv_icmp_gt (tgt := 205) hx hb dX7_sups_97 (by decide) (fun c_10 => ?_) (fun c_10 => ?_)
        · have hg := it_p hg c_10
          exact r_vreti S hr hlk hw.2.2.2.2 hw hg dX7_sups_205
        · have hg := it_n hg c_10
          refine lv_aload_n hx hb dX7_sups_100 rfl (lv_at hl 0 rfl) ?_
          refine r_getr (C := RX7) (T := TX7) (N := 43) (k' := 17) S hK hw (kM_0 hG).1 (kM_0 hG).2 rfl hinX7 30 (by decide) (o := 17) rfl rfl (hts (.fieldLink RX7 62 "SoupByRankModel" "inOrder" "[I") (by decide +kernel)) rfl dX7_sups_101 ?_
          refine lv_iload hx hb dX7_sups_104 (lv_at hl 4 rfl) ?_
          obtain ⟨h_12, x_11, e_13, hg⟩ := rdA_e hg
          refine r_iald S hK hw (kM_17 hG).1 (kM_17 hG).2 h_12 e_13 dX7_sups_106 ?_
          refine lv_istore (lv' := [(6, .int x_11), (0, .ref (gAd G 0)), (2, .int v2), (3, .int v3), (4, .int v4), (5, .int v5)]) hx hb dX7_sups_107 hl (by decide) rfl (fun ls hl => ?_)
          refine lv_aload_n hx hb dX7_sups_109 rfl (lv_at hl 1 rfl) ?_
          refine lv_iload hx hb dX7_sups_110 (lv_at hl 0 rfl) ?_
          refine lv_iload_n hx hb dX7_sups_112 rfl (lv_at hl 3 rfl) ?_
          refine lv_iload hx hb dX7_sups_113 (lv_at hl 4 rfl) ?_
          obtain ⟨s_14, h_16, hg⟩ := bnV_e hg
          refine r_vV (As := [.int x_11, .int v3, .int v4]) (rest := []) S hA hK hw (c_X7_begins l hG  h_16) (cwV 3 hts gX7_sups_X7_begins rfl rfl rfl (by decide +kernel) ⟨Nat.le_of_ble_eq_true rfl, Nat.le_of_ble_eq_true rfl⟩) (r_recv hK hw (kM_0 hG).1 (kM_0 hG).2 rfl) rfl hl.1 (Nat.le_of_ble_eq_true rfl) dX7_sups_115 ⟨Nat.zero_le _, Nat.zero_le _⟩ rfl (fun H locs hw => ?_)
          refine lv_iload_n hx hb dX7_sups_118 rfl (lv_at hl 3 rfl) ?_
          refine lv_aload_n hx hb dX7_sups_119 rfl (lv_at hl 1 rfl) ?_
          refine lv_iload hx hb dX7_sups_120 (lv_at hl 0 rfl) ?_
          refine lv_iload hx hb dX7_sups_122 (lv_at hl 4 rfl) ?_
          refine lv_iload_n hx hb dX7_sups_124 rfl (lv_at hl 3 rfl) ?_
          refine lv_aload_n hx hb dX7_sups_125 rfl (lv_at hl 1 rfl) ?_
          refine r_getr (C := RX7) (T := TX7) (N := 43) (k' := 18) S hK hw (kM_0 hG).1 (kM_0 hG).2 rfl hinX7 31 (by decide) (o := 18) rfl rfl (hts (.fieldLink RX7 65 "SoupByRankModel" "downOf" "[I") (by decide +kernel)) rfl dX7_sups_126 ?_
          refine lv_iload hx hb dX7_sups_129 (lv_at hl 0 rfl) ?_
          obtain ⟨h_18, x_17, e_19, hg⟩ := rdA_e hg
          refine r_iald S hK hw (kM_18 hG).1 (kM_18 hG).2 h_18 e_19 dX7_sups_131 ?_
          obtain ⟨s_20, x_21, h_22, hg⟩ := bnI_e hg
          refine r_iV (As := [.int x_11, .int v4, .int v3, .int x_17]) (rest := [.int v3]) S hA hK hw (c_X7_waitsOf l hG  h_22) (cwV 4 hts gX7_sups_X7_waitsOf rfl rfl rfl (by decide +kernel) ⟨Nat.le_of_ble_eq_true rfl, Nat.le_of_ble_eq_true rfl⟩) (r_recv hK hw (kM_0 hG).1 (kM_0 hG).2 rfl) rfl hl.1 (Nat.le_of_ble_eq_true rfl) dX7_sups_132 ⟨Nat.zero_le _, Nat.zero_le _⟩ rfl (fun H locs hw => ?_)
          refine lv_iadd hx hb dX7_sups_135 ?_
          refine lv_istore (lv' := [(7, .int (v3 + x_21)), (6, .int x_11), (0, .ref (gAd G 0)), (2, .int v2), (3, .int v3), (4, .int v4), (5, .int v5)]) hx hb dX7_sups_136 hl (by decide) rfl (fun ls hl => ?_)
          refine lv_iload hx hb dX7_sups_138 (lv_at hl 0 rfl) ?_
          refine lv_bipush (v := 60) hx hb dX7_sups_140 (by decide) ?_
          refine lv_icmp_gt (tgt := 196) hx hb dX7_sups_142 (by decide) (fun c_23 => ?_) (fun c_23 => ?_)
          · have hg := it_p hg c_23
            exact J196 v4 v5 (v3 + x_21) _ _ _ _ hg hw (lv_sub hl [2, 3, 5, 6, 0] rfl)
          · have hg := it_n hg c_23
            refine lv_iload_n hx hb dX7_sups_145 rfl (lv_at hl 4 rfl) ?_
            refine lv_istore (lv' := [(8, .int v3), (7, .int (v3 + x_21)), (6, .int x_11), (0, .ref (gAd G 0)), (2, .int v2), (3, .int v3), (4, .int v4), (5, .int v5)]) hx hb dX7_sups_146 hl (by decide) rfl (fun ls hl => ?_)
            exact L148 v5 x_11 (v3 + x_21) F _ _ _ _ _ _ hg hw (lv_sub hl [3, 4, 6, 7, 2, 1, 0] rfl)
  have L8 : ∀ (v2 : Int32) (n8 : Nat) (v3 : Int32) (σ : Sg) (H : Heap) (locs : List Loc) (ls : Array Slot) (hg : g_X7_sups_l8 F v2 n8 v3 σ = some σR) (hw : XD G (gA G sz) s.heap σ H locs) (hl : lv_has ls 10 [(0, .ref (gAd G 0)), (2, .int v2), (3, .int v3)]), W p l e (headSpec wsX7_sups ({ frames := 5, cells := 0, slots := 0, locals := 119 } : Room)).room s m args below meth c H locs 0 0 (MQ below (QcV G (gA G sz) σR) args s 0 0 (gA G sz)) (F0 m 8 ls []) := by
    intro v2
    intro n8
    induction n8 with
    | zero => intro v3 σ H locs ls hg hw hl; exact no_e hg
    | succ n8 ih8 =>
      intro v3 σ H locs ls hg hw hl
      rw [g_X7_sups_l8] at hg
      refine lv_iload_n hx hb dX7_sups_8 rfl (lv_at hl 2 rfl) ?_
      refine lv_bipush (v := 6) hx hb dX7_sups_9 (by decide) ?_
      refine lv_icmp_ge (tgt := 52) hx hb dX7_sups_11 (by decide) (fun c_24 => ?_) (fun c_24 => ?_)
      · have hg := it_p hg c_24
        refine lv_aload_n hx hb dX7_sups_52 rfl (lv_at hl 0 rfl) ?_
        refine lv_iconst (v := (-1)) hx hb dX7_sups_53 (by decide) ?_
        obtain ⟨s_25, e_26, hg⟩ := wrF_e hg
        refine r_put (C := RX7) (T := TX7) (N := 43) S hK hw (kM_0 hG).1 (kM_0 hG).2 rfl hinX7 tyX7_ok nmX7 36 (by decide) rfl rfl rfl rfl (hts (.fieldLink RX7 194 "SoupByRankModel" "lastOne" "I") (by decide +kernel)) rfl e_26 dX7_sups_54 (fun H locs hw => ?_)
        refine lv_aload_n hx hb dX7_sups_57 rfl (lv_at hl 0 rfl) ?_
        refine lv_iconst (v := (-1)) hx hb dX7_sups_58 (by decide) ?_
        obtain ⟨s_27, e_28, hg⟩ := wrF_e hg
        refine r_put (C := RX7) (T := TX7) (N := 43) S hK hw (kM_0 hG).1 (kM_0 hG).2 rfl hinX7 tyX7_ok nmX7 37 (by decide) rfl rfl rfl rfl (hts (.fieldLink RX7 197 "SoupByRankModel" "lastMinute" "I") (by decide +kernel)) rfl e_28 dX7_sups_59 (fun H locs hw => ?_)
        refine lv_aload_n hx hb dX7_sups_62 rfl (lv_at hl 0 rfl) ?_
        refine lv_iconst (v := 0) hx hb dX7_sups_63 (by decide) ?_
        obtain ⟨s_29, e_30, hg⟩ := wrF_e hg
        refine r_put (C := RX7) (T := TX7) (N := 43) S hK hw (kM_0 hG).1 (kM_0 hG).2 rfl hinX7 tyX7_ok nmX7 38 (by decide) rfl rfl rfl rfl (hts (.fieldLink RX7 200 "SoupByRankModel" "mindsAll" "I") (by decide +kernel)) rfl e_30 dX7_sups_64 (fun H locs hw => ?_)
        refine lv_aload_n hx hb dX7_sups_67 rfl (lv_at hl 0 rfl) ?_
        refine lv_iconst (v := 0) hx hb dX7_sups_68 (by decide) ?_
        obtain ⟨s_31, e_32, hg⟩ := wrF_e hg
        refine r_put (C := RX7) (T := TX7) (N := 43) S hK hw (kM_0 hG).1 (kM_0 hG).2 rfl hinX7 tyX7_ok nmX7 39 (by decide) rfl rfl rfl rfl (hts (.fieldLink RX7 203 "SoupByRankModel" "gotAll" "I") (by decide +kernel)) rfl e_32 dX7_sups_69 (fun H locs hw => ?_)
        refine lv_aload_n hx hb dX7_sups_72 rfl (lv_at hl 0 rfl) ?_
        refine lv_iconst (v := 0) hx hb dX7_sups_73 (by decide) ?_
        obtain ⟨s_33, e_34, hg⟩ := wrF_e hg
        refine r_put (C := RX7) (T := TX7) (N := 43) S hK hw (kM_0 hG).1 (kM_0 hG).2 rfl hinX7 tyX7_ok nmX7 40 (by decide) rfl rfl rfl rfl (hts (.fieldLink RX7 206 "SoupByRankModel" "begunMany" "I") (by decide +kernel)) rfl e_34 dX7_sups_74 (fun H locs hw => ?_)
        refine lv_iconst (v := 0) hx hb dX7_sups_77 (by decide) ?_
        refine lv_istore_n (lv' := [(3, .int 0), (0, .ref (gAd G 0)), (2, .int v2)]) hx hb dX7_sups_78 rfl hl (by decide) rfl (fun ls hl => ?_)
        refine lv_aload_n hx hb dX7_sups_79 rfl (lv_at hl 1 rfl) ?_
        refine r_get (C := RX7) (T := TX7) (N := 43) S hK hw (kM_0 hG).1 (kM_0 hG).2 rfl hinX7 5 (by decide) rfl (hts (.fieldLink RX7 19 "SoupByRankModel" "heat" "I") (by decide +kernel)) rfl dX7_sups_80 ?_
        refine lv_istore (lv' := [(4, .int (s_33 0 5)), (3, .int 0), (0, .ref (gAd G 0)), (2, .int v2)]) hx hb dX7_sups_83 hl (by decide) rfl (fun ls hl => ?_)
        refine lv_iconst (v := 0) hx hb dX7_sups_85 (by decide) ?_
        refine lv_istore (lv' := [(5, .int 0), (4, .int (s_33 0 5)), (3, .int 0), (0, .ref (gAd G 0)), (2, .int v2)]) hx hb dX7_sups_86 hl (by decide) rfl (fun ls hl => ?_)
        exact L88 v2 F _ _ _ _ _ _ _ hg hw (lv_sub hl [3, 4, 2, 1, 0] rfl)
      · have hg := it_n hg c_24
        refine lv_aload_n hx hb dX7_sups_14 rfl (lv_at hl 0 rfl) ?_
        refine r_getr (C := RX7) (T := TX7) (N := 43) (k' := 19) S hK hw (kM_0 hG).1 (kM_0 hG).2 rfl hinX7 32 (by decide) (o := 19) rfl rfl (hts (.fieldLink RX7 68 "SoupByRankModel" "beginsOf" "[I") (by decide +kernel)) rfl dX7_sups_15 ?_
        refine lv_iload_n hx hb dX7_sups_18 rfl (lv_at hl 2 rfl) ?_
        refine lv_iconst (v := (-1)) hx hb dX7_sups_19 (by decide) ?_
        obtain ⟨h_36, s_35, e_37, hg⟩ := wrA_e hg
        refine r_iast S hK hw (kM_19 hG).1 (kM_19 hG).2 h_36 e_37 dX7_sups_20 (fun H locs hw => ?_)
        refine lv_aload_n hx hb dX7_sups_21 rfl (lv_at hl 0 rfl) ?_
        refine r_getr (C := RX7) (T := TX7) (N := 43) (k' := 20) S hK hw (kM_0 hG).1 (kM_0 hG).2 rfl hinX7 33 (by decide) (o := 20) rfl rfl (hts (.fieldLink RX7 71 "SoupByRankModel" "getsOf" "[I") (by decide +kernel)) rfl dX7_sups_22 ?_
        refine lv_iload_n hx hb dX7_sups_25 rfl (lv_at hl 2 rfl) ?_
        refine lv_iconst (v := (-1)) hx hb dX7_sups_26 (by decide) ?_
        obtain ⟨h_39, s_38, e_40, hg⟩ := wrA_e hg
        refine r_iast S hK hw (kM_20 hG).1 (kM_20 hG).2 h_39 e_40 dX7_sups_27 (fun H locs hw => ?_)
        refine lv_aload_n hx hb dX7_sups_28 rfl (lv_at hl 0 rfl) ?_
        refine r_getr (C := RX7) (T := TX7) (N := 43) (k' := 21) S hK hw (kM_0 hG).1 (kM_0 hG).2 rfl hinX7 34 (by decide) (o := 21) rfl rfl (hts (.fieldLink RX7 74 "SoupByRankModel" "offOf" "[I") (by decide +kernel)) rfl dX7_sups_29 ?_
        refine lv_iload_n hx hb dX7_sups_32 rfl (lv_at hl 2 rfl) ?_
        refine lv_sipush (v := (-6000)) hx hb dX7_sups_33 (by decide) ?_
        obtain ⟨h_42, s_41, e_43, hg⟩ := wrA_e hg
        refine r_iast S hK hw (kM_21 hG).1 (kM_21 hG).2 h_42 e_43 dX7_sups_36 (fun H locs hw => ?_)
        refine lv_aload_n hx hb dX7_sups_37 rfl (lv_at hl 0 rfl) ?_
        refine r_getr (C := RX7) (T := TX7) (N := 43) (k' := 22) S hK hw (kM_0 hG).1 (kM_0 hG).2 rfl hinX7 35 (by decide) (o := 22) rfl rfl (hts (.fieldLink RX7 77 "SoupByRankModel" "mind" "[I") (by decide +kernel)) rfl dX7_sups_38 ?_
        refine lv_iload_n hx hb dX7_sups_41 rfl (lv_at hl 2 rfl) ?_
        refine lv_sipush (v := (-6000)) hx hb dX7_sups_42 (by decide) ?_
        obtain ⟨h_45, s_44, e_46, hg⟩ := wrA_e hg
        refine r_iast S hK hw (kM_22 hG).1 (kM_22 hG).2 h_45 e_46 dX7_sups_45 (fun H locs hw => ?_)
        refine lv_iinc (v := (v3 + 1)) (lv' := [(3, .int (v3 + 1)), (0, .ref (gAd G 0)), (2, .int v2)]) hx hb dX7_sups_46 hl (k := 2) rfl rfl (by decide) rfl (fun ls hl => ?_)
        refine lv_goto (tgt := 8) hx hb dX7_sups_49 (by decide) ?_
        exact ih8 _ _ _ _ _ hg hw (lv_sub hl [1, 2, 0] rfl)
  rw [g_X7_sups] at hg
  refine lv_aload_n hx hb dX7_sups_0 rfl (lv_at hl 0 rfl) ?_
  refine lv_iload_n hx hb dX7_sups_1 rfl (lv_at hl 1 rfl) ?_
  obtain ⟨s_47, x_48, h_49, hg⟩ := bnI_e hg
  refine r_iV (As := [.int a1]) (rest := []) S hA hK hw (c_X7_standsDown l hG  h_49) (cwV 1 hts gX7_sups_X7_standsDown rfl rfl rfl (by decide +kernel) ⟨Nat.le_of_ble_eq_true rfl, Nat.le_of_ble_eq_true rfl⟩) (r_recv hK hw (kM_0 hG).1 (kM_0 hG).2 rfl) rfl hl.1 (Nat.le_of_ble_eq_true rfl) dX7_sups_2 ⟨Nat.zero_le _, Nat.zero_le _⟩ rfl (fun H locs hw => ?_)
  refine lv_istore_n (lv' := [(2, .int x_48), (0, .ref (gAd G 0)), (1, .int a1)]) hx hb dX7_sups_5 rfl hl (by decide) rfl (fun ls hl => ?_)
  refine lv_iconst (v := 0) hx hb dX7_sups_6 (by decide) ?_
  refine lv_istore_n (lv' := [(3, .int 0), (2, .int x_48), (0, .ref (gAd G 0)), (1, .int a1)]) hx hb dX7_sups_7 rfl hl (by decide) rfl (fun ls hl => ?_)
  exact L8 x_48 F _ _ _ _ _ hg hw (lv_sub hl [2, 1, 0] rfl)
set_option maxHeartbeats 4000000 in
set_option maxRecDepth 100000 in
theorem c_X7_told (l : Launch) {G : GW} (hG : isM G) {F sz : Nat} {a1 : Int32} {a2 : Int32} {σ σR : Sg} {r : Int32} (hg : g_X7_told F a1 a2 σ = some (σR, r)) : Met l yX7_told wsX7_told ({ frames := 6, cells := 0, slots := 0, locals := 148 } : Room) (va_Pc [.ref (gAd G 0), .int a1, .int a2] (PX G σ sz)) (QcI G (gA G sz) σR r) 0 0 (gA G sz) := by
  refine metX (by decide) rfl (Nat.le_of_ble_eq_true rfl) ?_
  intro p e s m args below meth c ls S hr hlk hsz hA hK hw hl hmn
  have S : CallFix p m c cX7_told 3 s args wsX7_told RX7 := S
  obtain ⟨hx, hb, hml, hown, hts⟩ := id S
  have hl : lv_has ls 3 [(0, .ref (gAd G 0)), (1, .int a1), (2, .int a2)] := hl
  have hinX7 : ∀ w ∈ wsX70, w ∈ wsX7_told := by decide +kernel
  have J80 : ∀ (v1 : Int32) (v2 : Int32) (σ : Sg) (H : Heap) (locs : List Loc) (ls : Array Slot) (hg : g_X7_told_b80 F v1 v2 σ = some (σR, r)) (hw : XD G (gA G sz) s.heap σ H locs) (hl : lv_has ls 3 [(0, .ref (gAd G 0)), (1, .int v1), (2, .int v2)]), W p l e (headSpec wsX7_told ({ frames := 6, cells := 0, slots := 0, locals := 148 } : Room)).room s m args below meth c H locs 0 0 (MQ below (QcI G (gA G sz) σR r) args s 0 0 (gA G sz)) (F0 m 80 ls []) := by
    intro v1 v2 σ H locs ls hg hw hl
    rw [g_X7_told_b80] at hg
    refine lv_aload_n hx hb dX7_told_80 rfl (lv_at hl 0 rfl) ?_
    refine r_getr (C := RX7) (T := TX7) (N := 43) (k' := 3) S hK hw (kM_0 hG).1 (kM_0 hG).2 rfl hinX7 3 (by decide) (o := 3) rfl rfl (hts (.fieldLink RX7 16 "SoupByRankModel" "rows" "[I") (by decide +kernel)) rfl dX7_told_81 ?_
    refine lv_iconst (v := 2) hx hb dX7_told_84 (by decide) ?_
    refine lv_iload_n hx hb dX7_told_85 rfl (lv_at hl 1 rfl) ?_
    refine lv_imul hx hb dX7_told_86 ?_
    refine lv_iload_n hx hb dX7_told_87 rfl (lv_at hl 2 rfl) ?_
    refine lv_iadd hx hb dX7_told_88 ?_
    obtain ⟨h_2, x_1, e_3, hg⟩ := rdA_e hg
    refine r_iald S hK hw (kM_3 hG).1 (kM_3 hG).2 h_2 e_3 dX7_told_89 ?_
    exact r_ireti S hr hlk hw.2.2.2.2 hw hg dX7_told_90
  rw [g_X7_told] at hg
  refine lv_aload_n hx hb dX7_told_0 rfl (lv_at hl 0 rfl) ?_
  refine lv_iload_n hx hb dX7_told_1 rfl (lv_at hl 1 rfl) ?_
  obtain ⟨s_4, x_5, h_6, hg⟩ := bnI_e hg
  refine r_iV (As := [.int a1]) (rest := []) S hA hK hw (c_X7_isOne l hG  h_6) (cwV 1 hts gX7_told_X7_isOne rfl rfl rfl (by decide +kernel) ⟨Nat.le_of_ble_eq_true rfl, Nat.le_of_ble_eq_true rfl⟩) (r_recv hK hw (kM_0 hG).1 (kM_0 hG).2 rfl) rfl hl.1 (Nat.le_of_ble_eq_true rfl) dX7_told_2 ⟨Nat.zero_le _, Nat.zero_le _⟩ rfl (fun H locs hw => ?_)
  refine lv_if_ne (tgt := 12) hx hb dX7_told_5 (by decide) (fun c_7 => ?_) (fun c_7 => ?_)
  · have hg := it_n hg c_7
    refine lv_iload_n hx hb dX7_told_12 rfl (lv_at hl 2 rfl) ?_
    refine lv_iconst (v := 0) hx hb dX7_told_13 (by decide) ?_
    refine lv_bipush (v := 8) hx hb dX7_told_14 (by decide) ?_
    obtain ⟨s_8, x_9, h_10, hg⟩ := bnI_e hg
    refine r_iS (As := [.int a2, .int 0, .int 8]) (rest := []) S hA hK hw (c_X7_in l hG  h_10) (va_cwS 3 hts gX7_told_X7_in rfl rfl rfl (by decide +kernel) ⟨Nat.le_of_ble_eq_true rfl, Nat.le_of_ble_eq_true rfl⟩) rfl hl.1 (Nat.le_of_ble_eq_true rfl) dX7_told_16 ⟨Nat.zero_le _, Nat.zero_le _⟩ rfl (fun H locs hw => ?_)
    refine lv_if_ne (tgt := 26) hx hb dX7_told_19 (by decide) (fun c_11 => ?_) (fun c_11 => ?_)
    · have hg := it_n hg c_11
      refine lv_aload_n hx hb dX7_told_26 rfl (lv_at hl 0 rfl) ?_
      refine lv_iconst (v := (-1)) hx hb dX7_told_27 (by decide) ?_
      obtain ⟨s_12, h_14, hg⟩ := bnV_e hg
      refine r_vV (As := [.int (-1)]) (rest := []) S hA hK hw (c_X7_sups l hG  h_14) (cwV 1 hts gX7_told_X7_sups rfl rfl rfl (by decide +kernel) ⟨Nat.le_of_ble_eq_true rfl, Nat.le_of_ble_eq_true rfl⟩) (r_recv hK hw (kM_0 hG).1 (kM_0 hG).2 rfl) rfl hl.1 (Nat.le_of_ble_eq_true rfl) dX7_told_28 ⟨Nat.zero_le _, Nat.zero_le _⟩ rfl (fun H locs hw => ?_)
      refine lv_iload_n hx hb dX7_told_31 rfl (lv_at hl 2 rfl) ?_
      by_cases c_15 : a2 = 0
      · have hg := it_p hg c_15
        refine lv_tableIn (tgt := 80) hx hb dX7_told_32 (by rw [c_15]; decide) (by rw [c_15]; decide) (off := 48) (by rw [c_15]; rfl) (by decide) ?_
        exact J80 a1 a2 _ _ _ _ hg hw (lv_sub hl [0, 1, 2] rfl)
      have hg := it_n hg c_15
      by_cases c_16 : a2 = 1
      · have hg := it_p hg c_16
        refine lv_tableIn (tgt := 80) hx hb dX7_told_32 (by rw [c_16]; decide) (by rw [c_16]; decide) (off := 48) (by rw [c_16]; rfl) (by decide) ?_
        exact J80 a1 a2 _ _ _ _ hg hw (lv_sub hl [0, 1, 2] rfl)
      have hg := it_n hg c_16
      by_cases c_17 : a2 = 2
      · have hg := it_p hg c_17
        refine lv_tableIn (tgt := 91) hx hb dX7_told_32 (by rw [c_17]; decide) (by rw [c_17]; decide) (off := 59) (by rw [c_17]; rfl) (by decide) ?_
        refine lv_aload_n hx hb dX7_told_91 rfl (lv_at hl 0 rfl) ?_
        refine r_getr (C := RX7) (T := TX7) (N := 43) (k' := 1) S hK hw (kM_0 hG).1 (kM_0 hG).2 rfl hinX7 1 (by decide) (o := 1) rfl rfl (hts (.fieldLink RX7 7 "SoupByRankModel" "kind" "[I") (by decide +kernel)) rfl dX7_told_92 ?_
        refine lv_iload_n hx hb dX7_told_95 rfl (lv_at hl 1 rfl) ?_
        obtain ⟨h_19, x_18, e_20, hg⟩ := rdA_e hg
        refine r_iald S hK hw (kM_1 hG).1 (kM_1 hG).2 h_19 e_20 dX7_told_96 ?_
        exact r_ireti S hr hlk hw.2.2.2.2 hw hg dX7_told_97
      have hg := it_n hg c_17
      by_cases c_21 : a2 = 3
      · have hg := it_p hg c_21
        refine lv_tableIn (tgt := 98) hx hb dX7_told_32 (by rw [c_21]; decide) (by rw [c_21]; decide) (off := 66) (by rw [c_21]; rfl) (by decide) ?_
        refine lv_aload_n hx hb dX7_told_98 rfl (lv_at hl 0 rfl) ?_
        refine r_getr (C := RX7) (T := TX7) (N := 43) (k' := 2) S hK hw (kM_0 hG).1 (kM_0 hG).2 rfl hinX7 2 (by decide) (o := 2) rfl rfl (hts (.fieldLink RX7 13 "SoupByRankModel" "moreOf" "[I") (by decide +kernel)) rfl dX7_told_99 ?_
        refine lv_iload_n hx hb dX7_told_102 rfl (lv_at hl 1 rfl) ?_
        obtain ⟨h_23, x_22, e_24, hg⟩ := rdA_e hg
        refine r_iald S hK hw (kM_2 hG).1 (kM_2 hG).2 h_23 e_24 dX7_told_103 ?_
        exact r_ireti S hr hlk hw.2.2.2.2 hw hg dX7_told_104
      have hg := it_n hg c_21
      by_cases c_25 : a2 = 4
      · have hg := it_p hg c_25
        refine lv_tableIn (tgt := 105) hx hb dX7_told_32 (by rw [c_25]; decide) (by rw [c_25]; decide) (off := 73) (by rw [c_25]; rfl) (by decide) ?_
        refine lv_aload_n hx hb dX7_told_105 rfl (lv_at hl 0 rfl) ?_
        refine r_getr (C := RX7) (T := TX7) (N := 43) (k' := 18) S hK hw (kM_0 hG).1 (kM_0 hG).2 rfl hinX7 31 (by decide) (o := 18) rfl rfl (hts (.fieldLink RX7 65 "SoupByRankModel" "downOf" "[I") (by decide +kernel)) rfl dX7_told_106 ?_
        refine lv_iload_n hx hb dX7_told_109 rfl (lv_at hl 1 rfl) ?_
        obtain ⟨h_27, x_26, e_28, hg⟩ := rdA_e hg
        refine r_iald S hK hw (kM_18 hG).1 (kM_18 hG).2 h_27 e_28 dX7_told_110 ?_
        exact r_ireti S hr hlk hw.2.2.2.2 hw hg dX7_told_111
      have hg := it_n hg c_25
      by_cases c_29 : a2 = 5
      · have hg := it_p hg c_29
        refine lv_tableIn (tgt := 112) hx hb dX7_told_32 (by rw [c_29]; decide) (by rw [c_29]; decide) (off := 80) (by rw [c_29]; rfl) (by decide) ?_
        refine lv_aload_n hx hb dX7_told_112 rfl (lv_at hl 0 rfl) ?_
        refine r_getr (C := RX7) (T := TX7) (N := 43) (k' := 19) S hK hw (kM_0 hG).1 (kM_0 hG).2 rfl hinX7 32 (by decide) (o := 19) rfl rfl (hts (.fieldLink RX7 68 "SoupByRankModel" "beginsOf" "[I") (by decide +kernel)) rfl dX7_told_113 ?_
        refine lv_iload_n hx hb dX7_told_116 rfl (lv_at hl 1 rfl) ?_
        obtain ⟨h_31, x_30, e_32, hg⟩ := rdA_e hg
        refine r_iald S hK hw (kM_19 hG).1 (kM_19 hG).2 h_31 e_32 dX7_told_117 ?_
        exact r_ireti S hr hlk hw.2.2.2.2 hw hg dX7_told_118
      have hg := it_n hg c_29
      by_cases c_33 : a2 = 6
      · have hg := it_p hg c_33
        refine lv_tableIn (tgt := 119) hx hb dX7_told_32 (by rw [c_33]; decide) (by rw [c_33]; decide) (off := 87) (by rw [c_33]; rfl) (by decide) ?_
        refine lv_aload_n hx hb dX7_told_119 rfl (lv_at hl 0 rfl) ?_
        refine r_getr (C := RX7) (T := TX7) (N := 43) (k' := 20) S hK hw (kM_0 hG).1 (kM_0 hG).2 rfl hinX7 33 (by decide) (o := 20) rfl rfl (hts (.fieldLink RX7 71 "SoupByRankModel" "getsOf" "[I") (by decide +kernel)) rfl dX7_told_120 ?_
        refine lv_iload_n hx hb dX7_told_123 rfl (lv_at hl 1 rfl) ?_
        obtain ⟨h_35, x_34, e_36, hg⟩ := rdA_e hg
        refine r_iald S hK hw (kM_20 hG).1 (kM_20 hG).2 h_35 e_36 dX7_told_124 ?_
        exact r_ireti S hr hlk hw.2.2.2.2 hw hg dX7_told_125
      have hg := it_n hg c_33
      by_cases c_37 : a2 = 7
      · have hg := it_p hg c_37
        refine lv_tableIn (tgt := 126) hx hb dX7_told_32 (by rw [c_37]; decide) (by rw [c_37]; decide) (off := 94) (by rw [c_37]; rfl) (by decide) ?_
        refine lv_aload_n hx hb dX7_told_126 rfl (lv_at hl 0 rfl) ?_
        refine r_getr (C := RX7) (T := TX7) (N := 43) (k' := 21) S hK hw (kM_0 hG).1 (kM_0 hG).2 rfl hinX7 34 (by decide) (o := 21) rfl rfl (hts (.fieldLink RX7 74 "SoupByRankModel" "offOf" "[I") (by decide +kernel)) rfl dX7_told_127 ?_
        refine lv_iload_n hx hb dX7_told_130 rfl (lv_at hl 1 rfl) ?_
        obtain ⟨h_39, x_38, e_40, hg⟩ := rdA_e hg
        refine r_iald S hK hw (kM_21 hG).1 (kM_21 hG).2 h_39 e_40 dX7_told_131 ?_
        exact r_ireti S hr hlk hw.2.2.2.2 hw hg dX7_told_132
      have hg := it_n hg c_37
      have hsw := tb_out (lo := 0) (hi := 7) (x := a2) (fun n h1 h2 => by rcases (show n = 0 ∨ n = 1 ∨ n = 2 ∨ n = 3 ∨ n = 4 ∨ n = 5 ∨ n = 6 ∨ n = 7 by omega) with rfl | rfl | rfl | rfl | rfl | rfl | rfl | rfl; exact lv_neT c_15 (by decide); exact lv_neT c_16 (by decide); exact lv_neT c_17 (by decide); exact lv_neT c_21 (by decide); exact lv_neT c_25 (by decide); exact lv_neT c_29 (by decide); exact lv_neT c_33 (by decide); exact lv_neT c_37 (by decide))
      refine lv_tableOut (tgt := 133) hx hb dX7_told_32 hsw (by decide) ?_
      refine lv_aload_n hx hb dX7_told_133 rfl (lv_at hl 0 rfl) ?_
      refine r_getr (C := RX7) (T := TX7) (N := 43) (k' := 22) S hK hw (kM_0 hG).1 (kM_0 hG).2 rfl hinX7 35 (by decide) (o := 22) rfl rfl (hts (.fieldLink RX7 77 "SoupByRankModel" "mind" "[I") (by decide +kernel)) rfl dX7_told_134 ?_
      refine lv_iload_n hx hb dX7_told_137 rfl (lv_at hl 1 rfl) ?_
      obtain ⟨h_42, x_41, e_43, hg⟩ := rdA_e hg
      refine r_iald S hK hw (kM_22 hG).1 (kM_22 hG).2 h_42 e_43 dX7_told_138 ?_
      exact r_ireti S hr hlk hw.2.2.2.2 hw hg dX7_told_139
    · have hg := it_p hg c_11
      refine lv_sipush (v := (-7000)) hx hb dX7_told_22 (by decide) ?_
      exact r_ireti S hr hlk hw.2.2.2.2 hw hg dX7_told_25
  · have hg := it_p hg c_7
    refine lv_sipush (v := (-5000)) hx hb dX7_told_8 (by decide) ?_
    exact r_ireti S hr hlk hw.2.2.2.2 hw hg dX7_told_11
set_option maxHeartbeats 4000000 in
set_option maxRecDepth 100000 in
theorem c_X7_neverSet (l : Launch) {G : GW} (hG : isM G) {F sz : Nat} {σ σR : Sg} {r : Int32} (hg : g_X7_neverSet F σ = some (σR, r)) : Met l yX7_neverSet wsX7_neverSet ({ frames := 0, cells := 0, slots := 0, locals := 0 } : Room) (va_Pc [.ref (gAd G 0)] (PX G σ sz)) (QcI G (gA G sz) σR r) 0 0 (gA G sz) := by
  refine metX (by decide) rfl (Nat.le_of_ble_eq_true rfl) ?_
  intro p e s m args below meth c ls S hr hlk hsz hA hK hw hl hmn
  have S : CallFix p m c cX7_neverSet 3 s args wsX7_neverSet RX7 := S
  obtain ⟨hx, hb, hml, hown, hts⟩ := id S
  have hl : lv_has ls 3 [(0, .ref (gAd G 0))] := hl
  have hinX7 : ∀ w ∈ wsX70, w ∈ wsX7_neverSet := by decide +kernel
  have L4 : ∀ (n4 : Nat) (v1 : Int32) (v2 : Int32) (σ : Sg) (H : Heap) (locs : List Loc) (ls : Array Slot) (hg : g_X7_neverSet_l4 F n4 v1 v2 σ = some (σR, r)) (hw : XD G (gA G sz) s.heap σ H locs) (hl : lv_has ls 3 [(0, .ref (gAd G 0)), (1, .int v1), (2, .int v2)]), W p l e (headSpec wsX7_neverSet ({ frames := 0, cells := 0, slots := 0, locals := 0 } : Room)).room s m args below meth c H locs 0 0 (MQ below (QcI G (gA G sz) σR r) args s 0 0 (gA G sz)) (F0 m 4 ls []) := by
    intro n4
    induction n4 with
    | zero => intro v1 v2 σ H locs ls hg hw hl; exact no_e hg
    | succ n4 ih4 =>
      have J30 : ∀ (v2 : Int32) (u0 : Int32) (u1 : Int32) (σ : Sg) (H : Heap) (locs : List Loc) (ls : Array Slot) (hg : g_X7_neverSet_b30 F (fun v1_ v2_ σ_ => g_X7_neverSet_l4 F n4 v1_ v2_ σ_) v2 u0 u1 σ = some (σR, r)) (hw : XD G (gA G sz) s.heap σ H locs) (hl : lv_has ls 3 [(0, .ref (gAd G 0)), (2, .int v2)]), W p l e (headSpec wsX7_neverSet ({ frames := 0, cells := 0, slots := 0, locals := 0 } : Room)).room s m args below meth c H locs 0 0 (MQ below (QcI G (gA G sz) σR r) args s 0 0 (gA G sz)) (F0 m 30 ls [.int u0, .int u1]) := by
        intro v2 u0 u1 σ H locs ls hg hw hl
        rw [g_X7_neverSet_b30] at hg
        refine lv_ior hx hb dX7_neverSet_30 ?_
        refine lv_istore_n (lv' := [(1, .int (u1 ||| u0)), (0, .ref (gAd G 0)), (2, .int v2)]) hx hb dX7_neverSet_31 rfl hl (by decide) rfl (fun ls hl => ?_)
        refine lv_iinc (v := (v2 + 1)) (lv' := [(2, .int (v2 + 1)), (1, .int (u1 ||| u0)), (0, .ref (gAd G 0))]) hx hb dX7_neverSet_32 hl (k := 2) rfl rfl (by decide) rfl (fun ls hl => ?_)
        refine lv_goto (tgt := 4) hx hb dX7_neverSet_35 (by decide) ?_
        exact ih4 _ _ _ _ _ _ hg hw (lv_sub hl [2, 1, 0] rfl)
      intro v1 v2 σ H locs ls hg hw hl
      rw [g_X7_neverSet_l4] at hg
      refine lv_iload_n hx hb dX7_neverSet_4 rfl (lv_at hl 2 rfl) ?_
      refine lv_aload_n hx hb dX7_neverSet_5 rfl (lv_at hl 0 rfl) ?_
      refine r_get (C := RX7) (T := TX7) (N := 43) S hK hw (kM_0 hG).1 (kM_0 hG).2 rfl hinX7 0 (by decide) rfl (hts (.fieldLink RX7 90 "SoupByRankModel" "courtiers" "I") (by decide +kernel)) rfl dX7_neverSet_6 ?_
      refine lv_icmp_ge (tgt := 38) hx hb dX7_neverSet_9 (by decide) (fun c_1 => ?_) (fun c_1 => ?_)
      · have hg := it_p hg c_1
        refine lv_iload_n hx hb dX7_neverSet_38 rfl (lv_at hl 1 rfl) ?_
        exact r_ireti S hr hlk hw.2.2.2.2 hw hg dX7_neverSet_39
      · have hg := it_n hg c_1
        refine lv_iload_n hx hb dX7_neverSet_12 rfl (lv_at hl 1 rfl) ?_
        refine lv_aload_n hx hb dX7_neverSet_13 rfl (lv_at hl 0 rfl) ?_
        refine r_getr (C := RX7) (T := TX7) (N := 43) (k' := 19) S hK hw (kM_0 hG).1 (kM_0 hG).2 rfl hinX7 32 (by decide) (o := 19) rfl rfl (hts (.fieldLink RX7 68 "SoupByRankModel" "beginsOf" "[I") (by decide +kernel)) rfl dX7_neverSet_14 ?_
        refine lv_iload_n hx hb dX7_neverSet_17 rfl (lv_at hl 2 rfl) ?_
        obtain ⟨h_3, x_2, e_4, hg⟩ := rdA_e hg
        refine r_iald S hK hw (kM_19 hG).1 (kM_19 hG).2 h_3 e_4 dX7_neverSet_18 ?_
        refine lv_iconst (v := (-1)) hx hb dX7_neverSet_19 (by decide) ?_
        refine lv_icmp_ne (tgt := 29) hx hb dX7_neverSet_20 (by decide) (fun c_5 => ?_) (fun c_5 => ?_)
        · have hg := it_n hg c_5
          refine lv_iconst (v := 0) hx hb dX7_neverSet_29 (by decide) ?_
          exact J30 v2 0 v1 _ _ _ _ hg hw (lv_sub hl [0, 2] rfl)
        · have hg := it_p hg c_5
          refine lv_iconst (v := 1) hx hb dX7_neverSet_23 (by decide) ?_
          refine lv_iload_n hx hb dX7_neverSet_24 rfl (lv_at hl 2 rfl) ?_
          refine lv_ishl hx hb dX7_neverSet_25 ?_
          refine lv_goto (tgt := 30) hx hb dX7_neverSet_26 (by decide) ?_
          exact J30 v2 ((1 : Int32) <<< (v2 &&& 31)) v1 _ _ _ _ hg hw (lv_sub hl [0, 2] rfl)
  rw [g_X7_neverSet] at hg
  refine lv_iconst (v := 0) hx hb dX7_neverSet_0 (by decide) ?_
  refine lv_istore_n (lv' := [(1, .int 0), (0, .ref (gAd G 0))]) hx hb dX7_neverSet_1 rfl hl (by decide) rfl (fun ls hl => ?_)
  refine lv_iconst (v := 0) hx hb dX7_neverSet_2 (by decide) ?_
  refine lv_istore_n (lv' := [(2, .int 0), (1, .int 0), (0, .ref (gAd G 0))]) hx hb dX7_neverSet_3 rfl hl (by decide) rfl (fun ls hl => ?_)
  exact L4 F _ _ _ _ _ _ hg hw (lv_sub hl [2, 1, 0] rfl)
set_option maxHeartbeats 4000000 in
set_option maxRecDepth 100000 in
theorem c_X7_mindsMost (l : Launch) {G : GW} (hG : isM G) {F sz : Nat} {σ σR : Sg} {r : Int32} (hg : g_X7_mindsMost F σ = some (σR, r)) : Met l yX7_mindsMost wsX7_mindsMost ({ frames := 0, cells := 0, slots := 0, locals := 0 } : Room) (va_Pc [.ref (gAd G 0)] (PX G σ sz)) (QcI G (gA G sz) σR r) 0 0 (gA G sz) := by
  refine metX (by decide) rfl (Nat.le_of_ble_eq_true rfl) ?_
  intro p e s m args below meth c ls S hr hlk hsz hA hK hw hl hmn
  have S : CallFix p m c cX7_mindsMost 4 s args wsX7_mindsMost RX7 := S
  obtain ⟨hx, hb, hml, hown, hts⟩ := id S
  have hl : lv_has ls 4 [(0, .ref (gAd G 0))] := hl
  have hinX7 : ∀ w ∈ wsX70, w ∈ wsX7_mindsMost := by decide +kernel
  have L8 : ∀ (n8 : Nat) (v1 : Int32) (v2 : Int32) (v3 : Int32) (σ : Sg) (H : Heap) (locs : List Loc) (ls : Array Slot) (hg : g_X7_mindsMost_l8 F n8 v1 v2 v3 σ = some (σR, r)) (hw : XD G (gA G sz) s.heap σ H locs) (hl : lv_has ls 4 [(0, .ref (gAd G 0)), (1, .int v1), (2, .int v2), (3, .int v3)]), W p l e (headSpec wsX7_mindsMost ({ frames := 0, cells := 0, slots := 0, locals := 0 } : Room)).room s m args below meth c H locs 0 0 (MQ below (QcI G (gA G sz) σR r) args s 0 0 (gA G sz)) (F0 m 8 ls []) := by
    intro n8
    induction n8 with
    | zero => intro v1 v2 v3 σ H locs ls hg hw hl; exact no_e hg
    | succ n8 ih8 =>
      have J52 : ∀ (v1 : Int32) (v3 : Int32) (u0 : Int32) (σ : Sg) (H : Heap) (locs : List Loc) (ls : Array Slot) (hg : g_X7_mindsMost_b52 F (fun v1_ v2_ v3_ σ_ => g_X7_mindsMost_l8 F n8 v1_ v2_ v3_ σ_) v1 v3 u0 σ = some (σR, r)) (hw : XD G (gA G sz) s.heap σ H locs) (hl : lv_has ls 4 [(0, .ref (gAd G 0)), (1, .int v1), (3, .int v3)]), W p l e (headSpec wsX7_mindsMost ({ frames := 0, cells := 0, slots := 0, locals := 0 } : Room)).room s m args below meth c H locs 0 0 (MQ below (QcI G (gA G sz) σR r) args s 0 0 (gA G sz)) (F0 m 52 ls [.int u0]) := by
        intro v1 v3 u0 σ H locs ls hg hw hl
        rw [g_X7_mindsMost_b52] at hg
        refine lv_istore_n (lv' := [(2, .int u0), (0, .ref (gAd G 0)), (1, .int v1), (3, .int v3)]) hx hb dX7_mindsMost_52 rfl hl (by decide) rfl (fun ls hl => ?_)
        refine lv_iinc (v := (v3 + 1)) (lv' := [(3, .int (v3 + 1)), (2, .int u0), (0, .ref (gAd G 0)), (1, .int v1)]) hx hb dX7_mindsMost_53 hl (k := 3) rfl rfl (by decide) rfl (fun ls hl => ?_)
        refine lv_goto (tgt := 8) hx hb dX7_mindsMost_56 (by decide) ?_
        exact ih8 _ _ _ _ _ _ _ hg hw (lv_sub hl [2, 3, 1, 0] rfl)
      have J31 : ∀ (v2 : Int32) (v3 : Int32) (u0 : Int32) (σ : Sg) (H : Heap) (locs : List Loc) (ls : Array Slot) (hg : g_X7_mindsMost_b31 F (fun v1_ v2_ v3_ σ_ => g_X7_mindsMost_l8 F n8 v1_ v2_ v3_ σ_) v2 v3 u0 σ = some (σR, r)) (hw : XD G (gA G sz) s.heap σ H locs) (hl : lv_has ls 4 [(0, .ref (gAd G 0)), (2, .int v2), (3, .int v3)]), W p l e (headSpec wsX7_mindsMost ({ frames := 0, cells := 0, slots := 0, locals := 0 } : Room)).room s m args below meth c H locs 0 0 (MQ below (QcI G (gA G sz) σR r) args s 0 0 (gA G sz)) (F0 m 31 ls [.int u0]) := by
        intro v2 v3 u0 σ H locs ls hg hw hl
        rw [g_X7_mindsMost_b31] at hg
        refine lv_istore_n (lv' := [(1, .int u0), (0, .ref (gAd G 0)), (2, .int v2), (3, .int v3)]) hx hb dX7_mindsMost_31 rfl hl (by decide) rfl (fun ls hl => ?_)
        refine lv_aload_n hx hb dX7_mindsMost_32 rfl (lv_at hl 1 rfl) ?_
        refine r_getr (C := RX7) (T := TX7) (N := 43) (k' := 22) S hK hw (kM_0 hG).1 (kM_0 hG).2 rfl hinX7 35 (by decide) (o := 22) rfl rfl (hts (.fieldLink RX7 77 "SoupByRankModel" "mind" "[I") (by decide +kernel)) rfl dX7_mindsMost_33 ?_
        refine lv_iload_n hx hb dX7_mindsMost_36 rfl (lv_at hl 3 rfl) ?_
        obtain ⟨h_2, x_1, e_3, hg⟩ := rdA_e hg
        refine r_iald S hK hw (kM_22 hG).1 (kM_22 hG).2 h_2 e_3 dX7_mindsMost_37 ?_
        refine lv_iload_n hx hb dX7_mindsMost_38 rfl (lv_at hl 2 rfl) ?_
        refine lv_icmp_le (tgt := 51) hx hb dX7_mindsMost_39 (by decide) (fun c_4 => ?_) (fun c_4 => ?_)
        · have hg := it_p hg c_4
          refine lv_iload_n hx hb dX7_mindsMost_51 rfl (lv_at hl 2 rfl) ?_
          exact J52 u0 v3 v2 _ _ _ _ hg hw (lv_sub hl [1, 0, 3] rfl)
        · have hg := it_n hg c_4
          refine lv_aload_n hx hb dX7_mindsMost_42 rfl (lv_at hl 1 rfl) ?_
          refine r_getr (C := RX7) (T := TX7) (N := 43) (k' := 22) S hK hw (kM_0 hG).1 (kM_0 hG).2 rfl hinX7 35 (by decide) (o := 22) rfl rfl (hts (.fieldLink RX7 77 "SoupByRankModel" "mind" "[I") (by decide +kernel)) rfl dX7_mindsMost_43 ?_
          refine lv_iload_n hx hb dX7_mindsMost_46 rfl (lv_at hl 3 rfl) ?_
          obtain ⟨h_6, x_5, e_7, hg⟩ := rdA_e hg
          refine r_iald S hK hw (kM_22 hG).1 (kM_22 hG).2 h_6 e_7 dX7_mindsMost_47 ?_
          refine lv_goto (tgt := 52) hx hb dX7_mindsMost_48 (by decide) ?_
          exact J52 u0 v3 x_5 _ _ _ _ hg hw (lv_sub hl [1, 0, 3] rfl)
      intro v1 v2 v3 σ H locs ls hg hw hl
      rw [g_X7_mindsMost_l8] at hg
      refine lv_iload_n hx hb dX7_mindsMost_8 rfl (lv_at hl 3 rfl) ?_
      refine lv_aload_n hx hb dX7_mindsMost_9 rfl (lv_at hl 0 rfl) ?_
      refine r_get (C := RX7) (T := TX7) (N := 43) S hK hw (kM_0 hG).1 (kM_0 hG).2 rfl hinX7 0 (by decide) rfl (hts (.fieldLink RX7 90 "SoupByRankModel" "courtiers" "I") (by decide +kernel)) rfl dX7_mindsMost_10 ?_
      refine lv_icmp_ge (tgt := 59) hx hb dX7_mindsMost_13 (by decide) (fun c_8 => ?_) (fun c_8 => ?_)
      · have hg := it_p hg c_8
        refine lv_iload_n hx hb dX7_mindsMost_59 rfl (lv_at hl 1 rfl) ?_
        exact r_ireti S hr hlk hw.2.2.2.2 hw hg dX7_mindsMost_60
      · have hg := it_n hg c_8
        refine lv_aload_n hx hb dX7_mindsMost_16 rfl (lv_at hl 0 rfl) ?_
        refine r_getr (C := RX7) (T := TX7) (N := 43) (k' := 22) S hK hw (kM_0 hG).1 (kM_0 hG).2 rfl hinX7 35 (by decide) (o := 22) rfl rfl (hts (.fieldLink RX7 77 "SoupByRankModel" "mind" "[I") (by decide +kernel)) rfl dX7_mindsMost_17 ?_
        refine lv_iload_n hx hb dX7_mindsMost_20 rfl (lv_at hl 3 rfl) ?_
        obtain ⟨h_10, x_9, e_11, hg⟩ := rdA_e hg
        refine r_iald S hK hw (kM_22 hG).1 (kM_22 hG).2 h_10 e_11 dX7_mindsMost_21 ?_
        refine lv_iload_n hx hb dX7_mindsMost_22 rfl (lv_at hl 2 rfl) ?_
        refine lv_icmp_le (tgt := 30) hx hb dX7_mindsMost_23 (by decide) (fun c_12 => ?_) (fun c_12 => ?_)
        · have hg := it_p hg c_12
          refine lv_iload_n hx hb dX7_mindsMost_30 rfl (lv_at hl 1 rfl) ?_
          exact J31 v2 v3 v1 _ _ _ _ hg hw (lv_sub hl [0, 2, 3] rfl)
        · have hg := it_n hg c_12
          refine lv_iload_n hx hb dX7_mindsMost_26 rfl (lv_at hl 3 rfl) ?_
          refine lv_goto (tgt := 31) hx hb dX7_mindsMost_27 (by decide) ?_
          exact J31 v2 v3 v3 _ _ _ _ hg hw (lv_sub hl [0, 2, 3] rfl)
  rw [g_X7_mindsMost] at hg
  refine lv_iconst (v := (-1)) hx hb dX7_mindsMost_0 (by decide) ?_
  refine lv_istore_n (lv' := [(1, .int (-1)), (0, .ref (gAd G 0))]) hx hb dX7_mindsMost_1 rfl hl (by decide) rfl (fun ls hl => ?_)
  refine lv_sipush (v := (-6000)) hx hb dX7_mindsMost_2 (by decide) ?_
  refine lv_istore_n (lv' := [(2, .int (-6000)), (1, .int (-1)), (0, .ref (gAd G 0))]) hx hb dX7_mindsMost_5 rfl hl (by decide) rfl (fun ls hl => ?_)
  refine lv_iconst (v := 0) hx hb dX7_mindsMost_6 (by decide) ?_
  refine lv_istore_n (lv' := [(3, .int 0), (2, .int (-6000)), (1, .int (-1)), (0, .ref (gAd G 0))]) hx hb dX7_mindsMost_7 rfl hl (by decide) rfl (fun ls hl => ?_)
  exact L8 F _ _ _ _ _ _ _ hg hw (lv_sub hl [3, 2, 1, 0] rfl)
set_option maxHeartbeats 4000000 in
set_option maxRecDepth 100000 in
theorem c_X7_table (l : Launch) {G : GW} (hG : isM G) {F sz : Nat} {a1 : Int32} {σ σR : Sg} {r : Int32} (hg : g_X7_table F a1 σ = some (σR, r)) : Met l yX7_table wsX7_table ({ frames := 6, cells := 0, slots := 0, locals := 148 } : Room) (va_Pc [.ref (gAd G 0), .int a1] (PX G σ sz)) (QcI G (gA G sz) σR r) 0 0 (gA G sz) := by
  refine metX (by decide) rfl (Nat.le_of_ble_eq_true rfl) ?_
  intro p e s m args below meth c ls S hr hlk hsz hA hK hw hl hmn
  have S : CallFix p m c cX7_table 2 s args wsX7_table RX7 := S
  obtain ⟨hx, hb, hml, hown, hts⟩ := id S
  have hl : lv_has ls 2 [(0, .ref (gAd G 0)), (1, .int a1)] := hl
  have hinX7 : ∀ w ∈ wsX70, w ∈ wsX7_table := by decide +kernel
  rw [g_X7_table] at hg
  refine lv_iload_n hx hb dX7_table_0 rfl (lv_at hl 1 rfl) ?_
  refine lv_iconst (v := 0) hx hb dX7_table_1 (by decide) ?_
  refine lv_iconst (v := 4) hx hb dX7_table_2 (by decide) ?_
  obtain ⟨s_1, x_2, h_3, hg⟩ := bnI_e hg
  refine r_iS (As := [.int a1, .int 0, .int 4]) (rest := []) S hA hK hw (c_X7_in l hG  h_3) (va_cwS 3 hts gX7_table_X7_in rfl rfl rfl (by decide +kernel) ⟨Nat.le_of_ble_eq_true rfl, Nat.le_of_ble_eq_true rfl⟩) rfl hl.1 (Nat.le_of_ble_eq_true rfl) dX7_table_3 ⟨Nat.zero_le _, Nat.zero_le _⟩ rfl (fun H locs hw => ?_)
  refine lv_if_ne (tgt := 12) hx hb dX7_table_6 (by decide) (fun c_4 => ?_) (fun c_4 => ?_)
  · have hg := it_n hg c_4
    refine lv_aload_n hx hb dX7_table_12 rfl (lv_at hl 0 rfl) ?_
    refine lv_iconst (v := (-1)) hx hb dX7_table_13 (by decide) ?_
    obtain ⟨s_5, h_7, hg⟩ := bnV_e hg
    refine r_vV (As := [.int (-1)]) (rest := []) S hA hK hw (c_X7_sups l hG  h_7) (cwV 1 hts gX7_table_X7_sups rfl rfl rfl (by decide +kernel) ⟨Nat.le_of_ble_eq_true rfl, Nat.le_of_ble_eq_true rfl⟩) (r_recv hK hw (kM_0 hG).1 (kM_0 hG).2 rfl) rfl hl.1 (Nat.le_of_ble_eq_true rfl) dX7_table_14 ⟨Nat.zero_le _, Nat.zero_le _⟩ rfl (fun H locs hw => ?_)
    refine lv_iload_n hx hb dX7_table_17 rfl (lv_at hl 1 rfl) ?_
    by_cases c_8 : a1 = 0
    · have hg := it_p hg c_8
      refine lv_tableIn (tgt := 48) hx hb dX7_table_18 (by rw [c_8]; decide) (by rw [c_8]; decide) (off := 30) (by rw [c_8]; rfl) (by decide) ?_
      refine lv_aload_n hx hb dX7_table_48 rfl (lv_at hl 0 rfl) ?_
      refine r_get (C := RX7) (T := TX7) (N := 43) S hK hw (kM_0 hG).1 (kM_0 hG).2 rfl hinX7 36 (by decide) rfl (hts (.fieldLink RX7 194 "SoupByRankModel" "lastOne" "I") (by decide +kernel)) rfl dX7_table_49 ?_
      exact r_ireti S hr hlk hw.2.2.2.2 hw hg dX7_table_52
    have hg := it_n hg c_8
    by_cases c_9 : a1 = 1
    · have hg := it_p hg c_9
      refine lv_tableIn (tgt := 53) hx hb dX7_table_18 (by rw [c_9]; decide) (by rw [c_9]; decide) (off := 35) (by rw [c_9]; rfl) (by decide) ?_
      refine lv_aload_n hx hb dX7_table_53 rfl (lv_at hl 0 rfl) ?_
      refine r_get (C := RX7) (T := TX7) (N := 43) S hK hw (kM_0 hG).1 (kM_0 hG).2 rfl hinX7 37 (by decide) rfl (hts (.fieldLink RX7 197 "SoupByRankModel" "lastMinute" "I") (by decide +kernel)) rfl dX7_table_54 ?_
      exact r_ireti S hr hlk hw.2.2.2.2 hw hg dX7_table_57
    have hg := it_n hg c_9
    by_cases c_10 : a1 = 2
    · have hg := it_p hg c_10
      refine lv_tableIn (tgt := 58) hx hb dX7_table_18 (by rw [c_10]; decide) (by rw [c_10]; decide) (off := 40) (by rw [c_10]; rfl) (by decide) ?_
      refine lv_aload_n hx hb dX7_table_58 rfl (lv_at hl 0 rfl) ?_
      refine r_get (C := RX7) (T := TX7) (N := 43) S hK hw (kM_0 hG).1 (kM_0 hG).2 rfl hinX7 38 (by decide) rfl (hts (.fieldLink RX7 200 "SoupByRankModel" "mindsAll" "I") (by decide +kernel)) rfl dX7_table_59 ?_
      exact r_ireti S hr hlk hw.2.2.2.2 hw hg dX7_table_62
    have hg := it_n hg c_10
    by_cases c_11 : a1 = 3
    · have hg := it_p hg c_11
      refine lv_tableIn (tgt := 63) hx hb dX7_table_18 (by rw [c_11]; decide) (by rw [c_11]; decide) (off := 45) (by rw [c_11]; rfl) (by decide) ?_
      refine lv_aload_n hx hb dX7_table_63 rfl (lv_at hl 0 rfl) ?_
      obtain ⟨s_12, x_13, h_14, hg⟩ := bnI_e hg
      refine r_iV (As := []) (rest := []) S hA hK hw (c_X7_neverSet l hG  h_14) (cwV 0 hts gX7_table_X7_neverSet rfl rfl rfl (by decide +kernel) ⟨Nat.le_of_ble_eq_true rfl, Nat.le_of_ble_eq_true rfl⟩) (r_recv hK hw (kM_0 hG).1 (kM_0 hG).2 rfl) rfl hl.1 (Nat.le_of_ble_eq_true rfl) dX7_table_64 ⟨Nat.zero_le _, Nat.zero_le _⟩ rfl (fun H locs hw => ?_)
      exact r_ireti S hr hlk hw.2.2.2.2 hw hg dX7_table_67
    have hg := it_n hg c_11
    have hsw := tb_out (lo := 0) (hi := 3) (x := a1) (fun n h1 h2 => by rcases (show n = 0 ∨ n = 1 ∨ n = 2 ∨ n = 3 by omega) with rfl | rfl | rfl | rfl; exact lv_neT c_8 (by decide); exact lv_neT c_9 (by decide); exact lv_neT c_10 (by decide); exact lv_neT c_11 (by decide))
    refine lv_tableOut (tgt := 68) hx hb dX7_table_18 hsw (by decide) ?_
    refine lv_aload_n hx hb dX7_table_68 rfl (lv_at hl 0 rfl) ?_
    obtain ⟨s_15, x_16, h_17, hg⟩ := bnI_e hg
    refine r_iV (As := []) (rest := []) S hA hK hw (c_X7_mindsMost l hG  h_17) (cwV 0 hts gX7_table_X7_mindsMost rfl rfl rfl (by decide +kernel) ⟨Nat.le_of_ble_eq_true rfl, Nat.le_of_ble_eq_true rfl⟩) (r_recv hK hw (kM_0 hG).1 (kM_0 hG).2 rfl) rfl hl.1 (Nat.le_of_ble_eq_true rfl) dX7_table_69 ⟨Nat.zero_le _, Nat.zero_le _⟩ rfl (fun H locs hw => ?_)
    exact r_ireti S hr hlk hw.2.2.2.2 hw hg dX7_table_72
  · have hg := it_p hg c_4
    refine lv_ldc (v := (-100000)) hx hb hown (hts (.constant RX7 222 (-100000)) (by decide +kernel)) dX7_table_9 ?_
    exact r_ireti S hr hlk hw.2.2.2.2 hw hg dX7_table_11
set_option maxHeartbeats 4000000 in
set_option maxRecDepth 100000 in
theorem c_X7_lessFor (l : Launch) {G : GW} (hG : isM G) {F sz : Nat} {a1 : Int32} {σ σR : Sg} {r : Int32} (hg : g_X7_lessFor F a1 σ = some (σR, r)) : Met l yX7_lessFor wsX7_lessFor ({ frames := 0, cells := 0, slots := 0, locals := 0 } : Room) (va_Pc [.ref (gAd G 0), .int a1] (PX G σ sz)) (QcI G (gA G sz) σR r) 0 0 (gA G sz) := by
  refine metX (by decide) rfl (Nat.le_of_ble_eq_true rfl) ?_
  intro p e s m args below meth c ls S hr hlk hsz hA hK hw hl hmn
  have S : CallFix p m c cX7_lessFor 2 s args wsX7_lessFor RX7 := S
  obtain ⟨hx, hb, hml, hown, hts⟩ := id S
  have hl : lv_has ls 2 [(0, .ref (gAd G 0)), (1, .int a1)] := hl
  have hinX7 : ∀ w ∈ wsX70, w ∈ wsX7_lessFor := by decide +kernel
  rw [g_X7_lessFor] at hg
  refine lv_aload_n hx hb dX7_lessFor_0 rfl (lv_at hl 0 rfl) ?_
  refine r_getr (C := RX7) (T := TX7) (N := 43) (k' := 19) S hK hw (kM_0 hG).1 (kM_0 hG).2 rfl hinX7 32 (by decide) (o := 19) rfl rfl (hts (.fieldLink RX7 68 "SoupByRankModel" "beginsOf" "[I") (by decide +kernel)) rfl dX7_lessFor_1 ?_
  refine lv_iload_n hx hb dX7_lessFor_4 rfl (lv_at hl 1 rfl) ?_
  obtain ⟨h_2, x_1, e_3, hg⟩ := rdA_e hg
  refine r_iald S hK hw (kM_19 hG).1 (kM_19 hG).2 h_2 e_3 dX7_lessFor_5 ?_
  refine lv_iconst (v := (-1)) hx hb dX7_lessFor_6 (by decide) ?_
  refine lv_icmp_ne (tgt := 15) hx hb dX7_lessFor_7 (by decide) (fun c_4 => ?_) (fun c_4 => ?_)
  · have hg := it_n hg c_4
    refine lv_aload_n hx hb dX7_lessFor_15 rfl (lv_at hl 0 rfl) ?_
    refine r_getr (C := RX7) (T := TX7) (N := 43) (k' := 22) S hK hw (kM_0 hG).1 (kM_0 hG).2 rfl hinX7 35 (by decide) (o := 22) rfl rfl (hts (.fieldLink RX7 77 "SoupByRankModel" "mind" "[I") (by decide +kernel)) rfl dX7_lessFor_16 ?_
    refine lv_iload_n hx hb dX7_lessFor_19 rfl (lv_at hl 1 rfl) ?_
    obtain ⟨h_6, x_5, e_7, hg⟩ := rdA_e hg
    refine r_iald S hK hw (kM_22 hG).1 (kM_22 hG).2 h_6 e_7 dX7_lessFor_20 ?_
    exact r_ireti S hr hlk hw.2.2.2.2 hw hg dX7_lessFor_21
  · have hg := it_p hg c_4
    refine lv_bipush (v := 10) hx hb dX7_lessFor_10 (by decide) ?_
    refine lv_goto (tgt := 21) hx hb dX7_lessFor_12 (by decide) ?_
    exact r_ireti S hr hlk hw.2.2.2.2 hw hg dX7_lessFor_21
set_option maxHeartbeats 4000000 in
set_option maxRecDepth 100000 in
theorem c_X7_supsTruly (l : Launch) {G : GW} (hG : isM G) {F sz : Nat} {σ σR : Sg} {r : Int32} (hg : g_X7_supsTruly F σ = some (σR, r)) : Met l yX7_supsTruly wsX7_supsTruly ({ frames := 6, cells := 0, slots := 0, locals := 148 } : Room) (va_Pc [.ref (gAd G 0)] (PX G σ sz)) (QcI G (gA G sz) σR r) 0 0 (gA G sz) := by
  refine metX (by decide) rfl (Nat.le_of_ble_eq_true rfl) ?_
  intro p e s m args below meth c ls S hr hlk hsz hA hK hw hl hmn
  have S : CallFix p m c cX7_supsTruly 2 s args wsX7_supsTruly RX7 := S
  obtain ⟨hx, hb, hml, hown, hts⟩ := id S
  have hl : lv_has ls 2 [(0, .ref (gAd G 0))] := hl
  have hinX7 : ∀ w ∈ wsX70, w ∈ wsX7_supsTruly := by decide +kernel
  have L7 : ∀ (n7 : Nat) (v1 : Int32) (σ : Sg) (H : Heap) (locs : List Loc) (ls : Array Slot) (hg : g_X7_supsTruly_l7 F n7 v1 σ = some (σR, r)) (hw : XD G (gA G sz) s.heap σ H locs) (hl : lv_has ls 2 [(0, .ref (gAd G 0)), (1, .int v1)]), W p l e (headSpec wsX7_supsTruly ({ frames := 6, cells := 0, slots := 0, locals := 148 } : Room)).room s m args below meth c H locs 0 0 (MQ below (QcI G (gA G sz) σR r) args s 0 0 (gA G sz)) (F0 m 7 ls []) := by
    intro n7
    induction n7 with
    | zero => intro v1 σ H locs ls hg hw hl; exact no_e hg
    | succ n7 ih7 =>
      intro v1 σ H locs ls hg hw hl
      rw [g_X7_supsTruly_l7] at hg
      refine lv_iload_n hx hb dX7_supsTruly_7 rfl (lv_at hl 1 rfl) ?_
      refine lv_aload_n hx hb dX7_supsTruly_8 rfl (lv_at hl 0 rfl) ?_
      refine r_get (C := RX7) (T := TX7) (N := 43) S hK hw (kM_0 hG).1 (kM_0 hG).2 rfl hinX7 0 (by decide) rfl (hts (.fieldLink RX7 90 "SoupByRankModel" "courtiers" "I") (by decide +kernel)) rfl dX7_supsTruly_9 ?_
      refine lv_icmp_ge (tgt := 54) hx hb dX7_supsTruly_12 (by decide) (fun c_1 => ?_) (fun c_1 => ?_)
      · have hg := it_p hg c_1
        refine lv_aload_n hx hb dX7_supsTruly_54 rfl (lv_at hl 0 rfl) ?_
        refine lv_dup hx hb dX7_supsTruly_55 rfl ?_
        refine r_get (C := RX7) (T := TX7) (N := 43) S hK hw (kM_0 hG).1 (kM_0 hG).2 rfl hinX7 4 (by decide) rfl (hts (.fieldLink RX7 97 "SoupByRankModel" "suppers" "I") (by decide +kernel)) rfl dX7_supsTruly_56 ?_
        refine lv_iconst (v := 1) hx hb dX7_supsTruly_59 (by decide) ?_
        refine lv_iadd hx hb dX7_supsTruly_60 ?_
        obtain ⟨s_2, e_3, hg⟩ := wrF_e hg
        refine r_put (C := RX7) (T := TX7) (N := 43) S hK hw (kM_0 hG).1 (kM_0 hG).2 rfl hinX7 tyX7_ok nmX7 4 (by decide) rfl rfl rfl rfl (hts (.fieldLink RX7 97 "SoupByRankModel" "suppers" "I") (by decide +kernel)) rfl e_3 dX7_supsTruly_61 (fun H locs hw => ?_)
        refine lv_aload_n hx hb dX7_supsTruly_64 rfl (lv_at hl 0 rfl) ?_
        refine r_get (C := RX7) (T := TX7) (N := 43) S hK hw (kM_0 hG).1 (kM_0 hG).2 rfl hinX7 38 (by decide) rfl (hts (.fieldLink RX7 200 "SoupByRankModel" "mindsAll" "I") (by decide +kernel)) rfl dX7_supsTruly_65 ?_
        exact r_ireti S hr hlk hw.2.2.2.2 hw hg dX7_supsTruly_68
      · have hg := it_n hg c_1
        refine lv_aload_n hx hb dX7_supsTruly_15 rfl (lv_at hl 0 rfl) ?_
        refine r_getr (C := RX7) (T := TX7) (N := 43) (k' := 3) S hK hw (kM_0 hG).1 (kM_0 hG).2 rfl hinX7 3 (by decide) (o := 3) rfl rfl (hts (.fieldLink RX7 16 "SoupByRankModel" "rows" "[I") (by decide +kernel)) rfl dX7_supsTruly_16 ?_
        refine lv_iconst (v := 2) hx hb dX7_supsTruly_19 (by decide) ?_
        refine lv_iload_n hx hb dX7_supsTruly_20 rfl (lv_at hl 1 rfl) ?_
        refine lv_imul hx hb dX7_supsTruly_21 ?_
        refine lv_iconst (v := 1) hx hb dX7_supsTruly_22 (by decide) ?_
        refine lv_iadd hx hb dX7_supsTruly_23 ?_
        refine lv_aload_n hx hb dX7_supsTruly_24 rfl (lv_at hl 0 rfl) ?_
        refine r_getr (C := RX7) (T := TX7) (N := 43) (k' := 3) S hK hw (kM_0 hG).1 (kM_0 hG).2 rfl hinX7 3 (by decide) (o := 3) rfl rfl (hts (.fieldLink RX7 16 "SoupByRankModel" "rows" "[I") (by decide +kernel)) rfl dX7_supsTruly_25 ?_
        refine lv_iconst (v := 2) hx hb dX7_supsTruly_28 (by decide) ?_
        refine lv_iload_n hx hb dX7_supsTruly_29 rfl (lv_at hl 1 rfl) ?_
        refine lv_imul hx hb dX7_supsTruly_30 ?_
        refine lv_iconst (v := 1) hx hb dX7_supsTruly_31 (by decide) ?_
        refine lv_iadd hx hb dX7_supsTruly_32 ?_
        obtain ⟨h_5, x_4, e_6, hg⟩ := rdA_e hg
        refine r_iald S hK hw (kM_3 hG).1 (kM_3 hG).2 h_5 e_6 dX7_supsTruly_33 ?_
        refine lv_aload_n hx hb dX7_supsTruly_34 rfl (lv_at hl 0 rfl) ?_
        refine lv_iload_n hx hb dX7_supsTruly_35 rfl (lv_at hl 1 rfl) ?_
        obtain ⟨s_7, x_8, h_9, hg⟩ := bnI_e hg
        refine r_iV (As := [.int v1]) (rest := [.int x_4, .int ((2 * v1) + 1), .ref (gAd G 3)]) S hA hK hw (c_X7_lessFor l hG  h_9) (cwV 1 hts gX7_supsTruly_X7_lessFor rfl rfl rfl (by decide +kernel) ⟨Nat.le_of_ble_eq_true rfl, Nat.le_of_ble_eq_true rfl⟩) (r_recv hK hw (kM_0 hG).1 (kM_0 hG).2 rfl) rfl hl.1 (Nat.le_of_ble_eq_true rfl) dX7_supsTruly_36 ⟨Nat.zero_le _, Nat.zero_le _⟩ rfl (fun H locs hw => ?_)
        refine lv_isub hx hb dX7_supsTruly_39 ?_
        refine lv_iconst (v := 0) hx hb dX7_supsTruly_40 (by decide) ?_
        refine lv_sipush (v := 999) hx hb dX7_supsTruly_41 (by decide) ?_
        obtain ⟨s_10, x_11, h_12, hg⟩ := bnI_e hg
        refine r_iS (As := [.int (x_4 - x_8), .int 0, .int 999]) (rest := [.int ((2 * v1) + 1), .ref (gAd G 3)]) S hA hK hw (c_X7_within l hG  h_12) (va_cwS 3 hts gX7_supsTruly_X7_within rfl rfl rfl (by decide +kernel) ⟨Nat.le_of_ble_eq_true rfl, Nat.le_of_ble_eq_true rfl⟩) rfl hl.1 (Nat.le_of_ble_eq_true rfl) dX7_supsTruly_44 ⟨Nat.zero_le _, Nat.zero_le _⟩ rfl (fun H locs hw => ?_)
        obtain ⟨h_14, s_13, e_15, hg⟩ := wrA_e hg
        refine r_iast S hK hw (kM_3 hG).1 (kM_3 hG).2 h_14 e_15 dX7_supsTruly_47 (fun H locs hw => ?_)
        refine lv_iinc (v := (v1 + 1)) (lv' := [(1, .int (v1 + 1)), (0, .ref (gAd G 0))]) hx hb dX7_supsTruly_48 hl (k := 1) rfl rfl (by decide) rfl (fun ls hl => ?_)
        refine lv_goto (tgt := 7) hx hb dX7_supsTruly_51 (by decide) ?_
        exact ih7 _ _ _ _ _ hg hw (lv_sub hl [1, 0] rfl)
  rw [g_X7_supsTruly] at hg
  refine lv_aload_n hx hb dX7_supsTruly_0 rfl (lv_at hl 0 rfl) ?_
  refine lv_iconst (v := (-1)) hx hb dX7_supsTruly_1 (by decide) ?_
  obtain ⟨s_16, h_18, hg⟩ := bnV_e hg
  refine r_vV (As := [.int (-1)]) (rest := []) S hA hK hw (c_X7_sups l hG  h_18) (cwV 1 hts gX7_supsTruly_X7_sups rfl rfl rfl (by decide +kernel) ⟨Nat.le_of_ble_eq_true rfl, Nat.le_of_ble_eq_true rfl⟩) (r_recv hK hw (kM_0 hG).1 (kM_0 hG).2 rfl) rfl hl.1 (Nat.le_of_ble_eq_true rfl) dX7_supsTruly_2 ⟨Nat.zero_le _, Nat.zero_le _⟩ rfl (fun H locs hw => ?_)
  refine lv_iconst (v := 0) hx hb dX7_supsTruly_5 (by decide) ?_
  refine lv_istore_n (lv' := [(1, .int 0), (0, .ref (gAd G 0))]) hx hb dX7_supsTruly_6 rfl hl (by decide) rfl (fun ls hl => ?_)
  exact L7 F _ _ _ _ _ hg hw (lv_sub hl [1, 0] rfl)
set_option maxHeartbeats 4000000 in
set_option maxRecDepth 100000 in
theorem c_X7_sup (l : Launch) {G : GW} (hG : isM G) {F sz : Nat} {σ σR : Sg} {r : Int32} (hg : g_X7_sup F σ = some (σR, r)) : Met l yX7_sup wsX7_sup ({ frames := 7, cells := 0, slots := 0, locals := 169 } : Room) (va_Pc [.ref (gAd G 0)] (PX G σ sz)) (QcI G (gA G sz) σR r) 0 0 (gA G sz) := by
  refine metX (by decide) rfl (Nat.le_of_ble_eq_true rfl) ?_
  intro p e s m args below meth c ls S hr hlk hsz hA hK hw hl hmn
  have S : CallFix p m c cX7_sup 1 s args wsX7_sup RX7 := S
  obtain ⟨hx, hb, hml, hown, hts⟩ := id S
  have hl : lv_has ls 1 [(0, .ref (gAd G 0))] := hl
  have hinX7 : ∀ w ∈ wsX70, w ∈ wsX7_sup := by decide +kernel
  rw [g_X7_sup] at hg
  refine lv_aload_n hx hb dX7_sup_0 rfl (lv_at hl 0 rfl) ?_
  refine r_get (C := RX7) (T := TX7) (N := 43) S hK hw (kM_0 hG).1 (kM_0 hG).2 rfl hinX7 4 (by decide) rfl (hts (.fieldLink RX7 97 "SoupByRankModel" "suppers" "I") (by decide +kernel)) rfl dX7_sup_1 ?_
  refine lv_sipush (v := 999) hx hb dX7_sup_4 (by decide) ?_
  refine lv_icmp_ne (tgt := 15) hx hb dX7_sup_7 (by decide) (fun c_1 => ?_) (fun c_1 => ?_)
  · have hg := it_n hg c_1
    refine lv_aload_n hx hb dX7_sup_15 rfl (lv_at hl 0 rfl) ?_
    obtain ⟨s_2, x_3, h_4, hg⟩ := bnI_e hg
    refine r_iV (As := []) (rest := []) S hA hK hw (c_X7_supsTruly l hG  h_4) (cwV 0 hts gX7_sup_X7_supsTruly rfl rfl rfl (by decide +kernel) ⟨Nat.le_of_ble_eq_true rfl, Nat.le_of_ble_eq_true rfl⟩) (r_recv hK hw (kM_0 hG).1 (kM_0 hG).2 rfl) rfl hl.1 (Nat.le_of_ble_eq_true rfl) dX7_sup_16 ⟨Nat.zero_le _, Nat.zero_le _⟩ rfl (fun H locs hw => ?_)
    exact r_ireti S hr hlk hw.2.2.2.2 hw hg dX7_sup_19
  · have hg := it_p hg c_1
    refine lv_ldc (v := (-100000)) hx hb hown (hts (.constant RX7 222 (-100000)) (by decide +kernel)) dX7_sup_10 ?_
    refine lv_goto (tgt := 19) hx hb dX7_sup_12 (by decide) ?_
    exact r_ireti S hr hlk hw.2.2.2.2 hw hg dX7_sup_19
set_option maxHeartbeats 4000000 in
set_option maxRecDepth 100000 in
theorem c_X7_keeps (l : Launch) {G : GW} (hG : isM G) {F sz : Nat} {σ σR : Sg} (hg : g_X7_keeps F σ = some σR) : Met l yX7_keeps wsX7_keeps ({ frames := 0, cells := 0, slots := 0, locals := 0 } : Room) (va_Pc [.ref (gAd G 0)] (PX G σ sz)) (QcV G (gA G sz) σR) 0 0 (gA G sz) := by
  refine metX (by decide) rfl (Nat.le_of_ble_eq_true rfl) ?_
  intro p e s m args below meth c ls S hr hlk hsz hA hK hw hl hmn
  have S : CallFix p m c cX7_keeps 2 s args wsX7_keeps RX7 := S
  obtain ⟨hx, hb, hml, hown, hts⟩ := id S
  have hl : lv_has ls 2 [(0, .ref (gAd G 0))] := hl
  have hinX7 : ∀ w ∈ wsX70, w ∈ wsX7_keeps := by decide +kernel
  have L2 : ∀ (n2 : Nat) (v1 : Int32) (σ : Sg) (H : Heap) (locs : List Loc) (ls : Array Slot) (hg : g_X7_keeps_l2 F n2 v1 σ = some σR) (hw : XD G (gA G sz) s.heap σ H locs) (hl : lv_has ls 2 [(0, .ref (gAd G 0)), (1, .int v1)]), W p l e (headSpec wsX7_keeps ({ frames := 0, cells := 0, slots := 0, locals := 0 } : Room)).room s m args below meth c H locs 0 0 (MQ below (QcV G (gA G sz) σR) args s 0 0 (gA G sz)) (F0 m 2 ls []) := by
    intro n2
    induction n2 with
    | zero => intro v1 σ H locs ls hg hw hl; exact no_e hg
    | succ n2 ih2 =>
      intro v1 σ H locs ls hg hw hl
      rw [g_X7_keeps_l2] at hg
      refine lv_iload_n hx hb dX7_keeps_2 rfl (lv_at hl 1 rfl) ?_
      refine lv_bipush (v := 12) hx hb dX7_keeps_3 (by decide) ?_
      refine lv_icmp_ge (tgt := 26) hx hb dX7_keeps_5 (by decide) (fun c_1 => ?_) (fun c_1 => ?_)
      · have hg := it_p hg c_1
        refine lv_aload_n hx hb dX7_keeps_26 rfl (lv_at hl 0 rfl) ?_
        refine r_getr (C := RX7) (T := TX7) (N := 43) (k' := 23) S hK hw (kM_0 hG).1 (kM_0 hG).2 rfl hinX7 41 (by decide) (o := 23) rfl rfl (hts (.fieldLink RX7 80 "SoupByRankModel" "kept" "[I") (by decide +kernel)) rfl dX7_keeps_27 ?_
        refine lv_bipush (v := 12) hx hb dX7_keeps_30 (by decide) ?_
        refine lv_aload_n hx hb dX7_keeps_32 rfl (lv_at hl 0 rfl) ?_
        refine r_get (C := RX7) (T := TX7) (N := 43) S hK hw (kM_0 hG).1 (kM_0 hG).2 rfl hinX7 4 (by decide) rfl (hts (.fieldLink RX7 97 "SoupByRankModel" "suppers" "I") (by decide +kernel)) rfl dX7_keeps_33 ?_
        obtain ⟨h_3, s_2, e_4, hg⟩ := wrA_e hg
        refine r_iast S hK hw (kM_23 hG).1 (kM_23 hG).2 h_3 e_4 dX7_keeps_36 (fun H locs hw => ?_)
        exact r_vreti S hr hlk hw.2.2.2.2 hw hg dX7_keeps_37
      · have hg := it_n hg c_1
        refine lv_aload_n hx hb dX7_keeps_8 rfl (lv_at hl 0 rfl) ?_
        refine r_getr (C := RX7) (T := TX7) (N := 43) (k' := 23) S hK hw (kM_0 hG).1 (kM_0 hG).2 rfl hinX7 41 (by decide) (o := 23) rfl rfl (hts (.fieldLink RX7 80 "SoupByRankModel" "kept" "[I") (by decide +kernel)) rfl dX7_keeps_9 ?_
        refine lv_iload_n hx hb dX7_keeps_12 rfl (lv_at hl 1 rfl) ?_
        refine lv_aload_n hx hb dX7_keeps_13 rfl (lv_at hl 0 rfl) ?_
        refine r_getr (C := RX7) (T := TX7) (N := 43) (k' := 3) S hK hw (kM_0 hG).1 (kM_0 hG).2 rfl hinX7 3 (by decide) (o := 3) rfl rfl (hts (.fieldLink RX7 16 "SoupByRankModel" "rows" "[I") (by decide +kernel)) rfl dX7_keeps_14 ?_
        refine lv_iload_n hx hb dX7_keeps_17 rfl (lv_at hl 1 rfl) ?_
        obtain ⟨h_6, x_5, e_7, hg⟩ := rdA_e hg
        refine r_iald S hK hw (kM_3 hG).1 (kM_3 hG).2 h_6 e_7 dX7_keeps_18 ?_
        obtain ⟨h_9, s_8, e_10, hg⟩ := wrA_e hg
        refine r_iast S hK hw (kM_23 hG).1 (kM_23 hG).2 h_9 e_10 dX7_keeps_19 (fun H locs hw => ?_)
        refine lv_iinc (v := (v1 + 1)) (lv' := [(1, .int (v1 + 1)), (0, .ref (gAd G 0))]) hx hb dX7_keeps_20 hl (k := 1) rfl rfl (by decide) rfl (fun ls hl => ?_)
        refine lv_goto (tgt := 2) hx hb dX7_keeps_23 (by decide) ?_
        exact ih2 _ _ _ _ _ hg hw (lv_sub hl [1, 0] rfl)
  rw [g_X7_keeps] at hg
  refine lv_iconst (v := 0) hx hb dX7_keeps_0 (by decide) ?_
  refine lv_istore_n (lv' := [(1, .int 0), (0, .ref (gAd G 0))]) hx hb dX7_keeps_1 rfl hl (by decide) rfl (fun ls hl => ?_)
  exact L2 F _ _ _ _ _ hg hw (lv_sub hl [1, 0] rfl)
set_option maxHeartbeats 4000000 in
set_option maxRecDepth 100000 in
theorem c_X7_lays (l : Launch) {G : GW} (hG : isM G) {F sz : Nat} {σ σR : Sg} (hg : g_X7_lays F σ = some σR) : Met l yX7_lays wsX7_lays ({ frames := 0, cells := 0, slots := 0, locals := 0 } : Room) (va_Pc [.ref (gAd G 0)] (PX G σ sz)) (QcV G (gA G sz) σR) 0 0 (gA G sz) := by
  refine metX (by decide) rfl (Nat.le_of_ble_eq_true rfl) ?_
  intro p e s m args below meth c ls S hr hlk hsz hA hK hw hl hmn
  have S : CallFix p m c cX7_lays 2 s args wsX7_lays RX7 := S
  obtain ⟨hx, hb, hml, hown, hts⟩ := id S
  have hl : lv_has ls 2 [(0, .ref (gAd G 0))] := hl
  have hinX7 : ∀ w ∈ wsX70, w ∈ wsX7_lays := by decide +kernel
  have L2 : ∀ (n2 : Nat) (v1 : Int32) (σ : Sg) (H : Heap) (locs : List Loc) (ls : Array Slot) (hg : g_X7_lays_l2 F n2 v1 σ = some σR) (hw : XD G (gA G sz) s.heap σ H locs) (hl : lv_has ls 2 [(0, .ref (gAd G 0)), (1, .int v1)]), W p l e (headSpec wsX7_lays ({ frames := 0, cells := 0, slots := 0, locals := 0 } : Room)).room s m args below meth c H locs 0 0 (MQ below (QcV G (gA G sz) σR) args s 0 0 (gA G sz)) (F0 m 2 ls []) := by
    intro n2
    induction n2 with
    | zero => intro v1 σ H locs ls hg hw hl; exact no_e hg
    | succ n2 ih2 =>
      intro v1 σ H locs ls hg hw hl
      rw [g_X7_lays_l2] at hg
      refine lv_iload_n hx hb dX7_lays_2 rfl (lv_at hl 1 rfl) ?_
      refine lv_bipush (v := 12) hx hb dX7_lays_3 (by decide) ?_
      refine lv_icmp_ge (tgt := 26) hx hb dX7_lays_5 (by decide) (fun c_1 => ?_) (fun c_1 => ?_)
      · have hg := it_p hg c_1
        refine lv_aload_n hx hb dX7_lays_26 rfl (lv_at hl 0 rfl) ?_
        refine lv_aload_n hx hb dX7_lays_27 rfl (lv_at hl 0 rfl) ?_
        refine r_getr (C := RX7) (T := TX7) (N := 43) (k' := 23) S hK hw (kM_0 hG).1 (kM_0 hG).2 rfl hinX7 41 (by decide) (o := 23) rfl rfl (hts (.fieldLink RX7 80 "SoupByRankModel" "kept" "[I") (by decide +kernel)) rfl dX7_lays_28 ?_
        refine lv_bipush (v := 12) hx hb dX7_lays_31 (by decide) ?_
        obtain ⟨h_3, x_2, e_4, hg⟩ := rdA_e hg
        refine r_iald S hK hw (kM_23 hG).1 (kM_23 hG).2 h_3 e_4 dX7_lays_33 ?_
        obtain ⟨s_5, e_6, hg⟩ := wrF_e hg
        refine r_put (C := RX7) (T := TX7) (N := 43) S hK hw (kM_0 hG).1 (kM_0 hG).2 rfl hinX7 tyX7_ok nmX7 4 (by decide) rfl rfl rfl rfl (hts (.fieldLink RX7 97 "SoupByRankModel" "suppers" "I") (by decide +kernel)) rfl e_6 dX7_lays_34 (fun H locs hw => ?_)
        exact r_vreti S hr hlk hw.2.2.2.2 hw hg dX7_lays_37
      · have hg := it_n hg c_1
        refine lv_aload_n hx hb dX7_lays_8 rfl (lv_at hl 0 rfl) ?_
        refine r_getr (C := RX7) (T := TX7) (N := 43) (k' := 3) S hK hw (kM_0 hG).1 (kM_0 hG).2 rfl hinX7 3 (by decide) (o := 3) rfl rfl (hts (.fieldLink RX7 16 "SoupByRankModel" "rows" "[I") (by decide +kernel)) rfl dX7_lays_9 ?_
        refine lv_iload_n hx hb dX7_lays_12 rfl (lv_at hl 1 rfl) ?_
        refine lv_aload_n hx hb dX7_lays_13 rfl (lv_at hl 0 rfl) ?_
        refine r_getr (C := RX7) (T := TX7) (N := 43) (k' := 23) S hK hw (kM_0 hG).1 (kM_0 hG).2 rfl hinX7 41 (by decide) (o := 23) rfl rfl (hts (.fieldLink RX7 80 "SoupByRankModel" "kept" "[I") (by decide +kernel)) rfl dX7_lays_14 ?_
        refine lv_iload_n hx hb dX7_lays_17 rfl (lv_at hl 1 rfl) ?_
        obtain ⟨h_8, x_7, e_9, hg⟩ := rdA_e hg
        refine r_iald S hK hw (kM_23 hG).1 (kM_23 hG).2 h_8 e_9 dX7_lays_18 ?_
        obtain ⟨h_11, s_10, e_12, hg⟩ := wrA_e hg
        refine r_iast S hK hw (kM_3 hG).1 (kM_3 hG).2 h_11 e_12 dX7_lays_19 (fun H locs hw => ?_)
        refine lv_iinc (v := (v1 + 1)) (lv' := [(1, .int (v1 + 1)), (0, .ref (gAd G 0))]) hx hb dX7_lays_20 hl (k := 1) rfl rfl (by decide) rfl (fun ls hl => ?_)
        refine lv_goto (tgt := 2) hx hb dX7_lays_23 (by decide) ?_
        exact ih2 _ _ _ _ _ hg hw (lv_sub hl [1, 0] rfl)
  rw [g_X7_lays] at hg
  refine lv_iconst (v := 0) hx hb dX7_lays_0 (by decide) ?_
  refine lv_istore_n (lv' := [(1, .int 0), (0, .ref (gAd G 0))]) hx hb dX7_lays_1 rfl hl (by decide) rfl (fun ls hl => ?_)
  exact L2 F _ _ _ _ _ hg hw (lv_sub hl [1, 0] rfl)
set_option maxHeartbeats 4000000 in
set_option maxRecDepth 100000 in
theorem c_X7_run (l : Launch) {G : GW} (hG : isM G) {F sz : Nat} {a1 : Int32} {a2 : Int32} {a3 : Int32} {σ σR : Sg} {r : Int32} (hg : g_X7_run F a1 a2 a3 σ = some (σR, r)) : Met l yX7_run wsX7_run ({ frames := 7, cells := 0, slots := 0, locals := 169 } : Room) (va_Pc [.ref (gAd G 0), .int a1, .int a2, .int a3] (PX G σ sz)) (QcI G (gA G sz) σR r) 0 0 (gA G sz) := by
  refine metX (by decide) rfl (Nat.le_of_ble_eq_true rfl) ?_
  intro p e s m args below meth c ls S hr hlk hsz hA hK hw hl hmn
  have S : CallFix p m c cX7_run 7 s args wsX7_run RX7 := S
  obtain ⟨hx, hb, hml, hown, hts⟩ := id S
  have hl : lv_has ls 7 [(0, .ref (gAd G 0)), (1, .int a1), (2, .int a2), (3, .int a3)] := hl
  have hinX7 : ∀ w ∈ wsX70, w ∈ wsX7_run := by decide +kernel
  have L43 : ∀ (v1 : Int32) (v2 : Int32) (v3 : Int32) (n43 : Nat) (v4 : Int32) (v5 : Int32) (v6 : Int32) (σ : Sg) (H : Heap) (locs : List Loc) (ls : Array Slot) (hg : g_X7_run_l43 F v1 v2 v3 n43 v4 v5 v6 σ = some (σR, r)) (hw : XD G (gA G sz) s.heap σ H locs) (hl : lv_has ls 7 [(0, .ref (gAd G 0)), (1, .int v1), (2, .int v2), (3, .int v3), (4, .int v4), (5, .int v5), (6, .int v6)]), W p l e (headSpec wsX7_run ({ frames := 7, cells := 0, slots := 0, locals := 169 } : Room)).room s m args below meth c H locs 0 0 (MQ below (QcI G (gA G sz) σR r) args s 0 0 (gA G sz)) (F0 m 43 ls []) := by
    intro v1 v2 v3
    intro n43
    induction n43 with
    | zero => intro v4 v5 v6 σ H locs ls hg hw hl; exact no_e hg
    | succ n43 ih43 =>
      intro v4 v5 v6 σ H locs ls hg hw hl
      rw [g_X7_run_l43] at hg
      refine lv_iload hx hb dX7_run_43 (lv_at hl 6 rfl) ?_
      refine lv_iload_n hx hb dX7_run_45 rfl (lv_at hl 2 rfl) ?_
      refine lv_icmp_ge (tgt := 74) hx hb dX7_run_46 (by decide) (fun c_1 => ?_) (fun c_1 => ?_)
      · have hg := it_p hg c_1
        refine lv_aload_n hx hb dX7_run_74 rfl (lv_at hl 0 rfl) ?_
        refine r_getr (C := RX7) (T := TX7) (N := 43) (k' := 3) S hK hw (kM_0 hG).1 (kM_0 hG).2 rfl hinX7 3 (by decide) (o := 3) rfl rfl (hts (.fieldLink RX7 16 "SoupByRankModel" "rows" "[I") (by decide +kernel)) rfl dX7_run_75 ?_
        refine lv_iconst (v := 2) hx hb dX7_run_78 (by decide) ?_
        refine lv_iload_n hx hb dX7_run_79 rfl (lv_at hl 1 rfl) ?_
        refine lv_imul hx hb dX7_run_80 ?_
        refine lv_iconst (v := 1) hx hb dX7_run_81 (by decide) ?_
        refine lv_iadd hx hb dX7_run_82 ?_
        obtain ⟨h_3, x_2, e_4, hg⟩ := rdA_e hg
        refine r_iald S hK hw (kM_3 hG).1 (kM_3 hG).2 h_3 e_4 dX7_run_83 ?_
        refine lv_istore (lv' := [(6, .int x_2), (0, .ref (gAd G 0)), (1, .int v1), (2, .int v2), (3, .int v3), (4, .int v4), (5, .int v5)]) hx hb dX7_run_84 hl (by decide) rfl (fun ls hl => ?_)
        refine lv_aload_n hx hb dX7_run_86 rfl (lv_at hl 1 rfl) ?_
        obtain ⟨s_5, h_7, hg⟩ := bnV_e hg
        refine r_vV (As := []) (rest := []) S hA hK hw (c_X7_lays l hG  h_7) (cwV 0 hts gX7_run_X7_lays rfl rfl rfl (by decide +kernel) ⟨Nat.le_of_ble_eq_true rfl, Nat.le_of_ble_eq_true rfl⟩) (r_recv hK hw (kM_0 hG).1 (kM_0 hG).2 rfl) rfl hl.1 (Nat.le_of_ble_eq_true rfl) dX7_run_87 ⟨Nat.zero_le _, Nat.zero_le _⟩ rfl (fun H locs hw => ?_)
        refine lv_iload_n hx hb dX7_run_90 rfl (lv_at hl 4 rfl) ?_
        refine lv_if_ne (tgt := 99) hx hb dX7_run_91 (by decide) (fun c_8 => ?_) (fun c_8 => ?_)
        · have hg := it_n hg c_8
          refine lv_iload_n hx hb dX7_run_99 rfl (lv_at hl 4 rfl) ?_
          refine lv_iconst (v := 1) hx hb dX7_run_100 (by decide) ?_
          refine lv_icmp_ne (tgt := 109) hx hb dX7_run_101 (by decide) (fun c_9 => ?_) (fun c_9 => ?_)
          · have hg := it_n hg c_9
            refine lv_iload hx hb dX7_run_109 (lv_at hl 6 rfl) ?_
            exact r_ireti S hr hlk hw.2.2.2.2 hw hg dX7_run_111
          · have hg := it_p hg c_9
            refine lv_iload hx hb dX7_run_104 (lv_at hl 5 rfl) ?_
            refine lv_goto (tgt := 111) hx hb dX7_run_106 (by decide) ?_
            exact r_ireti S hr hlk hw.2.2.2.2 hw hg dX7_run_111
        · have hg := it_p hg c_8
          refine lv_iload hx hb dX7_run_94 (lv_at hl 0 rfl) ?_
          refine lv_goto (tgt := 111) hx hb dX7_run_96 (by decide) ?_
          exact r_ireti S hr hlk hw.2.2.2.2 hw hg dX7_run_111
      · have hg := it_n hg c_1
        refine lv_iload hx hb dX7_run_49 (lv_at hl 5 rfl) ?_
        refine lv_aload_n hx hb dX7_run_51 rfl (lv_at hl 0 rfl) ?_
        obtain ⟨s_10, x_11, h_12, hg⟩ := bnI_e hg
        refine r_iV (As := []) (rest := [.int v5]) S hA hK hw (c_X7_supsTruly l hG  h_12) (cwV 0 hts gX7_run_X7_supsTruly rfl rfl rfl (by decide +kernel) ⟨Nat.le_of_ble_eq_true rfl, Nat.le_of_ble_eq_true rfl⟩) (r_recv hK hw (kM_0 hG).1 (kM_0 hG).2 rfl) rfl hl.1 (Nat.le_of_ble_eq_true rfl) dX7_run_52 ⟨Nat.zero_le _, Nat.zero_le _⟩ rfl (fun H locs hw => ?_)
        refine lv_iadd hx hb dX7_run_55 ?_
        refine lv_istore (lv' := [(5, .int (v5 + x_11)), (0, .ref (gAd G 0)), (1, .int v1), (2, .int v2), (3, .int v3), (4, .int v4), (6, .int v6)]) hx hb dX7_run_56 hl (by decide) rfl (fun ls hl => ?_)
        refine lv_iload hx hb dX7_run_58 (lv_at hl 5 rfl) ?_
        refine lv_aload_n hx hb dX7_run_60 rfl (lv_at hl 1 rfl) ?_
        refine lv_iload_n hx hb dX7_run_61 rfl (lv_at hl 2 rfl) ?_
        obtain ⟨s_13, x_14, h_15, hg⟩ := bnI_e hg
        refine r_iV (As := [.int v1]) (rest := [.int v4]) S hA hK hw (c_X7_lessFor l hG  h_15) (cwV 1 hts gX7_run_X7_lessFor rfl rfl rfl (by decide +kernel) ⟨Nat.le_of_ble_eq_true rfl, Nat.le_of_ble_eq_true rfl⟩) (r_recv hK hw (kM_0 hG).1 (kM_0 hG).2 rfl) rfl hl.1 (Nat.le_of_ble_eq_true rfl) dX7_run_62 ⟨Nat.zero_le _, Nat.zero_le _⟩ rfl (fun H locs hw => ?_)
        refine lv_iadd hx hb dX7_run_65 ?_
        refine lv_istore (lv' := [(4, .int (v4 + x_14)), (5, .int (v5 + x_11)), (0, .ref (gAd G 0)), (1, .int v1), (2, .int v2), (3, .int v3), (6, .int v6)]) hx hb dX7_run_66 hl (by decide) rfl (fun ls hl => ?_)
        refine lv_iinc (v := (v6 + 1)) (lv' := [(6, .int (v6 + 1)), (4, .int (v4 + x_14)), (5, .int (v5 + x_11)), (0, .ref (gAd G 0)), (1, .int v1), (2, .int v2), (3, .int v3)]) hx hb dX7_run_68 hl (k := 6) rfl rfl (by decide) rfl (fun ls hl => ?_)
        refine lv_goto (tgt := 43) hx hb dX7_run_71 (by decide) ?_
        exact ih43 _ _ _ _ _ _ _ hg hw (lv_sub hl [3, 4, 5, 6, 1, 2, 0] rfl)
  rw [g_X7_run] at hg
  refine lv_aload_n hx hb dX7_run_0 rfl (lv_at hl 0 rfl) ?_
  refine lv_iload_n hx hb dX7_run_1 rfl (lv_at hl 1 rfl) ?_
  obtain ⟨s_16, x_17, h_18, hg⟩ := bnI_e hg
  refine r_iV (As := [.int a1]) (rest := []) S hA hK hw (c_X7_isOne l hG  h_18) (cwV 1 hts gX7_run_X7_isOne rfl rfl rfl (by decide +kernel) ⟨Nat.le_of_ble_eq_true rfl, Nat.le_of_ble_eq_true rfl⟩) (r_recv hK hw (kM_0 hG).1 (kM_0 hG).2 rfl) rfl hl.1 (Nat.le_of_ble_eq_true rfl) dX7_run_2 ⟨Nat.zero_le _, Nat.zero_le _⟩ rfl (fun H locs hw => ?_)
  refine lv_if_eq (tgt := 27) hx hb dX7_run_5 (by decide) (fun c_19 => ?_) (fun c_19 => ?_)
  · have hg := it_p hg c_19
    refine lv_ldc (v := (-100000)) hx hb hown (hts (.constant RX7 222 (-100000)) (by decide +kernel)) dX7_run_27 ?_
    exact r_ireti S hr hlk hw.2.2.2.2 hw hg dX7_run_29
  · have hg := it_n hg c_19
    refine lv_iload_n hx hb dX7_run_8 rfl (lv_at hl 2 rfl) ?_
    refine lv_iconst (v := 0) hx hb dX7_run_9 (by decide) ?_
    refine lv_bipush (v := 20) hx hb dX7_run_10 (by decide) ?_
    obtain ⟨s_20, x_21, h_22, hg⟩ := bnI_e hg
    refine r_iS (As := [.int a2, .int 0, .int 20]) (rest := []) S hA hK hw (c_X7_in l hG  h_22) (va_cwS 3 hts gX7_run_X7_in rfl rfl rfl (by decide +kernel) ⟨Nat.le_of_ble_eq_true rfl, Nat.le_of_ble_eq_true rfl⟩) rfl hl.1 (Nat.le_of_ble_eq_true rfl) dX7_run_12 ⟨Nat.zero_le _, Nat.zero_le _⟩ rfl (fun H locs hw => ?_)
    refine lv_if_eq (tgt := 27) hx hb dX7_run_15 (by decide) (fun c_23 => ?_) (fun c_23 => ?_)
    · have hg := it_p hg c_23
      refine lv_ldc (v := (-100000)) hx hb hown (hts (.constant RX7 222 (-100000)) (by decide +kernel)) dX7_run_27 ?_
      exact r_ireti S hr hlk hw.2.2.2.2 hw hg dX7_run_29
    · have hg := it_n hg c_23
      refine lv_iload_n hx hb dX7_run_18 rfl (lv_at hl 3 rfl) ?_
      refine lv_iconst (v := 0) hx hb dX7_run_19 (by decide) ?_
      refine lv_iconst (v := 2) hx hb dX7_run_20 (by decide) ?_
      obtain ⟨s_24, x_25, h_26, hg⟩ := bnI_e hg
      refine r_iS (As := [.int a3, .int 0, .int 2]) (rest := []) S hA hK hw (c_X7_in l hG  h_26) (va_cwS 3 hts gX7_run_X7_in rfl rfl rfl (by decide +kernel) ⟨Nat.le_of_ble_eq_true rfl, Nat.le_of_ble_eq_true rfl⟩) rfl hl.1 (Nat.le_of_ble_eq_true rfl) dX7_run_21 ⟨Nat.zero_le _, Nat.zero_le _⟩ rfl (fun H locs hw => ?_)
      refine lv_if_ne (tgt := 30) hx hb dX7_run_24 (by decide) (fun c_27 => ?_) (fun c_27 => ?_)
      · have hg := it_n hg c_27
        refine lv_iconst (v := 0) hx hb dX7_run_30 (by decide) ?_
        refine lv_istore (lv' := [(4, .int 0), (0, .ref (gAd G 0)), (1, .int a1), (2, .int a2), (3, .int a3)]) hx hb dX7_run_31 hl (by decide) rfl (fun ls hl => ?_)
        refine lv_iconst (v := 0) hx hb dX7_run_33 (by decide) ?_
        refine lv_istore (lv' := [(5, .int 0), (4, .int 0), (0, .ref (gAd G 0)), (1, .int a1), (2, .int a2), (3, .int a3)]) hx hb dX7_run_34 hl (by decide) rfl (fun ls hl => ?_)
        refine lv_aload_n hx hb dX7_run_36 rfl (lv_at hl 2 rfl) ?_
        obtain ⟨s_28, h_30, hg⟩ := bnV_e hg
        refine r_vV (As := []) (rest := []) S hA hK hw (c_X7_keeps l hG  h_30) (cwV 0 hts gX7_run_X7_keeps rfl rfl rfl (by decide +kernel) ⟨Nat.le_of_ble_eq_true rfl, Nat.le_of_ble_eq_true rfl⟩) (r_recv hK hw (kM_0 hG).1 (kM_0 hG).2 rfl) rfl hl.1 (Nat.le_of_ble_eq_true rfl) dX7_run_37 ⟨Nat.zero_le _, Nat.zero_le _⟩ rfl (fun H locs hw => ?_)
        refine lv_iconst (v := 0) hx hb dX7_run_40 (by decide) ?_
        refine lv_istore (lv' := [(6, .int 0), (5, .int 0), (4, .int 0), (0, .ref (gAd G 0)), (1, .int a1), (2, .int a2), (3, .int a3)]) hx hb dX7_run_41 hl (by decide) rfl (fun ls hl => ?_)
        exact L43 a1 a2 a3 F _ _ _ _ _ _ _ hg hw (lv_sub hl [3, 4, 5, 6, 2, 1, 0] rfl)
      · have hg := it_p hg c_27
        refine lv_ldc (v := (-100000)) hx hb hown (hts (.constant RX7 222 (-100000)) (by decide +kernel)) dX7_run_27 ?_
        exact r_ireti S hr hlk hw.2.2.2.2 hw hg dX7_run_29
set_option maxHeartbeats 4000000 in
set_option maxRecDepth 100000 in
theorem c_X7_mindsNow (l : Launch) {G : GW} (hG : isM G) {F sz : Nat} {σ σR : Sg} {r : Int32} (hg : g_X7_mindsNow F σ = some (σR, r)) : Met l yX7_mindsNow wsX7_mindsNow ({ frames := 6, cells := 0, slots := 0, locals := 148 } : Room) (va_Pc [.ref (gAd G 0)] (PX G σ sz)) (QcI G (gA G sz) σR r) 0 0 (gA G sz) := by
  refine metX (by decide) rfl (Nat.le_of_ble_eq_true rfl) ?_
  intro p e s m args below meth c ls S hr hlk hsz hA hK hw hl hmn
  have S : CallFix p m c cX7_mindsNow 1 s args wsX7_mindsNow RX7 := S
  obtain ⟨hx, hb, hml, hown, hts⟩ := id S
  have hl : lv_has ls 1 [(0, .ref (gAd G 0))] := hl
  have hinX7 : ∀ w ∈ wsX70, w ∈ wsX7_mindsNow := by decide +kernel
  rw [g_X7_mindsNow] at hg
  refine lv_aload_n hx hb dX7_mindsNow_0 rfl (lv_at hl 0 rfl) ?_
  refine lv_iconst (v := (-1)) hx hb dX7_mindsNow_1 (by decide) ?_
  obtain ⟨s_1, h_3, hg⟩ := bnV_e hg
  refine r_vV (As := [.int (-1)]) (rest := []) S hA hK hw (c_X7_sups l hG  h_3) (cwV 1 hts gX7_mindsNow_X7_sups rfl rfl rfl (by decide +kernel) ⟨Nat.le_of_ble_eq_true rfl, Nat.le_of_ble_eq_true rfl⟩) (r_recv hK hw (kM_0 hG).1 (kM_0 hG).2 rfl) rfl hl.1 (Nat.le_of_ble_eq_true rfl) dX7_mindsNow_2 ⟨Nat.zero_le _, Nat.zero_le _⟩ rfl (fun H locs hw => ?_)
  refine lv_aload_n hx hb dX7_mindsNow_5 rfl (lv_at hl 0 rfl) ?_
  refine r_get (C := RX7) (T := TX7) (N := 43) S hK hw (kM_0 hG).1 (kM_0 hG).2 rfl hinX7 38 (by decide) rfl (hts (.fieldLink RX7 200 "SoupByRankModel" "mindsAll" "I") (by decide +kernel)) rfl dX7_mindsNow_6 ?_
  exact r_ireti S hr hlk hw.2.2.2.2 hw hg dX7_mindsNow_9
set_option maxHeartbeats 4000000 in
set_option maxRecDepth 100000 in
theorem c_X7_cook (l : Launch) {G : GW} (hG : isM G) {F sz : Nat} {a1 : Int32} {σ σR : Sg} {r : Int32} (hg : g_X7_cook F a1 σ = some (σR, r)) : Met l yX7_cook wsX7_cook ({ frames := 7, cells := 0, slots := 0, locals := 168 } : Room) (va_Pc [.ref (gAd G 0), .int a1] (PX G σ sz)) (QcI G (gA G sz) σR r) 0 0 (gA G sz) := by
  refine metX (by decide) rfl (Nat.le_of_ble_eq_true rfl) ?_
  intro p e s m args below meth c ls S hr hlk hsz hA hK hw hl hmn
  have S : CallFix p m c cX7_cook 8 s args wsX7_cook RX7 := S
  obtain ⟨hx, hb, hml, hown, hts⟩ := id S
  have hl : lv_has ls 8 [(0, .ref (gAd G 0)), (1, .int a1)] := hl
  have hinX7 : ∀ w ∈ wsX70, w ∈ wsX7_cook := by decide +kernel
  have L25 : ∀ (v1 : Int32) (v2 : Int32) (n25 : Nat) (v3 : Int32) (v4 : Int32) (v5 : Int32) (σ : Sg) (H : Heap) (locs : List Loc) (ls : Array Slot) (hg : g_X7_cook_l25 F v1 v2 n25 v3 v4 v5 σ = some (σR, r)) (hw : XD G (gA G sz) s.heap σ H locs) (hl : lv_has ls 8 [(0, .ref (gAd G 0)), (1, .int v1), (2, .int v2), (3, .int v3), (4, .int v4), (5, .int v5)]), W p l e (headSpec wsX7_cook ({ frames := 7, cells := 0, slots := 0, locals := 168 } : Room)).room s m args below meth c H locs 0 0 (MQ below (QcI G (gA G sz) σR r) args s 0 0 (gA G sz)) (F0 m 25 ls []) := by
    intro v1 v2
    intro n25
    induction n25 with
    | zero => intro v3 v4 v5 σ H locs ls hg hw hl; exact no_e hg
    | succ n25 ih25 =>
      have J87 : ∀ (v3 : Int32) (v5 : Int32) (u0 : Int32) (σ : Sg) (H : Heap) (locs : List Loc) (ls : Array Slot) (hg : g_X7_cook_b87 F (fun v3_ v4_ v5_ σ_ => g_X7_cook_l25 F v1 v2 n25 v3_ v4_ v5_ σ_) v1 v2 v3 v5 u0 σ = some (σR, r)) (hw : XD G (gA G sz) s.heap σ H locs) (hl : lv_has ls 8 [(0, .ref (gAd G 0)), (1, .int v1), (2, .int v2), (3, .int v3), (5, .int v5)]), W p l e (headSpec wsX7_cook ({ frames := 7, cells := 0, slots := 0, locals := 168 } : Room)).room s m args below meth c H locs 0 0 (MQ below (QcI G (gA G sz) σR r) args s 0 0 (gA G sz)) (F0 m 87 ls [.int u0]) := by
        intro v3 v5 u0 σ H locs ls hg hw hl
        rw [g_X7_cook_b87] at hg
        refine lv_istore (lv' := [(4, .int u0), (0, .ref (gAd G 0)), (1, .int v1), (2, .int v2), (3, .int v3), (5, .int v5)]) hx hb dX7_cook_87 hl (by decide) rfl (fun ls hl => ?_)
        refine lv_iinc (v := (v5 + 1)) (lv' := [(5, .int (v5 + 1)), (4, .int u0), (0, .ref (gAd G 0)), (1, .int v1), (2, .int v2), (3, .int v3)]) hx hb dX7_cook_89 hl (k := 5) rfl rfl (by decide) rfl (fun ls hl => ?_)
        refine lv_goto (tgt := 25) hx hb dX7_cook_92 (by decide) ?_
        exact ih25 _ _ _ _ _ _ _ hg hw (lv_sub hl [2, 3, 4, 5, 1, 0] rfl)
      have J74 : ∀ (v4 : Int32) (v5 : Int32) (v6 : Int32) (v7 : Int32) (u0 : Int32) (σ : Sg) (H : Heap) (locs : List Loc) (ls : Array Slot) (hg : g_X7_cook_b74 F (fun v3_ v4_ v5_ σ_ => g_X7_cook_l25 F v1 v2 n25 v3_ v4_ v5_ σ_) v1 v2 v4 v5 v6 v7 u0 σ = some (σR, r)) (hw : XD G (gA G sz) s.heap σ H locs) (hl : lv_has ls 8 [(0, .ref (gAd G 0)), (1, .int v1), (2, .int v2), (4, .int v4), (5, .int v5), (6, .int v6), (7, .int v7)]), W p l e (headSpec wsX7_cook ({ frames := 7, cells := 0, slots := 0, locals := 168 } : Room)).room s m args below meth c H locs 0 0 (MQ below (QcI G (gA G sz) σR r) args s 0 0 (gA G sz)) (F0 m 74 ls [.int u0]) := by
        intro v4 v5 v6 v7 u0 σ H locs ls hg hw hl
        rw [g_X7_cook_b74] at hg
        refine lv_istore_n (lv' := [(3, .int u0), (0, .ref (gAd G 0)), (1, .int v1), (2, .int v2), (4, .int v4), (5, .int v5), (6, .int v6), (7, .int v7)]) hx hb dX7_cook_74 rfl hl (by decide) rfl (fun ls hl => ?_)
        refine lv_iload hx hb dX7_cook_75 (lv_at hl 7 rfl) ?_
        refine lv_if_eq (tgt := 85) hx hb dX7_cook_77 (by decide) (fun c_1 => ?_) (fun c_1 => ?_)
        · have hg := it_p hg c_1
          refine lv_iload hx hb dX7_cook_85 (lv_at hl 4 rfl) ?_
          exact J87 u0 v5 v4 _ _ _ _ hg hw (lv_sub hl [1, 2, 3, 0, 5] rfl)
        · have hg := it_n hg c_1
          refine lv_iload hx hb dX7_cook_80 (lv_at hl 6 rfl) ?_
          refine lv_goto (tgt := 87) hx hb dX7_cook_82 (by decide) ?_
          exact J87 u0 v5 v6 _ _ _ _ hg hw (lv_sub hl [1, 2, 3, 0, 5] rfl)
      have J61 : ∀ (v3 : Int32) (v4 : Int32) (v5 : Int32) (v6 : Int32) (u0 : Int32) (σ : Sg) (H : Heap) (locs : List Loc) (ls : Array Slot) (hg : g_X7_cook_b61 F (fun v3_ v4_ v5_ σ_ => g_X7_cook_l25 F v1 v2 n25 v3_ v4_ v5_ σ_) v1 v2 v3 v4 v5 v6 u0 σ = some (σR, r)) (hw : XD G (gA G sz) s.heap σ H locs) (hl : lv_has ls 8 [(0, .ref (gAd G 0)), (1, .int v1), (2, .int v2), (3, .int v3), (4, .int v4), (5, .int v5), (6, .int v6)]), W p l e (headSpec wsX7_cook ({ frames := 7, cells := 0, slots := 0, locals := 168 } : Room)).room s m args below meth c H locs 0 0 (MQ below (QcI G (gA G sz) σR r) args s 0 0 (gA G sz)) (F0 m 61 ls [.int u0]) := by
        intro v3 v4 v5 v6 u0 σ H locs ls hg hw hl
        rw [g_X7_cook_b61] at hg
        refine lv_istore (lv' := [(7, .int u0), (0, .ref (gAd G 0)), (1, .int v1), (2, .int v2), (3, .int v3), (4, .int v4), (5, .int v5), (6, .int v6)]) hx hb dX7_cook_61 hl (by decide) rfl (fun ls hl => ?_)
        refine lv_iload hx hb dX7_cook_63 (lv_at hl 0 rfl) ?_
        refine lv_if_eq (tgt := 73) hx hb dX7_cook_65 (by decide) (fun c_2 => ?_) (fun c_2 => ?_)
        · have hg := it_p hg c_2
          refine lv_iload_n hx hb dX7_cook_73 rfl (lv_at hl 4 rfl) ?_
          exact J74 v4 v5 v6 u0 v3 _ _ _ _ hg hw (lv_sub hl [1, 2, 3, 5, 6, 7, 0] rfl)
        · have hg := it_n hg c_2
          refine lv_iload hx hb dX7_cook_68 (lv_at hl 6 rfl) ?_
          refine lv_goto (tgt := 74) hx hb dX7_cook_70 (by decide) ?_
          exact J74 v4 v5 v6 u0 v5 _ _ _ _ hg hw (lv_sub hl [1, 2, 3, 5, 6, 7, 0] rfl)
      have J56 : ∀ (v3 : Int32) (v4 : Int32) (v5 : Int32) (v6 : Int32) (σ : Sg) (H : Heap) (locs : List Loc) (ls : Array Slot) (hg : g_X7_cook_b56 F (fun v3_ v4_ v5_ σ_ => g_X7_cook_l25 F v1 v2 n25 v3_ v4_ v5_ σ_) v1 v2 v3 v4 v5 v6 σ = some (σR, r)) (hw : XD G (gA G sz) s.heap σ H locs) (hl : lv_has ls 8 [(0, .ref (gAd G 0)), (1, .int v1), (2, .int v2), (3, .int v3), (4, .int v4), (5, .int v5), (6, .int v6)]), W p l e (headSpec wsX7_cook ({ frames := 7, cells := 0, slots := 0, locals := 168 } : Room)).room s m args below meth c H locs 0 0 (MQ below (QcI G (gA G sz) σR r) args s 0 0 (gA G sz)) (F0 m 56 ls []) := by
        intro v3 v4 v5 v6 σ H locs ls hg hw hl
        rw [g_X7_cook_b56] at hg
        refine lv_iconst (v := 1) hx hb dX7_cook_56 (by decide) ?_
        refine lv_goto (tgt := 61) hx hb dX7_cook_57 (by decide) ?_
        exact J61 v3 v4 v5 v6 1 _ _ _ _ hg hw (lv_sub hl [0, 1, 2, 3, 4, 5, 6] rfl)
      intro v3 v4 v5 σ H locs ls hg hw hl
      rw [g_X7_cook_l25] at hg
      refine lv_iload hx hb dX7_cook_25 (lv_at hl 5 rfl) ?_
      refine lv_bipush (v := 99) hx hb dX7_cook_27 (by decide) ?_
      refine lv_icmp_gt (tgt := 95) hx hb dX7_cook_29 (by decide) (fun c_3 => ?_) (fun c_3 => ?_)
      · have hg := it_p hg c_3
        refine lv_aload_n hx hb dX7_cook_95 rfl (lv_at hl 0 rfl) ?_
        refine lv_iload_n hx hb dX7_cook_96 rfl (lv_at hl 2 rfl) ?_
        obtain ⟨s_4, e_5, hg⟩ := wrF_e hg
        refine r_put (C := RX7) (T := TX7) (N := 43) S hK hw (kM_0 hG).1 (kM_0 hG).2 rfl hinX7 tyX7_ok nmX7 5 (by decide) rfl rfl rfl rfl (hts (.fieldLink RX7 19 "SoupByRankModel" "heat" "I") (by decide +kernel)) rfl e_5 dX7_cook_97 (fun H locs hw => ?_)
        refine lv_iload_n hx hb dX7_cook_100 rfl (lv_at hl 1 rfl) ?_
        refine lv_if_ne (tgt := 108) hx hb dX7_cook_101 (by decide) (fun c_6 => ?_) (fun c_6 => ?_)
        · have hg := it_n hg c_6
          refine lv_iload hx hb dX7_cook_108 (lv_at hl 4 rfl) ?_
          exact r_ireti S hr hlk hw.2.2.2.2 hw hg dX7_cook_110
        · have hg := it_p hg c_6
          refine lv_iload_n hx hb dX7_cook_104 rfl (lv_at hl 3 rfl) ?_
          refine lv_goto (tgt := 110) hx hb dX7_cook_105 (by decide) ?_
          exact r_ireti S hr hlk hw.2.2.2.2 hw hg dX7_cook_110
      · have hg := it_n hg c_3
        refine lv_aload_n hx hb dX7_cook_32 rfl (lv_at hl 0 rfl) ?_
        refine lv_iload hx hb dX7_cook_33 (lv_at hl 5 rfl) ?_
        obtain ⟨s_7, e_8, hg⟩ := wrF_e hg
        refine r_put (C := RX7) (T := TX7) (N := 43) S hK hw (kM_0 hG).1 (kM_0 hG).2 rfl hinX7 tyX7_ok nmX7 5 (by decide) rfl rfl rfl rfl (hts (.fieldLink RX7 19 "SoupByRankModel" "heat" "I") (by decide +kernel)) rfl e_8 dX7_cook_35 (fun H locs hw => ?_)
        refine lv_aload_n hx hb dX7_cook_38 rfl (lv_at hl 0 rfl) ?_
        obtain ⟨s_9, x_10, h_11, hg⟩ := bnI_e hg
        refine r_iV (As := []) (rest := []) S hA hK hw (c_X7_mindsNow l hG  h_11) (cwV 0 hts gX7_cook_X7_mindsNow rfl rfl rfl (by decide +kernel) ⟨Nat.le_of_ble_eq_true rfl, Nat.le_of_ble_eq_true rfl⟩) (r_recv hK hw (kM_0 hG).1 (kM_0 hG).2 rfl) rfl hl.1 (Nat.le_of_ble_eq_true rfl) dX7_cook_39 ⟨Nat.zero_le _, Nat.zero_le _⟩ rfl (fun H locs hw => ?_)
        refine lv_istore (lv' := [(6, .int x_10), (0, .ref (gAd G 0)), (1, .int v1), (2, .int v2), (3, .int v3), (4, .int v4), (5, .int v5)]) hx hb dX7_cook_42 hl (by decide) rfl (fun ls hl => ?_)
        refine lv_iload_n hx hb dX7_cook_44 rfl (lv_at hl 4 rfl) ?_
        refine lv_iconst (v := (-1)) hx hb dX7_cook_45 (by decide) ?_
        refine lv_icmp_eq (tgt := 56) hx hb dX7_cook_46 (by decide) (fun c_12 => ?_) (fun c_12 => ?_)
        · have hg := it_p hg c_12
          exact J56 v3 v4 v5 x_10 _ _ _ _ hg hw (lv_sub hl [1, 2, 3, 4, 5, 6, 0] rfl)
        · have hg := it_n hg c_12
          refine lv_iload hx hb dX7_cook_49 (lv_at hl 0 rfl) ?_
          refine lv_iload hx hb dX7_cook_51 (lv_at hl 5 rfl) ?_
          refine lv_icmp_ge (tgt := 60) hx hb dX7_cook_53 (by decide) (fun c_13 => ?_) (fun c_13 => ?_)
          · have hg := it_p hg c_13
            refine lv_iconst (v := 0) hx hb dX7_cook_60 (by decide) ?_
            exact J61 v3 v4 v5 x_10 0 _ _ _ _ hg hw (lv_sub hl [1, 2, 3, 4, 5, 6, 0] rfl)
          · have hg := it_n hg c_13
            exact J56 v3 v4 v5 x_10 _ _ _ _ hg hw (lv_sub hl [1, 2, 3, 4, 5, 6, 0] rfl)
  rw [g_X7_cook] at hg
  refine lv_iload_n hx hb dX7_cook_0 rfl (lv_at hl 1 rfl) ?_
  refine lv_iconst (v := 0) hx hb dX7_cook_1 (by decide) ?_
  refine lv_iconst (v := 1) hx hb dX7_cook_2 (by decide) ?_
  obtain ⟨s_14, x_15, h_16, hg⟩ := bnI_e hg
  refine r_iS (As := [.int a1, .int 0, .int 1]) (rest := []) S hA hK hw (c_X7_in l hG  h_16) (va_cwS 3 hts gX7_cook_X7_in rfl rfl rfl (by decide +kernel) ⟨Nat.le_of_ble_eq_true rfl, Nat.le_of_ble_eq_true rfl⟩) rfl hl.1 (Nat.le_of_ble_eq_true rfl) dX7_cook_3 ⟨Nat.zero_le _, Nat.zero_le _⟩ rfl (fun H locs hw => ?_)
  refine lv_if_ne (tgt := 12) hx hb dX7_cook_6 (by decide) (fun c_17 => ?_) (fun c_17 => ?_)
  · have hg := it_n hg c_17
    refine lv_aload_n hx hb dX7_cook_12 rfl (lv_at hl 0 rfl) ?_
    refine r_get (C := RX7) (T := TX7) (N := 43) S hK hw (kM_0 hG).1 (kM_0 hG).2 rfl hinX7 5 (by decide) rfl (hts (.fieldLink RX7 19 "SoupByRankModel" "heat" "I") (by decide +kernel)) rfl dX7_cook_13 ?_
    refine lv_istore_n (lv' := [(2, .int (s_14 0 5)), (0, .ref (gAd G 0)), (1, .int a1)]) hx hb dX7_cook_16 rfl hl (by decide) rfl (fun ls hl => ?_)
    refine lv_iconst (v := (-1)) hx hb dX7_cook_17 (by decide) ?_
    refine lv_istore_n (lv' := [(3, .int (-1)), (2, .int (s_14 0 5)), (0, .ref (gAd G 0)), (1, .int a1)]) hx hb dX7_cook_18 rfl hl (by decide) rfl (fun ls hl => ?_)
    refine lv_iconst (v := 0) hx hb dX7_cook_19 (by decide) ?_
    refine lv_istore (lv' := [(4, .int 0), (3, .int (-1)), (2, .int (s_14 0 5)), (0, .ref (gAd G 0)), (1, .int a1)]) hx hb dX7_cook_20 hl (by decide) rfl (fun ls hl => ?_)
    refine lv_iconst (v := 0) hx hb dX7_cook_22 (by decide) ?_
    refine lv_istore (lv' := [(5, .int 0), (4, .int 0), (3, .int (-1)), (2, .int (s_14 0 5)), (0, .ref (gAd G 0)), (1, .int a1)]) hx hb dX7_cook_23 hl (by decide) rfl (fun ls hl => ?_)
    exact L25 a1 (s_14 0 5) F _ _ _ _ _ _ _ hg hw (lv_sub hl [4, 5, 3, 2, 1, 0] rfl)
  · have hg := it_p hg c_17
    refine lv_ldc (v := (-100000)) hx hb hown (hts (.constant RX7 222 (-100000)) (by decide +kernel)) dX7_cook_9 ?_
    exact r_ireti S hr hlk hw.2.2.2.2 hw hg dX7_cook_11
set_option maxHeartbeats 4000000 in
set_option maxRecDepth 100000 in
theorem c_X7_change (l : Launch) {G : GW} (hG : isM G) {F sz : Nat} {a1 : Int32} {a2 : Int32} {σ σR : Sg} (hg : g_X7_change F a1 a2 σ = some σR) : Met l yX7_change wsX7_change ({ frames := 0, cells := 0, slots := 0, locals := 0 } : Room) (va_Pc [.ref (gAd G 0), .int a1, .int a2] (PX G σ sz)) (QcV G (gA G sz) σR) 0 0 (gA G sz) := by
  refine metX (by decide) rfl (Nat.le_of_ble_eq_true rfl) ?_
  intro p e s m args below meth c ls S hr hlk hsz hA hK hw hl hmn
  have S : CallFix p m c cX7_change 4 s args wsX7_change RX7 := S
  obtain ⟨hx, hb, hml, hown, hts⟩ := id S
  have hl : lv_has ls 4 [(0, .ref (gAd G 0)), (1, .int a1), (2, .int a2)] := hl
  have hinX7 : ∀ w ∈ wsX70, w ∈ wsX7_change := by decide +kernel
  rw [g_X7_change] at hg
  refine lv_aload_n hx hb dX7_change_0 rfl (lv_at hl 0 rfl) ?_
  refine r_getr (C := RX7) (T := TX7) (N := 43) (k' := 3) S hK hw (kM_0 hG).1 (kM_0 hG).2 rfl hinX7 3 (by decide) (o := 3) rfl rfl (hts (.fieldLink RX7 16 "SoupByRankModel" "rows" "[I") (by decide +kernel)) rfl dX7_change_1 ?_
  refine lv_iconst (v := 2) hx hb dX7_change_4 (by decide) ?_
  refine lv_iload_n hx hb dX7_change_5 rfl (lv_at hl 1 rfl) ?_
  refine lv_imul hx hb dX7_change_6 ?_
  obtain ⟨h_2, x_1, e_3, hg⟩ := rdA_e hg
  refine r_iald S hK hw (kM_3 hG).1 (kM_3 hG).2 h_2 e_3 dX7_change_7 ?_
  refine lv_istore_n (lv' := [(3, .int x_1), (0, .ref (gAd G 0)), (1, .int a1), (2, .int a2)]) hx hb dX7_change_8 rfl hl (by decide) rfl (fun ls hl => ?_)
  refine lv_aload_n hx hb dX7_change_9 rfl (lv_at hl 1 rfl) ?_
  refine r_getr (C := RX7) (T := TX7) (N := 43) (k' := 3) S hK hw (kM_0 hG).1 (kM_0 hG).2 rfl hinX7 3 (by decide) (o := 3) rfl rfl (hts (.fieldLink RX7 16 "SoupByRankModel" "rows" "[I") (by decide +kernel)) rfl dX7_change_10 ?_
  refine lv_iconst (v := 2) hx hb dX7_change_13 (by decide) ?_
  refine lv_iload_n hx hb dX7_change_14 rfl (lv_at hl 2 rfl) ?_
  refine lv_imul hx hb dX7_change_15 ?_
  refine lv_aload_n hx hb dX7_change_16 rfl (lv_at hl 1 rfl) ?_
  refine r_getr (C := RX7) (T := TX7) (N := 43) (k' := 3) S hK hw (kM_0 hG).1 (kM_0 hG).2 rfl hinX7 3 (by decide) (o := 3) rfl rfl (hts (.fieldLink RX7 16 "SoupByRankModel" "rows" "[I") (by decide +kernel)) rfl dX7_change_17 ?_
  refine lv_iconst (v := 2) hx hb dX7_change_20 (by decide) ?_
  refine lv_iload_n hx hb dX7_change_21 rfl (lv_at hl 3 rfl) ?_
  refine lv_imul hx hb dX7_change_22 ?_
  obtain ⟨h_5, x_4, e_6, hg⟩ := rdA_e hg
  refine r_iald S hK hw (kM_3 hG).1 (kM_3 hG).2 h_5 e_6 dX7_change_23 ?_
  obtain ⟨h_8, s_7, e_9, hg⟩ := wrA_e hg
  refine r_iast S hK hw (kM_3 hG).1 (kM_3 hG).2 h_8 e_9 dX7_change_24 (fun H locs hw => ?_)
  refine lv_aload_n hx hb dX7_change_25 rfl (lv_at hl 1 rfl) ?_
  refine r_getr (C := RX7) (T := TX7) (N := 43) (k' := 3) S hK hw (kM_0 hG).1 (kM_0 hG).2 rfl hinX7 3 (by decide) (o := 3) rfl rfl (hts (.fieldLink RX7 16 "SoupByRankModel" "rows" "[I") (by decide +kernel)) rfl dX7_change_26 ?_
  refine lv_iconst (v := 2) hx hb dX7_change_29 (by decide) ?_
  refine lv_iload_n hx hb dX7_change_30 rfl (lv_at hl 3 rfl) ?_
  refine lv_imul hx hb dX7_change_31 ?_
  refine lv_iload_n hx hb dX7_change_32 rfl (lv_at hl 0 rfl) ?_
  obtain ⟨h_11, s_10, e_12, hg⟩ := wrA_e hg
  refine r_iast S hK hw (kM_3 hG).1 (kM_3 hG).2 h_11 e_12 dX7_change_33 (fun H locs hw => ?_)
  exact r_vreti S hr hlk hw.2.2.2.2 hw hg dX7_change_34
set_option maxHeartbeats 4000000 in
set_option maxRecDepth 100000 in
theorem c_X7_raise (l : Launch) {G : GW} (hG : isM G) {F sz : Nat} {a1 : Int32} {σ σR : Sg} {r : Int32} (hg : g_X7_raise F a1 σ = some (σR, r)) : Met l yX7_raise wsX7_raise ({ frames := 7, cells := 0, slots := 0, locals := 168 } : Room) (va_Pc [.ref (gAd G 0), .int a1] (PX G σ sz)) (QcI G (gA G sz) σR r) 0 0 (gA G sz) := by
  refine metX (by decide) rfl (Nat.le_of_ble_eq_true rfl) ?_
  intro p e s m args below meth c ls S hr hlk hsz hA hK hw hl hmn
  have S : CallFix p m c cX7_raise 7 s args wsX7_raise RX7 := S
  obtain ⟨hx, hb, hml, hown, hts⟩ := id S
  have hl : lv_has ls 7 [(0, .ref (gAd G 0)), (1, .int a1)] := hl
  have hinX7 : ∀ w ∈ wsX70, w ∈ wsX7_raise := by decide +kernel
  have L22 : ∀ (v1 : Int32) (n22 : Nat) (v2 : Int32) (v3 : Int32) (v4 : Int32) (σ : Sg) (H : Heap) (locs : List Loc) (ls : Array Slot) (hg : g_X7_raise_l22 F v1 n22 v2 v3 v4 σ = some (σR, r)) (hw : XD G (gA G sz) s.heap σ H locs) (hl : lv_has ls 7 [(0, .ref (gAd G 0)), (1, .int v1), (2, .int v2), (3, .int v3), (4, .int v4)]), W p l e (headSpec wsX7_raise ({ frames := 7, cells := 0, slots := 0, locals := 168 } : Room)).room s m args below meth c H locs 0 0 (MQ below (QcI G (gA G sz) σR r) args s 0 0 (gA G sz)) (F0 m 22 ls []) := by
    intro v1
    intro n22
    induction n22 with
    | zero => intro v2 v3 v4 σ H locs ls hg hw hl; exact no_e hg
    | succ n22 ih22 =>
      have L37 : ∀ (v4 : Int32) (n37 : Nat) (v2 : Int32) (v3 : Int32) (v5 : Int32) (σ : Sg) (H : Heap) (locs : List Loc) (ls : Array Slot) (hg : g_X7_raise_l37 F (fun v2_ v3_ v4_ σ_ => g_X7_raise_l22 F v1 n22 v2_ v3_ v4_ σ_) v1 v4 n37 v2 v3 v5 σ = some (σR, r)) (hw : XD G (gA G sz) s.heap σ H locs) (hl : lv_has ls 7 [(0, .ref (gAd G 0)), (1, .int v1), (2, .int v2), (3, .int v3), (4, .int v4), (5, .int v5)]), W p l e (headSpec wsX7_raise ({ frames := 7, cells := 0, slots := 0, locals := 168 } : Room)).room s m args below meth c H locs 0 0 (MQ below (QcI G (gA G sz) σR r) args s 0 0 (gA G sz)) (F0 m 37 ls []) := by
        intro v4
        intro n37
        induction n37 with
        | zero => intro v2 v3 v5 σ H locs ls hg hw hl; exact no_e hg
        | succ n37 ih37 =>
          have J99 : ∀ (v2 : Int32) (v5 : Int32) (u0 : Int32) (σ : Sg) (H : Heap) (locs : List Loc) (ls : Array Slot) (hg : g_X7_raise_b99 F (fun v2_ v3_ v4_ σ_ => g_X7_raise_l22 F v1 n22 v2_ v3_ v4_ σ_) (fun v2_ v3_ v5_ σ_ => g_X7_raise_l37 F (fun v2_ v3_ v4_ σ_ => g_X7_raise_l22 F v1 n22 v2_ v3_ v4_ σ_) v1 v4 n37 v2_ v3_ v5_ σ_) v1 v2 v4 v5 u0 σ = some (σR, r)) (hw : XD G (gA G sz) s.heap σ H locs) (hl : lv_has ls 7 [(0, .ref (gAd G 0)), (1, .int v1), (2, .int v2), (4, .int v4), (5, .int v5)]), W p l e (headSpec wsX7_raise ({ frames := 7, cells := 0, slots := 0, locals := 168 } : Room)).room s m args below meth c H locs 0 0 (MQ below (QcI G (gA G sz) σR r) args s 0 0 (gA G sz)) (F0 m 99 ls [.int u0]) := by
            intro v2 v5 u0 σ H locs ls hg hw hl
            rw [g_X7_raise_b99] at hg
            refine lv_istore_n (lv' := [(3, .int u0), (0, .ref (gAd G 0)), (1, .int v1), (2, .int v2), (4, .int v4), (5, .int v5)]) hx hb dX7_raise_99 rfl hl (by decide) rfl (fun ls hl => ?_)
            refine lv_iinc (v := (v5 + 1)) (lv' := [(5, .int (v5 + 1)), (3, .int u0), (0, .ref (gAd G 0)), (1, .int v1), (2, .int v2), (4, .int v4)]) hx hb dX7_raise_100 hl (k := 5) rfl rfl (by decide) rfl (fun ls hl => ?_)
            refine lv_goto (tgt := 37) hx hb dX7_raise_103 (by decide) ?_
            exact ih37 _ _ _ _ _ _ _ hg hw (lv_sub hl [2, 3, 4, 1, 5, 0] rfl)
          have J86 : ∀ (v3 : Int32) (v5 : Int32) (v6 : Int32) (u0 : Int32) (σ : Sg) (H : Heap) (locs : List Loc) (ls : Array Slot) (hg : g_X7_raise_b86 F (fun v2_ v3_ v4_ σ_ => g_X7_raise_l22 F v1 n22 v2_ v3_ v4_ σ_) (fun v2_ v3_ v5_ σ_ => g_X7_raise_l37 F (fun v2_ v3_ v4_ σ_ => g_X7_raise_l22 F v1 n22 v2_ v3_ v4_ σ_) v1 v4 n37 v2_ v3_ v5_ σ_) v1 v3 v4 v5 v6 u0 σ = some (σR, r)) (hw : XD G (gA G sz) s.heap σ H locs) (hl : lv_has ls 7 [(0, .ref (gAd G 0)), (1, .int v1), (3, .int v3), (4, .int v4), (5, .int v5), (6, .int v6)]), W p l e (headSpec wsX7_raise ({ frames := 7, cells := 0, slots := 0, locals := 168 } : Room)).room s m args below meth c H locs 0 0 (MQ below (QcI G (gA G sz) σR r) args s 0 0 (gA G sz)) (F0 m 86 ls [.int u0]) := by
            intro v3 v5 v6 u0 σ H locs ls hg hw hl
            rw [g_X7_raise_b86] at hg
            refine lv_istore_n (lv' := [(2, .int u0), (0, .ref (gAd G 0)), (1, .int v1), (3, .int v3), (4, .int v4), (5, .int v5), (6, .int v6)]) hx hb dX7_raise_86 rfl hl (by decide) rfl (fun ls hl => ?_)
            refine lv_iload hx hb dX7_raise_87 (lv_at hl 6 rfl) ?_
            refine lv_iload_n hx hb dX7_raise_89 rfl (lv_at hl 3 rfl) ?_
            refine lv_icmp_ge (tgt := 98) hx hb dX7_raise_90 (by decide) (fun c_1 => ?_) (fun c_1 => ?_)
            · have hg := it_p hg c_1
              refine lv_iload_n hx hb dX7_raise_98 rfl (lv_at hl 3 rfl) ?_
              exact J99 u0 v5 v3 _ _ _ _ hg hw (lv_sub hl [1, 2, 0, 4, 5] rfl)
            · have hg := it_n hg c_1
              refine lv_iload hx hb dX7_raise_93 (lv_at hl 6 rfl) ?_
              refine lv_goto (tgt := 99) hx hb dX7_raise_95 (by decide) ?_
              exact J99 u0 v5 v6 _ _ _ _ hg hw (lv_sub hl [1, 2, 0, 4, 5] rfl)
          intro v2 v3 v5 σ H locs ls hg hw hl
          rw [g_X7_raise_l37] at hg
          refine lv_iload hx hb dX7_raise_37 (lv_at hl 5 rfl) ?_
          refine lv_aload_n hx hb dX7_raise_39 rfl (lv_at hl 0 rfl) ?_
          refine r_get (C := RX7) (T := TX7) (N := 43) S hK hw (kM_0 hG).1 (kM_0 hG).2 rfl hinX7 0 (by decide) rfl (hts (.fieldLink RX7 90 "SoupByRankModel" "courtiers" "I") (by decide +kernel)) rfl dX7_raise_40 ?_
          refine lv_icmp_ge (tgt := 106) hx hb dX7_raise_43 (by decide) (fun c_2 => ?_) (fun c_2 => ?_)
          · have hg := it_p hg c_2
            refine lv_iinc (v := (v4 + 1)) (lv' := [(4, .int (v4 + 1)), (0, .ref (gAd G 0)), (1, .int v1), (2, .int v2), (3, .int v3), (5, .int v5)]) hx hb dX7_raise_106 hl (k := 4) rfl rfl (by decide) rfl (fun ls hl => ?_)
            refine lv_goto (tgt := 22) hx hb dX7_raise_109 (by decide) ?_
            exact ih22 _ _ _ _ _ _ _ hg hw (lv_sub hl [1, 2, 3, 4, 0] rfl)
          · have hg := it_n hg c_2
            refine lv_aload_n hx hb dX7_raise_46 rfl (lv_at hl 0 rfl) ?_
            refine lv_iload hx hb dX7_raise_47 (lv_at hl 4 rfl) ?_
            refine lv_iload hx hb dX7_raise_49 (lv_at hl 5 rfl) ?_
            obtain ⟨s_3, h_5, hg⟩ := bnV_e hg
            refine r_vV (As := [.int v4, .int v5]) (rest := []) S hA hK hw (c_X7_change l hG  h_5) (cwV 2 hts gX7_raise_X7_change rfl rfl rfl (by decide +kernel) ⟨Nat.le_of_ble_eq_true rfl, Nat.le_of_ble_eq_true rfl⟩) (r_recv hK hw (kM_0 hG).1 (kM_0 hG).2 rfl) rfl hl.1 (Nat.le_of_ble_eq_true rfl) dX7_raise_51 ⟨Nat.zero_le _, Nat.zero_le _⟩ rfl (fun H locs hw => ?_)
            refine lv_aload_n hx hb dX7_raise_54 rfl (lv_at hl 0 rfl) ?_
            obtain ⟨s_6, x_7, h_8, hg⟩ := bnI_e hg
            refine r_iV (As := []) (rest := []) S hA hK hw (c_X7_mindsNow l hG  h_8) (cwV 0 hts gX7_raise_X7_mindsNow rfl rfl rfl (by decide +kernel) ⟨Nat.le_of_ble_eq_true rfl, Nat.le_of_ble_eq_true rfl⟩) (r_recv hK hw (kM_0 hG).1 (kM_0 hG).2 rfl) rfl hl.1 (Nat.le_of_ble_eq_true rfl) dX7_raise_55 ⟨Nat.zero_le _, Nat.zero_le _⟩ rfl (fun H locs hw => ?_)
            refine lv_istore (lv' := [(6, .int x_7), (0, .ref (gAd G 0)), (1, .int v1), (2, .int v2), (3, .int v3), (4, .int v4), (5, .int v5)]) hx hb dX7_raise_58 hl (by decide) rfl (fun ls hl => ?_)
            refine lv_aload_n hx hb dX7_raise_60 rfl (lv_at hl 1 rfl) ?_
            refine lv_iload hx hb dX7_raise_61 (lv_at hl 5 rfl) ?_
            refine lv_iload hx hb dX7_raise_63 (lv_at hl 6 rfl) ?_
            obtain ⟨s_9, h_11, hg⟩ := bnV_e hg
            refine r_vV (As := [.int v4, .int v5]) (rest := []) S hA hK hw (c_X7_change l hG  h_11) (cwV 2 hts gX7_raise_X7_change rfl rfl rfl (by decide +kernel) ⟨Nat.le_of_ble_eq_true rfl, Nat.le_of_ble_eq_true rfl⟩) (r_recv hK hw (kM_0 hG).1 (kM_0 hG).2 rfl) rfl hl.1 (Nat.le_of_ble_eq_true rfl) dX7_raise_65 ⟨Nat.zero_le _, Nat.zero_le _⟩ rfl (fun H locs hw => ?_)
            refine lv_iload hx hb dX7_raise_68 (lv_at hl 0 rfl) ?_
            refine lv_iload_n hx hb dX7_raise_70 rfl (lv_at hl 4 rfl) ?_
            refine lv_icmp_ge (tgt := 85) hx hb dX7_raise_71 (by decide) (fun c_12 => ?_) (fun c_12 => ?_)
            · have hg := it_p hg c_12
              refine lv_iload_n hx hb dX7_raise_85 rfl (lv_at hl 3 rfl) ?_
              exact J86 v3 v5 x_7 v2 _ _ _ _ hg hw (lv_sub hl [1, 2, 4, 5, 6, 0] rfl)
            · have hg := it_n hg c_12
              refine lv_bipush (v := 10) hx hb dX7_raise_74 (by decide) ?_
              refine lv_iload hx hb dX7_raise_76 (lv_at hl 5 rfl) ?_
              refine lv_imul hx hb dX7_raise_78 ?_
              refine lv_iload hx hb dX7_raise_79 (lv_at hl 6 rfl) ?_
              refine lv_iadd hx hb dX7_raise_81 ?_
              refine lv_goto (tgt := 86) hx hb dX7_raise_82 (by decide) ?_
              exact J86 v3 v5 x_7 ((10 * v4) + v5) _ _ _ _ hg hw (lv_sub hl [1, 2, 4, 5, 6, 0] rfl)
      intro v2 v3 v4 σ H locs ls hg hw hl
      rw [g_X7_raise_l22] at hg
      refine lv_iload hx hb dX7_raise_22 (lv_at hl 4 rfl) ?_
      refine lv_aload_n hx hb dX7_raise_24 rfl (lv_at hl 0 rfl) ?_
      refine r_get (C := RX7) (T := TX7) (N := 43) S hK hw (kM_0 hG).1 (kM_0 hG).2 rfl hinX7 0 (by decide) rfl (hts (.fieldLink RX7 90 "SoupByRankModel" "courtiers" "I") (by decide +kernel)) rfl dX7_raise_25 ?_
      refine lv_icmp_ge (tgt := 112) hx hb dX7_raise_28 (by decide) (fun c_13 => ?_) (fun c_13 => ?_)
      · have hg := it_p hg c_13
        refine lv_iload_n hx hb dX7_raise_112 rfl (lv_at hl 1 rfl) ?_
        refine lv_if_ne (tgt := 120) hx hb dX7_raise_113 (by decide) (fun c_14 => ?_) (fun c_14 => ?_)
        · have hg := it_n hg c_14
          refine lv_iload_n hx hb dX7_raise_120 rfl (lv_at hl 3 rfl) ?_
          exact r_ireti S hr hlk hw.2.2.2.2 hw hg dX7_raise_121
        · have hg := it_p hg c_14
          refine lv_iload_n hx hb dX7_raise_116 rfl (lv_at hl 2 rfl) ?_
          refine lv_goto (tgt := 121) hx hb dX7_raise_117 (by decide) ?_
          exact r_ireti S hr hlk hw.2.2.2.2 hw hg dX7_raise_121
      · have hg := it_n hg c_13
        refine lv_iload hx hb dX7_raise_31 (lv_at hl 4 rfl) ?_
        refine lv_iconst (v := 1) hx hb dX7_raise_33 (by decide) ?_
        refine lv_iadd hx hb dX7_raise_34 ?_
        refine lv_istore (lv' := [(5, .int (v4 + 1)), (0, .ref (gAd G 0)), (1, .int v1), (2, .int v2), (3, .int v3), (4, .int v4)]) hx hb dX7_raise_35 hl (by decide) rfl (fun ls hl => ?_)
        exact L37 v4 F _ _ _ _ _ _ _ hg hw (lv_sub hl [1, 2, 3, 4, 5, 0] rfl)
  rw [g_X7_raise] at hg
  refine lv_iload_n hx hb dX7_raise_0 rfl (lv_at hl 1 rfl) ?_
  refine lv_iconst (v := 0) hx hb dX7_raise_1 (by decide) ?_
  refine lv_iconst (v := 1) hx hb dX7_raise_2 (by decide) ?_
  obtain ⟨s_15, x_16, h_17, hg⟩ := bnI_e hg
  refine r_iS (As := [.int a1, .int 0, .int 1]) (rest := []) S hA hK hw (c_X7_in l hG  h_17) (va_cwS 3 hts gX7_raise_X7_in rfl rfl rfl (by decide +kernel) ⟨Nat.le_of_ble_eq_true rfl, Nat.le_of_ble_eq_true rfl⟩) rfl hl.1 (Nat.le_of_ble_eq_true rfl) dX7_raise_3 ⟨Nat.zero_le _, Nat.zero_le _⟩ rfl (fun H locs hw => ?_)
  refine lv_if_ne (tgt := 12) hx hb dX7_raise_6 (by decide) (fun c_18 => ?_) (fun c_18 => ?_)
  · have hg := it_n hg c_18
    refine lv_iconst (v := (-1)) hx hb dX7_raise_12 (by decide) ?_
    refine lv_istore_n (lv' := [(2, .int (-1)), (0, .ref (gAd G 0)), (1, .int a1)]) hx hb dX7_raise_13 rfl hl (by decide) rfl (fun ls hl => ?_)
    refine lv_aload_n hx hb dX7_raise_14 rfl (lv_at hl 1 rfl) ?_
    obtain ⟨s_19, x_20, h_21, hg⟩ := bnI_e hg
    refine r_iV (As := []) (rest := []) S hA hK hw (c_X7_mindsNow l hG  h_21) (cwV 0 hts gX7_raise_X7_mindsNow rfl rfl rfl (by decide +kernel) ⟨Nat.le_of_ble_eq_true rfl, Nat.le_of_ble_eq_true rfl⟩) (r_recv hK hw (kM_0 hG).1 (kM_0 hG).2 rfl) rfl hl.1 (Nat.le_of_ble_eq_true rfl) dX7_raise_15 ⟨Nat.zero_le _, Nat.zero_le _⟩ rfl (fun H locs hw => ?_)
    refine lv_istore_n (lv' := [(3, .int x_20), (2, .int (-1)), (0, .ref (gAd G 0)), (1, .int a1)]) hx hb dX7_raise_18 rfl hl (by decide) rfl (fun ls hl => ?_)
    refine lv_iconst (v := 0) hx hb dX7_raise_19 (by decide) ?_
    refine lv_istore (lv' := [(4, .int 0), (3, .int x_20), (2, .int (-1)), (0, .ref (gAd G 0)), (1, .int a1)]) hx hb dX7_raise_20 hl (by decide) rfl (fun ls hl => ?_)
    exact L22 a1 F _ _ _ _ _ _ _ hg hw (lv_sub hl [3, 4, 2, 1, 0] rfl)
  · have hg := it_p hg c_18
    refine lv_ldc (v := (-100000)) hx hb hown (hts (.constant RX7 222 (-100000)) (by decide +kernel)) dX7_raise_9 ?_
    exact r_ireti S hr hlk hw.2.2.2.2 hw hg dX7_raise_11
set_option maxHeartbeats 4000000 in
set_option maxRecDepth 100000 in
theorem c_X7_exile (l : Launch) {G : GW} (hG : isM G) {F sz : Nat} {a1 : Int32} {σ σR : Sg} {r : Int32} (hg : g_X7_exile F a1 σ = some (σR, r)) : Met l yX7_exile wsX7_exile ({ frames := 7, cells := 0, slots := 0, locals := 168 } : Room) (va_Pc [.ref (gAd G 0), .int a1] (PX G σ sz)) (QcI G (gA G sz) σR r) 0 0 (gA G sz) := by
  refine metX (by decide) rfl (Nat.le_of_ble_eq_true rfl) ?_
  intro p e s m args below meth c ls S hr hlk hsz hA hK hw hl hmn
  have S : CallFix p m c cX7_exile 5 s args wsX7_exile RX7 := S
  obtain ⟨hx, hb, hml, hown, hts⟩ := id S
  have hl : lv_has ls 5 [(0, .ref (gAd G 0)), (1, .int a1)] := hl
  have hinX7 : ∀ w ∈ wsX70, w ∈ wsX7_exile := by decide +kernel
  have L22 : ∀ (v1 : Int32) (n22 : Nat) (v2 : Int32) (v3 : Int32) (v4 : Int32) (σ : Sg) (H : Heap) (locs : List Loc) (ls : Array Slot) (hg : g_X7_exile_l22 F v1 n22 v2 v3 v4 σ = some (σR, r)) (hw : XD G (gA G sz) s.heap σ H locs) (hl : lv_has ls 5 [(0, .ref (gAd G 0)), (1, .int v1), (2, .int v2), (3, .int v3), (4, .int v4)]), W p l e (headSpec wsX7_exile ({ frames := 7, cells := 0, slots := 0, locals := 168 } : Room)).room s m args below meth c H locs 0 0 (MQ below (QcI G (gA G sz) σR r) args s 0 0 (gA G sz)) (F0 m 22 ls []) := by
    intro v1
    intro n22
    induction n22 with
    | zero => intro v2 v3 v4 σ H locs ls hg hw hl; exact no_e hg
    | succ n22 ih22 =>
      have J68 : ∀ (v2 : Int32) (v4 : Int32) (u0 : Int32) (σ : Sg) (H : Heap) (locs : List Loc) (ls : Array Slot) (hg : g_X7_exile_b68 F (fun v2_ v3_ v4_ σ_ => g_X7_exile_l22 F v1 n22 v2_ v3_ v4_ σ_) v1 v2 v4 u0 σ = some (σR, r)) (hw : XD G (gA G sz) s.heap σ H locs) (hl : lv_has ls 5 [(0, .ref (gAd G 0)), (1, .int v1), (2, .int v2), (4, .int v4)]), W p l e (headSpec wsX7_exile ({ frames := 7, cells := 0, slots := 0, locals := 168 } : Room)).room s m args below meth c H locs 0 0 (MQ below (QcI G (gA G sz) σR r) args s 0 0 (gA G sz)) (F0 m 68 ls [.int u0]) := by
        intro v2 v4 u0 σ H locs ls hg hw hl
        rw [g_X7_exile_b68] at hg
        refine lv_istore_n (lv' := [(3, .int u0), (0, .ref (gAd G 0)), (1, .int v1), (2, .int v2), (4, .int v4)]) hx hb dX7_exile_68 rfl hl (by decide) rfl (fun ls hl => ?_)
        refine lv_iinc (v := (v4 + 1)) (lv' := [(4, .int (v4 + 1)), (3, .int u0), (0, .ref (gAd G 0)), (1, .int v1), (2, .int v2)]) hx hb dX7_exile_69 hl (k := 4) rfl rfl (by decide) rfl (fun ls hl => ?_)
        refine lv_goto (tgt := 22) hx hb dX7_exile_72 (by decide) ?_
        exact ih22 _ _ _ _ _ _ _ hg hw (lv_sub hl [2, 3, 4, 1, 0] rfl)
      have J51 : ∀ (v3 : Int32) (v4 : Int32) (u0 : Int32) (σ : Sg) (H : Heap) (locs : List Loc) (ls : Array Slot) (hg : g_X7_exile_b51 F (fun v2_ v3_ v4_ σ_ => g_X7_exile_l22 F v1 n22 v2_ v3_ v4_ σ_) v1 v3 v4 u0 σ = some (σR, r)) (hw : XD G (gA G sz) s.heap σ H locs) (hl : lv_has ls 5 [(0, .ref (gAd G 0)), (1, .int v1), (3, .int v3), (4, .int v4)]), W p l e (headSpec wsX7_exile ({ frames := 7, cells := 0, slots := 0, locals := 168 } : Room)).room s m args below meth c H locs 0 0 (MQ below (QcI G (gA G sz) σR r) args s 0 0 (gA G sz)) (F0 m 51 ls [.int u0]) := by
        intro v3 v4 u0 σ H locs ls hg hw hl
        rw [g_X7_exile_b51] at hg
        refine lv_istore_n (lv' := [(2, .int u0), (0, .ref (gAd G 0)), (1, .int v1), (3, .int v3), (4, .int v4)]) hx hb dX7_exile_51 rfl hl (by decide) rfl (fun ls hl => ?_)
        refine lv_aload_n hx hb dX7_exile_52 rfl (lv_at hl 1 rfl) ?_
        refine r_get (C := RX7) (T := TX7) (N := 43) S hK hw (kM_0 hG).1 (kM_0 hG).2 rfl hinX7 38 (by decide) rfl (hts (.fieldLink RX7 200 "SoupByRankModel" "mindsAll" "I") (by decide +kernel)) rfl dX7_exile_53 ?_
        refine lv_iload_n hx hb dX7_exile_56 rfl (lv_at hl 3 rfl) ?_
        refine lv_icmp_ge (tgt := 67) hx hb dX7_exile_57 (by decide) (fun c_1 => ?_) (fun c_1 => ?_)
        · have hg := it_p hg c_1
          refine lv_iload_n hx hb dX7_exile_67 rfl (lv_at hl 3 rfl) ?_
          exact J68 u0 v4 v3 _ _ _ _ hg hw (lv_sub hl [1, 2, 0, 4] rfl)
        · have hg := it_n hg c_1
          refine lv_aload_n hx hb dX7_exile_60 rfl (lv_at hl 1 rfl) ?_
          refine r_get (C := RX7) (T := TX7) (N := 43) S hK hw (kM_0 hG).1 (kM_0 hG).2 rfl hinX7 38 (by decide) rfl (hts (.fieldLink RX7 200 "SoupByRankModel" "mindsAll" "I") (by decide +kernel)) rfl dX7_exile_61 ?_
          refine lv_goto (tgt := 68) hx hb dX7_exile_64 (by decide) ?_
          exact J68 u0 v4 (σ 0 38) _ _ _ _ hg hw (lv_sub hl [1, 2, 0, 4] rfl)
      intro v2 v3 v4 σ H locs ls hg hw hl
      rw [g_X7_exile_l22] at hg
      refine lv_iload hx hb dX7_exile_22 (lv_at hl 4 rfl) ?_
      refine lv_aload_n hx hb dX7_exile_24 rfl (lv_at hl 0 rfl) ?_
      refine r_get (C := RX7) (T := TX7) (N := 43) S hK hw (kM_0 hG).1 (kM_0 hG).2 rfl hinX7 0 (by decide) rfl (hts (.fieldLink RX7 90 "SoupByRankModel" "courtiers" "I") (by decide +kernel)) rfl dX7_exile_25 ?_
      refine lv_icmp_ge (tgt := 75) hx hb dX7_exile_28 (by decide) (fun c_2 => ?_) (fun c_2 => ?_)
      · have hg := it_p hg c_2
        refine lv_iload_n hx hb dX7_exile_75 rfl (lv_at hl 1 rfl) ?_
        refine lv_if_ne (tgt := 83) hx hb dX7_exile_76 (by decide) (fun c_3 => ?_) (fun c_3 => ?_)
        · have hg := it_n hg c_3
          refine lv_iload_n hx hb dX7_exile_83 rfl (lv_at hl 3 rfl) ?_
          exact r_ireti S hr hlk hw.2.2.2.2 hw hg dX7_exile_84
        · have hg := it_p hg c_3
          refine lv_iload_n hx hb dX7_exile_79 rfl (lv_at hl 2 rfl) ?_
          refine lv_goto (tgt := 84) hx hb dX7_exile_80 (by decide) ?_
          exact r_ireti S hr hlk hw.2.2.2.2 hw hg dX7_exile_84
      · have hg := it_n hg c_2
        refine lv_aload_n hx hb dX7_exile_31 rfl (lv_at hl 0 rfl) ?_
        refine lv_iload hx hb dX7_exile_32 (lv_at hl 4 rfl) ?_
        obtain ⟨s_4, h_6, hg⟩ := bnV_e hg
        refine r_vV (As := [.int v4]) (rest := []) S hA hK hw (c_X7_sups l hG  h_6) (cwV 1 hts gX7_exile_X7_sups rfl rfl rfl (by decide +kernel) ⟨Nat.le_of_ble_eq_true rfl, Nat.le_of_ble_eq_true rfl⟩) (r_recv hK hw (kM_0 hG).1 (kM_0 hG).2 rfl) rfl hl.1 (Nat.le_of_ble_eq_true rfl) dX7_exile_34 ⟨Nat.zero_le _, Nat.zero_le _⟩ rfl (fun H locs hw => ?_)
        refine lv_aload_n hx hb dX7_exile_37 rfl (lv_at hl 0 rfl) ?_
        refine r_get (C := RX7) (T := TX7) (N := 43) S hK hw (kM_0 hG).1 (kM_0 hG).2 rfl hinX7 38 (by decide) rfl (hts (.fieldLink RX7 200 "SoupByRankModel" "mindsAll" "I") (by decide +kernel)) rfl dX7_exile_38 ?_
        refine lv_iload_n hx hb dX7_exile_41 rfl (lv_at hl 3 rfl) ?_
        refine lv_icmp_ge (tgt := 50) hx hb dX7_exile_42 (by decide) (fun c_7 => ?_) (fun c_7 => ?_)
        · have hg := it_p hg c_7
          refine lv_iload_n hx hb dX7_exile_50 rfl (lv_at hl 2 rfl) ?_
          exact J51 v3 v4 v2 _ _ _ _ hg hw (lv_sub hl [0, 1, 3, 4] rfl)
        · have hg := it_n hg c_7
          refine lv_iload hx hb dX7_exile_45 (lv_at hl 4 rfl) ?_
          refine lv_goto (tgt := 51) hx hb dX7_exile_47 (by decide) ?_
          exact J51 v3 v4 v4 _ _ _ _ hg hw (lv_sub hl [0, 1, 3, 4] rfl)
  rw [g_X7_exile] at hg
  refine lv_iload_n hx hb dX7_exile_0 rfl (lv_at hl 1 rfl) ?_
  refine lv_iconst (v := 0) hx hb dX7_exile_1 (by decide) ?_
  refine lv_iconst (v := 1) hx hb dX7_exile_2 (by decide) ?_
  obtain ⟨s_8, x_9, h_10, hg⟩ := bnI_e hg
  refine r_iS (As := [.int a1, .int 0, .int 1]) (rest := []) S hA hK hw (c_X7_in l hG  h_10) (va_cwS 3 hts gX7_exile_X7_in rfl rfl rfl (by decide +kernel) ⟨Nat.le_of_ble_eq_true rfl, Nat.le_of_ble_eq_true rfl⟩) rfl hl.1 (Nat.le_of_ble_eq_true rfl) dX7_exile_3 ⟨Nat.zero_le _, Nat.zero_le _⟩ rfl (fun H locs hw => ?_)
  refine lv_if_ne (tgt := 12) hx hb dX7_exile_6 (by decide) (fun c_11 => ?_) (fun c_11 => ?_)
  · have hg := it_n hg c_11
    refine lv_iconst (v := (-1)) hx hb dX7_exile_12 (by decide) ?_
    refine lv_istore_n (lv' := [(2, .int (-1)), (0, .ref (gAd G 0)), (1, .int a1)]) hx hb dX7_exile_13 rfl hl (by decide) rfl (fun ls hl => ?_)
    refine lv_aload_n hx hb dX7_exile_14 rfl (lv_at hl 1 rfl) ?_
    obtain ⟨s_12, x_13, h_14, hg⟩ := bnI_e hg
    refine r_iV (As := []) (rest := []) S hA hK hw (c_X7_mindsNow l hG  h_14) (cwV 0 hts gX7_exile_X7_mindsNow rfl rfl rfl (by decide +kernel) ⟨Nat.le_of_ble_eq_true rfl, Nat.le_of_ble_eq_true rfl⟩) (r_recv hK hw (kM_0 hG).1 (kM_0 hG).2 rfl) rfl hl.1 (Nat.le_of_ble_eq_true rfl) dX7_exile_15 ⟨Nat.zero_le _, Nat.zero_le _⟩ rfl (fun H locs hw => ?_)
    refine lv_istore_n (lv' := [(3, .int x_13), (2, .int (-1)), (0, .ref (gAd G 0)), (1, .int a1)]) hx hb dX7_exile_18 rfl hl (by decide) rfl (fun ls hl => ?_)
    refine lv_iconst (v := 0) hx hb dX7_exile_19 (by decide) ?_
    refine lv_istore (lv' := [(4, .int 0), (3, .int x_13), (2, .int (-1)), (0, .ref (gAd G 0)), (1, .int a1)]) hx hb dX7_exile_20 hl (by decide) rfl (fun ls hl => ?_)
    exact L22 a1 F _ _ _ _ _ _ _ hg hw (lv_sub hl [3, 4, 2, 1, 0] rfl)
  · have hg := it_p hg c_11
    refine lv_ldc (v := (-100000)) hx hb hown (hts (.constant RX7 222 (-100000)) (by decide +kernel)) dX7_exile_9 ?_
    exact r_ireti S hr hlk hw.2.2.2.2 hw hg dX7_exile_11
set_option maxHeartbeats 4000000 in
set_option maxRecDepth 100000 in
theorem c_X7_seat (l : Launch) {G : GW} (hG : isM G) {F sz : Nat} {a1 : Int32} {a2 : Int32} {σ σR : Sg} {r : Int32} (hg : g_X7_seat F a1 a2 σ = some (σR, r)) : Met l yX7_seat wsX7_seat ({ frames := 6, cells := 0, slots := 0, locals := 148 } : Room) (va_Pc [.ref (gAd G 0), .int a1, .int a2] (PX G σ sz)) (QcI G (gA G sz) σR r) 0 0 (gA G sz) := by
  refine metX (by decide) rfl (Nat.le_of_ble_eq_true rfl) ?_
  intro p e s m args below meth c ls S hr hlk hsz hA hK hw hl hmn
  have S : CallFix p m c cX7_seat 9 s args wsX7_seat RX7 := S
  obtain ⟨hx, hb, hml, hown, hts⟩ := id S
  have hl : lv_has ls 9 [(0, .ref (gAd G 0)), (1, .int a1), (2, .int a2)] := hl
  have hinX7 : ∀ w ∈ wsX70, w ∈ wsX7_seat := by decide +kernel
  have L43 : ∀ (v1 : Int32) (v2 : Int32) (v3 : Int32) (n43 : Nat) (v4 : Int32) (v5 : Int32) (v6 : Int32) (σ : Sg) (H : Heap) (locs : List Loc) (ls : Array Slot) (hg : g_X7_seat_l43 F v1 v2 v3 n43 v4 v5 v6 σ = some (σR, r)) (hw : XD G (gA G sz) s.heap σ H locs) (hl : lv_has ls 9 [(0, .ref (gAd G 0)), (1, .int v1), (2, .int v2), (3, .int v3), (4, .int v4), (5, .int v5), (6, .int v6)]), W p l e (headSpec wsX7_seat ({ frames := 6, cells := 0, slots := 0, locals := 148 } : Room)).room s m args below meth c H locs 0 0 (MQ below (QcI G (gA G sz) σR r) args s 0 0 (gA G sz)) (F0 m 43 ls []) := by
    intro v1 v2 v3
    intro n43
    induction n43 with
    | zero => intro v4 v5 v6 σ H locs ls hg hw hl; exact no_e hg
    | succ n43 ih43 =>
      have J118 : ∀ (v4 : Int32) (v6 : Int32) (u0 : Int32) (σ : Sg) (H : Heap) (locs : List Loc) (ls : Array Slot) (hg : g_X7_seat_b118 F (fun v4_ v5_ v6_ σ_ => g_X7_seat_l43 F v1 v2 v3 n43 v4_ v5_ v6_ σ_) v1 v2 v3 v4 v6 u0 σ = some (σR, r)) (hw : XD G (gA G sz) s.heap σ H locs) (hl : lv_has ls 9 [(0, .ref (gAd G 0)), (1, .int v1), (2, .int v2), (3, .int v3), (4, .int v4), (6, .int v6)]), W p l e (headSpec wsX7_seat ({ frames := 6, cells := 0, slots := 0, locals := 148 } : Room)).room s m args below meth c H locs 0 0 (MQ below (QcI G (gA G sz) σR r) args s 0 0 (gA G sz)) (F0 m 118 ls [.int u0]) := by
        intro v4 v6 u0 σ H locs ls hg hw hl
        rw [g_X7_seat_b118] at hg
        refine lv_istore (lv' := [(5, .int u0), (0, .ref (gAd G 0)), (1, .int v1), (2, .int v2), (3, .int v3), (4, .int v4), (6, .int v6)]) hx hb dX7_seat_118 hl (by decide) rfl (fun ls hl => ?_)
        refine lv_iinc (v := (v6 + 1)) (lv' := [(6, .int (v6 + 1)), (5, .int u0), (0, .ref (gAd G 0)), (1, .int v1), (2, .int v2), (3, .int v3), (4, .int v4)]) hx hb dX7_seat_120 hl (k := 6) rfl rfl (by decide) rfl (fun ls hl => ?_)
        refine lv_goto (tgt := 43) hx hb dX7_seat_123 (by decide) ?_
        exact ih43 _ _ _ _ _ _ _ hg hw (lv_sub hl [2, 3, 4, 5, 6, 1, 0] rfl)
      have J104 : ∀ (v5 : Int32) (v6 : Int32) (v7 : Int32) (v8 : Int32) (u0 : Int32) (σ : Sg) (H : Heap) (locs : List Loc) (ls : Array Slot) (hg : g_X7_seat_b104 F (fun v4_ v5_ v6_ σ_ => g_X7_seat_l43 F v1 v2 v3 n43 v4_ v5_ v6_ σ_) v1 v2 v3 v5 v6 v7 v8 u0 σ = some (σR, r)) (hw : XD G (gA G sz) s.heap σ H locs) (hl : lv_has ls 9 [(0, .ref (gAd G 0)), (1, .int v1), (2, .int v2), (3, .int v3), (5, .int v5), (6, .int v6), (7, .int v7), (8, .int v8)]), W p l e (headSpec wsX7_seat ({ frames := 6, cells := 0, slots := 0, locals := 148 } : Room)).room s m args below meth c H locs 0 0 (MQ below (QcI G (gA G sz) σR r) args s 0 0 (gA G sz)) (F0 m 104 ls [.int u0]) := by
        intro v5 v6 v7 v8 u0 σ H locs ls hg hw hl
        rw [g_X7_seat_b104] at hg
        refine lv_istore (lv' := [(4, .int u0), (0, .ref (gAd G 0)), (1, .int v1), (2, .int v2), (3, .int v3), (5, .int v5), (6, .int v6), (7, .int v7), (8, .int v8)]) hx hb dX7_seat_104 hl (by decide) rfl (fun ls hl => ?_)
        refine lv_iload hx hb dX7_seat_106 (lv_at hl 8 rfl) ?_
        refine lv_if_eq (tgt := 116) hx hb dX7_seat_108 (by decide) (fun c_1 => ?_) (fun c_1 => ?_)
        · have hg := it_p hg c_1
          refine lv_iload hx hb dX7_seat_116 (lv_at hl 5 rfl) ?_
          exact J118 u0 v6 v5 _ _ _ _ hg hw (lv_sub hl [1, 2, 3, 4, 0, 6] rfl)
        · have hg := it_n hg c_1
          refine lv_iload hx hb dX7_seat_111 (lv_at hl 7 rfl) ?_
          refine lv_goto (tgt := 118) hx hb dX7_seat_113 (by decide) ?_
          exact J118 u0 v6 v7 _ _ _ _ hg hw (lv_sub hl [1, 2, 3, 4, 0, 6] rfl)
      have J90 : ∀ (v4 : Int32) (v5 : Int32) (v6 : Int32) (v7 : Int32) (u0 : Int32) (σ : Sg) (H : Heap) (locs : List Loc) (ls : Array Slot) (hg : g_X7_seat_b90 F (fun v4_ v5_ v6_ σ_ => g_X7_seat_l43 F v1 v2 v3 n43 v4_ v5_ v6_ σ_) v1 v2 v3 v4 v5 v6 v7 u0 σ = some (σR, r)) (hw : XD G (gA G sz) s.heap σ H locs) (hl : lv_has ls 9 [(0, .ref (gAd G 0)), (1, .int v1), (2, .int v2), (3, .int v3), (4, .int v4), (5, .int v5), (6, .int v6), (7, .int v7)]), W p l e (headSpec wsX7_seat ({ frames := 6, cells := 0, slots := 0, locals := 148 } : Room)).room s m args below meth c H locs 0 0 (MQ below (QcI G (gA G sz) σR r) args s 0 0 (gA G sz)) (F0 m 90 ls [.int u0]) := by
        intro v4 v5 v6 v7 u0 σ H locs ls hg hw hl
        rw [g_X7_seat_b90] at hg
        refine lv_istore (lv' := [(8, .int u0), (0, .ref (gAd G 0)), (1, .int v1), (2, .int v2), (3, .int v3), (4, .int v4), (5, .int v5), (6, .int v6), (7, .int v7)]) hx hb dX7_seat_90 hl (by decide) rfl (fun ls hl => ?_)
        refine lv_iload hx hb dX7_seat_92 (lv_at hl 0 rfl) ?_
        refine lv_if_eq (tgt := 102) hx hb dX7_seat_94 (by decide) (fun c_2 => ?_) (fun c_2 => ?_)
        · have hg := it_p hg c_2
          refine lv_iload hx hb dX7_seat_102 (lv_at hl 5 rfl) ?_
          exact J104 v5 v6 v7 u0 v4 _ _ _ _ hg hw (lv_sub hl [1, 2, 3, 4, 6, 7, 8, 0] rfl)
        · have hg := it_n hg c_2
          refine lv_iload hx hb dX7_seat_97 (lv_at hl 7 rfl) ?_
          refine lv_goto (tgt := 104) hx hb dX7_seat_99 (by decide) ?_
          exact J104 v5 v6 v7 u0 v6 _ _ _ _ hg hw (lv_sub hl [1, 2, 3, 4, 6, 7, 8, 0] rfl)
      have J85 : ∀ (v4 : Int32) (v5 : Int32) (v6 : Int32) (v7 : Int32) (σ : Sg) (H : Heap) (locs : List Loc) (ls : Array Slot) (hg : g_X7_seat_b85 F (fun v4_ v5_ v6_ σ_ => g_X7_seat_l43 F v1 v2 v3 n43 v4_ v5_ v6_ σ_) v1 v2 v3 v4 v5 v6 v7 σ = some (σR, r)) (hw : XD G (gA G sz) s.heap σ H locs) (hl : lv_has ls 9 [(0, .ref (gAd G 0)), (1, .int v1), (2, .int v2), (3, .int v3), (4, .int v4), (5, .int v5), (6, .int v6), (7, .int v7)]), W p l e (headSpec wsX7_seat ({ frames := 6, cells := 0, slots := 0, locals := 148 } : Room)).room s m args below meth c H locs 0 0 (MQ below (QcI G (gA G sz) σR r) args s 0 0 (gA G sz)) (F0 m 85 ls []) := by
        intro v4 v5 v6 v7 σ H locs ls hg hw hl
        rw [g_X7_seat_b85] at hg
        refine lv_iconst (v := 1) hx hb dX7_seat_85 (by decide) ?_
        refine lv_goto (tgt := 90) hx hb dX7_seat_86 (by decide) ?_
        exact J90 v4 v5 v6 v7 1 _ _ _ _ hg hw (lv_sub hl [0, 1, 2, 3, 4, 5, 6, 7] rfl)
      intro v4 v5 v6 σ H locs ls hg hw hl
      rw [g_X7_seat_l43] at hg
      refine lv_iload hx hb dX7_seat_43 (lv_at hl 6 rfl) ?_
      refine lv_bipush (v := 99) hx hb dX7_seat_45 (by decide) ?_
      refine lv_icmp_gt (tgt := 126) hx hb dX7_seat_47 (by decide) (fun c_3 => ?_) (fun c_3 => ?_)
      · have hg := it_p hg c_3
        refine lv_aload_n hx hb dX7_seat_126 rfl (lv_at hl 0 rfl) ?_
        refine r_getr (C := RX7) (T := TX7) (N := 43) (k' := 3) S hK hw (kM_0 hG).1 (kM_0 hG).2 rfl hinX7 3 (by decide) (o := 3) rfl rfl (hts (.fieldLink RX7 16 "SoupByRankModel" "rows" "[I") (by decide +kernel)) rfl dX7_seat_127 ?_
        refine lv_iconst (v := 2) hx hb dX7_seat_130 (by decide) ?_
        refine lv_iload_n hx hb dX7_seat_131 rfl (lv_at hl 1 rfl) ?_
        refine lv_imul hx hb dX7_seat_132 ?_
        refine lv_iload_n hx hb dX7_seat_133 rfl (lv_at hl 3 rfl) ?_
        obtain ⟨h_5, s_4, e_6, hg⟩ := wrA_e hg
        refine r_iast S hK hw (kM_3 hG).1 (kM_3 hG).2 h_5 e_6 dX7_seat_134 (fun H locs hw => ?_)
        refine lv_iload_n hx hb dX7_seat_135 rfl (lv_at hl 2 rfl) ?_
        refine lv_if_ne (tgt := 144) hx hb dX7_seat_136 (by decide) (fun c_7 => ?_) (fun c_7 => ?_)
        · have hg := it_n hg c_7
          refine lv_iload hx hb dX7_seat_144 (lv_at hl 5 rfl) ?_
          exact r_ireti S hr hlk hw.2.2.2.2 hw hg dX7_seat_146
        · have hg := it_p hg c_7
          refine lv_iload hx hb dX7_seat_139 (lv_at hl 4 rfl) ?_
          refine lv_goto (tgt := 146) hx hb dX7_seat_141 (by decide) ?_
          exact r_ireti S hr hlk hw.2.2.2.2 hw hg dX7_seat_146
      · have hg := it_n hg c_3
        refine lv_aload_n hx hb dX7_seat_50 rfl (lv_at hl 0 rfl) ?_
        refine r_getr (C := RX7) (T := TX7) (N := 43) (k' := 3) S hK hw (kM_0 hG).1 (kM_0 hG).2 rfl hinX7 3 (by decide) (o := 3) rfl rfl (hts (.fieldLink RX7 16 "SoupByRankModel" "rows" "[I") (by decide +kernel)) rfl dX7_seat_51 ?_
        refine lv_iconst (v := 2) hx hb dX7_seat_54 (by decide) ?_
        refine lv_iload_n hx hb dX7_seat_55 rfl (lv_at hl 1 rfl) ?_
        refine lv_imul hx hb dX7_seat_56 ?_
        refine lv_iload hx hb dX7_seat_57 (lv_at hl 6 rfl) ?_
        obtain ⟨h_9, s_8, e_10, hg⟩ := wrA_e hg
        refine r_iast S hK hw (kM_3 hG).1 (kM_3 hG).2 h_9 e_10 dX7_seat_59 (fun H locs hw => ?_)
        refine lv_aload_n hx hb dX7_seat_60 rfl (lv_at hl 0 rfl) ?_
        refine lv_iconst (v := (-1)) hx hb dX7_seat_61 (by decide) ?_
        obtain ⟨s_11, h_13, hg⟩ := bnV_e hg
        refine r_vV (As := [.int (-1)]) (rest := []) S hA hK hw (c_X7_sups l hG  h_13) (cwV 1 hts gX7_seat_X7_sups rfl rfl rfl (by decide +kernel) ⟨Nat.le_of_ble_eq_true rfl, Nat.le_of_ble_eq_true rfl⟩) (r_recv hK hw (kM_0 hG).1 (kM_0 hG).2 rfl) rfl hl.1 (Nat.le_of_ble_eq_true rfl) dX7_seat_62 ⟨Nat.zero_le _, Nat.zero_le _⟩ rfl (fun H locs hw => ?_)
        refine lv_aload_n hx hb dX7_seat_65 rfl (lv_at hl 0 rfl) ?_
        refine lv_iload_n hx hb dX7_seat_66 rfl (lv_at hl 1 rfl) ?_
        obtain ⟨s_14, x_15, h_16, hg⟩ := bnI_e hg
        refine r_iV (As := [.int v1]) (rest := []) S hA hK hw (c_X7_lessFor l hG  h_16) (cwV 1 hts gX7_seat_X7_lessFor rfl rfl rfl (by decide +kernel) ⟨Nat.le_of_ble_eq_true rfl, Nat.le_of_ble_eq_true rfl⟩) (r_recv hK hw (kM_0 hG).1 (kM_0 hG).2 rfl) rfl hl.1 (Nat.le_of_ble_eq_true rfl) dX7_seat_67 ⟨Nat.zero_le _, Nat.zero_le _⟩ rfl (fun H locs hw => ?_)
        refine lv_istore (lv' := [(7, .int x_15), (0, .ref (gAd G 0)), (1, .int v1), (2, .int v2), (3, .int v3), (4, .int v4), (5, .int v5), (6, .int v6)]) hx hb dX7_seat_70 hl (by decide) rfl (fun ls hl => ?_)
        refine lv_iload hx hb dX7_seat_72 (lv_at hl 5 rfl) ?_
        refine lv_iconst (v := (-1)) hx hb dX7_seat_74 (by decide) ?_
        refine lv_icmp_eq (tgt := 85) hx hb dX7_seat_75 (by decide) (fun c_17 => ?_) (fun c_17 => ?_)
        · have hg := it_p hg c_17
          exact J85 v4 v5 v6 x_15 _ _ _ _ hg hw (lv_sub hl [1, 2, 3, 4, 5, 6, 7, 0] rfl)
        · have hg := it_n hg c_17
          refine lv_iload hx hb dX7_seat_78 (lv_at hl 0 rfl) ?_
          refine lv_iload hx hb dX7_seat_80 (lv_at hl 6 rfl) ?_
          refine lv_icmp_ge (tgt := 89) hx hb dX7_seat_82 (by decide) (fun c_18 => ?_) (fun c_18 => ?_)
          · have hg := it_p hg c_18
            refine lv_iconst (v := 0) hx hb dX7_seat_89 (by decide) ?_
            exact J90 v4 v5 v6 x_15 0 _ _ _ _ hg hw (lv_sub hl [1, 2, 3, 4, 5, 6, 7, 0] rfl)
          · have hg := it_n hg c_18
            exact J85 v4 v5 v6 x_15 _ _ _ _ hg hw (lv_sub hl [1, 2, 3, 4, 5, 6, 7, 0] rfl)
  rw [g_X7_seat] at hg
  refine lv_aload_n hx hb dX7_seat_0 rfl (lv_at hl 0 rfl) ?_
  refine lv_iload_n hx hb dX7_seat_1 rfl (lv_at hl 1 rfl) ?_
  obtain ⟨s_19, x_20, h_21, hg⟩ := bnI_e hg
  refine r_iV (As := [.int a1]) (rest := []) S hA hK hw (c_X7_isOne l hG  h_21) (cwV 1 hts gX7_seat_X7_isOne rfl rfl rfl (by decide +kernel) ⟨Nat.le_of_ble_eq_true rfl, Nat.le_of_ble_eq_true rfl⟩) (r_recv hK hw (kM_0 hG).1 (kM_0 hG).2 rfl) rfl hl.1 (Nat.le_of_ble_eq_true rfl) dX7_seat_2 ⟨Nat.zero_le _, Nat.zero_le _⟩ rfl (fun H locs hw => ?_)
  refine lv_if_ne (tgt := 12) hx hb dX7_seat_5 (by decide) (fun c_22 => ?_) (fun c_22 => ?_)
  · have hg := it_n hg c_22
    refine lv_iload_n hx hb dX7_seat_12 rfl (lv_at hl 2 rfl) ?_
    refine lv_iconst (v := 0) hx hb dX7_seat_13 (by decide) ?_
    refine lv_iconst (v := 1) hx hb dX7_seat_14 (by decide) ?_
    obtain ⟨s_23, x_24, h_25, hg⟩ := bnI_e hg
    refine r_iS (As := [.int a2, .int 0, .int 1]) (rest := []) S hA hK hw (c_X7_in l hG  h_25) (va_cwS 3 hts gX7_seat_X7_in rfl rfl rfl (by decide +kernel) ⟨Nat.le_of_ble_eq_true rfl, Nat.le_of_ble_eq_true rfl⟩) rfl hl.1 (Nat.le_of_ble_eq_true rfl) dX7_seat_15 ⟨Nat.zero_le _, Nat.zero_le _⟩ rfl (fun H locs hw => ?_)
    refine lv_if_ne (tgt := 25) hx hb dX7_seat_18 (by decide) (fun c_26 => ?_) (fun c_26 => ?_)
    · have hg := it_n hg c_26
      refine lv_aload_n hx hb dX7_seat_25 rfl (lv_at hl 0 rfl) ?_
      refine r_getr (C := RX7) (T := TX7) (N := 43) (k' := 3) S hK hw (kM_0 hG).1 (kM_0 hG).2 rfl hinX7 3 (by decide) (o := 3) rfl rfl (hts (.fieldLink RX7 16 "SoupByRankModel" "rows" "[I") (by decide +kernel)) rfl dX7_seat_26 ?_
      refine lv_iconst (v := 2) hx hb dX7_seat_29 (by decide) ?_
      refine lv_iload_n hx hb dX7_seat_30 rfl (lv_at hl 1 rfl) ?_
      refine lv_imul hx hb dX7_seat_31 ?_
      obtain ⟨h_28, x_27, e_29, hg⟩ := rdA_e hg
      refine r_iald S hK hw (kM_3 hG).1 (kM_3 hG).2 h_28 e_29 dX7_seat_32 ?_
      refine lv_istore_n (lv' := [(3, .int x_27), (0, .ref (gAd G 0)), (1, .int a1), (2, .int a2)]) hx hb dX7_seat_33 rfl hl (by decide) rfl (fun ls hl => ?_)
      refine lv_iconst (v := (-1)) hx hb dX7_seat_34 (by decide) ?_
      refine lv_istore (lv' := [(4, .int (-1)), (3, .int x_27), (0, .ref (gAd G 0)), (1, .int a1), (2, .int a2)]) hx hb dX7_seat_35 hl (by decide) rfl (fun ls hl => ?_)
      refine lv_iconst (v := 0) hx hb dX7_seat_37 (by decide) ?_
      refine lv_istore (lv' := [(5, .int 0), (4, .int (-1)), (3, .int x_27), (0, .ref (gAd G 0)), (1, .int a1), (2, .int a2)]) hx hb dX7_seat_38 hl (by decide) rfl (fun ls hl => ?_)
      refine lv_iconst (v := 0) hx hb dX7_seat_40 (by decide) ?_
      refine lv_istore (lv' := [(6, .int 0), (5, .int 0), (4, .int (-1)), (3, .int x_27), (0, .ref (gAd G 0)), (1, .int a1), (2, .int a2)]) hx hb dX7_seat_41 hl (by decide) rfl (fun ls hl => ?_)
      exact L43 a1 a2 x_27 F _ _ _ _ _ _ _ hg hw (lv_sub hl [4, 5, 6, 3, 2, 1, 0] rfl)
    · have hg := it_p hg c_26
      refine lv_sipush (v := (-7000)) hx hb dX7_seat_21 (by decide) ?_
      exact r_ireti S hr hlk hw.2.2.2.2 hw hg dX7_seat_24
  · have hg := it_p hg c_22
    refine lv_sipush (v := (-5000)) hx hb dX7_seat_8 (by decide) ?_
    exact r_ireti S hr hlk hw.2.2.2.2 hw hg dX7_seat_11
set_option maxHeartbeats 4000000 in
set_option maxRecDepth 100000 in
theorem c_X7_orders (l : Launch) {G : GW} (hG : isM G) {F sz : Nat} {a1 : Int32} {σ σR : Sg} {r : Int32} (hg : g_X7_orders F a1 σ = some (σR, r)) : Met l yX7_orders wsX7_orders ({ frames := 1, cells := 0, slots := 0, locals := 22 } : Room) (va_Pc [.ref (gAd G 0), .int a1] (PX G σ sz)) (QcI G (gA G sz) σR r) 0 0 (gA G sz) := by
  refine metX (by decide) rfl (Nat.le_of_ble_eq_true rfl) ?_
  intro p e s m args below meth c ls S hr hlk hsz hA hK hw hl hmn
  have S : CallFix p m c cX7_orders 7 s args wsX7_orders RX7 := S
  obtain ⟨hx, hb, hml, hown, hts⟩ := id S
  have hl : lv_has ls 7 [(0, .ref (gAd G 0)), (1, .int a1)] := hl
  have hinX7 : ∀ w ∈ wsX70, w ∈ wsX7_orders := by decide +kernel
  have L20 : ∀ (n20 : Nat) (v2 : Int32) (v3 : Int32) (v4 : Int32) (v5 : Int32) (σ : Sg) (H : Heap) (locs : List Loc) (ls : Array Slot) (hg : g_X7_orders_l20 F n20 v2 v3 v4 v5 σ = some (σR, r)) (hw : XD G (gA G sz) s.heap σ H locs) (hl : lv_has ls 7 [(0, .ref (gAd G 0)), (2, .int v2), (3, .int v3), (4, .int v4), (5, .int v5)]), W p l e (headSpec wsX7_orders ({ frames := 1, cells := 0, slots := 0, locals := 22 } : Room)).room s m args below meth c H locs 0 0 (MQ below (QcI G (gA G sz) σR r) args s 0 0 (gA G sz)) (F0 m 20 ls []) := by
    intro n20
    induction n20 with
    | zero => intro v2 v3 v4 v5 σ H locs ls hg hw hl; exact no_e hg
    | succ n20 ih20 =>
      intro v2 v3 v4 v5 σ H locs ls hg hw hl
      rw [g_X7_orders_l20] at hg
      refine lv_iload hx hb dX7_orders_20 (lv_at hl 4 rfl) ?_
      refine lv_if_lt (tgt := 97) hx hb dX7_orders_22 (by decide) (fun c_1 => ?_) (fun c_1 => ?_)
      · have hg := it_p hg c_1
        refine lv_iload_n hx hb dX7_orders_97 rfl (lv_at hl 2 rfl) ?_
        refine lv_iconst (v := 1) hx hb dX7_orders_98 (by decide) ?_
        refine lv_aload_n hx hb dX7_orders_99 rfl (lv_at hl 0 rfl) ?_
        refine r_get (C := RX7) (T := TX7) (N := 43) S hK hw (kM_0 hG).1 (kM_0 hG).2 rfl hinX7 0 (by decide) rfl (hts (.fieldLink RX7 90 "SoupByRankModel" "courtiers" "I") (by decide +kernel)) rfl dX7_orders_100 ?_
        refine lv_ishl hx hb dX7_orders_103 ?_
        refine lv_iconst (v := 1) hx hb dX7_orders_104 (by decide) ?_
        refine lv_isub hx hb dX7_orders_105 ?_
        refine lv_icmp_ne (tgt := 113) hx hb dX7_orders_106 (by decide) (fun c_2 => ?_) (fun c_2 => ?_)
        · have hg := it_n hg c_2
          refine lv_iconst (v := 0) hx hb dX7_orders_113 (by decide) ?_
          exact r_iretz S hr rfl hlk hw.2.2.2.2 hw hg dX7_orders_114
        · have hg := it_p hg c_2
          refine lv_iconst (v := 1) hx hb dX7_orders_109 (by decide) ?_
          refine lv_goto (tgt := 114) hx hb dX7_orders_110 (by decide) ?_
          exact r_iretz S hr rfl hlk hw.2.2.2.2 hw hg dX7_orders_114
      · have hg := it_n hg c_1
        refine lv_iload_n hx hb dX7_orders_25 rfl (lv_at hl 1 rfl) ?_
        refine lv_aload_n hx hb dX7_orders_26 rfl (lv_at hl 0 rfl) ?_
        refine r_get (C := RX7) (T := TX7) (N := 43) S hK hw (kM_0 hG).1 (kM_0 hG).2 rfl hinX7 0 (by decide) rfl (hts (.fieldLink RX7 90 "SoupByRankModel" "courtiers" "I") (by decide +kernel)) rfl dX7_orders_27 ?_
        obtain ⟨h_4, hg⟩ := remI_e hg
        refine lv_irem hx hb dX7_orders_30 h_4 ?_
        refine lv_iconst (v := 0) hx hb dX7_orders_31 (by decide) ?_
        refine lv_iconst (v := 5) hx hb dX7_orders_32 (by decide) ?_
        obtain ⟨s_6, x_7, h_8, hg⟩ := bnI_e hg
        refine r_iS (As := [.int (v2 - v2 / (σ 0 0) * (σ 0 0)), .int 0, .int 5]) (rest := []) S hA hK hw (c_X7_within l hG  h_8) (va_cwS 3 hts gX7_orders_X7_within rfl rfl rfl (by decide +kernel) ⟨Nat.le_of_ble_eq_true rfl, Nat.le_of_ble_eq_true rfl⟩) rfl hl.1 (Nat.le_of_ble_eq_true rfl) dX7_orders_33 ⟨Nat.zero_le _, Nat.zero_le _⟩ rfl (fun H locs hw => ?_)
        refine lv_istore (lv' := [(6, .int x_7), (0, .ref (gAd G 0)), (2, .int v2), (3, .int v3), (4, .int v4), (5, .int v5)]) hx hb dX7_orders_36 hl (by decide) rfl (fun ls hl => ?_)
        refine lv_iload_n hx hb dX7_orders_38 rfl (lv_at hl 2 rfl) ?_
        refine lv_aload_n hx hb dX7_orders_39 rfl (lv_at hl 1 rfl) ?_
        refine r_get (C := RX7) (T := TX7) (N := 43) S hK hw (kM_0 hG).1 (kM_0 hG).2 rfl hinX7 0 (by decide) rfl (hts (.fieldLink RX7 90 "SoupByRankModel" "courtiers" "I") (by decide +kernel)) rfl dX7_orders_40 ?_
        obtain ⟨h_10, hg⟩ := divI_e hg
        refine lv_idiv hx hb dX7_orders_43 h_10 ?_
        refine lv_istore_n (lv' := [(2, .int (v2 / (s_6 0 0))), (6, .int x_7), (0, .ref (gAd G 0)), (3, .int v3), (4, .int v4), (5, .int v5)]) hx hb dX7_orders_44 rfl hl (by decide) rfl (fun ls hl => ?_)
        refine lv_iload_n hx hb dX7_orders_45 rfl (lv_at hl 3 rfl) ?_
        refine lv_iconst (v := 1) hx hb dX7_orders_46 (by decide) ?_
        refine lv_iload hx hb dX7_orders_47 (lv_at hl 1 rfl) ?_
        refine lv_ishl hx hb dX7_orders_49 ?_
        refine lv_ior hx hb dX7_orders_50 ?_
        refine lv_istore_n (lv' := [(3, .int (v3 ||| ((1 : Int32) <<< (x_7 &&& 31)))), (2, .int (v2 / (s_6 0 0))), (6, .int x_7), (0, .ref (gAd G 0)), (4, .int v4), (5, .int v5)]) hx hb dX7_orders_51 rfl hl (by decide) rfl (fun ls hl => ?_)
        refine lv_aload_n hx hb dX7_orders_52 rfl (lv_at hl 3 rfl) ?_
        refine r_getr (C := RX7) (T := TX7) (N := 43) (k' := 3) S hK hw (kM_0 hG).1 (kM_0 hG).2 rfl hinX7 3 (by decide) (o := 3) rfl rfl (hts (.fieldLink RX7 16 "SoupByRankModel" "rows" "[I") (by decide +kernel)) rfl dX7_orders_53 ?_
        refine lv_iconst (v := 2) hx hb dX7_orders_56 (by decide) ?_
        refine lv_iload hx hb dX7_orders_57 (lv_at hl 2 rfl) ?_
        refine lv_imul hx hb dX7_orders_59 ?_
        refine lv_aload_n hx hb dX7_orders_60 rfl (lv_at hl 3 rfl) ?_
        refine r_get (C := RX7) (T := TX7) (N := 43) S hK hw (kM_0 hG).1 (kM_0 hG).2 rfl hinX7 0 (by decide) rfl (hts (.fieldLink RX7 90 "SoupByRankModel" "courtiers" "I") (by decide +kernel)) rfl dX7_orders_61 ?_
        refine lv_iload hx hb dX7_orders_64 (lv_at hl 5 rfl) ?_
        refine lv_isub hx hb dX7_orders_66 ?_
        obtain ⟨h_13, s_12, e_14, hg⟩ := wrA_e hg
        refine r_iast S hK hw (kM_3 hG).1 (kM_3 hG).2 h_13 e_14 dX7_orders_67 (fun H locs hw => ?_)
        refine lv_aload_n hx hb dX7_orders_68 rfl (lv_at hl 3 rfl) ?_
        refine lv_dup hx hb dX7_orders_69 rfl ?_
        refine r_get (C := RX7) (T := TX7) (N := 43) S hK hw (kM_0 hG).1 (kM_0 hG).2 rfl hinX7 42 (by decide) rfl (hts (.fieldLink RX7 248 "SoupByRankModel" "orderDigits" "I") (by decide +kernel)) rfl dX7_orders_70 ?_
        refine lv_iload hx hb dX7_orders_73 (lv_at hl 4 rfl) ?_
        refine lv_iload hx hb dX7_orders_75 (lv_at hl 2 rfl) ?_
        refine lv_iconst (v := 1) hx hb dX7_orders_77 (by decide) ?_
        refine lv_iadd hx hb dX7_orders_78 ?_
        refine lv_imul hx hb dX7_orders_79 ?_
        refine lv_iadd hx hb dX7_orders_80 ?_
        obtain ⟨s_15, e_16, hg⟩ := wrF_e hg
        refine r_put (C := RX7) (T := TX7) (N := 43) S hK hw (kM_0 hG).1 (kM_0 hG).2 rfl hinX7 tyX7_ok nmX7 42 (by decide) rfl rfl rfl rfl (hts (.fieldLink RX7 248 "SoupByRankModel" "orderDigits" "I") (by decide +kernel)) rfl e_16 dX7_orders_81 (fun H locs hw => ?_)
        refine lv_iload hx hb dX7_orders_84 (lv_at hl 4 rfl) ?_
        refine lv_bipush (v := 10) hx hb dX7_orders_86 (by decide) ?_
        refine lv_imul hx hb dX7_orders_88 ?_
        refine lv_istore (lv' := [(4, .int (v4 * 10)), (3, .int (v3 ||| ((1 : Int32) <<< (x_7 &&& 31)))), (2, .int (v2 / (s_6 0 0))), (6, .int x_7), (0, .ref (gAd G 0)), (5, .int v5)]) hx hb dX7_orders_89 hl (by decide) rfl (fun ls hl => ?_)
        refine lv_iinc (v := (v5 + (-1))) (lv' := [(5, .int (v5 + (-1))), (4, .int (v4 * 10)), (3, .int (v3 ||| ((1 : Int32) <<< (x_7 &&& 31)))), (2, .int (v2 / (s_6 0 0))), (6, .int x_7), (0, .ref (gAd G 0))]) hx hb dX7_orders_91 hl (k := 5) rfl rfl (by decide) rfl (fun ls hl => ?_)
        refine lv_goto (tgt := 20) hx hb dX7_orders_94 (by decide) ?_
        exact ih20 _ _ _ _ _ _ _ _ hg hw (lv_sub hl [5, 3, 2, 1, 0] rfl)
  rw [g_X7_orders] at hg
  refine lv_iload_n hx hb dX7_orders_0 rfl (lv_at hl 1 rfl) ?_
  refine lv_istore_n (lv' := [(2, .int a1), (0, .ref (gAd G 0)), (1, .int a1)]) hx hb dX7_orders_1 rfl hl (by decide) rfl (fun ls hl => ?_)
  refine lv_iconst (v := 0) hx hb dX7_orders_2 (by decide) ?_
  refine lv_istore_n (lv' := [(3, .int 0), (2, .int a1), (0, .ref (gAd G 0)), (1, .int a1)]) hx hb dX7_orders_3 rfl hl (by decide) rfl (fun ls hl => ?_)
  refine lv_iconst (v := 1) hx hb dX7_orders_4 (by decide) ?_
  refine lv_istore (lv' := [(4, .int 1), (3, .int 0), (2, .int a1), (0, .ref (gAd G 0)), (1, .int a1)]) hx hb dX7_orders_5 hl (by decide) rfl (fun ls hl => ?_)
  refine lv_aload_n hx hb dX7_orders_7 rfl (lv_at hl 3 rfl) ?_
  refine lv_iconst (v := 0) hx hb dX7_orders_8 (by decide) ?_
  obtain ⟨s_17, e_18, hg⟩ := wrF_e hg
  refine r_put (C := RX7) (T := TX7) (N := 43) S hK hw (kM_0 hG).1 (kM_0 hG).2 rfl hinX7 tyX7_ok nmX7 42 (by decide) rfl rfl rfl rfl (hts (.fieldLink RX7 248 "SoupByRankModel" "orderDigits" "I") (by decide +kernel)) rfl e_18 dX7_orders_9 (fun H locs hw => ?_)
  refine lv_aload_n hx hb dX7_orders_12 rfl (lv_at hl 3 rfl) ?_
  refine r_get (C := RX7) (T := TX7) (N := 43) S hK hw (kM_0 hG).1 (kM_0 hG).2 rfl hinX7 0 (by decide) rfl (hts (.fieldLink RX7 90 "SoupByRankModel" "courtiers" "I") (by decide +kernel)) rfl dX7_orders_13 ?_
  refine lv_iconst (v := 1) hx hb dX7_orders_16 (by decide) ?_
  refine lv_isub hx hb dX7_orders_17 ?_
  refine lv_istore (lv' := [(5, .int ((s_17 0 0) - 1)), (4, .int 1), (3, .int 0), (2, .int a1), (0, .ref (gAd G 0)), (1, .int a1)]) hx hb dX7_orders_18 hl (by decide) rfl (fun ls hl => ?_)
  exact L20 F _ _ _ _ _ _ _ _ hg hw (lv_sub hl [4, 3, 2, 1, 0] rfl)
set_option maxHeartbeats 4000000 in
set_option maxRecDepth 100000 in
theorem c_X7_order (l : Launch) {G : GW} (hG : isM G) {F sz : Nat} {a1 : Int32} {σ σR : Sg} {r : Int32} (hg : g_X7_order F a1 σ = some (σR, r)) : Met l yX7_order wsX7_order ({ frames := 7, cells := 0, slots := 0, locals := 168 } : Room) (va_Pc [.ref (gAd G 0), .int a1] (PX G σ sz)) (QcI G (gA G sz) σR r) 0 0 (gA G sz) := by
  refine metX (by decide) rfl (Nat.le_of_ble_eq_true rfl) ?_
  intro p e s m args below meth c ls S hr hlk hsz hA hK hw hl hmn
  have S : CallFix p m c cX7_order 8 s args wsX7_order RX7 := S
  obtain ⟨hx, hb, hml, hown, hts⟩ := id S
  have hl : lv_has ls 8 [(0, .ref (gAd G 0)), (1, .int a1)] := hl
  have hinX7 : ∀ w ∈ wsX70, w ∈ wsX7_order := by decide +kernel
  have L58 : ∀ (v1 : Int32) (v2 : Int32) (n58 : Nat) (v3 : Int32) (v4 : Int32) (v5 : Int32) (σ : Sg) (H : Heap) (locs : List Loc) (ls : Array Slot) (hg : g_X7_order_l58 F v1 v2 n58 v3 v4 v5 σ = some (σR, r)) (hw : XD G (gA G sz) s.heap σ H locs) (hl : lv_has ls 8 [(0, .ref (gAd G 0)), (1, .int v1), (2, .int v2), (3, .int v3), (4, .int v4), (5, .int v5)]), W p l e (headSpec wsX7_order ({ frames := 7, cells := 0, slots := 0, locals := 168 } : Room)).room s m args below meth c H locs 0 0 (MQ below (QcI G (gA G sz) σR r) args s 0 0 (gA G sz)) (F0 m 58 ls []) := by
    intro v1 v2
    intro n58
    induction n58 with
    | zero => intro v3 v4 v5 σ H locs ls hg hw hl; exact no_e hg
    | succ n58 ih58 =>
      have J126 : ∀ (v3 : Int32) (v4 : Int32) (v5 : Int32) (σ : Sg) (H : Heap) (locs : List Loc) (ls : Array Slot) (hg : g_X7_order_b126 F (fun v3_ v4_ v5_ σ_ => g_X7_order_l58 F v1 v2 n58 v3_ v4_ v5_ σ_) v1 v2 v3 v4 v5 σ = some (σR, r)) (hw : XD G (gA G sz) s.heap σ H locs) (hl : lv_has ls 8 [(0, .ref (gAd G 0)), (1, .int v1), (2, .int v2), (3, .int v3), (4, .int v4), (5, .int v5)]), W p l e (headSpec wsX7_order ({ frames := 7, cells := 0, slots := 0, locals := 168 } : Room)).room s m args below meth c H locs 0 0 (MQ below (QcI G (gA G sz) σR r) args s 0 0 (gA G sz)) (F0 m 126 ls []) := by
        intro v3 v4 v5 σ H locs ls hg hw hl
        rw [g_X7_order_b126] at hg
        refine lv_iinc (v := (v5 + 1)) (lv' := [(5, .int (v5 + 1)), (0, .ref (gAd G 0)), (1, .int v1), (2, .int v2), (3, .int v3), (4, .int v4)]) hx hb dX7_order_126 hl (k := 5) rfl rfl (by decide) rfl (fun ls hl => ?_)
        refine lv_goto (tgt := 58) hx hb dX7_order_129 (by decide) ?_
        exact ih58 _ _ _ _ _ _ _ hg hw (lv_sub hl [1, 2, 3, 4, 5, 0] rfl)
      have J124 : ∀ (v3 : Int32) (v5 : Int32) (u0 : Int32) (σ : Sg) (H : Heap) (locs : List Loc) (ls : Array Slot) (hg : g_X7_order_b124 F (fun v3_ v4_ v5_ σ_ => g_X7_order_l58 F v1 v2 n58 v3_ v4_ v5_ σ_) v1 v2 v3 v5 u0 σ = some (σR, r)) (hw : XD G (gA G sz) s.heap σ H locs) (hl : lv_has ls 8 [(0, .ref (gAd G 0)), (1, .int v1), (2, .int v2), (3, .int v3), (5, .int v5)]), W p l e (headSpec wsX7_order ({ frames := 7, cells := 0, slots := 0, locals := 168 } : Room)).room s m args below meth c H locs 0 0 (MQ below (QcI G (gA G sz) σR r) args s 0 0 (gA G sz)) (F0 m 124 ls [.int u0]) := by
        intro v3 v5 u0 σ H locs ls hg hw hl
        rw [g_X7_order_b124] at hg
        refine lv_istore (lv' := [(4, .int u0), (0, .ref (gAd G 0)), (1, .int v1), (2, .int v2), (3, .int v3), (5, .int v5)]) hx hb dX7_order_124 hl (by decide) rfl (fun ls hl => ?_)
        exact J126 v3 u0 v5 _ _ _ _ hg hw (lv_sub hl [1, 2, 3, 4, 0, 5] rfl)
      have J111 : ∀ (v4 : Int32) (v5 : Int32) (v6 : Int32) (v7 : Int32) (u0 : Int32) (σ : Sg) (H : Heap) (locs : List Loc) (ls : Array Slot) (hg : g_X7_order_b111 F (fun v3_ v4_ v5_ σ_ => g_X7_order_l58 F v1 v2 n58 v3_ v4_ v5_ σ_) v1 v2 v4 v5 v6 v7 u0 σ = some (σR, r)) (hw : XD G (gA G sz) s.heap σ H locs) (hl : lv_has ls 8 [(0, .ref (gAd G 0)), (1, .int v1), (2, .int v2), (4, .int v4), (5, .int v5), (6, .int v6), (7, .int v7)]), W p l e (headSpec wsX7_order ({ frames := 7, cells := 0, slots := 0, locals := 168 } : Room)).room s m args below meth c H locs 0 0 (MQ below (QcI G (gA G sz) σR r) args s 0 0 (gA G sz)) (F0 m 111 ls [.int u0]) := by
        intro v4 v5 v6 v7 u0 σ H locs ls hg hw hl
        rw [g_X7_order_b111] at hg
        refine lv_istore_n (lv' := [(3, .int u0), (0, .ref (gAd G 0)), (1, .int v1), (2, .int v2), (4, .int v4), (5, .int v5), (6, .int v6), (7, .int v7)]) hx hb dX7_order_111 rfl hl (by decide) rfl (fun ls hl => ?_)
        refine lv_iload hx hb dX7_order_112 (lv_at hl 7 rfl) ?_
        refine lv_if_eq (tgt := 122) hx hb dX7_order_114 (by decide) (fun c_1 => ?_) (fun c_1 => ?_)
        · have hg := it_p hg c_1
          refine lv_iload hx hb dX7_order_122 (lv_at hl 4 rfl) ?_
          exact J124 u0 v5 v4 _ _ _ _ hg hw (lv_sub hl [1, 2, 3, 0, 5] rfl)
        · have hg := it_n hg c_1
          refine lv_iload hx hb dX7_order_117 (lv_at hl 6 rfl) ?_
          refine lv_goto (tgt := 124) hx hb dX7_order_119 (by decide) ?_
          exact J124 u0 v5 v6 _ _ _ _ hg hw (lv_sub hl [1, 2, 3, 0, 5] rfl)
      have J96 : ∀ (v3 : Int32) (v4 : Int32) (v5 : Int32) (v6 : Int32) (u0 : Int32) (σ : Sg) (H : Heap) (locs : List Loc) (ls : Array Slot) (hg : g_X7_order_b96 F (fun v3_ v4_ v5_ σ_ => g_X7_order_l58 F v1 v2 n58 v3_ v4_ v5_ σ_) v1 v2 v3 v4 v5 v6 u0 σ = some (σR, r)) (hw : XD G (gA G sz) s.heap σ H locs) (hl : lv_has ls 8 [(0, .ref (gAd G 0)), (1, .int v1), (2, .int v2), (3, .int v3), (4, .int v4), (5, .int v5), (6, .int v6)]), W p l e (headSpec wsX7_order ({ frames := 7, cells := 0, slots := 0, locals := 168 } : Room)).room s m args below meth c H locs 0 0 (MQ below (QcI G (gA G sz) σR r) args s 0 0 (gA G sz)) (F0 m 96 ls [.int u0]) := by
        intro v3 v4 v5 v6 u0 σ H locs ls hg hw hl
        rw [g_X7_order_b96] at hg
        refine lv_istore (lv' := [(7, .int u0), (0, .ref (gAd G 0)), (1, .int v1), (2, .int v2), (3, .int v3), (4, .int v4), (5, .int v5), (6, .int v6)]) hx hb dX7_order_96 hl (by decide) rfl (fun ls hl => ?_)
        refine lv_iload hx hb dX7_order_98 (lv_at hl 0 rfl) ?_
        refine lv_if_eq (tgt := 110) hx hb dX7_order_100 (by decide) (fun c_2 => ?_) (fun c_2 => ?_)
        · have hg := it_p hg c_2
          refine lv_iload_n hx hb dX7_order_110 rfl (lv_at hl 4 rfl) ?_
          exact J111 v4 v5 v6 u0 v3 _ _ _ _ hg hw (lv_sub hl [1, 2, 3, 5, 6, 7, 0] rfl)
        · have hg := it_n hg c_2
          refine lv_aload_n hx hb dX7_order_103 rfl (lv_at hl 1 rfl) ?_
          refine r_get (C := RX7) (T := TX7) (N := 43) S hK hw (kM_0 hG).1 (kM_0 hG).2 rfl hinX7 42 (by decide) rfl (hts (.fieldLink RX7 248 "SoupByRankModel" "orderDigits" "I") (by decide +kernel)) rfl dX7_order_104 ?_
          refine lv_goto (tgt := 111) hx hb dX7_order_107 (by decide) ?_
          exact J111 v4 v5 v6 u0 (σ 0 42) _ _ _ _ hg hw (lv_sub hl [1, 2, 3, 5, 6, 7, 0] rfl)
      have J91 : ∀ (v3 : Int32) (v4 : Int32) (v5 : Int32) (v6 : Int32) (σ : Sg) (H : Heap) (locs : List Loc) (ls : Array Slot) (hg : g_X7_order_b91 F (fun v3_ v4_ v5_ σ_ => g_X7_order_l58 F v1 v2 n58 v3_ v4_ v5_ σ_) v1 v2 v3 v4 v5 v6 σ = some (σR, r)) (hw : XD G (gA G sz) s.heap σ H locs) (hl : lv_has ls 8 [(0, .ref (gAd G 0)), (1, .int v1), (2, .int v2), (3, .int v3), (4, .int v4), (5, .int v5), (6, .int v6)]), W p l e (headSpec wsX7_order ({ frames := 7, cells := 0, slots := 0, locals := 168 } : Room)).room s m args below meth c H locs 0 0 (MQ below (QcI G (gA G sz) σR r) args s 0 0 (gA G sz)) (F0 m 91 ls []) := by
        intro v3 v4 v5 v6 σ H locs ls hg hw hl
        rw [g_X7_order_b91] at hg
        refine lv_iconst (v := 1) hx hb dX7_order_91 (by decide) ?_
        refine lv_goto (tgt := 96) hx hb dX7_order_92 (by decide) ?_
        exact J96 v3 v4 v5 v6 1 _ _ _ _ hg hw (lv_sub hl [0, 1, 2, 3, 4, 5, 6] rfl)
      intro v3 v4 v5 σ H locs ls hg hw hl
      rw [g_X7_order_l58] at hg
      refine lv_iload hx hb dX7_order_58 (lv_at hl 5 rfl) ?_
      refine lv_iload_n hx hb dX7_order_60 rfl (lv_at hl 2 rfl) ?_
      refine lv_icmp_ge (tgt := 132) hx hb dX7_order_61 (by decide) (fun c_3 => ?_) (fun c_3 => ?_)
      · have hg := it_p hg c_3
        refine lv_aload_n hx hb dX7_order_132 rfl (lv_at hl 0 rfl) ?_
        obtain ⟨s_4, h_6, hg⟩ := bnV_e hg
        refine r_vV (As := []) (rest := []) S hA hK hw (c_X7_lays l hG  h_6) (cwV 0 hts gX7_order_X7_lays rfl rfl rfl (by decide +kernel) ⟨Nat.le_of_ble_eq_true rfl, Nat.le_of_ble_eq_true rfl⟩) (r_recv hK hw (kM_0 hG).1 (kM_0 hG).2 rfl) rfl hl.1 (Nat.le_of_ble_eq_true rfl) dX7_order_133 ⟨Nat.zero_le _, Nat.zero_le _⟩ rfl (fun H locs hw => ?_)
        refine lv_iload_n hx hb dX7_order_136 rfl (lv_at hl 1 rfl) ?_
        refine lv_if_ne (tgt := 144) hx hb dX7_order_137 (by decide) (fun c_7 => ?_) (fun c_7 => ?_)
        · have hg := it_n hg c_7
          refine lv_iload hx hb dX7_order_144 (lv_at hl 4 rfl) ?_
          exact r_ireti S hr hlk hw.2.2.2.2 hw hg dX7_order_146
        · have hg := it_p hg c_7
          refine lv_iload_n hx hb dX7_order_140 rfl (lv_at hl 3 rfl) ?_
          refine lv_goto (tgt := 146) hx hb dX7_order_141 (by decide) ?_
          exact r_ireti S hr hlk hw.2.2.2.2 hw hg dX7_order_146
      · have hg := it_n hg c_3
        refine lv_aload_n hx hb dX7_order_64 rfl (lv_at hl 0 rfl) ?_
        refine lv_iload hx hb dX7_order_65 (lv_at hl 5 rfl) ?_
        obtain ⟨s_8, x_9, h_10, hg⟩ := bnI_e hg
        refine r_iV (As := [.int v5]) (rest := []) S hA hK hw (c_X7_orders l hG  h_10) (cwV 1 hts gX7_order_X7_orders rfl rfl rfl (by decide +kernel) ⟨Nat.le_of_ble_eq_true rfl, Nat.le_of_ble_eq_true rfl⟩) (r_recv hK hw (kM_0 hG).1 (kM_0 hG).2 rfl) rfl hl.1 (Nat.le_of_ble_eq_true rfl) dX7_order_67 ⟨Nat.zero_le _, Nat.zero_le _⟩ rfl (fun H locs hw => ?_)
        refine lv_if_eq (tgt := 126) hx hb dX7_order_70 (by decide) (fun c_11 => ?_) (fun c_11 => ?_)
        · have hg := it_p hg c_11
          exact J126 v3 v4 v5 _ _ _ _ hg hw (lv_sub hl [0, 1, 2, 3, 4, 5] rfl)
        · have hg := it_n hg c_11
          refine lv_aload_n hx hb dX7_order_73 rfl (lv_at hl 0 rfl) ?_
          obtain ⟨s_12, x_13, h_14, hg⟩ := bnI_e hg
          refine r_iV (As := []) (rest := []) S hA hK hw (c_X7_mindsNow l hG  h_14) (cwV 0 hts gX7_order_X7_mindsNow rfl rfl rfl (by decide +kernel) ⟨Nat.le_of_ble_eq_true rfl, Nat.le_of_ble_eq_true rfl⟩) (r_recv hK hw (kM_0 hG).1 (kM_0 hG).2 rfl) rfl hl.1 (Nat.le_of_ble_eq_true rfl) dX7_order_74 ⟨Nat.zero_le _, Nat.zero_le _⟩ rfl (fun H locs hw => ?_)
          refine lv_istore (lv' := [(6, .int x_13), (0, .ref (gAd G 0)), (1, .int v1), (2, .int v2), (3, .int v3), (4, .int v4), (5, .int v5)]) hx hb dX7_order_77 hl (by decide) rfl (fun ls hl => ?_)
          refine lv_iload_n hx hb dX7_order_79 rfl (lv_at hl 4 rfl) ?_
          refine lv_iconst (v := (-1)) hx hb dX7_order_80 (by decide) ?_
          refine lv_icmp_eq (tgt := 91) hx hb dX7_order_81 (by decide) (fun c_15 => ?_) (fun c_15 => ?_)
          · have hg := it_p hg c_15
            exact J91 v3 v4 v5 x_13 _ _ _ _ hg hw (lv_sub hl [1, 2, 3, 4, 5, 6, 0] rfl)
          · have hg := it_n hg c_15
            refine lv_iload hx hb dX7_order_84 (lv_at hl 0 rfl) ?_
            refine lv_iload hx hb dX7_order_86 (lv_at hl 5 rfl) ?_
            refine lv_icmp_ge (tgt := 95) hx hb dX7_order_88 (by decide) (fun c_16 => ?_) (fun c_16 => ?_)
            · have hg := it_p hg c_16
              refine lv_iconst (v := 0) hx hb dX7_order_95 (by decide) ?_
              exact J96 v3 v4 v5 x_13 0 _ _ _ _ hg hw (lv_sub hl [1, 2, 3, 4, 5, 6, 0] rfl)
            · have hg := it_n hg c_16
              exact J91 v3 v4 v5 x_13 _ _ _ _ hg hw (lv_sub hl [1, 2, 3, 4, 5, 6, 0] rfl)
  have L25 : ∀ (v1 : Int32) (n25 : Nat) (v2 : Int32) (v3 : Int32) (σ : Sg) (H : Heap) (locs : List Loc) (ls : Array Slot) (hg : g_X7_order_l25 F v1 n25 v2 v3 σ = some (σR, r)) (hw : XD G (gA G sz) s.heap σ H locs) (hl : lv_has ls 8 [(0, .ref (gAd G 0)), (1, .int v1), (2, .int v2), (3, .int v3)]), W p l e (headSpec wsX7_order ({ frames := 7, cells := 0, slots := 0, locals := 168 } : Room)).room s m args below meth c H locs 0 0 (MQ below (QcI G (gA G sz) σR r) args s 0 0 (gA G sz)) (F0 m 25 ls []) := by
    intro v1
    intro n25
    induction n25 with
    | zero => intro v2 v3 σ H locs ls hg hw hl; exact no_e hg
    | succ n25 ih25 =>
      intro v2 v3 σ H locs ls hg hw hl
      rw [g_X7_order_l25] at hg
      refine lv_iload_n hx hb dX7_order_25 rfl (lv_at hl 3 rfl) ?_
      refine lv_aload_n hx hb dX7_order_26 rfl (lv_at hl 0 rfl) ?_
      refine r_get (C := RX7) (T := TX7) (N := 43) S hK hw (kM_0 hG).1 (kM_0 hG).2 rfl hinX7 0 (by decide) rfl (hts (.fieldLink RX7 90 "SoupByRankModel" "courtiers" "I") (by decide +kernel)) rfl dX7_order_27 ?_
      refine lv_icmp_ge (tgt := 46) hx hb dX7_order_30 (by decide) (fun c_17 => ?_) (fun c_17 => ?_)
      · have hg := it_p hg c_17
        refine lv_iconst (v := (-1)) hx hb dX7_order_46 (by decide) ?_
        refine lv_istore_n (lv' := [(3, .int (-1)), (0, .ref (gAd G 0)), (1, .int v1), (2, .int v2)]) hx hb dX7_order_47 rfl hl (by decide) rfl (fun ls hl => ?_)
        refine lv_iconst (v := 0) hx hb dX7_order_48 (by decide) ?_
        refine lv_istore (lv' := [(4, .int 0), (3, .int (-1)), (0, .ref (gAd G 0)), (1, .int v1), (2, .int v2)]) hx hb dX7_order_49 hl (by decide) rfl (fun ls hl => ?_)
        refine lv_aload_n hx hb dX7_order_51 rfl (lv_at hl 2 rfl) ?_
        obtain ⟨s_18, h_20, hg⟩ := bnV_e hg
        refine r_vV (As := []) (rest := []) S hA hK hw (c_X7_keeps l hG  h_20) (cwV 0 hts gX7_order_X7_keeps rfl rfl rfl (by decide +kernel) ⟨Nat.le_of_ble_eq_true rfl, Nat.le_of_ble_eq_true rfl⟩) (r_recv hK hw (kM_0 hG).1 (kM_0 hG).2 rfl) rfl hl.1 (Nat.le_of_ble_eq_true rfl) dX7_order_52 ⟨Nat.zero_le _, Nat.zero_le _⟩ rfl (fun H locs hw => ?_)
        refine lv_iconst (v := 0) hx hb dX7_order_55 (by decide) ?_
        refine lv_istore (lv' := [(5, .int 0), (4, .int 0), (3, .int (-1)), (0, .ref (gAd G 0)), (1, .int v1), (2, .int v2)]) hx hb dX7_order_56 hl (by decide) rfl (fun ls hl => ?_)
        exact L58 v1 v2 F _ _ _ _ _ _ _ hg hw (lv_sub hl [3, 4, 5, 2, 1, 0] rfl)
      · have hg := it_n hg c_17
        refine lv_iload_n hx hb dX7_order_33 rfl (lv_at hl 2 rfl) ?_
        refine lv_aload_n hx hb dX7_order_34 rfl (lv_at hl 0 rfl) ?_
        refine r_get (C := RX7) (T := TX7) (N := 43) S hK hw (kM_0 hG).1 (kM_0 hG).2 rfl hinX7 0 (by decide) rfl (hts (.fieldLink RX7 90 "SoupByRankModel" "courtiers" "I") (by decide +kernel)) rfl dX7_order_35 ?_
        refine lv_imul hx hb dX7_order_38 ?_
        refine lv_istore_n (lv' := [(2, .int (v2 * (σ 0 0))), (0, .ref (gAd G 0)), (1, .int v1), (3, .int v3)]) hx hb dX7_order_39 rfl hl (by decide) rfl (fun ls hl => ?_)
        refine lv_iinc (v := (v3 + 1)) (lv' := [(3, .int (v3 + 1)), (2, .int (v2 * (σ 0 0))), (0, .ref (gAd G 0)), (1, .int v1)]) hx hb dX7_order_40 hl (k := 3) rfl rfl (by decide) rfl (fun ls hl => ?_)
        refine lv_goto (tgt := 25) hx hb dX7_order_43 (by decide) ?_
        exact ih25 _ _ _ _ _ _ hg hw (lv_sub hl [2, 3, 1, 0] rfl)
  rw [g_X7_order] at hg
  refine lv_iload_n hx hb dX7_order_0 rfl (lv_at hl 1 rfl) ?_
  refine lv_iconst (v := 0) hx hb dX7_order_1 (by decide) ?_
  refine lv_iconst (v := 1) hx hb dX7_order_2 (by decide) ?_
  obtain ⟨s_21, x_22, h_23, hg⟩ := bnI_e hg
  refine r_iS (As := [.int a1, .int 0, .int 1]) (rest := []) S hA hK hw (c_X7_in l hG  h_23) (va_cwS 3 hts gX7_order_X7_in rfl rfl rfl (by decide +kernel) ⟨Nat.le_of_ble_eq_true rfl, Nat.le_of_ble_eq_true rfl⟩) rfl hl.1 (Nat.le_of_ble_eq_true rfl) dX7_order_3 ⟨Nat.zero_le _, Nat.zero_le _⟩ rfl (fun H locs hw => ?_)
  refine lv_if_ne (tgt := 12) hx hb dX7_order_6 (by decide) (fun c_24 => ?_) (fun c_24 => ?_)
  · have hg := it_n hg c_24
    refine lv_aload_n hx hb dX7_order_12 rfl (lv_at hl 0 rfl) ?_
    refine r_get (C := RX7) (T := TX7) (N := 43) S hK hw (kM_0 hG).1 (kM_0 hG).2 rfl hinX7 0 (by decide) rfl (hts (.fieldLink RX7 90 "SoupByRankModel" "courtiers" "I") (by decide +kernel)) rfl dX7_order_13 ?_
    refine lv_if_ne (tgt := 21) hx hb dX7_order_16 (by decide) (fun c_25 => ?_) (fun c_25 => ?_)
    · have hg := it_n hg c_25
      refine lv_iconst (v := 1) hx hb dX7_order_21 (by decide) ?_
      refine lv_istore_n (lv' := [(2, .int 1), (0, .ref (gAd G 0)), (1, .int a1)]) hx hb dX7_order_22 rfl hl (by decide) rfl (fun ls hl => ?_)
      refine lv_iconst (v := 0) hx hb dX7_order_23 (by decide) ?_
      refine lv_istore_n (lv' := [(3, .int 0), (2, .int 1), (0, .ref (gAd G 0)), (1, .int a1)]) hx hb dX7_order_24 rfl hl (by decide) rfl (fun ls hl => ?_)
      exact L25 a1 F _ _ _ _ _ _ hg hw (lv_sub hl [2, 3, 1, 0] rfl)
    · have hg := it_p hg c_25
      refine lv_iconst (v := 0) hx hb dX7_order_19 (by decide) ?_
      exact r_ireti S hr hlk hw.2.2.2.2 hw hg dX7_order_20
  · have hg := it_p hg c_24
    refine lv_ldc (v := (-100000)) hx hb hown (hts (.constant RX7 222 (-100000)) (by decide +kernel)) dX7_order_9 ?_
    exact r_ireti S hr hlk hw.2.2.2.2 hw hg dX7_order_11
set_option maxHeartbeats 4000000 in
set_option maxRecDepth 100000 in
theorem c_X7_lowest (l : Launch) {G : GW} (hG : isM G) {F sz : Nat} {a0 : Int64} {a2 : Int64} {a4 : Int32} {σ σR : Sg} {r : Int64} (hg : g_X7_lowest F a0 a2 a4 σ = some (σR, r)) : Met l yX7_lowest wsX7_lowest ({ frames := 0, cells := 0, slots := 0, locals := 0 } : Room) (va_Pc [.long a0, .long a2, .int a4] (PX G σ sz)) (QcL G (gA G sz) σR r) 0 0 (gA G sz) := by
  refine metX (by decide) rfl (Nat.le_of_ble_eq_true rfl) ?_
  intro p e s m args below meth c ls S hr hlk hsz hA hK hw hl hmn
  have S : CallFix p m c cX7_lowest 11 s args wsX7_lowest RX7 := S
  obtain ⟨hx, hb, hml, hown, hts⟩ := id S
  have hl : lv_has ls 11 [(0, .long a0), (2, .long a2), (4, .int a4)] := hl
  have L16 : ∀ (v0 : Int64) (v2 : Int64) (v4 : Int32) (n16 : Nat) (v5 : Int64) (v7 : Int64) (σ : Sg) (H : Heap) (locs : List Loc) (ls : Array Slot) (hg : g_X7_lowest_l16 F v0 v2 v4 n16 v5 v7 σ = some (σR, r)) (hw : XD G (gA G sz) s.heap σ H locs) (hl : lv_has ls 11 [(0, .long v0), (2, .long v2), (4, .int v4), (5, .long v5), (7, .long v7)]), W p l e (headSpec wsX7_lowest ({ frames := 0, cells := 0, slots := 0, locals := 0 } : Room)).room s m args below meth c H locs 0 0 (MQ below (QcL G (gA G sz) σR r) args s 0 0 (gA G sz)) (F0 m 16 ls []) := by
    intro v0 v2 v4
    intro n16
    induction n16 with
    | zero => intro v5 v7 σ H locs ls hg hw hl; exact no_e hg
    | succ n16 ih16 =>
      intro v5 v7 σ H locs ls hg hw hl
      rw [g_X7_lowest_l16] at hg
      refine lv_lload hx hb dX7_lowest_16 (lv_at hl 4 rfl) ?_
      refine lv_lconst (v := 0) hx hb dX7_lowest_18 (by decide) ?_
      refine W.lcmp hx hb dX7_lowest_19 ?_
      refine lv_if_eq (tgt := 41) hx hb dX7_lowest_20 (by decide) (fun c_1 => ?_) (fun c_1 => ?_)
      · have hg := it_p hg c_1
        refine lv_iload hx hb dX7_lowest_41 (lv_at hl 2 rfl) ?_
        refine lv_if_ne (tgt := 50) hx hb dX7_lowest_43 (by decide) (fun c_2 => ?_) (fun c_2 => ?_)
        · have hg := it_n hg c_2
          refine lv_lload_n hx hb dX7_lowest_50 rfl (lv_at hl 1 rfl) ?_
          refine lv_lload hx hb dX7_lowest_51 (lv_at hl 3 rfl) ?_
          obtain ⟨h_4, hg⟩ := divL_e hg
          refine lv_ldiv hx hb dX7_lowest_53 h_4 ?_
          exact r_lreti S hr hlk hw.2.2.2.2 hw hg dX7_lowest_54
        · have hg := it_p hg c_2
          refine lv_lload_n hx hb dX7_lowest_46 rfl (lv_at hl 0 rfl) ?_
          refine lv_goto (tgt := 51) hx hb dX7_lowest_47 (by decide) ?_
          refine lv_lload hx hb dX7_lowest_51 (lv_at hl 3 rfl) ?_
          obtain ⟨h_7, hg⟩ := divL_e hg
          refine lv_ldiv hx hb dX7_lowest_53 h_7 ?_
          exact r_lreti S hr hlk hw.2.2.2.2 hw hg dX7_lowest_54
      · have hg := it_n hg c_1
        refine lv_lload hx hb dX7_lowest_23 (lv_at hl 3 rfl) ?_
        refine lv_lload hx hb dX7_lowest_25 (lv_at hl 4 rfl) ?_
        obtain ⟨h_10, hg⟩ := remL_e hg
        refine lv_lrem hx hb dX7_lowest_27 h_10 ?_
        refine lv_lstore (lv' := [(9, .long (v5 - v5 / v7 * v7)), (0, .long v0), (2, .long v2), (4, .int v4), (5, .long v5), (7, .long v7)]) hx hb dX7_lowest_28 hl (by decide) rfl (fun ls hl => ?_)
        refine lv_lload hx hb dX7_lowest_30 (lv_at hl 5 rfl) ?_
        refine lv_lstore (lv' := [(5, .long v7), (9, .long (v5 - v5 / v7 * v7)), (0, .long v0), (2, .long v2), (4, .int v4), (7, .long v7)]) hx hb dX7_lowest_32 hl (by decide) rfl (fun ls hl => ?_)
        refine lv_lload hx hb dX7_lowest_34 (lv_at hl 1 rfl) ?_
        refine lv_lstore (lv' := [(7, .long (v5 - v5 / v7 * v7)), (5, .long v7), (9, .long (v5 - v5 / v7 * v7)), (0, .long v0), (2, .long v2), (4, .int v4)]) hx hb dX7_lowest_36 hl (by decide) rfl (fun ls hl => ?_)
        refine lv_goto (tgt := 16) hx hb dX7_lowest_38 (by decide) ?_
        exact ih16 _ _ _ _ _ _ hg hw (lv_sub hl [3, 4, 5, 1, 0] rfl)
  rw [g_X7_lowest] at hg
  refine lv_lload_n hx hb dX7_lowest_0 rfl (lv_at hl 0 rfl) ?_
  refine lv_lconst (v := 0) hx hb dX7_lowest_1 (by decide) ?_
  refine W.lcmp hx hb dX7_lowest_2 ?_
  refine lv_if_ne (tgt := 10) hx hb dX7_lowest_3 (by decide) (fun c_12 => ?_) (fun c_12 => ?_)
  · have hg := it_n hg c_12
    refine lv_lload_n hx hb dX7_lowest_10 rfl (lv_at hl 0 rfl) ?_
    refine lv_lstore (lv' := [(5, .long a0), (0, .long a0), (2, .long a2), (4, .int a4)]) hx hb dX7_lowest_11 hl (by decide) rfl (fun ls hl => ?_)
    refine lv_lload_n hx hb dX7_lowest_13 rfl (lv_at hl 2 rfl) ?_
    refine lv_lstore (lv' := [(7, .long a2), (5, .long a0), (0, .long a0), (2, .long a2), (4, .int a4)]) hx hb dX7_lowest_14 hl (by decide) rfl (fun ls hl => ?_)
    exact L16 a0 a2 a4 F _ _ _ _ _ _ hg hw (lv_sub hl [2, 3, 4, 1, 0] rfl)
  · have hg := it_p hg c_12
    refine lv_iload hx hb dX7_lowest_6 (lv_at hl 2 rfl) ?_
    refine lv_i2l (v := (Int32.toInt64 a4)) hx hb dX7_lowest_8 rfl ?_
    exact r_lreti S hr hlk hw.2.2.2.2 hw hg dX7_lowest_9
set_option maxHeartbeats 4000000 in
set_option maxRecDepth 100000 in
theorem c_X7_mean (l : Launch) {G : GW} (hG : isM G) {F sz : Nat} {a1 : Int32} {σ σR : Sg} {r : Int64} (hg : g_X7_mean F a1 σ = some (σR, r)) : Met l yX7_mean wsX7_mean ({ frames := 6, cells := 0, slots := 0, locals := 148 } : Room) (va_Pc [.ref (gAd G 0), .int a1] (PX G σ sz)) (QcL G (gA G sz) σR r) 0 0 (gA G sz) := by
  refine metX (by decide) rfl (Nat.le_of_ble_eq_true rfl) ?_
  intro p e s m args below meth c ls S hr hlk hsz hA hK hw hl hmn
  have S : CallFix p m c cX7_mean 2 s args wsX7_mean RX7 := S
  obtain ⟨hx, hb, hml, hown, hts⟩ := id S
  have hl : lv_has ls 2 [(0, .ref (gAd G 0)), (1, .int a1)] := hl
  have hinX7 : ∀ w ∈ wsX70, w ∈ wsX7_mean := by decide +kernel
  rw [g_X7_mean] at hg
  refine lv_iload_n hx hb dX7_mean_0 rfl (lv_at hl 1 rfl) ?_
  refine lv_iconst (v := 0) hx hb dX7_mean_1 (by decide) ?_
  refine lv_iconst (v := 1) hx hb dX7_mean_2 (by decide) ?_
  obtain ⟨s_1, x_2, h_3, hg⟩ := bnI_e hg
  refine r_iS (As := [.int a1, .int 0, .int 1]) (rest := []) S hA hK hw (c_X7_in l hG  h_3) (va_cwS 3 hts gX7_mean_X7_in rfl rfl rfl (by decide +kernel) ⟨Nat.le_of_ble_eq_true rfl, Nat.le_of_ble_eq_true rfl⟩) rfl hl.1 (Nat.le_of_ble_eq_true rfl) dX7_mean_3 ⟨Nat.zero_le _, Nat.zero_le _⟩ rfl (fun H locs hw => ?_)
  refine lv_if_eq (tgt := 16) hx hb dX7_mean_6 (by decide) (fun c_4 => ?_) (fun c_4 => ?_)
  · have hg := it_p hg c_4
    refine lv_ldc2 (v := (-4611686018427387904)) hx hb hown (hts (.constantLong RX7 254 (-4611686018427387904)) (by decide +kernel)) dX7_mean_16 ?_
    exact r_lreti S hr hlk hw.2.2.2.2 hw hg dX7_mean_19
  · have hg := it_n hg c_4
    refine lv_aload_n hx hb dX7_mean_9 rfl (lv_at hl 0 rfl) ?_
    refine r_get (C := RX7) (T := TX7) (N := 43) S hK hw (kM_0 hG).1 (kM_0 hG).2 rfl hinX7 0 (by decide) rfl (hts (.fieldLink RX7 90 "SoupByRankModel" "courtiers" "I") (by decide +kernel)) rfl dX7_mean_10 ?_
    refine lv_if_ne (tgt := 20) hx hb dX7_mean_13 (by decide) (fun c_5 => ?_) (fun c_5 => ?_)
    · have hg := it_n hg c_5
      refine lv_aload_n hx hb dX7_mean_20 rfl (lv_at hl 0 rfl) ?_
      refine lv_iconst (v := (-1)) hx hb dX7_mean_21 (by decide) ?_
      obtain ⟨s_6, h_8, hg⟩ := bnV_e hg
      refine r_vV (As := [.int (-1)]) (rest := []) S hA hK hw (c_X7_sups l hG  h_8) (cwV 1 hts gX7_mean_X7_sups rfl rfl rfl (by decide +kernel) ⟨Nat.le_of_ble_eq_true rfl, Nat.le_of_ble_eq_true rfl⟩) (r_recv hK hw (kM_0 hG).1 (kM_0 hG).2 rfl) rfl hl.1 (Nat.le_of_ble_eq_true rfl) dX7_mean_22 ⟨Nat.zero_le _, Nat.zero_le _⟩ rfl (fun H locs hw => ?_)
      refine lv_aload_n hx hb dX7_mean_25 rfl (lv_at hl 0 rfl) ?_
      refine r_get (C := RX7) (T := TX7) (N := 43) S hK hw (kM_0 hG).1 (kM_0 hG).2 rfl hinX7 39 (by decide) rfl (hts (.fieldLink RX7 203 "SoupByRankModel" "gotAll" "I") (by decide +kernel)) rfl dX7_mean_26 ?_
      refine lv_i2l (v := (Int32.toInt64 (s_6 0 39))) hx hb dX7_mean_29 rfl ?_
      refine lv_aload_n hx hb dX7_mean_30 rfl (lv_at hl 0 rfl) ?_
      refine r_get (C := RX7) (T := TX7) (N := 43) S hK hw (kM_0 hG).1 (kM_0 hG).2 rfl hinX7 40 (by decide) rfl (hts (.fieldLink RX7 206 "SoupByRankModel" "begunMany" "I") (by decide +kernel)) rfl dX7_mean_31 ?_
      refine lv_i2l (v := (Int32.toInt64 (s_6 0 40))) hx hb dX7_mean_34 rfl ?_
      refine lv_iload_n hx hb dX7_mean_35 rfl (lv_at hl 1 rfl) ?_
      obtain ⟨s_9, x_10, h_11, hg⟩ := bnL_e hg
      refine r_lS (As := [.long (Int32.toInt64 (s_6 0 39)), .long (Int32.toInt64 (s_6 0 40)), .int a1]) (rest := []) S hA hK hw (c_X7_lowest l hG  h_11) (va_cwS 3 hts gX7_mean_X7_lowest rfl rfl rfl (by decide +kernel) ⟨Nat.le_of_ble_eq_true rfl, Nat.le_of_ble_eq_true rfl⟩) rfl hl.1 (Nat.le_of_ble_eq_true rfl) dX7_mean_36 ⟨Nat.zero_le _, Nat.zero_le _⟩ rfl (fun H locs hw => ?_)
      exact r_lreti S hr hlk hw.2.2.2.2 hw hg dX7_mean_39
    · have hg := it_p hg c_5
      refine lv_ldc2 (v := (-4611686018427387904)) hx hb hown (hts (.constantLong RX7 254 (-4611686018427387904)) (by decide +kernel)) dX7_mean_16 ?_
      exact r_lreti S hr hlk hw.2.2.2.2 hw hg dX7_mean_19
set_option maxHeartbeats 4000000 in
set_option maxRecDepth 100000 in
theorem c_X7_sheetWrong (l : Launch) {G : GW} (hG : isM G) {F sz : Nat} {a1 : Int32} {σ σR : Sg} {r : Int32} (hg : g_X7_sheetWrong F a1 σ = some (σR, r)) : Met l yX7_sheetWrong wsX7_sheetWrong ({ frames := 1, cells := 0, slots := 0, locals := 22 } : Room) (va_Pc [.ref (gAd G 0), .int a1] (PX G σ sz)) (QcI G (gA G sz) σR r) 0 0 (gA G sz) := by
  refine metX (by decide) rfl (Nat.le_of_ble_eq_true rfl) ?_
  intro p e s m args below meth c ls S hr hlk hsz hA hK hw hl hmn
  have S : CallFix p m c cX7_sheetWrong 2 s args wsX7_sheetWrong RX7 := S
  obtain ⟨hx, hb, hml, hown, hts⟩ := id S
  have hl : lv_has ls 2 [(0, .ref (gAd G 0)), (1, .int a1)] := hl
  have hinX7 : ∀ w ∈ wsX70, w ∈ wsX7_sheetWrong := by decide +kernel
  rw [g_X7_sheetWrong] at hg
  refine lv_iload_n hx hb dX7_sheetWrong_0 rfl (lv_at hl 1 rfl) ?_
  refine lv_iconst (v := 0) hx hb dX7_sheetWrong_1 (by decide) ?_
  refine lv_iconst (v := 3) hx hb dX7_sheetWrong_2 (by decide) ?_
  obtain ⟨s_1, x_2, h_3, hg⟩ := bnI_e hg
  refine r_iS (As := [.int a1, .int 0, .int 3]) (rest := []) S hA hK hw (c_X7_in l hG  h_3) (va_cwS 3 hts gX7_sheetWrong_X7_in rfl rfl rfl (by decide +kernel) ⟨Nat.le_of_ble_eq_true rfl, Nat.le_of_ble_eq_true rfl⟩) rfl hl.1 (Nat.le_of_ble_eq_true rfl) dX7_sheetWrong_3 ⟨Nat.zero_le _, Nat.zero_le _⟩ rfl (fun H locs hw => ?_)
  refine lv_if_ne (tgt := 12) hx hb dX7_sheetWrong_6 (by decide) (fun c_4 => ?_) (fun c_4 => ?_)
  · have hg := it_n hg c_4
    refine lv_aload_n hx hb dX7_sheetWrong_12 rfl (lv_at hl 0 rfl) ?_
    refine r_getr (C := RX7) (T := TX7) (N := 43) (k' := 9) S hK hw (kM_0 hG).1 (kM_0 hG).2 rfl hinX7 15 (by decide) (o := 9) rfl rfl (hts (.fieldLink RX7 38 "SoupByRankModel" "sheetSort" "[I") (by decide +kernel)) rfl dX7_sheetWrong_13 ?_
    refine lv_iload_n hx hb dX7_sheetWrong_16 rfl (lv_at hl 1 rfl) ?_
    obtain ⟨h_6, x_5, e_7, hg⟩ := rdA_e hg
    refine r_iald S hK hw (kM_9 hG).1 (kM_9 hG).2 h_6 e_7 dX7_sheetWrong_17 ?_
    refine lv_iconst (v := (-1)) hx hb dX7_sheetWrong_18 (by decide) ?_
    refine lv_icmp_ne (tgt := 25) hx hb dX7_sheetWrong_19 (by decide) (fun c_8 => ?_) (fun c_8 => ?_)
    · have hg := it_n hg c_8
      refine lv_aload_n hx hb dX7_sheetWrong_25 rfl (lv_at hl 0 rfl) ?_
      refine r_getr (C := RX7) (T := TX7) (N := 43) (k' := 10) S hK hw (kM_0 hG).1 (kM_0 hG).2 rfl hinX7 16 (by decide) (o := 10) rfl rfl (hts (.fieldLink RX7 41 "SoupByRankModel" "sheetSize" "[I") (by decide +kernel)) rfl dX7_sheetWrong_26 ?_
      refine lv_iload_n hx hb dX7_sheetWrong_29 rfl (lv_at hl 1 rfl) ?_
      obtain ⟨h_10, x_9, e_11, hg⟩ := rdA_e hg
      refine r_iald S hK hw (kM_10 hG).1 (kM_10 hG).2 h_10 e_11 dX7_sheetWrong_30 ?_
      refine lv_aload_n hx hb dX7_sheetWrong_31 rfl (lv_at hl 0 rfl) ?_
      refine r_get (C := RX7) (T := TX7) (N := 43) S hK hw (kM_0 hG).1 (kM_0 hG).2 rfl hinX7 0 (by decide) rfl (hts (.fieldLink RX7 90 "SoupByRankModel" "courtiers" "I") (by decide +kernel)) rfl dX7_sheetWrong_32 ?_
      refine lv_icmp_le (tgt := 43) hx hb dX7_sheetWrong_35 (by decide) (fun c_12 => ?_) (fun c_12 => ?_)
      · have hg := it_p hg c_12
        refine lv_iconst (v := 0) hx hb dX7_sheetWrong_43 (by decide) ?_
        exact r_ireti S hr hlk hw.2.2.2.2 hw hg dX7_sheetWrong_44
      · have hg := it_n hg c_12
        refine lv_bipush (v := (-2)) hx hb dX7_sheetWrong_38 (by decide) ?_
        refine lv_goto (tgt := 44) hx hb dX7_sheetWrong_40 (by decide) ?_
        exact r_ireti S hr hlk hw.2.2.2.2 hw hg dX7_sheetWrong_44
    · have hg := it_p hg c_8
      refine lv_bipush (v := (-11)) hx hb dX7_sheetWrong_22 (by decide) ?_
      exact r_ireti S hr hlk hw.2.2.2.2 hw hg dX7_sheetWrong_24
  · have hg := it_p hg c_4
    refine lv_bipush (v := (-2)) hx hb dX7_sheetWrong_9 (by decide) ?_
    exact r_ireti S hr hlk hw.2.2.2.2 hw hg dX7_sheetWrong_11
set_option maxHeartbeats 4000000 in
set_option maxRecDepth 100000 in
theorem c_X7_toldWrong (l : Launch) {G : GW} (hG : isM G) {F sz : Nat} {a1 : Int32} {a2 : Int32} {σ σR : Sg} {r : Int32} (hg : g_X7_toldWrong F a1 a2 σ = some (σR, r)) : Met l yX7_toldWrong wsX7_toldWrong ({ frames := 2, cells := 0, slots := 0, locals := 43 } : Room) (va_Pc [.ref (gAd G 0), .int a1, .int a2] (PX G σ sz)) (QcI G (gA G sz) σR r) 0 0 (gA G sz) := by
  refine metX (by decide) rfl (Nat.le_of_ble_eq_true rfl) ?_
  intro p e s m args below meth c ls S hr hlk hsz hA hK hw hl hmn
  have S : CallFix p m c cX7_toldWrong 4 s args wsX7_toldWrong RX7 := S
  obtain ⟨hx, hb, hml, hown, hts⟩ := id S
  have hl : lv_has ls 4 [(0, .ref (gAd G 0)), (1, .int a1), (2, .int a2)] := hl
  rw [g_X7_toldWrong] at hg
  refine lv_aload_n hx hb dX7_toldWrong_0 rfl (lv_at hl 0 rfl) ?_
  refine lv_iload_n hx hb dX7_toldWrong_1 rfl (lv_at hl 1 rfl) ?_
  obtain ⟨s_1, x_2, h_3, hg⟩ := bnI_e hg
  refine r_iV (As := [.int a1]) (rest := []) S hA hK hw (c_X7_sheetWrong l hG  h_3) (cwV 1 hts gX7_toldWrong_X7_sheetWrong rfl rfl rfl (by decide +kernel) ⟨Nat.le_of_ble_eq_true rfl, Nat.le_of_ble_eq_true rfl⟩) (r_recv hK hw (kM_0 hG).1 (kM_0 hG).2 rfl) rfl hl.1 (Nat.le_of_ble_eq_true rfl) dX7_toldWrong_2 ⟨Nat.zero_le _, Nat.zero_le _⟩ rfl (fun H locs hw => ?_)
  refine lv_istore_n (lv' := [(3, .int x_2), (0, .ref (gAd G 0)), (1, .int a1), (2, .int a2)]) hx hb dX7_toldWrong_5 rfl hl (by decide) rfl (fun ls hl => ?_)
  refine lv_iload_n hx hb dX7_toldWrong_6 rfl (lv_at hl 0 rfl) ?_
  refine lv_if_eq (tgt := 14) hx hb dX7_toldWrong_7 (by decide) (fun c_4 => ?_) (fun c_4 => ?_)
  · have hg := it_p hg c_4
    refine lv_aload_n hx hb dX7_toldWrong_14 rfl (lv_at hl 1 rfl) ?_
    refine lv_iload_n hx hb dX7_toldWrong_15 rfl (lv_at hl 3 rfl) ?_
    obtain ⟨s_5, x_6, h_7, hg⟩ := bnI_e hg
    refine r_iV (As := [.int a2]) (rest := []) S hA hK hw (c_X7_isOne l hG  h_7) (cwV 1 hts gX7_toldWrong_X7_isOne rfl rfl rfl (by decide +kernel) ⟨Nat.le_of_ble_eq_true rfl, Nat.le_of_ble_eq_true rfl⟩) (r_recv hK hw (kM_0 hG).1 (kM_0 hG).2 rfl) rfl hl.1 (Nat.le_of_ble_eq_true rfl) dX7_toldWrong_16 ⟨Nat.zero_le _, Nat.zero_le _⟩ rfl (fun H locs hw => ?_)
    refine lv_if_eq (tgt := 26) hx hb dX7_toldWrong_19 (by decide) (fun c_8 => ?_) (fun c_8 => ?_)
    · have hg := it_p hg c_8
      refine lv_bipush (v := (-5)) hx hb dX7_toldWrong_26 (by decide) ?_
      exact r_ireti S hr hlk hw.2.2.2.2 hw hg dX7_toldWrong_28
    · have hg := it_n hg c_8
      refine lv_iconst (v := 0) hx hb dX7_toldWrong_22 (by decide) ?_
      refine lv_goto (tgt := 28) hx hb dX7_toldWrong_23 (by decide) ?_
      exact r_ireti S hr hlk hw.2.2.2.2 hw hg dX7_toldWrong_28
  · have hg := it_n hg c_4
    refine lv_iload_n hx hb dX7_toldWrong_10 rfl (lv_at hl 0 rfl) ?_
    refine lv_goto (tgt := 28) hx hb dX7_toldWrong_11 (by decide) ?_
    exact r_ireti S hr hlk hw.2.2.2.2 hw hg dX7_toldWrong_28
set_option maxHeartbeats 4000000 in
set_option maxRecDepth 100000 in
theorem c_X7_unlike (l : Launch) {G : GW} (hG : isM G) {F sz : Nat} {a1 : Int32} {σ σR : Sg} {r : Int32} (hg : g_X7_unlike F a1 σ = some (σR, r)) : Met l yX7_unlike wsX7_unlike ({ frames := 6, cells := 0, slots := 0, locals := 148 } : Room) (va_Pc [.ref (gAd G 0), .int a1] (PX G σ sz)) (QcI G (gA G sz) σR r) 0 0 (gA G sz) := by
  refine metX (by decide) rfl (Nat.le_of_ble_eq_true rfl) ?_
  intro p e s m args below meth c ls S hr hlk hsz hA hK hw hl hmn
  have S : CallFix p m c cX7_unlike 3 s args wsX7_unlike RX7 := S
  obtain ⟨hx, hb, hml, hown, hts⟩ := id S
  have hl : lv_has ls 3 [(0, .ref (gAd G 0)), (1, .int a1)] := hl
  have hinX7 : ∀ w ∈ wsX70, w ∈ wsX7_unlike := by decide +kernel
  have L7 : ∀ (v1 : Int32) (n7 : Nat) (v2 : Int32) (σ : Sg) (H : Heap) (locs : List Loc) (ls : Array Slot) (hg : g_X7_unlike_l7 F v1 n7 v2 σ = some (σR, r)) (hw : XD G (gA G sz) s.heap σ H locs) (hl : lv_has ls 3 [(0, .ref (gAd G 0)), (1, .int v1), (2, .int v2)]), W p l e (headSpec wsX7_unlike ({ frames := 6, cells := 0, slots := 0, locals := 148 } : Room)).room s m args below meth c H locs 0 0 (MQ below (QcI G (gA G sz) σR r) args s 0 0 (gA G sz)) (F0 m 7 ls []) := by
    intro v1
    intro n7
    induction n7 with
    | zero => intro v2 σ H locs ls hg hw hl; exact no_e hg
    | succ n7 ih7 =>
      intro v2 σ H locs ls hg hw hl
      rw [g_X7_unlike_l7] at hg
      refine lv_iload_n hx hb dX7_unlike_7 rfl (lv_at hl 2 rfl) ?_
      refine lv_aload_n hx hb dX7_unlike_8 rfl (lv_at hl 0 rfl) ?_
      refine r_getr (C := RX7) (T := TX7) (N := 43) (k' := 10) S hK hw (kM_0 hG).1 (kM_0 hG).2 rfl hinX7 16 (by decide) (o := 10) rfl rfl (hts (.fieldLink RX7 41 "SoupByRankModel" "sheetSize" "[I") (by decide +kernel)) rfl dX7_unlike_9 ?_
      refine lv_iload_n hx hb dX7_unlike_12 rfl (lv_at hl 1 rfl) ?_
      obtain ⟨h_2, x_1, e_3, hg⟩ := rdA_e hg
      refine r_iald S hK hw (kM_10 hG).1 (kM_10 hG).2 h_2 e_3 dX7_unlike_13 ?_
      refine lv_icmp_ge (tgt := 51) hx hb dX7_unlike_14 (by decide) (fun c_4 => ?_) (fun c_4 => ?_)
      · have hg := it_p hg c_4
        refine lv_iconst (v := (-1)) hx hb dX7_unlike_51 (by decide) ?_
        exact r_ireti S hr hlk hw.2.2.2.2 hw hg dX7_unlike_52
      · have hg := it_n hg c_4
        refine lv_iload_n hx hb dX7_unlike_17 rfl (lv_at hl 2 rfl) ?_
        refine lv_bipush (v := 6) hx hb dX7_unlike_18 (by decide) ?_
        refine lv_icmp_ge (tgt := 51) hx hb dX7_unlike_20 (by decide) (fun c_5 => ?_) (fun c_5 => ?_)
        · have hg := it_p hg c_5
          refine lv_iconst (v := (-1)) hx hb dX7_unlike_51 (by decide) ?_
          exact r_ireti S hr hlk hw.2.2.2.2 hw hg dX7_unlike_52
        · have hg := it_n hg c_5
          refine lv_aload_n hx hb dX7_unlike_23 rfl (lv_at hl 0 rfl) ?_
          refine r_getr (C := RX7) (T := TX7) (N := 43) (k' := 11) S hK hw (kM_0 hG).1 (kM_0 hG).2 rfl hinX7 17 (by decide) (o := 11) rfl rfl (hts (.fieldLink RX7 44 "SoupByRankModel" "cells" "[I") (by decide +kernel)) rfl dX7_unlike_24 ?_
          refine lv_bipush (v := 40) hx hb dX7_unlike_27 (by decide) ?_
          refine lv_iload_n hx hb dX7_unlike_29 rfl (lv_at hl 1 rfl) ?_
          refine lv_imul hx hb dX7_unlike_30 ?_
          refine lv_iload_n hx hb dX7_unlike_31 rfl (lv_at hl 2 rfl) ?_
          refine lv_iadd hx hb dX7_unlike_32 ?_
          obtain ⟨h_7, x_6, e_8, hg⟩ := rdA_e hg
          refine r_iald S hK hw (kM_11 hG).1 (kM_11 hG).2 h_7 e_8 dX7_unlike_33 ?_
          refine lv_aload_n hx hb dX7_unlike_34 rfl (lv_at hl 0 rfl) ?_
          refine r_getr (C := RX7) (T := TX7) (N := 43) (k' := 20) S hK hw (kM_0 hG).1 (kM_0 hG).2 rfl hinX7 33 (by decide) (o := 20) rfl rfl (hts (.fieldLink RX7 71 "SoupByRankModel" "getsOf" "[I") (by decide +kernel)) rfl dX7_unlike_35 ?_
          refine lv_iload_n hx hb dX7_unlike_38 rfl (lv_at hl 2 rfl) ?_
          obtain ⟨h_10, x_9, e_11, hg⟩ := rdA_e hg
          refine r_iald S hK hw (kM_20 hG).1 (kM_20 hG).2 h_10 e_11 dX7_unlike_39 ?_
          refine lv_icmp_eq (tgt := 45) hx hb dX7_unlike_40 (by decide) (fun c_12 => ?_) (fun c_12 => ?_)
          · have hg := it_p hg c_12
            refine lv_iinc (v := (v2 + 1)) (lv' := [(2, .int (v2 + 1)), (0, .ref (gAd G 0)), (1, .int v1)]) hx hb dX7_unlike_45 hl (k := 2) rfl rfl (by decide) rfl (fun ls hl => ?_)
            refine lv_goto (tgt := 7) hx hb dX7_unlike_48 (by decide) ?_
            exact ih7 _ _ _ _ _ hg hw (lv_sub hl [1, 2, 0] rfl)
          · have hg := it_n hg c_12
            refine lv_iload_n hx hb dX7_unlike_43 rfl (lv_at hl 2 rfl) ?_
            exact r_ireti S hr hlk hw.2.2.2.2 hw hg dX7_unlike_44
  rw [g_X7_unlike] at hg
  refine lv_aload_n hx hb dX7_unlike_0 rfl (lv_at hl 0 rfl) ?_
  refine lv_iconst (v := (-1)) hx hb dX7_unlike_1 (by decide) ?_
  obtain ⟨s_13, h_15, hg⟩ := bnV_e hg
  refine r_vV (As := [.int (-1)]) (rest := []) S hA hK hw (c_X7_sups l hG  h_15) (cwV 1 hts gX7_unlike_X7_sups rfl rfl rfl (by decide +kernel) ⟨Nat.le_of_ble_eq_true rfl, Nat.le_of_ble_eq_true rfl⟩) (r_recv hK hw (kM_0 hG).1 (kM_0 hG).2 rfl) rfl hl.1 (Nat.le_of_ble_eq_true rfl) dX7_unlike_2 ⟨Nat.zero_le _, Nat.zero_le _⟩ rfl (fun H locs hw => ?_)
  refine lv_iconst (v := 0) hx hb dX7_unlike_5 (by decide) ?_
  refine lv_istore_n (lv' := [(2, .int 0), (0, .ref (gAd G 0)), (1, .int a1)]) hx hb dX7_unlike_6 rfl hl (by decide) rfl (fun ls hl => ?_)
  exact L7 a1 F _ _ _ _ _ hg hw (lv_sub hl [1, 2, 0] rfl)
set_option maxHeartbeats 4000000 in
set_option maxRecDepth 100000 in
theorem c_X7_judge (l : Launch) {G : GW} (hG : isM G) {F sz : Nat} {a1 : Int32} {σ σR : Sg} {r : Int32} (hg : g_X7_judge F a1 σ = some (σR, r)) : Met l yX7_judge wsX7_judge ({ frames := 7, cells := 0, slots := 0, locals := 170 } : Room) (va_Pc [.ref (gAd G 0), .int a1] (PX G σ sz)) (QcI G (gA G sz) σR r) 0 0 (gA G sz) := by
  refine metX (by decide) rfl (Nat.le_of_ble_eq_true rfl) ?_
  intro p e s m args below meth c ls S hr hlk hsz hA hK hw hl hmn
  have S : CallFix p m c cX7_judge 3 s args wsX7_judge RX7 := S
  obtain ⟨hx, hb, hml, hown, hts⟩ := id S
  have hl : lv_has ls 3 [(0, .ref (gAd G 0)), (1, .int a1)] := hl
  rw [g_X7_judge] at hg
  refine lv_aload_n hx hb dX7_judge_0 rfl (lv_at hl 0 rfl) ?_
  refine lv_iload_n hx hb dX7_judge_1 rfl (lv_at hl 1 rfl) ?_
  obtain ⟨s_1, x_2, h_3, hg⟩ := bnI_e hg
  refine r_iV (As := [.int a1]) (rest := []) S hA hK hw (c_X7_sheetWrong l hG  h_3) (cwV 1 hts gX7_judge_X7_sheetWrong rfl rfl rfl (by decide +kernel) ⟨Nat.le_of_ble_eq_true rfl, Nat.le_of_ble_eq_true rfl⟩) (r_recv hK hw (kM_0 hG).1 (kM_0 hG).2 rfl) rfl hl.1 (Nat.le_of_ble_eq_true rfl) dX7_judge_2 ⟨Nat.zero_le _, Nat.zero_le _⟩ rfl (fun H locs hw => ?_)
  refine lv_istore_n (lv' := [(2, .int x_2), (0, .ref (gAd G 0)), (1, .int a1)]) hx hb dX7_judge_5 rfl hl (by decide) rfl (fun ls hl => ?_)
  refine lv_iload_n hx hb dX7_judge_6 rfl (lv_at hl 0 rfl) ?_
  refine lv_if_ne (tgt := 18) hx hb dX7_judge_7 (by decide) (fun c_4 => ?_) (fun c_4 => ?_)
  · have hg := it_n hg c_4
    refine lv_iload_n hx hb dX7_judge_18 rfl (lv_at hl 0 rfl) ?_
    exact r_ireti S hr hlk hw.2.2.2.2 hw hg dX7_judge_19
  · have hg := it_p hg c_4
    refine lv_aload_n hx hb dX7_judge_10 rfl (lv_at hl 1 rfl) ?_
    refine lv_iload_n hx hb dX7_judge_11 rfl (lv_at hl 2 rfl) ?_
    obtain ⟨s_5, x_6, h_7, hg⟩ := bnI_e hg
    refine r_iV (As := [.int a1]) (rest := []) S hA hK hw (c_X7_unlike l hG  h_7) (cwV 1 hts gX7_judge_X7_unlike rfl rfl rfl (by decide +kernel) ⟨Nat.le_of_ble_eq_true rfl, Nat.le_of_ble_eq_true rfl⟩) (r_recv hK hw (kM_0 hG).1 (kM_0 hG).2 rfl) rfl hl.1 (Nat.le_of_ble_eq_true rfl) dX7_judge_12 ⟨Nat.zero_le _, Nat.zero_le _⟩ rfl (fun H locs hw => ?_)
    refine lv_goto (tgt := 19) hx hb dX7_judge_15 (by decide) ?_
    exact r_ireti S hr hlk hw.2.2.2.2 hw hg dX7_judge_19
set_option maxHeartbeats 4000000 in
set_option maxRecDepth 100000 in
theorem c_X7_kinds (l : Launch) {G : GW} (hG : isM G) {F sz : Nat} {a1 : Int32} {a2 : Int32} {a3 : Int32} {σ σR : Sg} {r : Int32} (hg : g_X7_kinds F a1 a2 a3 σ = some (σR, r)) : Met l yX7_kinds wsX7_kinds ({ frames := 7, cells := 0, slots := 0, locals := 170 } : Room) (va_Pc [.ref (gAd G 0), .int a1, .int a2, .int a3] (PX G σ sz)) (QcI G (gA G sz) σR r) 0 0 (gA G sz) := by
  refine metX (by decide) rfl (Nat.le_of_ble_eq_true rfl) ?_
  intro p e s m args below meth c ls S hr hlk hsz hA hK hw hl hmn
  have S : CallFix p m c cX7_kinds 9 s args wsX7_kinds RX7 := S
  obtain ⟨hx, hb, hml, hown, hts⟩ := id S
  have hl : lv_has ls 9 [(0, .ref (gAd G 0)), (1, .int a1), (2, .int a2), (3, .int a3)] := hl
  have hinX7 : ∀ w ∈ wsX70, w ∈ wsX7_kinds := by decide +kernel
  have L50 : ∀ (v1 : Int32) (v2 : Int32) (v3 : Int32) (v5 : Int32) (v6 : Int32) (n50 : Nat) (v7 : Int32) (v8 : Int32) (σ : Sg) (H : Heap) (locs : List Loc) (ls : Array Slot) (hg : g_X7_kinds_l50 F v1 v2 v3 v5 v6 n50 v7 v8 σ = some (σR, r)) (hw : XD G (gA G sz) s.heap σ H locs) (hl : lv_has ls 9 [(0, .ref (gAd G 0)), (1, .int v1), (2, .int v2), (3, .int v3), (5, .int v5), (6, .int v6), (7, .int v7), (8, .int v8)]), W p l e (headSpec wsX7_kinds ({ frames := 7, cells := 0, slots := 0, locals := 170 } : Room)).room s m args below meth c H locs 0 0 (MQ below (QcI G (gA G sz) σR r) args s 0 0 (gA G sz)) (F0 m 50 ls []) := by
    intro v1 v2 v3 v5 v6
    intro n50
    induction n50 with
    | zero => intro v7 v8 σ H locs ls hg hw hl; exact no_e hg
    | succ n50 ih50 =>
      have J120 : ∀ (v8 : Int32) (u0 : Int32) (u1 : Int32) (σ : Sg) (H : Heap) (locs : List Loc) (ls : Array Slot) (hg : g_X7_kinds_b120 F (fun v7_ v8_ σ_ => g_X7_kinds_l50 F v1 v2 v3 v5 v6 n50 v7_ v8_ σ_) v1 v2 v3 v5 v6 v8 u0 u1 σ = some (σR, r)) (hw : XD G (gA G sz) s.heap σ H locs) (hl : lv_has ls 9 [(0, .ref (gAd G 0)), (1, .int v1), (2, .int v2), (3, .int v3), (5, .int v5), (6, .int v6), (8, .int v8)]), W p l e (headSpec wsX7_kinds ({ frames := 7, cells := 0, slots := 0, locals := 170 } : Room)).room s m args below meth c H locs 0 0 (MQ below (QcI G (gA G sz) σR r) args s 0 0 (gA G sz)) (F0 m 120 ls [.int u0, .int u1]) := by
        intro v8 u0 u1 σ H locs ls hg hw hl
        rw [g_X7_kinds_b120] at hg
        refine lv_ior hx hb dX7_kinds_120 ?_
        refine lv_istore (lv' := [(7, .int (u1 ||| u0)), (0, .ref (gAd G 0)), (1, .int v1), (2, .int v2), (3, .int v3), (5, .int v5), (6, .int v6), (8, .int v8)]) hx hb dX7_kinds_121 hl (by decide) rfl (fun ls hl => ?_)
        refine lv_iinc (v := (v8 + 1)) (lv' := [(8, .int (v8 + 1)), (7, .int (u1 ||| u0)), (0, .ref (gAd G 0)), (1, .int v1), (2, .int v2), (3, .int v3), (5, .int v5), (6, .int v6)]) hx hb dX7_kinds_123 hl (k := 7) rfl rfl (by decide) rfl (fun ls hl => ?_)
        refine lv_goto (tgt := 50) hx hb dX7_kinds_126 (by decide) ?_
        exact ih50 _ _ _ _ _ _ hg hw (lv_sub hl [2, 3, 4, 5, 6, 7, 1, 0] rfl)
      have J100 : ∀ (v7 : Int32) (v8 : Int32) (u0 : Int32) (u1 : Int32) (σ : Sg) (H : Heap) (locs : List Loc) (ls : Array Slot) (hg : g_X7_kinds_b100 F (fun v7_ v8_ σ_ => g_X7_kinds_l50 F v1 v2 v3 v5 v6 n50 v7_ v8_ σ_) v1 v2 v3 v5 v6 v7 v8 u0 u1 σ = some (σR, r)) (hw : XD G (gA G sz) s.heap σ H locs) (hl : lv_has ls 9 [(0, .ref (gAd G 0)), (1, .int v1), (2, .int v2), (3, .int v3), (5, .int v5), (6, .int v6), (7, .int v7), (8, .int v8)]), W p l e (headSpec wsX7_kinds ({ frames := 7, cells := 0, slots := 0, locals := 170 } : Room)).room s m args below meth c H locs 0 0 (MQ below (QcI G (gA G sz) σR r) args s 0 0 (gA G sz)) (F0 m 100 ls [.int u0, .int u1, .ref (gAd G 2)]) := by
        intro v7 v8 u0 u1 σ H locs ls hg hw hl
        rw [g_X7_kinds_b100] at hg
        obtain ⟨h_2, s_1, e_3, hg⟩ := wrA_e hg
        refine r_iast S hK hw (kM_2 hG).1 (kM_2 hG).2 h_2 e_3 dX7_kinds_100 (fun H locs hw => ?_)
        refine lv_iload hx hb dX7_kinds_101 (lv_at hl 6 rfl) ?_
        refine lv_aload_n hx hb dX7_kinds_103 rfl (lv_at hl 0 rfl) ?_
        refine lv_iload_n hx hb dX7_kinds_104 rfl (lv_at hl 1 rfl) ?_
        obtain ⟨s_4, x_5, h_6, hg⟩ := bnI_e hg
        refine r_iV (As := [.int v1]) (rest := [.int v7]) S hA hK hw (c_X7_unlike l hG  h_6) (cwV 1 hts gX7_kinds_X7_unlike rfl rfl rfl (by decide +kernel) ⟨Nat.le_of_ble_eq_true rfl, Nat.le_of_ble_eq_true rfl⟩) (r_recv hK hw (kM_0 hG).1 (kM_0 hG).2 rfl) rfl hl.1 (Nat.le_of_ble_eq_true rfl) dX7_kinds_105 ⟨Nat.zero_le _, Nat.zero_le _⟩ rfl (fun H locs hw => ?_)
        refine lv_iconst (v := (-1)) hx hb dX7_kinds_108 (by decide) ?_
        refine lv_icmp_ne (tgt := 119) hx hb dX7_kinds_109 (by decide) (fun c_7 => ?_) (fun c_7 => ?_)
        · have hg := it_n hg c_7
          refine lv_iconst (v := 0) hx hb dX7_kinds_119 (by decide) ?_
          exact J120 v8 0 v7 _ _ _ _ hg hw (lv_sub hl [0, 1, 2, 3, 4, 5, 7] rfl)
        · have hg := it_p hg c_7
          refine lv_iconst (v := 1) hx hb dX7_kinds_112 (by decide) ?_
          refine lv_iload hx hb dX7_kinds_113 (lv_at hl 7 rfl) ?_
          refine lv_ishl hx hb dX7_kinds_115 ?_
          refine lv_goto (tgt := 120) hx hb dX7_kinds_116 (by decide) ?_
          exact J120 v8 ((1 : Int32) <<< (v8 &&& 31)) v7 _ _ _ _ hg hw (lv_sub hl [0, 1, 2, 3, 4, 5, 7] rfl)
      have J82 : ∀ (v7 : Int32) (v8 : Int32) (u0 : Int32) (u1 : Int32) (σ : Sg) (H : Heap) (locs : List Loc) (ls : Array Slot) (hg : g_X7_kinds_b82 F (fun v7_ v8_ σ_ => g_X7_kinds_l50 F v1 v2 v3 v5 v6 n50 v7_ v8_ σ_) v1 v2 v3 v5 v6 v7 v8 u0 u1 σ = some (σR, r)) (hw : XD G (gA G sz) s.heap σ H locs) (hl : lv_has ls 9 [(0, .ref (gAd G 0)), (1, .int v1), (2, .int v2), (3, .int v3), (5, .int v5), (6, .int v6), (7, .int v7), (8, .int v8)]), W p l e (headSpec wsX7_kinds ({ frames := 7, cells := 0, slots := 0, locals := 170 } : Room)).room s m args below meth c H locs 0 0 (MQ below (QcI G (gA G sz) σR r) args s 0 0 (gA G sz)) (F0 m 82 ls [.int u0, .int u1, .ref (gAd G 1)]) := by
        intro v7 v8 u0 u1 σ H locs ls hg hw hl
        rw [g_X7_kinds_b82] at hg
        obtain ⟨h_9, s_8, e_10, hg⟩ := wrA_e hg
        refine r_iast S hK hw (kM_1 hG).1 (kM_1 hG).2 h_9 e_10 dX7_kinds_82 (fun H locs hw => ?_)
        refine lv_aload_n hx hb dX7_kinds_83 rfl (lv_at hl 0 rfl) ?_
        refine r_getr (C := RX7) (T := TX7) (N := 43) (k' := 2) S hK hw (kM_0 hG).1 (kM_0 hG).2 rfl hinX7 2 (by decide) (o := 2) rfl rfl (hts (.fieldLink RX7 13 "SoupByRankModel" "moreOf" "[I") (by decide +kernel)) rfl dX7_kinds_84 ?_
        refine lv_iload_n hx hb dX7_kinds_87 rfl (lv_at hl 2 rfl) ?_
        refine lv_iload_n hx hb dX7_kinds_88 rfl (lv_at hl 3 rfl) ?_
        refine lv_iconst (v := 1) hx hb dX7_kinds_89 (by decide) ?_
        refine lv_icmp_ne (tgt := 98) hx hb dX7_kinds_90 (by decide) (fun c_11 => ?_) (fun c_11 => ?_)
        · have hg := it_n hg c_11
          refine lv_iload hx hb dX7_kinds_98 (lv_at hl 5 rfl) ?_
          exact J100 v7 v8 v6 v2 _ _ _ _ hg hw (lv_sub hl [0, 1, 2, 3, 4, 5, 6, 7] rfl)
        · have hg := it_p hg c_11
          refine lv_iload hx hb dX7_kinds_93 (lv_at hl 7 rfl) ?_
          refine lv_goto (tgt := 100) hx hb dX7_kinds_95 (by decide) ?_
          exact J100 v7 v8 v8 v2 _ _ _ _ hg hw (lv_sub hl [0, 1, 2, 3, 4, 5, 6, 7] rfl)
      have J63 : ∀ (v7 : Int32) (v8 : Int32) (u0 : Int32) (u1 : Int32) (σ : Sg) (H : Heap) (locs : List Loc) (ls : Array Slot) (hg : g_X7_kinds_b63 F (fun v7_ v8_ σ_ => g_X7_kinds_l50 F v1 v2 v3 v5 v6 n50 v7_ v8_ σ_) v1 v2 v3 v5 v6 v7 v8 u0 u1 σ = some (σR, r)) (hw : XD G (gA G sz) s.heap σ H locs) (hl : lv_has ls 9 [(0, .ref (gAd G 0)), (1, .int v1), (2, .int v2), (3, .int v3), (5, .int v5), (6, .int v6), (7, .int v7), (8, .int v8)]), W p l e (headSpec wsX7_kinds ({ frames := 7, cells := 0, slots := 0, locals := 170 } : Room)).room s m args below meth c H locs 0 0 (MQ below (QcI G (gA G sz) σR r) args s 0 0 (gA G sz)) (F0 m 63 ls [.int u0, .int u1]) := by
        intro v7 v8 u0 u1 σ H locs ls hg hw hl
        rw [g_X7_kinds_b63] at hg
        refine lv_icmp_ge (tgt := 129) hx hb dX7_kinds_63 (by decide) (fun c_12 => ?_) (fun c_12 => ?_)
        · have hg := it_p hg c_12
          refine lv_aload_n hx hb dX7_kinds_129 rfl (lv_at hl 0 rfl) ?_
          refine r_getr (C := RX7) (T := TX7) (N := 43) (k' := 1) S hK hw (kM_0 hG).1 (kM_0 hG).2 rfl hinX7 1 (by decide) (o := 1) rfl rfl (hts (.fieldLink RX7 7 "SoupByRankModel" "kind" "[I") (by decide +kernel)) rfl dX7_kinds_130 ?_
          refine lv_iload_n hx hb dX7_kinds_133 rfl (lv_at hl 2 rfl) ?_
          refine lv_iload hx hb dX7_kinds_134 (lv_at hl 4 rfl) ?_
          obtain ⟨h_14, s_13, e_15, hg⟩ := wrA_e hg
          refine r_iast S hK hw (kM_1 hG).1 (kM_1 hG).2 h_14 e_15 dX7_kinds_136 (fun H locs hw => ?_)
          refine lv_aload_n hx hb dX7_kinds_137 rfl (lv_at hl 0 rfl) ?_
          refine r_getr (C := RX7) (T := TX7) (N := 43) (k' := 2) S hK hw (kM_0 hG).1 (kM_0 hG).2 rfl hinX7 2 (by decide) (o := 2) rfl rfl (hts (.fieldLink RX7 13 "SoupByRankModel" "moreOf" "[I") (by decide +kernel)) rfl dX7_kinds_138 ?_
          refine lv_iload_n hx hb dX7_kinds_141 rfl (lv_at hl 2 rfl) ?_
          refine lv_iload hx hb dX7_kinds_142 (lv_at hl 5 rfl) ?_
          obtain ⟨h_17, s_16, e_18, hg⟩ := wrA_e hg
          refine r_iast S hK hw (kM_2 hG).1 (kM_2 hG).2 h_17 e_18 dX7_kinds_144 (fun H locs hw => ?_)
          refine lv_iload hx hb dX7_kinds_145 (lv_at hl 6 rfl) ?_
          exact r_ireti S hr hlk hw.2.2.2.2 hw hg dX7_kinds_147
        · have hg := it_n hg c_12
          refine lv_aload_n hx hb dX7_kinds_66 rfl (lv_at hl 0 rfl) ?_
          refine r_getr (C := RX7) (T := TX7) (N := 43) (k' := 1) S hK hw (kM_0 hG).1 (kM_0 hG).2 rfl hinX7 1 (by decide) (o := 1) rfl rfl (hts (.fieldLink RX7 7 "SoupByRankModel" "kind" "[I") (by decide +kernel)) rfl dX7_kinds_67 ?_
          refine lv_iload_n hx hb dX7_kinds_70 rfl (lv_at hl 2 rfl) ?_
          refine lv_iload_n hx hb dX7_kinds_71 rfl (lv_at hl 3 rfl) ?_
          refine lv_if_ne (tgt := 80) hx hb dX7_kinds_72 (by decide) (fun c_19 => ?_) (fun c_19 => ?_)
          · have hg := it_n hg c_19
            refine lv_iload hx hb dX7_kinds_80 (lv_at hl 4 rfl) ?_
            exact J82 v7 v8 v5 v2 _ _ _ _ hg hw (lv_sub hl [0, 1, 2, 3, 4, 5, 6, 7] rfl)
          · have hg := it_p hg c_19
            refine lv_iload hx hb dX7_kinds_75 (lv_at hl 7 rfl) ?_
            refine lv_goto (tgt := 82) hx hb dX7_kinds_77 (by decide) ?_
            exact J82 v7 v8 v8 v2 _ _ _ _ hg hw (lv_sub hl [0, 1, 2, 3, 4, 5, 6, 7] rfl)
      intro v7 v8 σ H locs ls hg hw hl
      rw [g_X7_kinds_l50] at hg
      refine lv_iload hx hb dX7_kinds_50 (lv_at hl 7 rfl) ?_
      refine lv_iload_n hx hb dX7_kinds_52 rfl (lv_at hl 3 rfl) ?_
      refine lv_if_ne (tgt := 61) hx hb dX7_kinds_53 (by decide) (fun c_20 => ?_) (fun c_20 => ?_)
      · have hg := it_n hg c_20
        refine lv_bipush (v := 10) hx hb dX7_kinds_61 (by decide) ?_
        exact J63 v7 v8 10 v8 _ _ _ _ hg hw (lv_sub hl [0, 1, 2, 3, 4, 5, 6, 7] rfl)
      · have hg := it_p hg c_20
        refine lv_bipush (v := 6) hx hb dX7_kinds_56 (by decide) ?_
        refine lv_goto (tgt := 63) hx hb dX7_kinds_58 (by decide) ?_
        exact J63 v7 v8 6 v8 _ _ _ _ hg hw (lv_sub hl [0, 1, 2, 3, 4, 5, 6, 7] rfl)
  rw [g_X7_kinds] at hg
  refine lv_aload_n hx hb dX7_kinds_0 rfl (lv_at hl 0 rfl) ?_
  refine lv_iload_n hx hb dX7_kinds_1 rfl (lv_at hl 1 rfl) ?_
  refine lv_iload_n hx hb dX7_kinds_2 rfl (lv_at hl 2 rfl) ?_
  obtain ⟨s_21, x_22, h_23, hg⟩ := bnI_e hg
  refine r_iV (As := [.int a1, .int a2]) (rest := []) S hA hK hw (c_X7_toldWrong l hG  h_23) (cwV 2 hts gX7_kinds_X7_toldWrong rfl rfl rfl (by decide +kernel) ⟨Nat.le_of_ble_eq_true rfl, Nat.le_of_ble_eq_true rfl⟩) (r_recv hK hw (kM_0 hG).1 (kM_0 hG).2 rfl) rfl hl.1 (Nat.le_of_ble_eq_true rfl) dX7_kinds_3 ⟨Nat.zero_le _, Nat.zero_le _⟩ rfl (fun H locs hw => ?_)
  refine lv_istore (lv' := [(4, .int x_22), (0, .ref (gAd G 0)), (1, .int a1), (2, .int a2), (3, .int a3)]) hx hb dX7_kinds_6 hl (by decide) rfl (fun ls hl => ?_)
  refine lv_iload hx hb dX7_kinds_8 (lv_at hl 0 rfl) ?_
  refine lv_if_eq (tgt := 16) hx hb dX7_kinds_10 (by decide) (fun c_24 => ?_) (fun c_24 => ?_)
  · have hg := it_p hg c_24
    refine lv_iload_n hx hb dX7_kinds_16 rfl (lv_at hl 4 rfl) ?_
    refine lv_iconst (v := 0) hx hb dX7_kinds_17 (by decide) ?_
    refine lv_iconst (v := 1) hx hb dX7_kinds_18 (by decide) ?_
    obtain ⟨s_25, x_26, h_27, hg⟩ := bnI_e hg
    refine r_iS (As := [.int a3, .int 0, .int 1]) (rest := []) S hA hK hw (c_X7_in l hG  h_27) (va_cwS 3 hts gX7_kinds_X7_in rfl rfl rfl (by decide +kernel) ⟨Nat.le_of_ble_eq_true rfl, Nat.le_of_ble_eq_true rfl⟩) rfl hl.1 (Nat.le_of_ble_eq_true rfl) dX7_kinds_19 ⟨Nat.zero_le _, Nat.zero_le _⟩ rfl (fun H locs hw => ?_)
    refine lv_if_ne (tgt := 28) hx hb dX7_kinds_22 (by decide) (fun c_28 => ?_) (fun c_28 => ?_)
    · have hg := it_n hg c_28
      refine lv_aload_n hx hb dX7_kinds_28 rfl (lv_at hl 1 rfl) ?_
      refine r_getr (C := RX7) (T := TX7) (N := 43) (k' := 1) S hK hw (kM_0 hG).1 (kM_0 hG).2 rfl hinX7 1 (by decide) (o := 1) rfl rfl (hts (.fieldLink RX7 7 "SoupByRankModel" "kind" "[I") (by decide +kernel)) rfl dX7_kinds_29 ?_
      refine lv_iload_n hx hb dX7_kinds_32 rfl (lv_at hl 3 rfl) ?_
      obtain ⟨h_30, x_29, e_31, hg⟩ := rdA_e hg
      refine r_iald S hK hw (kM_1 hG).1 (kM_1 hG).2 h_30 e_31 dX7_kinds_33 ?_
      refine lv_istore (lv' := [(5, .int x_29), (4, .int x_22), (0, .ref (gAd G 0)), (1, .int a1), (2, .int a2), (3, .int a3)]) hx hb dX7_kinds_34 hl (by decide) rfl (fun ls hl => ?_)
      refine lv_aload_n hx hb dX7_kinds_36 rfl (lv_at hl 2 rfl) ?_
      refine r_getr (C := RX7) (T := TX7) (N := 43) (k' := 2) S hK hw (kM_0 hG).1 (kM_0 hG).2 rfl hinX7 2 (by decide) (o := 2) rfl rfl (hts (.fieldLink RX7 13 "SoupByRankModel" "moreOf" "[I") (by decide +kernel)) rfl dX7_kinds_37 ?_
      refine lv_iload_n hx hb dX7_kinds_40 rfl (lv_at hl 4 rfl) ?_
      obtain ⟨h_33, x_32, e_34, hg⟩ := rdA_e hg
      refine r_iald S hK hw (kM_2 hG).1 (kM_2 hG).2 h_33 e_34 dX7_kinds_41 ?_
      refine lv_istore (lv' := [(6, .int x_32), (5, .int x_29), (4, .int x_22), (0, .ref (gAd G 0)), (1, .int a1), (2, .int a2), (3, .int a3)]) hx hb dX7_kinds_42 hl (by decide) rfl (fun ls hl => ?_)
      refine lv_iconst (v := 0) hx hb dX7_kinds_44 (by decide) ?_
      refine lv_istore (lv' := [(7, .int 0), (6, .int x_32), (5, .int x_29), (4, .int x_22), (0, .ref (gAd G 0)), (1, .int a1), (2, .int a2), (3, .int a3)]) hx hb dX7_kinds_45 hl (by decide) rfl (fun ls hl => ?_)
      refine lv_iconst (v := 0) hx hb dX7_kinds_47 (by decide) ?_
      refine lv_istore (lv' := [(8, .int 0), (7, .int 0), (6, .int x_32), (5, .int x_29), (4, .int x_22), (0, .ref (gAd G 0)), (1, .int a1), (2, .int a2), (3, .int a3)]) hx hb dX7_kinds_48 hl (by decide) rfl (fun ls hl => ?_)
      exact L50 a1 a2 a3 x_29 x_32 F _ _ _ _ _ _ hg hw (lv_sub hl [5, 6, 7, 8, 3, 2, 1, 0] rfl)
    · have hg := it_p hg c_28
      refine lv_bipush (v := (-7)) hx hb dX7_kinds_25 (by decide) ?_
      exact r_ireti S hr hlk hw.2.2.2.2 hw hg dX7_kinds_27
  · have hg := it_n hg c_24
    refine lv_iload hx hb dX7_kinds_13 (lv_at hl 0 rfl) ?_
    exact r_ireti S hr hlk hw.2.2.2.2 hw hg dX7_kinds_15
set_option maxHeartbeats 4000000 in
set_option maxRecDepth 100000 in
theorem c_X7_ranks (l : Launch) {G : GW} (hG : isM G) {F sz : Nat} {a1 : Int32} {a2 : Int32} {a3 : Int32} {σ σR : Sg} {r : Int32} (hg : g_X7_ranks F a1 a2 a3 σ = some (σR, r)) : Met l yX7_ranks wsX7_ranks ({ frames := 7, cells := 0, slots := 0, locals := 170 } : Room) (va_Pc [.ref (gAd G 0), .int a1, .int a2, .int a3] (PX G σ sz)) (QcI G (gA G sz) σR r) 0 0 (gA G sz) := by
  refine metX (by decide) rfl (Nat.le_of_ble_eq_true rfl) ?_
  intro p e s m args below meth c ls S hr hlk hsz hA hK hw hl hmn
  have S : CallFix p m c cX7_ranks 10 s args wsX7_ranks RX7 := S
  obtain ⟨hx, hb, hml, hown, hts⟩ := id S
  have hl : lv_has ls 10 [(0, .ref (gAd G 0)), (1, .int a1), (2, .int a2), (3, .int a3)] := hl
  have hinX7 : ∀ w ∈ wsX70, w ∈ wsX7_ranks := by decide +kernel
  have L47 : ∀ (v1 : Int32) (v2 : Int32) (v3 : Int32) (v5 : Int32) (n47 : Nat) (v6 : Int32) (v7 : Int32) (v8 : Int32) (σ : Sg) (H : Heap) (locs : List Loc) (ls : Array Slot) (hg : g_X7_ranks_l47 F v1 v2 v3 v5 n47 v6 v7 v8 σ = some (σR, r)) (hw : XD G (gA G sz) s.heap σ H locs) (hl : lv_has ls 10 [(0, .ref (gAd G 0)), (1, .int v1), (2, .int v2), (3, .int v3), (5, .int v5), (6, .int v6), (7, .int v7), (8, .int v8)]), W p l e (headSpec wsX7_ranks ({ frames := 7, cells := 0, slots := 0, locals := 170 } : Room)).room s m args below meth c H locs 0 0 (MQ below (QcI G (gA G sz) σR r) args s 0 0 (gA G sz)) (F0 m 47 ls []) := by
    intro v1 v2 v3 v5
    intro n47
    induction n47 with
    | zero => intro v6 v7 v8 σ H locs ls hg hw hl; exact no_e hg
    | succ n47 ih47 =>
      have J113 : ∀ (v6 : Int32) (v8 : Int32) (u0 : Int32) (σ : Sg) (H : Heap) (locs : List Loc) (ls : Array Slot) (hg : g_X7_ranks_b113 F (fun v6_ v7_ v8_ σ_ => g_X7_ranks_l47 F v1 v2 v3 v5 n47 v6_ v7_ v8_ σ_) v1 v2 v3 v5 v6 v8 u0 σ = some (σR, r)) (hw : XD G (gA G sz) s.heap σ H locs) (hl : lv_has ls 10 [(0, .ref (gAd G 0)), (1, .int v1), (2, .int v2), (3, .int v3), (5, .int v5), (6, .int v6), (8, .int v8)]), W p l e (headSpec wsX7_ranks ({ frames := 7, cells := 0, slots := 0, locals := 170 } : Room)).room s m args below meth c H locs 0 0 (MQ below (QcI G (gA G sz) σR r) args s 0 0 (gA G sz)) (F0 m 113 ls [.int u0]) := by
        intro v6 v8 u0 σ H locs ls hg hw hl
        rw [g_X7_ranks_b113] at hg
        refine lv_istore (lv' := [(7, .int u0), (0, .ref (gAd G 0)), (1, .int v1), (2, .int v2), (3, .int v3), (5, .int v5), (6, .int v6), (8, .int v8)]) hx hb dX7_ranks_113 hl (by decide) rfl (fun ls hl => ?_)
        refine lv_iinc (v := (v8 + 1)) (lv' := [(8, .int (v8 + 1)), (7, .int u0), (0, .ref (gAd G 0)), (1, .int v1), (2, .int v2), (3, .int v3), (5, .int v5), (6, .int v6)]) hx hb dX7_ranks_115 hl (k := 7) rfl rfl (by decide) rfl (fun ls hl => ?_)
        refine lv_goto (tgt := 47) hx hb dX7_ranks_118 (by decide) ?_
        exact ih47 _ _ _ _ _ _ _ hg hw (lv_sub hl [2, 3, 4, 5, 6, 7, 1, 0] rfl)
      have J111 : ∀ (v6 : Int32) (v7 : Int32) (v8 : Int32) (σ : Sg) (H : Heap) (locs : List Loc) (ls : Array Slot) (hg : g_X7_ranks_b111 F (fun v6_ v7_ v8_ σ_ => g_X7_ranks_l47 F v1 v2 v3 v5 n47 v6_ v7_ v8_ σ_) v1 v2 v3 v5 v6 v7 v8 σ = some (σR, r)) (hw : XD G (gA G sz) s.heap σ H locs) (hl : lv_has ls 10 [(0, .ref (gAd G 0)), (1, .int v1), (2, .int v2), (3, .int v3), (5, .int v5), (6, .int v6), (7, .int v7), (8, .int v8)]), W p l e (headSpec wsX7_ranks ({ frames := 7, cells := 0, slots := 0, locals := 170 } : Room)).room s m args below meth c H locs 0 0 (MQ below (QcI G (gA G sz) σR r) args s 0 0 (gA G sz)) (F0 m 111 ls []) := by
        intro v6 v7 v8 σ H locs ls hg hw hl
        rw [g_X7_ranks_b111] at hg
        refine lv_iload hx hb dX7_ranks_111 (lv_at hl 6 rfl) ?_
        exact J113 v6 v8 v7 _ _ _ _ hg hw (lv_sub hl [0, 1, 2, 3, 4, 5, 7] rfl)
      have J92 : ∀ (v7 : Int32) (v8 : Int32) (v9 : Int32) (u0 : Int32) (u1 : Int32) (σ : Sg) (H : Heap) (locs : List Loc) (ls : Array Slot) (hg : g_X7_ranks_b92 F (fun v6_ v7_ v8_ σ_ => g_X7_ranks_l47 F v1 v2 v3 v5 n47 v6_ v7_ v8_ σ_) v1 v2 v3 v5 v7 v8 v9 u0 u1 σ = some (σR, r)) (hw : XD G (gA G sz) s.heap σ H locs) (hl : lv_has ls 10 [(0, .ref (gAd G 0)), (1, .int v1), (2, .int v2), (3, .int v3), (5, .int v5), (7, .int v7), (8, .int v8), (9, .int v9)]), W p l e (headSpec wsX7_ranks ({ frames := 7, cells := 0, slots := 0, locals := 170 } : Room)).room s m args below meth c H locs 0 0 (MQ below (QcI G (gA G sz) σR r) args s 0 0 (gA G sz)) (F0 m 92 ls [.int u0, .int u1]) := by
        intro v7 v8 v9 u0 u1 σ H locs ls hg hw hl
        rw [g_X7_ranks_b92] at hg
        refine lv_iadd hx hb dX7_ranks_92 ?_
        refine lv_istore (lv' := [(6, .int (u1 + u0)), (0, .ref (gAd G 0)), (1, .int v1), (2, .int v2), (3, .int v3), (5, .int v5), (7, .int v7), (8, .int v8), (9, .int v9)]) hx hb dX7_ranks_93 hl (by decide) rfl (fun ls hl => ?_)
        refine lv_iload hx hb dX7_ranks_95 (lv_at hl 8 rfl) ?_
        refine lv_if_eq (tgt := 111) hx hb dX7_ranks_97 (by decide) (fun c_1 => ?_) (fun c_1 => ?_)
        · have hg := it_p hg c_1
          exact J111 (u1 + u0) v7 v8 _ _ _ _ hg hw (lv_sub hl [1, 2, 3, 4, 5, 0, 6, 7] rfl)
        · have hg := it_n hg c_1
          refine lv_iload hx hb dX7_ranks_100 (lv_at hl 6 rfl) ?_
          refine lv_iconst (v := (-1)) hx hb dX7_ranks_102 (by decide) ?_
          refine lv_icmp_ne (tgt := 111) hx hb dX7_ranks_103 (by decide) (fun c_2 => ?_) (fun c_2 => ?_)
          · have hg := it_n hg c_2
            exact J111 (u1 + u0) v7 v8 _ _ _ _ hg hw (lv_sub hl [1, 2, 3, 4, 5, 0, 6, 7] rfl)
          · have hg := it_p hg c_2
            refine lv_iload hx hb dX7_ranks_106 (lv_at hl 7 rfl) ?_
            refine lv_goto (tgt := 113) hx hb dX7_ranks_108 (by decide) ?_
            exact J113 (u1 + u0) v8 v8 _ _ _ _ hg hw (lv_sub hl [1, 2, 3, 4, 5, 0, 7] rfl)
      have J78 : ∀ (v6 : Int32) (v7 : Int32) (v8 : Int32) (u0 : Int32) (σ : Sg) (H : Heap) (locs : List Loc) (ls : Array Slot) (hg : g_X7_ranks_b78 F (fun v6_ v7_ v8_ σ_ => g_X7_ranks_l47 F v1 v2 v3 v5 n47 v6_ v7_ v8_ σ_) v1 v2 v3 v5 v6 v7 v8 u0 σ = some (σR, r)) (hw : XD G (gA G sz) s.heap σ H locs) (hl : lv_has ls 10 [(0, .ref (gAd G 0)), (1, .int v1), (2, .int v2), (3, .int v3), (5, .int v5), (6, .int v6), (7, .int v7), (8, .int v8)]), W p l e (headSpec wsX7_ranks ({ frames := 7, cells := 0, slots := 0, locals := 170 } : Room)).room s m args below meth c H locs 0 0 (MQ below (QcI G (gA G sz) σR r) args s 0 0 (gA G sz)) (F0 m 78 ls [.int u0]) := by
        intro v6 v7 v8 u0 σ H locs ls hg hw hl
        rw [g_X7_ranks_b78] at hg
        refine lv_istore (lv' := [(9, .int u0), (0, .ref (gAd G 0)), (1, .int v1), (2, .int v2), (3, .int v3), (5, .int v5), (6, .int v6), (7, .int v7), (8, .int v8)]) hx hb dX7_ranks_78 hl (by decide) rfl (fun ls hl => ?_)
        refine lv_iload hx hb dX7_ranks_80 (lv_at hl 6 rfl) ?_
        refine lv_iload hx hb dX7_ranks_82 (lv_at hl 0 rfl) ?_
        refine lv_if_eq (tgt := 91) hx hb dX7_ranks_84 (by decide) (fun c_3 => ?_) (fun c_3 => ?_)
        · have hg := it_p hg c_3
          refine lv_iconst (v := 0) hx hb dX7_ranks_91 (by decide) ?_
          exact J92 v7 v8 u0 0 v6 _ _ _ _ hg hw (lv_sub hl [1, 2, 3, 4, 5, 7, 8, 0] rfl)
        · have hg := it_n hg c_3
          refine lv_iconst (v := 1) hx hb dX7_ranks_87 (by decide) ?_
          refine lv_goto (tgt := 92) hx hb dX7_ranks_88 (by decide) ?_
          exact J92 v7 v8 u0 1 v6 _ _ _ _ hg hw (lv_sub hl [1, 2, 3, 4, 5, 7, 8, 0] rfl)
      intro v6 v7 v8 σ H locs ls hg hw hl
      rw [g_X7_ranks_l47] at hg
      refine lv_iload hx hb dX7_ranks_47 (lv_at hl 7 rfl) ?_
      refine lv_bipush (v := 99) hx hb dX7_ranks_49 (by decide) ?_
      refine lv_icmp_gt (tgt := 121) hx hb dX7_ranks_51 (by decide) (fun c_4 => ?_) (fun c_4 => ?_)
      · have hg := it_p hg c_4
        refine lv_aload_n hx hb dX7_ranks_121 rfl (lv_at hl 0 rfl) ?_
        refine r_getr (C := RX7) (T := TX7) (N := 43) (k' := 3) S hK hw (kM_0 hG).1 (kM_0 hG).2 rfl hinX7 3 (by decide) (o := 3) rfl rfl (hts (.fieldLink RX7 16 "SoupByRankModel" "rows" "[I") (by decide +kernel)) rfl dX7_ranks_122 ?_
        refine lv_iconst (v := 2) hx hb dX7_ranks_125 (by decide) ?_
        refine lv_iload_n hx hb dX7_ranks_126 rfl (lv_at hl 2 rfl) ?_
        refine lv_imul hx hb dX7_ranks_127 ?_
        refine lv_iload hx hb dX7_ranks_128 (lv_at hl 4 rfl) ?_
        obtain ⟨h_6, s_5, e_7, hg⟩ := wrA_e hg
        refine r_iast S hK hw (kM_3 hG).1 (kM_3 hG).2 h_6 e_7 dX7_ranks_130 (fun H locs hw => ?_)
        refine lv_iload_n hx hb dX7_ranks_131 rfl (lv_at hl 3 rfl) ?_
        refine lv_if_ne (tgt := 140) hx hb dX7_ranks_132 (by decide) (fun c_8 => ?_) (fun c_8 => ?_)
        · have hg := it_n hg c_8
          refine lv_iload hx hb dX7_ranks_140 (lv_at hl 6 rfl) ?_
          exact r_ireti S hr hlk hw.2.2.2.2 hw hg dX7_ranks_142
        · have hg := it_p hg c_8
          refine lv_iload hx hb dX7_ranks_135 (lv_at hl 5 rfl) ?_
          refine lv_goto (tgt := 142) hx hb dX7_ranks_137 (by decide) ?_
          exact r_ireti S hr hlk hw.2.2.2.2 hw hg dX7_ranks_142
      · have hg := it_n hg c_4
        refine lv_aload_n hx hb dX7_ranks_54 rfl (lv_at hl 0 rfl) ?_
        refine r_getr (C := RX7) (T := TX7) (N := 43) (k' := 3) S hK hw (kM_0 hG).1 (kM_0 hG).2 rfl hinX7 3 (by decide) (o := 3) rfl rfl (hts (.fieldLink RX7 16 "SoupByRankModel" "rows" "[I") (by decide +kernel)) rfl dX7_ranks_55 ?_
        refine lv_iconst (v := 2) hx hb dX7_ranks_58 (by decide) ?_
        refine lv_iload_n hx hb dX7_ranks_59 rfl (lv_at hl 2 rfl) ?_
        refine lv_imul hx hb dX7_ranks_60 ?_
        refine lv_iload hx hb dX7_ranks_61 (lv_at hl 7 rfl) ?_
        obtain ⟨h_10, s_9, e_11, hg⟩ := wrA_e hg
        refine r_iast S hK hw (kM_3 hG).1 (kM_3 hG).2 h_10 e_11 dX7_ranks_63 (fun H locs hw => ?_)
        refine lv_aload_n hx hb dX7_ranks_64 rfl (lv_at hl 0 rfl) ?_
        refine lv_iload_n hx hb dX7_ranks_65 rfl (lv_at hl 1 rfl) ?_
        obtain ⟨s_12, x_13, h_14, hg⟩ := bnI_e hg
        refine r_iV (As := [.int v1]) (rest := []) S hA hK hw (c_X7_unlike l hG  h_14) (cwV 1 hts gX7_ranks_X7_unlike rfl rfl rfl (by decide +kernel) ⟨Nat.le_of_ble_eq_true rfl, Nat.le_of_ble_eq_true rfl⟩) (r_recv hK hw (kM_0 hG).1 (kM_0 hG).2 rfl) rfl hl.1 (Nat.le_of_ble_eq_true rfl) dX7_ranks_66 ⟨Nat.zero_le _, Nat.zero_le _⟩ rfl (fun H locs hw => ?_)
        refine lv_iconst (v := (-1)) hx hb dX7_ranks_69 (by decide) ?_
        refine lv_icmp_ne (tgt := 77) hx hb dX7_ranks_70 (by decide) (fun c_15 => ?_) (fun c_15 => ?_)
        · have hg := it_n hg c_15
          refine lv_iconst (v := 0) hx hb dX7_ranks_77 (by decide) ?_
          exact J78 v6 v7 v8 0 _ _ _ _ hg hw (lv_sub hl [0, 1, 2, 3, 4, 5, 6, 7] rfl)
        · have hg := it_p hg c_15
          refine lv_iconst (v := 1) hx hb dX7_ranks_73 (by decide) ?_
          refine lv_goto (tgt := 78) hx hb dX7_ranks_74 (by decide) ?_
          exact J78 v6 v7 v8 1 _ _ _ _ hg hw (lv_sub hl [0, 1, 2, 3, 4, 5, 6, 7] rfl)
  rw [g_X7_ranks] at hg
  refine lv_aload_n hx hb dX7_ranks_0 rfl (lv_at hl 0 rfl) ?_
  refine lv_iload_n hx hb dX7_ranks_1 rfl (lv_at hl 1 rfl) ?_
  refine lv_iload_n hx hb dX7_ranks_2 rfl (lv_at hl 2 rfl) ?_
  obtain ⟨s_16, x_17, h_18, hg⟩ := bnI_e hg
  refine r_iV (As := [.int a1, .int a2]) (rest := []) S hA hK hw (c_X7_toldWrong l hG  h_18) (cwV 2 hts gX7_ranks_X7_toldWrong rfl rfl rfl (by decide +kernel) ⟨Nat.le_of_ble_eq_true rfl, Nat.le_of_ble_eq_true rfl⟩) (r_recv hK hw (kM_0 hG).1 (kM_0 hG).2 rfl) rfl hl.1 (Nat.le_of_ble_eq_true rfl) dX7_ranks_3 ⟨Nat.zero_le _, Nat.zero_le _⟩ rfl (fun H locs hw => ?_)
  refine lv_istore (lv' := [(4, .int x_17), (0, .ref (gAd G 0)), (1, .int a1), (2, .int a2), (3, .int a3)]) hx hb dX7_ranks_6 hl (by decide) rfl (fun ls hl => ?_)
  refine lv_iload hx hb dX7_ranks_8 (lv_at hl 0 rfl) ?_
  refine lv_if_eq (tgt := 16) hx hb dX7_ranks_10 (by decide) (fun c_19 => ?_) (fun c_19 => ?_)
  · have hg := it_p hg c_19
    refine lv_iload_n hx hb dX7_ranks_16 rfl (lv_at hl 4 rfl) ?_
    refine lv_iconst (v := 0) hx hb dX7_ranks_17 (by decide) ?_
    refine lv_iconst (v := 1) hx hb dX7_ranks_18 (by decide) ?_
    obtain ⟨s_20, x_21, h_22, hg⟩ := bnI_e hg
    refine r_iS (As := [.int a3, .int 0, .int 1]) (rest := []) S hA hK hw (c_X7_in l hG  h_22) (va_cwS 3 hts gX7_ranks_X7_in rfl rfl rfl (by decide +kernel) ⟨Nat.le_of_ble_eq_true rfl, Nat.le_of_ble_eq_true rfl⟩) rfl hl.1 (Nat.le_of_ble_eq_true rfl) dX7_ranks_19 ⟨Nat.zero_le _, Nat.zero_le _⟩ rfl (fun H locs hw => ?_)
    refine lv_if_ne (tgt := 28) hx hb dX7_ranks_22 (by decide) (fun c_23 => ?_) (fun c_23 => ?_)
    · have hg := it_n hg c_23
      refine lv_aload_n hx hb dX7_ranks_28 rfl (lv_at hl 1 rfl) ?_
      refine r_getr (C := RX7) (T := TX7) (N := 43) (k' := 3) S hK hw (kM_0 hG).1 (kM_0 hG).2 rfl hinX7 3 (by decide) (o := 3) rfl rfl (hts (.fieldLink RX7 16 "SoupByRankModel" "rows" "[I") (by decide +kernel)) rfl dX7_ranks_29 ?_
      refine lv_iconst (v := 2) hx hb dX7_ranks_32 (by decide) ?_
      refine lv_iload_n hx hb dX7_ranks_33 rfl (lv_at hl 3 rfl) ?_
      refine lv_imul hx hb dX7_ranks_34 ?_
      obtain ⟨h_25, x_24, e_26, hg⟩ := rdA_e hg
      refine r_iald S hK hw (kM_3 hG).1 (kM_3 hG).2 h_25 e_26 dX7_ranks_35 ?_
      refine lv_istore (lv' := [(5, .int x_24), (4, .int x_17), (0, .ref (gAd G 0)), (1, .int a1), (2, .int a2), (3, .int a3)]) hx hb dX7_ranks_36 hl (by decide) rfl (fun ls hl => ?_)
      refine lv_iconst (v := 0) hx hb dX7_ranks_38 (by decide) ?_
      refine lv_istore (lv' := [(6, .int 0), (5, .int x_24), (4, .int x_17), (0, .ref (gAd G 0)), (1, .int a1), (2, .int a2), (3, .int a3)]) hx hb dX7_ranks_39 hl (by decide) rfl (fun ls hl => ?_)
      refine lv_iconst (v := (-1)) hx hb dX7_ranks_41 (by decide) ?_
      refine lv_istore (lv' := [(7, .int (-1)), (6, .int 0), (5, .int x_24), (4, .int x_17), (0, .ref (gAd G 0)), (1, .int a1), (2, .int a2), (3, .int a3)]) hx hb dX7_ranks_42 hl (by decide) rfl (fun ls hl => ?_)
      refine lv_iconst (v := 0) hx hb dX7_ranks_44 (by decide) ?_
      refine lv_istore (lv' := [(8, .int 0), (7, .int (-1)), (6, .int 0), (5, .int x_24), (4, .int x_17), (0, .ref (gAd G 0)), (1, .int a1), (2, .int a2), (3, .int a3)]) hx hb dX7_ranks_45 hl (by decide) rfl (fun ls hl => ?_)
      exact L47 a1 a2 a3 x_24 F _ _ _ _ _ _ _ hg hw (lv_sub hl [5, 6, 7, 8, 3, 2, 1, 0] rfl)
    · have hg := it_p hg c_23
      refine lv_bipush (v := (-7)) hx hb dX7_ranks_25 (by decide) ?_
      exact r_ireti S hr hlk hw.2.2.2.2 hw hg dX7_ranks_27
  · have hg := it_n hg c_19
    refine lv_iload hx hb dX7_ranks_13 (lv_at hl 0 rfl) ?_
    exact r_ireti S hr hlk hw.2.2.2.2 hw hg dX7_ranks_15
set_option maxHeartbeats 4000000 in
set_option maxRecDepth 100000 in
theorem c_X7_heats (l : Launch) {G : GW} (hG : isM G) {F sz : Nat} {a1 : Int32} {a2 : Int32} {σ σR : Sg} {r : Int32} (hg : g_X7_heats F a1 a2 σ = some (σR, r)) : Met l yX7_heats wsX7_heats ({ frames := 7, cells := 0, slots := 0, locals := 170 } : Room) (va_Pc [.ref (gAd G 0), .int a1, .int a2] (PX G σ sz)) (QcI G (gA G sz) σR r) 0 0 (gA G sz) := by
  refine metX (by decide) rfl (Nat.le_of_ble_eq_true rfl) ?_
  intro p e s m args below meth c ls S hr hlk hsz hA hK hw hl hmn
  have S : CallFix p m c cX7_heats 9 s args wsX7_heats RX7 := S
  obtain ⟨hx, hb, hml, hown, hts⟩ := id S
  have hl : lv_has ls 9 [(0, .ref (gAd G 0)), (1, .int a1), (2, .int a2)] := hl
  have hinX7 : ∀ w ∈ wsX70, w ∈ wsX7_heats := by decide +kernel
  have L39 : ∀ (v1 : Int32) (v2 : Int32) (v4 : Int32) (n39 : Nat) (v5 : Int32) (v6 : Int32) (v7 : Int32) (σ : Sg) (H : Heap) (locs : List Loc) (ls : Array Slot) (hg : g_X7_heats_l39 F v1 v2 v4 n39 v5 v6 v7 σ = some (σR, r)) (hw : XD G (gA G sz) s.heap σ H locs) (hl : lv_has ls 9 [(0, .ref (gAd G 0)), (1, .int v1), (2, .int v2), (4, .int v4), (5, .int v5), (6, .int v6), (7, .int v7)]), W p l e (headSpec wsX7_heats ({ frames := 7, cells := 0, slots := 0, locals := 170 } : Room)).room s m args below meth c H locs 0 0 (MQ below (QcI G (gA G sz) σR r) args s 0 0 (gA G sz)) (F0 m 39 ls []) := by
    intro v1 v2 v4
    intro n39
    induction n39 with
    | zero => intro v5 v6 v7 σ H locs ls hg hw hl; exact no_e hg
    | succ n39 ih39 =>
      have J101 : ∀ (v5 : Int32) (v7 : Int32) (u0 : Int32) (σ : Sg) (H : Heap) (locs : List Loc) (ls : Array Slot) (hg : g_X7_heats_b101 F (fun v5_ v6_ v7_ σ_ => g_X7_heats_l39 F v1 v2 v4 n39 v5_ v6_ v7_ σ_) v1 v2 v4 v5 v7 u0 σ = some (σR, r)) (hw : XD G (gA G sz) s.heap σ H locs) (hl : lv_has ls 9 [(0, .ref (gAd G 0)), (1, .int v1), (2, .int v2), (4, .int v4), (5, .int v5), (7, .int v7)]), W p l e (headSpec wsX7_heats ({ frames := 7, cells := 0, slots := 0, locals := 170 } : Room)).room s m args below meth c H locs 0 0 (MQ below (QcI G (gA G sz) σR r) args s 0 0 (gA G sz)) (F0 m 101 ls [.int u0]) := by
        intro v5 v7 u0 σ H locs ls hg hw hl
        rw [g_X7_heats_b101] at hg
        refine lv_istore (lv' := [(6, .int u0), (0, .ref (gAd G 0)), (1, .int v1), (2, .int v2), (4, .int v4), (5, .int v5), (7, .int v7)]) hx hb dX7_heats_101 hl (by decide) rfl (fun ls hl => ?_)
        refine lv_iinc (v := (v7 + 1)) (lv' := [(7, .int (v7 + 1)), (6, .int u0), (0, .ref (gAd G 0)), (1, .int v1), (2, .int v2), (4, .int v4), (5, .int v5)]) hx hb dX7_heats_103 hl (k := 6) rfl rfl (by decide) rfl (fun ls hl => ?_)
        refine lv_goto (tgt := 39) hx hb dX7_heats_106 (by decide) ?_
        exact ih39 _ _ _ _ _ _ _ hg hw (lv_sub hl [2, 3, 4, 5, 6, 1, 0] rfl)
      have J99 : ∀ (v5 : Int32) (v6 : Int32) (v7 : Int32) (σ : Sg) (H : Heap) (locs : List Loc) (ls : Array Slot) (hg : g_X7_heats_b99 F (fun v5_ v6_ v7_ σ_ => g_X7_heats_l39 F v1 v2 v4 n39 v5_ v6_ v7_ σ_) v1 v2 v4 v5 v6 v7 σ = some (σR, r)) (hw : XD G (gA G sz) s.heap σ H locs) (hl : lv_has ls 9 [(0, .ref (gAd G 0)), (1, .int v1), (2, .int v2), (4, .int v4), (5, .int v5), (6, .int v6), (7, .int v7)]), W p l e (headSpec wsX7_heats ({ frames := 7, cells := 0, slots := 0, locals := 170 } : Room)).room s m args below meth c H locs 0 0 (MQ below (QcI G (gA G sz) σR r) args s 0 0 (gA G sz)) (F0 m 99 ls []) := by
        intro v5 v6 v7 σ H locs ls hg hw hl
        rw [g_X7_heats_b99] at hg
        refine lv_iload hx hb dX7_heats_99 (lv_at hl 5 rfl) ?_
        exact J101 v5 v7 v6 _ _ _ _ hg hw (lv_sub hl [0, 1, 2, 3, 4, 6] rfl)
      have J80 : ∀ (v6 : Int32) (v7 : Int32) (v8 : Int32) (u0 : Int32) (u1 : Int32) (σ : Sg) (H : Heap) (locs : List Loc) (ls : Array Slot) (hg : g_X7_heats_b80 F (fun v5_ v6_ v7_ σ_ => g_X7_heats_l39 F v1 v2 v4 n39 v5_ v6_ v7_ σ_) v1 v2 v4 v6 v7 v8 u0 u1 σ = some (σR, r)) (hw : XD G (gA G sz) s.heap σ H locs) (hl : lv_has ls 9 [(0, .ref (gAd G 0)), (1, .int v1), (2, .int v2), (4, .int v4), (6, .int v6), (7, .int v7), (8, .int v8)]), W p l e (headSpec wsX7_heats ({ frames := 7, cells := 0, slots := 0, locals := 170 } : Room)).room s m args below meth c H locs 0 0 (MQ below (QcI G (gA G sz) σR r) args s 0 0 (gA G sz)) (F0 m 80 ls [.int u0, .int u1]) := by
        intro v6 v7 v8 u0 u1 σ H locs ls hg hw hl
        rw [g_X7_heats_b80] at hg
        refine lv_iadd hx hb dX7_heats_80 ?_
        refine lv_istore (lv' := [(5, .int (u1 + u0)), (0, .ref (gAd G 0)), (1, .int v1), (2, .int v2), (4, .int v4), (6, .int v6), (7, .int v7), (8, .int v8)]) hx hb dX7_heats_81 hl (by decide) rfl (fun ls hl => ?_)
        refine lv_iload hx hb dX7_heats_83 (lv_at hl 7 rfl) ?_
        refine lv_if_eq (tgt := 99) hx hb dX7_heats_85 (by decide) (fun c_1 => ?_) (fun c_1 => ?_)
        · have hg := it_p hg c_1
          exact J99 (u1 + u0) v6 v7 _ _ _ _ hg hw (lv_sub hl [1, 2, 3, 4, 0, 5, 6] rfl)
        · have hg := it_n hg c_1
          refine lv_iload hx hb dX7_heats_88 (lv_at hl 5 rfl) ?_
          refine lv_iconst (v := (-1)) hx hb dX7_heats_90 (by decide) ?_
          refine lv_icmp_ne (tgt := 99) hx hb dX7_heats_91 (by decide) (fun c_2 => ?_) (fun c_2 => ?_)
          · have hg := it_n hg c_2
            exact J99 (u1 + u0) v6 v7 _ _ _ _ hg hw (lv_sub hl [1, 2, 3, 4, 0, 5, 6] rfl)
          · have hg := it_p hg c_2
            refine lv_iload hx hb dX7_heats_94 (lv_at hl 6 rfl) ?_
            refine lv_goto (tgt := 101) hx hb dX7_heats_96 (by decide) ?_
            exact J101 (u1 + u0) v7 v7 _ _ _ _ hg hw (lv_sub hl [1, 2, 3, 4, 0, 6] rfl)
      have J66 : ∀ (v5 : Int32) (v6 : Int32) (v7 : Int32) (u0 : Int32) (σ : Sg) (H : Heap) (locs : List Loc) (ls : Array Slot) (hg : g_X7_heats_b66 F (fun v5_ v6_ v7_ σ_ => g_X7_heats_l39 F v1 v2 v4 n39 v5_ v6_ v7_ σ_) v1 v2 v4 v5 v6 v7 u0 σ = some (σR, r)) (hw : XD G (gA G sz) s.heap σ H locs) (hl : lv_has ls 9 [(0, .ref (gAd G 0)), (1, .int v1), (2, .int v2), (4, .int v4), (5, .int v5), (6, .int v6), (7, .int v7)]), W p l e (headSpec wsX7_heats ({ frames := 7, cells := 0, slots := 0, locals := 170 } : Room)).room s m args below meth c H locs 0 0 (MQ below (QcI G (gA G sz) σR r) args s 0 0 (gA G sz)) (F0 m 66 ls [.int u0]) := by
        intro v5 v6 v7 u0 σ H locs ls hg hw hl
        rw [g_X7_heats_b66] at hg
        refine lv_istore (lv' := [(8, .int u0), (0, .ref (gAd G 0)), (1, .int v1), (2, .int v2), (4, .int v4), (5, .int v5), (6, .int v6), (7, .int v7)]) hx hb dX7_heats_66 hl (by decide) rfl (fun ls hl => ?_)
        refine lv_iload hx hb dX7_heats_68 (lv_at hl 5 rfl) ?_
        refine lv_iload hx hb dX7_heats_70 (lv_at hl 0 rfl) ?_
        refine lv_if_eq (tgt := 79) hx hb dX7_heats_72 (by decide) (fun c_3 => ?_) (fun c_3 => ?_)
        · have hg := it_p hg c_3
          refine lv_iconst (v := 0) hx hb dX7_heats_79 (by decide) ?_
          exact J80 v6 v7 u0 0 v5 _ _ _ _ hg hw (lv_sub hl [1, 2, 3, 4, 6, 7, 0] rfl)
        · have hg := it_n hg c_3
          refine lv_iconst (v := 1) hx hb dX7_heats_75 (by decide) ?_
          refine lv_goto (tgt := 80) hx hb dX7_heats_76 (by decide) ?_
          exact J80 v6 v7 u0 1 v5 _ _ _ _ hg hw (lv_sub hl [1, 2, 3, 4, 6, 7, 0] rfl)
      intro v5 v6 v7 σ H locs ls hg hw hl
      rw [g_X7_heats_l39] at hg
      refine lv_iload hx hb dX7_heats_39 (lv_at hl 6 rfl) ?_
      refine lv_bipush (v := 99) hx hb dX7_heats_41 (by decide) ?_
      refine lv_icmp_gt (tgt := 109) hx hb dX7_heats_43 (by decide) (fun c_4 => ?_) (fun c_4 => ?_)
      · have hg := it_p hg c_4
        refine lv_aload_n hx hb dX7_heats_109 rfl (lv_at hl 0 rfl) ?_
        refine lv_iload hx hb dX7_heats_110 (lv_at hl 3 rfl) ?_
        obtain ⟨s_5, e_6, hg⟩ := wrF_e hg
        refine r_put (C := RX7) (T := TX7) (N := 43) S hK hw (kM_0 hG).1 (kM_0 hG).2 rfl hinX7 tyX7_ok nmX7 5 (by decide) rfl rfl rfl rfl (hts (.fieldLink RX7 19 "SoupByRankModel" "heat" "I") (by decide +kernel)) rfl e_6 dX7_heats_112 (fun H locs hw => ?_)
        refine lv_iload_n hx hb dX7_heats_115 rfl (lv_at hl 2 rfl) ?_
        refine lv_if_ne (tgt := 124) hx hb dX7_heats_116 (by decide) (fun c_7 => ?_) (fun c_7 => ?_)
        · have hg := it_n hg c_7
          refine lv_iload hx hb dX7_heats_124 (lv_at hl 5 rfl) ?_
          exact r_ireti S hr hlk hw.2.2.2.2 hw hg dX7_heats_126
        · have hg := it_p hg c_7
          refine lv_iload hx hb dX7_heats_119 (lv_at hl 4 rfl) ?_
          refine lv_goto (tgt := 126) hx hb dX7_heats_121 (by decide) ?_
          exact r_ireti S hr hlk hw.2.2.2.2 hw hg dX7_heats_126
      · have hg := it_n hg c_4
        refine lv_aload_n hx hb dX7_heats_46 rfl (lv_at hl 0 rfl) ?_
        refine lv_iload hx hb dX7_heats_47 (lv_at hl 6 rfl) ?_
        obtain ⟨s_8, e_9, hg⟩ := wrF_e hg
        refine r_put (C := RX7) (T := TX7) (N := 43) S hK hw (kM_0 hG).1 (kM_0 hG).2 rfl hinX7 tyX7_ok nmX7 5 (by decide) rfl rfl rfl rfl (hts (.fieldLink RX7 19 "SoupByRankModel" "heat" "I") (by decide +kernel)) rfl e_9 dX7_heats_49 (fun H locs hw => ?_)
        refine lv_aload_n hx hb dX7_heats_52 rfl (lv_at hl 0 rfl) ?_
        refine lv_iload_n hx hb dX7_heats_53 rfl (lv_at hl 1 rfl) ?_
        obtain ⟨s_10, x_11, h_12, hg⟩ := bnI_e hg
        refine r_iV (As := [.int v1]) (rest := []) S hA hK hw (c_X7_unlike l hG  h_12) (cwV 1 hts gX7_heats_X7_unlike rfl rfl rfl (by decide +kernel) ⟨Nat.le_of_ble_eq_true rfl, Nat.le_of_ble_eq_true rfl⟩) (r_recv hK hw (kM_0 hG).1 (kM_0 hG).2 rfl) rfl hl.1 (Nat.le_of_ble_eq_true rfl) dX7_heats_54 ⟨Nat.zero_le _, Nat.zero_le _⟩ rfl (fun H locs hw => ?_)
        refine lv_iconst (v := (-1)) hx hb dX7_heats_57 (by decide) ?_
        refine lv_icmp_ne (tgt := 65) hx hb dX7_heats_58 (by decide) (fun c_13 => ?_) (fun c_13 => ?_)
        · have hg := it_n hg c_13
          refine lv_iconst (v := 0) hx hb dX7_heats_65 (by decide) ?_
          exact J66 v5 v6 v7 0 _ _ _ _ hg hw (lv_sub hl [0, 1, 2, 3, 4, 5, 6] rfl)
        · have hg := it_p hg c_13
          refine lv_iconst (v := 1) hx hb dX7_heats_61 (by decide) ?_
          refine lv_goto (tgt := 66) hx hb dX7_heats_62 (by decide) ?_
          exact J66 v5 v6 v7 1 _ _ _ _ hg hw (lv_sub hl [0, 1, 2, 3, 4, 5, 6] rfl)
  rw [g_X7_heats] at hg
  refine lv_aload_n hx hb dX7_heats_0 rfl (lv_at hl 0 rfl) ?_
  refine lv_iload_n hx hb dX7_heats_1 rfl (lv_at hl 1 rfl) ?_
  obtain ⟨s_14, x_15, h_16, hg⟩ := bnI_e hg
  refine r_iV (As := [.int a1]) (rest := []) S hA hK hw (c_X7_sheetWrong l hG  h_16) (cwV 1 hts gX7_heats_X7_sheetWrong rfl rfl rfl (by decide +kernel) ⟨Nat.le_of_ble_eq_true rfl, Nat.le_of_ble_eq_true rfl⟩) (r_recv hK hw (kM_0 hG).1 (kM_0 hG).2 rfl) rfl hl.1 (Nat.le_of_ble_eq_true rfl) dX7_heats_2 ⟨Nat.zero_le _, Nat.zero_le _⟩ rfl (fun H locs hw => ?_)
  refine lv_istore_n (lv' := [(3, .int x_15), (0, .ref (gAd G 0)), (1, .int a1), (2, .int a2)]) hx hb dX7_heats_5 rfl hl (by decide) rfl (fun ls hl => ?_)
  refine lv_iload_n hx hb dX7_heats_6 rfl (lv_at hl 0 rfl) ?_
  refine lv_if_eq (tgt := 12) hx hb dX7_heats_7 (by decide) (fun c_17 => ?_) (fun c_17 => ?_)
  · have hg := it_p hg c_17
    refine lv_iload_n hx hb dX7_heats_12 rfl (lv_at hl 3 rfl) ?_
    refine lv_iconst (v := 0) hx hb dX7_heats_13 (by decide) ?_
    refine lv_iconst (v := 1) hx hb dX7_heats_14 (by decide) ?_
    obtain ⟨s_18, x_19, h_20, hg⟩ := bnI_e hg
    refine r_iS (As := [.int a2, .int 0, .int 1]) (rest := []) S hA hK hw (c_X7_in l hG  h_20) (va_cwS 3 hts gX7_heats_X7_in rfl rfl rfl (by decide +kernel) ⟨Nat.le_of_ble_eq_true rfl, Nat.le_of_ble_eq_true rfl⟩) rfl hl.1 (Nat.le_of_ble_eq_true rfl) dX7_heats_15 ⟨Nat.zero_le _, Nat.zero_le _⟩ rfl (fun H locs hw => ?_)
    refine lv_if_ne (tgt := 24) hx hb dX7_heats_18 (by decide) (fun c_21 => ?_) (fun c_21 => ?_)
    · have hg := it_n hg c_21
      refine lv_aload_n hx hb dX7_heats_24 rfl (lv_at hl 1 rfl) ?_
      refine r_get (C := RX7) (T := TX7) (N := 43) S hK hw (kM_0 hG).1 (kM_0 hG).2 rfl hinX7 5 (by decide) rfl (hts (.fieldLink RX7 19 "SoupByRankModel" "heat" "I") (by decide +kernel)) rfl dX7_heats_25 ?_
      refine lv_istore (lv' := [(4, .int (s_18 0 5)), (3, .int x_15), (0, .ref (gAd G 0)), (1, .int a1), (2, .int a2)]) hx hb dX7_heats_28 hl (by decide) rfl (fun ls hl => ?_)
      refine lv_iconst (v := 0) hx hb dX7_heats_30 (by decide) ?_
      refine lv_istore (lv' := [(5, .int 0), (4, .int (s_18 0 5)), (3, .int x_15), (0, .ref (gAd G 0)), (1, .int a1), (2, .int a2)]) hx hb dX7_heats_31 hl (by decide) rfl (fun ls hl => ?_)
      refine lv_iconst (v := (-1)) hx hb dX7_heats_33 (by decide) ?_
      refine lv_istore (lv' := [(6, .int (-1)), (5, .int 0), (4, .int (s_18 0 5)), (3, .int x_15), (0, .ref (gAd G 0)), (1, .int a1), (2, .int a2)]) hx hb dX7_heats_34 hl (by decide) rfl (fun ls hl => ?_)
      refine lv_iconst (v := 0) hx hb dX7_heats_36 (by decide) ?_
      refine lv_istore (lv' := [(7, .int 0), (6, .int (-1)), (5, .int 0), (4, .int (s_18 0 5)), (3, .int x_15), (0, .ref (gAd G 0)), (1, .int a1), (2, .int a2)]) hx hb dX7_heats_37 hl (by decide) rfl (fun ls hl => ?_)
      exact L39 a1 a2 (s_18 0 5) F _ _ _ _ _ _ _ hg hw (lv_sub hl [5, 6, 7, 3, 2, 1, 0] rfl)
    · have hg := it_p hg c_21
      refine lv_bipush (v := (-7)) hx hb dX7_heats_21 (by decide) ?_
      exact r_ireti S hr hlk hw.2.2.2.2 hw hg dX7_heats_23
  · have hg := it_n hg c_17
    refine lv_iload_n hx hb dX7_heats_10 rfl (lv_at hl 0 rfl) ?_
    exact r_ireti S hr hlk hw.2.2.2.2 hw hg dX7_heats_11
set_option maxHeartbeats 4000000 in
set_option maxRecDepth 100000 in
theorem c_X7_laws (l : Launch) {G : GW} (hG : isM G) {F sz : Nat} {a1 : Int32} {σ σR : Sg} {r : Int32} (hg : g_X7_laws F a1 σ = some (σR, r)) : Met l yX7_laws wsX7_laws ({ frames := 7, cells := 0, slots := 0, locals := 170 } : Room) (va_Pc [.ref (gAd G 0), .int a1] (PX G σ sz)) (QcI G (gA G sz) σR r) 0 0 (gA G sz) := by
  refine metX (by decide) rfl (Nat.le_of_ble_eq_true rfl) ?_
  intro p e s m args below meth c ls S hr hlk hsz hA hK hw hl hmn
  have S : CallFix p m c cX7_laws 6 s args wsX7_laws RX7 := S
  obtain ⟨hx, hb, hml, hown, hts⟩ := id S
  have hl : lv_has ls 6 [(0, .ref (gAd G 0)), (1, .int a1)] := hl
  have hinX7 : ∀ w ∈ wsX70, w ∈ wsX7_laws := by decide +kernel
  have L23 : ∀ (v1 : Int32) (v3 : Int32) (n23 : Nat) (v4 : Int32) (v5 : Int32) (σ : Sg) (H : Heap) (locs : List Loc) (ls : Array Slot) (hg : g_X7_laws_l23 F v1 v3 n23 v4 v5 σ = some (σR, r)) (hw : XD G (gA G sz) s.heap σ H locs) (hl : lv_has ls 6 [(0, .ref (gAd G 0)), (1, .int v1), (3, .int v3), (4, .int v4), (5, .int v5)]), W p l e (headSpec wsX7_laws ({ frames := 7, cells := 0, slots := 0, locals := 170 } : Room)).room s m args below meth c H locs 0 0 (MQ below (QcI G (gA G sz) σR r) args s 0 0 (gA G sz)) (F0 m 23 ls []) := by
    intro v1 v3
    intro n23
    induction n23 with
    | zero => intro v4 v5 σ H locs ls hg hw hl; exact no_e hg
    | succ n23 ih23 =>
      have J57 : ∀ (v5 : Int32) (u0 : Int32) (u1 : Int32) (σ : Sg) (H : Heap) (locs : List Loc) (ls : Array Slot) (hg : g_X7_laws_b57 F (fun v4_ v5_ σ_ => g_X7_laws_l23 F v1 v3 n23 v4_ v5_ σ_) v1 v3 v5 u0 u1 σ = some (σR, r)) (hw : XD G (gA G sz) s.heap σ H locs) (hl : lv_has ls 6 [(0, .ref (gAd G 0)), (1, .int v1), (3, .int v3), (5, .int v5)]), W p l e (headSpec wsX7_laws ({ frames := 7, cells := 0, slots := 0, locals := 170 } : Room)).room s m args below meth c H locs 0 0 (MQ below (QcI G (gA G sz) σR r) args s 0 0 (gA G sz)) (F0 m 57 ls [.int u0, .int u1]) := by
        intro v5 u0 u1 σ H locs ls hg hw hl
        rw [g_X7_laws_b57] at hg
        refine lv_ior hx hb dX7_laws_57 ?_
        refine lv_istore (lv' := [(4, .int (u1 ||| u0)), (0, .ref (gAd G 0)), (1, .int v1), (3, .int v3), (5, .int v5)]) hx hb dX7_laws_58 hl (by decide) rfl (fun ls hl => ?_)
        refine lv_iinc (v := (v5 + 1)) (lv' := [(5, .int (v5 + 1)), (4, .int (u1 ||| u0)), (0, .ref (gAd G 0)), (1, .int v1), (3, .int v3)]) hx hb dX7_laws_60 hl (k := 4) rfl rfl (by decide) rfl (fun ls hl => ?_)
        refine lv_goto (tgt := 23) hx hb dX7_laws_63 (by decide) ?_
        exact ih23 _ _ _ _ _ _ hg hw (lv_sub hl [2, 3, 4, 1, 0] rfl)
      intro v4 v5 σ H locs ls hg hw hl
      rw [g_X7_laws_l23] at hg
      refine lv_iload hx hb dX7_laws_23 (lv_at hl 4 rfl) ?_
      refine lv_aload_n hx hb dX7_laws_25 rfl (lv_at hl 0 rfl) ?_
      refine r_get (C := RX7) (T := TX7) (N := 43) S hK hw (kM_0 hG).1 (kM_0 hG).2 rfl hinX7 10 (by decide) rfl (hts (.fieldLink RX7 100 "SoupByRankModel" "texts" "I") (by decide +kernel)) rfl dX7_laws_26 ?_
      refine lv_icmp_ge (tgt := 66) hx hb dX7_laws_29 (by decide) (fun c_1 => ?_) (fun c_1 => ?_)
      · have hg := it_p hg c_1
        refine lv_aload_n hx hb dX7_laws_66 rfl (lv_at hl 0 rfl) ?_
        refine lv_iload_n hx hb dX7_laws_67 rfl (lv_at hl 2 rfl) ?_
        obtain ⟨s_2, e_3, hg⟩ := wrF_e hg
        refine r_put (C := RX7) (T := TX7) (N := 43) S hK hw (kM_0 hG).1 (kM_0 hG).2 rfl hinX7 tyX7_ok nmX7 11 (by decide) rfl rfl rfl rfl (hts (.fieldLink RX7 103 "SoupByRankModel" "rule" "I") (by decide +kernel)) rfl e_3 dX7_laws_68 (fun H locs hw => ?_)
        refine lv_iload hx hb dX7_laws_71 (lv_at hl 3 rfl) ?_
        exact r_ireti S hr hlk hw.2.2.2.2 hw hg dX7_laws_73
      · have hg := it_n hg c_1
        refine lv_aload_n hx hb dX7_laws_32 rfl (lv_at hl 0 rfl) ?_
        refine lv_iload hx hb dX7_laws_33 (lv_at hl 4 rfl) ?_
        obtain ⟨s_4, e_5, hg⟩ := wrF_e hg
        refine r_put (C := RX7) (T := TX7) (N := 43) S hK hw (kM_0 hG).1 (kM_0 hG).2 rfl hinX7 tyX7_ok nmX7 11 (by decide) rfl rfl rfl rfl (hts (.fieldLink RX7 103 "SoupByRankModel" "rule" "I") (by decide +kernel)) rfl e_5 dX7_laws_35 (fun H locs hw => ?_)
        refine lv_iload hx hb dX7_laws_38 (lv_at hl 3 rfl) ?_
        refine lv_aload_n hx hb dX7_laws_40 rfl (lv_at hl 0 rfl) ?_
        refine lv_iload_n hx hb dX7_laws_41 rfl (lv_at hl 1 rfl) ?_
        obtain ⟨s_6, x_7, h_8, hg⟩ := bnI_e hg
        refine r_iV (As := [.int v1]) (rest := [.int v4]) S hA hK hw (c_X7_unlike l hG  h_8) (cwV 1 hts gX7_laws_X7_unlike rfl rfl rfl (by decide +kernel) ⟨Nat.le_of_ble_eq_true rfl, Nat.le_of_ble_eq_true rfl⟩) (r_recv hK hw (kM_0 hG).1 (kM_0 hG).2 rfl) rfl hl.1 (Nat.le_of_ble_eq_true rfl) dX7_laws_42 ⟨Nat.zero_le _, Nat.zero_le _⟩ rfl (fun H locs hw => ?_)
        refine lv_iconst (v := (-1)) hx hb dX7_laws_45 (by decide) ?_
        refine lv_icmp_ne (tgt := 56) hx hb dX7_laws_46 (by decide) (fun c_9 => ?_) (fun c_9 => ?_)
        · have hg := it_n hg c_9
          refine lv_iconst (v := 0) hx hb dX7_laws_56 (by decide) ?_
          exact J57 v5 0 v4 _ _ _ _ hg hw (lv_sub hl [0, 1, 2, 4] rfl)
        · have hg := it_p hg c_9
          refine lv_iconst (v := 1) hx hb dX7_laws_49 (by decide) ?_
          refine lv_iload hx hb dX7_laws_50 (lv_at hl 4 rfl) ?_
          refine lv_ishl hx hb dX7_laws_52 ?_
          refine lv_goto (tgt := 57) hx hb dX7_laws_53 (by decide) ?_
          exact J57 v5 ((1 : Int32) <<< (v5 &&& 31)) v4 _ _ _ _ hg hw (lv_sub hl [0, 1, 2, 4] rfl)
  rw [g_X7_laws] at hg
  refine lv_aload_n hx hb dX7_laws_0 rfl (lv_at hl 0 rfl) ?_
  refine lv_iload_n hx hb dX7_laws_1 rfl (lv_at hl 1 rfl) ?_
  obtain ⟨s_10, x_11, h_12, hg⟩ := bnI_e hg
  refine r_iV (As := [.int a1]) (rest := []) S hA hK hw (c_X7_sheetWrong l hG  h_12) (cwV 1 hts gX7_laws_X7_sheetWrong rfl rfl rfl (by decide +kernel) ⟨Nat.le_of_ble_eq_true rfl, Nat.le_of_ble_eq_true rfl⟩) (r_recv hK hw (kM_0 hG).1 (kM_0 hG).2 rfl) rfl hl.1 (Nat.le_of_ble_eq_true rfl) dX7_laws_2 ⟨Nat.zero_le _, Nat.zero_le _⟩ rfl (fun H locs hw => ?_)
  refine lv_istore_n (lv' := [(2, .int x_11), (0, .ref (gAd G 0)), (1, .int a1)]) hx hb dX7_laws_5 rfl hl (by decide) rfl (fun ls hl => ?_)
  refine lv_iload_n hx hb dX7_laws_6 rfl (lv_at hl 0 rfl) ?_
  refine lv_if_eq (tgt := 12) hx hb dX7_laws_7 (by decide) (fun c_13 => ?_) (fun c_13 => ?_)
  · have hg := it_p hg c_13
    refine lv_aload_n hx hb dX7_laws_12 rfl (lv_at hl 1 rfl) ?_
    refine r_get (C := RX7) (T := TX7) (N := 43) S hK hw (kM_0 hG).1 (kM_0 hG).2 rfl hinX7 11 (by decide) rfl (hts (.fieldLink RX7 103 "SoupByRankModel" "rule" "I") (by decide +kernel)) rfl dX7_laws_13 ?_
    refine lv_istore_n (lv' := [(3, .int (s_10 0 11)), (2, .int x_11), (0, .ref (gAd G 0)), (1, .int a1)]) hx hb dX7_laws_16 rfl hl (by decide) rfl (fun ls hl => ?_)
    refine lv_iconst (v := 0) hx hb dX7_laws_17 (by decide) ?_
    refine lv_istore (lv' := [(4, .int 0), (3, .int (s_10 0 11)), (2, .int x_11), (0, .ref (gAd G 0)), (1, .int a1)]) hx hb dX7_laws_18 hl (by decide) rfl (fun ls hl => ?_)
    refine lv_iconst (v := 0) hx hb dX7_laws_20 (by decide) ?_
    refine lv_istore (lv' := [(5, .int 0), (4, .int 0), (3, .int (s_10 0 11)), (2, .int x_11), (0, .ref (gAd G 0)), (1, .int a1)]) hx hb dX7_laws_21 hl (by decide) rfl (fun ls hl => ?_)
    exact L23 a1 (s_10 0 11) F _ _ _ _ _ _ hg hw (lv_sub hl [4, 5, 2, 1, 0] rfl)
  · have hg := it_n hg c_13
    refine lv_iload_n hx hb dX7_laws_10 rfl (lv_at hl 0 rfl) ?_
    exact r_ireti S hr hlk hw.2.2.2.2 hw hg dX7_laws_11
set_option maxHeartbeats 4000000 in
set_option maxRecDepth 100000 in
theorem c_X7_film (l : Launch) {G : GW} (hG : isM G) {F sz : Nat} {a1 : Int32} {σ σR : Sg} {r : Int32} (hg : g_X7_film F a1 σ = some (σR, r)) : Met l yX7_film wsX7_film ({ frames := 6, cells := 0, slots := 0, locals := 148 } : Room) (va_Pc [.ref (gAd G 0), .int a1] (PX G σ sz)) (QcI G (gA G sz) σR r) 0 0 (gA G sz) := by
  refine metX (by decide) rfl (Nat.le_of_ble_eq_true rfl) ?_
  intro p e s m args below meth c ls S hr hlk hsz hA hK hw hl hmn
  have S : CallFix p m c cX7_film 3 s args wsX7_film RX7 := S
  obtain ⟨hx, hb, hml, hown, hts⟩ := id S
  have hl : lv_has ls 3 [(0, .ref (gAd G 0)), (1, .int a1)] := hl
  have hinX7 : ∀ w ∈ wsX70, w ∈ wsX7_film := by decide +kernel
  have L36 : ∀ (v1 : Int32) (n36 : Nat) (v2 : Int32) (σ : Sg) (H : Heap) (locs : List Loc) (ls : Array Slot) (hg : g_X7_film_l36 F v1 n36 v2 σ = some (σR, r)) (hw : XD G (gA G sz) s.heap σ H locs) (hl : lv_has ls 3 [(0, .ref (gAd G 0)), (1, .int v1), (2, .int v2)]), W p l e (headSpec wsX7_film ({ frames := 6, cells := 0, slots := 0, locals := 148 } : Room)).room s m args below meth c H locs 0 0 (MQ below (QcI G (gA G sz) σR r) args s 0 0 (gA G sz)) (F0 m 36 ls []) := by
    intro v1
    intro n36
    induction n36 with
    | zero => intro v2 σ H locs ls hg hw hl; exact no_e hg
    | succ n36 ih36 =>
      have J84 : ∀ (v2 : Int32) (σ : Sg) (H : Heap) (locs : List Loc) (ls : Array Slot) (hg : g_X7_film_b84 F (fun v2_ σ_ => g_X7_film_l36 F v1 n36 v2_ σ_) v1 v2 σ = some (σR, r)) (hw : XD G (gA G sz) s.heap σ H locs) (hl : lv_has ls 3 [(0, .ref (gAd G 0)), (1, .int v1), (2, .int v2)]), W p l e (headSpec wsX7_film ({ frames := 6, cells := 0, slots := 0, locals := 148 } : Room)).room s m args below meth c H locs 0 0 (MQ below (QcI G (gA G sz) σR r) args s 0 0 (gA G sz)) (F0 m 84 ls []) := by
        intro v2 σ H locs ls hg hw hl
        rw [g_X7_film_b84] at hg
        refine lv_iinc (v := (v2 + 1)) (lv' := [(2, .int (v2 + 1)), (0, .ref (gAd G 0)), (1, .int v1)]) hx hb dX7_film_84 hl (k := 2) rfl rfl (by decide) rfl (fun ls hl => ?_)
        refine lv_goto (tgt := 36) hx hb dX7_film_87 (by decide) ?_
        exact ih36 _ _ _ _ _ hg hw (lv_sub hl [1, 2, 0] rfl)
      intro v2 σ H locs ls hg hw hl
      rw [g_X7_film_l36] at hg
      refine lv_iload_n hx hb dX7_film_36 rfl (lv_at hl 2 rfl) ?_
      refine lv_bipush (v := 40) hx hb dX7_film_37 (by decide) ?_
      refine lv_icmp_ge (tgt := 90) hx hb dX7_film_39 (by decide) (fun c_1 => ?_) (fun c_1 => ?_)
      · have hg := it_p hg c_1
        refine lv_aload_n hx hb dX7_film_90 rfl (lv_at hl 0 rfl) ?_
        refine r_get (C := RX7) (T := TX7) (N := 43) S hK hw (kM_0 hG).1 (kM_0 hG).2 rfl hinX7 0 (by decide) rfl (hts (.fieldLink RX7 90 "SoupByRankModel" "courtiers" "I") (by decide +kernel)) rfl dX7_film_91 ?_
        exact r_ireti S hr hlk hw.2.2.2.2 hw hg dX7_film_94
      · have hg := it_n hg c_1
        refine lv_aload_n hx hb dX7_film_42 rfl (lv_at hl 0 rfl) ?_
        refine r_getr (C := RX7) (T := TX7) (N := 43) (k' := 11) S hK hw (kM_0 hG).1 (kM_0 hG).2 rfl hinX7 17 (by decide) (o := 11) rfl rfl (hts (.fieldLink RX7 44 "SoupByRankModel" "cells" "[I") (by decide +kernel)) rfl dX7_film_43 ?_
        refine lv_bipush (v := 40) hx hb dX7_film_46 (by decide) ?_
        refine lv_iload_n hx hb dX7_film_48 rfl (lv_at hl 1 rfl) ?_
        refine lv_imul hx hb dX7_film_49 ?_
        refine lv_iload_n hx hb dX7_film_50 rfl (lv_at hl 2 rfl) ?_
        refine lv_iadd hx hb dX7_film_51 ?_
        refine lv_iconst (v := 0) hx hb dX7_film_52 (by decide) ?_
        obtain ⟨h_3, s_2, e_4, hg⟩ := wrA_e hg
        refine r_iast S hK hw (kM_11 hG).1 (kM_11 hG).2 h_3 e_4 dX7_film_53 (fun H locs hw => ?_)
        refine lv_iload_n hx hb dX7_film_54 rfl (lv_at hl 2 rfl) ?_
        refine lv_aload_n hx hb dX7_film_55 rfl (lv_at hl 0 rfl) ?_
        refine r_get (C := RX7) (T := TX7) (N := 43) S hK hw (kM_0 hG).1 (kM_0 hG).2 rfl hinX7 0 (by decide) rfl (hts (.fieldLink RX7 90 "SoupByRankModel" "courtiers" "I") (by decide +kernel)) rfl dX7_film_56 ?_
        refine lv_icmp_ge (tgt := 84) hx hb dX7_film_59 (by decide) (fun c_5 => ?_) (fun c_5 => ?_)
        · have hg := it_p hg c_5
          exact J84 v2 _ _ _ _ hg hw (lv_sub hl [0, 1, 2] rfl)
        · have hg := it_n hg c_5
          refine lv_aload_n hx hb dX7_film_62 rfl (lv_at hl 0 rfl) ?_
          refine r_getr (C := RX7) (T := TX7) (N := 43) (k' := 11) S hK hw (kM_0 hG).1 (kM_0 hG).2 rfl hinX7 17 (by decide) (o := 11) rfl rfl (hts (.fieldLink RX7 44 "SoupByRankModel" "cells" "[I") (by decide +kernel)) rfl dX7_film_63 ?_
          refine lv_bipush (v := 40) hx hb dX7_film_66 (by decide) ?_
          refine lv_iload_n hx hb dX7_film_68 rfl (lv_at hl 1 rfl) ?_
          refine lv_imul hx hb dX7_film_69 ?_
          refine lv_iload_n hx hb dX7_film_70 rfl (lv_at hl 2 rfl) ?_
          refine lv_iadd hx hb dX7_film_71 ?_
          refine lv_aload_n hx hb dX7_film_72 rfl (lv_at hl 0 rfl) ?_
          refine r_getr (C := RX7) (T := TX7) (N := 43) (k' := 20) S hK hw (kM_0 hG).1 (kM_0 hG).2 rfl hinX7 33 (by decide) (o := 20) rfl rfl (hts (.fieldLink RX7 71 "SoupByRankModel" "getsOf" "[I") (by decide +kernel)) rfl dX7_film_73 ?_
          refine lv_iload_n hx hb dX7_film_76 rfl (lv_at hl 2 rfl) ?_
          refine lv_iconst (v := 0) hx hb dX7_film_77 (by decide) ?_
          refine lv_iconst (v := 5) hx hb dX7_film_78 (by decide) ?_
          obtain ⟨s_6, x_7, h_8, hg⟩ := bnI_e hg
          refine r_iS (As := [.int v2, .int 0, .int 5]) (rest := [.ref (gAd G 20), .int ((40 * v1) + v2), .ref (gAd G 11)]) S hA hK hw (c_X7_within l hG  h_8) (va_cwS 3 hts gX7_film_X7_within rfl rfl rfl (by decide +kernel) ⟨Nat.le_of_ble_eq_true rfl, Nat.le_of_ble_eq_true rfl⟩) rfl hl.1 (Nat.le_of_ble_eq_true rfl) dX7_film_79 ⟨Nat.zero_le _, Nat.zero_le _⟩ rfl (fun H locs hw => ?_)
          obtain ⟨h_10, x_9, e_11, hg⟩ := rdA_e hg
          refine r_iald S hK hw (kM_20 hG).1 (kM_20 hG).2 h_10 e_11 dX7_film_82 ?_
          obtain ⟨h_13, s_12, e_14, hg⟩ := wrA_e hg
          refine r_iast S hK hw (kM_11 hG).1 (kM_11 hG).2 h_13 e_14 dX7_film_83 (fun H locs hw => ?_)
          exact J84 v2 _ _ _ _ hg hw (lv_sub hl [0, 1, 2] rfl)
  rw [g_X7_film] at hg
  refine lv_iload_n hx hb dX7_film_0 rfl (lv_at hl 1 rfl) ?_
  refine lv_iconst (v := 0) hx hb dX7_film_1 (by decide) ?_
  refine lv_iconst (v := 3) hx hb dX7_film_2 (by decide) ?_
  obtain ⟨s_15, x_16, h_17, hg⟩ := bnI_e hg
  refine r_iS (As := [.int a1, .int 0, .int 3]) (rest := []) S hA hK hw (c_X7_in l hG  h_17) (va_cwS 3 hts gX7_film_X7_in rfl rfl rfl (by decide +kernel) ⟨Nat.le_of_ble_eq_true rfl, Nat.le_of_ble_eq_true rfl⟩) rfl hl.1 (Nat.le_of_ble_eq_true rfl) dX7_film_3 ⟨Nat.zero_le _, Nat.zero_le _⟩ rfl (fun H locs hw => ?_)
  refine lv_if_ne (tgt := 12) hx hb dX7_film_6 (by decide) (fun c_18 => ?_) (fun c_18 => ?_)
  · have hg := it_n hg c_18
    refine lv_aload_n hx hb dX7_film_12 rfl (lv_at hl 0 rfl) ?_
    refine lv_iconst (v := (-1)) hx hb dX7_film_13 (by decide) ?_
    obtain ⟨s_19, h_21, hg⟩ := bnV_e hg
    refine r_vV (As := [.int (-1)]) (rest := []) S hA hK hw (c_X7_sups l hG  h_21) (cwV 1 hts gX7_film_X7_sups rfl rfl rfl (by decide +kernel) ⟨Nat.le_of_ble_eq_true rfl, Nat.le_of_ble_eq_true rfl⟩) (r_recv hK hw (kM_0 hG).1 (kM_0 hG).2 rfl) rfl hl.1 (Nat.le_of_ble_eq_true rfl) dX7_film_14 ⟨Nat.zero_le _, Nat.zero_le _⟩ rfl (fun H locs hw => ?_)
    refine lv_aload_n hx hb dX7_film_17 rfl (lv_at hl 0 rfl) ?_
    refine r_getr (C := RX7) (T := TX7) (N := 43) (k' := 9) S hK hw (kM_0 hG).1 (kM_0 hG).2 rfl hinX7 15 (by decide) (o := 9) rfl rfl (hts (.fieldLink RX7 38 "SoupByRankModel" "sheetSort" "[I") (by decide +kernel)) rfl dX7_film_18 ?_
    refine lv_iload_n hx hb dX7_film_21 rfl (lv_at hl 1 rfl) ?_
    refine lv_iconst (v := 0) hx hb dX7_film_22 (by decide) ?_
    obtain ⟨h_23, s_22, e_24, hg⟩ := wrA_e hg
    refine r_iast S hK hw (kM_9 hG).1 (kM_9 hG).2 h_23 e_24 dX7_film_23 (fun H locs hw => ?_)
    refine lv_aload_n hx hb dX7_film_24 rfl (lv_at hl 0 rfl) ?_
    refine r_getr (C := RX7) (T := TX7) (N := 43) (k' := 10) S hK hw (kM_0 hG).1 (kM_0 hG).2 rfl hinX7 16 (by decide) (o := 10) rfl rfl (hts (.fieldLink RX7 41 "SoupByRankModel" "sheetSize" "[I") (by decide +kernel)) rfl dX7_film_25 ?_
    refine lv_iload_n hx hb dX7_film_28 rfl (lv_at hl 1 rfl) ?_
    refine lv_aload_n hx hb dX7_film_29 rfl (lv_at hl 0 rfl) ?_
    refine r_get (C := RX7) (T := TX7) (N := 43) S hK hw (kM_0 hG).1 (kM_0 hG).2 rfl hinX7 0 (by decide) rfl (hts (.fieldLink RX7 90 "SoupByRankModel" "courtiers" "I") (by decide +kernel)) rfl dX7_film_30 ?_
    obtain ⟨h_26, s_25, e_27, hg⟩ := wrA_e hg
    refine r_iast S hK hw (kM_10 hG).1 (kM_10 hG).2 h_26 e_27 dX7_film_33 (fun H locs hw => ?_)
    refine lv_iconst (v := 0) hx hb dX7_film_34 (by decide) ?_
    refine lv_istore_n (lv' := [(2, .int 0), (0, .ref (gAd G 0)), (1, .int a1)]) hx hb dX7_film_35 rfl hl (by decide) rfl (fun ls hl => ?_)
    exact L36 a1 F _ _ _ _ _ hg hw (lv_sub hl [1, 2, 0] rfl)
  · have hg := it_p hg c_18
    refine lv_bipush (v := (-2)) hx hb dX7_film_9 (by decide) ?_
    exact r_ireti S hr hlk hw.2.2.2.2 hw hg dX7_film_11
set_option maxHeartbeats 4000000 in
set_option maxRecDepth 100000 in
theorem c_X7_lotRanks (l : Launch) {G : GW} (hG : isM G) {F sz : Nat} {a1 : Int32} {σ σR : Sg} (hg : g_X7_lotRanks F a1 σ = some σR) : Met l yX7_lotRanks wsX7_lotRanks ({ frames := 6, cells := 0, slots := 0, locals := 148 } : Room) (va_Pc [.ref (gAd G 0), .int a1] (PX G σ sz)) (QcV G (gA G sz) σR) 0 0 (gA G sz) := by
  refine metX (by decide) rfl (Nat.le_of_ble_eq_true rfl) ?_
  intro p e s m args below meth c ls S hr hlk hsz hA hK hw hl hmn
  have S : CallFix p m c cX7_lotRanks 5 s args wsX7_lotRanks RX7 := S
  obtain ⟨hx, hb, hml, hown, hts⟩ := id S
  have hl : lv_has ls 5 [(0, .ref (gAd G 0)), (1, .int a1)] := hl
  have hinX7 : ∀ w ∈ wsX70, w ∈ wsX7_lotRanks := by decide +kernel
  have L12 : ∀ (n12 : Nat) (v2 : Int64) (v4 : Int32) (σ : Sg) (H : Heap) (locs : List Loc) (ls : Array Slot) (hg : g_X7_lotRanks_l12 F n12 v2 v4 σ = some σR) (hw : XD G (gA G sz) s.heap σ H locs) (hl : lv_has ls 5 [(0, .ref (gAd G 0)), (2, .long v2), (4, .int v4)]), W p l e (headSpec wsX7_lotRanks ({ frames := 6, cells := 0, slots := 0, locals := 148 } : Room)).room s m args below meth c H locs 0 0 (MQ below (QcV G (gA G sz) σR) args s 0 0 (gA G sz)) (F0 m 12 ls []) := by
    intro n12
    induction n12 with
    | zero => intro v2 v4 σ H locs ls hg hw hl; exact no_e hg
    | succ n12 ih12 =>
      intro v2 v4 σ H locs ls hg hw hl
      rw [g_X7_lotRanks_l12] at hg
      refine lv_iload hx hb dX7_lotRanks_12 (lv_at hl 2 rfl) ?_
      refine lv_aload_n hx hb dX7_lotRanks_14 rfl (lv_at hl 0 rfl) ?_
      refine r_get (C := RX7) (T := TX7) (N := 43) S hK hw (kM_0 hG).1 (kM_0 hG).2 rfl hinX7 0 (by decide) rfl (hts (.fieldLink RX7 90 "SoupByRankModel" "courtiers" "I") (by decide +kernel)) rfl dX7_lotRanks_15 ?_
      refine lv_icmp_ge (tgt := 52) hx hb dX7_lotRanks_18 (by decide) (fun c_1 => ?_) (fun c_1 => ?_)
      · have hg := it_p hg c_1
        refine lv_aload_n hx hb dX7_lotRanks_52 rfl (lv_at hl 0 rfl) ?_
        refine lv_iconst (v := (-1)) hx hb dX7_lotRanks_53 (by decide) ?_
        obtain ⟨s_2, h_4, hg⟩ := bnV_e hg
        refine r_vV (As := [.int (-1)]) (rest := []) S hA hK hw (c_X7_sups l hG  h_4) (cwV 1 hts gX7_lotRanks_X7_sups rfl rfl rfl (by decide +kernel) ⟨Nat.le_of_ble_eq_true rfl, Nat.le_of_ble_eq_true rfl⟩) (r_recv hK hw (kM_0 hG).1 (kM_0 hG).2 rfl) rfl hl.1 (Nat.le_of_ble_eq_true rfl) dX7_lotRanks_54 ⟨Nat.zero_le _, Nat.zero_le _⟩ rfl (fun H locs hw => ?_)
        refine lv_aload_n hx hb dX7_lotRanks_57 rfl (lv_at hl 0 rfl) ?_
        obtain ⟨s_5, h_7, hg⟩ := bnV_e hg
        refine r_vV (As := []) (rest := []) S hA hK hw (c_X7_lays l hG  h_7) (cwV 0 hts gX7_lotRanks_X7_lays rfl rfl rfl (by decide +kernel) ⟨Nat.le_of_ble_eq_true rfl, Nat.le_of_ble_eq_true rfl⟩) (r_recv hK hw (kM_0 hG).1 (kM_0 hG).2 rfl) rfl hl.1 (Nat.le_of_ble_eq_true rfl) dX7_lotRanks_58 ⟨Nat.zero_le _, Nat.zero_le _⟩ rfl (fun H locs hw => ?_)
        exact r_vreti S hr hlk hw.2.2.2.2 hw hg dX7_lotRanks_61
      · have hg := it_n hg c_1
        refine lv_lload_n hx hb dX7_lotRanks_21 rfl (lv_at hl 1 rfl) ?_
        refine lv_ldc2 (v := 48271) hx hb hown (hts (.constantLong RX7 269 (48271)) (by decide +kernel)) dX7_lotRanks_22 ?_
        refine lv_lmul hx hb dX7_lotRanks_25 ?_
        refine lv_ldc2 (v := 2147483647) hx hb hown (hts (.constantLong RX7 271 (2147483647)) (by decide +kernel)) dX7_lotRanks_26 ?_
        obtain ⟨h_9, hg⟩ := remL_e hg
        refine lv_lrem hx hb dX7_lotRanks_29 h_9 ?_
        refine lv_lstore_n (lv' := [(2, .long ((v2 * 48271) - (v2 * 48271) / 2147483647 * 2147483647)), (0, .ref (gAd G 0)), (4, .int v4)]) hx hb dX7_lotRanks_30 rfl hl (by decide) rfl (fun ls hl => ?_)
        refine lv_aload_n hx hb dX7_lotRanks_31 rfl (lv_at hl 1 rfl) ?_
        refine r_getr (C := RX7) (T := TX7) (N := 43) (k' := 3) S hK hw (kM_0 hG).1 (kM_0 hG).2 rfl hinX7 3 (by decide) (o := 3) rfl rfl (hts (.fieldLink RX7 16 "SoupByRankModel" "rows" "[I") (by decide +kernel)) rfl dX7_lotRanks_32 ?_
        refine lv_iconst (v := 2) hx hb dX7_lotRanks_35 (by decide) ?_
        refine lv_iload hx hb dX7_lotRanks_36 (lv_at hl 2 rfl) ?_
        refine lv_imul hx hb dX7_lotRanks_38 ?_
        refine lv_lload_n hx hb dX7_lotRanks_39 rfl (lv_at hl 0 rfl) ?_
        refine lv_ldc2 (v := 100) hx hb hown (hts (.constantLong RX7 273 (100)) (by decide +kernel)) dX7_lotRanks_40 ?_
        obtain ⟨h_12, hg⟩ := remL_e hg
        refine lv_lrem hx hb dX7_lotRanks_43 h_12 ?_
        refine lv_l2i (v := (Int64.toInt32 (((v2 * 48271) - (v2 * 48271) / 2147483647 * 2147483647) - ((v2 * 48271) - (v2 * 48271) / 2147483647 * 2147483647) / 100 * 100))) hx hb dX7_lotRanks_44 rfl ?_
        obtain ⟨h_15, s_14, e_16, hg⟩ := wrA_e hg
        refine r_iast S hK hw (kM_3 hG).1 (kM_3 hG).2 h_15 e_16 dX7_lotRanks_45 (fun H locs hw => ?_)
        refine lv_iinc (v := (v4 + 1)) (lv' := [(4, .int (v4 + 1)), (2, .long ((v2 * 48271) - (v2 * 48271) / 2147483647 * 2147483647)), (0, .ref (gAd G 0))]) hx hb dX7_lotRanks_46 hl (k := 2) rfl rfl (by decide) rfl (fun ls hl => ?_)
        refine lv_goto (tgt := 12) hx hb dX7_lotRanks_49 (by decide) ?_
        exact ih12 _ _ _ _ _ _ hg hw (lv_sub hl [2, 1, 0] rfl)
  rw [g_X7_lotRanks] at hg
  refine lv_iload_n hx hb dX7_lotRanks_0 rfl (lv_at hl 1 rfl) ?_
  refine lv_i2l (v := (Int32.toInt64 a1)) hx hb dX7_lotRanks_1 rfl ?_
  refine lv_lconst (v := 1) hx hb dX7_lotRanks_2 (by decide) ?_
  refine lv_ladd hx hb dX7_lotRanks_3 ?_
  refine lv_lstore_n (lv' := [(2, .long ((Int32.toInt64 a1) + 1)), (0, .ref (gAd G 0)), (1, .int a1)]) hx hb dX7_lotRanks_4 rfl hl (by decide) rfl (fun ls hl => ?_)
  refine lv_aload_n hx hb dX7_lotRanks_5 rfl (lv_at hl 1 rfl) ?_
  obtain ⟨s_17, h_19, hg⟩ := bnV_e hg
  refine r_vV (As := []) (rest := []) S hA hK hw (c_X7_keeps l hG  h_19) (cwV 0 hts gX7_lotRanks_X7_keeps rfl rfl rfl (by decide +kernel) ⟨Nat.le_of_ble_eq_true rfl, Nat.le_of_ble_eq_true rfl⟩) (r_recv hK hw (kM_0 hG).1 (kM_0 hG).2 rfl) rfl hl.1 (Nat.le_of_ble_eq_true rfl) dX7_lotRanks_6 ⟨Nat.zero_le _, Nat.zero_le _⟩ rfl (fun H locs hw => ?_)
  refine lv_iconst (v := 0) hx hb dX7_lotRanks_9 (by decide) ?_
  refine lv_istore (lv' := [(4, .int 0), (2, .long ((Int32.toInt64 a1) + 1)), (0, .ref (gAd G 0)), (1, .int a1)]) hx hb dX7_lotRanks_10 hl (by decide) rfl (fun ls hl => ?_)
  exact L12 F _ _ _ _ _ _ hg hw (lv_sub hl [2, 1, 0] rfl)
set_option maxHeartbeats 4000000 in
set_option maxRecDepth 100000 in
theorem c_X7_drawn (l : Launch) {G : GW} (hG : isM G) {F sz : Nat} {a1 : Int32} {a2 : Int32} {σ σR : Sg} {r : Int32} (hg : g_X7_drawn F a1 a2 σ = some (σR, r)) : Met l yX7_drawn wsX7_drawn ({ frames := 7, cells := 0, slots := 0, locals := 172 } : Room) (va_Pc [.ref (gAd G 0), .int a1, .int a2] (PX G σ sz)) (QcI G (gA G sz) σR r) 0 0 (gA G sz) := by
  refine metX (by decide) rfl (Nat.le_of_ble_eq_true rfl) ?_
  intro p e s m args below meth c ls S hr hlk hsz hA hK hw hl hmn
  have S : CallFix p m c cX7_drawn 3 s args wsX7_drawn RX7 := S
  obtain ⟨hx, hb, hml, hown, hts⟩ := id S
  have hl : lv_has ls 3 [(0, .ref (gAd G 0)), (1, .int a1), (2, .int a2)] := hl
  have hinX7 : ∀ w ∈ wsX70, w ∈ wsX7_drawn := by decide +kernel
  rw [g_X7_drawn] at hg
  refine lv_iload_n hx hb dX7_drawn_0 rfl (lv_at hl 1 rfl) ?_
  refine lv_iconst (v := 0) hx hb dX7_drawn_1 (by decide) ?_
  refine lv_ldcw (v := 99999) hx hb hown (hts (.constant RX7 275 (99999)) (by decide +kernel)) dX7_drawn_2 ?_
  obtain ⟨s_1, x_2, h_3, hg⟩ := bnI_e hg
  refine r_iS (As := [.int a1, .int 0, .int 99999]) (rest := []) S hA hK hw (c_X7_in l hG  h_3) (va_cwS 3 hts gX7_drawn_X7_in rfl rfl rfl (by decide +kernel) ⟨Nat.le_of_ble_eq_true rfl, Nat.le_of_ble_eq_true rfl⟩) rfl hl.1 (Nat.le_of_ble_eq_true rfl) dX7_drawn_5 ⟨Nat.zero_le _, Nat.zero_le _⟩ rfl (fun H locs hw => ?_)
  refine lv_if_eq (tgt := 20) hx hb dX7_drawn_8 (by decide) (fun c_4 => ?_) (fun c_4 => ?_)
  · have hg := it_p hg c_4
    refine lv_ldc (v := (-100000)) hx hb hown (hts (.constant RX7 222 (-100000)) (by decide +kernel)) dX7_drawn_20 ?_
    exact r_ireti S hr hlk hw.2.2.2.2 hw hg dX7_drawn_22
  · have hg := it_n hg c_4
    refine lv_iload_n hx hb dX7_drawn_11 rfl (lv_at hl 2 rfl) ?_
    refine lv_iconst (v := 0) hx hb dX7_drawn_12 (by decide) ?_
    refine lv_iconst (v := 1) hx hb dX7_drawn_13 (by decide) ?_
    obtain ⟨s_5, x_6, h_7, hg⟩ := bnI_e hg
    refine r_iS (As := [.int a2, .int 0, .int 1]) (rest := []) S hA hK hw (c_X7_in l hG  h_7) (va_cwS 3 hts gX7_drawn_X7_in rfl rfl rfl (by decide +kernel) ⟨Nat.le_of_ble_eq_true rfl, Nat.le_of_ble_eq_true rfl⟩) rfl hl.1 (Nat.le_of_ble_eq_true rfl) dX7_drawn_14 ⟨Nat.zero_le _, Nat.zero_le _⟩ rfl (fun H locs hw => ?_)
    refine lv_if_ne (tgt := 23) hx hb dX7_drawn_17 (by decide) (fun c_8 => ?_) (fun c_8 => ?_)
    · have hg := it_n hg c_8
      refine lv_aload_n hx hb dX7_drawn_23 rfl (lv_at hl 0 rfl) ?_
      refine lv_iload_n hx hb dX7_drawn_24 rfl (lv_at hl 1 rfl) ?_
      obtain ⟨s_9, h_11, hg⟩ := bnV_e hg
      refine r_vV (As := [.int a1]) (rest := []) S hA hK hw (c_X7_lotRanks l hG  h_11) (cwV 1 hts gX7_drawn_X7_lotRanks rfl rfl rfl (by decide +kernel) ⟨Nat.le_of_ble_eq_true rfl, Nat.le_of_ble_eq_true rfl⟩) (r_recv hK hw (kM_0 hG).1 (kM_0 hG).2 rfl) rfl hl.1 (Nat.le_of_ble_eq_true rfl) dX7_drawn_25 ⟨Nat.zero_le _, Nat.zero_le _⟩ rfl (fun H locs hw => ?_)
      refine lv_iload_n hx hb dX7_drawn_28 rfl (lv_at hl 2 rfl) ?_
      refine lv_if_ne (tgt := 39) hx hb dX7_drawn_29 (by decide) (fun c_12 => ?_) (fun c_12 => ?_)
      · have hg := it_n hg c_12
        refine lv_aload_n hx hb dX7_drawn_39 rfl (lv_at hl 0 rfl) ?_
        refine r_get (C := RX7) (T := TX7) (N := 43) S hK hw (kM_0 hG).1 (kM_0 hG).2 rfl hinX7 36 (by decide) rfl (hts (.fieldLink RX7 194 "SoupByRankModel" "lastOne" "I") (by decide +kernel)) rfl dX7_drawn_40 ?_
        exact r_ireti S hr hlk hw.2.2.2.2 hw hg dX7_drawn_43
      · have hg := it_p hg c_12
        refine lv_aload_n hx hb dX7_drawn_32 rfl (lv_at hl 0 rfl) ?_
        refine r_get (C := RX7) (T := TX7) (N := 43) S hK hw (kM_0 hG).1 (kM_0 hG).2 rfl hinX7 38 (by decide) rfl (hts (.fieldLink RX7 200 "SoupByRankModel" "mindsAll" "I") (by decide +kernel)) rfl dX7_drawn_33 ?_
        refine lv_goto (tgt := 43) hx hb dX7_drawn_36 (by decide) ?_
        exact r_ireti S hr hlk hw.2.2.2.2 hw hg dX7_drawn_43
    · have hg := it_p hg c_8
      refine lv_ldc (v := (-100000)) hx hb hown (hts (.constant RX7 222 (-100000)) (by decide +kernel)) dX7_drawn_20 ?_
      exact r_ireti S hr hlk hw.2.2.2.2 hw hg dX7_drawn_22
set_option maxHeartbeats 4000000 in
set_option maxRecDepth 100000 in
theorem c_X7_odds (l : Launch) {G : GW} (hG : isM G) {F sz : Nat} {a1 : Int32} {a2 : Int32} {a3 : Int32} {a4 : Int32} {σ σR : Sg} {r : Int64} (hg : g_X7_odds F a1 a2 a3 a4 σ = some (σR, r)) : Met l yX7_odds wsX7_odds ({ frames := 7, cells := 0, slots := 0, locals := 172 } : Room) (va_Pc [.ref (gAd G 0), .int a1, .int a2, .int a3, .int a4] (PX G σ sz)) (QcL G (gA G sz) σR r) 0 0 (gA G sz) := by
  refine metX (by decide) rfl (Nat.le_of_ble_eq_true rfl) ?_
  intro p e s m args below meth c ls S hr hlk hsz hA hK hw hl hmn
  have S : CallFix p m c cX7_odds 8 s args wsX7_odds RX7 := S
  obtain ⟨hx, hb, hml, hown, hts⟩ := id S
  have hl : lv_has ls 8 [(0, .ref (gAd G 0)), (1, .int a1), (2, .int a2), (3, .int a3), (4, .int a4)] := hl
  have hinX7 : ∀ w ∈ wsX70, w ∈ wsX7_odds := by decide +kernel
  have L54 : ∀ (v1 : Int32) (v2 : Int32) (v3 : Int32) (v4 : Int32) (n54 : Nat) (v5 : Int64) (v7 : Int32) (σ : Sg) (H : Heap) (locs : List Loc) (ls : Array Slot) (hg : g_X7_odds_l54 F v1 v2 v3 v4 n54 v5 v7 σ = some (σR, r)) (hw : XD G (gA G sz) s.heap σ H locs) (hl : lv_has ls 8 [(0, .ref (gAd G 0)), (1, .int v1), (2, .int v2), (3, .int v3), (4, .int v4), (5, .long v5), (7, .int v7)]), W p l e (headSpec wsX7_odds ({ frames := 7, cells := 0, slots := 0, locals := 172 } : Room)).room s m args below meth c H locs 0 0 (MQ below (QcL G (gA G sz) σR r) args s 0 0 (gA G sz)) (F0 m 54 ls []) := by
    intro v1 v2 v3 v4
    intro n54
    induction n54 with
    | zero => intro v5 v7 σ H locs ls hg hw hl; exact no_e hg
    | succ n54 ih54 =>
      have J83 : ∀ (v7 : Int32) (u0 : Int64) (u1 : Int64) (σ : Sg) (H : Heap) (locs : List Loc) (ls : Array Slot) (hg : g_X7_odds_b83 F (fun v5_ v7_ σ_ => g_X7_odds_l54 F v1 v2 v3 v4 n54 v5_ v7_ σ_) v1 v2 v3 v4 v7 u0 u1 σ = some (σR, r)) (hw : XD G (gA G sz) s.heap σ H locs) (hl : lv_has ls 8 [(0, .ref (gAd G 0)), (1, .int v1), (2, .int v2), (3, .int v3), (4, .int v4), (7, .int v7)]), W p l e (headSpec wsX7_odds ({ frames := 7, cells := 0, slots := 0, locals := 172 } : Room)).room s m args below meth c H locs 0 0 (MQ below (QcL G (gA G sz) σR r) args s 0 0 (gA G sz)) (F0 m 83 ls [.long u0, .long u1]) := by
        intro v7 u0 u1 σ H locs ls hg hw hl
        rw [g_X7_odds_b83] at hg
        refine lv_ladd hx hb dX7_odds_83 ?_
        refine lv_lstore (lv' := [(5, .long (u1 + u0)), (0, .ref (gAd G 0)), (1, .int v1), (2, .int v2), (3, .int v3), (4, .int v4), (7, .int v7)]) hx hb dX7_odds_84 hl (by decide) rfl (fun ls hl => ?_)
        refine lv_iinc (v := (v7 + 1)) (lv' := [(7, .int (v7 + 1)), (5, .long (u1 + u0)), (0, .ref (gAd G 0)), (1, .int v1), (2, .int v2), (3, .int v3), (4, .int v4)]) hx hb dX7_odds_86 hl (k := 6) rfl rfl (by decide) rfl (fun ls hl => ?_)
        refine lv_goto (tgt := 54) hx hb dX7_odds_89 (by decide) ?_
        exact ih54 _ _ _ _ _ _ hg hw (lv_sub hl [2, 3, 4, 5, 6, 1, 0] rfl)
      intro v5 v7 σ H locs ls hg hw hl
      rw [g_X7_odds_l54] at hg
      refine lv_iload hx hb dX7_odds_54 (lv_at hl 6 rfl) ?_
      refine lv_iload_n hx hb dX7_odds_56 rfl (lv_at hl 2 rfl) ?_
      refine lv_icmp_ge (tgt := 92) hx hb dX7_odds_57 (by decide) (fun c_1 => ?_) (fun c_1 => ?_)
      · have hg := it_p hg c_1
        refine lv_lload hx hb dX7_odds_92 (lv_at hl 5 rfl) ?_
        refine lv_iload_n hx hb dX7_odds_94 rfl (lv_at hl 2 rfl) ?_
        refine lv_i2l (v := (Int32.toInt64 v2)) hx hb dX7_odds_95 rfl ?_
        refine lv_iload hx hb dX7_odds_96 (lv_at hl 4 rfl) ?_
        obtain ⟨s_2, x_3, h_4, hg⟩ := bnL_e hg
        refine r_lS (As := [.long v5, .long (Int32.toInt64 v2), .int v4]) (rest := []) S hA hK hw (c_X7_lowest l hG  h_4) (va_cwS 3 hts gX7_odds_X7_lowest rfl rfl rfl (by decide +kernel) ⟨Nat.le_of_ble_eq_true rfl, Nat.le_of_ble_eq_true rfl⟩) rfl hl.1 (Nat.le_of_ble_eq_true rfl) dX7_odds_98 ⟨Nat.zero_le _, Nat.zero_le _⟩ rfl (fun H locs hw => ?_)
        exact r_lreti S hr hlk hw.2.2.2.2 hw hg dX7_odds_101
      · have hg := it_n hg c_1
        refine lv_aload_n hx hb dX7_odds_60 rfl (lv_at hl 0 rfl) ?_
        refine lv_iload_n hx hb dX7_odds_61 rfl (lv_at hl 1 rfl) ?_
        refine lv_iload hx hb dX7_odds_62 (lv_at hl 6 rfl) ?_
        refine lv_iadd hx hb dX7_odds_64 ?_
        obtain ⟨s_5, h_7, hg⟩ := bnV_e hg
        refine r_vV (As := [.int (v1 + v7)]) (rest := []) S hA hK hw (c_X7_lotRanks l hG  h_7) (cwV 1 hts gX7_odds_X7_lotRanks rfl rfl rfl (by decide +kernel) ⟨Nat.le_of_ble_eq_true rfl, Nat.le_of_ble_eq_true rfl⟩) (r_recv hK hw (kM_0 hG).1 (kM_0 hG).2 rfl) rfl hl.1 (Nat.le_of_ble_eq_true rfl) dX7_odds_65 ⟨Nat.zero_le _, Nat.zero_le _⟩ rfl (fun H locs hw => ?_)
        refine lv_lload hx hb dX7_odds_68 (lv_at hl 5 rfl) ?_
        refine lv_aload_n hx hb dX7_odds_70 rfl (lv_at hl 0 rfl) ?_
        refine r_get (C := RX7) (T := TX7) (N := 43) S hK hw (kM_0 hG).1 (kM_0 hG).2 rfl hinX7 38 (by decide) rfl (hts (.fieldLink RX7 200 "SoupByRankModel" "mindsAll" "I") (by decide +kernel)) rfl dX7_odds_71 ?_
        refine lv_iload_n hx hb dX7_odds_74 rfl (lv_at hl 3 rfl) ?_
        refine lv_icmp_gt (tgt := 82) hx hb dX7_odds_75 (by decide) (fun c_8 => ?_) (fun c_8 => ?_)
        · have hg := it_p hg c_8
          refine lv_lconst (v := 0) hx hb dX7_odds_82 (by decide) ?_
          exact J83 v7 0 v5 _ _ _ _ hg hw (lv_sub hl [0, 1, 2, 3, 4, 6] rfl)
        · have hg := it_n hg c_8
          refine lv_lconst (v := 1) hx hb dX7_odds_78 (by decide) ?_
          refine lv_goto (tgt := 83) hx hb dX7_odds_79 (by decide) ?_
          exact J83 v7 1 v5 _ _ _ _ hg hw (lv_sub hl [0, 1, 2, 3, 4, 6] rfl)
  rw [g_X7_odds] at hg
  refine lv_iload_n hx hb dX7_odds_0 rfl (lv_at hl 1 rfl) ?_
  refine lv_iconst (v := 0) hx hb dX7_odds_1 (by decide) ?_
  refine lv_ldcw (v := 99999) hx hb hown (hts (.constant RX7 275 (99999)) (by decide +kernel)) dX7_odds_2 ?_
  obtain ⟨s_9, x_10, h_11, hg⟩ := bnI_e hg
  refine r_iS (As := [.int a1, .int 0, .int 99999]) (rest := []) S hA hK hw (c_X7_in l hG  h_11) (va_cwS 3 hts gX7_odds_X7_in rfl rfl rfl (by decide +kernel) ⟨Nat.le_of_ble_eq_true rfl, Nat.le_of_ble_eq_true rfl⟩) rfl hl.1 (Nat.le_of_ble_eq_true rfl) dX7_odds_5 ⟨Nat.zero_le _, Nat.zero_le _⟩ rfl (fun H locs hw => ?_)
  refine lv_if_eq (tgt := 44) hx hb dX7_odds_8 (by decide) (fun c_12 => ?_) (fun c_12 => ?_)
  · have hg := it_p hg c_12
    refine lv_ldc2 (v := (-4611686018427387904)) hx hb hown (hts (.constantLong RX7 254 (-4611686018427387904)) (by decide +kernel)) dX7_odds_44 ?_
    exact r_lreti S hr hlk hw.2.2.2.2 hw hg dX7_odds_47
  · have hg := it_n hg c_12
    refine lv_iload_n hx hb dX7_odds_11 rfl (lv_at hl 2 rfl) ?_
    refine lv_iconst (v := 1) hx hb dX7_odds_12 (by decide) ?_
    refine lv_bipush (v := 40) hx hb dX7_odds_13 (by decide) ?_
    obtain ⟨s_13, x_14, h_15, hg⟩ := bnI_e hg
    refine r_iS (As := [.int a2, .int 1, .int 40]) (rest := []) S hA hK hw (c_X7_in l hG  h_15) (va_cwS 3 hts gX7_odds_X7_in rfl rfl rfl (by decide +kernel) ⟨Nat.le_of_ble_eq_true rfl, Nat.le_of_ble_eq_true rfl⟩) rfl hl.1 (Nat.le_of_ble_eq_true rfl) dX7_odds_15 ⟨Nat.zero_le _, Nat.zero_le _⟩ rfl (fun H locs hw => ?_)
    refine lv_if_eq (tgt := 44) hx hb dX7_odds_18 (by decide) (fun c_16 => ?_) (fun c_16 => ?_)
    · have hg := it_p hg c_16
      refine lv_ldc2 (v := (-4611686018427387904)) hx hb hown (hts (.constantLong RX7 254 (-4611686018427387904)) (by decide +kernel)) dX7_odds_44 ?_
      exact r_lreti S hr hlk hw.2.2.2.2 hw hg dX7_odds_47
    · have hg := it_n hg c_16
      refine lv_iload_n hx hb dX7_odds_21 rfl (lv_at hl 3 rfl) ?_
      refine lv_sipush (v := (-999)) hx hb dX7_odds_22 (by decide) ?_
      refine lv_sipush (v := 9999) hx hb dX7_odds_25 (by decide) ?_
      obtain ⟨s_17, x_18, h_19, hg⟩ := bnI_e hg
      refine r_iS (As := [.int a3, .int (-999), .int 9999]) (rest := []) S hA hK hw (c_X7_in l hG  h_19) (va_cwS 3 hts gX7_odds_X7_in rfl rfl rfl (by decide +kernel) ⟨Nat.le_of_ble_eq_true rfl, Nat.le_of_ble_eq_true rfl⟩) rfl hl.1 (Nat.le_of_ble_eq_true rfl) dX7_odds_28 ⟨Nat.zero_le _, Nat.zero_le _⟩ rfl (fun H locs hw => ?_)
      refine lv_if_eq (tgt := 44) hx hb dX7_odds_31 (by decide) (fun c_20 => ?_) (fun c_20 => ?_)
      · have hg := it_p hg c_20
        refine lv_ldc2 (v := (-4611686018427387904)) hx hb hown (hts (.constantLong RX7 254 (-4611686018427387904)) (by decide +kernel)) dX7_odds_44 ?_
        exact r_lreti S hr hlk hw.2.2.2.2 hw hg dX7_odds_47
      · have hg := it_n hg c_20
        refine lv_iload hx hb dX7_odds_34 (lv_at hl 4 rfl) ?_
        refine lv_iconst (v := 0) hx hb dX7_odds_36 (by decide) ?_
        refine lv_iconst (v := 1) hx hb dX7_odds_37 (by decide) ?_
        obtain ⟨s_21, x_22, h_23, hg⟩ := bnI_e hg
        refine r_iS (As := [.int a4, .int 0, .int 1]) (rest := []) S hA hK hw (c_X7_in l hG  h_23) (va_cwS 3 hts gX7_odds_X7_in rfl rfl rfl (by decide +kernel) ⟨Nat.le_of_ble_eq_true rfl, Nat.le_of_ble_eq_true rfl⟩) rfl hl.1 (Nat.le_of_ble_eq_true rfl) dX7_odds_38 ⟨Nat.zero_le _, Nat.zero_le _⟩ rfl (fun H locs hw => ?_)
        refine lv_if_ne (tgt := 48) hx hb dX7_odds_41 (by decide) (fun c_24 => ?_) (fun c_24 => ?_)
        · have hg := it_n hg c_24
          refine lv_lconst (v := 0) hx hb dX7_odds_48 (by decide) ?_
          refine lv_lstore (lv' := [(5, .long 0), (0, .ref (gAd G 0)), (1, .int a1), (2, .int a2), (3, .int a3), (4, .int a4)]) hx hb dX7_odds_49 hl (by decide) rfl (fun ls hl => ?_)
          refine lv_iconst (v := 0) hx hb dX7_odds_51 (by decide) ?_
          refine lv_istore (lv' := [(7, .int 0), (5, .long 0), (0, .ref (gAd G 0)), (1, .int a1), (2, .int a2), (3, .int a3), (4, .int a4)]) hx hb dX7_odds_52 hl (by decide) rfl (fun ls hl => ?_)
          exact L54 a1 a2 a3 a4 F _ _ _ _ _ _ hg hw (lv_sub hl [2, 3, 4, 5, 6, 1, 0] rfl)
        · have hg := it_p hg c_24
          refine lv_ldc2 (v := (-4611686018427387904)) hx hb hown (hts (.constantLong RX7 254 (-4611686018427387904)) (by decide +kernel)) dX7_odds_44 ?_
          exact r_lreti S hr hlk hw.2.2.2.2 hw hg dX7_odds_47
set_option maxHeartbeats 4000000 in
set_option maxRecDepth 100000 in
theorem c_X7_image (l : Launch) {G : GW} (hG : isM G) {F sz : Nat} {σ σR : Sg} {r : Int32} (hg : g_X7_image F σ = some (σR, r)) : Met l yX7_image wsX7_image ({ frames := 0, cells := 0, slots := 0, locals := 0 } : Room) (va_Pc [.ref (gAd G 0)] (PX G σ sz)) (QcI G (gA G sz) σR r) 0 0 (gA G sz) := by
  refine metX (by decide) rfl (Nat.le_of_ble_eq_true rfl) ?_
  intro p e s m args below meth c ls S hr hlk hsz hA hK hw hl hmn
  have S : CallFix p m c cX7_image 2 s args wsX7_image RX7 := S
  obtain ⟨hx, hb, hml, hown, hts⟩ := id S
  have hl : lv_has ls 2 [(0, .ref (gAd G 0))] := hl
  have hinX7 : ∀ w ∈ wsX70, w ∈ wsX7_image := by decide +kernel
  have L7 : ∀ (n7 : Nat) (v1 : Int32) (σ : Sg) (H : Heap) (locs : List Loc) (ls : Array Slot) (hg : g_X7_image_l7 F n7 v1 σ = some (σR, r)) (hw : XD G (gA G sz) s.heap σ H locs) (hl : lv_has ls 2 [(0, .ref (gAd G 0)), (1, .int v1)]), W p l e (headSpec wsX7_image ({ frames := 0, cells := 0, slots := 0, locals := 0 } : Room)).room s m args below meth c H locs 0 0 (MQ below (QcI G (gA G sz) σR r) args s 0 0 (gA G sz)) (F0 m 7 ls []) := by
    intro n7
    induction n7 with
    | zero => intro v1 σ H locs ls hg hw hl; exact no_e hg
    | succ n7 ih7 =>
      intro v1 σ H locs ls hg hw hl
      rw [g_X7_image_l7] at hg
      refine lv_iload_n hx hb dX7_image_7 rfl (lv_at hl 1 rfl) ?_
      refine lv_bipush (v := 12) hx hb dX7_image_8 (by decide) ?_
      refine lv_icmp_ge (tgt := 31) hx hb dX7_image_10 (by decide) (fun c_1 => ?_) (fun c_1 => ?_)
      · have hg := it_p hg c_1
        refine lv_aload_n hx hb dX7_image_31 rfl (lv_at hl 0 rfl) ?_
        refine r_getr (C := RX7) (T := TX7) (N := 43) (k' := 8) S hK hw (kM_0 hG).1 (kM_0 hG).2 rfl hinX7 14 (by decide) (o := 8) rfl rfl (hts (.fieldLink RX7 35 "SoupByRankModel" "imageHeld" "[I") (by decide +kernel)) rfl dX7_image_32 ?_
        refine lv_iconst (v := 0) hx hb dX7_image_35 (by decide) ?_
        refine lv_aload_n hx hb dX7_image_36 rfl (lv_at hl 0 rfl) ?_
        refine r_get (C := RX7) (T := TX7) (N := 43) S hK hw (kM_0 hG).1 (kM_0 hG).2 rfl hinX7 0 (by decide) rfl (hts (.fieldLink RX7 90 "SoupByRankModel" "courtiers" "I") (by decide +kernel)) rfl dX7_image_37 ?_
        obtain ⟨h_3, s_2, e_4, hg⟩ := wrA_e hg
        refine r_iast S hK hw (kM_8 hG).1 (kM_8 hG).2 h_3 e_4 dX7_image_40 (fun H locs hw => ?_)
        refine lv_aload_n hx hb dX7_image_41 rfl (lv_at hl 0 rfl) ?_
        refine r_getr (C := RX7) (T := TX7) (N := 43) (k' := 8) S hK hw (kM_0 hG).1 (kM_0 hG).2 rfl hinX7 14 (by decide) (o := 8) rfl rfl (hts (.fieldLink RX7 35 "SoupByRankModel" "imageHeld" "[I") (by decide +kernel)) rfl dX7_image_42 ?_
        refine lv_iconst (v := 1) hx hb dX7_image_45 (by decide) ?_
        refine lv_aload_n hx hb dX7_image_46 rfl (lv_at hl 0 rfl) ?_
        refine r_get (C := RX7) (T := TX7) (N := 43) S hK hw (kM_0 hG).1 (kM_0 hG).2 rfl hinX7 4 (by decide) rfl (hts (.fieldLink RX7 97 "SoupByRankModel" "suppers" "I") (by decide +kernel)) rfl dX7_image_47 ?_
        obtain ⟨h_6, s_5, e_7, hg⟩ := wrA_e hg
        refine r_iast S hK hw (kM_8 hG).1 (kM_8 hG).2 h_6 e_7 dX7_image_50 (fun H locs hw => ?_)
        refine lv_aload_n hx hb dX7_image_51 rfl (lv_at hl 0 rfl) ?_
        refine r_getr (C := RX7) (T := TX7) (N := 43) (k' := 8) S hK hw (kM_0 hG).1 (kM_0 hG).2 rfl hinX7 14 (by decide) (o := 8) rfl rfl (hts (.fieldLink RX7 35 "SoupByRankModel" "imageHeld" "[I") (by decide +kernel)) rfl dX7_image_52 ?_
        refine lv_iconst (v := 2) hx hb dX7_image_55 (by decide) ?_
        refine lv_aload_n hx hb dX7_image_56 rfl (lv_at hl 0 rfl) ?_
        refine r_get (C := RX7) (T := TX7) (N := 43) S hK hw (kM_0 hG).1 (kM_0 hG).2 rfl hinX7 5 (by decide) rfl (hts (.fieldLink RX7 19 "SoupByRankModel" "heat" "I") (by decide +kernel)) rfl dX7_image_57 ?_
        obtain ⟨h_9, s_8, e_10, hg⟩ := wrA_e hg
        refine r_iast S hK hw (kM_8 hG).1 (kM_8 hG).2 h_9 e_10 dX7_image_60 (fun H locs hw => ?_)
        refine lv_aload_n hx hb dX7_image_61 rfl (lv_at hl 0 rfl) ?_
        refine r_getr (C := RX7) (T := TX7) (N := 43) (k' := 8) S hK hw (kM_0 hG).1 (kM_0 hG).2 rfl hinX7 14 (by decide) (o := 8) rfl rfl (hts (.fieldLink RX7 35 "SoupByRankModel" "imageHeld" "[I") (by decide +kernel)) rfl dX7_image_62 ?_
        refine lv_iconst (v := 3) hx hb dX7_image_65 (by decide) ?_
        refine lv_aload_n hx hb dX7_image_66 rfl (lv_at hl 0 rfl) ?_
        refine r_get (C := RX7) (T := TX7) (N := 43) S hK hw (kM_0 hG).1 (kM_0 hG).2 rfl hinX7 11 (by decide) rfl (hts (.fieldLink RX7 103 "SoupByRankModel" "rule" "I") (by decide +kernel)) rfl dX7_image_67 ?_
        obtain ⟨h_12, s_11, e_13, hg⟩ := wrA_e hg
        refine r_iast S hK hw (kM_8 hG).1 (kM_8 hG).2 h_12 e_13 dX7_image_70 (fun H locs hw => ?_)
        refine lv_aload_n hx hb dX7_image_71 rfl (lv_at hl 0 rfl) ?_
        refine r_get (C := RX7) (T := TX7) (N := 43) S hK hw (kM_0 hG).1 (kM_0 hG).2 rfl hinX7 0 (by decide) rfl (hts (.fieldLink RX7 90 "SoupByRankModel" "courtiers" "I") (by decide +kernel)) rfl dX7_image_72 ?_
        exact r_ireti S hr hlk hw.2.2.2.2 hw hg dX7_image_75
      · have hg := it_n hg c_1
        refine lv_aload_n hx hb dX7_image_13 rfl (lv_at hl 0 rfl) ?_
        refine r_getr (C := RX7) (T := TX7) (N := 43) (k' := 7) S hK hw (kM_0 hG).1 (kM_0 hG).2 rfl hinX7 13 (by decide) (o := 7) rfl rfl (hts (.fieldLink RX7 32 "SoupByRankModel" "imageRows" "[I") (by decide +kernel)) rfl dX7_image_14 ?_
        refine lv_iload_n hx hb dX7_image_17 rfl (lv_at hl 1 rfl) ?_
        refine lv_aload_n hx hb dX7_image_18 rfl (lv_at hl 0 rfl) ?_
        refine r_getr (C := RX7) (T := TX7) (N := 43) (k' := 3) S hK hw (kM_0 hG).1 (kM_0 hG).2 rfl hinX7 3 (by decide) (o := 3) rfl rfl (hts (.fieldLink RX7 16 "SoupByRankModel" "rows" "[I") (by decide +kernel)) rfl dX7_image_19 ?_
        refine lv_iload_n hx hb dX7_image_22 rfl (lv_at hl 1 rfl) ?_
        obtain ⟨h_15, x_14, e_16, hg⟩ := rdA_e hg
        refine r_iald S hK hw (kM_3 hG).1 (kM_3 hG).2 h_15 e_16 dX7_image_23 ?_
        obtain ⟨h_18, s_17, e_19, hg⟩ := wrA_e hg
        refine r_iast S hK hw (kM_7 hG).1 (kM_7 hG).2 h_18 e_19 dX7_image_24 (fun H locs hw => ?_)
        refine lv_iinc (v := (v1 + 1)) (lv' := [(1, .int (v1 + 1)), (0, .ref (gAd G 0))]) hx hb dX7_image_25 hl (k := 1) rfl rfl (by decide) rfl (fun ls hl => ?_)
        refine lv_goto (tgt := 7) hx hb dX7_image_28 (by decide) ?_
        exact ih7 _ _ _ _ _ hg hw (lv_sub hl [1, 0] rfl)
  rw [g_X7_image] at hg
  refine lv_aload_n hx hb dX7_image_0 rfl (lv_at hl 0 rfl) ?_
  refine lv_iconst (v := 1) hx hb dX7_image_1 (by decide) ?_
  obtain ⟨s_20, e_21, hg⟩ := wrF_e hg
  refine r_put (C := RX7) (T := TX7) (N := 43) S hK hw (kM_0 hG).1 (kM_0 hG).2 rfl hinX7 tyX7_ok nmX7 12 (by decide) rfl rfl rfl rfl (hts (.fieldLink RX7 279 "SoupByRankModel" "hasImage" "Z") (by decide +kernel)) rfl e_21 dX7_image_2 (fun H locs hw => ?_)
  refine lv_iconst (v := 0) hx hb dX7_image_5 (by decide) ?_
  refine lv_istore_n (lv' := [(1, .int 0), (0, .ref (gAd G 0))]) hx hb dX7_image_6 rfl hl (by decide) rfl (fun ls hl => ?_)
  exact L7 F _ _ _ _ _ hg hw (lv_sub hl [1, 0] rfl)
set_option maxHeartbeats 4000000 in
set_option maxRecDepth 100000 in
theorem c_X7_back (l : Launch) {G : GW} (hG : isM G) {F sz : Nat} {σ σR : Sg} {r : Int32} (hg : g_X7_back F σ = some (σR, r)) : Met l yX7_back wsX7_back ({ frames := 0, cells := 0, slots := 0, locals := 0 } : Room) (va_Pc [.ref (gAd G 0)] (PX G σ sz)) (QcI G (gA G sz) σR r) 0 0 (gA G sz) := by
  refine metX (by decide) rfl (Nat.le_of_ble_eq_true rfl) ?_
  intro p e s m args below meth c ls S hr hlk hsz hA hK hw hl hmn
  have S : CallFix p m c cX7_back 2 s args wsX7_back RX7 := S
  obtain ⟨hx, hb, hml, hown, hts⟩ := id S
  have hl : lv_has ls 2 [(0, .ref (gAd G 0))] := hl
  have hinX7 : ∀ w ∈ wsX70, w ∈ wsX7_back := by decide +kernel
  have L12 : ∀ (n12 : Nat) (v1 : Int32) (σ : Sg) (H : Heap) (locs : List Loc) (ls : Array Slot) (hg : g_X7_back_l12 F n12 v1 σ = some (σR, r)) (hw : XD G (gA G sz) s.heap σ H locs) (hl : lv_has ls 2 [(0, .ref (gAd G 0)), (1, .int v1)]), W p l e (headSpec wsX7_back ({ frames := 0, cells := 0, slots := 0, locals := 0 } : Room)).room s m args below meth c H locs 0 0 (MQ below (QcI G (gA G sz) σR r) args s 0 0 (gA G sz)) (F0 m 12 ls []) := by
    intro n12
    induction n12 with
    | zero => intro v1 σ H locs ls hg hw hl; exact no_e hg
    | succ n12 ih12 =>
      intro v1 σ H locs ls hg hw hl
      rw [g_X7_back_l12] at hg
      refine lv_iload_n hx hb dX7_back_12 rfl (lv_at hl 1 rfl) ?_
      refine lv_bipush (v := 12) hx hb dX7_back_13 (by decide) ?_
      refine lv_icmp_ge (tgt := 36) hx hb dX7_back_15 (by decide) (fun c_1 => ?_) (fun c_1 => ?_)
      · have hg := it_p hg c_1
        refine lv_aload_n hx hb dX7_back_36 rfl (lv_at hl 0 rfl) ?_
        refine lv_aload_n hx hb dX7_back_37 rfl (lv_at hl 0 rfl) ?_
        refine r_getr (C := RX7) (T := TX7) (N := 43) (k' := 8) S hK hw (kM_0 hG).1 (kM_0 hG).2 rfl hinX7 14 (by decide) (o := 8) rfl rfl (hts (.fieldLink RX7 35 "SoupByRankModel" "imageHeld" "[I") (by decide +kernel)) rfl dX7_back_38 ?_
        refine lv_iconst (v := 0) hx hb dX7_back_41 (by decide) ?_
        obtain ⟨h_3, x_2, e_4, hg⟩ := rdA_e hg
        refine r_iald S hK hw (kM_8 hG).1 (kM_8 hG).2 h_3 e_4 dX7_back_42 ?_
        obtain ⟨s_5, e_6, hg⟩ := wrF_e hg
        refine r_put (C := RX7) (T := TX7) (N := 43) S hK hw (kM_0 hG).1 (kM_0 hG).2 rfl hinX7 tyX7_ok nmX7 0 (by decide) rfl rfl rfl rfl (hts (.fieldLink RX7 90 "SoupByRankModel" "courtiers" "I") (by decide +kernel)) rfl e_6 dX7_back_43 (fun H locs hw => ?_)
        refine lv_aload_n hx hb dX7_back_46 rfl (lv_at hl 0 rfl) ?_
        refine lv_aload_n hx hb dX7_back_47 rfl (lv_at hl 0 rfl) ?_
        refine r_getr (C := RX7) (T := TX7) (N := 43) (k' := 8) S hK hw (kM_0 hG).1 (kM_0 hG).2 rfl hinX7 14 (by decide) (o := 8) rfl rfl (hts (.fieldLink RX7 35 "SoupByRankModel" "imageHeld" "[I") (by decide +kernel)) rfl dX7_back_48 ?_
        refine lv_iconst (v := 1) hx hb dX7_back_51 (by decide) ?_
        obtain ⟨h_8, x_7, e_9, hg⟩ := rdA_e hg
        refine r_iald S hK hw (kM_8 hG).1 (kM_8 hG).2 h_8 e_9 dX7_back_52 ?_
        obtain ⟨s_10, e_11, hg⟩ := wrF_e hg
        refine r_put (C := RX7) (T := TX7) (N := 43) S hK hw (kM_0 hG).1 (kM_0 hG).2 rfl hinX7 tyX7_ok nmX7 4 (by decide) rfl rfl rfl rfl (hts (.fieldLink RX7 97 "SoupByRankModel" "suppers" "I") (by decide +kernel)) rfl e_11 dX7_back_53 (fun H locs hw => ?_)
        refine lv_aload_n hx hb dX7_back_56 rfl (lv_at hl 0 rfl) ?_
        refine lv_aload_n hx hb dX7_back_57 rfl (lv_at hl 0 rfl) ?_
        refine r_getr (C := RX7) (T := TX7) (N := 43) (k' := 8) S hK hw (kM_0 hG).1 (kM_0 hG).2 rfl hinX7 14 (by decide) (o := 8) rfl rfl (hts (.fieldLink RX7 35 "SoupByRankModel" "imageHeld" "[I") (by decide +kernel)) rfl dX7_back_58 ?_
        refine lv_iconst (v := 2) hx hb dX7_back_61 (by decide) ?_
        obtain ⟨h_13, x_12, e_14, hg⟩ := rdA_e hg
        refine r_iald S hK hw (kM_8 hG).1 (kM_8 hG).2 h_13 e_14 dX7_back_62 ?_
        obtain ⟨s_15, e_16, hg⟩ := wrF_e hg
        refine r_put (C := RX7) (T := TX7) (N := 43) S hK hw (kM_0 hG).1 (kM_0 hG).2 rfl hinX7 tyX7_ok nmX7 5 (by decide) rfl rfl rfl rfl (hts (.fieldLink RX7 19 "SoupByRankModel" "heat" "I") (by decide +kernel)) rfl e_16 dX7_back_63 (fun H locs hw => ?_)
        refine lv_aload_n hx hb dX7_back_66 rfl (lv_at hl 0 rfl) ?_
        refine lv_aload_n hx hb dX7_back_67 rfl (lv_at hl 0 rfl) ?_
        refine r_getr (C := RX7) (T := TX7) (N := 43) (k' := 8) S hK hw (kM_0 hG).1 (kM_0 hG).2 rfl hinX7 14 (by decide) (o := 8) rfl rfl (hts (.fieldLink RX7 35 "SoupByRankModel" "imageHeld" "[I") (by decide +kernel)) rfl dX7_back_68 ?_
        refine lv_iconst (v := 3) hx hb dX7_back_71 (by decide) ?_
        obtain ⟨h_18, x_17, e_19, hg⟩ := rdA_e hg
        refine r_iald S hK hw (kM_8 hG).1 (kM_8 hG).2 h_18 e_19 dX7_back_72 ?_
        obtain ⟨s_20, e_21, hg⟩ := wrF_e hg
        refine r_put (C := RX7) (T := TX7) (N := 43) S hK hw (kM_0 hG).1 (kM_0 hG).2 rfl hinX7 tyX7_ok nmX7 11 (by decide) rfl rfl rfl rfl (hts (.fieldLink RX7 103 "SoupByRankModel" "rule" "I") (by decide +kernel)) rfl e_21 dX7_back_73 (fun H locs hw => ?_)
        refine lv_aload_n hx hb dX7_back_76 rfl (lv_at hl 0 rfl) ?_
        refine r_get (C := RX7) (T := TX7) (N := 43) S hK hw (kM_0 hG).1 (kM_0 hG).2 rfl hinX7 0 (by decide) rfl (hts (.fieldLink RX7 90 "SoupByRankModel" "courtiers" "I") (by decide +kernel)) rfl dX7_back_77 ?_
        exact r_ireti S hr hlk hw.2.2.2.2 hw hg dX7_back_80
      · have hg := it_n hg c_1
        refine lv_aload_n hx hb dX7_back_18 rfl (lv_at hl 0 rfl) ?_
        refine r_getr (C := RX7) (T := TX7) (N := 43) (k' := 3) S hK hw (kM_0 hG).1 (kM_0 hG).2 rfl hinX7 3 (by decide) (o := 3) rfl rfl (hts (.fieldLink RX7 16 "SoupByRankModel" "rows" "[I") (by decide +kernel)) rfl dX7_back_19 ?_
        refine lv_iload_n hx hb dX7_back_22 rfl (lv_at hl 1 rfl) ?_
        refine lv_aload_n hx hb dX7_back_23 rfl (lv_at hl 0 rfl) ?_
        refine r_getr (C := RX7) (T := TX7) (N := 43) (k' := 7) S hK hw (kM_0 hG).1 (kM_0 hG).2 rfl hinX7 13 (by decide) (o := 7) rfl rfl (hts (.fieldLink RX7 32 "SoupByRankModel" "imageRows" "[I") (by decide +kernel)) rfl dX7_back_24 ?_
        refine lv_iload_n hx hb dX7_back_27 rfl (lv_at hl 1 rfl) ?_
        obtain ⟨h_23, x_22, e_24, hg⟩ := rdA_e hg
        refine r_iald S hK hw (kM_7 hG).1 (kM_7 hG).2 h_23 e_24 dX7_back_28 ?_
        obtain ⟨h_26, s_25, e_27, hg⟩ := wrA_e hg
        refine r_iast S hK hw (kM_3 hG).1 (kM_3 hG).2 h_26 e_27 dX7_back_29 (fun H locs hw => ?_)
        refine lv_iinc (v := (v1 + 1)) (lv' := [(1, .int (v1 + 1)), (0, .ref (gAd G 0))]) hx hb dX7_back_30 hl (k := 1) rfl rfl (by decide) rfl (fun ls hl => ?_)
        refine lv_goto (tgt := 12) hx hb dX7_back_33 (by decide) ?_
        exact ih12 _ _ _ _ _ hg hw (lv_sub hl [1, 0] rfl)
  rw [g_X7_back] at hg
  refine lv_aload_n hx hb dX7_back_0 rfl (lv_at hl 0 rfl) ?_
  refine r_get (C := RX7) (T := TX7) (N := 43) S hK hw (kM_0 hG).1 (kM_0 hG).2 rfl hinX7 12 (by decide) rfl (hts (.fieldLink RX7 279 "SoupByRankModel" "hasImage" "Z") (by decide +kernel)) rfl dX7_back_1 ?_
  refine lv_if_ne (tgt := 10) hx hb dX7_back_4 (by decide) (fun c_28 => ?_) (fun c_28 => ?_)
  · have hg := it_n hg c_28
    refine lv_iconst (v := 0) hx hb dX7_back_10 (by decide) ?_
    refine lv_istore_n (lv' := [(1, .int 0), (0, .ref (gAd G 0))]) hx hb dX7_back_11 rfl hl (by decide) rfl (fun ls hl => ?_)
    exact L12 F _ _ _ _ _ hg hw (lv_sub hl [1, 0] rfl)
  · have hg := it_p hg c_28
    refine lv_bipush (v := (-3)) hx hb dX7_back_7 (by decide) ?_
    exact r_ireti S hr hlk hw.2.2.2.2 hw hg dX7_back_9
set_option maxHeartbeats 4000000 in
set_option maxRecDepth 100000 in
theorem c_X7_sheet (l : Launch) {G : GW} (hG : isM G) {F sz : Nat} {a1 : Int32} {a2 : Int32} {a3 : Int32} {σ σR : Sg} {r : Int32} (hg : g_X7_sheet F a1 a2 a3 σ = some (σR, r)) : Met l yX7_sheet wsX7_sheet ({ frames := 1, cells := 0, slots := 0, locals := 22 } : Room) (va_Pc [.ref (gAd G 0), .int a1, .int a2, .int a3] (PX G σ sz)) (QcI G (gA G sz) σR r) 0 0 (gA G sz) := by
  refine metX (by decide) rfl (Nat.le_of_ble_eq_true rfl) ?_
  intro p e s m args below meth c ls S hr hlk hsz hA hK hw hl hmn
  have S : CallFix p m c cX7_sheet 5 s args wsX7_sheet RX7 := S
  obtain ⟨hx, hb, hml, hown, hts⟩ := id S
  have hl : lv_has ls 5 [(0, .ref (gAd G 0)), (1, .int a1), (2, .int a2), (3, .int a3)] := hl
  have hinX7 : ∀ w ∈ wsX70, w ∈ wsX7_sheet := by decide +kernel
  have L70 : ∀ (v1 : Int32) (n70 : Nat) (v4 : Int32) (σ : Sg) (H : Heap) (locs : List Loc) (ls : Array Slot) (hg : g_X7_sheet_l70 F v1 n70 v4 σ = some (σR, r)) (hw : XD G (gA G sz) s.heap σ H locs) (hl : lv_has ls 5 [(0, .ref (gAd G 0)), (1, .int v1), (4, .int v4)]), W p l e (headSpec wsX7_sheet ({ frames := 1, cells := 0, slots := 0, locals := 22 } : Room)).room s m args below meth c H locs 0 0 (MQ below (QcI G (gA G sz) σR r) args s 0 0 (gA G sz)) (F0 m 70 ls []) := by
    intro v1
    intro n70
    induction n70 with
    | zero => intro v4 σ H locs ls hg hw hl; exact no_e hg
    | succ n70 ih70 =>
      intro v4 σ H locs ls hg hw hl
      rw [g_X7_sheet_l70] at hg
      refine lv_iload hx hb dX7_sheet_70 (lv_at hl 2 rfl) ?_
      refine lv_bipush (v := 40) hx hb dX7_sheet_72 (by decide) ?_
      refine lv_icmp_ge (tgt := 96) hx hb dX7_sheet_74 (by decide) (fun c_1 => ?_) (fun c_1 => ?_)
      · have hg := it_p hg c_1
        refine lv_iconst (v := 1) hx hb dX7_sheet_96 (by decide) ?_
        exact r_ireti S hr hlk hw.2.2.2.2 hw hg dX7_sheet_97
      · have hg := it_n hg c_1
        refine lv_aload_n hx hb dX7_sheet_77 rfl (lv_at hl 0 rfl) ?_
        refine r_getr (C := RX7) (T := TX7) (N := 43) (k' := 11) S hK hw (kM_0 hG).1 (kM_0 hG).2 rfl hinX7 17 (by decide) (o := 11) rfl rfl (hts (.fieldLink RX7 44 "SoupByRankModel" "cells" "[I") (by decide +kernel)) rfl dX7_sheet_78 ?_
        refine lv_bipush (v := 40) hx hb dX7_sheet_81 (by decide) ?_
        refine lv_iload_n hx hb dX7_sheet_83 rfl (lv_at hl 1 rfl) ?_
        refine lv_imul hx hb dX7_sheet_84 ?_
        refine lv_iload hx hb dX7_sheet_85 (lv_at hl 2 rfl) ?_
        refine lv_iadd hx hb dX7_sheet_87 ?_
        refine lv_iconst (v := 0) hx hb dX7_sheet_88 (by decide) ?_
        obtain ⟨h_3, s_2, e_4, hg⟩ := wrA_e hg
        refine r_iast S hK hw (kM_11 hG).1 (kM_11 hG).2 h_3 e_4 dX7_sheet_89 (fun H locs hw => ?_)
        refine lv_iinc (v := (v4 + 1)) (lv' := [(4, .int (v4 + 1)), (0, .ref (gAd G 0)), (1, .int v1)]) hx hb dX7_sheet_90 hl (k := 2) rfl rfl (by decide) rfl (fun ls hl => ?_)
        refine lv_goto (tgt := 70) hx hb dX7_sheet_93 (by decide) ?_
        exact ih70 _ _ _ _ _ hg hw (lv_sub hl [1, 2, 0] rfl)
  have J66 : ∀ (v1 : Int32) (u0 : Int32) (u1 : Int32) (σ : Sg) (H : Heap) (locs : List Loc) (ls : Array Slot) (hg : g_X7_sheet_b66 F v1 u0 u1 σ = some (σR, r)) (hw : XD G (gA G sz) s.heap σ H locs) (hl : lv_has ls 5 [(0, .ref (gAd G 0)), (1, .int v1)]), W p l e (headSpec wsX7_sheet ({ frames := 1, cells := 0, slots := 0, locals := 22 } : Room)).room s m args below meth c H locs 0 0 (MQ below (QcI G (gA G sz) σR r) args s 0 0 (gA G sz)) (F0 m 66 ls [.int u0, .int u1, .ref (gAd G 10)]) := by
    intro v1 u0 u1 σ H locs ls hg hw hl
    rw [g_X7_sheet_b66] at hg
    obtain ⟨h_6, s_5, e_7, hg⟩ := wrA_e hg
    refine r_iast S hK hw (kM_10 hG).1 (kM_10 hG).2 h_6 e_7 dX7_sheet_66 (fun H locs hw => ?_)
    refine lv_iconst (v := 0) hx hb dX7_sheet_67 (by decide) ?_
    refine lv_istore (lv' := [(4, .int 0), (0, .ref (gAd G 0)), (1, .int v1)]) hx hb dX7_sheet_68 hl (by decide) rfl (fun ls hl => ?_)
    exact L70 v1 F _ _ _ _ _ hg hw (lv_sub hl [1, 2, 0] rfl)
  have J44 : ∀ (v1 : Int32) (v2 : Int32) (v3 : Int32) (σ : Sg) (H : Heap) (locs : List Loc) (ls : Array Slot) (hg : g_X7_sheet_b44 F v1 v2 v3 σ = some (σR, r)) (hw : XD G (gA G sz) s.heap σ H locs) (hl : lv_has ls 5 [(0, .ref (gAd G 0)), (1, .int v1), (2, .int v2), (3, .int v3)]), W p l e (headSpec wsX7_sheet ({ frames := 1, cells := 0, slots := 0, locals := 22 } : Room)).room s m args below meth c H locs 0 0 (MQ below (QcI G (gA G sz) σR r) args s 0 0 (gA G sz)) (F0 m 44 ls []) := by
    intro v1 v2 v3 σ H locs ls hg hw hl
    rw [g_X7_sheet_b44] at hg
    refine lv_aload_n hx hb dX7_sheet_44 rfl (lv_at hl 0 rfl) ?_
    refine r_getr (C := RX7) (T := TX7) (N := 43) (k' := 9) S hK hw (kM_0 hG).1 (kM_0 hG).2 rfl hinX7 15 (by decide) (o := 9) rfl rfl (hts (.fieldLink RX7 38 "SoupByRankModel" "sheetSort" "[I") (by decide +kernel)) rfl dX7_sheet_45 ?_
    refine lv_iload_n hx hb dX7_sheet_48 rfl (lv_at hl 1 rfl) ?_
    refine lv_iload_n hx hb dX7_sheet_49 rfl (lv_at hl 2 rfl) ?_
    obtain ⟨h_9, s_8, e_10, hg⟩ := wrA_e hg
    refine r_iast S hK hw (kM_9 hG).1 (kM_9 hG).2 h_9 e_10 dX7_sheet_50 (fun H locs hw => ?_)
    refine lv_aload_n hx hb dX7_sheet_51 rfl (lv_at hl 0 rfl) ?_
    refine r_getr (C := RX7) (T := TX7) (N := 43) (k' := 10) S hK hw (kM_0 hG).1 (kM_0 hG).2 rfl hinX7 16 (by decide) (o := 10) rfl rfl (hts (.fieldLink RX7 41 "SoupByRankModel" "sheetSize" "[I") (by decide +kernel)) rfl dX7_sheet_52 ?_
    refine lv_iload_n hx hb dX7_sheet_55 rfl (lv_at hl 1 rfl) ?_
    refine lv_iload_n hx hb dX7_sheet_56 rfl (lv_at hl 2 rfl) ?_
    refine lv_iconst (v := (-1)) hx hb dX7_sheet_57 (by decide) ?_
    refine lv_icmp_ne (tgt := 65) hx hb dX7_sheet_58 (by decide) (fun c_11 => ?_) (fun c_11 => ?_)
    · have hg := it_n hg c_11
      refine lv_iload_n hx hb dX7_sheet_65 rfl (lv_at hl 3 rfl) ?_
      exact J66 v1 v3 v1 _ _ _ _ hg hw (lv_sub hl [0, 1] rfl)
    · have hg := it_p hg c_11
      refine lv_iconst (v := 0) hx hb dX7_sheet_61 (by decide) ?_
      refine lv_goto (tgt := 66) hx hb dX7_sheet_62 (by decide) ?_
      exact J66 v1 0 v1 _ _ _ _ hg hw (lv_sub hl [0, 1] rfl)
  have J32 : ∀ (v1 : Int32) (v2 : Int32) (v3 : Int32) (σ : Sg) (H : Heap) (locs : List Loc) (ls : Array Slot) (hg : g_X7_sheet_b32 F v1 v2 v3 σ = some (σR, r)) (hw : XD G (gA G sz) s.heap σ H locs) (hl : lv_has ls 5 [(0, .ref (gAd G 0)), (1, .int v1), (2, .int v2), (3, .int v3)]), W p l e (headSpec wsX7_sheet ({ frames := 1, cells := 0, slots := 0, locals := 22 } : Room)).room s m args below meth c H locs 0 0 (MQ below (QcI G (gA G sz) σR r) args s 0 0 (gA G sz)) (F0 m 32 ls []) := by
    intro v1 v2 v3 σ H locs ls hg hw hl
    rw [g_X7_sheet_b32] at hg
    refine lv_iload_n hx hb dX7_sheet_32 rfl (lv_at hl 2 rfl) ?_
    refine lv_iconst (v := (-1)) hx hb dX7_sheet_33 (by decide) ?_
    refine lv_icmp_eq (tgt := 44) hx hb dX7_sheet_34 (by decide) (fun c_12 => ?_) (fun c_12 => ?_)
    · have hg := it_p hg c_12
      exact J44 v1 v2 v3 _ _ _ _ hg hw (lv_sub hl [0, 1, 2, 3] rfl)
    · have hg := it_n hg c_12
      refine lv_iload_n hx hb dX7_sheet_37 rfl (lv_at hl 3 rfl) ?_
      refine lv_if_ge (tgt := 44) hx hb dX7_sheet_38 (by decide) (fun c_13 => ?_) (fun c_13 => ?_)
      · have hg := it_p hg c_13
        exact J44 v1 v2 v3 _ _ _ _ hg hw (lv_sub hl [0, 1, 2, 3] rfl)
      · have hg := it_n hg c_13
        refine lv_bipush (v := (-14)) hx hb dX7_sheet_41 (by decide) ?_
        exact r_ireti S hr hlk hw.2.2.2.2 hw hg dX7_sheet_43
  rw [g_X7_sheet] at hg
  refine lv_iload_n hx hb dX7_sheet_0 rfl (lv_at hl 1 rfl) ?_
  refine lv_iconst (v := 0) hx hb dX7_sheet_1 (by decide) ?_
  refine lv_iconst (v := 3) hx hb dX7_sheet_2 (by decide) ?_
  obtain ⟨s_14, x_15, h_16, hg⟩ := bnI_e hg
  refine r_iS (As := [.int a1, .int 0, .int 3]) (rest := []) S hA hK hw (c_X7_in l hG  h_16) (va_cwS 3 hts gX7_sheet_X7_in rfl rfl rfl (by decide +kernel) ⟨Nat.le_of_ble_eq_true rfl, Nat.le_of_ble_eq_true rfl⟩) rfl hl.1 (Nat.le_of_ble_eq_true rfl) dX7_sheet_3 ⟨Nat.zero_le _, Nat.zero_le _⟩ rfl (fun H locs hw => ?_)
  refine lv_if_eq (tgt := 29) hx hb dX7_sheet_6 (by decide) (fun c_17 => ?_) (fun c_17 => ?_)
  · have hg := it_p hg c_17
    refine lv_bipush (v := (-2)) hx hb dX7_sheet_29 (by decide) ?_
    exact r_ireti S hr hlk hw.2.2.2.2 hw hg dX7_sheet_31
  · have hg := it_n hg c_17
    refine lv_iload_n hx hb dX7_sheet_9 rfl (lv_at hl 2 rfl) ?_
    refine lv_iconst (v := (-1)) hx hb dX7_sheet_10 (by decide) ?_
    refine lv_iconst (v := 2) hx hb dX7_sheet_11 (by decide) ?_
    obtain ⟨s_18, x_19, h_20, hg⟩ := bnI_e hg
    refine r_iS (As := [.int a2, .int (-1), .int 2]) (rest := []) S hA hK hw (c_X7_in l hG  h_20) (va_cwS 3 hts gX7_sheet_X7_in rfl rfl rfl (by decide +kernel) ⟨Nat.le_of_ble_eq_true rfl, Nat.le_of_ble_eq_true rfl⟩) rfl hl.1 (Nat.le_of_ble_eq_true rfl) dX7_sheet_12 ⟨Nat.zero_le _, Nat.zero_le _⟩ rfl (fun H locs hw => ?_)
    refine lv_if_eq (tgt := 29) hx hb dX7_sheet_15 (by decide) (fun c_21 => ?_) (fun c_21 => ?_)
    · have hg := it_p hg c_21
      refine lv_bipush (v := (-2)) hx hb dX7_sheet_29 (by decide) ?_
      exact r_ireti S hr hlk hw.2.2.2.2 hw hg dX7_sheet_31
    · have hg := it_n hg c_21
      refine lv_iload_n hx hb dX7_sheet_18 rfl (lv_at hl 2 rfl) ?_
      refine lv_iconst (v := (-1)) hx hb dX7_sheet_19 (by decide) ?_
      refine lv_icmp_eq (tgt := 32) hx hb dX7_sheet_20 (by decide) (fun c_22 => ?_) (fun c_22 => ?_)
      · have hg := it_p hg c_22
        exact J32 a1 a2 a3 _ _ _ _ hg hw (lv_sub hl [0, 1, 2, 3] rfl)
      · have hg := it_n hg c_22
        refine lv_iload_n hx hb dX7_sheet_23 rfl (lv_at hl 3 rfl) ?_
        refine lv_bipush (v := 40) hx hb dX7_sheet_24 (by decide) ?_
        refine lv_icmp_le (tgt := 32) hx hb dX7_sheet_26 (by decide) (fun c_23 => ?_) (fun c_23 => ?_)
        · have hg := it_p hg c_23
          exact J32 a1 a2 a3 _ _ _ _ hg hw (lv_sub hl [0, 1, 2, 3] rfl)
        · have hg := it_n hg c_23
          refine lv_bipush (v := (-2)) hx hb dX7_sheet_29 (by decide) ?_
          exact r_ireti S hr hlk hw.2.2.2.2 hw hg dX7_sheet_31
set_option maxHeartbeats 4000000 in
set_option maxRecDepth 100000 in
theorem c_X7_cell (l : Launch) {G : GW} (hG : isM G) {F sz : Nat} {a1 : Int32} {a2 : Int32} {a3 : Int32} {σ σR : Sg} {r : Int32} (hg : g_X7_cell F a1 a2 a3 σ = some (σR, r)) : Met l yX7_cell wsX7_cell ({ frames := 1, cells := 0, slots := 0, locals := 22 } : Room) (va_Pc [.ref (gAd G 0), .int a1, .int a2, .int a3] (PX G σ sz)) (QcI G (gA G sz) σR r) 0 0 (gA G sz) := by
  refine metX (by decide) rfl (Nat.le_of_ble_eq_true rfl) ?_
  intro p e s m args below meth c ls S hr hlk hsz hA hK hw hl hmn
  have S : CallFix p m c cX7_cell 4 s args wsX7_cell RX7 := S
  obtain ⟨hx, hb, hml, hown, hts⟩ := id S
  have hl : lv_has ls 4 [(0, .ref (gAd G 0)), (1, .int a1), (2, .int a2), (3, .int a3)] := hl
  have hinX7 : ∀ w ∈ wsX70, w ∈ wsX7_cell := by decide +kernel
  have J84 : ∀ (u0 : Int32) (u1 : Int32) (σ : Sg) (H : Heap) (locs : List Loc) (ls : Array Slot) (hg : g_X7_cell_b84 F u0 u1 σ = some (σR, r)) (hw : XD G (gA G sz) s.heap σ H locs) (hl : lv_has ls 4 []), W p l e (headSpec wsX7_cell ({ frames := 1, cells := 0, slots := 0, locals := 22 } : Room)).room s m args below meth c H locs 0 0 (MQ below (QcI G (gA G sz) σR r) args s 0 0 (gA G sz)) (F0 m 84 ls [.int u0, .int u1, .ref (gAd G 11)]) := by
    intro u0 u1 σ H locs ls hg hw hl
    rw [g_X7_cell_b84] at hg
    obtain ⟨h_2, s_1, e_3, hg⟩ := wrA_e hg
    refine r_iast S hK hw (kM_11 hG).1 (kM_11 hG).2 h_2 e_3 dX7_cell_84 (fun H locs hw => ?_)
    refine lv_iconst (v := 1) hx hb dX7_cell_85 (by decide) ?_
    exact r_ireti S hr hlk hw.2.2.2.2 hw hg dX7_cell_86
  rw [g_X7_cell] at hg
  refine lv_iload_n hx hb dX7_cell_0 rfl (lv_at hl 1 rfl) ?_
  refine lv_iconst (v := 0) hx hb dX7_cell_1 (by decide) ?_
  refine lv_iconst (v := 3) hx hb dX7_cell_2 (by decide) ?_
  obtain ⟨s_4, x_5, h_6, hg⟩ := bnI_e hg
  refine r_iS (As := [.int a1, .int 0, .int 3]) (rest := []) S hA hK hw (c_X7_in l hG  h_6) (va_cwS 3 hts gX7_cell_X7_in rfl rfl rfl (by decide +kernel) ⟨Nat.le_of_ble_eq_true rfl, Nat.le_of_ble_eq_true rfl⟩) rfl hl.1 (Nat.le_of_ble_eq_true rfl) dX7_cell_3 ⟨Nat.zero_le _, Nat.zero_le _⟩ rfl (fun H locs hw => ?_)
  refine lv_if_ne (tgt := 12) hx hb dX7_cell_6 (by decide) (fun c_7 => ?_) (fun c_7 => ?_)
  · have hg := it_n hg c_7
    refine lv_aload_n hx hb dX7_cell_12 rfl (lv_at hl 0 rfl) ?_
    refine r_getr (C := RX7) (T := TX7) (N := 43) (k' := 9) S hK hw (kM_0 hG).1 (kM_0 hG).2 rfl hinX7 15 (by decide) (o := 9) rfl rfl (hts (.fieldLink RX7 38 "SoupByRankModel" "sheetSort" "[I") (by decide +kernel)) rfl dX7_cell_13 ?_
    refine lv_iload_n hx hb dX7_cell_16 rfl (lv_at hl 1 rfl) ?_
    obtain ⟨h_9, x_8, e_10, hg⟩ := rdA_e hg
    refine r_iald S hK hw (kM_9 hG).1 (kM_9 hG).2 h_9 e_10 dX7_cell_17 ?_
    refine lv_iconst (v := (-1)) hx hb dX7_cell_18 (by decide) ?_
    refine lv_icmp_ne (tgt := 25) hx hb dX7_cell_19 (by decide) (fun c_11 => ?_) (fun c_11 => ?_)
    · have hg := it_n hg c_11
      refine lv_iload_n hx hb dX7_cell_25 rfl (lv_at hl 2 rfl) ?_
      refine lv_iconst (v := 0) hx hb dX7_cell_26 (by decide) ?_
      refine lv_aload_n hx hb dX7_cell_27 rfl (lv_at hl 0 rfl) ?_
      refine r_getr (C := RX7) (T := TX7) (N := 43) (k' := 10) S hK hw (kM_0 hG).1 (kM_0 hG).2 rfl hinX7 16 (by decide) (o := 10) rfl rfl (hts (.fieldLink RX7 41 "SoupByRankModel" "sheetSize" "[I") (by decide +kernel)) rfl dX7_cell_28 ?_
      refine lv_iload_n hx hb dX7_cell_31 rfl (lv_at hl 1 rfl) ?_
      obtain ⟨h_13, x_12, e_14, hg⟩ := rdA_e hg
      refine r_iald S hK hw (kM_10 hG).1 (kM_10 hG).2 h_13 e_14 dX7_cell_32 ?_
      refine lv_iconst (v := 1) hx hb dX7_cell_33 (by decide) ?_
      refine lv_isub hx hb dX7_cell_34 ?_
      obtain ⟨s_15, x_16, h_17, hg⟩ := bnI_e hg
      refine r_iS (As := [.int a2, .int 0, .int (x_12 - 1)]) (rest := []) S hA hK hw (c_X7_in l hG  h_17) (va_cwS 3 hts gX7_cell_X7_in rfl rfl rfl (by decide +kernel) ⟨Nat.le_of_ble_eq_true rfl, Nat.le_of_ble_eq_true rfl⟩) rfl hl.1 (Nat.le_of_ble_eq_true rfl) dX7_cell_35 ⟨Nat.zero_le _, Nat.zero_le _⟩ rfl (fun H locs hw => ?_)
      refine lv_if_ne (tgt := 44) hx hb dX7_cell_38 (by decide) (fun c_18 => ?_) (fun c_18 => ?_)
      · have hg := it_n hg c_18
        refine lv_aload_n hx hb dX7_cell_44 rfl (lv_at hl 0 rfl) ?_
        refine r_getr (C := RX7) (T := TX7) (N := 43) (k' := 11) S hK hw (kM_0 hG).1 (kM_0 hG).2 rfl hinX7 17 (by decide) (o := 11) rfl rfl (hts (.fieldLink RX7 44 "SoupByRankModel" "cells" "[I") (by decide +kernel)) rfl dX7_cell_45 ?_
        refine lv_bipush (v := 40) hx hb dX7_cell_48 (by decide) ?_
        refine lv_iload_n hx hb dX7_cell_50 rfl (lv_at hl 1 rfl) ?_
        refine lv_imul hx hb dX7_cell_51 ?_
        refine lv_iload_n hx hb dX7_cell_52 rfl (lv_at hl 2 rfl) ?_
        refine lv_iadd hx hb dX7_cell_53 ?_
        refine lv_aload_n hx hb dX7_cell_54 rfl (lv_at hl 0 rfl) ?_
        refine r_getr (C := RX7) (T := TX7) (N := 43) (k' := 9) S hK hw (kM_0 hG).1 (kM_0 hG).2 rfl hinX7 15 (by decide) (o := 9) rfl rfl (hts (.fieldLink RX7 38 "SoupByRankModel" "sheetSort" "[I") (by decide +kernel)) rfl dX7_cell_55 ?_
        refine lv_iload_n hx hb dX7_cell_58 rfl (lv_at hl 1 rfl) ?_
        obtain ⟨h_20, x_19, e_21, hg⟩ := rdA_e hg
        refine r_iald S hK hw (kM_9 hG).1 (kM_9 hG).2 h_20 e_21 dX7_cell_59 ?_
        refine lv_if_ne (tgt := 68) hx hb dX7_cell_60 (by decide) (fun c_22 => ?_) (fun c_22 => ?_)
        · have hg := it_n hg c_22
          refine lv_aload_n hx hb dX7_cell_68 rfl (lv_at hl 0 rfl) ?_
          refine r_getr (C := RX7) (T := TX7) (N := 43) (k' := 9) S hK hw (kM_0 hG).1 (kM_0 hG).2 rfl hinX7 15 (by decide) (o := 9) rfl rfl (hts (.fieldLink RX7 38 "SoupByRankModel" "sheetSort" "[I") (by decide +kernel)) rfl dX7_cell_69 ?_
          refine lv_iload_n hx hb dX7_cell_72 rfl (lv_at hl 1 rfl) ?_
          obtain ⟨h_24, x_23, e_25, hg⟩ := rdA_e hg
          refine r_iald S hK hw (kM_9 hG).1 (kM_9 hG).2 h_24 e_25 dX7_cell_73 ?_
          refine lv_iconst (v := 1) hx hb dX7_cell_74 (by decide) ?_
          refine lv_icmp_ne (tgt := 83) hx hb dX7_cell_75 (by decide) (fun c_26 => ?_) (fun c_26 => ?_)
          · have hg := it_n hg c_26
            refine lv_iload_n hx hb dX7_cell_83 rfl (lv_at hl 3 rfl) ?_
            exact J84 a3 ((40 * a1) + a2) _ _ _ _ hg hw (lv_sub hl [] rfl)
          · have hg := it_p hg c_26
            refine lv_iload_n hx hb dX7_cell_78 rfl (lv_at hl 3 rfl) ?_
            refine lv_i2s (v := (Int16.toInt32 (Int32.toInt16 a3))) hx hb dX7_cell_79 rfl ?_
            refine lv_goto (tgt := 84) hx hb dX7_cell_80 (by decide) ?_
            exact J84 (Int16.toInt32 (Int32.toInt16 a3)) ((40 * a1) + a2) _ _ _ _ hg hw (lv_sub hl [] rfl)
        · have hg := it_p hg c_22
          refine lv_iload_n hx hb dX7_cell_63 rfl (lv_at hl 3 rfl) ?_
          refine lv_i2b (v := (Int8.toInt32 (Int32.toInt8 a3))) hx hb dX7_cell_64 rfl ?_
          refine lv_goto (tgt := 84) hx hb dX7_cell_65 (by decide) ?_
          exact J84 (Int8.toInt32 (Int32.toInt8 a3)) ((40 * a1) + a2) _ _ _ _ hg hw (lv_sub hl [] rfl)
      · have hg := it_p hg c_18
        refine lv_bipush (v := (-12)) hx hb dX7_cell_41 (by decide) ?_
        exact r_ireti S hr hlk hw.2.2.2.2 hw hg dX7_cell_43
    · have hg := it_p hg c_11
      refine lv_bipush (v := (-11)) hx hb dX7_cell_22 (by decide) ?_
      exact r_ireti S hr hlk hw.2.2.2.2 hw hg dX7_cell_24
  · have hg := it_p hg c_7
    refine lv_bipush (v := (-2)) hx hb dX7_cell_9 (by decide) ?_
    exact r_ireti S hr hlk hw.2.2.2.2 hw hg dX7_cell_11
set_option maxHeartbeats 4000000 in
set_option maxRecDepth 100000 in
theorem c_X7_copy (l : Launch) {G : GW} (hG : isM G) {F sz : Nat} {a1 : Int32} {a2 : Int32} {a3 : Int32} {a4 : Int32} {a5 : Int32} {σ σR : Sg} {r : Int32} (hg : g_X7_copy F a1 a2 a3 a4 a5 σ = some (σR, r)) : Met l yX7_copy wsX7_copy ({ frames := 1, cells := 0, slots := 0, locals := 22 } : Room) (va_Pc [.ref (gAd G 0), .int a1, .int a2, .int a3, .int a4, .int a5] (PX G σ sz)) (QcI G (gA G sz) σR r) 0 0 (gA G sz) := by
  refine metX (by decide) rfl (Nat.le_of_ble_eq_true rfl) ?_
  intro p e s m args below meth c ls S hr hlk hsz hA hK hw hl hmn
  have S : CallFix p m c cX7_copy 10 s args wsX7_copy RX7 := S
  obtain ⟨hx, hb, hml, hown, hts⟩ := id S
  have hl : lv_has ls 10 [(0, .ref (gAd G 0)), (1, .int a1), (2, .int a2), (3, .int a3), (4, .int a4), (5, .int a5)] := hl
  have hinX7 : ∀ w ∈ wsX70, w ∈ wsX7_copy := by decide +kernel
  have L147 : ∀ (v5 : Int32) (v6 : Int32) (v7 : Int32) (n147 : Nat) (v8 : Int32) (σ : Sg) (H : Heap) (locs : List Loc) (ls : Array Slot) (hg : g_X7_copy_l147 F v5 v6 v7 n147 v8 σ = some (σR, r)) (hw : XD G (gA G sz) s.heap σ H locs) (hl : lv_has ls 10 [(0, .ref (gAd G 0)), (5, .int v5), (6, .int v6), (7, .int v7), (8, .int v8)]), W p l e (headSpec wsX7_copy ({ frames := 1, cells := 0, slots := 0, locals := 22 } : Room)).room s m args below meth c H locs 0 0 (MQ below (QcI G (gA G sz) σR r) args s 0 0 (gA G sz)) (F0 m 147 ls []) := by
    intro v5 v6 v7
    intro n147
    induction n147 with
    | zero => intro v8 σ H locs ls hg hw hl; exact no_e hg
    | succ n147 ih147 =>
      have J173 : ∀ (v8 : Int32) (u0 : Int32) (σ : Sg) (H : Heap) (locs : List Loc) (ls : Array Slot) (hg : g_X7_copy_b173 F (fun v8_ σ_ => g_X7_copy_l147 F v5 v6 v7 n147 v8_ σ_) v5 v6 v7 v8 u0 σ = some (σR, r)) (hw : XD G (gA G sz) s.heap σ H locs) (hl : lv_has ls 10 [(0, .ref (gAd G 0)), (5, .int v5), (6, .int v6), (7, .int v7), (8, .int v8)]), W p l e (headSpec wsX7_copy ({ frames := 1, cells := 0, slots := 0, locals := 22 } : Room)).room s m args below meth c H locs 0 0 (MQ below (QcI G (gA G sz) σR r) args s 0 0 (gA G sz)) (F0 m 173 ls [.int u0]) := by
        intro v8 u0 σ H locs ls hg hw hl
        rw [g_X7_copy_b173] at hg
        refine lv_istore (lv' := [(9, .int u0), (0, .ref (gAd G 0)), (5, .int v5), (6, .int v6), (7, .int v7), (8, .int v8)]) hx hb dX7_copy_173 hl (by decide) rfl (fun ls hl => ?_)
        refine lv_aload_n hx hb dX7_copy_175 rfl (lv_at hl 1 rfl) ?_
        refine r_getr (C := RX7) (T := TX7) (N := 43) (k' := 11) S hK hw (kM_0 hG).1 (kM_0 hG).2 rfl hinX7 17 (by decide) (o := 11) rfl rfl (hts (.fieldLink RX7 44 "SoupByRankModel" "cells" "[I") (by decide +kernel)) rfl dX7_copy_176 ?_
        refine lv_iload hx hb dX7_copy_179 (lv_at hl 4 rfl) ?_
        refine lv_iload hx hb dX7_copy_181 (lv_at hl 0 rfl) ?_
        refine lv_iadd hx hb dX7_copy_183 ?_
        refine lv_aload_n hx hb dX7_copy_184 rfl (lv_at hl 1 rfl) ?_
        refine r_getr (C := RX7) (T := TX7) (N := 43) (k' := 11) S hK hw (kM_0 hG).1 (kM_0 hG).2 rfl hinX7 17 (by decide) (o := 11) rfl rfl (hts (.fieldLink RX7 44 "SoupByRankModel" "cells" "[I") (by decide +kernel)) rfl dX7_copy_185 ?_
        refine lv_iload hx hb dX7_copy_188 (lv_at hl 3 rfl) ?_
        refine lv_iload hx hb dX7_copy_190 (lv_at hl 0 rfl) ?_
        refine lv_iadd hx hb dX7_copy_192 ?_
        obtain ⟨h_2, x_1, e_3, hg⟩ := rdA_e hg
        refine r_iald S hK hw (kM_11 hG).1 (kM_11 hG).2 h_2 e_3 dX7_copy_193 ?_
        obtain ⟨h_5, s_4, e_6, hg⟩ := wrA_e hg
        refine r_iast S hK hw (kM_11 hG).1 (kM_11 hG).2 h_5 e_6 dX7_copy_194 (fun H locs hw => ?_)
        refine lv_iinc (v := (v8 + 1)) (lv' := [(8, .int (v8 + 1)), (9, .int u0), (0, .ref (gAd G 0)), (5, .int v5), (6, .int v6), (7, .int v7)]) hx hb dX7_copy_195 hl (k := 5) rfl rfl (by decide) rfl (fun ls hl => ?_)
        refine lv_goto (tgt := 147) hx hb dX7_copy_198 (by decide) ?_
        exact ih147 _ _ _ _ _ hg hw (lv_sub hl [2, 3, 4, 5, 0] rfl)
      intro v8 σ H locs ls hg hw hl
      rw [g_X7_copy_l147] at hg
      refine lv_iload hx hb dX7_copy_147 (lv_at hl 4 rfl) ?_
      refine lv_iload hx hb dX7_copy_149 (lv_at hl 1 rfl) ?_
      refine lv_icmp_ge (tgt := 201) hx hb dX7_copy_151 (by decide) (fun c_7 => ?_) (fun c_7 => ?_)
      · have hg := it_p hg c_7
        refine lv_iload hx hb dX7_copy_201 (lv_at hl 1 rfl) ?_
        exact r_ireti S hr hlk hw.2.2.2.2 hw hg dX7_copy_203
      · have hg := it_n hg c_7
        refine lv_iload hx hb dX7_copy_154 (lv_at hl 2 rfl) ?_
        refine lv_iload hx hb dX7_copy_156 (lv_at hl 3 rfl) ?_
        refine lv_icmp_ge (tgt := 171) hx hb dX7_copy_158 (by decide) (fun c_8 => ?_) (fun c_8 => ?_)
        · have hg := it_p hg c_8
          refine lv_iload hx hb dX7_copy_171 (lv_at hl 4 rfl) ?_
          exact J173 v8 v8 _ _ _ _ hg hw (lv_sub hl [0, 1, 2, 3, 4] rfl)
        · have hg := it_n hg c_8
          refine lv_iload hx hb dX7_copy_161 (lv_at hl 1 rfl) ?_
          refine lv_iconst (v := 1) hx hb dX7_copy_163 (by decide) ?_
          refine lv_isub hx hb dX7_copy_164 ?_
          refine lv_iload hx hb dX7_copy_165 (lv_at hl 4 rfl) ?_
          refine lv_isub hx hb dX7_copy_167 ?_
          refine lv_goto (tgt := 173) hx hb dX7_copy_168 (by decide) ?_
          exact J173 v8 ((v5 - 1) - v8) _ _ _ _ hg hw (lv_sub hl [0, 1, 2, 3, 4] rfl)
  rw [g_X7_copy] at hg
  refine lv_iload_n hx hb dX7_copy_0 rfl (lv_at hl 1 rfl) ?_
  refine lv_iconst (v := 0) hx hb dX7_copy_1 (by decide) ?_
  refine lv_iconst (v := 3) hx hb dX7_copy_2 (by decide) ?_
  obtain ⟨s_9, x_10, h_11, hg⟩ := bnI_e hg
  refine r_iS (As := [.int a1, .int 0, .int 3]) (rest := []) S hA hK hw (c_X7_in l hG  h_11) (va_cwS 3 hts gX7_copy_X7_in rfl rfl rfl (by decide +kernel) ⟨Nat.le_of_ble_eq_true rfl, Nat.le_of_ble_eq_true rfl⟩) rfl hl.1 (Nat.le_of_ble_eq_true rfl) dX7_copy_3 ⟨Nat.zero_le _, Nat.zero_le _⟩ rfl (fun H locs hw => ?_)
  refine lv_if_eq (tgt := 18) hx hb dX7_copy_6 (by decide) (fun c_12 => ?_) (fun c_12 => ?_)
  · have hg := it_p hg c_12
    refine lv_bipush (v := (-2)) hx hb dX7_copy_18 (by decide) ?_
    exact r_ireti S hr hlk hw.2.2.2.2 hw hg dX7_copy_20
  · have hg := it_n hg c_12
    refine lv_iload_n hx hb dX7_copy_9 rfl (lv_at hl 3 rfl) ?_
    refine lv_iconst (v := 0) hx hb dX7_copy_10 (by decide) ?_
    refine lv_iconst (v := 3) hx hb dX7_copy_11 (by decide) ?_
    obtain ⟨s_13, x_14, h_15, hg⟩ := bnI_e hg
    refine r_iS (As := [.int a3, .int 0, .int 3]) (rest := []) S hA hK hw (c_X7_in l hG  h_15) (va_cwS 3 hts gX7_copy_X7_in rfl rfl rfl (by decide +kernel) ⟨Nat.le_of_ble_eq_true rfl, Nat.le_of_ble_eq_true rfl⟩) rfl hl.1 (Nat.le_of_ble_eq_true rfl) dX7_copy_12 ⟨Nat.zero_le _, Nat.zero_le _⟩ rfl (fun H locs hw => ?_)
    refine lv_if_ne (tgt := 21) hx hb dX7_copy_15 (by decide) (fun c_16 => ?_) (fun c_16 => ?_)
    · have hg := it_n hg c_16
      refine lv_aload_n hx hb dX7_copy_21 rfl (lv_at hl 0 rfl) ?_
      refine r_getr (C := RX7) (T := TX7) (N := 43) (k' := 9) S hK hw (kM_0 hG).1 (kM_0 hG).2 rfl hinX7 15 (by decide) (o := 9) rfl rfl (hts (.fieldLink RX7 38 "SoupByRankModel" "sheetSort" "[I") (by decide +kernel)) rfl dX7_copy_22 ?_
      refine lv_iload_n hx hb dX7_copy_25 rfl (lv_at hl 1 rfl) ?_
      obtain ⟨h_18, x_17, e_19, hg⟩ := rdA_e hg
      refine r_iald S hK hw (kM_9 hG).1 (kM_9 hG).2 h_18 e_19 dX7_copy_26 ?_
      refine lv_iconst (v := (-1)) hx hb dX7_copy_27 (by decide) ?_
      refine lv_icmp_eq (tgt := 41) hx hb dX7_copy_28 (by decide) (fun c_20 => ?_) (fun c_20 => ?_)
      · have hg := it_p hg c_20
        refine lv_bipush (v := (-11)) hx hb dX7_copy_41 (by decide) ?_
        exact r_ireti S hr hlk hw.2.2.2.2 hw hg dX7_copy_43
      · have hg := it_n hg c_20
        refine lv_aload_n hx hb dX7_copy_31 rfl (lv_at hl 0 rfl) ?_
        refine r_getr (C := RX7) (T := TX7) (N := 43) (k' := 9) S hK hw (kM_0 hG).1 (kM_0 hG).2 rfl hinX7 15 (by decide) (o := 9) rfl rfl (hts (.fieldLink RX7 38 "SoupByRankModel" "sheetSort" "[I") (by decide +kernel)) rfl dX7_copy_32 ?_
        refine lv_iload_n hx hb dX7_copy_35 rfl (lv_at hl 3 rfl) ?_
        obtain ⟨h_22, x_21, e_23, hg⟩ := rdA_e hg
        refine r_iald S hK hw (kM_9 hG).1 (kM_9 hG).2 h_22 e_23 dX7_copy_36 ?_
        refine lv_iconst (v := (-1)) hx hb dX7_copy_37 (by decide) ?_
        refine lv_icmp_ne (tgt := 44) hx hb dX7_copy_38 (by decide) (fun c_24 => ?_) (fun c_24 => ?_)
        · have hg := it_n hg c_24
          refine lv_aload_n hx hb dX7_copy_44 rfl (lv_at hl 0 rfl) ?_
          refine r_getr (C := RX7) (T := TX7) (N := 43) (k' := 9) S hK hw (kM_0 hG).1 (kM_0 hG).2 rfl hinX7 15 (by decide) (o := 9) rfl rfl (hts (.fieldLink RX7 38 "SoupByRankModel" "sheetSort" "[I") (by decide +kernel)) rfl dX7_copy_45 ?_
          refine lv_iload_n hx hb dX7_copy_48 rfl (lv_at hl 1 rfl) ?_
          obtain ⟨h_26, x_25, e_27, hg⟩ := rdA_e hg
          refine r_iald S hK hw (kM_9 hG).1 (kM_9 hG).2 h_26 e_27 dX7_copy_49 ?_
          refine lv_aload_n hx hb dX7_copy_50 rfl (lv_at hl 0 rfl) ?_
          refine r_getr (C := RX7) (T := TX7) (N := 43) (k' := 9) S hK hw (kM_0 hG).1 (kM_0 hG).2 rfl hinX7 15 (by decide) (o := 9) rfl rfl (hts (.fieldLink RX7 38 "SoupByRankModel" "sheetSort" "[I") (by decide +kernel)) rfl dX7_copy_51 ?_
          refine lv_iload_n hx hb dX7_copy_54 rfl (lv_at hl 3 rfl) ?_
          obtain ⟨h_29, x_28, e_30, hg⟩ := rdA_e hg
          refine r_iald S hK hw (kM_9 hG).1 (kM_9 hG).2 h_29 e_30 dX7_copy_55 ?_
          refine lv_icmp_eq (tgt := 62) hx hb dX7_copy_56 (by decide) (fun c_31 => ?_) (fun c_31 => ?_)
          · have hg := it_p hg c_31
            refine lv_iload hx hb dX7_copy_62 (lv_at hl 5 rfl) ?_
            refine lv_if_lt (tgt := 124) hx hb dX7_copy_64 (by decide) (fun c_32 => ?_) (fun c_32 => ?_)
            · have hg := it_p hg c_32
              refine lv_bipush (v := (-12)) hx hb dX7_copy_124 (by decide) ?_
              exact r_ireti S hr hlk hw.2.2.2.2 hw hg dX7_copy_126
            · have hg := it_n hg c_32
              refine lv_iload_n hx hb dX7_copy_67 rfl (lv_at hl 2 rfl) ?_
              refine lv_if_lt (tgt := 124) hx hb dX7_copy_68 (by decide) (fun c_33 => ?_) (fun c_33 => ?_)
              · have hg := it_p hg c_33
                refine lv_bipush (v := (-12)) hx hb dX7_copy_124 (by decide) ?_
                exact r_ireti S hr hlk hw.2.2.2.2 hw hg dX7_copy_126
              · have hg := it_n hg c_33
                refine lv_iload hx hb dX7_copy_71 (lv_at hl 4 rfl) ?_
                refine lv_if_lt (tgt := 124) hx hb dX7_copy_73 (by decide) (fun c_34 => ?_) (fun c_34 => ?_)
                · have hg := it_p hg c_34
                  refine lv_bipush (v := (-12)) hx hb dX7_copy_124 (by decide) ?_
                  exact r_ireti S hr hlk hw.2.2.2.2 hw hg dX7_copy_126
                · have hg := it_n hg c_34
                  refine lv_iload_n hx hb dX7_copy_76 rfl (lv_at hl 2 rfl) ?_
                  refine lv_aload_n hx hb dX7_copy_77 rfl (lv_at hl 0 rfl) ?_
                  refine r_getr (C := RX7) (T := TX7) (N := 43) (k' := 10) S hK hw (kM_0 hG).1 (kM_0 hG).2 rfl hinX7 16 (by decide) (o := 10) rfl rfl (hts (.fieldLink RX7 41 "SoupByRankModel" "sheetSize" "[I") (by decide +kernel)) rfl dX7_copy_78 ?_
                  refine lv_iload_n hx hb dX7_copy_81 rfl (lv_at hl 1 rfl) ?_
                  obtain ⟨h_36, x_35, e_37, hg⟩ := rdA_e hg
                  refine r_iald S hK hw (kM_10 hG).1 (kM_10 hG).2 h_36 e_37 dX7_copy_82 ?_
                  refine lv_icmp_gt (tgt := 124) hx hb dX7_copy_83 (by decide) (fun c_38 => ?_) (fun c_38 => ?_)
                  · have hg := it_p hg c_38
                    refine lv_bipush (v := (-12)) hx hb dX7_copy_124 (by decide) ?_
                    exact r_ireti S hr hlk hw.2.2.2.2 hw hg dX7_copy_126
                  · have hg := it_n hg c_38
                    refine lv_iload hx hb dX7_copy_86 (lv_at hl 4 rfl) ?_
                    refine lv_aload_n hx hb dX7_copy_88 rfl (lv_at hl 0 rfl) ?_
                    refine r_getr (C := RX7) (T := TX7) (N := 43) (k' := 10) S hK hw (kM_0 hG).1 (kM_0 hG).2 rfl hinX7 16 (by decide) (o := 10) rfl rfl (hts (.fieldLink RX7 41 "SoupByRankModel" "sheetSize" "[I") (by decide +kernel)) rfl dX7_copy_89 ?_
                    refine lv_iload_n hx hb dX7_copy_92 rfl (lv_at hl 3 rfl) ?_
                    obtain ⟨h_40, x_39, e_41, hg⟩ := rdA_e hg
                    refine r_iald S hK hw (kM_10 hG).1 (kM_10 hG).2 h_40 e_41 dX7_copy_93 ?_
                    refine lv_icmp_gt (tgt := 124) hx hb dX7_copy_94 (by decide) (fun c_42 => ?_) (fun c_42 => ?_)
                    · have hg := it_p hg c_42
                      refine lv_bipush (v := (-12)) hx hb dX7_copy_124 (by decide) ?_
                      exact r_ireti S hr hlk hw.2.2.2.2 hw hg dX7_copy_126
                    · have hg := it_n hg c_42
                      refine lv_iload hx hb dX7_copy_97 (lv_at hl 5 rfl) ?_
                      refine lv_aload_n hx hb dX7_copy_99 rfl (lv_at hl 0 rfl) ?_
                      refine r_getr (C := RX7) (T := TX7) (N := 43) (k' := 10) S hK hw (kM_0 hG).1 (kM_0 hG).2 rfl hinX7 16 (by decide) (o := 10) rfl rfl (hts (.fieldLink RX7 41 "SoupByRankModel" "sheetSize" "[I") (by decide +kernel)) rfl dX7_copy_100 ?_
                      refine lv_iload_n hx hb dX7_copy_103 rfl (lv_at hl 1 rfl) ?_
                      obtain ⟨h_44, x_43, e_45, hg⟩ := rdA_e hg
                      refine r_iald S hK hw (kM_10 hG).1 (kM_10 hG).2 h_44 e_45 dX7_copy_104 ?_
                      refine lv_iload_n hx hb dX7_copy_105 rfl (lv_at hl 2 rfl) ?_
                      refine lv_isub hx hb dX7_copy_106 ?_
                      refine lv_icmp_gt (tgt := 124) hx hb dX7_copy_107 (by decide) (fun c_46 => ?_) (fun c_46 => ?_)
                      · have hg := it_p hg c_46
                        refine lv_bipush (v := (-12)) hx hb dX7_copy_124 (by decide) ?_
                        exact r_ireti S hr hlk hw.2.2.2.2 hw hg dX7_copy_126
                      · have hg := it_n hg c_46
                        refine lv_iload hx hb dX7_copy_110 (lv_at hl 5 rfl) ?_
                        refine lv_aload_n hx hb dX7_copy_112 rfl (lv_at hl 0 rfl) ?_
                        refine r_getr (C := RX7) (T := TX7) (N := 43) (k' := 10) S hK hw (kM_0 hG).1 (kM_0 hG).2 rfl hinX7 16 (by decide) (o := 10) rfl rfl (hts (.fieldLink RX7 41 "SoupByRankModel" "sheetSize" "[I") (by decide +kernel)) rfl dX7_copy_113 ?_
                        refine lv_iload_n hx hb dX7_copy_116 rfl (lv_at hl 3 rfl) ?_
                        obtain ⟨h_48, x_47, e_49, hg⟩ := rdA_e hg
                        refine r_iald S hK hw (kM_10 hG).1 (kM_10 hG).2 h_48 e_49 dX7_copy_117 ?_
                        refine lv_iload hx hb dX7_copy_118 (lv_at hl 4 rfl) ?_
                        refine lv_isub hx hb dX7_copy_120 ?_
                        refine lv_icmp_le (tgt := 127) hx hb dX7_copy_121 (by decide) (fun c_50 => ?_) (fun c_50 => ?_)
                        · have hg := it_p hg c_50
                          refine lv_bipush (v := 40) hx hb dX7_copy_127 (by decide) ?_
                          refine lv_iload_n hx hb dX7_copy_129 rfl (lv_at hl 1 rfl) ?_
                          refine lv_imul hx hb dX7_copy_130 ?_
                          refine lv_iload_n hx hb dX7_copy_131 rfl (lv_at hl 2 rfl) ?_
                          refine lv_iadd hx hb dX7_copy_132 ?_
                          refine lv_istore (lv' := [(6, .int ((40 * a1) + a2)), (0, .ref (gAd G 0)), (1, .int a1), (2, .int a2), (3, .int a3), (4, .int a4), (5, .int a5)]) hx hb dX7_copy_133 hl (by decide) rfl (fun ls hl => ?_)
                          refine lv_bipush (v := 40) hx hb dX7_copy_135 (by decide) ?_
                          refine lv_iload_n hx hb dX7_copy_137 rfl (lv_at hl 4 rfl) ?_
                          refine lv_imul hx hb dX7_copy_138 ?_
                          refine lv_iload hx hb dX7_copy_139 (lv_at hl 5 rfl) ?_
                          refine lv_iadd hx hb dX7_copy_141 ?_
                          refine lv_istore (lv' := [(7, .int ((40 * a3) + a4)), (6, .int ((40 * a1) + a2)), (0, .ref (gAd G 0)), (1, .int a1), (2, .int a2), (3, .int a3), (4, .int a4), (5, .int a5)]) hx hb dX7_copy_142 hl (by decide) rfl (fun ls hl => ?_)
                          refine lv_iconst (v := 0) hx hb dX7_copy_144 (by decide) ?_
                          refine lv_istore (lv' := [(8, .int 0), (7, .int ((40 * a3) + a4)), (6, .int ((40 * a1) + a2)), (0, .ref (gAd G 0)), (1, .int a1), (2, .int a2), (3, .int a3), (4, .int a4), (5, .int a5)]) hx hb dX7_copy_145 hl (by decide) rfl (fun ls hl => ?_)
                          exact L147 a5 ((40 * a1) + a2) ((40 * a3) + a4) F _ _ _ _ _ hg hw (lv_sub hl [3, 8, 2, 1, 0] rfl)
                        · have hg := it_n hg c_50
                          refine lv_bipush (v := (-12)) hx hb dX7_copy_124 (by decide) ?_
                          exact r_ireti S hr hlk hw.2.2.2.2 hw hg dX7_copy_126
          · have hg := it_n hg c_31
            refine lv_bipush (v := (-13)) hx hb dX7_copy_59 (by decide) ?_
            exact r_ireti S hr hlk hw.2.2.2.2 hw hg dX7_copy_61
        · have hg := it_p hg c_24
          refine lv_bipush (v := (-11)) hx hb dX7_copy_41 (by decide) ?_
          exact r_ireti S hr hlk hw.2.2.2.2 hw hg dX7_copy_43
    · have hg := it_p hg c_16
      refine lv_bipush (v := (-2)) hx hb dX7_copy_18 (by decide) ?_
      exact r_ireti S hr hlk hw.2.2.2.2 hw hg dX7_copy_20
set_option maxHeartbeats 4000000 in
set_option maxRecDepth 100000 in
theorem c_X7_courtBy (l : Launch) {G : GW} (hG : isM G) {F sz : Nat} {a1 : Int32} {a2 : Int32} {a3 : Int32} {a4 : Int32} {σ σR : Sg} {r : Int32} (hg : g_X7_courtBy F a1 a2 a3 a4 σ = some (σR, r)) : Met l yX7_courtBy wsX7_courtBy ({ frames := 2, cells := 0, slots := 0, locals := 44 } : Room) (va_Pc [.ref (gAd G 0), .int a1, .int a2, .int a3, .int a4] (PX G σ sz)) (QcI G (gA G sz) σR r) 0 0 (gA G sz) := by
  refine metX (by decide) rfl (Nat.le_of_ble_eq_true rfl) ?_
  intro p e s m args below meth c ls S hr hlk hsz hA hK hw hl hmn
  have S : CallFix p m c cX7_courtBy 9 s args wsX7_courtBy RX7 := S
  obtain ⟨hx, hb, hml, hown, hts⟩ := id S
  have hl : lv_has ls 9 [(0, .ref (gAd G 0)), (1, .int a1), (2, .int a2), (3, .int a3), (4, .int a4)] := hl
  have hinX7 : ∀ w ∈ wsX70, w ∈ wsX7_courtBy := by decide +kernel
  have L64 : ∀ (v1 : Int32) (v3 : Int32) (v4 : Int32) (n64 : Nat) (v5 : Int32) (v6 : Int32) (σ : Sg) (H : Heap) (locs : List Loc) (ls : Array Slot) (hg : g_X7_courtBy_l64 F v1 v3 v4 n64 v5 v6 σ = some (σR, r)) (hw : XD G (gA G sz) s.heap σ H locs) (hl : lv_has ls 9 [(0, .ref (gAd G 0)), (1, .int v1), (3, .int v3), (4, .int v4), (5, .int v5), (6, .int v6)]), W p l e (headSpec wsX7_courtBy ({ frames := 2, cells := 0, slots := 0, locals := 44 } : Room)).room s m args below meth c H locs 0 0 (MQ below (QcI G (gA G sz) σR r) args s 0 0 (gA G sz)) (F0 m 64 ls []) := by
    intro v1 v3 v4
    intro n64
    induction n64 with
    | zero => intro v5 v6 σ H locs ls hg hw hl; exact no_e hg
    | succ n64 ih64 =>
      have J144 : ∀ (v6 : Int32) (u0 : Int32) (u1 : Int32) (σ : Sg) (H : Heap) (locs : List Loc) (ls : Array Slot) (hg : g_X7_courtBy_b144 F (fun v5_ v6_ σ_ => g_X7_courtBy_l64 F v1 v3 v4 n64 v5_ v6_ σ_) v1 v3 v4 v6 u0 u1 σ = some (σR, r)) (hw : XD G (gA G sz) s.heap σ H locs) (hl : lv_has ls 9 [(0, .ref (gAd G 0)), (1, .int v1), (3, .int v3), (4, .int v4), (6, .int v6)]), W p l e (headSpec wsX7_courtBy ({ frames := 2, cells := 0, slots := 0, locals := 44 } : Room)).room s m args below meth c H locs 0 0 (MQ below (QcI G (gA G sz) σR r) args s 0 0 (gA G sz)) (F0 m 144 ls [.int u0, .int u1]) := by
        intro v6 u0 u1 σ H locs ls hg hw hl
        rw [g_X7_courtBy_b144] at hg
        refine lv_iadd hx hb dX7_courtBy_144 ?_
        refine lv_istore (lv' := [(5, .int (u1 + u0)), (0, .ref (gAd G 0)), (1, .int v1), (3, .int v3), (4, .int v4), (6, .int v6)]) hx hb dX7_courtBy_145 hl (by decide) rfl (fun ls hl => ?_)
        refine lv_iinc (v := (v6 + 1)) (lv' := [(6, .int (v6 + 1)), (5, .int (u1 + u0)), (0, .ref (gAd G 0)), (1, .int v1), (3, .int v3), (4, .int v4)]) hx hb dX7_courtBy_147 hl (k := 5) rfl rfl (by decide) rfl (fun ls hl => ?_)
        refine lv_goto (tgt := 64) hx hb dX7_courtBy_150 (by decide) ?_
        exact ih64 _ _ _ _ _ _ hg hw (lv_sub hl [2, 3, 4, 5, 1, 0] rfl)
      intro v5 v6 σ H locs ls hg hw hl
      rw [g_X7_courtBy_l64] at hg
      refine lv_iload hx hb dX7_courtBy_64 (lv_at hl 5 rfl) ?_
      refine lv_iload hx hb dX7_courtBy_66 (lv_at hl 3 rfl) ?_
      refine lv_icmp_ge (tgt := 153) hx hb dX7_courtBy_68 (by decide) (fun c_1 => ?_) (fun c_1 => ?_)
      · have hg := it_p hg c_1
        refine lv_iload hx hb dX7_courtBy_153 (lv_at hl 4 rfl) ?_
        exact r_ireti S hr hlk hw.2.2.2.2 hw hg dX7_courtBy_155
      · have hg := it_n hg c_1
        refine lv_iload_n hx hb dX7_courtBy_71 rfl (lv_at hl 2 rfl) ?_
        refine lv_iconst (v := 2) hx hb dX7_courtBy_72 (by decide) ?_
        refine lv_iload hx hb dX7_courtBy_73 (lv_at hl 5 rfl) ?_
        refine lv_imul hx hb dX7_courtBy_75 ?_
        refine lv_iadd hx hb dX7_courtBy_76 ?_
        refine lv_istore (lv' := [(7, .int (v3 + (2 * v6))), (0, .ref (gAd G 0)), (1, .int v1), (3, .int v3), (4, .int v4), (5, .int v5), (6, .int v6)]) hx hb dX7_courtBy_77 hl (by decide) rfl (fun ls hl => ?_)
        refine lv_iload_n hx hb dX7_courtBy_79 rfl (lv_at hl 3 rfl) ?_
        refine lv_if_lt (tgt := 102) hx hb dX7_courtBy_80 (by decide) (fun c_2 => ?_) (fun c_2 => ?_)
        · have hg := it_p hg c_2
          refine lv_bipush (v := (-12)) hx hb dX7_courtBy_102 (by decide) ?_
          exact r_ireti S hr hlk hw.2.2.2.2 hw hg dX7_courtBy_104
        · have hg := it_n hg c_2
          refine lv_iload hx hb dX7_courtBy_83 (lv_at hl 0 rfl) ?_
          refine lv_iload_n hx hb dX7_courtBy_85 rfl (lv_at hl 3 rfl) ?_
          refine lv_icmp_lt (tgt := 102) hx hb dX7_courtBy_86 (by decide) (fun c_3 => ?_) (fun c_3 => ?_)
          · have hg := it_p hg c_3
            refine lv_bipush (v := (-12)) hx hb dX7_courtBy_102 (by decide) ?_
            exact r_ireti S hr hlk hw.2.2.2.2 hw hg dX7_courtBy_104
          · have hg := it_n hg c_3
            refine lv_iload hx hb dX7_courtBy_89 (lv_at hl 0 rfl) ?_
            refine lv_aload_n hx hb dX7_courtBy_91 rfl (lv_at hl 1 rfl) ?_
            refine r_getr (C := RX7) (T := TX7) (N := 43) (k' := 10) S hK hw (kM_0 hG).1 (kM_0 hG).2 rfl hinX7 16 (by decide) (o := 10) rfl rfl (hts (.fieldLink RX7 41 "SoupByRankModel" "sheetSize" "[I") (by decide +kernel)) rfl dX7_courtBy_92 ?_
            refine lv_iload_n hx hb dX7_courtBy_95 rfl (lv_at hl 2 rfl) ?_
            obtain ⟨h_5, x_4, e_6, hg⟩ := rdA_e hg
            refine r_iald S hK hw (kM_10 hG).1 (kM_10 hG).2 h_5 e_6 dX7_courtBy_96 ?_
            refine lv_iconst (v := 2) hx hb dX7_courtBy_97 (by decide) ?_
            refine lv_isub hx hb dX7_courtBy_98 ?_
            refine lv_icmp_le (tgt := 105) hx hb dX7_courtBy_99 (by decide) (fun c_7 => ?_) (fun c_7 => ?_)
            · have hg := it_p hg c_7
              refine lv_bipush (v := 40) hx hb dX7_courtBy_105 (by decide) ?_
              refine lv_iload_n hx hb dX7_courtBy_107 rfl (lv_at hl 2 rfl) ?_
              refine lv_imul hx hb dX7_courtBy_108 ?_
              refine lv_iload hx hb dX7_courtBy_109 (lv_at hl 0 rfl) ?_
              refine lv_iadd hx hb dX7_courtBy_111 ?_
              refine lv_istore (lv' := [(8, .int ((40 * v1) + (v3 + (2 * v6)))), (7, .int (v3 + (2 * v6))), (0, .ref (gAd G 0)), (1, .int v1), (3, .int v3), (4, .int v4), (5, .int v5), (6, .int v6)]) hx hb dX7_courtBy_112 hl (by decide) rfl (fun ls hl => ?_)
              refine lv_iload hx hb dX7_courtBy_114 (lv_at hl 6 rfl) ?_
              refine lv_aload_n hx hb dX7_courtBy_116 rfl (lv_at hl 2 rfl) ?_
              refine lv_aload_n hx hb dX7_courtBy_117 rfl (lv_at hl 2 rfl) ?_
              refine r_getr (C := RX7) (T := TX7) (N := 43) (k' := 11) S hK hw (kM_0 hG).1 (kM_0 hG).2 rfl hinX7 17 (by decide) (o := 11) rfl rfl (hts (.fieldLink RX7 44 "SoupByRankModel" "cells" "[I") (by decide +kernel)) rfl dX7_courtBy_118 ?_
              refine lv_iload hx hb dX7_courtBy_121 (lv_at hl 0 rfl) ?_
              obtain ⟨h_9, x_8, e_10, hg⟩ := rdA_e hg
              refine r_iald S hK hw (kM_11 hG).1 (kM_11 hG).2 h_9 e_10 dX7_courtBy_123 ?_
              refine lv_aload_n hx hb dX7_courtBy_124 rfl (lv_at hl 2 rfl) ?_
              refine r_getr (C := RX7) (T := TX7) (N := 43) (k' := 11) S hK hw (kM_0 hG).1 (kM_0 hG).2 rfl hinX7 17 (by decide) (o := 11) rfl rfl (hts (.fieldLink RX7 44 "SoupByRankModel" "cells" "[I") (by decide +kernel)) rfl dX7_courtBy_125 ?_
              refine lv_iload hx hb dX7_courtBy_128 (lv_at hl 0 rfl) ?_
              refine lv_iconst (v := 1) hx hb dX7_courtBy_130 (by decide) ?_
              refine lv_iadd hx hb dX7_courtBy_131 ?_
              obtain ⟨h_12, x_11, e_13, hg⟩ := rdA_e hg
              refine r_iald S hK hw (kM_11 hG).1 (kM_11 hG).2 h_12 e_13 dX7_courtBy_132 ?_
              obtain ⟨s_14, x_15, h_16, hg⟩ := bnI_e hg
              refine r_iV (As := [.int x_8, .int x_11]) (rest := [.int v5]) S hA hK hw (c_X7_courtier l hG  h_16) (cwV 2 hts gX7_courtBy_X7_courtier rfl rfl rfl (by decide +kernel) ⟨Nat.le_of_ble_eq_true rfl, Nat.le_of_ble_eq_true rfl⟩) (r_recv hK hw (kM_0 hG).1 (kM_0 hG).2 rfl) rfl hl.1 (Nat.le_of_ble_eq_true rfl) dX7_courtBy_133 ⟨Nat.zero_le _, Nat.zero_le _⟩ rfl (fun H locs hw => ?_)
              refine lv_if_lt (tgt := 143) hx hb dX7_courtBy_136 (by decide) (fun c_17 => ?_) (fun c_17 => ?_)
              · have hg := it_p hg c_17
                refine lv_iconst (v := 0) hx hb dX7_courtBy_143 (by decide) ?_
                exact J144 v6 0 v5 _ _ _ _ hg hw (lv_sub hl [2, 3, 4, 5, 7] rfl)
              · have hg := it_n hg c_17
                refine lv_iconst (v := 1) hx hb dX7_courtBy_139 (by decide) ?_
                refine lv_goto (tgt := 144) hx hb dX7_courtBy_140 (by decide) ?_
                exact J144 v6 1 v5 _ _ _ _ hg hw (lv_sub hl [2, 3, 4, 5, 7] rfl)
            · have hg := it_n hg c_7
              refine lv_bipush (v := (-12)) hx hb dX7_courtBy_102 (by decide) ?_
              exact r_ireti S hr hlk hw.2.2.2.2 hw hg dX7_courtBy_104
  rw [g_X7_courtBy] at hg
  refine lv_iload_n hx hb dX7_courtBy_0 rfl (lv_at hl 1 rfl) ?_
  refine lv_iconst (v := 0) hx hb dX7_courtBy_1 (by decide) ?_
  refine lv_iconst (v := 3) hx hb dX7_courtBy_2 (by decide) ?_
  obtain ⟨s_18, x_19, h_20, hg⟩ := bnI_e hg
  refine r_iS (As := [.int a1, .int 0, .int 3]) (rest := []) S hA hK hw (c_X7_in l hG  h_20) (va_cwS 3 hts gX7_courtBy_X7_in rfl rfl rfl (by decide +kernel) ⟨Nat.le_of_ble_eq_true rfl, Nat.le_of_ble_eq_true rfl⟩) rfl hl.1 (Nat.le_of_ble_eq_true rfl) dX7_courtBy_3 ⟨Nat.zero_le _, Nat.zero_le _⟩ rfl (fun H locs hw => ?_)
  refine lv_if_eq (tgt := 29) hx hb dX7_courtBy_6 (by decide) (fun c_21 => ?_) (fun c_21 => ?_)
  · have hg := it_p hg c_21
    refine lv_bipush (v := (-2)) hx hb dX7_courtBy_29 (by decide) ?_
    exact r_ireti S hr hlk hw.2.2.2.2 hw hg dX7_courtBy_31
  · have hg := it_n hg c_21
    refine lv_iload_n hx hb dX7_courtBy_9 rfl (lv_at hl 2 rfl) ?_
    refine lv_iconst (v := 0) hx hb dX7_courtBy_10 (by decide) ?_
    refine lv_iconst (v := 2) hx hb dX7_courtBy_11 (by decide) ?_
    obtain ⟨s_22, x_23, h_24, hg⟩ := bnI_e hg
    refine r_iS (As := [.int a2, .int 0, .int 2]) (rest := []) S hA hK hw (c_X7_in l hG  h_24) (va_cwS 3 hts gX7_courtBy_X7_in rfl rfl rfl (by decide +kernel) ⟨Nat.le_of_ble_eq_true rfl, Nat.le_of_ble_eq_true rfl⟩) rfl hl.1 (Nat.le_of_ble_eq_true rfl) dX7_courtBy_12 ⟨Nat.zero_le _, Nat.zero_le _⟩ rfl (fun H locs hw => ?_)
    refine lv_if_eq (tgt := 29) hx hb dX7_courtBy_15 (by decide) (fun c_25 => ?_) (fun c_25 => ?_)
    · have hg := it_p hg c_25
      refine lv_bipush (v := (-2)) hx hb dX7_courtBy_29 (by decide) ?_
      exact r_ireti S hr hlk hw.2.2.2.2 hw hg dX7_courtBy_31
    · have hg := it_n hg c_25
      refine lv_iload hx hb dX7_courtBy_18 (lv_at hl 4 rfl) ?_
      refine lv_iconst (v := 0) hx hb dX7_courtBy_20 (by decide) ?_
      refine lv_bipush (v := 6) hx hb dX7_courtBy_21 (by decide) ?_
      obtain ⟨s_26, x_27, h_28, hg⟩ := bnI_e hg
      refine r_iS (As := [.int a4, .int 0, .int 6]) (rest := []) S hA hK hw (c_X7_in l hG  h_28) (va_cwS 3 hts gX7_courtBy_X7_in rfl rfl rfl (by decide +kernel) ⟨Nat.le_of_ble_eq_true rfl, Nat.le_of_ble_eq_true rfl⟩) rfl hl.1 (Nat.le_of_ble_eq_true rfl) dX7_courtBy_23 ⟨Nat.zero_le _, Nat.zero_le _⟩ rfl (fun H locs hw => ?_)
      refine lv_if_ne (tgt := 32) hx hb dX7_courtBy_26 (by decide) (fun c_29 => ?_) (fun c_29 => ?_)
      · have hg := it_n hg c_29
        refine lv_aload_n hx hb dX7_courtBy_32 rfl (lv_at hl 0 rfl) ?_
        refine r_getr (C := RX7) (T := TX7) (N := 43) (k' := 9) S hK hw (kM_0 hG).1 (kM_0 hG).2 rfl hinX7 15 (by decide) (o := 9) rfl rfl (hts (.fieldLink RX7 38 "SoupByRankModel" "sheetSort" "[I") (by decide +kernel)) rfl dX7_courtBy_33 ?_
        refine lv_iload_n hx hb dX7_courtBy_36 rfl (lv_at hl 1 rfl) ?_
        obtain ⟨h_31, x_30, e_32, hg⟩ := rdA_e hg
        refine r_iald S hK hw (kM_9 hG).1 (kM_9 hG).2 h_31 e_32 dX7_courtBy_37 ?_
        refine lv_iconst (v := (-1)) hx hb dX7_courtBy_38 (by decide) ?_
        refine lv_icmp_ne (tgt := 45) hx hb dX7_courtBy_39 (by decide) (fun c_33 => ?_) (fun c_33 => ?_)
        · have hg := it_n hg c_33
          refine lv_aload_n hx hb dX7_courtBy_45 rfl (lv_at hl 0 rfl) ?_
          refine r_getr (C := RX7) (T := TX7) (N := 43) (k' := 9) S hK hw (kM_0 hG).1 (kM_0 hG).2 rfl hinX7 15 (by decide) (o := 9) rfl rfl (hts (.fieldLink RX7 38 "SoupByRankModel" "sheetSort" "[I") (by decide +kernel)) rfl dX7_courtBy_46 ?_
          refine lv_iload_n hx hb dX7_courtBy_49 rfl (lv_at hl 1 rfl) ?_
          obtain ⟨h_35, x_34, e_36, hg⟩ := rdA_e hg
          refine r_iald S hK hw (kM_9 hG).1 (kM_9 hG).2 h_35 e_36 dX7_courtBy_50 ?_
          refine lv_iload_n hx hb dX7_courtBy_51 rfl (lv_at hl 2 rfl) ?_
          refine lv_icmp_eq (tgt := 58) hx hb dX7_courtBy_52 (by decide) (fun c_37 => ?_) (fun c_37 => ?_)
          · have hg := it_p hg c_37
            refine lv_iconst (v := 0) hx hb dX7_courtBy_58 (by decide) ?_
            refine lv_istore (lv' := [(5, .int 0), (0, .ref (gAd G 0)), (1, .int a1), (2, .int a2), (3, .int a3), (4, .int a4)]) hx hb dX7_courtBy_59 hl (by decide) rfl (fun ls hl => ?_)
            refine lv_iconst (v := 0) hx hb dX7_courtBy_61 (by decide) ?_
            refine lv_istore (lv' := [(6, .int 0), (5, .int 0), (0, .ref (gAd G 0)), (1, .int a1), (2, .int a2), (3, .int a3), (4, .int a4)]) hx hb dX7_courtBy_62 hl (by decide) rfl (fun ls hl => ?_)
            exact L64 a1 a3 a4 F _ _ _ _ _ _ hg hw (lv_sub hl [2, 3, 5, 6, 1, 0] rfl)
          · have hg := it_n hg c_37
            refine lv_bipush (v := (-13)) hx hb dX7_courtBy_55 (by decide) ?_
            exact r_ireti S hr hlk hw.2.2.2.2 hw hg dX7_courtBy_57
        · have hg := it_p hg c_33
          refine lv_bipush (v := (-11)) hx hb dX7_courtBy_42 (by decide) ?_
          exact r_ireti S hr hlk hw.2.2.2.2 hw hg dX7_courtBy_44
      · have hg := it_p hg c_29
        refine lv_bipush (v := (-2)) hx hb dX7_courtBy_29 (by decide) ?_
        exact r_ireti S hr hlk hw.2.2.2.2 hw hg dX7_courtBy_31
set_option maxHeartbeats 4000000 in
set_option maxRecDepth 100000 in
theorem c_X7_isUnder (l : Launch) {G : GW} (hG : isM G) {F sz : Nat} {a0 : Int32} {a1 : Int32} {σ σR : Sg} {r : Int32} (hg : g_X7_isUnder F a0 a1 σ = some (σR, r)) : Met l yX7_isUnder wsX7_isUnder ({ frames := 0, cells := 0, slots := 0, locals := 0 } : Room) (va_Pc [.int a0, .int a1] (PX G σ sz)) (QcI G (gA G sz) σR r) 0 0 (gA G sz) := by
  refine metX (by decide) rfl (Nat.le_of_ble_eq_true rfl) ?_
  intro p e s m args below meth c ls S hr hlk hsz hA hK hw hl hmn
  have S : CallFix p m c cX7_isUnder 2 s args wsX7_isUnder RX7 := S
  obtain ⟨hx, hb, hml, hown, hts⟩ := id S
  have hl : lv_has ls 2 [(0, .int a0), (1, .int a1)] := hl
  have J29 : ∀ (σ : Sg) (H : Heap) (locs : List Loc) (ls : Array Slot) (hg : g_X7_isUnder_b29 F σ = some (σR, r)) (hw : XD G (gA G sz) s.heap σ H locs) (hl : lv_has ls 2 []), W p l e (headSpec wsX7_isUnder ({ frames := 0, cells := 0, slots := 0, locals := 0 } : Room)).room s m args below meth c H locs 0 0 (MQ below (QcI G (gA G sz) σR r) args s 0 0 (gA G sz)) (F0 m 29 ls []) := by
    intro  σ H locs ls hg hw hl
    rw [g_X7_isUnder_b29] at hg
    refine lv_iconst (v := 1) hx hb dX7_isUnder_29 (by decide) ?_
    refine lv_goto (tgt := 34) hx hb dX7_isUnder_30 (by decide) ?_
    exact r_iretz S hr rfl hlk hw.2.2.2.2 hw hg dX7_isUnder_34
  have J19 : ∀ (v0 : Int32) (v1 : Int32) (σ : Sg) (H : Heap) (locs : List Loc) (ls : Array Slot) (hg : g_X7_isUnder_b19 F v0 v1 σ = some (σR, r)) (hw : XD G (gA G sz) s.heap σ H locs) (hl : lv_has ls 2 [(0, .int v0), (1, .int v1)]), W p l e (headSpec wsX7_isUnder ({ frames := 0, cells := 0, slots := 0, locals := 0 } : Room)).room s m args below meth c H locs 0 0 (MQ below (QcI G (gA G sz) σR r) args s 0 0 (gA G sz)) (F0 m 19 ls []) := by
    intro v0 v1 σ H locs ls hg hw hl
    rw [g_X7_isUnder_b19] at hg
    refine lv_iload_n hx hb dX7_isUnder_19 rfl (lv_at hl 1 rfl) ?_
    refine lv_iconst (v := 2) hx hb dX7_isUnder_20 (by decide) ?_
    refine lv_icmp_ne (tgt := 33) hx hb dX7_isUnder_21 (by decide) (fun c_1 => ?_) (fun c_1 => ?_)
    · have hg := it_n hg c_1
      refine lv_iconst (v := 0) hx hb dX7_isUnder_33 (by decide) ?_
      exact r_iretz S hr rfl hlk hw.2.2.2.2 hw hg dX7_isUnder_34
    · have hg := it_p hg c_1
      refine lv_iload_n hx hb dX7_isUnder_24 rfl (lv_at hl 0 rfl) ?_
      refine lv_iconst (v := 4) hx hb dX7_isUnder_25 (by decide) ?_
      refine lv_icmp_ne (tgt := 33) hx hb dX7_isUnder_26 (by decide) (fun c_2 => ?_) (fun c_2 => ?_)
      · have hg := it_n hg c_2
        refine lv_iconst (v := 0) hx hb dX7_isUnder_33 (by decide) ?_
        exact r_iretz S hr rfl hlk hw.2.2.2.2 hw hg dX7_isUnder_34
      · have hg := it_p hg c_2
        exact J29 _ _ _ _ hg hw (lv_sub hl [] rfl)
  rw [g_X7_isUnder] at hg
  refine lv_iload_n hx hb dX7_isUnder_0 rfl (lv_at hl 1 rfl) ?_
  refine lv_if_eq (tgt := 29) hx hb dX7_isUnder_1 (by decide) (fun c_3 => ?_) (fun c_3 => ?_)
  · have hg := it_p hg c_3
    exact J29 _ _ _ _ hg hw (lv_sub hl [] rfl)
  · have hg := it_n hg c_3
    refine lv_iload_n hx hb dX7_isUnder_4 rfl (lv_at hl 0 rfl) ?_
    refine lv_iload_n hx hb dX7_isUnder_5 rfl (lv_at hl 1 rfl) ?_
    refine lv_icmp_eq (tgt := 29) hx hb dX7_isUnder_6 (by decide) (fun c_4 => ?_) (fun c_4 => ?_)
    · have hg := it_p hg c_4
      exact J29 _ _ _ _ hg hw (lv_sub hl [] rfl)
    · have hg := it_n hg c_4
      refine lv_iload_n hx hb dX7_isUnder_9 rfl (lv_at hl 1 rfl) ?_
      refine lv_iconst (v := 1) hx hb dX7_isUnder_10 (by decide) ?_
      refine lv_icmp_ne (tgt := 19) hx hb dX7_isUnder_11 (by decide) (fun c_5 => ?_) (fun c_5 => ?_)
      · have hg := it_n hg c_5
        exact J19 a0 a1 _ _ _ _ hg hw (lv_sub hl [0, 1] rfl)
      · have hg := it_p hg c_5
        refine lv_iload_n hx hb dX7_isUnder_14 rfl (lv_at hl 0 rfl) ?_
        refine lv_iconst (v := 3) hx hb dX7_isUnder_15 (by decide) ?_
        refine lv_icmp_eq (tgt := 29) hx hb dX7_isUnder_16 (by decide) (fun c_6 => ?_) (fun c_6 => ?_)
        · have hg := it_p hg c_6
          exact J29 _ _ _ _ hg hw (lv_sub hl [] rfl)
        · have hg := it_n hg c_6
          exact J19 a0 a1 _ _ _ _ hg hw (lv_sub hl [0, 1] rfl)
set_option maxHeartbeats 4000000 in
set_option maxRecDepth 100000 in
theorem c_X7_taken (l : Launch) {G : GW} (hG : isM G) {F sz : Nat} {a1 : Int32} {a2 : Int32} {σ σR : Sg} {r : Int32} (hg : g_X7_taken F a1 a2 σ = some (σR, r)) : Met l yX7_taken wsX7_taken ({ frames := 1, cells := 0, slots := 0, locals := 22 } : Room) (va_Pc [.ref (gAd G 0), .int a1, .int a2] (PX G σ sz)) (QcI G (gA G sz) σR r) 0 0 (gA G sz) := by
  refine metX (by decide) rfl (Nat.le_of_ble_eq_true rfl) ?_
  intro p e s m args below meth c ls S hr hlk hsz hA hK hw hl hmn
  have S : CallFix p m c cX7_taken 3 s args wsX7_taken RX7 := S
  obtain ⟨hx, hb, hml, hown, hts⟩ := id S
  have hl : lv_has ls 3 [(0, .ref (gAd G 0)), (1, .int a1), (2, .int a2)] := hl
  have hinX7 : ∀ w ∈ wsX70, w ∈ wsX7_taken := by decide +kernel
  rw [g_X7_taken] at hg
  refine lv_iload_n hx hb dX7_taken_0 rfl (lv_at hl 2 rfl) ?_
  refine lv_iconst (v := 0) hx hb dX7_taken_1 (by decide) ?_
  refine lv_bipush (v := 6) hx hb dX7_taken_2 (by decide) ?_
  obtain ⟨s_1, x_2, h_3, hg⟩ := bnI_e hg
  refine r_iS (As := [.int a2, .int 0, .int 6]) (rest := []) S hA hK hw (c_X7_in l hG  h_3) (va_cwS 3 hts gX7_taken_X7_in rfl rfl rfl (by decide +kernel) ⟨Nat.le_of_ble_eq_true rfl, Nat.le_of_ble_eq_true rfl⟩) rfl hl.1 (Nat.le_of_ble_eq_true rfl) dX7_taken_4 ⟨Nat.zero_le _, Nat.zero_le _⟩ rfl (fun H locs hw => ?_)
  refine lv_if_ne (tgt := 13) hx hb dX7_taken_7 (by decide) (fun c_4 => ?_) (fun c_4 => ?_)
  · have hg := it_n hg c_4
    refine lv_iload_n hx hb dX7_taken_13 rfl (lv_at hl 1 rfl) ?_
    refine lv_iconst (v := 0) hx hb dX7_taken_14 (by decide) ?_
    refine lv_bipush (v := 11) hx hb dX7_taken_15 (by decide) ?_
    obtain ⟨s_5, x_6, h_7, hg⟩ := bnI_e hg
    refine r_iS (As := [.int a1, .int 0, .int 11]) (rest := []) S hA hK hw (c_X7_in l hG  h_7) (va_cwS 3 hts gX7_taken_X7_in rfl rfl rfl (by decide +kernel) ⟨Nat.le_of_ble_eq_true rfl, Nat.le_of_ble_eq_true rfl⟩) rfl hl.1 (Nat.le_of_ble_eq_true rfl) dX7_taken_17 ⟨Nat.zero_le _, Nat.zero_le _⟩ rfl (fun H locs hw => ?_)
    refine lv_if_ne (tgt := 26) hx hb dX7_taken_20 (by decide) (fun c_8 => ?_) (fun c_8 => ?_)
    · have hg := it_n hg c_8
      refine lv_iload_n hx hb dX7_taken_26 rfl (lv_at hl 1 rfl) ?_
      refine lv_bipush (v := 6) hx hb dX7_taken_27 (by decide) ?_
      obtain ⟨h_10, hg⟩ := remI_e hg
      refine lv_irem hx hb dX7_taken_29 h_10 ?_
      refine lv_aload_n hx hb dX7_taken_30 rfl (lv_at hl 0 rfl) ?_
      refine r_get (C := RX7) (T := TX7) (N := 43) S hK hw (kM_0 hG).1 (kM_0 hG).2 rfl hinX7 0 (by decide) rfl (hts (.fieldLink RX7 90 "SoupByRankModel" "courtiers" "I") (by decide +kernel)) rfl dX7_taken_31 ?_
      refine lv_icmp_lt (tgt := 40) hx hb dX7_taken_34 (by decide) (fun c_12 => ?_) (fun c_12 => ?_)
      · have hg := it_p hg c_12
        refine lv_iload_n hx hb dX7_taken_40 rfl (lv_at hl 1 rfl) ?_
        refine lv_bipush (v := 6) hx hb dX7_taken_41 (by decide) ?_
        refine lv_icmp_lt (tgt := 71) hx hb dX7_taken_43 (by decide) (fun c_13 => ?_) (fun c_13 => ?_)
        · have hg := it_p hg c_13
          refine lv_iload_n hx hb dX7_taken_71 rfl (lv_at hl 2 rfl) ?_
          refine lv_bipush (v := 6) hx hb dX7_taken_72 (by decide) ?_
          refine lv_icmp_ge (tgt := 94) hx hb dX7_taken_74 (by decide) (fun c_14 => ?_) (fun c_14 => ?_)
          · have hg := it_p hg c_14
            refine lv_bipush (v := (-13)) hx hb dX7_taken_94 (by decide) ?_
            exact r_ireti S hr hlk hw.2.2.2.2 hw hg dX7_taken_96
          · have hg := it_n hg c_14
            refine lv_aload_n hx hb dX7_taken_77 rfl (lv_at hl 0 rfl) ?_
            refine r_getr (C := RX7) (T := TX7) (N := 43) (k' := 1) S hK hw (kM_0 hG).1 (kM_0 hG).2 rfl hinX7 1 (by decide) (o := 1) rfl rfl (hts (.fieldLink RX7 7 "SoupByRankModel" "kind" "[I") (by decide +kernel)) rfl dX7_taken_78 ?_
            refine lv_iload_n hx hb dX7_taken_81 rfl (lv_at hl 1 rfl) ?_
            obtain ⟨h_16, x_15, e_17, hg⟩ := rdA_e hg
            refine r_iald S hK hw (kM_1 hG).1 (kM_1 hG).2 h_16 e_17 dX7_taken_82 ?_
            refine lv_iload_n hx hb dX7_taken_83 rfl (lv_at hl 2 rfl) ?_
            obtain ⟨s_18, x_19, h_20, hg⟩ := bnI_e hg
            refine r_iS (As := [.int x_15, .int a2]) (rest := []) S hA hK hw (c_X7_isUnder l hG  h_20) (va_cwS 2 hts gX7_taken_X7_isUnder rfl rfl rfl (by decide +kernel) ⟨Nat.le_of_ble_eq_true rfl, Nat.le_of_ble_eq_true rfl⟩) rfl hl.1 (Nat.le_of_ble_eq_true rfl) dX7_taken_84 ⟨Nat.zero_le _, Nat.zero_le _⟩ rfl (fun H locs hw => ?_)
            refine lv_if_eq (tgt := 94) hx hb dX7_taken_87 (by decide) (fun c_21 => ?_) (fun c_21 => ?_)
            · have hg := it_p hg c_21
              refine lv_bipush (v := (-13)) hx hb dX7_taken_94 (by decide) ?_
              exact r_ireti S hr hlk hw.2.2.2.2 hw hg dX7_taken_96
            · have hg := it_n hg c_21
              refine lv_iload_n hx hb dX7_taken_90 rfl (lv_at hl 1 rfl) ?_
              refine lv_goto (tgt := 96) hx hb dX7_taken_91 (by decide) ?_
              exact r_ireti S hr hlk hw.2.2.2.2 hw hg dX7_taken_96
        · have hg := it_n hg c_13
          refine lv_iload_n hx hb dX7_taken_46 rfl (lv_at hl 2 rfl) ?_
          refine lv_bipush (v := 6) hx hb dX7_taken_47 (by decide) ?_
          refine lv_icmp_ne (tgt := 68) hx hb dX7_taken_49 (by decide) (fun c_22 => ?_) (fun c_22 => ?_)
          · have hg := it_n hg c_22
            refine lv_bipush (v := (-13)) hx hb dX7_taken_68 (by decide) ?_
            exact r_ireti S hr hlk hw.2.2.2.2 hw hg dX7_taken_70
          · have hg := it_p hg c_22
            refine lv_aload_n hx hb dX7_taken_52 rfl (lv_at hl 0 rfl) ?_
            refine r_getr (C := RX7) (T := TX7) (N := 43) (k' := 3) S hK hw (kM_0 hG).1 (kM_0 hG).2 rfl hinX7 3 (by decide) (o := 3) rfl rfl (hts (.fieldLink RX7 16 "SoupByRankModel" "rows" "[I") (by decide +kernel)) rfl dX7_taken_53 ?_
            refine lv_iconst (v := 2) hx hb dX7_taken_56 (by decide) ?_
            refine lv_iload_n hx hb dX7_taken_57 rfl (lv_at hl 1 rfl) ?_
            refine lv_bipush (v := 6) hx hb dX7_taken_58 (by decide) ?_
            refine lv_isub hx hb dX7_taken_60 ?_
            refine lv_imul hx hb dX7_taken_61 ?_
            refine lv_iconst (v := 1) hx hb dX7_taken_62 (by decide) ?_
            refine lv_iadd hx hb dX7_taken_63 ?_
            obtain ⟨h_24, x_23, e_25, hg⟩ := rdA_e hg
            refine r_iald S hK hw (kM_3 hG).1 (kM_3 hG).2 h_24 e_25 dX7_taken_64 ?_
            refine lv_goto (tgt := 70) hx hb dX7_taken_65 (by decide) ?_
            exact r_ireti S hr hlk hw.2.2.2.2 hw hg dX7_taken_70
      · have hg := it_n hg c_12
        refine lv_bipush (v := (-11)) hx hb dX7_taken_37 (by decide) ?_
        exact r_ireti S hr hlk hw.2.2.2.2 hw hg dX7_taken_39
    · have hg := it_p hg c_8
      refine lv_bipush (v := (-12)) hx hb dX7_taken_23 (by decide) ?_
      exact r_ireti S hr hlk hw.2.2.2.2 hw hg dX7_taken_25
  · have hg := it_p hg c_4
    refine lv_bipush (v := (-2)) hx hb dX7_taken_10 (by decide) ?_
    exact r_ireti S hr hlk hw.2.2.2.2 hw hg dX7_taken_12
