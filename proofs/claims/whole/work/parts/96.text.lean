section RW4
variable {p : Program} {l : Launch} {e : Env} {R : Room} {s : State} {m : MethodId} {args : Array Value} {below : List Frame} {meth : Method} {c : Code} {H : Heap} {locs : List Loc} {cells slots : Nat} {Q : State → Prop}
variable {cc : ByteArray} {pc nL : Nat} {ls : Array Slot} {rest : List Value} {D : va_G} {tys : List (ClassId × FieldType)} {V : va_W} {A : Nat → Prop} {Ts : List Cond} {own : String}
theorem RD_ret {V' : va_W} {H1 : Heap} {locs1 : List Loc} {t : State} (hw : RD D V A s.heap H locs) (hA : ∀ q, s.heap.size ≤ q → A q) (ht : t.heap = H1) (hB : RE D V' (va_A V H.size) t) (hS : va_S A s.heap H1 locs1) : RD D V' A s.heap H1 locs1 :=
  ⟨by rw [← ht]; exact hB.1, hB.2.weaken (fun _ _ _ h => RD_A hw hA _ h), hS⟩
end RW4
set_option maxHeartbeats 4000000 in
set_option maxRecDepth 100000 in
theorem c_X4_written (l : Launch) {G : GW} {N : Nat} {ln : Nat → Nat} {cT cS : ClassId} (hG : isX G N ln cT cS) {sz n' : Nat} {σ : Sg} (hn : n' ≤ 160) (hu : σ 30 4 = iI (n' : Int)) : Met l yX4_written wsX4_written ({ frames := 2, cells := 3, slots := 165, locals := 70 } : Room) (va_Pc [.ref (gAd G 30)] (PX G σ sz)) (va_Qr (fun _ : Unit => True) (fun _ q t => ∃ q1 q2, RE (gD G) (wld G σ ++ tl3 G n' σ q q1 q2) (gA G sz) t) (gA G sz)) 3 165 (gA G sz) := by
  refine metX (by decide) rfl (Nat.le_of_ble_eq_true rfl) ?_
  intro p e s m args below meth c ls S hr hlk hsz hA hK hw hl hmn
  have S : CallFix p m c cX4_written 1 s args wsX4_written RX4 := S
  obtain ⟨hx, hb, hml, hown, hts⟩ := id S
  have hl : lv_has ls 1 [(0, .ref (gAd G 30))] := hl
  have hinX4 : ∀ w ∈ wsX40, w ∈ wsX4_written := by decide +kernel
  have hinX5 : ∀ w ∈ wsX50, w ∈ wsX4_written := by decide +kernel
  have hN := wld_len G σ
  have h30 : (wld G σ)[30]? = some (gAd G 30, .inr (4, layV (gAd G) 30 (σ 30) 0 lay4)) := by rw [wld_get σ (kX_30 hG).2, wcell, (kX_30 hG).1]
  have h32 : (wld G σ)[32]? = some (gAd G 32, .inl (gI G, 160, .inl (σ 32))) := by rw [wld_get σ (kX_32 hG).2, wcell, (kX_32 hG).1]
  have h33 : (wld G σ)[33]? = some (gAd G 33, .inl (gI G, 3, .inl (σ 33))) := by rw [wld_get σ (kX_33 hG).2, wcell, (kX_33 hG).1]
  have l30 : 30 < (wld G σ).length := by rw [hN]; exact (kX_30 hG).2
  have l32 : 32 < (wld G σ).length := by rw [hN]; exact (kX_32 hG).2
  have l33 : 33 < (wld G σ).length := by rw [hN]; exact (kX_33 hG).2
  have cls4 : vwCl[4]? = some (RX4, TX4, 10) := rfl
  refine va_new (ci := 5) (fs := [.null, .null]) (C := RX5) (T := TX5) (N := 2) hx hb hts hinX5 tyX5 tyX5_ok hown (hts (.classLink RX4 50 RX5) (by decide +kernel)) (hts (.instantiable RX5 2) (by decide +kernel)) (hts (.initialized RX5) (by decide +kernel)) hK.1 hw.1 hw.2.1 hw.2.2 hA rfl (fun j hj => by rcases (show j = 0 ∨ j = 1 by omega) with rfl | rfl <;> rfl) (Nat.le_of_ble_eq_true rfl) (Nat.le_of_ble_eq_true rfl) dX4_written_0 (fun q H hP hD hS => ?_)
  have hw : RD (gD G) (wld G σ ++ [(q, .inr (5, [.null, .null]))]) (gA G sz) s.heap H [] := ⟨hP, hD, hS⟩
  refine lv_dup hx hb dX4_written_3 rfl ?_
  refine lv_aload_n hx hb dX4_written_4 rfl (lv_at hl 0 rfl) ?_
  refine va_get (v := .ref (gAd G 32)) (C := RX4) (T := TX4) (N := 10) hx hb hts hinX4 hown hK.1 hw.1 30 (ci := 4) (fs := layV (gAd G) 30 (σ 30) 0 lay4) (by rw [List.getElem?_append_left l30]; exact h30) cls4 2 (by decide) (hts (.fieldLink RX4 15 "SoupByRank$Tape" "codes" "[I") (by decide +kernel)) (fun _ h9 => h9) rfl dX4_written_5 ?_
  refine lv_aload_n hx hb dX4_written_8 rfl (lv_at hl 0 rfl) ?_
  refine va_get (v := .int (σ 30 4)) (C := RX4) (T := TX4) (N := 10) hx hb hts hinX4 hown hK.1 hw.1 30 (ci := 4) (fs := layV (gAd G) 30 (σ 30) 0 lay4) (by rw [List.getElem?_append_left l30]; exact h30) cls4 4 (by decide) (hts (.fieldLink RX4 25 "SoupByRank$Tape" "used" "I") (by decide +kernel)) (fun _ h9 => h9) rfl dX4_written_9 ?_
  rw [hu]
  refine va_callr (va_runS (As := [.ref (gAd G 32), .int (iI (n' : Int))]) (rest := [.ref q, .ref q]) S (c_X4_firstOf l (tys := gTys G) (sz := H.size) (k := 32) (by rw [List.getElem?_append_left l32]; exact h32) hK.2.1 hn (Nat.le_refl _)) (va_cwS 2 hts gX4_written_X4_firstOf rfl rfl rfl (by decide +kernel) ⟨Nat.le_of_ble_eq_true rfl, Nat.le_of_ble_eq_true rfl⟩) ⟨RP_blind, fun U hU hW => ⟨rfl, RP_of hw hK.1 hU hW⟩⟩ rfl rfl hl.1 rfl (lv_room (Nat.le_of_ble_eq_true rfl)) dX4_written_12 ⟨Nat.le_of_ble_eq_true rfl, by show 0 + 2 + n' ≤ 165; omega⟩) hw.2.2 (fun q _ h => RD_A hw hA q h) (RD_A hw hA) (fun u q1 t H1 locs1 ht hvm _ hB hsz1 hkp hS => ?_)
  have hw := RD_ret hw hA ht hB hS
  refine W.widen (k := 2) (n := 162) (by omega) (by omega) ?_
  refine lv_aload_n hx hb dX4_written_15 rfl (lv_at hl 0 rfl) ?_
  refine va_get (v := .ref (gAd G 33)) (C := RX4) (T := TX4) (N := 10) hx hb hts hinX4 hown hK.1 hw.1 30 (ci := 4) (fs := layV (gAd G) 30 (σ 30) 0 lay4) (by rw [List.append_assoc, List.getElem?_append_left l30]; exact h30) cls4 3 (by decide) (hts (.fieldLink RX4 18 "SoupByRank$Tape" "ends" "[I") (by decide +kernel)) (fun _ h9 => h9) rfl dX4_written_16 ?_
  refine lv_iconst (v := iI ((3 : Nat) : Int)) hx hb dX4_written_19 (by decide) ?_
  refine va_callr (va_runS (As := [.ref (gAd G 33), .int (iI ((3 : Nat) : Int))]) (rest := [.ref q1, .ref q, .ref q]) S (c_X4_firstOf l (tys := gTys G) (sz := H1.size) (k := 33) (n' := 3) (by rw [List.append_assoc, List.getElem?_append_left l33]; exact h33) hK.2.1 (Nat.le_refl _) (by omega)) (va_cwS 2 hts gX4_written_X4_firstOf rfl rfl rfl (by decide +kernel) ⟨Nat.le_of_ble_eq_true rfl, Nat.le_of_ble_eq_true rfl⟩) ⟨RP_blind, fun U hU hW => ⟨rfl, RP_of hw hK.1 hU hW⟩⟩ rfl rfl hl.1 rfl (lv_room (Nat.le_of_ble_eq_true rfl)) dX4_written_20 ⟨Nat.le_of_ble_eq_true rfl, Nat.le_of_ble_eq_true rfl⟩) hw.2.2 (fun q _ h => RD_A hw hA q h) (RD_A hw hA) (fun u q2 t H1 locs1 ht hvm _ hB hsz1 hkp hS => ?_)
  have hw := RD_ret hw hA ht hB hS
  refine va_callv (va_runI (b := q) (As := [.ref q1, .ref q2]) (rest := [.ref q]) S (c_X5_init l (tys := gTys G) (sz := H1.size) (k := (wld G σ).length) (q := q) (by rw [List.append_assoc, List.append_assoc, List.getElem?_append_right (Nat.le_refl _), Nat.sub_self]; rfl)) (cwI 2 hts gX4_written_X5_init rfl rfl rfl (hts (.initialized RX5) (by decide +kernel)) (hts (.methodLink RX4 56 yX5_init) (by decide +kernel)) (hts (.instanceMethod yX5_init) (by decide +kernel)) rfl (by decide +kernel) ⟨Nat.le_of_ble_eq_true rfl, Nat.le_of_ble_eq_true rfl⟩) ⟨RP_blind, fun U hU hW => ⟨rfl, RP_of hw hK.1 hU hW⟩⟩ rfl rfl hl.1 rfl (lv_room (Nat.le_of_ble_eq_true rfl)) dX4_written_23 ⟨Nat.le_of_ble_eq_true rfl, Nat.le_of_ble_eq_true rfl⟩) hw.2.2 (fun q _ h => RD_A hw hA q h) (RD_A hw hA) (fun u t H1 locs1 ht hvm _ hB hsz1 hkp hS => ?_)
  have hw := RD_ret hw hA ht hB hS
  rw [List.append_assoc, List.append_assoc, List.set_append_right _ _ (Nat.le_refl _), Nat.sub_self] at hw
  have hw : RD (gD G) (wld G σ ++ tl3 G n' σ q q1 q2) (gA G sz) s.heap H1 locs1 := hw
  refine W.widen (k := 3) (n := 165) (by omega) (by omega) ?_
  exact W.aret hx hb hr (Or.inl ⟨_, rfl⟩) (Or.inr ⟨_, rfl⟩) (fun t ht hW => ⟨⟨(), _, rfl, trivial, q1, q2, by show va_P _ _ _ _; rw [ht]; exact hw.1, hw.2.1⟩, hw.2.2.F ht⟩) hw.2.2.2.2 dX4_written_26
/-- what text() answers, and what it leaves -/
def g_X6_text (F N : Nat) (ln : Nat → Nat) (σ : Sg) (b : Option Nat) (σR : Sg) (r : Int32) : Prop :=
  (6 ≤ σ 0 8 ∧ b = none ∧ σR = σ ∧ r = -4) ∨
  (σ 0 8 < 6 ∧ ∃ τ f, g_X4_read F N ln σ = some (τ, f) ∧ ((f ≠ -1 ∧ b = none ∧ σR = st τ 30 1 0 ∧ r = (-100) - f) ∨
    (f = -1 ∧ ∃ n' : Nat, n' ≤ 160 ∧ N < 6 ∧ τ 0 8 = iI (N : Int) ∧ τ 30 4 = iI (n' : Int) ∧ b = some n' ∧ σR = st (tx1 N n' (st τ 30 1 0)) 0 8 (iI (N : Int) + 1) ∧ r = iI (N : Int) + 1 - 1)))
def grB (G : GW) (N : Nat) (ln : Nat → Nat) (cT cS : ClassId) (b : Option Nat) (G' : GW) : Prop := match b with
  | none => G' = G
  | some n' => ∃ q q1 q2, G' = growX G N n' ln cT cS q q1 q2
set_option maxHeartbeats 4000000 in
set_option maxRecDepth 100000 in
theorem c_X6_text (l : Launch) {G : GW} {N : Nat} {ln : Nat → Nat} {cT cS : ClassId} (hG : isX G N ln cT cS) {F sz : Nat} {σ σR : Sg} {b : Option Nat} {r : Int32} (hg : g_X6_text F N ln σ b σR r) : Met l yX6_text wsX6_text ({ frames := 72, cells := 3, slots := 165, locals := 1950 } : Room) (va_Pc [.ref (gAd G 0)] (PX G σ sz)) (va_Qi (fun (x : Int32) (_ : Unit) => x = r) (fun _ t => ∃ G', grB G N ln cT cS b G' ∧ EX G' σR t ∧ va_D (gA G sz) (wld G' σR)) (gA G sz)) 3 165 (gA G sz) := by
  refine metX (by decide) rfl (Nat.le_of_ble_eq_true rfl) ?_
  intro p e s m args below meth c ls S hr hlk hsz hA hK hw hl hmn
  have S : CallFix p m c cX6_text 2 s args wsX6_text RX6 := S
  obtain ⟨hx, hb, hml, hown, hts⟩ := id S
  have hl : lv_has ls 2 [(0, .ref (gAd G 0))] := hl
  have hinX4 : ∀ w ∈ wsX40, w ∈ wsX6_text := by decide +kernel
  have hinX5 : ∀ w ∈ wsX50, w ∈ wsX6_text := by decide +kernel
  have hinX6 : ∀ w ∈ wsX60, w ∈ wsX6_text := by decide +kernel
  refine lv_aload_n hx hb dX6_text_0 rfl (lv_at hl 0 rfl) ?_
  refine r_get (C := RX6) (T := TX6) (N := 12) S hK hw (kX_0 hG).1 (kX_0 hG).2 rfl hinX6 8 (by decide) rfl (hts (.fieldLink RX6 49 "SoupByRank" "textsThere" "I") (by decide +kernel)) rfl dX6_text_1 ?_
  refine lv_bipush (v := 6) hx hb dX6_text_4 (by decide) ?_
  refine lv_icmp_lt (tgt := 12) hx hb dX6_text_6 (by decide) (fun c_1 => ?_) (fun c_1 => ?_)
  · rcases hg with ⟨h6, -⟩ | ⟨-, τ, f, hread, hg⟩
    · exact absurd c_1 (Int32.not_lt.mpr h6)
    refine lv_aload_n hx hb dX6_text_12 rfl (lv_at hl 0 rfl) ?_
    refine r_getr (C := RX6) (T := TX6) (N := 12) (k' := 30) S hK hw (kX_0 hG).1 (kX_0 hG).2 rfl hinX6 9 (by decide) (o := 30) rfl rfl (hts (.fieldLink RX6 56 "SoupByRank" "tape" "LSoupByRank$Tape;") (by decide +kernel)) rfl dX6_text_13 ?_
    refine r_iV (As := []) (rest := []) S hA hK hw (c_X4_read l hG hread) (cwV 0 hts gX6_text_X4_read rfl rfl rfl (by decide +kernel) ⟨Nat.le_of_ble_eq_true rfl, Nat.le_of_ble_eq_true rfl⟩) (r_recv hK hw (kX_30 hG).1 (kX_30 hG).2 rfl) rfl hl.1 (Nat.le_of_ble_eq_true rfl) dX6_text_16 ⟨Nat.zero_le _, Nat.zero_le _⟩ rfl (fun H locs hw => ?_)
    refine lv_istore_n (lv' := [(1, .int f), (0, .ref (gAd G 0))]) hx hb dX6_text_19 rfl hl (by decide) rfl (fun ls hl => ?_)
    refine lv_aload_n hx hb dX6_text_20 rfl (lv_at hl 1 rfl) ?_
    refine r_getr (C := RX6) (T := TX6) (N := 12) (k' := 30) S hK hw (kX_0 hG).1 (kX_0 hG).2 rfl hinX6 9 (by decide) (o := 30) rfl rfl (hts (.fieldLink RX6 56 "SoupByRank" "tape" "LSoupByRank$Tape;") (by decide +kernel)) rfl dX6_text_21 ?_
    refine lv_iconst (v := 0) hx hb dX6_text_24 (by decide) ?_
    refine r_putN (C := RX4) (T := TX4) (N := 10) (host := RX6) S hK hw (kX_30 hG).1 (kX_30 hG).2 rfl hinX4 tyX4_ok nmX4 1 (by decide) rfl rfl rfl rfl (by decide +kernel) rfl (σ' := st τ 30 1 0) rfl dX6_text_25 (fun H locs hw => ?_)
    refine lv_iload_n hx hb dX6_text_28 rfl (lv_at hl 0 rfl) ?_
    refine lv_iconst (v := (-1)) hx hb dX6_text_29 (by decide) ?_
    refine lv_icmp_eq (tgt := 38) hx hb dX6_text_30 (by decide) (fun c_2 => ?_) (fun c_2 => ?_)
    · rcases hg with ⟨h6, -⟩ | ⟨-, n', hn', hN6, h08, h304, rfl, rfl, rfl⟩
      · exact absurd c_2 h6
      refine lv_aload_n hx hb dX6_text_38 rfl (lv_at hl 1 rfl) ?_
      refine r_getr (C := RX6) (T := TX6) (N := 12) (k' := 29) S hK hw (kX_0 hG).1 (kX_0 hG).2 rfl hinX6 7 (by decide) (o := 29) rfl rfl (hts (.fieldLink RX6 45 "SoupByRank" "texts" "[LSoupByRank$Text;") (by decide +kernel)) rfl dX6_text_39 ?_
      refine lv_aload_n hx hb dX6_text_42 rfl (lv_at hl 1 rfl) ?_
      refine r_get (C := RX6) (T := TX6) (N := 12) S hK hw (kX_0 hG).1 (kX_0 hG).2 rfl hinX6 8 (by decide) rfl (hts (.fieldLink RX6 49 "SoupByRank" "textsThere" "I") (by decide +kernel)) rfl dX6_text_43 ?_
      have h08' : (st τ 30 1 0) 0 8 = iI (N : Int) := h08
      rw [h08']
      refine lv_aload_n hx hb dX6_text_46 rfl (lv_at hl 1 rfl) ?_
      refine r_getr (C := RX6) (T := TX6) (N := 12) (k' := 30) S hK hw (kX_0 hG).1 (kX_0 hG).2 rfl hinX6 9 (by decide) (o := 30) rfl rfl (hts (.fieldLink RX6 56 "SoupByRank" "tape" "LSoupByRank$Tape;") (by decide +kernel)) rfl dX6_text_47 ?_
      refine va_callr (va_runV (As := []) (rest := [.int (iI (N : Int)), .ref (gAd G 29)]) S (c_X4_written l hG (sz := H.size) (n' := n') hn' (σ := st τ 30 1 0) h304) (cwV 0 hts gX6_text_X4_written rfl rfl rfl (by decide +kernel) ⟨Nat.le_of_ble_eq_true rfl, Nat.le_of_ble_eq_true rfl⟩) ⟨PX_blind, r_recv hK hw (kX_30 hG).1 (kX_30 hG).2 rfl, fun U hU hW => ⟨rfl, PX_of hw hA hK hU hW⟩⟩ rfl rfl hl.1 rfl (lv_room (Nat.le_of_ble_eq_true rfl)) dX6_text_50 ⟨Nat.le_of_ble_eq_true rfl, Nat.le_of_ble_eq_true rfl⟩) hw.2.2 (fun q _ h => XD_A hw hA q h) (XD_A hw hA) (fun u q t H1 locs1 ht hvm _ hB hsz1 hkp hS => ?_)
      obtain ⟨q1, q2, hB⟩ := hB
      have hP : va_P (gD G) vwCl (wld G (st τ 30 1 0) ++ tl3 G n' (st τ 30 1 0) q q1 q2) H1 := by rw [← ht]; exact hB.1
      have hD : va_D (gA G sz) (wld G (st τ 30 1 0) ++ tl3 G n' (st τ 30 1 0) q q1 q2) := hB.2.weaken (fun _ _ _ h => XD_A hw hA _ h)
      have hN := wld_len G (st τ 30 1 0)
      have l29 : 29 < (wld G (st τ 30 1 0)).length := by rw [hN]; exact (kX_29 hG).2
      have h29 : (wld G (st τ 30 1 0))[29]? = some (gAd G 29, .inl (cT, 6, .inr (.inr (.inr (.inr (fun j => (if j < N then some (tc j) else none).map (gAd G))))))) := by rw [wld_get _ (kX_29 hG).2, wcell, (kX_29 hG).1]
      have hNc : (iI (N : Int)).toNatClampNeg = N := by rw [iI_cl (by omega)]; exact Int.toNat_natCast N
      have hvi : vp_in (iI (N : Int)) 6 := by
        intro h
        rcases h with h | h
        · rw [show (0 : Int32) = iI 0 from rfl, iI_lt (by omega) (by omega)] at h
          omega
        · rw [hNc] at h
          omega
      refine va_astq (q0 := 29) (t0 := 1) (qk := (wld G (st τ 30 1 0)).length) (ci := 5) (r := (RX5, TX5, 2)) (vs := [.ref q1, .ref q2]) hx hb hK.1 hP hD hS (by rw [List.getElem?_append_left l29]; exact h29) (tyT hG) (by rw [List.getElem?_append_right (Nat.le_refl _), Nat.sub_self]; rfl) rfl (i := iI (N : Int)) hvi dX6_text_53 (fun H locs hP hD hS => ?_)
      rw [hNc, fold_text hG] at hP hD
      have hG' := growX_is (n' := n') hG hN6 q q1 q2
      have hK' : gK (growX G N n' ln cT cS q q1 q2) (gA G sz) s s.heap := hK
      have hw : XD (growX G N n' ln cT cS q q1 q2) (gA G sz) s.heap (tx1 N n' (st τ 30 1 0)) H locs := ⟨hP, hD, hS⟩
      have had0 : gAd G 0 = gAd (growX G N n' ln cT cS q q1 q2) 0 := by
        show _ = adX (gAd G) N q q1 q2 0
        unfold adX
        rw [if_neg (by omega), if_neg (by omega), if_neg (by omega)]
      rw [had0] at hl
      have ht08 : tx1 N n' (st τ 30 1 0) 0 8 = iI (N : Int) := by
        unfold tx1
        rw [if_neg (by omega), if_neg (by omega)]
        exact h08
      refine lv_aload_n hx hb dX6_text_54 rfl (lv_at hl 1 rfl) ?_
      refine lv_dup hx hb dX6_text_55 rfl ?_
      refine r_get (C := RX6) (T := TX6) (N := 12) S hK' hw (kX_0 hG').1 (kX_0 hG').2 rfl hinX6 8 (by decide) rfl (hts (.fieldLink RX6 49 "SoupByRank" "textsThere" "I") (by decide +kernel)) rfl dX6_text_56 ?_
      rw [ht08]
      refine lv_iconst (v := 1) hx hb dX6_text_59 (by decide) ?_
      refine lv_iadd hx hb dX6_text_60 ?_
      refine r_put (C := RX6) (T := TX6) (N := 12) S hK' hw (kX_0 hG').1 (kX_0 hG').2 rfl hinX6 tyX6_ok nmX6 8 (by decide) rfl rfl rfl rfl (hts (.fieldLink RX6 49 "SoupByRank" "textsThere" "I") (by decide +kernel)) rfl (σ' := st (tx1 N n' (st τ 30 1 0)) 0 8 (iI (N : Int) + 1)) rfl dX6_text_61 (fun H locs hw => ?_)
      refine lv_aload_n hx hb dX6_text_64 rfl (lv_at hl 1 rfl) ?_
      refine r_get (C := RX6) (T := TX6) (N := 12) S hK' hw (kX_0 hG').1 (kX_0 hG').2 rfl hinX6 8 (by decide) rfl (hts (.fieldLink RX6 49 "SoupByRank" "textsThere" "I") (by decide +kernel)) rfl dX6_text_65 ?_
      have ht09 : st (tx1 N n' (st τ 30 1 0)) 0 8 (iI (N : Int) + 1) 0 8 = iI (N : Int) + 1 := by simp [st]
      rw [ht09]
      refine lv_iconst (v := 1) hx hb dX6_text_68 (by decide) ?_
      refine lv_isub hx hb dX6_text_69 ?_
      exact W.iret hx hb hr (fun t ht hW => ⟨⟨_, (), rfl, rfl, _, ⟨q, q1, q2, rfl⟩, by show va_P _ _ _ _; rw [ht]; exact hw.1, hw.2.1⟩, hw.2.2.F ht⟩) hw.2.2.2.2 dX6_text_70 hlk
    · rcases hg with ⟨-, rfl, rfl, rfl⟩ | ⟨h6, -⟩
      · refine lv_bipush (v := (-100)) hx hb dX6_text_33 (by decide) ?_
        refine lv_iload_n hx hb dX6_text_35 rfl (lv_at hl 0 rfl) ?_
        refine lv_isub hx hb dX6_text_36 ?_
        refine W.widen (k := 3) (n := 165) (by omega) (by omega) ?_
        exact W.iret hx hb hr (fun t ht hW => ⟨⟨_, (), rfl, rfl, G, rfl, by show va_P _ _ _ _; rw [ht]; exact hw.1, hw.2.1⟩, hw.2.2.F ht⟩) hw.2.2.2.2 dX6_text_37 hlk
      · exact absurd h6 c_2
  · rcases hg with ⟨h6, rfl, rfl, rfl⟩ | ⟨h6, -⟩
    · refine lv_bipush (v := (-4)) hx hb dX6_text_9 (by decide) ?_
      refine W.widen (k := 3) (n := 165) (by omega) (by omega) ?_
      exact W.iret hx hb hr (fun t ht hW => ⟨⟨_, (), rfl, rfl, G, rfl, by show va_P _ _ _ _; rw [ht]; exact hw.1, hw.2.1⟩, hw.2.2.F ht⟩) hw.2.2.2.2 dX6_text_11 hlk
    · exact absurd h6 c_1
