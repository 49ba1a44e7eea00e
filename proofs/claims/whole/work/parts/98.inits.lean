/-! the constructors, over raw worlds -/
def arL (L : List Int32) (k : Nat) : Nat → Int32 := fun j => if j < k then L.getD j 0 else 0
theorem arL_0 (L : List Int32) : (fun _ : Nat => (0 : Int32)) = arL L 0 := by
  funext j
  exact (if_neg (Nat.not_lt_zero j)).symm
theorem arL_up {L : List Int32} {k : Nat} {x : Int32} (h : L.getD k 0 = x) : upd (arL L k) k x = arL L (k + 1) := by
  funext j
  unfold upd arL
  by_cases hj : j = k
  · subst hj
    rw [if_pos rfl, if_pos (Nat.lt_succ_self j)]
    exact h.symm
  · by_cases hl : j < k
    · simp [hj, hl, Nat.lt_succ_of_lt hl]
    · have : ¬ j < k + 1 := by omega
      simp [hj, hl, this]
section RW5
variable {p : Program} {l : Launch} {e : Env} {R : Room} {s : State} {m : MethodId} {args : Array Value} {below : List Frame} {meth : Method} {c : Code} {H : Heap} {locs : List Loc} {cells slots : Nat} {Q : State → Prop}
variable {cc : ByteArray} {pc nL : Nat} {ls : Array Slot} {rest : List Value} {D : va_G} {tys : List (ClassId × FieldType)} {V : va_W} {A : Nat → Prop} {H0 : Heap} {Ts : List Cond} {own : String}
theorem r_fil (S : CallFix p m c cc nL s args Ts own) (hK : va_K D vwCl tys s) {cI : ClassId} (ht : tys[0]? = some (cI, .int)) {q n k : Nat} {L : List Int32} (hw : RD D (V ++ [(q, .inl (cI, n, .inl (arL L k)))]) A H0 H locs) {i x : Int32} (hi : i.toNatClampNeg = k) (hv : L.getD k 0 = x) (hin : vp_in i n) (hdg : decode cc pc = .ok (.iastore, 1))
    (kk : ∀ (H1 : Heap) (locs1 : List Loc), RD D (V ++ [(q, .inl (cI, n, .inl (arL L (k + 1))))]) A H0 H1 locs1 → W p l e R s m args below meth c H1 locs1 cells slots Q (F0 m (pc + 1) ls rest)) : W p l e R s m args below meth c H locs cells slots Q (F0 m pc ls (.int x :: .int i :: .ref q :: rest)) := by
  refine va_iast S.1 S.2.1 hK hw.1 hw.2.1 hw.2.2 V.length 0 (f := arL L k) (n := n) (by rw [List.getElem?_append_right (Nat.le_refl _), Nat.sub_self]; rfl) ht hin hdg (fun H1 locs1 hP hD hS => ?_)
  rw [hi, arL_up hv, List.set_append_right _ _ (Nat.le_refl _), Nat.sub_self] at hP hD
  exact kk H1 locs1 ⟨hP, hD, hS⟩
theorem r_newq (S : CallFix p m c cc nL s args Ts own) (hK : va_K D vwCl tys s) {cA : ClassId} {C : String} {t0 : Nat} (ht : tys[t0]? = some (cA, .object C)) (hw : RD D V A H0 H locs) (hA : ∀ q, H0.size ≤ q → A q) {index : Nat} (hcl : (Cond.classLink own index C).before args s = true) (hover : va_AO C s) {n' : Nat} (hn : n' ≤ 100000) (hcells : cells + 1 ≤ R.cells) (hslots : slots + n' ≤ R.slots) (hdg : decode cc pc = .ok (.anewarray index, 3)) {x : Int32} (hx : x = iI (n' : Int))
    (kk : ∀ (q : Nat) (H1 : Heap), RD D (V ++ [(q, .inl (cA, n', .inr (.inr (.inr (.inr (fun _ => none))))))]) A H0 H1 locs → W p l e R s m args below meth c H1 locs (cells + 1) (slots + n') Q (F0 m (pc + 3) ls (.ref q :: rest))) : W p l e R s m args below meth c H locs cells slots Q (F0 m pc ls (.int x :: rest)) := by
  subst hx
  refine va_newq S.1 S.2.1 S.2.2.2.1 hcl hover hK hw.1 hw.2.1 hw.2.2 hA (N' := n') (by rw [show (0 : Int32) = iI 0 from rfl, iI_lt (by omega) (by omega)]; omega) (by rw [iI_cl (by omega)]; exact Int.toNat_natCast n') (by omega) hcells hslots hdg (fun q cB H1 hK1 hP hD hS => ?_)
  obtain ⟨k1, c1, -, -, -, f1⟩ := (hK1.2 tys.length (cB, .object C) (by rw [List.getElem?_append_right (Nat.le_refl _), Nat.sub_self]; rfl)).2
  obtain ⟨k2, c2, -, -, -, f2⟩ := (hK.2 t0 _ ht).2
  have e : cB = cA := Option.some.inj (f1.symm.trans f2)
  subst e
  exact kk q H1 ⟨hP, hD, hS⟩
theorem RP_sub {U : State} {V' : va_W} (hw : RD D V A s.heap H locs) (hK : va_K D vwCl tys s) (is : List Nat) (hn : va_nd is = true) (h1 : is.filterMap (fun i => V[i]?) = V') (h2 : is.map (fun i => V[i]?) = V'.map some) (hU : U.heap = H) (hW : s.WarmedH U.vm) : RP D tys V' H.size U :=
  ⟨by rw [hU], by rw [hU]; exact hw.1.sub is h1, ⟨(hw.2.1.sub is hn h2).1, fun _ _ _ => trivial⟩, va_K.moved hW.alike hK⟩
theorem RD_join {wc wr w1 : va_W} {H1 : Heap} {locs1 : List Loc} {t : State} (hw : RD D V A s.heap H locs) (hA : ∀ q, s.heap.size ≤ q → A q) (isC isR : List Nat) (hC : isC.map (fun i => V[i]?) = wc.map some) (hR : isR.map (fun i => V[i]?) = wr.map some) (hn : va_nd isR = true) (hdis : ∀ i ∈ isR, i ∉ isC)
    (hk : ∀ q : Nat, q < H.size → ¬ va_A wc H.size q → H1[q]? = H[q]?) (ht : t.heap = H1) (hB : RE D w1 (va_A wc H.size) t) (hS : va_S A s.heap H1 locs1) : RD D (wr ++ w1) A s.heap H1 locs1 := by
  have j := va_join hw.1 hw.2.1 isC isR hC hR hn hdis hk (va_free hw.2.1 hw.2.2 hA isC hC) (by rw [← ht]; exact hB.1) hB.2
  exact ⟨j.1, j.2, hS⟩
end RW5
set_option maxHeartbeats 4000000 in
set_option maxRecDepth 100000 in
theorem c_X0_init (l : Launch) {D : va_G} {tys : List (ClassId × FieldType)} {sz q0 : Nat} {cI : ClassId} (ht : tys[0]? = some (cI, .int)) : Met l yX0_init wsX0_init ({ frames := 1, cells := 0, slots := 0, locals := 12 } : Room) (va_Pc [.ref q0] (RP D tys [(q0, .inr (0, [.int 0, .int 0]))] sz)) (va_Qv (fun _ : Unit => True) (fun _ t => RE D [(q0, .inr (0, [.int 0, .int 0]))] (va_A [(q0, .inr (0, [.int 0, .int 0]))] sz) t) (va_A [(q0, .inr (0, [.int 0, .int 0]))] sz)) 0 0 (va_A [(q0, .inr (0, [.int 0, .int 0]))] sz) := by
  refine metR (by decide) rfl (Nat.le_of_ble_eq_true rfl) ?_
  intro p e s m args below meth c ls S hr hlk hsz hA hK hw hl hmn
  have S : CallFix p m c cX0_init 1 s args wsX0_init RX0 := S
  obtain ⟨hx, hb, hml, hown, hts⟩ := id S
  have hl : lv_has ls 1 [(0, .ref q0)] := hl
  refine lv_aload_n hx hb dX0_init_0 rfl (lv_at hl 0 rfl) ?_
  refine W.objInit hx hb hown (hts (.methodLink RX0 1 objectInit) (by decide +kernel)) (hts (.instanceMethod objectInit) (by decide +kernel)) (hts (.code objectInit ⟨#[0xb1]⟩ 1 none) (by decide +kernel)) rfl (by rw [hml]; exact hl.1) rfl dX0_init_1 (Nat.le_of_ble_eq_true rfl) (Nat.le_of_ble_eq_true rfl) ?_
  refine W.eq (g2 := F0 m 4 ls []) rfl ?_
  exact W.vret hx hb hr (fun t ht1 hW => ⟨⟨(), rfl, trivial, ⟨by rw [ht1]; exact hw.1, hw.2.1⟩⟩, hw.2.2.F ht1⟩) hw.2.2.2.2 dX0_init_4
set_option maxHeartbeats 4000000 in
set_option maxRecDepth 100000 in
theorem c_X1_init (l : Launch) {D : va_G} {tys : List (ClassId × FieldType)} {sz q0 : Nat} {cI : ClassId} (ht : tys[0]? = some (cI, .int)) : Met l yX1_init wsX1_init ({ frames := 1, cells := 4, slots := 24, locals := 12 } : Room) (va_Pc [.ref q0] (RP D tys [(q0, .inr (1, [.int 0, .int 0, .int 0, .int 0, .int 0, .null, .null, .null, .null]))] sz)) (va_Qv (fun _ : Unit => True) (fun _ t => ∃ q1 q2 q3 q4, RE D [(q0, .inr (1, [.int 0, .int 0, .int 90, .int 0, .int (-1), .ref q1, .ref q2, .ref q3, .ref q4])), (q1, .inl (cI, 6, .inl (fun _ => 0))), (q2, .inl (cI, 6, .inl (fun _ => 0))), (q3, .inl (cI, 6, .inl (fun _ => 0))), (q4, .inl (cI, 6, .inl (fun _ => 0)))] (va_A [(q0, .inr (1, [.int 0, .int 0, .int 0, .int 0, .int 0, .null, .null, .null, .null]))] sz) t) (va_A [(q0, .inr (1, [.int 0, .int 0, .int 0, .int 0, .int 0, .null, .null, .null, .null]))] sz)) 4 24 (va_A [(q0, .inr (1, [.int 0, .int 0, .int 0, .int 0, .int 0, .null, .null, .null, .null]))] sz) := by
  refine metR (by decide) rfl (Nat.le_of_ble_eq_true rfl) ?_
  intro p e s m args below meth c ls S hr hlk hsz hA hK hw hl hmn
  have S : CallFix p m c cX1_init 1 s args wsX1_init RX1 := S
  obtain ⟨hx, hb, hml, hown, hts⟩ := id S
  have hl : lv_has ls 1 [(0, .ref q0)] := hl
  have hinX1 : ∀ w ∈ wsX10, w ∈ wsX1_init := by decide +kernel
  refine lv_aload_n hx hb dX1_init_0 rfl (lv_at hl 0 rfl) ?_
  refine W.objInit hx hb hown (hts (.methodLink RX1 3 objectInit) (by decide +kernel)) (hts (.instanceMethod objectInit) (by decide +kernel)) (hts (.code objectInit ⟨#[0xb1]⟩ 1 none) (by decide +kernel)) rfl (by rw [hml]; exact hl.1) rfl dX1_init_1 (Nat.le_of_ble_eq_true rfl) (Nat.le_of_ble_eq_true rfl) ?_
  refine W.eq (g2 := F0 m 4 ls []) rfl ?_
  refine lv_aload_n hx hb dX1_init_4 rfl (lv_at hl 0 rfl) ?_
  refine lv_bipush (v := 90) hx hb dX1_init_5 (by decide) ?_
  refine va_put (D := D) (ci := 1) (v := .int 90) (ty := tyX1 2) (C := RX1) (T := TX1) (N := 9) (fs := [.int 0, .int 0, .int 0, .int 0, .int 0, .null, .null, .null, .null]) hx hb hts hinX1 tyX1 tyX1_ok nmX1 hown hK hw.1 hw.2.1 hw.2.2 0 rfl rfl 2 (by decide) (hts (.fieldLink RX1 9 "SoupByRank$Court" "heat" "I") (by decide +kernel)) (fun _ h9 => h9) rfl (by decide +kernel) rfl rfl (Nat.le_of_ble_eq_true rfl) dX1_init_7 (fun H locs hP hD hS => ?_)
  have hw : RD D [(q0, .inr (1, [.int 0, .int 0, .int 90, .int 0, .int 0, .null, .null, .null, .null]))] (va_A [(q0, .inr (1, [.int 0, .int 0, .int 0, .int 0, .int 0, .null, .null, .null, .null]))] sz) s.heap H _ := ⟨hP, hD, hS⟩
  refine W.eq (g2 := F0 m 10 ls []) rfl ?_
  refine lv_aload_n hx hb dX1_init_10 rfl (lv_at hl 0 rfl) ?_
  refine lv_iconst (v := (-1)) hx hb dX1_init_11 (by decide) ?_
  refine va_put (D := D) (ci := 1) (v := .int (-1)) (ty := tyX1 4) (C := RX1) (T := TX1) (N := 9) (fs := [.int 0, .int 0, .int 90, .int 0, .int 0, .null, .null, .null, .null]) hx hb hts hinX1 tyX1 tyX1_ok nmX1 hown hK hw.1 hw.2.1 hw.2.2 0 rfl rfl 4 (by decide) (hts (.fieldLink RX1 15 "SoupByRank$Court" "away" "I") (by decide +kernel)) (fun _ h9 => h9) rfl (by decide +kernel) rfl rfl (Nat.le_of_ble_eq_true rfl) dX1_init_12 (fun H locs hP hD hS => ?_)
  have hw : RD D [(q0, .inr (1, [.int 0, .int 0, .int 90, .int 0, .int (-1), .null, .null, .null, .null]))] (va_A [(q0, .inr (1, [.int 0, .int 0, .int 0, .int 0, .int 0, .null, .null, .null, .null]))] sz) s.heap H _ := ⟨hP, hD, hS⟩
  refine W.eq (g2 := F0 m 15 ls []) rfl ?_
  refine lv_aload_n hx hb dX1_init_15 rfl (lv_at hl 0 rfl) ?_
  refine lv_bipush (v := 6) hx hb dX1_init_16 (by decide) ?_
  refine r_newi (n' := 6) S hK ht hw hA (hts (.arrayClass .int) (by decide +kernel)) (Nat.le_of_ble_eq_true rfl) (Nat.le_of_ble_eq_true rfl) (Nat.le_of_ble_eq_true rfl) dX1_init_18 rfl (fun q1 H hw => ?_)
  refine W.widen (k := 1) (n := 6) (Nat.le_of_ble_eq_true rfl) (Nat.le_of_ble_eq_true rfl) ?_
  have hw : RD D [(q0, .inr (1, [.int 0, .int 0, .int 90, .int 0, .int (-1), .null, .null, .null, .null])), (q1, .inl (cI, 6, .inl (fun _ => 0)))] (va_A [(q0, .inr (1, [.int 0, .int 0, .int 0, .int 0, .int 0, .null, .null, .null, .null]))] sz) s.heap H _ := hw
  refine va_putF (D := D) (ci := 1) (v := .ref q1) (ty := tyX1 5) (C := RX1) (T := TX1) (N := 9) (fs := [.int 0, .int 0, .int 90, .int 0, .int (-1), .null, .null, .null, .null]) hx hb hts hinX1 tyX1 tyX1_ok nmX1 hown hK hw.1 hw.2.1 hw.2.2 0 rfl rfl 5 (by decide) (hts (.fieldLink RX1 18 "SoupByRank$Court" "kinds" "[I") (by decide +kernel)) (fun _ h9 => h9) rfl hmn rfl (by decide +kernel) rfl rfl (Nat.le_of_ble_eq_true rfl) dX1_init_20 (fun H locs hP hD hS => ?_)
  have hw : RD D [(q0, .inr (1, [.int 0, .int 0, .int 90, .int 0, .int (-1), .ref q1, .null, .null, .null])), (q1, .inl (cI, 6, .inl (fun _ => 0)))] (va_A [(q0, .inr (1, [.int 0, .int 0, .int 0, .int 0, .int 0, .null, .null, .null, .null]))] sz) s.heap H _ := ⟨hP, hD, hS⟩
  refine W.eq (g2 := F0 m 23 ls []) rfl ?_
  refine lv_aload_n hx hb dX1_init_23 rfl (lv_at hl 0 rfl) ?_
  refine lv_bipush (v := 6) hx hb dX1_init_24 (by decide) ?_
  refine r_newi (n' := 6) S hK ht hw hA (hts (.arrayClass .int) (by decide +kernel)) (Nat.le_of_ble_eq_true rfl) (Nat.le_of_ble_eq_true rfl) (Nat.le_of_ble_eq_true rfl) dX1_init_26 rfl (fun q2 H hw => ?_)
  refine W.widen (k := 2) (n := 12) (Nat.le_of_ble_eq_true rfl) (Nat.le_of_ble_eq_true rfl) ?_
  have hw : RD D [(q0, .inr (1, [.int 0, .int 0, .int 90, .int 0, .int (-1), .ref q1, .null, .null, .null])), (q1, .inl (cI, 6, .inl (fun _ => 0))), (q2, .inl (cI, 6, .inl (fun _ => 0)))] (va_A [(q0, .inr (1, [.int 0, .int 0, .int 0, .int 0, .int 0, .null, .null, .null, .null]))] sz) s.heap H _ := hw
  refine va_putF (D := D) (ci := 1) (v := .ref q2) (ty := tyX1 6) (C := RX1) (T := TX1) (N := 9) (fs := [.int 0, .int 0, .int 90, .int 0, .int (-1), .ref q1, .null, .null, .null]) hx hb hts hinX1 tyX1 tyX1_ok nmX1 hown hK hw.1 hw.2.1 hw.2.2 0 rfl rfl 6 (by decide) (hts (.fieldLink RX1 22 "SoupByRank$Court" "mores" "[I") (by decide +kernel)) (fun _ h9 => h9) rfl hmn rfl (by decide +kernel) rfl rfl (Nat.le_of_ble_eq_true rfl) dX1_init_28 (fun H locs hP hD hS => ?_)
  have hw : RD D [(q0, .inr (1, [.int 0, .int 0, .int 90, .int 0, .int (-1), .ref q1, .ref q2, .null, .null])), (q1, .inl (cI, 6, .inl (fun _ => 0))), (q2, .inl (cI, 6, .inl (fun _ => 0)))] (va_A [(q0, .inr (1, [.int 0, .int 0, .int 0, .int 0, .int 0, .null, .null, .null, .null]))] sz) s.heap H _ := ⟨hP, hD, hS⟩
  refine W.eq (g2 := F0 m 31 ls []) rfl ?_
  refine lv_aload_n hx hb dX1_init_31 rfl (lv_at hl 0 rfl) ?_
  refine lv_bipush (v := 6) hx hb dX1_init_32 (by decide) ?_
  refine r_newi (n' := 6) S hK ht hw hA (hts (.arrayClass .int) (by decide +kernel)) (Nat.le_of_ble_eq_true rfl) (Nat.le_of_ble_eq_true rfl) (Nat.le_of_ble_eq_true rfl) dX1_init_34 rfl (fun q3 H hw => ?_)
  refine W.widen (k := 3) (n := 18) (Nat.le_of_ble_eq_true rfl) (Nat.le_of_ble_eq_true rfl) ?_
  have hw : RD D [(q0, .inr (1, [.int 0, .int 0, .int 90, .int 0, .int (-1), .ref q1, .ref q2, .null, .null])), (q1, .inl (cI, 6, .inl (fun _ => 0))), (q2, .inl (cI, 6, .inl (fun _ => 0))), (q3, .inl (cI, 6, .inl (fun _ => 0)))] (va_A [(q0, .inr (1, [.int 0, .int 0, .int 0, .int 0, .int 0, .null, .null, .null, .null]))] sz) s.heap H _ := hw
  refine va_putF (D := D) (ci := 1) (v := .ref q3) (ty := tyX1 7) (C := RX1) (T := TX1) (N := 9) (fs := [.int 0, .int 0, .int 90, .int 0, .int (-1), .ref q1, .ref q2, .null, .null]) hx hb hts hinX1 tyX1 tyX1_ok nmX1 hown hK hw.1 hw.2.1 hw.2.2 0 rfl rfl 7 (by decide) (hts (.fieldLink RX1 25 "SoupByRank$Court" "ranks" "[I") (by decide +kernel)) (fun _ h9 => h9) rfl hmn rfl (by decide +kernel) rfl rfl (Nat.le_of_ble_eq_true rfl) dX1_init_36 (fun H locs hP hD hS => ?_)
  have hw : RD D [(q0, .inr (1, [.int 0, .int 0, .int 90, .int 0, .int (-1), .ref q1, .ref q2, .ref q3, .null])), (q1, .inl (cI, 6, .inl (fun _ => 0))), (q2, .inl (cI, 6, .inl (fun _ => 0))), (q3, .inl (cI, 6, .inl (fun _ => 0)))] (va_A [(q0, .inr (1, [.int 0, .int 0, .int 0, .int 0, .int 0, .null, .null, .null, .null]))] sz) s.heap H _ := ⟨hP, hD, hS⟩
  refine W.eq (g2 := F0 m 39 ls []) rfl ?_
  refine lv_aload_n hx hb dX1_init_39 rfl (lv_at hl 0 rfl) ?_
  refine lv_bipush (v := 6) hx hb dX1_init_40 (by decide) ?_
  refine r_newi (n' := 6) S hK ht hw hA (hts (.arrayClass .int) (by decide +kernel)) (Nat.le_of_ble_eq_true rfl) (Nat.le_of_ble_eq_true rfl) (Nat.le_of_ble_eq_true rfl) dX1_init_42 rfl (fun q4 H hw => ?_)
  refine W.widen (k := 4) (n := 24) (Nat.le_of_ble_eq_true rfl) (Nat.le_of_ble_eq_true rfl) ?_
  have hw : RD D [(q0, .inr (1, [.int 0, .int 0, .int 90, .int 0, .int (-1), .ref q1, .ref q2, .ref q3, .null])), (q1, .inl (cI, 6, .inl (fun _ => 0))), (q2, .inl (cI, 6, .inl (fun _ => 0))), (q3, .inl (cI, 6, .inl (fun _ => 0))), (q4, .inl (cI, 6, .inl (fun _ => 0)))] (va_A [(q0, .inr (1, [.int 0, .int 0, .int 0, .int 0, .int 0, .null, .null, .null, .null]))] sz) s.heap H _ := hw
  refine va_putF (D := D) (ci := 1) (v := .ref q4) (ty := tyX1 8) (C := RX1) (T := TX1) (N := 9) (fs := [.int 0, .int 0, .int 90, .int 0, .int (-1), .ref q1, .ref q2, .ref q3, .null]) hx hb hts hinX1 tyX1 tyX1_ok nmX1 hown hK hw.1 hw.2.1 hw.2.2 0 rfl rfl 8 (by decide) (hts (.fieldLink RX1 28 "SoupByRank$Court" "moods" "[I") (by decide +kernel)) (fun _ h9 => h9) rfl hmn rfl (by decide +kernel) rfl rfl (Nat.le_of_ble_eq_true rfl) dX1_init_44 (fun H locs hP hD hS => ?_)
  have hw : RD D [(q0, .inr (1, [.int 0, .int 0, .int 90, .int 0, .int (-1), .ref q1, .ref q2, .ref q3, .ref q4])), (q1, .inl (cI, 6, .inl (fun _ => 0))), (q2, .inl (cI, 6, .inl (fun _ => 0))), (q3, .inl (cI, 6, .inl (fun _ => 0))), (q4, .inl (cI, 6, .inl (fun _ => 0)))] (va_A [(q0, .inr (1, [.int 0, .int 0, .int 0, .int 0, .int 0, .null, .null, .null, .null]))] sz) s.heap H _ := ⟨hP, hD, hS⟩
  refine W.eq (g2 := F0 m 47 ls []) rfl ?_
  exact W.vret hx hb hr (fun t ht1 hW => ⟨⟨(), rfl, trivial, q1, q2, q3, q4, ⟨by rw [ht1]; exact hw.1, hw.2.1⟩⟩, hw.2.2.F ht1⟩) hw.2.2.2.2 dX1_init_47
set_option maxHeartbeats 4000000 in
set_option maxRecDepth 100000 in
theorem c_X2_init (l : Launch) {D : va_G} {tys : List (ClassId × FieldType)} {sz q0 : Nat} {cI : ClassId} (ht : tys[0]? = some (cI, .int)) : Met l yX2_init wsX2_init ({ frames := 1, cells := 8, slots := 202, locals := 12 } : Room) (va_Pc [.ref q0] (RP D tys [(q0, .inr (2, [.null, .null, .null, .null, .null, .null, .null, .null, .int 0, .int 0, .int 0]))] sz)) (va_Qv (fun _ : Unit => True) (fun _ t => ∃ q1 q2 q3 q4 q5 q6 q7 q8, RE D [(q0, .inr (2, [.ref q1, .ref q2, .ref q3, .ref q4, .ref q5, .ref q6, .ref q7, .ref q8, .int 0, .int 0, .int 0])), (q1, .inl (cI, 6, .inl (fun _ => 0))), (q2, .inl (cI, 6, .inl (fun _ => 0))), (q3, .inl (cI, 6, .inl (fun _ => 0))), (q4, .inl (cI, 6, .inl (fun _ => 0))), (q5, .inl (cI, 6, .inl (fun _ => 0))), (q6, .inl (cI, 6, .inl (fun _ => 0))), (q7, .inl (cI, 6, .inl (fun _ => 0))), (q8, .inl (cI, 160, .inl (fun _ => 0)))] (va_A [(q0, .inr (2, [.null, .null, .null, .null, .null, .null, .null, .null, .int 0, .int 0, .int 0]))] sz) t) (va_A [(q0, .inr (2, [.null, .null, .null, .null, .null, .null, .null, .null, .int 0, .int 0, .int 0]))] sz)) 8 202 (va_A [(q0, .inr (2, [.null, .null, .null, .null, .null, .null, .null, .null, .int 0, .int 0, .int 0]))] sz) := by
  refine metR (by decide) rfl (Nat.le_of_ble_eq_true rfl) ?_
  intro p e s m args below meth c ls S hr hlk hsz hA hK hw hl hmn
  have S : CallFix p m c cX2_init 1 s args wsX2_init RX2 := S
  obtain ⟨hx, hb, hml, hown, hts⟩ := id S
  have hl : lv_has ls 1 [(0, .ref q0)] := hl
  have hinX2 : ∀ w ∈ wsX20, w ∈ wsX2_init := by decide +kernel
  refine lv_aload_n hx hb dX2_init_0 rfl (lv_at hl 0 rfl) ?_
  refine W.objInit hx hb hown (hts (.methodLink RX2 3 objectInit) (by decide +kernel)) (hts (.instanceMethod objectInit) (by decide +kernel)) (hts (.code objectInit ⟨#[0xb1]⟩ 1 none) (by decide +kernel)) rfl (by rw [hml]; exact hl.1) rfl dX2_init_1 (Nat.le_of_ble_eq_true rfl) (Nat.le_of_ble_eq_true rfl) ?_
  refine W.eq (g2 := F0 m 4 ls []) rfl ?_
  refine lv_aload_n hx hb dX2_init_4 rfl (lv_at hl 0 rfl) ?_
  refine lv_bipush (v := 6) hx hb dX2_init_5 (by decide) ?_
  refine r_newi (n' := 6) S hK ht hw hA (hts (.arrayClass .int) (by decide +kernel)) (Nat.le_of_ble_eq_true rfl) (Nat.le_of_ble_eq_true rfl) (Nat.le_of_ble_eq_true rfl) dX2_init_7 rfl (fun q1 H hw => ?_)
  refine W.widen (k := 1) (n := 6) (Nat.le_of_ble_eq_true rfl) (Nat.le_of_ble_eq_true rfl) ?_
  have hw : RD D [(q0, .inr (2, [.null, .null, .null, .null, .null, .null, .null, .null, .int 0, .int 0, .int 0])), (q1, .inl (cI, 6, .inl (fun _ => 0)))] (va_A [(q0, .inr (2, [.null, .null, .null, .null, .null, .null, .null, .null, .int 0, .int 0, .int 0]))] sz) s.heap H _ := hw
  refine va_putF (D := D) (ci := 2) (v := .ref q1) (ty := tyX2 0) (C := RX2) (T := TX2) (N := 11) (fs := [.null, .null, .null, .null, .null, .null, .null, .null, .int 0, .int 0, .int 0]) hx hb hts hinX2 tyX2 tyX2_ok nmX2 hown hK hw.1 hw.2.1 hw.2.2 0 rfl rfl 0 (by decide) (hts (.fieldLink RX2 9 "SoupByRank$Evening" "line" "[I") (by decide +kernel)) (fun _ h9 => h9) rfl hmn rfl (by decide +kernel) rfl rfl (Nat.le_of_ble_eq_true rfl) dX2_init_9 (fun H locs hP hD hS => ?_)
  have hw : RD D [(q0, .inr (2, [.ref q1, .null, .null, .null, .null, .null, .null, .null, .int 0, .int 0, .int 0])), (q1, .inl (cI, 6, .inl (fun _ => 0)))] (va_A [(q0, .inr (2, [.null, .null, .null, .null, .null, .null, .null, .null, .int 0, .int 0, .int 0]))] sz) s.heap H _ := ⟨hP, hD, hS⟩
  refine W.eq (g2 := F0 m 12 ls []) rfl ?_
  refine lv_aload_n hx hb dX2_init_12 rfl (lv_at hl 0 rfl) ?_
  refine lv_bipush (v := 6) hx hb dX2_init_13 (by decide) ?_
  refine r_newi (n' := 6) S hK ht hw hA (hts (.arrayClass .int) (by decide +kernel)) (Nat.le_of_ble_eq_true rfl) (Nat.le_of_ble_eq_true rfl) (Nat.le_of_ble_eq_true rfl) dX2_init_15 rfl (fun q2 H hw => ?_)
  refine W.widen (k := 2) (n := 12) (Nat.le_of_ble_eq_true rfl) (Nat.le_of_ble_eq_true rfl) ?_
  have hw : RD D [(q0, .inr (2, [.ref q1, .null, .null, .null, .null, .null, .null, .null, .int 0, .int 0, .int 0])), (q1, .inl (cI, 6, .inl (fun _ => 0))), (q2, .inl (cI, 6, .inl (fun _ => 0)))] (va_A [(q0, .inr (2, [.null, .null, .null, .null, .null, .null, .null, .null, .int 0, .int 0, .int 0]))] sz) s.heap H _ := hw
  refine va_putF (D := D) (ci := 2) (v := .ref q2) (ty := tyX2 1) (C := RX2) (T := TX2) (N := 11) (fs := [.ref q1, .null, .null, .null, .null, .null, .null, .null, .int 0, .int 0, .int 0]) hx hb hts hinX2 tyX2 tyX2_ok nmX2 hown hK hw.1 hw.2.1 hw.2.2 0 rfl rfl 1 (by decide) (hts (.fieldLink RX2 15 "SoupByRank$Evening" "down" "[I") (by decide +kernel)) (fun _ h9 => h9) rfl hmn rfl (by decide +kernel) rfl rfl (Nat.le_of_ble_eq_true rfl) dX2_init_17 (fun H locs hP hD hS => ?_)
  have hw : RD D [(q0, .inr (2, [.ref q1, .ref q2, .null, .null, .null, .null, .null, .null, .int 0, .int 0, .int 0])), (q1, .inl (cI, 6, .inl (fun _ => 0))), (q2, .inl (cI, 6, .inl (fun _ => 0)))] (va_A [(q0, .inr (2, [.null, .null, .null, .null, .null, .null, .null, .null, .int 0, .int 0, .int 0]))] sz) s.heap H _ := ⟨hP, hD, hS⟩
  refine W.eq (g2 := F0 m 20 ls []) rfl ?_
  refine lv_aload_n hx hb dX2_init_20 rfl (lv_at hl 0 rfl) ?_
  refine lv_bipush (v := 6) hx hb dX2_init_21 (by decide) ?_
  refine r_newi (n' := 6) S hK ht hw hA (hts (.arrayClass .int) (by decide +kernel)) (Nat.le_of_ble_eq_true rfl) (Nat.le_of_ble_eq_true rfl) (Nat.le_of_ble_eq_true rfl) dX2_init_23 rfl (fun q3 H hw => ?_)
  refine W.widen (k := 3) (n := 18) (Nat.le_of_ble_eq_true rfl) (Nat.le_of_ble_eq_true rfl) ?_
  have hw : RD D [(q0, .inr (2, [.ref q1, .ref q2, .null, .null, .null, .null, .null, .null, .int 0, .int 0, .int 0])), (q1, .inl (cI, 6, .inl (fun _ => 0))), (q2, .inl (cI, 6, .inl (fun _ => 0))), (q3, .inl (cI, 6, .inl (fun _ => 0)))] (va_A [(q0, .inr (2, [.null, .null, .null, .null, .null, .null, .null, .null, .int 0, .int 0, .int 0]))] sz) s.heap H _ := hw
  refine va_putF (D := D) (ci := 2) (v := .ref q3) (ty := tyX2 2) (C := RX2) (T := TX2) (N := 11) (fs := [.ref q1, .ref q2, .null, .null, .null, .null, .null, .null, .int 0, .int 0, .int 0]) hx hb hts hinX2 tyX2 tyX2_ok nmX2 hown hK hw.1 hw.2.1 hw.2.2 0 rfl rfl 2 (by decide) (hts (.fieldLink RX2 18 "SoupByRank$Evening" "begins" "[I") (by decide +kernel)) (fun _ h9 => h9) rfl hmn rfl (by decide +kernel) rfl rfl (Nat.le_of_ble_eq_true rfl) dX2_init_25 (fun H locs hP hD hS => ?_)
  have hw : RD D [(q0, .inr (2, [.ref q1, .ref q2, .ref q3, .null, .null, .null, .null, .null, .int 0, .int 0, .int 0])), (q1, .inl (cI, 6, .inl (fun _ => 0))), (q2, .inl (cI, 6, .inl (fun _ => 0))), (q3, .inl (cI, 6, .inl (fun _ => 0)))] (va_A [(q0, .inr (2, [.null, .null, .null, .null, .null, .null, .null, .null, .int 0, .int 0, .int 0]))] sz) s.heap H _ := ⟨hP, hD, hS⟩
  refine W.eq (g2 := F0 m 28 ls []) rfl ?_
  refine lv_aload_n hx hb dX2_init_28 rfl (lv_at hl 0 rfl) ?_
  refine lv_bipush (v := 6) hx hb dX2_init_29 (by decide) ?_
  refine r_newi (n' := 6) S hK ht hw hA (hts (.arrayClass .int) (by decide +kernel)) (Nat.le_of_ble_eq_true rfl) (Nat.le_of_ble_eq_true rfl) (Nat.le_of_ble_eq_true rfl) dX2_init_31 rfl (fun q4 H hw => ?_)
  refine W.widen (k := 4) (n := 24) (Nat.le_of_ble_eq_true rfl) (Nat.le_of_ble_eq_true rfl) ?_
  have hw : RD D [(q0, .inr (2, [.ref q1, .ref q2, .ref q3, .null, .null, .null, .null, .null, .int 0, .int 0, .int 0])), (q1, .inl (cI, 6, .inl (fun _ => 0))), (q2, .inl (cI, 6, .inl (fun _ => 0))), (q3, .inl (cI, 6, .inl (fun _ => 0))), (q4, .inl (cI, 6, .inl (fun _ => 0)))] (va_A [(q0, .inr (2, [.null, .null, .null, .null, .null, .null, .null, .null, .int 0, .int 0, .int 0]))] sz) s.heap H _ := hw
  refine va_putF (D := D) (ci := 2) (v := .ref q4) (ty := tyX2 3) (C := RX2) (T := TX2) (N := 11) (fs := [.ref q1, .ref q2, .ref q3, .null, .null, .null, .null, .null, .int 0, .int 0, .int 0]) hx hb hts hinX2 tyX2 tyX2_ok nmX2 hown hK hw.1 hw.2.1 hw.2.2 0 rfl rfl 3 (by decide) (hts (.fieldLink RX2 21 "SoupByRank$Evening" "gets" "[I") (by decide +kernel)) (fun _ h9 => h9) rfl hmn rfl (by decide +kernel) rfl rfl (Nat.le_of_ble_eq_true rfl) dX2_init_33 (fun H locs hP hD hS => ?_)
  have hw : RD D [(q0, .inr (2, [.ref q1, .ref q2, .ref q3, .ref q4, .null, .null, .null, .null, .int 0, .int 0, .int 0])), (q1, .inl (cI, 6, .inl (fun _ => 0))), (q2, .inl (cI, 6, .inl (fun _ => 0))), (q3, .inl (cI, 6, .inl (fun _ => 0))), (q4, .inl (cI, 6, .inl (fun _ => 0)))] (va_A [(q0, .inr (2, [.null, .null, .null, .null, .null, .null, .null, .null, .int 0, .int 0, .int 0]))] sz) s.heap H _ := ⟨hP, hD, hS⟩
  refine W.eq (g2 := F0 m 36 ls []) rfl ?_
  refine lv_aload_n hx hb dX2_init_36 rfl (lv_at hl 0 rfl) ?_
  refine lv_bipush (v := 6) hx hb dX2_init_37 (by decide) ?_
  refine r_newi (n' := 6) S hK ht hw hA (hts (.arrayClass .int) (by decide +kernel)) (Nat.le_of_ble_eq_true rfl) (Nat.le_of_ble_eq_true rfl) (Nat.le_of_ble_eq_true rfl) dX2_init_39 rfl (fun q5 H hw => ?_)
  refine W.widen (k := 5) (n := 30) (Nat.le_of_ble_eq_true rfl) (Nat.le_of_ble_eq_true rfl) ?_
  have hw : RD D [(q0, .inr (2, [.ref q1, .ref q2, .ref q3, .ref q4, .null, .null, .null, .null, .int 0, .int 0, .int 0])), (q1, .inl (cI, 6, .inl (fun _ => 0))), (q2, .inl (cI, 6, .inl (fun _ => 0))), (q3, .inl (cI, 6, .inl (fun _ => 0))), (q4, .inl (cI, 6, .inl (fun _ => 0))), (q5, .inl (cI, 6, .inl (fun _ => 0)))] (va_A [(q0, .inr (2, [.null, .null, .null, .null, .null, .null, .null, .null, .int 0, .int 0, .int 0]))] sz) s.heap H _ := hw
  refine va_putF (D := D) (ci := 2) (v := .ref q5) (ty := tyX2 4) (C := RX2) (T := TX2) (N := 11) (fs := [.ref q1, .ref q2, .ref q3, .ref q4, .null, .null, .null, .null, .int 0, .int 0, .int 0]) hx hb hts hinX2 tyX2 tyX2_ok nmX2 hown hK hw.1 hw.2.1 hw.2.2 0 rfl rfl 4 (by decide) (hts (.fieldLink RX2 24 "SoupByRank$Evening" "off" "[I") (by decide +kernel)) (fun _ h9 => h9) rfl hmn rfl (by decide +kernel) rfl rfl (Nat.le_of_ble_eq_true rfl) dX2_init_41 (fun H locs hP hD hS => ?_)
  have hw : RD D [(q0, .inr (2, [.ref q1, .ref q2, .ref q3, .ref q4, .ref q5, .null, .null, .null, .int 0, .int 0, .int 0])), (q1, .inl (cI, 6, .inl (fun _ => 0))), (q2, .inl (cI, 6, .inl (fun _ => 0))), (q3, .inl (cI, 6, .inl (fun _ => 0))), (q4, .inl (cI, 6, .inl (fun _ => 0))), (q5, .inl (cI, 6, .inl (fun _ => 0)))] (va_A [(q0, .inr (2, [.null, .null, .null, .null, .null, .null, .null, .null, .int 0, .int 0, .int 0]))] sz) s.heap H _ := ⟨hP, hD, hS⟩
  refine W.eq (g2 := F0 m 44 ls []) rfl ?_
  refine lv_aload_n hx hb dX2_init_44 rfl (lv_at hl 0 rfl) ?_
  refine lv_bipush (v := 6) hx hb dX2_init_45 (by decide) ?_
  refine r_newi (n' := 6) S hK ht hw hA (hts (.arrayClass .int) (by decide +kernel)) (Nat.le_of_ble_eq_true rfl) (Nat.le_of_ble_eq_true rfl) (Nat.le_of_ble_eq_true rfl) dX2_init_47 rfl (fun q6 H hw => ?_)
  refine W.widen (k := 6) (n := 36) (Nat.le_of_ble_eq_true rfl) (Nat.le_of_ble_eq_true rfl) ?_
  have hw : RD D [(q0, .inr (2, [.ref q1, .ref q2, .ref q3, .ref q4, .ref q5, .null, .null, .null, .int 0, .int 0, .int 0])), (q1, .inl (cI, 6, .inl (fun _ => 0))), (q2, .inl (cI, 6, .inl (fun _ => 0))), (q3, .inl (cI, 6, .inl (fun _ => 0))), (q4, .inl (cI, 6, .inl (fun _ => 0))), (q5, .inl (cI, 6, .inl (fun _ => 0))), (q6, .inl (cI, 6, .inl (fun _ => 0)))] (va_A [(q0, .inr (2, [.null, .null, .null, .null, .null, .null, .null, .null, .int 0, .int 0, .int 0]))] sz) s.heap H _ := hw
  refine va_putF (D := D) (ci := 2) (v := .ref q6) (ty := tyX2 5) (C := RX2) (T := TX2) (N := 11) (fs := [.ref q1, .ref q2, .ref q3, .ref q4, .ref q5, .null, .null, .null, .int 0, .int 0, .int 0]) hx hb hts hinX2 tyX2 tyX2_ok nmX2 hown hK hw.1 hw.2.1 hw.2.2 0 rfl rfl 5 (by decide) (hts (.fieldLink RX2 27 "SoupByRank$Evening" "minds" "[I") (by decide +kernel)) (fun _ h9 => h9) rfl hmn rfl (by decide +kernel) rfl rfl (Nat.le_of_ble_eq_true rfl) dX2_init_49 (fun H locs hP hD hS => ?_)
  have hw : RD D [(q0, .inr (2, [.ref q1, .ref q2, .ref q3, .ref q4, .ref q5, .ref q6, .null, .null, .int 0, .int 0, .int 0])), (q1, .inl (cI, 6, .inl (fun _ => 0))), (q2, .inl (cI, 6, .inl (fun _ => 0))), (q3, .inl (cI, 6, .inl (fun _ => 0))), (q4, .inl (cI, 6, .inl (fun _ => 0))), (q5, .inl (cI, 6, .inl (fun _ => 0))), (q6, .inl (cI, 6, .inl (fun _ => 0)))] (va_A [(q0, .inr (2, [.null, .null, .null, .null, .null, .null, .null, .null, .int 0, .int 0, .int 0]))] sz) s.heap H _ := ⟨hP, hD, hS⟩
  refine W.eq (g2 := F0 m 52 ls []) rfl ?_
  refine lv_aload_n hx hb dX2_init_52 rfl (lv_at hl 0 rfl) ?_
  refine lv_bipush (v := 6) hx hb dX2_init_53 (by decide) ?_
  refine r_newi (n' := 6) S hK ht hw hA (hts (.arrayClass .int) (by decide +kernel)) (Nat.le_of_ble_eq_true rfl) (Nat.le_of_ble_eq_true rfl) (Nat.le_of_ble_eq_true rfl) dX2_init_55 rfl (fun q7 H hw => ?_)
  refine W.widen (k := 7) (n := 42) (Nat.le_of_ble_eq_true rfl) (Nat.le_of_ble_eq_true rfl) ?_
  have hw : RD D [(q0, .inr (2, [.ref q1, .ref q2, .ref q3, .ref q4, .ref q5, .ref q6, .null, .null, .int 0, .int 0, .int 0])), (q1, .inl (cI, 6, .inl (fun _ => 0))), (q2, .inl (cI, 6, .inl (fun _ => 0))), (q3, .inl (cI, 6, .inl (fun _ => 0))), (q4, .inl (cI, 6, .inl (fun _ => 0))), (q5, .inl (cI, 6, .inl (fun _ => 0))), (q6, .inl (cI, 6, .inl (fun _ => 0))), (q7, .inl (cI, 6, .inl (fun _ => 0)))] (va_A [(q0, .inr (2, [.null, .null, .null, .null, .null, .null, .null, .null, .int 0, .int 0, .int 0]))] sz) s.heap H _ := hw
  refine va_putF (D := D) (ci := 2) (v := .ref q7) (ty := tyX2 6) (C := RX2) (T := TX2) (N := 11) (fs := [.ref q1, .ref q2, .ref q3, .ref q4, .ref q5, .ref q6, .null, .null, .int 0, .int 0, .int 0]) hx hb hts hinX2 tyX2 tyX2_ok nmX2 hown hK hw.1 hw.2.1 hw.2.2 0 rfl rfl 6 (by decide) (hts (.fieldLink RX2 32 "SoupByRank$Evening" "names" "[I") (by decide +kernel)) (fun _ h9 => h9) rfl hmn rfl (by decide +kernel) rfl rfl (Nat.le_of_ble_eq_true rfl) dX2_init_57 (fun H locs hP hD hS => ?_)
  have hw : RD D [(q0, .inr (2, [.ref q1, .ref q2, .ref q3, .ref q4, .ref q5, .ref q6, .ref q7, .null, .int 0, .int 0, .int 0])), (q1, .inl (cI, 6, .inl (fun _ => 0))), (q2, .inl (cI, 6, .inl (fun _ => 0))), (q3, .inl (cI, 6, .inl (fun _ => 0))), (q4, .inl (cI, 6, .inl (fun _ => 0))), (q5, .inl (cI, 6, .inl (fun _ => 0))), (q6, .inl (cI, 6, .inl (fun _ => 0))), (q7, .inl (cI, 6, .inl (fun _ => 0)))] (va_A [(q0, .inr (2, [.null, .null, .null, .null, .null, .null, .null, .null, .int 0, .int 0, .int 0]))] sz) s.heap H _ := ⟨hP, hD, hS⟩
  refine W.eq (g2 := F0 m 60 ls []) rfl ?_
  refine lv_aload_n hx hb dX2_init_60 rfl (lv_at hl 0 rfl) ?_
  refine lv_sipush (v := 160) hx hb dX2_init_61 (by decide) ?_
  refine r_newi (n' := 160) S hK ht hw hA (hts (.arrayClass .int) (by decide +kernel)) (Nat.le_of_ble_eq_true rfl) (Nat.le_of_ble_eq_true rfl) (Nat.le_of_ble_eq_true rfl) dX2_init_64 rfl (fun q8 H hw => ?_)
  refine W.widen (k := 8) (n := 202) (Nat.le_of_ble_eq_true rfl) (Nat.le_of_ble_eq_true rfl) ?_
  have hw : RD D [(q0, .inr (2, [.ref q1, .ref q2, .ref q3, .ref q4, .ref q5, .ref q6, .ref q7, .null, .int 0, .int 0, .int 0])), (q1, .inl (cI, 6, .inl (fun _ => 0))), (q2, .inl (cI, 6, .inl (fun _ => 0))), (q3, .inl (cI, 6, .inl (fun _ => 0))), (q4, .inl (cI, 6, .inl (fun _ => 0))), (q5, .inl (cI, 6, .inl (fun _ => 0))), (q6, .inl (cI, 6, .inl (fun _ => 0))), (q7, .inl (cI, 6, .inl (fun _ => 0))), (q8, .inl (cI, 160, .inl (fun _ => 0)))] (va_A [(q0, .inr (2, [.null, .null, .null, .null, .null, .null, .null, .null, .int 0, .int 0, .int 0]))] sz) s.heap H _ := hw
  refine va_putF (D := D) (ci := 2) (v := .ref q8) (ty := tyX2 7) (C := RX2) (T := TX2) (N := 11) (fs := [.ref q1, .ref q2, .ref q3, .ref q4, .ref q5, .ref q6, .ref q7, .null, .int 0, .int 0, .int 0]) hx hb hts hinX2 tyX2 tyX2_ok nmX2 hown hK hw.1 hw.2.1 hw.2.2 0 rfl rfl 7 (by decide) (hts (.fieldLink RX2 35 "SoupByRank$Evening" "stack" "[I") (by decide +kernel)) (fun _ h9 => h9) rfl hmn rfl (by decide +kernel) rfl rfl (Nat.le_of_ble_eq_true rfl) dX2_init_66 (fun H locs hP hD hS => ?_)
  have hw : RD D [(q0, .inr (2, [.ref q1, .ref q2, .ref q3, .ref q4, .ref q5, .ref q6, .ref q7, .ref q8, .int 0, .int 0, .int 0])), (q1, .inl (cI, 6, .inl (fun _ => 0))), (q2, .inl (cI, 6, .inl (fun _ => 0))), (q3, .inl (cI, 6, .inl (fun _ => 0))), (q4, .inl (cI, 6, .inl (fun _ => 0))), (q5, .inl (cI, 6, .inl (fun _ => 0))), (q6, .inl (cI, 6, .inl (fun _ => 0))), (q7, .inl (cI, 6, .inl (fun _ => 0))), (q8, .inl (cI, 160, .inl (fun _ => 0)))] (va_A [(q0, .inr (2, [.null, .null, .null, .null, .null, .null, .null, .null, .int 0, .int 0, .int 0]))] sz) s.heap H _ := ⟨hP, hD, hS⟩
  refine W.eq (g2 := F0 m 69 ls []) rfl ?_
  exact W.vret hx hb hr (fun t ht1 hW => ⟨⟨(), rfl, trivial, q1, q2, q3, q4, q5, q6, q7, q8, ⟨by rw [ht1]; exact hw.1, hw.2.1⟩⟩, hw.2.2.F ht1⟩) hw.2.2.2.2 dX2_init_69
set_option maxHeartbeats 4000000 in
set_option maxRecDepth 100000 in
theorem c_X3_init (l : Launch) {D : va_G} {tys : List (ClassId × FieldType)} {sz q0 : Nat} {cI : ClassId} (ht : tys[0]? = some (cI, .int)) : Met l yX3_init wsX3_init ({ frames := 1, cells := 1, slots := 40, locals := 12 } : Room) (va_Pc [.ref q0] (RP D tys [(q0, .inr (3, [.int 0, .int 0, .null]))] sz)) (va_Qv (fun _ : Unit => True) (fun _ t => ∃ q1, RE D [(q0, .inr (3, [.int (-1), .int 0, .ref q1])), (q1, .inl (cI, 40, .inl (fun _ => 0)))] (va_A [(q0, .inr (3, [.int 0, .int 0, .null]))] sz) t) (va_A [(q0, .inr (3, [.int 0, .int 0, .null]))] sz)) 1 40 (va_A [(q0, .inr (3, [.int 0, .int 0, .null]))] sz) := by
  refine metR (by decide) rfl (Nat.le_of_ble_eq_true rfl) ?_
  intro p e s m args below meth c ls S hr hlk hsz hA hK hw hl hmn
  have S : CallFix p m c cX3_init 1 s args wsX3_init RX3 := S
  obtain ⟨hx, hb, hml, hown, hts⟩ := id S
  have hl : lv_has ls 1 [(0, .ref q0)] := hl
  have hinX3 : ∀ w ∈ wsX30, w ∈ wsX3_init := by decide +kernel
  refine lv_aload_n hx hb dX3_init_0 rfl (lv_at hl 0 rfl) ?_
  refine W.objInit hx hb hown (hts (.methodLink RX3 3 objectInit) (by decide +kernel)) (hts (.instanceMethod objectInit) (by decide +kernel)) (hts (.code objectInit ⟨#[0xb1]⟩ 1 none) (by decide +kernel)) rfl (by rw [hml]; exact hl.1) rfl dX3_init_1 (Nat.le_of_ble_eq_true rfl) (Nat.le_of_ble_eq_true rfl) ?_
  refine W.eq (g2 := F0 m 4 ls []) rfl ?_
  refine lv_aload_n hx hb dX3_init_4 rfl (lv_at hl 0 rfl) ?_
  refine lv_iconst (v := (-1)) hx hb dX3_init_5 (by decide) ?_
  refine va_put (D := D) (ci := 3) (v := .int (-1)) (ty := tyX3 0) (C := RX3) (T := TX3) (N := 3) (fs := [.int 0, .int 0, .null]) hx hb hts hinX3 tyX3 tyX3_ok nmX3 hown hK hw.1 hw.2.1 hw.2.2 0 rfl rfl 0 (by decide) (hts (.fieldLink RX3 9 "SoupByRank$Sheet" "sort" "I") (by decide +kernel)) (fun _ h9 => h9) rfl (by decide +kernel) rfl rfl (Nat.le_of_ble_eq_true rfl) dX3_init_6 (fun H locs hP hD hS => ?_)
  have hw : RD D [(q0, .inr (3, [.int (-1), .int 0, .null]))] (va_A [(q0, .inr (3, [.int 0, .int 0, .null]))] sz) s.heap H _ := ⟨hP, hD, hS⟩
  refine W.eq (g2 := F0 m 9 ls []) rfl ?_
  refine lv_aload_n hx hb dX3_init_9 rfl (lv_at hl 0 rfl) ?_
  refine lv_bipush (v := 40) hx hb dX3_init_10 (by decide) ?_
  refine r_newi (n' := 40) S hK ht hw hA (hts (.arrayClass .int) (by decide +kernel)) (Nat.le_of_ble_eq_true rfl) (Nat.le_of_ble_eq_true rfl) (Nat.le_of_ble_eq_true rfl) dX3_init_12 rfl (fun q1 H hw => ?_)
  refine W.widen (k := 1) (n := 40) (Nat.le_of_ble_eq_true rfl) (Nat.le_of_ble_eq_true rfl) ?_
  have hw : RD D [(q0, .inr (3, [.int (-1), .int 0, .null])), (q1, .inl (cI, 40, .inl (fun _ => 0)))] (va_A [(q0, .inr (3, [.int 0, .int 0, .null]))] sz) s.heap H _ := hw
  refine va_putF (D := D) (ci := 3) (v := .ref q1) (ty := tyX3 2) (C := RX3) (T := TX3) (N := 3) (fs := [.int (-1), .int 0, .null]) hx hb hts hinX3 tyX3 tyX3_ok nmX3 hown hK hw.1 hw.2.1 hw.2.2 0 rfl rfl 2 (by decide) (hts (.fieldLink RX3 15 "SoupByRank$Sheet" "cells" "[I") (by decide +kernel)) (fun _ h9 => h9) rfl hmn rfl (by decide +kernel) rfl rfl (Nat.le_of_ble_eq_true rfl) dX3_init_14 (fun H locs hP hD hS => ?_)
  have hw : RD D [(q0, .inr (3, [.int (-1), .int 0, .ref q1])), (q1, .inl (cI, 40, .inl (fun _ => 0)))] (va_A [(q0, .inr (3, [.int 0, .int 0, .null]))] sz) s.heap H _ := ⟨hP, hD, hS⟩
  refine W.eq (g2 := F0 m 17 ls []) rfl ?_
  exact W.vret hx hb hr (fun t ht1 hW => ⟨⟨(), rfl, trivial, q1, ⟨by rw [ht1]; exact hw.1, hw.2.1⟩⟩, hw.2.2.F ht1⟩) hw.2.2.2.2 dX3_init_17
set_option maxHeartbeats 4000000 in
set_option maxRecDepth 100000 in
theorem c_X4_init (l : Launch) {D : va_G} {tys : List (ClassId × FieldType)} {sz q0 : Nat} {cI : ClassId} (ht : tys[0]? = some (cI, .int)) : Met l yX4_init wsX4_init ({ frames := 1, cells := 3, slots := 323, locals := 12 } : Room) (va_Pc [.ref q0] (RP D tys [(q0, .inr (4, [.null, .int 0, .null, .null, .int 0, .int 0, .int 0, .int 0, .int 0, .int 0]))] sz)) (va_Qv (fun _ : Unit => True) (fun _ t => ∃ q1 q2 q3, RE D [(q0, .inr (4, [.ref q1, .int 0, .ref q2, .ref q3, .int 0, .int 0, .int 0, .int 0, .int 0, .int 0])), (q1, .inl (cI, 160, .inl (fun _ => 0))), (q2, .inl (cI, 160, .inl (fun _ => 0))), (q3, .inl (cI, 3, .inl (fun _ => 0)))] (va_A [(q0, .inr (4, [.null, .int 0, .null, .null, .int 0, .int 0, .int 0, .int 0, .int 0, .int 0]))] sz) t) (va_A [(q0, .inr (4, [.null, .int 0, .null, .null, .int 0, .int 0, .int 0, .int 0, .int 0, .int 0]))] sz)) 3 323 (va_A [(q0, .inr (4, [.null, .int 0, .null, .null, .int 0, .int 0, .int 0, .int 0, .int 0, .int 0]))] sz) := by
  refine metR (by decide) rfl (Nat.le_of_ble_eq_true rfl) ?_
  intro p e s m args below meth c ls S hr hlk hsz hA hK hw hl hmn
  have S : CallFix p m c cX4_init 1 s args wsX4_init RX4 := S
  obtain ⟨hx, hb, hml, hown, hts⟩ := id S
  have hl : lv_has ls 1 [(0, .ref q0)] := hl
  have hinX4 : ∀ w ∈ wsX40, w ∈ wsX4_init := by decide +kernel
  refine lv_aload_n hx hb dX4_init_0 rfl (lv_at hl 0 rfl) ?_
  refine W.objInit hx hb hown (hts (.methodLink RX4 3 objectInit) (by decide +kernel)) (hts (.instanceMethod objectInit) (by decide +kernel)) (hts (.code objectInit ⟨#[0xb1]⟩ 1 none) (by decide +kernel)) rfl (by rw [hml]; exact hl.1) rfl dX4_init_1 (Nat.le_of_ble_eq_true rfl) (Nat.le_of_ble_eq_true rfl) ?_
  refine W.eq (g2 := F0 m 4 ls []) rfl ?_
  refine lv_aload_n hx hb dX4_init_4 rfl (lv_at hl 0 rfl) ?_
  refine lv_sipush (v := 160) hx hb dX4_init_5 (by decide) ?_
  refine r_newi (n' := 160) S hK ht hw hA (hts (.arrayClass .int) (by decide +kernel)) (Nat.le_of_ble_eq_true rfl) (Nat.le_of_ble_eq_true rfl) (Nat.le_of_ble_eq_true rfl) dX4_init_8 rfl (fun q1 H hw => ?_)
  refine W.widen (k := 1) (n := 160) (Nat.le_of_ble_eq_true rfl) (Nat.le_of_ble_eq_true rfl) ?_
  have hw : RD D [(q0, .inr (4, [.null, .int 0, .null, .null, .int 0, .int 0, .int 0, .int 0, .int 0, .int 0])), (q1, .inl (cI, 160, .inl (fun _ => 0)))] (va_A [(q0, .inr (4, [.null, .int 0, .null, .null, .int 0, .int 0, .int 0, .int 0, .int 0, .int 0]))] sz) s.heap H _ := hw
  refine va_putF (D := D) (ci := 4) (v := .ref q1) (ty := tyX4 0) (C := RX4) (T := TX4) (N := 10) (fs := [.null, .int 0, .null, .null, .int 0, .int 0, .int 0, .int 0, .int 0, .int 0]) hx hb hts hinX4 tyX4 tyX4_ok nmX4 hown hK hw.1 hw.2.1 hw.2.2 0 rfl rfl 0 (by decide) (hts (.fieldLink RX4 9 "SoupByRank$Tape" "bytes" "[I") (by decide +kernel)) (fun _ h9 => h9) rfl hmn rfl (by decide +kernel) rfl rfl (Nat.le_of_ble_eq_true rfl) dX4_init_10 (fun H locs hP hD hS => ?_)
  have hw : RD D [(q0, .inr (4, [.ref q1, .int 0, .null, .null, .int 0, .int 0, .int 0, .int 0, .int 0, .int 0])), (q1, .inl (cI, 160, .inl (fun _ => 0)))] (va_A [(q0, .inr (4, [.null, .int 0, .null, .null, .int 0, .int 0, .int 0, .int 0, .int 0, .int 0]))] sz) s.heap H _ := ⟨hP, hD, hS⟩
  refine W.eq (g2 := F0 m 13 ls []) rfl ?_
  refine lv_aload_n hx hb dX4_init_13 rfl (lv_at hl 0 rfl) ?_
  refine lv_sipush (v := 160) hx hb dX4_init_14 (by decide) ?_
  refine r_newi (n' := 160) S hK ht hw hA (hts (.arrayClass .int) (by decide +kernel)) (Nat.le_of_ble_eq_true rfl) (Nat.le_of_ble_eq_true rfl) (Nat.le_of_ble_eq_true rfl) dX4_init_17 rfl (fun q2 H hw => ?_)
  refine W.widen (k := 2) (n := 320) (Nat.le_of_ble_eq_true rfl) (Nat.le_of_ble_eq_true rfl) ?_
  have hw : RD D [(q0, .inr (4, [.ref q1, .int 0, .null, .null, .int 0, .int 0, .int 0, .int 0, .int 0, .int 0])), (q1, .inl (cI, 160, .inl (fun _ => 0))), (q2, .inl (cI, 160, .inl (fun _ => 0)))] (va_A [(q0, .inr (4, [.null, .int 0, .null, .null, .int 0, .int 0, .int 0, .int 0, .int 0, .int 0]))] sz) s.heap H _ := hw
  refine va_putF (D := D) (ci := 4) (v := .ref q2) (ty := tyX4 2) (C := RX4) (T := TX4) (N := 10) (fs := [.ref q1, .int 0, .null, .null, .int 0, .int 0, .int 0, .int 0, .int 0, .int 0]) hx hb hts hinX4 tyX4 tyX4_ok nmX4 hown hK hw.1 hw.2.1 hw.2.2 0 rfl rfl 2 (by decide) (hts (.fieldLink RX4 15 "SoupByRank$Tape" "codes" "[I") (by decide +kernel)) (fun _ h9 => h9) rfl hmn rfl (by decide +kernel) rfl rfl (Nat.le_of_ble_eq_true rfl) dX4_init_19 (fun H locs hP hD hS => ?_)
  have hw : RD D [(q0, .inr (4, [.ref q1, .int 0, .ref q2, .null, .int 0, .int 0, .int 0, .int 0, .int 0, .int 0])), (q1, .inl (cI, 160, .inl (fun _ => 0))), (q2, .inl (cI, 160, .inl (fun _ => 0)))] (va_A [(q0, .inr (4, [.null, .int 0, .null, .null, .int 0, .int 0, .int 0, .int 0, .int 0, .int 0]))] sz) s.heap H _ := ⟨hP, hD, hS⟩
  refine W.eq (g2 := F0 m 22 ls []) rfl ?_
  refine lv_aload_n hx hb dX4_init_22 rfl (lv_at hl 0 rfl) ?_
  refine lv_iconst (v := 3) hx hb dX4_init_23 (by decide) ?_
  refine r_newi (n' := 3) S hK ht hw hA (hts (.arrayClass .int) (by decide +kernel)) (Nat.le_of_ble_eq_true rfl) (Nat.le_of_ble_eq_true rfl) (Nat.le_of_ble_eq_true rfl) dX4_init_24 rfl (fun q3 H hw => ?_)
  refine W.widen (k := 3) (n := 323) (Nat.le_of_ble_eq_true rfl) (Nat.le_of_ble_eq_true rfl) ?_
  have hw : RD D [(q0, .inr (4, [.ref q1, .int 0, .ref q2, .null, .int 0, .int 0, .int 0, .int 0, .int 0, .int 0])), (q1, .inl (cI, 160, .inl (fun _ => 0))), (q2, .inl (cI, 160, .inl (fun _ => 0))), (q3, .inl (cI, 3, .inl (fun _ => 0)))] (va_A [(q0, .inr (4, [.null, .int 0, .null, .null, .int 0, .int 0, .int 0, .int 0, .int 0, .int 0]))] sz) s.heap H _ := hw
  refine va_putF (D := D) (ci := 4) (v := .ref q3) (ty := tyX4 3) (C := RX4) (T := TX4) (N := 10) (fs := [.ref q1, .int 0, .ref q2, .null, .int 0, .int 0, .int 0, .int 0, .int 0, .int 0]) hx hb hts hinX4 tyX4 tyX4_ok nmX4 hown hK hw.1 hw.2.1 hw.2.2 0 rfl rfl 3 (by decide) (hts (.fieldLink RX4 18 "SoupByRank$Tape" "ends" "[I") (by decide +kernel)) (fun _ h9 => h9) rfl hmn rfl (by decide +kernel) rfl rfl (Nat.le_of_ble_eq_true rfl) dX4_init_26 (fun H locs hP hD hS => ?_)
  have hw : RD D [(q0, .inr (4, [.ref q1, .int 0, .ref q2, .ref q3, .int 0, .int 0, .int 0, .int 0, .int 0, .int 0])), (q1, .inl (cI, 160, .inl (fun _ => 0))), (q2, .inl (cI, 160, .inl (fun _ => 0))), (q3, .inl (cI, 3, .inl (fun _ => 0)))] (va_A [(q0, .inr (4, [.null, .int 0, .null, .null, .int 0, .int 0, .int 0, .int 0, .int 0, .int 0]))] sz) s.heap H _ := ⟨hP, hD, hS⟩
  refine W.eq (g2 := F0 m 29 ls []) rfl ?_
  exact W.vret hx hb hr (fun t ht1 hW => ⟨⟨(), rfl, trivial, q1, q2, q3, ⟨by rw [ht1]; exact hw.1, hw.2.1⟩⟩, hw.2.2.F ht1⟩) hw.2.2.2.2 dX4_init_29
