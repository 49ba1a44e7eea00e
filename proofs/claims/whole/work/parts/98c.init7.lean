def GM0 (D : va_G) (ad : Nat → Nat) (cI : ClassId) (SK SV : Nat → Nat) : GW := (D, ad, (fun k => kdMl.getD k (.inl 0)), 24, cI, [(cI, .int)], SK, SV)
theorem GM0_is (D : va_G) (ad : Nat → Nat) (cI : ClassId) (SK SV : Nat → Nat) : isM (GM0 D ad cI SK SV) := ⟨rfl, rfl, rfl⟩
theorem RPG_blind {G : GW} {D : va_G} {tys : List (ClassId × FieldType)} {V : va_W} {sz : Nat} {As : List Value} : FrameBlind (va_Pc As (fun U => RP D tys V sz U ∧ gK G (va_A V sz) U U.heap)) := fun _ _ g mk q => ⟨q.1, ⟨q.2.1.1, q.2.1.2.1, q.2.1.2.2.1, va_K.moved (Vm.Alike.refl _) q.2.1.2.2.2⟩, gK_blind g mk _ q.2.2⟩
theorem metRG {l : Launch} {y : MethodName} {ws ws' : List Cond} {rm : Room} {G : GW} {D : va_G} {tys : List (ClassId × FieldType)} {V : va_W} {sz : Nat} {As : List Value} {Qc : Array Value → State → Outcome → State → Prop} {mc ms : Nat} {cc : ByteArray} {maxL : Nat} {ret : Option FieldType}
    (hy : plainName y.cls = true) (hw : ws = Cond.code y cc maxL ret :: ws') (hl : (lg_sl As).length ≤ maxL)
    (body : ∀ (p : Program) (e : Env) (s : State) (m : MethodId) (args : Array Value) (below : List Frame) (meth : Method) (c : Code) (ls : Array Slot), CallFix p m c cc maxL s args ws y.cls → meth.sig.returnType = ret → meth.locks = false → s.heap.size = sz → (∀ q, s.heap.size ≤ q → va_A V sz q) → va_K D vwCl tys s → gK G (va_A V sz) s s.heap → RD D V (va_A V sz) s.heap s.heap [] → lv_has ls maxL (lv_args 0 As) → (meth.name = y.name) →
      W p l e (headSpec ws rm).room s m args below meth c s.heap [] 0 0 (MQ below Qc args s mc ms (va_A V sz)) (F0 m 0 ls [])) : Met l y ws rm (va_Pc As (fun U => RP D tys V sz U ∧ gK G (va_A V sz) U U.heap)) Qc mc ms (va_A V sz) := by
  refine Met.ofW hy hw ?_
  intro p e s m args below meth c s₁ B hml hv
  obtain ⟨rfl, ⟨hsz, hP, hD0, hK⟩, hX⟩ := hv
  have hl2 := lv_entry As (n := maxL) hl
  rw [lg_entry_eq]
  refine body p e s m _ below meth c _ ⟨B.exec, B.bytes, hml, findClass_of_methodNamed B.named, atoms_spec (ws := ws) B.pre⟩ B.returns B.notSynchronized hsz (fun q h => Or.inr (by rw [← hsz]; exact h)) hK hX ⟨hP, hD0.self, va_S.rf⟩ hl2 ((name_of_methodNamed B.named B.method).1)
def LW7_77 : List Int32 := [(-1), (-1), (-1), (-1)]
def LW7_117 : List Int32 := [99, 111, 111, 108, 115, 32, 50, 32, 59, 32, 119, 97, 105, 116, 115, 32, 51, 32, 59, 32, 108, 105, 107, 101, 115, 32, 53, 48, 32, 59]
def LW7_299 : List Int32 := [99, 111, 111, 108, 115, 32, 32, 32, 119, 97, 105, 116, 115, 32, 32, 32, 108, 105, 107, 101, 115, 32, 32, 32, 104, 101, 97, 116, 32, 32, 32, 32, 109, 105, 110, 117, 116, 101, 32, 32, 100, 111, 119, 110, 32, 32, 32, 32, 114, 97, 110, 107, 32, 32, 32, 32, 109, 111, 111, 100, 32, 32, 32, 32, 109, 111, 114, 101, 32, 32, 32, 32, 111, 114, 32, 32, 32, 32, 32, 32, 97, 110, 100, 32, 32, 32, 32, 32, 110, 111, 116, 32, 32, 32, 32, 32]
abbrev VV7 (cI : ClassId) (q0 q1 q2 q3 q4 q5 q6 q7 q8 q9 q10 q11 q12 q13 q14 q15 q16 q17 q18 q19 q20 q21 q22 q23 kk : Nat) : va_W := [(q0, .inr (7, [.int 0, .ref q1, .ref q2, .ref q3, .int 0, .int 90, .ref q4, .int 0, .ref q5, .ref q6, .int 0, .int 0, .int 0, .ref q7, .ref q8, .ref q9, .ref q10, .ref q11, .ref q12, .int 0, .int 0, .int 0, .int 0, .ref q13, .ref q14, .int 0, .int 0, .int 0, .ref q15, .ref q16, .ref q17, .ref q18, .ref q19, .ref q20, .ref q21, .ref q22, .int 0, .int 0, .int 0, .int 0, .int 0, .ref q23, .int 0])), (q1, .inl (cI, 6, .inl (fun _ => 0))), (q2, .inl (cI, 6, .inl (fun _ => 0))), (q3, .inl (cI, 12, .inl (fun _ => 0))), (q4, .inl (cI, 160, .inl (arL LW7_117 kk))), (q5, .inl (cI, 1200, .inl (fun _ => 0))), (q6, .inl (cI, 24, .inl (fun _ => 0))), (q7, .inl (cI, 12, .inl (fun _ => 0))), (q8, .inl (cI, 4, .inl (fun _ => 0))), (q9, .inl (cI, 4, .inl (arL LW7_77 4))), (q10, .inl (cI, 4, .inl (fun _ => 0))), (q11, .inl (cI, 160, .inl (fun _ => 0))), (q12, .inl (cI, 30, .inl (arL LW7_117 30))), (q13, .inl (cI, 96, .inl (arL LW7_299 96))), (q14, .inl (cI, 200, .inl (fun _ => 0))), (q15, .inl (cI, 200, .inl (fun _ => 0))), (q16, .inl (cI, 6, .inl (fun _ => 0))), (q17, .inl (cI, 6, .inl (fun _ => 0))), (q18, .inl (cI, 6, .inl (fun _ => 0))), (q19, .inl (cI, 6, .inl (fun _ => 0))), (q20, .inl (cI, 6, .inl (fun _ => 0))), (q21, .inl (cI, 6, .inl (fun _ => 0))), (q22, .inl (cI, 6, .inl (fun _ => 0))), (q23, .inl (cI, 13, .inl (fun _ => 0)))]
def sgM0 : Sg := fun k => ([fun j => ([0, 0, 0, 0, 0, 90, 0, 30, 0, 0, 0, 0, 0, 0, 0, 0, 0, 0, 0, 0, 0, 0, 0, 0, 0, 0, 0, 0, 0, 0, 0, 0, 0, 0, 0, 0, 0, 0, 0, 0, 0, 0, 0] : List Int32).getD j 0, fun _ => 0, fun _ => 0, fun _ => 0, arL LW7_117 30, fun _ => 0, fun _ => 0, fun _ => 0, fun _ => 0, arL LW7_77 4, fun _ => 0, fun _ => 0, arL LW7_117 30, arL LW7_299 96, fun _ => 0, fun _ => 0, fun _ => 0, fun _ => 0, fun _ => 0, fun _ => 0, fun _ => 0, fun _ => 0, fun _ => 0, fun _ => 0] : List (Nat → Int32)).getD k (fun _ => 0)
set_option maxHeartbeats 16000000 in
set_option maxRecDepth 100000 in
theorem c_X7_init (l : Launch) {D : va_G} {sz q0 : Nat} {cI : ClassId} (ad0 SK SV : Nat → Nat) {F : Nat} {σR : Sg} {r : Int32} (hg : g_X7_text F sgM0 = some (σR, r)) : Met l yX7_init wsX7_init ({ frames := 40, cells := 23, slots := 2173, locals := 2000 } : Room) (va_Pc [.ref q0] (fun U => RP D [(cI, .int)] [(q0, .inr (7, [.int 0, .null, .null, .null, .int 0, .int 0, .null, .int 0, .null, .null, .int 0, .int 0, .int 0, .null, .null, .null, .null, .null, .null, .int 0, .int 0, .int 0, .int 0, .null, .null, .int 0, .int 0, .int 0, .null, .null, .null, .null, .null, .null, .null, .null, .int 0, .int 0, .int 0, .int 0, .int 0, .null, .int 0]))] sz U ∧ gK (GM0 D ad0 cI SK SV) (va_A [(q0, .inr (7, [.int 0, .null, .null, .null, .int 0, .int 0, .null, .int 0, .null, .null, .int 0, .int 0, .int 0, .null, .null, .null, .null, .null, .null, .int 0, .int 0, .int 0, .int 0, .null, .null, .int 0, .int 0, .int 0, .null, .null, .null, .null, .null, .null, .null, .null, .int 0, .int 0, .int 0, .int 0, .int 0, .null, .int 0]))] sz) U U.heap)) (va_Qv (fun _ : Unit => True) (fun _ t => ∃ ad : Nat → Nat, ad 0 = q0 ∧ RE D (wld (GM0 D ad cI SK SV) σR) (va_A [(q0, .inr (7, [.int 0, .null, .null, .null, .int 0, .int 0, .null, .int 0, .null, .null, .int 0, .int 0, .int 0, .null, .null, .null, .null, .null, .null, .int 0, .int 0, .int 0, .int 0, .null, .null, .int 0, .int 0, .int 0, .null, .null, .null, .null, .null, .null, .null, .null, .int 0, .int 0, .int 0, .int 0, .int 0, .null, .int 0]))] sz) t) (va_A [(q0, .inr (7, [.int 0, .null, .null, .null, .int 0, .int 0, .null, .int 0, .null, .null, .int 0, .int 0, .int 0, .null, .null, .null, .null, .null, .null, .int 0, .int 0, .int 0, .int 0, .null, .null, .int 0, .int 0, .int 0, .null, .null, .null, .null, .null, .null, .null, .null, .int 0, .int 0, .int 0, .int 0, .int 0, .null, .int 0]))] sz)) 23 2173 (va_A [(q0, .inr (7, [.int 0, .null, .null, .null, .int 0, .int 0, .null, .int 0, .null, .null, .int 0, .int 0, .int 0, .null, .null, .null, .null, .null, .null, .int 0, .int 0, .int 0, .int 0, .null, .null, .int 0, .int 0, .int 0, .null, .null, .null, .null, .null, .null, .null, .null, .int 0, .int 0, .int 0, .int 0, .int 0, .null, .int 0]))] sz) := by
  refine metRG (by decide) rfl (Nat.le_of_ble_eq_true rfl) ?_
  intro p e s m args below meth c ls S hr hlk hsz hA hK hG0 hw hl hmn
  have ht : ([(cI, .int)] : List (ClassId × FieldType))[0]? = some (cI, .int) := rfl
  have S : CallFix p m c cX7_init 2 s args wsX7_init RX7 := S
  obtain ⟨hx, hb, hml, hown, hts⟩ := id S
  have hl : lv_has ls 2 [(0, .ref q0)] := hl
  have hinX7 : ∀ w ∈ wsX70, w ∈ wsX7_init := by decide +kernel
  refine lv_aload_n hx hb dX7_init_0 rfl (lv_at hl 0 rfl) ?_
  refine W.objInit hx hb hown (hts (.methodLink RX7 1 objectInit) (by decide +kernel)) (hts (.instanceMethod objectInit) (by decide +kernel)) (hts (.code objectInit ⟨#[0xb1]⟩ 1 none) (by decide +kernel)) rfl (by rw [hml]; exact hl.1) rfl dX7_init_1 (Nat.le_of_ble_eq_true rfl) (Nat.le_of_ble_eq_true rfl) ?_
  refine W.eq (g2 := F0 m 4 ls []) rfl ?_
  refine lv_aload_n hx hb dX7_init_4 rfl (lv_at hl 0 rfl) ?_
  refine lv_bipush (v := 6) hx hb dX7_init_5 (by decide) ?_
  refine r_newi (n' := 6) S hK ht hw hA (hts (.arrayClass .int) (by decide +kernel)) (Nat.le_of_ble_eq_true rfl) (Nat.le_of_ble_eq_true rfl) (Nat.le_of_ble_eq_true rfl) dX7_init_7 rfl (fun q1 H hw => ?_)
  refine W.widen (k := 1) (n := 6) (Nat.le_of_ble_eq_true rfl) (Nat.le_of_ble_eq_true rfl) ?_
  have hw : RD D [(q0, .inr (7, [.int 0, .null, .null, .null, .int 0, .int 0, .null, .int 0, .null, .null, .int 0, .int 0, .int 0, .null, .null, .null, .null, .null, .null, .int 0, .int 0, .int 0, .int 0, .null, .null, .int 0, .int 0, .int 0, .null, .null, .null, .null, .null, .null, .null, .null, .int 0, .int 0, .int 0, .int 0, .int 0, .null, .int 0])), (q1, .inl (cI, 6, .inl (fun _ => 0)))] (va_A [(q0, .inr (7, [.int 0, .null, .null, .null, .int 0, .int 0, .null, .int 0, .null, .null, .int 0, .int 0, .int 0, .null, .null, .null, .null, .null, .null, .int 0, .int 0, .int 0, .int 0, .null, .null, .int 0, .int 0, .int 0, .null, .null, .null, .null, .null, .null, .null, .null, .int 0, .int 0, .int 0, .int 0, .int 0, .null, .int 0]))] sz) s.heap H _ := hw
  refine va_putF (D := D) (ci := 7) (v := .ref q1) (ty := tyX7 1) (C := RX7) (T := TX7) (N := 43) (fs := [.int 0, .null, .null, .null, .int 0, .int 0, .null, .int 0, .null, .null, .int 0, .int 0, .int 0, .null, .null, .null, .null, .null, .null, .int 0, .int 0, .int 0, .int 0, .null, .null, .int 0, .int 0, .int 0, .null, .null, .null, .null, .null, .null, .null, .null, .int 0, .int 0, .int 0, .int 0, .int 0, .null, .int 0]) hx hb hts hinX7 tyX7 tyX7_ok nmX7 hown hK hw.1 hw.2.1 hw.2.2 0 rfl rfl 1 (by decide) (hts (.fieldLink RX7 7 "SoupByRankModel" "kind" "[I") (by decide +kernel)) (fun _ h9 => h9) rfl hmn rfl (by decide +kernel) rfl rfl (Nat.le_of_ble_eq_true rfl) dX7_init_9 (fun H locs hP hD hS => ?_)
  have hw : RD D [(q0, .inr (7, [.int 0, .ref q1, .null, .null, .int 0, .int 0, .null, .int 0, .null, .null, .int 0, .int 0, .int 0, .null, .null, .null, .null, .null, .null, .int 0, .int 0, .int 0, .int 0, .null, .null, .int 0, .int 0, .int 0, .null, .null, .null, .null, .null, .null, .null, .null, .int 0, .int 0, .int 0, .int 0, .int 0, .null, .int 0])), (q1, .inl (cI, 6, .inl (fun _ => 0)))] (va_A [(q0, .inr (7, [.int 0, .null, .null, .null, .int 0, .int 0, .null, .int 0, .null, .null, .int 0, .int 0, .int 0, .null, .null, .null, .null, .null, .null, .int 0, .int 0, .int 0, .int 0, .null, .null, .int 0, .int 0, .int 0, .null, .null, .null, .null, .null, .null, .null, .null, .int 0, .int 0, .int 0, .int 0, .int 0, .null, .int 0]))] sz) s.heap H _ := ⟨hP, hD, hS⟩
  refine W.eq (g2 := F0 m 12 ls []) rfl ?_
  refine lv_aload_n hx hb dX7_init_12 rfl (lv_at hl 0 rfl) ?_
  refine lv_bipush (v := 6) hx hb dX7_init_13 (by decide) ?_
  refine r_newi (n' := 6) S hK ht hw hA (hts (.arrayClass .int) (by decide +kernel)) (Nat.le_of_ble_eq_true rfl) (Nat.le_of_ble_eq_true rfl) (Nat.le_of_ble_eq_true rfl) dX7_init_15 rfl (fun q2 H hw => ?_)
  refine W.widen (k := 2) (n := 12) (Nat.le_of_ble_eq_true rfl) (Nat.le_of_ble_eq_true rfl) ?_
  have hw : RD D [(q0, .inr (7, [.int 0, .ref q1, .null, .null, .int 0, .int 0, .null, .int 0, .null, .null, .int 0, .int 0, .int 0, .null, .null, .null, .null, .null, .null, .int 0, .int 0, .int 0, .int 0, .null, .null, .int 0, .int 0, .int 0, .null, .null, .null, .null, .null, .null, .null, .null, .int 0, .int 0, .int 0, .int 0, .int 0, .null, .int 0])), (q1, .inl (cI, 6, .inl (fun _ => 0))), (q2, .inl (cI, 6, .inl (fun _ => 0)))] (va_A [(q0, .inr (7, [.int 0, .null, .null, .null, .int 0, .int 0, .null, .int 0, .null, .null, .int 0, .int 0, .int 0, .null, .null, .null, .null, .null, .null, .int 0, .int 0, .int 0, .int 0, .null, .null, .int 0, .int 0, .int 0, .null, .null, .null, .null, .null, .null, .null, .null, .int 0, .int 0, .int 0, .int 0, .int 0, .null, .int 0]))] sz) s.heap H _ := hw
  refine va_putF (D := D) (ci := 7) (v := .ref q2) (ty := tyX7 2) (C := RX7) (T := TX7) (N := 43) (fs := [.int 0, .ref q1, .null, .null, .int 0, .int 0, .null, .int 0, .null, .null, .int 0, .int 0, .int 0, .null, .null, .null, .null, .null, .null, .int 0, .int 0, .int 0, .int 0, .null, .null, .int 0, .int 0, .int 0, .null, .null, .null, .null, .null, .null, .null, .null, .int 0, .int 0, .int 0, .int 0, .int 0, .null, .int 0]) hx hb hts hinX7 tyX7 tyX7_ok nmX7 hown hK hw.1 hw.2.1 hw.2.2 0 rfl rfl 2 (by decide) (hts (.fieldLink RX7 13 "SoupByRankModel" "moreOf" "[I") (by decide +kernel)) (fun _ h9 => h9) rfl hmn rfl (by decide +kernel) rfl rfl (Nat.le_of_ble_eq_true rfl) dX7_init_17 (fun H locs hP hD hS => ?_)
  have hw : RD D [(q0, .inr (7, [.int 0, .ref q1, .ref q2, .null, .int 0, .int 0, .null, .int 0, .null, .null, .int 0, .int 0, .int 0, .null, .null, .null, .null, .null, .null, .int 0, .int 0, .int 0, .int 0, .null, .null, .int 0, .int 0, .int 0, .null, .null, .null, .null, .null, .null, .null, .null, .int 0, .int 0, .int 0, .int 0, .int 0, .null, .int 0])), (q1, .inl (cI, 6, .inl (fun _ => 0))), (q2, .inl (cI, 6, .inl (fun _ => 0)))] (va_A [(q0, .inr (7, [.int 0, .null, .null, .null, .int 0, .int 0, .null, .int 0, .null, .null, .int 0, .int 0, .int 0, .null, .null, .null, .null, .null, .null, .int 0, .int 0, .int 0, .int 0, .null, .null, .int 0, .int 0, .int 0, .null, .null, .null, .null, .null, .null, .null, .null, .int 0, .int 0, .int 0, .int 0, .int 0, .null, .int 0]))] sz) s.heap H _ := ⟨hP, hD, hS⟩
  refine W.eq (g2 := F0 m 20 ls []) rfl ?_
  refine lv_aload_n hx hb dX7_init_20 rfl (lv_at hl 0 rfl) ?_
  refine lv_bipush (v := 12) hx hb dX7_init_21 (by decide) ?_
  refine r_newi (n' := 12) S hK ht hw hA (hts (.arrayClass .int) (by decide +kernel)) (Nat.le_of_ble_eq_true rfl) (Nat.le_of_ble_eq_true rfl) (Nat.le_of_ble_eq_true rfl) dX7_init_23 rfl (fun q3 H hw => ?_)
  refine W.widen (k := 3) (n := 24) (Nat.le_of_ble_eq_true rfl) (Nat.le_of_ble_eq_true rfl) ?_
  have hw : RD D [(q0, .inr (7, [.int 0, .ref q1, .ref q2, .null, .int 0, .int 0, .null, .int 0, .null, .null, .int 0, .int 0, .int 0, .null, .null, .null, .null, .null, .null, .int 0, .int 0, .int 0, .int 0, .null, .null, .int 0, .int 0, .int 0, .null, .null, .null, .null, .null, .null, .null, .null, .int 0, .int 0, .int 0, .int 0, .int 0, .null, .int 0])), (q1, .inl (cI, 6, .inl (fun _ => 0))), (q2, .inl (cI, 6, .inl (fun _ => 0))), (q3, .inl (cI, 12, .inl (fun _ => 0)))] (va_A [(q0, .inr (7, [.int 0, .null, .null, .null, .int 0, .int 0, .null, .int 0, .null, .null, .int 0, .int 0, .int 0, .null, .null, .null, .null, .null, .null, .int 0, .int 0, .int 0, .int 0, .null, .null, .int 0, .int 0, .int 0, .null, .null, .null, .null, .null, .null, .null, .null, .int 0, .int 0, .int 0, .int 0, .int 0, .null, .int 0]))] sz) s.heap H _ := hw
  refine va_putF (D := D) (ci := 7) (v := .ref q3) (ty := tyX7 3) (C := RX7) (T := TX7) (N := 43) (fs := [.int 0, .ref q1, .ref q2, .null, .int 0, .int 0, .null, .int 0, .null, .null, .int 0, .int 0, .int 0, .null, .null, .null, .null, .null, .null, .int 0, .int 0, .int 0, .int 0, .null, .null, .int 0, .int 0, .int 0, .null, .null, .null, .null, .null, .null, .null, .null, .int 0, .int 0, .int 0, .int 0, .int 0, .null, .int 0]) hx hb hts hinX7 tyX7 tyX7_ok nmX7 hown hK hw.1 hw.2.1 hw.2.2 0 rfl rfl 3 (by decide) (hts (.fieldLink RX7 16 "SoupByRankModel" "rows" "[I") (by decide +kernel)) (fun _ h9 => h9) rfl hmn rfl (by decide +kernel) rfl rfl (Nat.le_of_ble_eq_true rfl) dX7_init_25 (fun H locs hP hD hS => ?_)
  have hw : RD D [(q0, .inr (7, [.int 0, .ref q1, .ref q2, .ref q3, .int 0, .int 0, .null, .int 0, .null, .null, .int 0, .int 0, .int 0, .null, .null, .null, .null, .null, .null, .int 0, .int 0, .int 0, .int 0, .null, .null, .int 0, .int 0, .int 0, .null, .null, .null, .null, .null, .null, .null, .null, .int 0, .int 0, .int 0, .int 0, .int 0, .null, .int 0])), (q1, .inl (cI, 6, .inl (fun _ => 0))), (q2, .inl (cI, 6, .inl (fun _ => 0))), (q3, .inl (cI, 12, .inl (fun _ => 0)))] (va_A [(q0, .inr (7, [.int 0, .null, .null, .null, .int 0, .int 0, .null, .int 0, .null, .null, .int 0, .int 0, .int 0, .null, .null, .null, .null, .null, .null, .int 0, .int 0, .int 0, .int 0, .null, .null, .int 0, .int 0, .int 0, .null, .null, .null, .null, .null, .null, .null, .null, .int 0, .int 0, .int 0, .int 0, .int 0, .null, .int 0]))] sz) s.heap H _ := ⟨hP, hD, hS⟩
  refine W.eq (g2 := F0 m 28 ls []) rfl ?_
  refine lv_aload_n hx hb dX7_init_28 rfl (lv_at hl 0 rfl) ?_
  refine lv_bipush (v := 90) hx hb dX7_init_29 (by decide) ?_
  refine va_put (D := D) (ci := 7) (v := .int 90) (ty := tyX7 5) (C := RX7) (T := TX7) (N := 43) (fs := [.int 0, .ref q1, .ref q2, .ref q3, .int 0, .int 0, .null, .int 0, .null, .null, .int 0, .int 0, .int 0, .null, .null, .null, .null, .null, .null, .int 0, .int 0, .int 0, .int 0, .null, .null, .int 0, .int 0, .int 0, .null, .null, .null, .null, .null, .null, .null, .null, .int 0, .int 0, .int 0, .int 0, .int 0, .null, .int 0]) hx hb hts hinX7 tyX7 tyX7_ok nmX7 hown hK hw.1 hw.2.1 hw.2.2 0 rfl rfl 5 (by decide) (hts (.fieldLink RX7 19 "SoupByRankModel" "heat" "I") (by decide +kernel)) (fun _ h9 => h9) rfl (by decide +kernel) rfl rfl (Nat.le_of_ble_eq_true rfl) dX7_init_31 (fun H locs hP hD hS => ?_)
  have hw : RD D [(q0, .inr (7, [.int 0, .ref q1, .ref q2, .ref q3, .int 0, .int 90, .null, .int 0, .null, .null, .int 0, .int 0, .int 0, .null, .null, .null, .null, .null, .null, .int 0, .int 0, .int 0, .int 0, .null, .null, .int 0, .int 0, .int 0, .null, .null, .null, .null, .null, .null, .null, .null, .int 0, .int 0, .int 0, .int 0, .int 0, .null, .int 0])), (q1, .inl (cI, 6, .inl (fun _ => 0))), (q2, .inl (cI, 6, .inl (fun _ => 0))), (q3, .inl (cI, 12, .inl (fun _ => 0)))] (va_A [(q0, .inr (7, [.int 0, .null, .null, .null, .int 0, .int 0, .null, .int 0, .null, .null, .int 0, .int 0, .int 0, .null, .null, .null, .null, .null, .null, .int 0, .int 0, .int 0, .int 0, .null, .null, .int 0, .int 0, .int 0, .null, .null, .null, .null, .null, .null, .null, .null, .int 0, .int 0, .int 0, .int 0, .int 0, .null, .int 0]))] sz) s.heap H _ := ⟨hP, hD, hS⟩
  refine W.eq (g2 := F0 m 34 ls []) rfl ?_
  refine lv_aload_n hx hb dX7_init_34 rfl (lv_at hl 0 rfl) ?_
  refine lv_sipush (v := 160) hx hb dX7_init_35 (by decide) ?_
  refine r_newi (n' := 160) S hK ht hw hA (hts (.arrayClass .int) (by decide +kernel)) (Nat.le_of_ble_eq_true rfl) (Nat.le_of_ble_eq_true rfl) (Nat.le_of_ble_eq_true rfl) dX7_init_38 rfl (fun q4 H hw => ?_)
  refine W.widen (k := 4) (n := 184) (Nat.le_of_ble_eq_true rfl) (Nat.le_of_ble_eq_true rfl) ?_
  generalize hV : ([(q0, .inr (7, [.int 0, .ref q1, .ref q2, .ref q3, .int 0, .int 90, .null, .int 0, .null, .null, .int 0, .int 0, .int 0, .null, .null, .null, .null, .null, .null, .int 0, .int 0, .int 0, .int 0, .null, .null, .int 0, .int 0, .int 0, .null, .null, .null, .null, .null, .null, .null, .null, .int 0, .int 0, .int 0, .int 0, .int 0, .null, .int 0])), (q1, .inl (cI, 6, .inl (fun _ => 0))), (q2, .inl (cI, 6, .inl (fun _ => 0))), (q3, .inl (cI, 12, .inl (fun _ => 0)))] : va_W) = V at hw
  rw [arL_0 LW7_117] at hw
  subst hV
  have hw : RD D [(q0, .inr (7, [.int 0, .ref q1, .ref q2, .ref q3, .int 0, .int 90, .null, .int 0, .null, .null, .int 0, .int 0, .int 0, .null, .null, .null, .null, .null, .null, .int 0, .int 0, .int 0, .int 0, .null, .null, .int 0, .int 0, .int 0, .null, .null, .null, .null, .null, .null, .null, .null, .int 0, .int 0, .int 0, .int 0, .int 0, .null, .int 0])), (q1, .inl (cI, 6, .inl (fun _ => 0))), (q2, .inl (cI, 6, .inl (fun _ => 0))), (q3, .inl (cI, 12, .inl (fun _ => 0))), (q4, .inl (cI, 160, .inl (arL LW7_117 0)))] (va_A [(q0, .inr (7, [.int 0, .null, .null, .null, .int 0, .int 0, .null, .int 0, .null, .null, .int 0, .int 0, .int 0, .null, .null, .null, .null, .null, .null, .int 0, .int 0, .int 0, .int 0, .null, .null, .int 0, .int 0, .int 0, .null, .null, .null, .null, .null, .null, .null, .null, .int 0, .int 0, .int 0, .int 0, .int 0, .null, .int 0]))] sz) s.heap H _ := hw
  refine va_putF (D := D) (ci := 7) (v := .ref q4) (ty := tyX7 6) (C := RX7) (T := TX7) (N := 43) (fs := [.int 0, .ref q1, .ref q2, .ref q3, .int 0, .int 90, .null, .int 0, .null, .null, .int 0, .int 0, .int 0, .null, .null, .null, .null, .null, .null, .int 0, .int 0, .int 0, .int 0, .null, .null, .int 0, .int 0, .int 0, .null, .null, .null, .null, .null, .null, .null, .null, .int 0, .int 0, .int 0, .int 0, .int 0, .null, .int 0]) hx hb hts hinX7 tyX7 tyX7_ok nmX7 hown hK hw.1 hw.2.1 hw.2.2 0 rfl rfl 6 (by decide) (hts (.fieldLink RX7 23 "SoupByRankModel" "tape" "[I") (by decide +kernel)) (fun _ h9 => h9) rfl hmn rfl (by decide +kernel) rfl rfl (Nat.le_of_ble_eq_true rfl) dX7_init_40 (fun H locs hP hD hS => ?_)
  have hw : RD D [(q0, .inr (7, [.int 0, .ref q1, .ref q2, .ref q3, .int 0, .int 90, .ref q4, .int 0, .null, .null, .int 0, .int 0, .int 0, .null, .null, .null, .null, .null, .null, .int 0, .int 0, .int 0, .int 0, .null, .null, .int 0, .int 0, .int 0, .null, .null, .null, .null, .null, .null, .null, .null, .int 0, .int 0, .int 0, .int 0, .int 0, .null, .int 0])), (q1, .inl (cI, 6, .inl (fun _ => 0))), (q2, .inl (cI, 6, .inl (fun _ => 0))), (q3, .inl (cI, 12, .inl (fun _ => 0))), (q4, .inl (cI, 160, .inl (arL LW7_117 0)))] (va_A [(q0, .inr (7, [.int 0, .null, .null, .null, .int 0, .int 0, .null, .int 0, .null, .null, .int 0, .int 0, .int 0, .null, .null, .null, .null, .null, .null, .int 0, .int 0, .int 0, .int 0, .null, .null, .int 0, .int 0, .int 0, .null, .null, .null, .null, .null, .null, .null, .null, .int 0, .int 0, .int 0, .int 0, .int 0, .null, .int 0]))] sz) s.heap H _ := ⟨hP, hD, hS⟩
  refine W.eq (g2 := F0 m 43 ls []) rfl ?_
  refine lv_aload_n hx hb dX7_init_43 rfl (lv_at hl 0 rfl) ?_
  refine lv_sipush (v := 1200) hx hb dX7_init_44 (by decide) ?_
  refine r_newi (n' := 1200) S hK ht hw hA (hts (.arrayClass .int) (by decide +kernel)) (Nat.le_of_ble_eq_true rfl) (Nat.le_of_ble_eq_true rfl) (Nat.le_of_ble_eq_true rfl) dX7_init_47 rfl (fun q5 H hw => ?_)
  refine W.widen (k := 5) (n := 1384) (Nat.le_of_ble_eq_true rfl) (Nat.le_of_ble_eq_true rfl) ?_
  have hw : RD D [(q0, .inr (7, [.int 0, .ref q1, .ref q2, .ref q3, .int 0, .int 90, .ref q4, .int 0, .null, .null, .int 0, .int 0, .int 0, .null, .null, .null, .null, .null, .null, .int 0, .int 0, .int 0, .int 0, .null, .null, .int 0, .int 0, .int 0, .null, .null, .null, .null, .null, .null, .null, .null, .int 0, .int 0, .int 0, .int 0, .int 0, .null, .int 0])), (q1, .inl (cI, 6, .inl (fun _ => 0))), (q2, .inl (cI, 6, .inl (fun _ => 0))), (q3, .inl (cI, 12, .inl (fun _ => 0))), (q4, .inl (cI, 160, .inl (arL LW7_117 0))), (q5, .inl (cI, 1200, .inl (fun _ => 0)))] (va_A [(q0, .inr (7, [.int 0, .null, .null, .null, .int 0, .int 0, .null, .int 0, .null, .null, .int 0, .int 0, .int 0, .null, .null, .null, .null, .null, .null, .int 0, .int 0, .int 0, .int 0, .null, .null, .int 0, .int 0, .int 0, .null, .null, .null, .null, .null, .null, .null, .null, .int 0, .int 0, .int 0, .int 0, .int 0, .null, .int 0]))] sz) s.heap H _ := hw
  refine va_putF (D := D) (ci := 7) (v := .ref q5) (ty := tyX7 8) (C := RX7) (T := TX7) (N := 43) (fs := [.int 0, .ref q1, .ref q2, .ref q3, .int 0, .int 90, .ref q4, .int 0, .null, .null, .int 0, .int 0, .int 0, .null, .null, .null, .null, .null, .null, .int 0, .int 0, .int 0, .int 0, .null, .null, .int 0, .int 0, .int 0, .null, .null, .null, .null, .null, .null, .null, .null, .int 0, .int 0, .int 0, .int 0, .int 0, .null, .int 0]) hx hb hts hinX7 tyX7 tyX7_ok nmX7 hown hK hw.1 hw.2.1 hw.2.2 0 rfl rfl 8 (by decide) (hts (.fieldLink RX7 26 "SoupByRankModel" "codes" "[I") (by decide +kernel)) (fun _ h9 => h9) rfl hmn rfl (by decide +kernel) rfl rfl (Nat.le_of_ble_eq_true rfl) dX7_init_49 (fun H locs hP hD hS => ?_)
  have hw : RD D [(q0, .inr (7, [.int 0, .ref q1, .ref q2, .ref q3, .int 0, .int 90, .ref q4, .int 0, .ref q5, .null, .int 0, .int 0, .int 0, .null, .null, .null, .null, .null, .null, .int 0, .int 0, .int 0, .int 0, .null, .null, .int 0, .int 0, .int 0, .null, .null, .null, .null, .null, .null, .null, .null, .int 0, .int 0, .int 0, .int 0, .int 0, .null, .int 0])), (q1, .inl (cI, 6, .inl (fun _ => 0))), (q2, .inl (cI, 6, .inl (fun _ => 0))), (q3, .inl (cI, 12, .inl (fun _ => 0))), (q4, .inl (cI, 160, .inl (arL LW7_117 0))), (q5, .inl (cI, 1200, .inl (fun _ => 0)))] (va_A [(q0, .inr (7, [.int 0, .null, .null, .null, .int 0, .int 0, .null, .int 0, .null, .null, .int 0, .int 0, .int 0, .null, .null, .null, .null, .null, .null, .int 0, .int 0, .int 0, .int 0, .null, .null, .int 0, .int 0, .int 0, .null, .null, .null, .null, .null, .null, .null, .null, .int 0, .int 0, .int 0, .int 0, .int 0, .null, .int 0]))] sz) s.heap H _ := ⟨hP, hD, hS⟩
  refine W.eq (g2 := F0 m 52 ls []) rfl ?_
  refine lv_aload_n hx hb dX7_init_52 rfl (lv_at hl 0 rfl) ?_
  refine lv_bipush (v := 24) hx hb dX7_init_53 (by decide) ?_
  refine r_newi (n' := 24) S hK ht hw hA (hts (.arrayClass .int) (by decide +kernel)) (Nat.le_of_ble_eq_true rfl) (Nat.le_of_ble_eq_true rfl) (Nat.le_of_ble_eq_true rfl) dX7_init_55 rfl (fun q6 H hw => ?_)
  refine W.widen (k := 6) (n := 1408) (Nat.le_of_ble_eq_true rfl) (Nat.le_of_ble_eq_true rfl) ?_
  have hw : RD D [(q0, .inr (7, [.int 0, .ref q1, .ref q2, .ref q3, .int 0, .int 90, .ref q4, .int 0, .ref q5, .null, .int 0, .int 0, .int 0, .null, .null, .null, .null, .null, .null, .int 0, .int 0, .int 0, .int 0, .null, .null, .int 0, .int 0, .int 0, .null, .null, .null, .null, .null, .null, .null, .null, .int 0, .int 0, .int 0, .int 0, .int 0, .null, .int 0])), (q1, .inl (cI, 6, .inl (fun _ => 0))), (q2, .inl (cI, 6, .inl (fun _ => 0))), (q3, .inl (cI, 12, .inl (fun _ => 0))), (q4, .inl (cI, 160, .inl (arL LW7_117 0))), (q5, .inl (cI, 1200, .inl (fun _ => 0))), (q6, .inl (cI, 24, .inl (fun _ => 0)))] (va_A [(q0, .inr (7, [.int 0, .null, .null, .null, .int 0, .int 0, .null, .int 0, .null, .null, .int 0, .int 0, .int 0, .null, .null, .null, .null, .null, .null, .int 0, .int 0, .int 0, .int 0, .null, .null, .int 0, .int 0, .int 0, .null, .null, .null, .null, .null, .null, .null, .null, .int 0, .int 0, .int 0, .int 0, .int 0, .null, .int 0]))] sz) s.heap H _ := hw
  refine va_putF (D := D) (ci := 7) (v := .ref q6) (ty := tyX7 9) (C := RX7) (T := TX7) (N := 43) (fs := [.int 0, .ref q1, .ref q2, .ref q3, .int 0, .int 90, .ref q4, .int 0, .ref q5, .null, .int 0, .int 0, .int 0, .null, .null, .null, .null, .null, .null, .int 0, .int 0, .int 0, .int 0, .null, .null, .int 0, .int 0, .int 0, .null, .null, .null, .null, .null, .null, .null, .null, .int 0, .int 0, .int 0, .int 0, .int 0, .null, .int 0]) hx hb hts hinX7 tyX7 tyX7_ok nmX7 hown hK hw.1 hw.2.1 hw.2.2 0 rfl rfl 9 (by decide) (hts (.fieldLink RX7 29 "SoupByRankModel" "starts" "[I") (by decide +kernel)) (fun _ h9 => h9) rfl hmn rfl (by decide +kernel) rfl rfl (Nat.le_of_ble_eq_true rfl) dX7_init_57 (fun H locs hP hD hS => ?_)
  have hw : RD D [(q0, .inr (7, [.int 0, .ref q1, .ref q2, .ref q3, .int 0, .int 90, .ref q4, .int 0, .ref q5, .ref q6, .int 0, .int 0, .int 0, .null, .null, .null, .null, .null, .null, .int 0, .int 0, .int 0, .int 0, .null, .null, .int 0, .int 0, .int 0, .null, .null, .null, .null, .null, .null, .null, .null, .int 0, .int 0, .int 0, .int 0, .int 0, .null, .int 0])), (q1, .inl (cI, 6, .inl (fun _ => 0))), (q2, .inl (cI, 6, .inl (fun _ => 0))), (q3, .inl (cI, 12, .inl (fun _ => 0))), (q4, .inl (cI, 160, .inl (arL LW7_117 0))), (q5, .inl (cI, 1200, .inl (fun _ => 0))), (q6, .inl (cI, 24, .inl (fun _ => 0)))] (va_A [(q0, .inr (7, [.int 0, .null, .null, .null, .int 0, .int 0, .null, .int 0, .null, .null, .int 0, .int 0, .int 0, .null, .null, .null, .null, .null, .null, .int 0, .int 0, .int 0, .int 0, .null, .null, .int 0, .int 0, .int 0, .null, .null, .null, .null, .null, .null, .null, .null, .int 0, .int 0, .int 0, .int 0, .int 0, .null, .int 0]))] sz) s.heap H _ := ⟨hP, hD, hS⟩
  refine W.eq (g2 := F0 m 60 ls []) rfl ?_
  refine lv_aload_n hx hb dX7_init_60 rfl (lv_at hl 0 rfl) ?_
  refine lv_bipush (v := 12) hx hb dX7_init_61 (by decide) ?_
  refine r_newi (n' := 12) S hK ht hw hA (hts (.arrayClass .int) (by decide +kernel)) (Nat.le_of_ble_eq_true rfl) (Nat.le_of_ble_eq_true rfl) (Nat.le_of_ble_eq_true rfl) dX7_init_63 rfl (fun q7 H hw => ?_)
  refine W.widen (k := 7) (n := 1420) (Nat.le_of_ble_eq_true rfl) (Nat.le_of_ble_eq_true rfl) ?_
  have hw : RD D [(q0, .inr (7, [.int 0, .ref q1, .ref q2, .ref q3, .int 0, .int 90, .ref q4, .int 0, .ref q5, .ref q6, .int 0, .int 0, .int 0, .null, .null, .null, .null, .null, .null, .int 0, .int 0, .int 0, .int 0, .null, .null, .int 0, .int 0, .int 0, .null, .null, .null, .null, .null, .null, .null, .null, .int 0, .int 0, .int 0, .int 0, .int 0, .null, .int 0])), (q1, .inl (cI, 6, .inl (fun _ => 0))), (q2, .inl (cI, 6, .inl (fun _ => 0))), (q3, .inl (cI, 12, .inl (fun _ => 0))), (q4, .inl (cI, 160, .inl (arL LW7_117 0))), (q5, .inl (cI, 1200, .inl (fun _ => 0))), (q6, .inl (cI, 24, .inl (fun _ => 0))), (q7, .inl (cI, 12, .inl (fun _ => 0)))] (va_A [(q0, .inr (7, [.int 0, .null, .null, .null, .int 0, .int 0, .null, .int 0, .null, .null, .int 0, .int 0, .int 0, .null, .null, .null, .null, .null, .null, .int 0, .int 0, .int 0, .int 0, .null, .null, .int 0, .int 0, .int 0, .null, .null, .null, .null, .null, .null, .null, .null, .int 0, .int 0, .int 0, .int 0, .int 0, .null, .int 0]))] sz) s.heap H _ := hw
  refine va_putF (D := D) (ci := 7) (v := .ref q7) (ty := tyX7 13) (C := RX7) (T := TX7) (N := 43) (fs := [.int 0, .ref q1, .ref q2, .ref q3, .int 0, .int 90, .ref q4, .int 0, .ref q5, .ref q6, .int 0, .int 0, .int 0, .null, .null, .null, .null, .null, .null, .int 0, .int 0, .int 0, .int 0, .null, .null, .int 0, .int 0, .int 0, .null, .null, .null, .null, .null, .null, .null, .null, .int 0, .int 0, .int 0, .int 0, .int 0, .null, .int 0]) hx hb hts hinX7 tyX7 tyX7_ok nmX7 hown hK hw.1 hw.2.1 hw.2.2 0 rfl rfl 13 (by decide) (hts (.fieldLink RX7 32 "SoupByRankModel" "imageRows" "[I") (by decide +kernel)) (fun _ h9 => h9) rfl hmn rfl (by decide +kernel) rfl rfl (Nat.le_of_ble_eq_true rfl) dX7_init_65 (fun H locs hP hD hS => ?_)
  have hw : RD D [(q0, .inr (7, [.int 0, .ref q1, .ref q2, .ref q3, .int 0, .int 90, .ref q4, .int 0, .ref q5, .ref q6, .int 0, .int 0, .int 0, .ref q7, .null, .null, .null, .null, .null, .int 0, .int 0, .int 0, .int 0, .null, .null, .int 0, .int 0, .int 0, .null, .null, .null, .null, .null, .null, .null, .null, .int 0, .int 0, .int 0, .int 0, .int 0, .null, .int 0])), (q1, .inl (cI, 6, .inl (fun _ => 0))), (q2, .inl (cI, 6, .inl (fun _ => 0))), (q3, .inl (cI, 12, .inl (fun _ => 0))), (q4, .inl (cI, 160, .inl (arL LW7_117 0))), (q5, .inl (cI, 1200, .inl (fun _ => 0))), (q6, .inl (cI, 24, .inl (fun _ => 0))), (q7, .inl (cI, 12, .inl (fun _ => 0)))] (va_A [(q0, .inr (7, [.int 0, .null, .null, .null, .int 0, .int 0, .null, .int 0, .null, .null, .int 0, .int 0, .int 0, .null, .null, .null, .null, .null, .null, .int 0, .int 0, .int 0, .int 0, .null, .null, .int 0, .int 0, .int 0, .null, .null, .null, .null, .null, .null, .null, .null, .int 0, .int 0, .int 0, .int 0, .int 0, .null, .int 0]))] sz) s.heap H _ := ⟨hP, hD, hS⟩
  refine W.eq (g2 := F0 m 68 ls []) rfl ?_
  refine lv_aload_n hx hb dX7_init_68 rfl (lv_at hl 0 rfl) ?_
  refine lv_iconst (v := 4) hx hb dX7_init_69 (by decide) ?_
  refine r_newi (n' := 4) S hK ht hw hA (hts (.arrayClass .int) (by decide +kernel)) (Nat.le_of_ble_eq_true rfl) (Nat.le_of_ble_eq_true rfl) (Nat.le_of_ble_eq_true rfl) dX7_init_70 rfl (fun q8 H hw => ?_)
  refine W.widen (k := 8) (n := 1424) (Nat.le_of_ble_eq_true rfl) (Nat.le_of_ble_eq_true rfl) ?_
  have hw : RD D [(q0, .inr (7, [.int 0, .ref q1, .ref q2, .ref q3, .int 0, .int 90, .ref q4, .int 0, .ref q5, .ref q6, .int 0, .int 0, .int 0, .ref q7, .null, .null, .null, .null, .null, .int 0, .int 0, .int 0, .int 0, .null, .null, .int 0, .int 0, .int 0, .null, .null, .null, .null, .null, .null, .null, .null, .int 0, .int 0, .int 0, .int 0, .int 0, .null, .int 0])), (q1, .inl (cI, 6, .inl (fun _ => 0))), (q2, .inl (cI, 6, .inl (fun _ => 0))), (q3, .inl (cI, 12, .inl (fun _ => 0))), (q4, .inl (cI, 160, .inl (arL LW7_117 0))), (q5, .inl (cI, 1200, .inl (fun _ => 0))), (q6, .inl (cI, 24, .inl (fun _ => 0))), (q7, .inl (cI, 12, .inl (fun _ => 0))), (q8, .inl (cI, 4, .inl (fun _ => 0)))] (va_A [(q0, .inr (7, [.int 0, .null, .null, .null, .int 0, .int 0, .null, .int 0, .null, .null, .int 0, .int 0, .int 0, .null, .null, .null, .null, .null, .null, .int 0, .int 0, .int 0, .int 0, .null, .null, .int 0, .int 0, .int 0, .null, .null, .null, .null, .null, .null, .null, .null, .int 0, .int 0, .int 0, .int 0, .int 0, .null, .int 0]))] sz) s.heap H _ := hw
  refine va_putF (D := D) (ci := 7) (v := .ref q8) (ty := tyX7 14) (C := RX7) (T := TX7) (N := 43) (fs := [.int 0, .ref q1, .ref q2, .ref q3, .int 0, .int 90, .ref q4, .int 0, .ref q5, .ref q6, .int 0, .int 0, .int 0, .ref q7, .null, .null, .null, .null, .null, .int 0, .int 0, .int 0, .int 0, .null, .null, .int 0, .int 0, .int 0, .null, .null, .null, .null, .null, .null, .null, .null, .int 0, .int 0, .int 0, .int 0, .int 0, .null, .int 0]) hx hb hts hinX7 tyX7 tyX7_ok nmX7 hown hK hw.1 hw.2.1 hw.2.2 0 rfl rfl 14 (by decide) (hts (.fieldLink RX7 35 "SoupByRankModel" "imageHeld" "[I") (by decide +kernel)) (fun _ h9 => h9) rfl hmn rfl (by decide +kernel) rfl rfl (Nat.le_of_ble_eq_true rfl) dX7_init_72 (fun H locs hP hD hS => ?_)
  have hw : RD D [(q0, .inr (7, [.int 0, .ref q1, .ref q2, .ref q3, .int 0, .int 90, .ref q4, .int 0, .ref q5, .ref q6, .int 0, .int 0, .int 0, .ref q7, .ref q8, .null, .null, .null, .null, .int 0, .int 0, .int 0, .int 0, .null, .null, .int 0, .int 0, .int 0, .null, .null, .null, .null, .null, .null, .null, .null, .int 0, .int 0, .int 0, .int 0, .int 0, .null, .int 0])), (q1, .inl (cI, 6, .inl (fun _ => 0))), (q2, .inl (cI, 6, .inl (fun _ => 0))), (q3, .inl (cI, 12, .inl (fun _ => 0))), (q4, .inl (cI, 160, .inl (arL LW7_117 0))), (q5, .inl (cI, 1200, .inl (fun _ => 0))), (q6, .inl (cI, 24, .inl (fun _ => 0))), (q7, .inl (cI, 12, .inl (fun _ => 0))), (q8, .inl (cI, 4, .inl (fun _ => 0)))] (va_A [(q0, .inr (7, [.int 0, .null, .null, .null, .int 0, .int 0, .null, .int 0, .null, .null, .int 0, .int 0, .int 0, .null, .null, .null, .null, .null, .null, .int 0, .int 0, .int 0, .int 0, .null, .null, .int 0, .int 0, .int 0, .null, .null, .null, .null, .null, .null, .null, .null, .int 0, .int 0, .int 0, .int 0, .int 0, .null, .int 0]))] sz) s.heap H _ := ⟨hP, hD, hS⟩
  refine W.eq (g2 := F0 m 75 ls []) rfl ?_
  refine lv_aload_n hx hb dX7_init_75 rfl (lv_at hl 0 rfl) ?_
  refine lv_iconst (v := 4) hx hb dX7_init_76 (by decide) ?_
  refine r_newi (n' := 4) S hK ht hw hA (hts (.arrayClass .int) (by decide +kernel)) (Nat.le_of_ble_eq_true rfl) (Nat.le_of_ble_eq_true rfl) (Nat.le_of_ble_eq_true rfl) dX7_init_77 rfl (fun q9 H hw => ?_)
  refine W.widen (k := 9) (n := 1428) (Nat.le_of_ble_eq_true rfl) (Nat.le_of_ble_eq_true rfl) ?_
  generalize hV : ([(q0, .inr (7, [.int 0, .ref q1, .ref q2, .ref q3, .int 0, .int 90, .ref q4, .int 0, .ref q5, .ref q6, .int 0, .int 0, .int 0, .ref q7, .ref q8, .null, .null, .null, .null, .int 0, .int 0, .int 0, .int 0, .null, .null, .int 0, .int 0, .int 0, .null, .null, .null, .null, .null, .null, .null, .null, .int 0, .int 0, .int 0, .int 0, .int 0, .null, .int 0])), (q1, .inl (cI, 6, .inl (fun _ => 0))), (q2, .inl (cI, 6, .inl (fun _ => 0))), (q3, .inl (cI, 12, .inl (fun _ => 0))), (q4, .inl (cI, 160, .inl (arL LW7_117 0))), (q5, .inl (cI, 1200, .inl (fun _ => 0))), (q6, .inl (cI, 24, .inl (fun _ => 0))), (q7, .inl (cI, 12, .inl (fun _ => 0))), (q8, .inl (cI, 4, .inl (fun _ => 0)))] : va_W) = V at hw
  rw [arL_0 LW7_77] at hw
  refine lv_dup hx hb dX7_init_79 rfl ?_
  refine lv_iconst (v := 0) hx hb dX7_init_80 (by decide) ?_
  refine lv_iconst (v := (-1)) hx hb dX7_init_81 (by decide) ?_
  refine r_fil (V := V) (n := 4) (L := LW7_77) (k := 0) S hK ht hw (i := 0) (x := (-1)) rfl rfl (by unfold vp_in; decide) dX7_init_82 (fun H locs hw => ?_)
  refine lv_dup hx hb dX7_init_83 rfl ?_
  refine lv_iconst (v := 1) hx hb dX7_init_84 (by decide) ?_
  refine lv_iconst (v := (-1)) hx hb dX7_init_85 (by decide) ?_
  refine r_fil (V := V) (n := 4) (L := LW7_77) (k := 1) S hK ht hw (i := 1) (x := (-1)) rfl rfl (by unfold vp_in; decide) dX7_init_86 (fun H locs hw => ?_)
  refine lv_dup hx hb dX7_init_87 rfl ?_
  refine lv_iconst (v := 2) hx hb dX7_init_88 (by decide) ?_
  refine lv_iconst (v := (-1)) hx hb dX7_init_89 (by decide) ?_
  refine r_fil (V := V) (n := 4) (L := LW7_77) (k := 2) S hK ht hw (i := 2) (x := (-1)) rfl rfl (by unfold vp_in; decide) dX7_init_90 (fun H locs hw => ?_)
  refine lv_dup hx hb dX7_init_91 rfl ?_
  refine lv_iconst (v := 3) hx hb dX7_init_92 (by decide) ?_
  refine lv_iconst (v := (-1)) hx hb dX7_init_93 (by decide) ?_
  refine r_fil (V := V) (n := 4) (L := LW7_77) (k := 3) S hK ht hw (i := 3) (x := (-1)) rfl rfl (by unfold vp_in; decide) dX7_init_94 (fun H locs hw => ?_)
  subst hV
  have hw : RD D [(q0, .inr (7, [.int 0, .ref q1, .ref q2, .ref q3, .int 0, .int 90, .ref q4, .int 0, .ref q5, .ref q6, .int 0, .int 0, .int 0, .ref q7, .ref q8, .null, .null, .null, .null, .int 0, .int 0, .int 0, .int 0, .null, .null, .int 0, .int 0, .int 0, .null, .null, .null, .null, .null, .null, .null, .null, .int 0, .int 0, .int 0, .int 0, .int 0, .null, .int 0])), (q1, .inl (cI, 6, .inl (fun _ => 0))), (q2, .inl (cI, 6, .inl (fun _ => 0))), (q3, .inl (cI, 12, .inl (fun _ => 0))), (q4, .inl (cI, 160, .inl (arL LW7_117 0))), (q5, .inl (cI, 1200, .inl (fun _ => 0))), (q6, .inl (cI, 24, .inl (fun _ => 0))), (q7, .inl (cI, 12, .inl (fun _ => 0))), (q8, .inl (cI, 4, .inl (fun _ => 0))), (q9, .inl (cI, 4, .inl (arL LW7_77 4)))] (va_A [(q0, .inr (7, [.int 0, .null, .null, .null, .int 0, .int 0, .null, .int 0, .null, .null, .int 0, .int 0, .int 0, .null, .null, .null, .null, .null, .null, .int 0, .int 0, .int 0, .int 0, .null, .null, .int 0, .int 0, .int 0, .null, .null, .null, .null, .null, .null, .null, .null, .int 0, .int 0, .int 0, .int 0, .int 0, .null, .int 0]))] sz) s.heap H _ := hw
  refine W.eq (g2 := F0 m 95 ls [.ref q9, .ref q0]) rfl ?_
  refine va_putF (D := D) (ci := 7) (v := .ref q9) (ty := tyX7 15) (C := RX7) (T := TX7) (N := 43) (fs := [.int 0, .ref q1, .ref q2, .ref q3, .int 0, .int 90, .ref q4, .int 0, .ref q5, .ref q6, .int 0, .int 0, .int 0, .ref q7, .ref q8, .null, .null, .null, .null, .int 0, .int 0, .int 0, .int 0, .null, .null, .int 0, .int 0, .int 0, .null, .null, .null, .null, .null, .null, .null, .null, .int 0, .int 0, .int 0, .int 0, .int 0, .null, .int 0]) hx hb hts hinX7 tyX7 tyX7_ok nmX7 hown hK hw.1 hw.2.1 hw.2.2 0 rfl rfl 15 (by decide) (hts (.fieldLink RX7 38 "SoupByRankModel" "sheetSort" "[I") (by decide +kernel)) (fun _ h9 => h9) rfl hmn rfl (by decide +kernel) rfl rfl (Nat.le_of_ble_eq_true rfl) dX7_init_95 (fun H locs hP hD hS => ?_)
  have hw : RD D [(q0, .inr (7, [.int 0, .ref q1, .ref q2, .ref q3, .int 0, .int 90, .ref q4, .int 0, .ref q5, .ref q6, .int 0, .int 0, .int 0, .ref q7, .ref q8, .ref q9, .null, .null, .null, .int 0, .int 0, .int 0, .int 0, .null, .null, .int 0, .int 0, .int 0, .null, .null, .null, .null, .null, .null, .null, .null, .int 0, .int 0, .int 0, .int 0, .int 0, .null, .int 0])), (q1, .inl (cI, 6, .inl (fun _ => 0))), (q2, .inl (cI, 6, .inl (fun _ => 0))), (q3, .inl (cI, 12, .inl (fun _ => 0))), (q4, .inl (cI, 160, .inl (arL LW7_117 0))), (q5, .inl (cI, 1200, .inl (fun _ => 0))), (q6, .inl (cI, 24, .inl (fun _ => 0))), (q7, .inl (cI, 12, .inl (fun _ => 0))), (q8, .inl (cI, 4, .inl (fun _ => 0))), (q9, .inl (cI, 4, .inl (arL LW7_77 4)))] (va_A [(q0, .inr (7, [.int 0, .null, .null, .null, .int 0, .int 0, .null, .int 0, .null, .null, .int 0, .int 0, .int 0, .null, .null, .null, .null, .null, .null, .int 0, .int 0, .int 0, .int 0, .null, .null, .int 0, .int 0, .int 0, .null, .null, .null, .null, .null, .null, .null, .null, .int 0, .int 0, .int 0, .int 0, .int 0, .null, .int 0]))] sz) s.heap H _ := ⟨hP, hD, hS⟩
  refine W.eq (g2 := F0 m 98 ls []) rfl ?_
  refine lv_aload_n hx hb dX7_init_98 rfl (lv_at hl 0 rfl) ?_
  refine lv_iconst (v := 4) hx hb dX7_init_99 (by decide) ?_
  refine r_newi (n' := 4) S hK ht hw hA (hts (.arrayClass .int) (by decide +kernel)) (Nat.le_of_ble_eq_true rfl) (Nat.le_of_ble_eq_true rfl) (Nat.le_of_ble_eq_true rfl) dX7_init_100 rfl (fun q10 H hw => ?_)
  refine W.widen (k := 10) (n := 1432) (Nat.le_of_ble_eq_true rfl) (Nat.le_of_ble_eq_true rfl) ?_
  have hw : RD D [(q0, .inr (7, [.int 0, .ref q1, .ref q2, .ref q3, .int 0, .int 90, .ref q4, .int 0, .ref q5, .ref q6, .int 0, .int 0, .int 0, .ref q7, .ref q8, .ref q9, .null, .null, .null, .int 0, .int 0, .int 0, .int 0, .null, .null, .int 0, .int 0, .int 0, .null, .null, .null, .null, .null, .null, .null, .null, .int 0, .int 0, .int 0, .int 0, .int 0, .null, .int 0])), (q1, .inl (cI, 6, .inl (fun _ => 0))), (q2, .inl (cI, 6, .inl (fun _ => 0))), (q3, .inl (cI, 12, .inl (fun _ => 0))), (q4, .inl (cI, 160, .inl (arL LW7_117 0))), (q5, .inl (cI, 1200, .inl (fun _ => 0))), (q6, .inl (cI, 24, .inl (fun _ => 0))), (q7, .inl (cI, 12, .inl (fun _ => 0))), (q8, .inl (cI, 4, .inl (fun _ => 0))), (q9, .inl (cI, 4, .inl (arL LW7_77 4))), (q10, .inl (cI, 4, .inl (fun _ => 0)))] (va_A [(q0, .inr (7, [.int 0, .null, .null, .null, .int 0, .int 0, .null, .int 0, .null, .null, .int 0, .int 0, .int 0, .null, .null, .null, .null, .null, .null, .int 0, .int 0, .int 0, .int 0, .null, .null, .int 0, .int 0, .int 0, .null, .null, .null, .null, .null, .null, .null, .null, .int 0, .int 0, .int 0, .int 0, .int 0, .null, .int 0]))] sz) s.heap H _ := hw
  refine va_putF (D := D) (ci := 7) (v := .ref q10) (ty := tyX7 16) (C := RX7) (T := TX7) (N := 43) (fs := [.int 0, .ref q1, .ref q2, .ref q3, .int 0, .int 90, .ref q4, .int 0, .ref q5, .ref q6, .int 0, .int 0, .int 0, .ref q7, .ref q8, .ref q9, .null, .null, .null, .int 0, .int 0, .int 0, .int 0, .null, .null, .int 0, .int 0, .int 0, .null, .null, .null, .null, .null, .null, .null, .null, .int 0, .int 0, .int 0, .int 0, .int 0, .null, .int 0]) hx hb hts hinX7 tyX7 tyX7_ok nmX7 hown hK hw.1 hw.2.1 hw.2.2 0 rfl rfl 16 (by decide) (hts (.fieldLink RX7 41 "SoupByRankModel" "sheetSize" "[I") (by decide +kernel)) (fun _ h9 => h9) rfl hmn rfl (by decide +kernel) rfl rfl (Nat.le_of_ble_eq_true rfl) dX7_init_102 (fun H locs hP hD hS => ?_)
  have hw : RD D [(q0, .inr (7, [.int 0, .ref q1, .ref q2, .ref q3, .int 0, .int 90, .ref q4, .int 0, .ref q5, .ref q6, .int 0, .int 0, .int 0, .ref q7, .ref q8, .ref q9, .ref q10, .null, .null, .int 0, .int 0, .int 0, .int 0, .null, .null, .int 0, .int 0, .int 0, .null, .null, .null, .null, .null, .null, .null, .null, .int 0, .int 0, .int 0, .int 0, .int 0, .null, .int 0])), (q1, .inl (cI, 6, .inl (fun _ => 0))), (q2, .inl (cI, 6, .inl (fun _ => 0))), (q3, .inl (cI, 12, .inl (fun _ => 0))), (q4, .inl (cI, 160, .inl (arL LW7_117 0))), (q5, .inl (cI, 1200, .inl (fun _ => 0))), (q6, .inl (cI, 24, .inl (fun _ => 0))), (q7, .inl (cI, 12, .inl (fun _ => 0))), (q8, .inl (cI, 4, .inl (fun _ => 0))), (q9, .inl (cI, 4, .inl (arL LW7_77 4))), (q10, .inl (cI, 4, .inl (fun _ => 0)))] (va_A [(q0, .inr (7, [.int 0, .null, .null, .null, .int 0, .int 0, .null, .int 0, .null, .null, .int 0, .int 0, .int 0, .null, .null, .null, .null, .null, .null, .int 0, .int 0, .int 0, .int 0, .null, .null, .int 0, .int 0, .int 0, .null, .null, .null, .null, .null, .null, .null, .null, .int 0, .int 0, .int 0, .int 0, .int 0, .null, .int 0]))] sz) s.heap H _ := ⟨hP, hD, hS⟩
  refine W.eq (g2 := F0 m 105 ls []) rfl ?_
  refine lv_aload_n hx hb dX7_init_105 rfl (lv_at hl 0 rfl) ?_
  refine lv_sipush (v := 160) hx hb dX7_init_106 (by decide) ?_
  refine r_newi (n' := 160) S hK ht hw hA (hts (.arrayClass .int) (by decide +kernel)) (Nat.le_of_ble_eq_true rfl) (Nat.le_of_ble_eq_true rfl) (Nat.le_of_ble_eq_true rfl) dX7_init_109 rfl (fun q11 H hw => ?_)
  refine W.widen (k := 11) (n := 1592) (Nat.le_of_ble_eq_true rfl) (Nat.le_of_ble_eq_true rfl) ?_
  have hw : RD D [(q0, .inr (7, [.int 0, .ref q1, .ref q2, .ref q3, .int 0, .int 90, .ref q4, .int 0, .ref q5, .ref q6, .int 0, .int 0, .int 0, .ref q7, .ref q8, .ref q9, .ref q10, .null, .null, .int 0, .int 0, .int 0, .int 0, .null, .null, .int 0, .int 0, .int 0, .null, .null, .null, .null, .null, .null, .null, .null, .int 0, .int 0, .int 0, .int 0, .int 0, .null, .int 0])), (q1, .inl (cI, 6, .inl (fun _ => 0))), (q2, .inl (cI, 6, .inl (fun _ => 0))), (q3, .inl (cI, 12, .inl (fun _ => 0))), (q4, .inl (cI, 160, .inl (arL LW7_117 0))), (q5, .inl (cI, 1200, .inl (fun _ => 0))), (q6, .inl (cI, 24, .inl (fun _ => 0))), (q7, .inl (cI, 12, .inl (fun _ => 0))), (q8, .inl (cI, 4, .inl (fun _ => 0))), (q9, .inl (cI, 4, .inl (arL LW7_77 4))), (q10, .inl (cI, 4, .inl (fun _ => 0))), (q11, .inl (cI, 160, .inl (fun _ => 0)))] (va_A [(q0, .inr (7, [.int 0, .null, .null, .null, .int 0, .int 0, .null, .int 0, .null, .null, .int 0, .int 0, .int 0, .null, .null, .null, .null, .null, .null, .int 0, .int 0, .int 0, .int 0, .null, .null, .int 0, .int 0, .int 0, .null, .null, .null, .null, .null, .null, .null, .null, .int 0, .int 0, .int 0, .int 0, .int 0, .null, .int 0]))] sz) s.heap H _ := hw
  refine va_putF (D := D) (ci := 7) (v := .ref q11) (ty := tyX7 17) (C := RX7) (T := TX7) (N := 43) (fs := [.int 0, .ref q1, .ref q2, .ref q3, .int 0, .int 90, .ref q4, .int 0, .ref q5, .ref q6, .int 0, .int 0, .int 0, .ref q7, .ref q8, .ref q9, .ref q10, .null, .null, .int 0, .int 0, .int 0, .int 0, .null, .null, .int 0, .int 0, .int 0, .null, .null, .null, .null, .null, .null, .null, .null, .int 0, .int 0, .int 0, .int 0, .int 0, .null, .int 0]) hx hb hts hinX7 tyX7 tyX7_ok nmX7 hown hK hw.1 hw.2.1 hw.2.2 0 rfl rfl 17 (by decide) (hts (.fieldLink RX7 44 "SoupByRankModel" "cells" "[I") (by decide +kernel)) (fun _ h9 => h9) rfl hmn rfl (by decide +kernel) rfl rfl (Nat.le_of_ble_eq_true rfl) dX7_init_111 (fun H locs hP hD hS => ?_)
  have hw : RD D [(q0, .inr (7, [.int 0, .ref q1, .ref q2, .ref q3, .int 0, .int 90, .ref q4, .int 0, .ref q5, .ref q6, .int 0, .int 0, .int 0, .ref q7, .ref q8, .ref q9, .ref q10, .ref q11, .null, .int 0, .int 0, .int 0, .int 0, .null, .null, .int 0, .int 0, .int 0, .null, .null, .null, .null, .null, .null, .null, .null, .int 0, .int 0, .int 0, .int 0, .int 0, .null, .int 0])), (q1, .inl (cI, 6, .inl (fun _ => 0))), (q2, .inl (cI, 6, .inl (fun _ => 0))), (q3, .inl (cI, 12, .inl (fun _ => 0))), (q4, .inl (cI, 160, .inl (arL LW7_117 0))), (q5, .inl (cI, 1200, .inl (fun _ => 0))), (q6, .inl (cI, 24, .inl (fun _ => 0))), (q7, .inl (cI, 12, .inl (fun _ => 0))), (q8, .inl (cI, 4, .inl (fun _ => 0))), (q9, .inl (cI, 4, .inl (arL LW7_77 4))), (q10, .inl (cI, 4, .inl (fun _ => 0))), (q11, .inl (cI, 160, .inl (fun _ => 0)))] (va_A [(q0, .inr (7, [.int 0, .null, .null, .null, .int 0, .int 0, .null, .int 0, .null, .null, .int 0, .int 0, .int 0, .null, .null, .null, .null, .null, .null, .int 0, .int 0, .int 0, .int 0, .null, .null, .int 0, .int 0, .int 0, .null, .null, .null, .null, .null, .null, .null, .null, .int 0, .int 0, .int 0, .int 0, .int 0, .null, .int 0]))] sz) s.heap H _ := ⟨hP, hD, hS⟩
  refine W.eq (g2 := F0 m 114 ls []) rfl ?_
  refine lv_aload_n hx hb dX7_init_114 rfl (lv_at hl 0 rfl) ?_
  refine lv_bipush (v := 30) hx hb dX7_init_115 (by decide) ?_
  refine r_newi (n' := 30) S hK ht hw hA (hts (.arrayClass .int) (by decide +kernel)) (Nat.le_of_ble_eq_true rfl) (Nat.le_of_ble_eq_true rfl) (Nat.le_of_ble_eq_true rfl) dX7_init_117 rfl (fun q12 H hw => ?_)
  refine W.widen (k := 12) (n := 1622) (Nat.le_of_ble_eq_true rfl) (Nat.le_of_ble_eq_true rfl) ?_
  generalize hV : ([(q0, .inr (7, [.int 0, .ref q1, .ref q2, .ref q3, .int 0, .int 90, .ref q4, .int 0, .ref q5, .ref q6, .int 0, .int 0, .int 0, .ref q7, .ref q8, .ref q9, .ref q10, .ref q11, .null, .int 0, .int 0, .int 0, .int 0, .null, .null, .int 0, .int 0, .int 0, .null, .null, .null, .null, .null, .null, .null, .null, .int 0, .int 0, .int 0, .int 0, .int 0, .null, .int 0])), (q1, .inl (cI, 6, .inl (fun _ => 0))), (q2, .inl (cI, 6, .inl (fun _ => 0))), (q3, .inl (cI, 12, .inl (fun _ => 0))), (q4, .inl (cI, 160, .inl (arL LW7_117 0))), (q5, .inl (cI, 1200, .inl (fun _ => 0))), (q6, .inl (cI, 24, .inl (fun _ => 0))), (q7, .inl (cI, 12, .inl (fun _ => 0))), (q8, .inl (cI, 4, .inl (fun _ => 0))), (q9, .inl (cI, 4, .inl (arL LW7_77 4))), (q10, .inl (cI, 4, .inl (fun _ => 0))), (q11, .inl (cI, 160, .inl (fun _ => 0)))] : va_W) = V at hw
  rw [arL_0 LW7_117] at hw
  refine lv_dup hx hb dX7_init_119 rfl ?_
  refine lv_iconst (v := 0) hx hb dX7_init_120 (by decide) ?_
  refine lv_bipush (v := 99) hx hb dX7_init_121 (by decide) ?_
  refine r_fil (V := V) (n := 30) (L := LW7_117) (k := 0) S hK ht hw (i := 0) (x := 99) rfl rfl (by unfold vp_in; decide) dX7_init_123 (fun H locs hw => ?_)
  refine lv_dup hx hb dX7_init_124 rfl ?_
  refine lv_iconst (v := 1) hx hb dX7_init_125 (by decide) ?_
  refine lv_bipush (v := 111) hx hb dX7_init_126 (by decide) ?_
  refine r_fil (V := V) (n := 30) (L := LW7_117) (k := 1) S hK ht hw (i := 1) (x := 111) rfl rfl (by unfold vp_in; decide) dX7_init_128 (fun H locs hw => ?_)
  refine lv_dup hx hb dX7_init_129 rfl ?_
  refine lv_iconst (v := 2) hx hb dX7_init_130 (by decide) ?_
  refine lv_bipush (v := 111) hx hb dX7_init_131 (by decide) ?_
  refine r_fil (V := V) (n := 30) (L := LW7_117) (k := 2) S hK ht hw (i := 2) (x := 111) rfl rfl (by unfold vp_in; decide) dX7_init_133 (fun H locs hw => ?_)
  refine lv_dup hx hb dX7_init_134 rfl ?_
  refine lv_iconst (v := 3) hx hb dX7_init_135 (by decide) ?_
  refine lv_bipush (v := 108) hx hb dX7_init_136 (by decide) ?_
  refine r_fil (V := V) (n := 30) (L := LW7_117) (k := 3) S hK ht hw (i := 3) (x := 108) rfl rfl (by unfold vp_in; decide) dX7_init_138 (fun H locs hw => ?_)
  refine lv_dup hx hb dX7_init_139 rfl ?_
  refine lv_iconst (v := 4) hx hb dX7_init_140 (by decide) ?_
  refine lv_bipush (v := 115) hx hb dX7_init_141 (by decide) ?_
  refine r_fil (V := V) (n := 30) (L := LW7_117) (k := 4) S hK ht hw (i := 4) (x := 115) rfl rfl (by unfold vp_in; decide) dX7_init_143 (fun H locs hw => ?_)
  refine lv_dup hx hb dX7_init_144 rfl ?_
  refine lv_iconst (v := 5) hx hb dX7_init_145 (by decide) ?_
  refine lv_bipush (v := 32) hx hb dX7_init_146 (by decide) ?_
  refine r_fil (V := V) (n := 30) (L := LW7_117) (k := 5) S hK ht hw (i := 5) (x := 32) rfl rfl (by unfold vp_in; decide) dX7_init_148 (fun H locs hw => ?_)
  refine lv_dup hx hb dX7_init_149 rfl ?_
  refine lv_bipush (v := 6) hx hb dX7_init_150 (by decide) ?_
  refine lv_bipush (v := 50) hx hb dX7_init_152 (by decide) ?_
  refine r_fil (V := V) (n := 30) (L := LW7_117) (k := 6) S hK ht hw (i := 6) (x := 50) rfl rfl (by unfold vp_in; decide) dX7_init_154 (fun H locs hw => ?_)
  refine lv_dup hx hb dX7_init_155 rfl ?_
  refine lv_bipush (v := 7) hx hb dX7_init_156 (by decide) ?_
  refine lv_bipush (v := 32) hx hb dX7_init_158 (by decide) ?_
  refine r_fil (V := V) (n := 30) (L := LW7_117) (k := 7) S hK ht hw (i := 7) (x := 32) rfl rfl (by unfold vp_in; decide) dX7_init_160 (fun H locs hw => ?_)
  refine W.eq (g2 := F0 m 161 ls [.ref q12, .ref q0]) rfl ?_
  refine lv_dup hx hb dX7_init_161 rfl ?_
  refine lv_bipush (v := 8) hx hb dX7_init_162 (by decide) ?_
  refine lv_bipush (v := 59) hx hb dX7_init_164 (by decide) ?_
  refine r_fil (V := V) (n := 30) (L := LW7_117) (k := 8) S hK ht hw (i := 8) (x := 59) rfl rfl (by unfold vp_in; decide) dX7_init_166 (fun H locs hw => ?_)
  refine lv_dup hx hb dX7_init_167 rfl ?_
  refine lv_bipush (v := 9) hx hb dX7_init_168 (by decide) ?_
  refine lv_bipush (v := 32) hx hb dX7_init_170 (by decide) ?_
  refine r_fil (V := V) (n := 30) (L := LW7_117) (k := 9) S hK ht hw (i := 9) (x := 32) rfl rfl (by unfold vp_in; decide) dX7_init_172 (fun H locs hw => ?_)
  refine lv_dup hx hb dX7_init_173 rfl ?_
  refine lv_bipush (v := 10) hx hb dX7_init_174 (by decide) ?_
  refine lv_bipush (v := 119) hx hb dX7_init_176 (by decide) ?_
  refine r_fil (V := V) (n := 30) (L := LW7_117) (k := 10) S hK ht hw (i := 10) (x := 119) rfl rfl (by unfold vp_in; decide) dX7_init_178 (fun H locs hw => ?_)
  refine lv_dup hx hb dX7_init_179 rfl ?_
  refine lv_bipush (v := 11) hx hb dX7_init_180 (by decide) ?_
  refine lv_bipush (v := 97) hx hb dX7_init_182 (by decide) ?_
  refine r_fil (V := V) (n := 30) (L := LW7_117) (k := 11) S hK ht hw (i := 11) (x := 97) rfl rfl (by unfold vp_in; decide) dX7_init_184 (fun H locs hw => ?_)
  refine lv_dup hx hb dX7_init_185 rfl ?_
  refine lv_bipush (v := 12) hx hb dX7_init_186 (by decide) ?_
  refine lv_bipush (v := 105) hx hb dX7_init_188 (by decide) ?_
  refine r_fil (V := V) (n := 30) (L := LW7_117) (k := 12) S hK ht hw (i := 12) (x := 105) rfl rfl (by unfold vp_in; decide) dX7_init_190 (fun H locs hw => ?_)
  refine lv_dup hx hb dX7_init_191 rfl ?_
  refine lv_bipush (v := 13) hx hb dX7_init_192 (by decide) ?_
  refine lv_bipush (v := 116) hx hb dX7_init_194 (by decide) ?_
  refine r_fil (V := V) (n := 30) (L := LW7_117) (k := 13) S hK ht hw (i := 13) (x := 116) rfl rfl (by unfold vp_in; decide) dX7_init_196 (fun H locs hw => ?_)
  refine lv_dup hx hb dX7_init_197 rfl ?_
  refine lv_bipush (v := 14) hx hb dX7_init_198 (by decide) ?_
  refine lv_bipush (v := 115) hx hb dX7_init_200 (by decide) ?_
  refine r_fil (V := V) (n := 30) (L := LW7_117) (k := 14) S hK ht hw (i := 14) (x := 115) rfl rfl (by unfold vp_in; decide) dX7_init_202 (fun H locs hw => ?_)
  refine lv_dup hx hb dX7_init_203 rfl ?_
  refine lv_bipush (v := 15) hx hb dX7_init_204 (by decide) ?_
  refine lv_bipush (v := 32) hx hb dX7_init_206 (by decide) ?_
  refine r_fil (V := V) (n := 30) (L := LW7_117) (k := 15) S hK ht hw (i := 15) (x := 32) rfl rfl (by unfold vp_in; decide) dX7_init_208 (fun H locs hw => ?_)
  refine W.eq (g2 := F0 m 209 ls [.ref q12, .ref q0]) rfl ?_
  refine lv_dup hx hb dX7_init_209 rfl ?_
  refine lv_bipush (v := 16) hx hb dX7_init_210 (by decide) ?_
  refine lv_bipush (v := 51) hx hb dX7_init_212 (by decide) ?_
  refine r_fil (V := V) (n := 30) (L := LW7_117) (k := 16) S hK ht hw (i := 16) (x := 51) rfl rfl (by unfold vp_in; decide) dX7_init_214 (fun H locs hw => ?_)
  refine lv_dup hx hb dX7_init_215 rfl ?_
  refine lv_bipush (v := 17) hx hb dX7_init_216 (by decide) ?_
  refine lv_bipush (v := 32) hx hb dX7_init_218 (by decide) ?_
  refine r_fil (V := V) (n := 30) (L := LW7_117) (k := 17) S hK ht hw (i := 17) (x := 32) rfl rfl (by unfold vp_in; decide) dX7_init_220 (fun H locs hw => ?_)
  refine lv_dup hx hb dX7_init_221 rfl ?_
  refine lv_bipush (v := 18) hx hb dX7_init_222 (by decide) ?_
  refine lv_bipush (v := 59) hx hb dX7_init_224 (by decide) ?_
  refine r_fil (V := V) (n := 30) (L := LW7_117) (k := 18) S hK ht hw (i := 18) (x := 59) rfl rfl (by unfold vp_in; decide) dX7_init_226 (fun H locs hw => ?_)
  refine lv_dup hx hb dX7_init_227 rfl ?_
  refine lv_bipush (v := 19) hx hb dX7_init_228 (by decide) ?_
  refine lv_bipush (v := 32) hx hb dX7_init_230 (by decide) ?_
  refine r_fil (V := V) (n := 30) (L := LW7_117) (k := 19) S hK ht hw (i := 19) (x := 32) rfl rfl (by unfold vp_in; decide) dX7_init_232 (fun H locs hw => ?_)
  refine lv_dup hx hb dX7_init_233 rfl ?_
  refine lv_bipush (v := 20) hx hb dX7_init_234 (by decide) ?_
  refine lv_bipush (v := 108) hx hb dX7_init_236 (by decide) ?_
  refine r_fil (V := V) (n := 30) (L := LW7_117) (k := 20) S hK ht hw (i := 20) (x := 108) rfl rfl (by unfold vp_in; decide) dX7_init_238 (fun H locs hw => ?_)
  refine lv_dup hx hb dX7_init_239 rfl ?_
  refine lv_bipush (v := 21) hx hb dX7_init_240 (by decide) ?_
  refine lv_bipush (v := 105) hx hb dX7_init_242 (by decide) ?_
  refine r_fil (V := V) (n := 30) (L := LW7_117) (k := 21) S hK ht hw (i := 21) (x := 105) rfl rfl (by unfold vp_in; decide) dX7_init_244 (fun H locs hw => ?_)
  refine lv_dup hx hb dX7_init_245 rfl ?_
  refine lv_bipush (v := 22) hx hb dX7_init_246 (by decide) ?_
  refine lv_bipush (v := 107) hx hb dX7_init_248 (by decide) ?_
  refine r_fil (V := V) (n := 30) (L := LW7_117) (k := 22) S hK ht hw (i := 22) (x := 107) rfl rfl (by unfold vp_in; decide) dX7_init_250 (fun H locs hw => ?_)
  refine lv_dup hx hb dX7_init_251 rfl ?_
  refine lv_bipush (v := 23) hx hb dX7_init_252 (by decide) ?_
  refine lv_bipush (v := 101) hx hb dX7_init_254 (by decide) ?_
  refine r_fil (V := V) (n := 30) (L := LW7_117) (k := 23) S hK ht hw (i := 23) (x := 101) rfl rfl (by unfold vp_in; decide) dX7_init_256 (fun H locs hw => ?_)
  refine W.eq (g2 := F0 m 257 ls [.ref q12, .ref q0]) rfl ?_
  refine lv_dup hx hb dX7_init_257 rfl ?_
  refine lv_bipush (v := 24) hx hb dX7_init_258 (by decide) ?_
  refine lv_bipush (v := 115) hx hb dX7_init_260 (by decide) ?_
  refine r_fil (V := V) (n := 30) (L := LW7_117) (k := 24) S hK ht hw (i := 24) (x := 115) rfl rfl (by unfold vp_in; decide) dX7_init_262 (fun H locs hw => ?_)
  refine lv_dup hx hb dX7_init_263 rfl ?_
  refine lv_bipush (v := 25) hx hb dX7_init_264 (by decide) ?_
  refine lv_bipush (v := 32) hx hb dX7_init_266 (by decide) ?_
  refine r_fil (V := V) (n := 30) (L := LW7_117) (k := 25) S hK ht hw (i := 25) (x := 32) rfl rfl (by unfold vp_in; decide) dX7_init_268 (fun H locs hw => ?_)
  refine lv_dup hx hb dX7_init_269 rfl ?_
  refine lv_bipush (v := 26) hx hb dX7_init_270 (by decide) ?_
  refine lv_bipush (v := 53) hx hb dX7_init_272 (by decide) ?_
  refine r_fil (V := V) (n := 30) (L := LW7_117) (k := 26) S hK ht hw (i := 26) (x := 53) rfl rfl (by unfold vp_in; decide) dX7_init_274 (fun H locs hw => ?_)
  refine lv_dup hx hb dX7_init_275 rfl ?_
  refine lv_bipush (v := 27) hx hb dX7_init_276 (by decide) ?_
  refine lv_bipush (v := 48) hx hb dX7_init_278 (by decide) ?_
  refine r_fil (V := V) (n := 30) (L := LW7_117) (k := 27) S hK ht hw (i := 27) (x := 48) rfl rfl (by unfold vp_in; decide) dX7_init_280 (fun H locs hw => ?_)
  refine lv_dup hx hb dX7_init_281 rfl ?_
  refine lv_bipush (v := 28) hx hb dX7_init_282 (by decide) ?_
  refine lv_bipush (v := 32) hx hb dX7_init_284 (by decide) ?_
  refine r_fil (V := V) (n := 30) (L := LW7_117) (k := 28) S hK ht hw (i := 28) (x := 32) rfl rfl (by unfold vp_in; decide) dX7_init_286 (fun H locs hw => ?_)
  refine lv_dup hx hb dX7_init_287 rfl ?_
  refine lv_bipush (v := 29) hx hb dX7_init_288 (by decide) ?_
  refine lv_bipush (v := 59) hx hb dX7_init_290 (by decide) ?_
  refine r_fil (V := V) (n := 30) (L := LW7_117) (k := 29) S hK ht hw (i := 29) (x := 59) rfl rfl (by unfold vp_in; decide) dX7_init_292 (fun H locs hw => ?_)
  subst hV
  have hw : RD D [(q0, .inr (7, [.int 0, .ref q1, .ref q2, .ref q3, .int 0, .int 90, .ref q4, .int 0, .ref q5, .ref q6, .int 0, .int 0, .int 0, .ref q7, .ref q8, .ref q9, .ref q10, .ref q11, .null, .int 0, .int 0, .int 0, .int 0, .null, .null, .int 0, .int 0, .int 0, .null, .null, .null, .null, .null, .null, .null, .null, .int 0, .int 0, .int 0, .int 0, .int 0, .null, .int 0])), (q1, .inl (cI, 6, .inl (fun _ => 0))), (q2, .inl (cI, 6, .inl (fun _ => 0))), (q3, .inl (cI, 12, .inl (fun _ => 0))), (q4, .inl (cI, 160, .inl (arL LW7_117 0))), (q5, .inl (cI, 1200, .inl (fun _ => 0))), (q6, .inl (cI, 24, .inl (fun _ => 0))), (q7, .inl (cI, 12, .inl (fun _ => 0))), (q8, .inl (cI, 4, .inl (fun _ => 0))), (q9, .inl (cI, 4, .inl (arL LW7_77 4))), (q10, .inl (cI, 4, .inl (fun _ => 0))), (q11, .inl (cI, 160, .inl (fun _ => 0))), (q12, .inl (cI, 30, .inl (arL LW7_117 30)))] (va_A [(q0, .inr (7, [.int 0, .null, .null, .null, .int 0, .int 0, .null, .int 0, .null, .null, .int 0, .int 0, .int 0, .null, .null, .null, .null, .null, .null, .int 0, .int 0, .int 0, .int 0, .null, .null, .int 0, .int 0, .int 0, .null, .null, .null, .null, .null, .null, .null, .null, .int 0, .int 0, .int 0, .int 0, .int 0, .null, .int 0]))] sz) s.heap H _ := hw
  refine W.eq (g2 := F0 m 293 ls [.ref q12, .ref q0]) rfl ?_
  refine va_putF (D := D) (ci := 7) (v := .ref q12) (ty := tyX7 18) (C := RX7) (T := TX7) (N := 43) (fs := [.int 0, .ref q1, .ref q2, .ref q3, .int 0, .int 90, .ref q4, .int 0, .ref q5, .ref q6, .int 0, .int 0, .int 0, .ref q7, .ref q8, .ref q9, .ref q10, .ref q11, .null, .int 0, .int 0, .int 0, .int 0, .null, .null, .int 0, .int 0, .int 0, .null, .null, .null, .null, .null, .null, .null, .null, .int 0, .int 0, .int 0, .int 0, .int 0, .null, .int 0]) hx hb hts hinX7 tyX7 tyX7_ok nmX7 hown hK hw.1 hw.2.1 hw.2.2 0 rfl rfl 18 (by decide) (hts (.fieldLink RX7 47 "SoupByRankModel" "law" "[I") (by decide +kernel)) (fun _ h9 => h9) rfl hmn rfl (by decide +kernel) rfl rfl (Nat.le_of_ble_eq_true rfl) dX7_init_293 (fun H locs hP hD hS => ?_)
  have hw : RD D [(q0, .inr (7, [.int 0, .ref q1, .ref q2, .ref q3, .int 0, .int 90, .ref q4, .int 0, .ref q5, .ref q6, .int 0, .int 0, .int 0, .ref q7, .ref q8, .ref q9, .ref q10, .ref q11, .ref q12, .int 0, .int 0, .int 0, .int 0, .null, .null, .int 0, .int 0, .int 0, .null, .null, .null, .null, .null, .null, .null, .null, .int 0, .int 0, .int 0, .int 0, .int 0, .null, .int 0])), (q1, .inl (cI, 6, .inl (fun _ => 0))), (q2, .inl (cI, 6, .inl (fun _ => 0))), (q3, .inl (cI, 12, .inl (fun _ => 0))), (q4, .inl (cI, 160, .inl (arL LW7_117 0))), (q5, .inl (cI, 1200, .inl (fun _ => 0))), (q6, .inl (cI, 24, .inl (fun _ => 0))), (q7, .inl (cI, 12, .inl (fun _ => 0))), (q8, .inl (cI, 4, .inl (fun _ => 0))), (q9, .inl (cI, 4, .inl (arL LW7_77 4))), (q10, .inl (cI, 4, .inl (fun _ => 0))), (q11, .inl (cI, 160, .inl (fun _ => 0))), (q12, .inl (cI, 30, .inl (arL LW7_117 30)))] (va_A [(q0, .inr (7, [.int 0, .null, .null, .null, .int 0, .int 0, .null, .int 0, .null, .null, .int 0, .int 0, .int 0, .null, .null, .null, .null, .null, .null, .int 0, .int 0, .int 0, .int 0, .null, .null, .int 0, .int 0, .int 0, .null, .null, .null, .null, .null, .null, .null, .null, .int 0, .int 0, .int 0, .int 0, .int 0, .null, .int 0]))] sz) s.heap H _ := ⟨hP, hD, hS⟩
  refine W.eq (g2 := F0 m 296 ls []) rfl ?_
  refine lv_aload_n hx hb dX7_init_296 rfl (lv_at hl 0 rfl) ?_
  refine lv_bipush (v := 96) hx hb dX7_init_297 (by decide) ?_
  refine r_newi (n' := 96) S hK ht hw hA (hts (.arrayClass .int) (by decide +kernel)) (Nat.le_of_ble_eq_true rfl) (Nat.le_of_ble_eq_true rfl) (Nat.le_of_ble_eq_true rfl) dX7_init_299 rfl (fun q13 H hw => ?_)
  refine W.widen (k := 13) (n := 1718) (Nat.le_of_ble_eq_true rfl) (Nat.le_of_ble_eq_true rfl) ?_
  generalize hV : ([(q0, .inr (7, [.int 0, .ref q1, .ref q2, .ref q3, .int 0, .int 90, .ref q4, .int 0, .ref q5, .ref q6, .int 0, .int 0, .int 0, .ref q7, .ref q8, .ref q9, .ref q10, .ref q11, .ref q12, .int 0, .int 0, .int 0, .int 0, .null, .null, .int 0, .int 0, .int 0, .null, .null, .null, .null, .null, .null, .null, .null, .int 0, .int 0, .int 0, .int 0, .int 0, .null, .int 0])), (q1, .inl (cI, 6, .inl (fun _ => 0))), (q2, .inl (cI, 6, .inl (fun _ => 0))), (q3, .inl (cI, 12, .inl (fun _ => 0))), (q4, .inl (cI, 160, .inl (arL LW7_117 0))), (q5, .inl (cI, 1200, .inl (fun _ => 0))), (q6, .inl (cI, 24, .inl (fun _ => 0))), (q7, .inl (cI, 12, .inl (fun _ => 0))), (q8, .inl (cI, 4, .inl (fun _ => 0))), (q9, .inl (cI, 4, .inl (arL LW7_77 4))), (q10, .inl (cI, 4, .inl (fun _ => 0))), (q11, .inl (cI, 160, .inl (fun _ => 0))), (q12, .inl (cI, 30, .inl (arL LW7_117 30)))] : va_W) = V at hw
  rw [arL_0 LW7_299] at hw
  refine lv_dup hx hb dX7_init_301 rfl ?_
  refine lv_iconst (v := 0) hx hb dX7_init_302 (by decide) ?_
  refine lv_bipush (v := 99) hx hb dX7_init_303 (by decide) ?_
  refine r_fil (V := V) (n := 96) (L := LW7_299) (k := 0) S hK ht hw (i := 0) (x := 99) rfl rfl (by unfold vp_in; decide) dX7_init_305 (fun H locs hw => ?_)
  refine lv_dup hx hb dX7_init_306 rfl ?_
  refine lv_iconst (v := 1) hx hb dX7_init_307 (by decide) ?_
  refine lv_bipush (v := 111) hx hb dX7_init_308 (by decide) ?_
  refine r_fil (V := V) (n := 96) (L := LW7_299) (k := 1) S hK ht hw (i := 1) (x := 111) rfl rfl (by unfold vp_in; decide) dX7_init_310 (fun H locs hw => ?_)
  refine lv_dup hx hb dX7_init_311 rfl ?_
  refine lv_iconst (v := 2) hx hb dX7_init_312 (by decide) ?_
  refine lv_bipush (v := 111) hx hb dX7_init_313 (by decide) ?_
  refine r_fil (V := V) (n := 96) (L := LW7_299) (k := 2) S hK ht hw (i := 2) (x := 111) rfl rfl (by unfold vp_in; decide) dX7_init_315 (fun H locs hw => ?_)
  refine lv_dup hx hb dX7_init_316 rfl ?_
  refine lv_iconst (v := 3) hx hb dX7_init_317 (by decide) ?_
  refine lv_bipush (v := 108) hx hb dX7_init_318 (by decide) ?_
  refine r_fil (V := V) (n := 96) (L := LW7_299) (k := 3) S hK ht hw (i := 3) (x := 108) rfl rfl (by unfold vp_in; decide) dX7_init_320 (fun H locs hw => ?_)
  refine lv_dup hx hb dX7_init_321 rfl ?_
  refine lv_iconst (v := 4) hx hb dX7_init_322 (by decide) ?_
  refine lv_bipush (v := 115) hx hb dX7_init_323 (by decide) ?_
  refine r_fil (V := V) (n := 96) (L := LW7_299) (k := 4) S hK ht hw (i := 4) (x := 115) rfl rfl (by unfold vp_in; decide) dX7_init_325 (fun H locs hw => ?_)
  refine lv_dup hx hb dX7_init_326 rfl ?_
  refine lv_iconst (v := 5) hx hb dX7_init_327 (by decide) ?_
  refine lv_bipush (v := 32) hx hb dX7_init_328 (by decide) ?_
  refine r_fil (V := V) (n := 96) (L := LW7_299) (k := 5) S hK ht hw (i := 5) (x := 32) rfl rfl (by unfold vp_in; decide) dX7_init_330 (fun H locs hw => ?_)
  refine lv_dup hx hb dX7_init_331 rfl ?_
  refine lv_bipush (v := 6) hx hb dX7_init_332 (by decide) ?_
  refine lv_bipush (v := 32) hx hb dX7_init_334 (by decide) ?_
  refine r_fil (V := V) (n := 96) (L := LW7_299) (k := 6) S hK ht hw (i := 6) (x := 32) rfl rfl (by unfold vp_in; decide) dX7_init_336 (fun H locs hw => ?_)
  refine lv_dup hx hb dX7_init_337 rfl ?_
  refine lv_bipush (v := 7) hx hb dX7_init_338 (by decide) ?_
  refine lv_bipush (v := 32) hx hb dX7_init_340 (by decide) ?_
  refine r_fil (V := V) (n := 96) (L := LW7_299) (k := 7) S hK ht hw (i := 7) (x := 32) rfl rfl (by unfold vp_in; decide) dX7_init_342 (fun H locs hw => ?_)
  refine W.eq (g2 := F0 m 343 ls [.ref q13, .ref q0]) rfl ?_
  refine lv_dup hx hb dX7_init_343 rfl ?_
  refine lv_bipush (v := 8) hx hb dX7_init_344 (by decide) ?_
  refine lv_bipush (v := 119) hx hb dX7_init_346 (by decide) ?_
  refine r_fil (V := V) (n := 96) (L := LW7_299) (k := 8) S hK ht hw (i := 8) (x := 119) rfl rfl (by unfold vp_in; decide) dX7_init_348 (fun H locs hw => ?_)
  refine lv_dup hx hb dX7_init_349 rfl ?_
  refine lv_bipush (v := 9) hx hb dX7_init_350 (by decide) ?_
  refine lv_bipush (v := 97) hx hb dX7_init_352 (by decide) ?_
  refine r_fil (V := V) (n := 96) (L := LW7_299) (k := 9) S hK ht hw (i := 9) (x := 97) rfl rfl (by unfold vp_in; decide) dX7_init_354 (fun H locs hw => ?_)
  refine lv_dup hx hb dX7_init_355 rfl ?_
  refine lv_bipush (v := 10) hx hb dX7_init_356 (by decide) ?_
  refine lv_bipush (v := 105) hx hb dX7_init_358 (by decide) ?_
  refine r_fil (V := V) (n := 96) (L := LW7_299) (k := 10) S hK ht hw (i := 10) (x := 105) rfl rfl (by unfold vp_in; decide) dX7_init_360 (fun H locs hw => ?_)
  refine lv_dup hx hb dX7_init_361 rfl ?_
  refine lv_bipush (v := 11) hx hb dX7_init_362 (by decide) ?_
  refine lv_bipush (v := 116) hx hb dX7_init_364 (by decide) ?_
  refine r_fil (V := V) (n := 96) (L := LW7_299) (k := 11) S hK ht hw (i := 11) (x := 116) rfl rfl (by unfold vp_in; decide) dX7_init_366 (fun H locs hw => ?_)
  refine lv_dup hx hb dX7_init_367 rfl ?_
  refine lv_bipush (v := 12) hx hb dX7_init_368 (by decide) ?_
  refine lv_bipush (v := 115) hx hb dX7_init_370 (by decide) ?_
  refine r_fil (V := V) (n := 96) (L := LW7_299) (k := 12) S hK ht hw (i := 12) (x := 115) rfl rfl (by unfold vp_in; decide) dX7_init_372 (fun H locs hw => ?_)
  refine lv_dup hx hb dX7_init_373 rfl ?_
  refine lv_bipush (v := 13) hx hb dX7_init_374 (by decide) ?_
  refine lv_bipush (v := 32) hx hb dX7_init_376 (by decide) ?_
  refine r_fil (V := V) (n := 96) (L := LW7_299) (k := 13) S hK ht hw (i := 13) (x := 32) rfl rfl (by unfold vp_in; decide) dX7_init_378 (fun H locs hw => ?_)
  refine lv_dup hx hb dX7_init_379 rfl ?_
  refine lv_bipush (v := 14) hx hb dX7_init_380 (by decide) ?_
  refine lv_bipush (v := 32) hx hb dX7_init_382 (by decide) ?_
  refine r_fil (V := V) (n := 96) (L := LW7_299) (k := 14) S hK ht hw (i := 14) (x := 32) rfl rfl (by unfold vp_in; decide) dX7_init_384 (fun H locs hw => ?_)
  refine lv_dup hx hb dX7_init_385 rfl ?_
  refine lv_bipush (v := 15) hx hb dX7_init_386 (by decide) ?_
  refine lv_bipush (v := 32) hx hb dX7_init_388 (by decide) ?_
  refine r_fil (V := V) (n := 96) (L := LW7_299) (k := 15) S hK ht hw (i := 15) (x := 32) rfl rfl (by unfold vp_in; decide) dX7_init_390 (fun H locs hw => ?_)
  refine W.eq (g2 := F0 m 391 ls [.ref q13, .ref q0]) rfl ?_
  refine lv_dup hx hb dX7_init_391 rfl ?_
  refine lv_bipush (v := 16) hx hb dX7_init_392 (by decide) ?_
  refine lv_bipush (v := 108) hx hb dX7_init_394 (by decide) ?_
  refine r_fil (V := V) (n := 96) (L := LW7_299) (k := 16) S hK ht hw (i := 16) (x := 108) rfl rfl (by unfold vp_in; decide) dX7_init_396 (fun H locs hw => ?_)
  refine lv_dup hx hb dX7_init_397 rfl ?_
  refine lv_bipush (v := 17) hx hb dX7_init_398 (by decide) ?_
  refine lv_bipush (v := 105) hx hb dX7_init_400 (by decide) ?_
  refine r_fil (V := V) (n := 96) (L := LW7_299) (k := 17) S hK ht hw (i := 17) (x := 105) rfl rfl (by unfold vp_in; decide) dX7_init_402 (fun H locs hw => ?_)
  refine lv_dup hx hb dX7_init_403 rfl ?_
  refine lv_bipush (v := 18) hx hb dX7_init_404 (by decide) ?_
  refine lv_bipush (v := 107) hx hb dX7_init_406 (by decide) ?_
  refine r_fil (V := V) (n := 96) (L := LW7_299) (k := 18) S hK ht hw (i := 18) (x := 107) rfl rfl (by unfold vp_in; decide) dX7_init_408 (fun H locs hw => ?_)
  refine lv_dup hx hb dX7_init_409 rfl ?_
  refine lv_bipush (v := 19) hx hb dX7_init_410 (by decide) ?_
  refine lv_bipush (v := 101) hx hb dX7_init_412 (by decide) ?_
  refine r_fil (V := V) (n := 96) (L := LW7_299) (k := 19) S hK ht hw (i := 19) (x := 101) rfl rfl (by unfold vp_in; decide) dX7_init_414 (fun H locs hw => ?_)
  refine lv_dup hx hb dX7_init_415 rfl ?_
  refine lv_bipush (v := 20) hx hb dX7_init_416 (by decide) ?_
  refine lv_bipush (v := 115) hx hb dX7_init_418 (by decide) ?_
  refine r_fil (V := V) (n := 96) (L := LW7_299) (k := 20) S hK ht hw (i := 20) (x := 115) rfl rfl (by unfold vp_in; decide) dX7_init_420 (fun H locs hw => ?_)
  refine lv_dup hx hb dX7_init_421 rfl ?_
  refine lv_bipush (v := 21) hx hb dX7_init_422 (by decide) ?_
  refine lv_bipush (v := 32) hx hb dX7_init_424 (by decide) ?_
  refine r_fil (V := V) (n := 96) (L := LW7_299) (k := 21) S hK ht hw (i := 21) (x := 32) rfl rfl (by unfold vp_in; decide) dX7_init_426 (fun H locs hw => ?_)
  refine lv_dup hx hb dX7_init_427 rfl ?_
  refine lv_bipush (v := 22) hx hb dX7_init_428 (by decide) ?_
  refine lv_bipush (v := 32) hx hb dX7_init_430 (by decide) ?_
  refine r_fil (V := V) (n := 96) (L := LW7_299) (k := 22) S hK ht hw (i := 22) (x := 32) rfl rfl (by unfold vp_in; decide) dX7_init_432 (fun H locs hw => ?_)
  refine lv_dup hx hb dX7_init_433 rfl ?_
  refine lv_bipush (v := 23) hx hb dX7_init_434 (by decide) ?_
  refine lv_bipush (v := 32) hx hb dX7_init_436 (by decide) ?_
  refine r_fil (V := V) (n := 96) (L := LW7_299) (k := 23) S hK ht hw (i := 23) (x := 32) rfl rfl (by unfold vp_in; decide) dX7_init_438 (fun H locs hw => ?_)
  refine W.eq (g2 := F0 m 439 ls [.ref q13, .ref q0]) rfl ?_
  refine lv_dup hx hb dX7_init_439 rfl ?_
  refine lv_bipush (v := 24) hx hb dX7_init_440 (by decide) ?_
  refine lv_bipush (v := 104) hx hb dX7_init_442 (by decide) ?_
  refine r_fil (V := V) (n := 96) (L := LW7_299) (k := 24) S hK ht hw (i := 24) (x := 104) rfl rfl (by unfold vp_in; decide) dX7_init_444 (fun H locs hw => ?_)
  refine lv_dup hx hb dX7_init_445 rfl ?_
  refine lv_bipush (v := 25) hx hb dX7_init_446 (by decide) ?_
  refine lv_bipush (v := 101) hx hb dX7_init_448 (by decide) ?_
  refine r_fil (V := V) (n := 96) (L := LW7_299) (k := 25) S hK ht hw (i := 25) (x := 101) rfl rfl (by unfold vp_in; decide) dX7_init_450 (fun H locs hw => ?_)
  refine lv_dup hx hb dX7_init_451 rfl ?_
  refine lv_bipush (v := 26) hx hb dX7_init_452 (by decide) ?_
  refine lv_bipush (v := 97) hx hb dX7_init_454 (by decide) ?_
  refine r_fil (V := V) (n := 96) (L := LW7_299) (k := 26) S hK ht hw (i := 26) (x := 97) rfl rfl (by unfold vp_in; decide) dX7_init_456 (fun H locs hw => ?_)
  refine lv_dup hx hb dX7_init_457 rfl ?_
  refine lv_bipush (v := 27) hx hb dX7_init_458 (by decide) ?_
  refine lv_bipush (v := 116) hx hb dX7_init_460 (by decide) ?_
  refine r_fil (V := V) (n := 96) (L := LW7_299) (k := 27) S hK ht hw (i := 27) (x := 116) rfl rfl (by unfold vp_in; decide) dX7_init_462 (fun H locs hw => ?_)
  refine lv_dup hx hb dX7_init_463 rfl ?_
  refine lv_bipush (v := 28) hx hb dX7_init_464 (by decide) ?_
  refine lv_bipush (v := 32) hx hb dX7_init_466 (by decide) ?_
  refine r_fil (V := V) (n := 96) (L := LW7_299) (k := 28) S hK ht hw (i := 28) (x := 32) rfl rfl (by unfold vp_in; decide) dX7_init_468 (fun H locs hw => ?_)
  refine lv_dup hx hb dX7_init_469 rfl ?_
  refine lv_bipush (v := 29) hx hb dX7_init_470 (by decide) ?_
  refine lv_bipush (v := 32) hx hb dX7_init_472 (by decide) ?_
  refine r_fil (V := V) (n := 96) (L := LW7_299) (k := 29) S hK ht hw (i := 29) (x := 32) rfl rfl (by unfold vp_in; decide) dX7_init_474 (fun H locs hw => ?_)
  refine lv_dup hx hb dX7_init_475 rfl ?_
  refine lv_bipush (v := 30) hx hb dX7_init_476 (by decide) ?_
  refine lv_bipush (v := 32) hx hb dX7_init_478 (by decide) ?_
  refine r_fil (V := V) (n := 96) (L := LW7_299) (k := 30) S hK ht hw (i := 30) (x := 32) rfl rfl (by unfold vp_in; decide) dX7_init_480 (fun H locs hw => ?_)
  refine lv_dup hx hb dX7_init_481 rfl ?_
  refine lv_bipush (v := 31) hx hb dX7_init_482 (by decide) ?_
  refine lv_bipush (v := 32) hx hb dX7_init_484 (by decide) ?_
  refine r_fil (V := V) (n := 96) (L := LW7_299) (k := 31) S hK ht hw (i := 31) (x := 32) rfl rfl (by unfold vp_in; decide) dX7_init_486 (fun H locs hw => ?_)
  refine W.eq (g2 := F0 m 487 ls [.ref q13, .ref q0]) rfl ?_
  refine lv_dup hx hb dX7_init_487 rfl ?_
  refine lv_bipush (v := 32) hx hb dX7_init_488 (by decide) ?_
  refine lv_bipush (v := 109) hx hb dX7_init_490 (by decide) ?_
  refine r_fil (V := V) (n := 96) (L := LW7_299) (k := 32) S hK ht hw (i := 32) (x := 109) rfl rfl (by unfold vp_in; decide) dX7_init_492 (fun H locs hw => ?_)
  refine lv_dup hx hb dX7_init_493 rfl ?_
  refine lv_bipush (v := 33) hx hb dX7_init_494 (by decide) ?_
  refine lv_bipush (v := 105) hx hb dX7_init_496 (by decide) ?_
  refine r_fil (V := V) (n := 96) (L := LW7_299) (k := 33) S hK ht hw (i := 33) (x := 105) rfl rfl (by unfold vp_in; decide) dX7_init_498 (fun H locs hw => ?_)
  refine lv_dup hx hb dX7_init_499 rfl ?_
  refine lv_bipush (v := 34) hx hb dX7_init_500 (by decide) ?_
  refine lv_bipush (v := 110) hx hb dX7_init_502 (by decide) ?_
  refine r_fil (V := V) (n := 96) (L := LW7_299) (k := 34) S hK ht hw (i := 34) (x := 110) rfl rfl (by unfold vp_in; decide) dX7_init_504 (fun H locs hw => ?_)
  refine lv_dup hx hb dX7_init_505 rfl ?_
  refine lv_bipush (v := 35) hx hb dX7_init_506 (by decide) ?_
  refine lv_bipush (v := 117) hx hb dX7_init_508 (by decide) ?_
  refine r_fil (V := V) (n := 96) (L := LW7_299) (k := 35) S hK ht hw (i := 35) (x := 117) rfl rfl (by unfold vp_in; decide) dX7_init_510 (fun H locs hw => ?_)
  refine lv_dup hx hb dX7_init_511 rfl ?_
  refine lv_bipush (v := 36) hx hb dX7_init_512 (by decide) ?_
  refine lv_bipush (v := 116) hx hb dX7_init_514 (by decide) ?_
  refine r_fil (V := V) (n := 96) (L := LW7_299) (k := 36) S hK ht hw (i := 36) (x := 116) rfl rfl (by unfold vp_in; decide) dX7_init_516 (fun H locs hw => ?_)
  refine lv_dup hx hb dX7_init_517 rfl ?_
  refine lv_bipush (v := 37) hx hb dX7_init_518 (by decide) ?_
  refine lv_bipush (v := 101) hx hb dX7_init_520 (by decide) ?_
  refine r_fil (V := V) (n := 96) (L := LW7_299) (k := 37) S hK ht hw (i := 37) (x := 101) rfl rfl (by unfold vp_in; decide) dX7_init_522 (fun H locs hw => ?_)
  refine lv_dup hx hb dX7_init_523 rfl ?_
  refine lv_bipush (v := 38) hx hb dX7_init_524 (by decide) ?_
  refine lv_bipush (v := 32) hx hb dX7_init_526 (by decide) ?_
  refine r_fil (V := V) (n := 96) (L := LW7_299) (k := 38) S hK ht hw (i := 38) (x := 32) rfl rfl (by unfold vp_in; decide) dX7_init_528 (fun H locs hw => ?_)
  refine lv_dup hx hb dX7_init_529 rfl ?_
  refine lv_bipush (v := 39) hx hb dX7_init_530 (by decide) ?_
  refine lv_bipush (v := 32) hx hb dX7_init_532 (by decide) ?_
  refine r_fil (V := V) (n := 96) (L := LW7_299) (k := 39) S hK ht hw (i := 39) (x := 32) rfl rfl (by unfold vp_in; decide) dX7_init_534 (fun H locs hw => ?_)
  refine W.eq (g2 := F0 m 535 ls [.ref q13, .ref q0]) rfl ?_
  refine lv_dup hx hb dX7_init_535 rfl ?_
  refine lv_bipush (v := 40) hx hb dX7_init_536 (by decide) ?_
  refine lv_bipush (v := 100) hx hb dX7_init_538 (by decide) ?_
  refine r_fil (V := V) (n := 96) (L := LW7_299) (k := 40) S hK ht hw (i := 40) (x := 100) rfl rfl (by unfold vp_in; decide) dX7_init_540 (fun H locs hw => ?_)
  refine lv_dup hx hb dX7_init_541 rfl ?_
  refine lv_bipush (v := 41) hx hb dX7_init_542 (by decide) ?_
  refine lv_bipush (v := 111) hx hb dX7_init_544 (by decide) ?_
  refine r_fil (V := V) (n := 96) (L := LW7_299) (k := 41) S hK ht hw (i := 41) (x := 111) rfl rfl (by unfold vp_in; decide) dX7_init_546 (fun H locs hw => ?_)
  refine lv_dup hx hb dX7_init_547 rfl ?_
  refine lv_bipush (v := 42) hx hb dX7_init_548 (by decide) ?_
  refine lv_bipush (v := 119) hx hb dX7_init_550 (by decide) ?_
  refine r_fil (V := V) (n := 96) (L := LW7_299) (k := 42) S hK ht hw (i := 42) (x := 119) rfl rfl (by unfold vp_in; decide) dX7_init_552 (fun H locs hw => ?_)
  refine lv_dup hx hb dX7_init_553 rfl ?_
  refine lv_bipush (v := 43) hx hb dX7_init_554 (by decide) ?_
  refine lv_bipush (v := 110) hx hb dX7_init_556 (by decide) ?_
  refine r_fil (V := V) (n := 96) (L := LW7_299) (k := 43) S hK ht hw (i := 43) (x := 110) rfl rfl (by unfold vp_in; decide) dX7_init_558 (fun H locs hw => ?_)
  refine lv_dup hx hb dX7_init_559 rfl ?_
  refine lv_bipush (v := 44) hx hb dX7_init_560 (by decide) ?_
  refine lv_bipush (v := 32) hx hb dX7_init_562 (by decide) ?_
  refine r_fil (V := V) (n := 96) (L := LW7_299) (k := 44) S hK ht hw (i := 44) (x := 32) rfl rfl (by unfold vp_in; decide) dX7_init_564 (fun H locs hw => ?_)
  refine lv_dup hx hb dX7_init_565 rfl ?_
  refine lv_bipush (v := 45) hx hb dX7_init_566 (by decide) ?_
  refine lv_bipush (v := 32) hx hb dX7_init_568 (by decide) ?_
  refine r_fil (V := V) (n := 96) (L := LW7_299) (k := 45) S hK ht hw (i := 45) (x := 32) rfl rfl (by unfold vp_in; decide) dX7_init_570 (fun H locs hw => ?_)
  refine lv_dup hx hb dX7_init_571 rfl ?_
  refine lv_bipush (v := 46) hx hb dX7_init_572 (by decide) ?_
  refine lv_bipush (v := 32) hx hb dX7_init_574 (by decide) ?_
  refine r_fil (V := V) (n := 96) (L := LW7_299) (k := 46) S hK ht hw (i := 46) (x := 32) rfl rfl (by unfold vp_in; decide) dX7_init_576 (fun H locs hw => ?_)
  refine lv_dup hx hb dX7_init_577 rfl ?_
  refine lv_bipush (v := 47) hx hb dX7_init_578 (by decide) ?_
  refine lv_bipush (v := 32) hx hb dX7_init_580 (by decide) ?_
  refine r_fil (V := V) (n := 96) (L := LW7_299) (k := 47) S hK ht hw (i := 47) (x := 32) rfl rfl (by unfold vp_in; decide) dX7_init_582 (fun H locs hw => ?_)
  refine W.eq (g2 := F0 m 583 ls [.ref q13, .ref q0]) rfl ?_
  refine lv_dup hx hb dX7_init_583 rfl ?_
  refine lv_bipush (v := 48) hx hb dX7_init_584 (by decide) ?_
  refine lv_bipush (v := 114) hx hb dX7_init_586 (by decide) ?_
  refine r_fil (V := V) (n := 96) (L := LW7_299) (k := 48) S hK ht hw (i := 48) (x := 114) rfl rfl (by unfold vp_in; decide) dX7_init_588 (fun H locs hw => ?_)
  refine lv_dup hx hb dX7_init_589 rfl ?_
  refine lv_bipush (v := 49) hx hb dX7_init_590 (by decide) ?_
  refine lv_bipush (v := 97) hx hb dX7_init_592 (by decide) ?_
  refine r_fil (V := V) (n := 96) (L := LW7_299) (k := 49) S hK ht hw (i := 49) (x := 97) rfl rfl (by unfold vp_in; decide) dX7_init_594 (fun H locs hw => ?_)
  refine lv_dup hx hb dX7_init_595 rfl ?_
  refine lv_bipush (v := 50) hx hb dX7_init_596 (by decide) ?_
  refine lv_bipush (v := 110) hx hb dX7_init_598 (by decide) ?_
  refine r_fil (V := V) (n := 96) (L := LW7_299) (k := 50) S hK ht hw (i := 50) (x := 110) rfl rfl (by unfold vp_in; decide) dX7_init_600 (fun H locs hw => ?_)
  refine lv_dup hx hb dX7_init_601 rfl ?_
  refine lv_bipush (v := 51) hx hb dX7_init_602 (by decide) ?_
  refine lv_bipush (v := 107) hx hb dX7_init_604 (by decide) ?_
  refine r_fil (V := V) (n := 96) (L := LW7_299) (k := 51) S hK ht hw (i := 51) (x := 107) rfl rfl (by unfold vp_in; decide) dX7_init_606 (fun H locs hw => ?_)
  refine lv_dup hx hb dX7_init_607 rfl ?_
  refine lv_bipush (v := 52) hx hb dX7_init_608 (by decide) ?_
  refine lv_bipush (v := 32) hx hb dX7_init_610 (by decide) ?_
  refine r_fil (V := V) (n := 96) (L := LW7_299) (k := 52) S hK ht hw (i := 52) (x := 32) rfl rfl (by unfold vp_in; decide) dX7_init_612 (fun H locs hw => ?_)
  refine lv_dup hx hb dX7_init_613 rfl ?_
  refine lv_bipush (v := 53) hx hb dX7_init_614 (by decide) ?_
  refine lv_bipush (v := 32) hx hb dX7_init_616 (by decide) ?_
  refine r_fil (V := V) (n := 96) (L := LW7_299) (k := 53) S hK ht hw (i := 53) (x := 32) rfl rfl (by unfold vp_in; decide) dX7_init_618 (fun H locs hw => ?_)
  refine lv_dup hx hb dX7_init_619 rfl ?_
  refine lv_bipush (v := 54) hx hb dX7_init_620 (by decide) ?_
  refine lv_bipush (v := 32) hx hb dX7_init_622 (by decide) ?_
  refine r_fil (V := V) (n := 96) (L := LW7_299) (k := 54) S hK ht hw (i := 54) (x := 32) rfl rfl (by unfold vp_in; decide) dX7_init_624 (fun H locs hw => ?_)
  refine lv_dup hx hb dX7_init_625 rfl ?_
  refine lv_bipush (v := 55) hx hb dX7_init_626 (by decide) ?_
  refine lv_bipush (v := 32) hx hb dX7_init_628 (by decide) ?_
  refine r_fil (V := V) (n := 96) (L := LW7_299) (k := 55) S hK ht hw (i := 55) (x := 32) rfl rfl (by unfold vp_in; decide) dX7_init_630 (fun H locs hw => ?_)
  refine W.eq (g2 := F0 m 631 ls [.ref q13, .ref q0]) rfl ?_
  refine lv_dup hx hb dX7_init_631 rfl ?_
  refine lv_bipush (v := 56) hx hb dX7_init_632 (by decide) ?_
  refine lv_bipush (v := 109) hx hb dX7_init_634 (by decide) ?_
  refine r_fil (V := V) (n := 96) (L := LW7_299) (k := 56) S hK ht hw (i := 56) (x := 109) rfl rfl (by unfold vp_in; decide) dX7_init_636 (fun H locs hw => ?_)
  refine lv_dup hx hb dX7_init_637 rfl ?_
  refine lv_bipush (v := 57) hx hb dX7_init_638 (by decide) ?_
  refine lv_bipush (v := 111) hx hb dX7_init_640 (by decide) ?_
  refine r_fil (V := V) (n := 96) (L := LW7_299) (k := 57) S hK ht hw (i := 57) (x := 111) rfl rfl (by unfold vp_in; decide) dX7_init_642 (fun H locs hw => ?_)
  refine lv_dup hx hb dX7_init_643 rfl ?_
  refine lv_bipush (v := 58) hx hb dX7_init_644 (by decide) ?_
  refine lv_bipush (v := 111) hx hb dX7_init_646 (by decide) ?_
  refine r_fil (V := V) (n := 96) (L := LW7_299) (k := 58) S hK ht hw (i := 58) (x := 111) rfl rfl (by unfold vp_in; decide) dX7_init_648 (fun H locs hw => ?_)
  refine lv_dup hx hb dX7_init_649 rfl ?_
  refine lv_bipush (v := 59) hx hb dX7_init_650 (by decide) ?_
  refine lv_bipush (v := 100) hx hb dX7_init_652 (by decide) ?_
  refine r_fil (V := V) (n := 96) (L := LW7_299) (k := 59) S hK ht hw (i := 59) (x := 100) rfl rfl (by unfold vp_in; decide) dX7_init_654 (fun H locs hw => ?_)
  refine lv_dup hx hb dX7_init_655 rfl ?_
  refine lv_bipush (v := 60) hx hb dX7_init_656 (by decide) ?_
  refine lv_bipush (v := 32) hx hb dX7_init_658 (by decide) ?_
  refine r_fil (V := V) (n := 96) (L := LW7_299) (k := 60) S hK ht hw (i := 60) (x := 32) rfl rfl (by unfold vp_in; decide) dX7_init_660 (fun H locs hw => ?_)
  refine lv_dup hx hb dX7_init_661 rfl ?_
  refine lv_bipush (v := 61) hx hb dX7_init_662 (by decide) ?_
  refine lv_bipush (v := 32) hx hb dX7_init_664 (by decide) ?_
  refine r_fil (V := V) (n := 96) (L := LW7_299) (k := 61) S hK ht hw (i := 61) (x := 32) rfl rfl (by unfold vp_in; decide) dX7_init_666 (fun H locs hw => ?_)
  refine lv_dup hx hb dX7_init_667 rfl ?_
  refine lv_bipush (v := 62) hx hb dX7_init_668 (by decide) ?_
  refine lv_bipush (v := 32) hx hb dX7_init_670 (by decide) ?_
  refine r_fil (V := V) (n := 96) (L := LW7_299) (k := 62) S hK ht hw (i := 62) (x := 32) rfl rfl (by unfold vp_in; decide) dX7_init_672 (fun H locs hw => ?_)
  refine lv_dup hx hb dX7_init_673 rfl ?_
  refine lv_bipush (v := 63) hx hb dX7_init_674 (by decide) ?_
  refine lv_bipush (v := 32) hx hb dX7_init_676 (by decide) ?_
  refine r_fil (V := V) (n := 96) (L := LW7_299) (k := 63) S hK ht hw (i := 63) (x := 32) rfl rfl (by unfold vp_in; decide) dX7_init_678 (fun H locs hw => ?_)
  refine W.eq (g2 := F0 m 679 ls [.ref q13, .ref q0]) rfl ?_
  refine lv_dup hx hb dX7_init_679 rfl ?_
  refine lv_bipush (v := 64) hx hb dX7_init_680 (by decide) ?_
  refine lv_bipush (v := 109) hx hb dX7_init_682 (by decide) ?_
  refine r_fil (V := V) (n := 96) (L := LW7_299) (k := 64) S hK ht hw (i := 64) (x := 109) rfl rfl (by unfold vp_in; decide) dX7_init_684 (fun H locs hw => ?_)
  refine lv_dup hx hb dX7_init_685 rfl ?_
  refine lv_bipush (v := 65) hx hb dX7_init_686 (by decide) ?_
  refine lv_bipush (v := 111) hx hb dX7_init_688 (by decide) ?_
  refine r_fil (V := V) (n := 96) (L := LW7_299) (k := 65) S hK ht hw (i := 65) (x := 111) rfl rfl (by unfold vp_in; decide) dX7_init_690 (fun H locs hw => ?_)
  refine lv_dup hx hb dX7_init_691 rfl ?_
  refine lv_bipush (v := 66) hx hb dX7_init_692 (by decide) ?_
  refine lv_bipush (v := 114) hx hb dX7_init_694 (by decide) ?_
  refine r_fil (V := V) (n := 96) (L := LW7_299) (k := 66) S hK ht hw (i := 66) (x := 114) rfl rfl (by unfold vp_in; decide) dX7_init_696 (fun H locs hw => ?_)
  refine lv_dup hx hb dX7_init_697 rfl ?_
  refine lv_bipush (v := 67) hx hb dX7_init_698 (by decide) ?_
  refine lv_bipush (v := 101) hx hb dX7_init_700 (by decide) ?_
  refine r_fil (V := V) (n := 96) (L := LW7_299) (k := 67) S hK ht hw (i := 67) (x := 101) rfl rfl (by unfold vp_in; decide) dX7_init_702 (fun H locs hw => ?_)
  refine lv_dup hx hb dX7_init_703 rfl ?_
  refine lv_bipush (v := 68) hx hb dX7_init_704 (by decide) ?_
  refine lv_bipush (v := 32) hx hb dX7_init_706 (by decide) ?_
  refine r_fil (V := V) (n := 96) (L := LW7_299) (k := 68) S hK ht hw (i := 68) (x := 32) rfl rfl (by unfold vp_in; decide) dX7_init_708 (fun H locs hw => ?_)
  refine lv_dup hx hb dX7_init_709 rfl ?_
  refine lv_bipush (v := 69) hx hb dX7_init_710 (by decide) ?_
  refine lv_bipush (v := 32) hx hb dX7_init_712 (by decide) ?_
  refine r_fil (V := V) (n := 96) (L := LW7_299) (k := 69) S hK ht hw (i := 69) (x := 32) rfl rfl (by unfold vp_in; decide) dX7_init_714 (fun H locs hw => ?_)
  refine lv_dup hx hb dX7_init_715 rfl ?_
  refine lv_bipush (v := 70) hx hb dX7_init_716 (by decide) ?_
  refine lv_bipush (v := 32) hx hb dX7_init_718 (by decide) ?_
  refine r_fil (V := V) (n := 96) (L := LW7_299) (k := 70) S hK ht hw (i := 70) (x := 32) rfl rfl (by unfold vp_in; decide) dX7_init_720 (fun H locs hw => ?_)
  refine lv_dup hx hb dX7_init_721 rfl ?_
  refine lv_bipush (v := 71) hx hb dX7_init_722 (by decide) ?_
  refine lv_bipush (v := 32) hx hb dX7_init_724 (by decide) ?_
  refine r_fil (V := V) (n := 96) (L := LW7_299) (k := 71) S hK ht hw (i := 71) (x := 32) rfl rfl (by unfold vp_in; decide) dX7_init_726 (fun H locs hw => ?_)
  refine W.eq (g2 := F0 m 727 ls [.ref q13, .ref q0]) rfl ?_
  refine lv_dup hx hb dX7_init_727 rfl ?_
  refine lv_bipush (v := 72) hx hb dX7_init_728 (by decide) ?_
  refine lv_bipush (v := 111) hx hb dX7_init_730 (by decide) ?_
  refine r_fil (V := V) (n := 96) (L := LW7_299) (k := 72) S hK ht hw (i := 72) (x := 111) rfl rfl (by unfold vp_in; decide) dX7_init_732 (fun H locs hw => ?_)
  refine lv_dup hx hb dX7_init_733 rfl ?_
  refine lv_bipush (v := 73) hx hb dX7_init_734 (by decide) ?_
  refine lv_bipush (v := 114) hx hb dX7_init_736 (by decide) ?_
  refine r_fil (V := V) (n := 96) (L := LW7_299) (k := 73) S hK ht hw (i := 73) (x := 114) rfl rfl (by unfold vp_in; decide) dX7_init_738 (fun H locs hw => ?_)
  refine lv_dup hx hb dX7_init_739 rfl ?_
  refine lv_bipush (v := 74) hx hb dX7_init_740 (by decide) ?_
  refine lv_bipush (v := 32) hx hb dX7_init_742 (by decide) ?_
  refine r_fil (V := V) (n := 96) (L := LW7_299) (k := 74) S hK ht hw (i := 74) (x := 32) rfl rfl (by unfold vp_in; decide) dX7_init_744 (fun H locs hw => ?_)
  refine lv_dup hx hb dX7_init_745 rfl ?_
  refine lv_bipush (v := 75) hx hb dX7_init_746 (by decide) ?_
  refine lv_bipush (v := 32) hx hb dX7_init_748 (by decide) ?_
  refine r_fil (V := V) (n := 96) (L := LW7_299) (k := 75) S hK ht hw (i := 75) (x := 32) rfl rfl (by unfold vp_in; decide) dX7_init_750 (fun H locs hw => ?_)
  refine lv_dup hx hb dX7_init_751 rfl ?_
  refine lv_bipush (v := 76) hx hb dX7_init_752 (by decide) ?_
  refine lv_bipush (v := 32) hx hb dX7_init_754 (by decide) ?_
  refine r_fil (V := V) (n := 96) (L := LW7_299) (k := 76) S hK ht hw (i := 76) (x := 32) rfl rfl (by unfold vp_in; decide) dX7_init_756 (fun H locs hw => ?_)
  refine lv_dup hx hb dX7_init_757 rfl ?_
  refine lv_bipush (v := 77) hx hb dX7_init_758 (by decide) ?_
  refine lv_bipush (v := 32) hx hb dX7_init_760 (by decide) ?_
  refine r_fil (V := V) (n := 96) (L := LW7_299) (k := 77) S hK ht hw (i := 77) (x := 32) rfl rfl (by unfold vp_in; decide) dX7_init_762 (fun H locs hw => ?_)
  refine lv_dup hx hb dX7_init_763 rfl ?_
  refine lv_bipush (v := 78) hx hb dX7_init_764 (by decide) ?_
  refine lv_bipush (v := 32) hx hb dX7_init_766 (by decide) ?_
  refine r_fil (V := V) (n := 96) (L := LW7_299) (k := 78) S hK ht hw (i := 78) (x := 32) rfl rfl (by unfold vp_in; decide) dX7_init_768 (fun H locs hw => ?_)
  refine lv_dup hx hb dX7_init_769 rfl ?_
  refine lv_bipush (v := 79) hx hb dX7_init_770 (by decide) ?_
  refine lv_bipush (v := 32) hx hb dX7_init_772 (by decide) ?_
  refine r_fil (V := V) (n := 96) (L := LW7_299) (k := 79) S hK ht hw (i := 79) (x := 32) rfl rfl (by unfold vp_in; decide) dX7_init_774 (fun H locs hw => ?_)
  refine W.eq (g2 := F0 m 775 ls [.ref q13, .ref q0]) rfl ?_
  refine lv_dup hx hb dX7_init_775 rfl ?_
  refine lv_bipush (v := 80) hx hb dX7_init_776 (by decide) ?_
  refine lv_bipush (v := 97) hx hb dX7_init_778 (by decide) ?_
  refine r_fil (V := V) (n := 96) (L := LW7_299) (k := 80) S hK ht hw (i := 80) (x := 97) rfl rfl (by unfold vp_in; decide) dX7_init_780 (fun H locs hw => ?_)
  refine lv_dup hx hb dX7_init_781 rfl ?_
  refine lv_bipush (v := 81) hx hb dX7_init_782 (by decide) ?_
  refine lv_bipush (v := 110) hx hb dX7_init_784 (by decide) ?_
  refine r_fil (V := V) (n := 96) (L := LW7_299) (k := 81) S hK ht hw (i := 81) (x := 110) rfl rfl (by unfold vp_in; decide) dX7_init_786 (fun H locs hw => ?_)
  refine lv_dup hx hb dX7_init_787 rfl ?_
  refine lv_bipush (v := 82) hx hb dX7_init_788 (by decide) ?_
  refine lv_bipush (v := 100) hx hb dX7_init_790 (by decide) ?_
  refine r_fil (V := V) (n := 96) (L := LW7_299) (k := 82) S hK ht hw (i := 82) (x := 100) rfl rfl (by unfold vp_in; decide) dX7_init_792 (fun H locs hw => ?_)
  refine lv_dup hx hb dX7_init_793 rfl ?_
  refine lv_bipush (v := 83) hx hb dX7_init_794 (by decide) ?_
  refine lv_bipush (v := 32) hx hb dX7_init_796 (by decide) ?_
  refine r_fil (V := V) (n := 96) (L := LW7_299) (k := 83) S hK ht hw (i := 83) (x := 32) rfl rfl (by unfold vp_in; decide) dX7_init_798 (fun H locs hw => ?_)
  refine lv_dup hx hb dX7_init_799 rfl ?_
  refine lv_bipush (v := 84) hx hb dX7_init_800 (by decide) ?_
  refine lv_bipush (v := 32) hx hb dX7_init_802 (by decide) ?_
  refine r_fil (V := V) (n := 96) (L := LW7_299) (k := 84) S hK ht hw (i := 84) (x := 32) rfl rfl (by unfold vp_in; decide) dX7_init_804 (fun H locs hw => ?_)
  refine lv_dup hx hb dX7_init_805 rfl ?_
  refine lv_bipush (v := 85) hx hb dX7_init_806 (by decide) ?_
  refine lv_bipush (v := 32) hx hb dX7_init_808 (by decide) ?_
  refine r_fil (V := V) (n := 96) (L := LW7_299) (k := 85) S hK ht hw (i := 85) (x := 32) rfl rfl (by unfold vp_in; decide) dX7_init_810 (fun H locs hw => ?_)
  refine lv_dup hx hb dX7_init_811 rfl ?_
  refine lv_bipush (v := 86) hx hb dX7_init_812 (by decide) ?_
  refine lv_bipush (v := 32) hx hb dX7_init_814 (by decide) ?_
  refine r_fil (V := V) (n := 96) (L := LW7_299) (k := 86) S hK ht hw (i := 86) (x := 32) rfl rfl (by unfold vp_in; decide) dX7_init_816 (fun H locs hw => ?_)
  refine lv_dup hx hb dX7_init_817 rfl ?_
  refine lv_bipush (v := 87) hx hb dX7_init_818 (by decide) ?_
  refine lv_bipush (v := 32) hx hb dX7_init_820 (by decide) ?_
  refine r_fil (V := V) (n := 96) (L := LW7_299) (k := 87) S hK ht hw (i := 87) (x := 32) rfl rfl (by unfold vp_in; decide) dX7_init_822 (fun H locs hw => ?_)
  refine W.eq (g2 := F0 m 823 ls [.ref q13, .ref q0]) rfl ?_
  refine lv_dup hx hb dX7_init_823 rfl ?_
  refine lv_bipush (v := 88) hx hb dX7_init_824 (by decide) ?_
  refine lv_bipush (v := 110) hx hb dX7_init_826 (by decide) ?_
  refine r_fil (V := V) (n := 96) (L := LW7_299) (k := 88) S hK ht hw (i := 88) (x := 110) rfl rfl (by unfold vp_in; decide) dX7_init_828 (fun H locs hw => ?_)
  refine lv_dup hx hb dX7_init_829 rfl ?_
  refine lv_bipush (v := 89) hx hb dX7_init_830 (by decide) ?_
  refine lv_bipush (v := 111) hx hb dX7_init_832 (by decide) ?_
  refine r_fil (V := V) (n := 96) (L := LW7_299) (k := 89) S hK ht hw (i := 89) (x := 111) rfl rfl (by unfold vp_in; decide) dX7_init_834 (fun H locs hw => ?_)
  refine lv_dup hx hb dX7_init_835 rfl ?_
  refine lv_bipush (v := 90) hx hb dX7_init_836 (by decide) ?_
  refine lv_bipush (v := 116) hx hb dX7_init_838 (by decide) ?_
  refine r_fil (V := V) (n := 96) (L := LW7_299) (k := 90) S hK ht hw (i := 90) (x := 116) rfl rfl (by unfold vp_in; decide) dX7_init_840 (fun H locs hw => ?_)
  refine lv_dup hx hb dX7_init_841 rfl ?_
  refine lv_bipush (v := 91) hx hb dX7_init_842 (by decide) ?_
  refine lv_bipush (v := 32) hx hb dX7_init_844 (by decide) ?_
  refine r_fil (V := V) (n := 96) (L := LW7_299) (k := 91) S hK ht hw (i := 91) (x := 32) rfl rfl (by unfold vp_in; decide) dX7_init_846 (fun H locs hw => ?_)
  refine lv_dup hx hb dX7_init_847 rfl ?_
  refine lv_bipush (v := 92) hx hb dX7_init_848 (by decide) ?_
  refine lv_bipush (v := 32) hx hb dX7_init_850 (by decide) ?_
  refine r_fil (V := V) (n := 96) (L := LW7_299) (k := 92) S hK ht hw (i := 92) (x := 32) rfl rfl (by unfold vp_in; decide) dX7_init_852 (fun H locs hw => ?_)
  refine lv_dup hx hb dX7_init_853 rfl ?_
  refine lv_bipush (v := 93) hx hb dX7_init_854 (by decide) ?_
  refine lv_bipush (v := 32) hx hb dX7_init_856 (by decide) ?_
  refine r_fil (V := V) (n := 96) (L := LW7_299) (k := 93) S hK ht hw (i := 93) (x := 32) rfl rfl (by unfold vp_in; decide) dX7_init_858 (fun H locs hw => ?_)
  refine lv_dup hx hb dX7_init_859 rfl ?_
  refine lv_bipush (v := 94) hx hb dX7_init_860 (by decide) ?_
  refine lv_bipush (v := 32) hx hb dX7_init_862 (by decide) ?_
  refine r_fil (V := V) (n := 96) (L := LW7_299) (k := 94) S hK ht hw (i := 94) (x := 32) rfl rfl (by unfold vp_in; decide) dX7_init_864 (fun H locs hw => ?_)
  refine lv_dup hx hb dX7_init_865 rfl ?_
  refine lv_bipush (v := 95) hx hb dX7_init_866 (by decide) ?_
  refine lv_bipush (v := 32) hx hb dX7_init_868 (by decide) ?_
  refine r_fil (V := V) (n := 96) (L := LW7_299) (k := 95) S hK ht hw (i := 95) (x := 32) rfl rfl (by unfold vp_in; decide) dX7_init_870 (fun H locs hw => ?_)
  refine W.eq (g2 := F0 m 871 ls [.ref q13, .ref q0]) rfl ?_
  subst hV
  have hw : RD D [(q0, .inr (7, [.int 0, .ref q1, .ref q2, .ref q3, .int 0, .int 90, .ref q4, .int 0, .ref q5, .ref q6, .int 0, .int 0, .int 0, .ref q7, .ref q8, .ref q9, .ref q10, .ref q11, .ref q12, .int 0, .int 0, .int 0, .int 0, .null, .null, .int 0, .int 0, .int 0, .null, .null, .null, .null, .null, .null, .null, .null, .int 0, .int 0, .int 0, .int 0, .int 0, .null, .int 0])), (q1, .inl (cI, 6, .inl (fun _ => 0))), (q2, .inl (cI, 6, .inl (fun _ => 0))), (q3, .inl (cI, 12, .inl (fun _ => 0))), (q4, .inl (cI, 160, .inl (arL LW7_117 0))), (q5, .inl (cI, 1200, .inl (fun _ => 0))), (q6, .inl (cI, 24, .inl (fun _ => 0))), (q7, .inl (cI, 12, .inl (fun _ => 0))), (q8, .inl (cI, 4, .inl (fun _ => 0))), (q9, .inl (cI, 4, .inl (arL LW7_77 4))), (q10, .inl (cI, 4, .inl (fun _ => 0))), (q11, .inl (cI, 160, .inl (fun _ => 0))), (q12, .inl (cI, 30, .inl (arL LW7_117 30))), (q13, .inl (cI, 96, .inl (arL LW7_299 96)))] (va_A [(q0, .inr (7, [.int 0, .null, .null, .null, .int 0, .int 0, .null, .int 0, .null, .null, .int 0, .int 0, .int 0, .null, .null, .null, .null, .null, .null, .int 0, .int 0, .int 0, .int 0, .null, .null, .int 0, .int 0, .int 0, .null, .null, .null, .null, .null, .null, .null, .null, .int 0, .int 0, .int 0, .int 0, .int 0, .null, .int 0]))] sz) s.heap H _ := hw
  refine W.eq (g2 := F0 m 871 ls [.ref q13, .ref q0]) rfl ?_
  refine va_putF (D := D) (ci := 7) (v := .ref q13) (ty := tyX7 23) (C := RX7) (T := TX7) (N := 43) (fs := [.int 0, .ref q1, .ref q2, .ref q3, .int 0, .int 90, .ref q4, .int 0, .ref q5, .ref q6, .int 0, .int 0, .int 0, .ref q7, .ref q8, .ref q9, .ref q10, .ref q11, .ref q12, .int 0, .int 0, .int 0, .int 0, .null, .null, .int 0, .int 0, .int 0, .null, .null, .null, .null, .null, .null, .null, .null, .int 0, .int 0, .int 0, .int 0, .int 0, .null, .int 0]) hx hb hts hinX7 tyX7 tyX7_ok nmX7 hown hK hw.1 hw.2.1 hw.2.2 0 rfl rfl 23 (by decide) (hts (.fieldLink RX7 50 "SoupByRankModel" "words" "[I") (by decide +kernel)) (fun _ h9 => h9) rfl hmn rfl (by decide +kernel) rfl rfl (Nat.le_of_ble_eq_true rfl) dX7_init_871 (fun H locs hP hD hS => ?_)
  have hw : RD D [(q0, .inr (7, [.int 0, .ref q1, .ref q2, .ref q3, .int 0, .int 90, .ref q4, .int 0, .ref q5, .ref q6, .int 0, .int 0, .int 0, .ref q7, .ref q8, .ref q9, .ref q10, .ref q11, .ref q12, .int 0, .int 0, .int 0, .int 0, .ref q13, .null, .int 0, .int 0, .int 0, .null, .null, .null, .null, .null, .null, .null, .null, .int 0, .int 0, .int 0, .int 0, .int 0, .null, .int 0])), (q1, .inl (cI, 6, .inl (fun _ => 0))), (q2, .inl (cI, 6, .inl (fun _ => 0))), (q3, .inl (cI, 12, .inl (fun _ => 0))), (q4, .inl (cI, 160, .inl (arL LW7_117 0))), (q5, .inl (cI, 1200, .inl (fun _ => 0))), (q6, .inl (cI, 24, .inl (fun _ => 0))), (q7, .inl (cI, 12, .inl (fun _ => 0))), (q8, .inl (cI, 4, .inl (fun _ => 0))), (q9, .inl (cI, 4, .inl (arL LW7_77 4))), (q10, .inl (cI, 4, .inl (fun _ => 0))), (q11, .inl (cI, 160, .inl (fun _ => 0))), (q12, .inl (cI, 30, .inl (arL LW7_117 30))), (q13, .inl (cI, 96, .inl (arL LW7_299 96)))] (va_A [(q0, .inr (7, [.int 0, .null, .null, .null, .int 0, .int 0, .null, .int 0, .null, .null, .int 0, .int 0, .int 0, .null, .null, .null, .null, .null, .null, .int 0, .int 0, .int 0, .int 0, .null, .null, .int 0, .int 0, .int 0, .null, .null, .null, .null, .null, .null, .null, .null, .int 0, .int 0, .int 0, .int 0, .int 0, .null, .int 0]))] sz) s.heap H _ := ⟨hP, hD, hS⟩
  refine W.eq (g2 := F0 m 874 ls []) rfl ?_
  refine lv_aload_n hx hb dX7_init_874 rfl (lv_at hl 0 rfl) ?_
  refine lv_sipush (v := 200) hx hb dX7_init_875 (by decide) ?_
  refine r_newi (n' := 200) S hK ht hw hA (hts (.arrayClass .int) (by decide +kernel)) (Nat.le_of_ble_eq_true rfl) (Nat.le_of_ble_eq_true rfl) (Nat.le_of_ble_eq_true rfl) dX7_init_878 rfl (fun q14 H hw => ?_)
  refine W.widen (k := 14) (n := 1918) (Nat.le_of_ble_eq_true rfl) (Nat.le_of_ble_eq_true rfl) ?_
  have hw : RD D [(q0, .inr (7, [.int 0, .ref q1, .ref q2, .ref q3, .int 0, .int 90, .ref q4, .int 0, .ref q5, .ref q6, .int 0, .int 0, .int 0, .ref q7, .ref q8, .ref q9, .ref q10, .ref q11, .ref q12, .int 0, .int 0, .int 0, .int 0, .ref q13, .null, .int 0, .int 0, .int 0, .null, .null, .null, .null, .null, .null, .null, .null, .int 0, .int 0, .int 0, .int 0, .int 0, .null, .int 0])), (q1, .inl (cI, 6, .inl (fun _ => 0))), (q2, .inl (cI, 6, .inl (fun _ => 0))), (q3, .inl (cI, 12, .inl (fun _ => 0))), (q4, .inl (cI, 160, .inl (arL LW7_117 0))), (q5, .inl (cI, 1200, .inl (fun _ => 0))), (q6, .inl (cI, 24, .inl (fun _ => 0))), (q7, .inl (cI, 12, .inl (fun _ => 0))), (q8, .inl (cI, 4, .inl (fun _ => 0))), (q9, .inl (cI, 4, .inl (arL LW7_77 4))), (q10, .inl (cI, 4, .inl (fun _ => 0))), (q11, .inl (cI, 160, .inl (fun _ => 0))), (q12, .inl (cI, 30, .inl (arL LW7_117 30))), (q13, .inl (cI, 96, .inl (arL LW7_299 96))), (q14, .inl (cI, 200, .inl (fun _ => 0)))] (va_A [(q0, .inr (7, [.int 0, .null, .null, .null, .int 0, .int 0, .null, .int 0, .null, .null, .int 0, .int 0, .int 0, .null, .null, .null, .null, .null, .null, .int 0, .int 0, .int 0, .int 0, .null, .null, .int 0, .int 0, .int 0, .null, .null, .null, .null, .null, .null, .null, .null, .int 0, .int 0, .int 0, .int 0, .int 0, .null, .int 0]))] sz) s.heap H _ := hw
  refine va_putF (D := D) (ci := 7) (v := .ref q14) (ty := tyX7 24) (C := RX7) (T := TX7) (N := 43) (fs := [.int 0, .ref q1, .ref q2, .ref q3, .int 0, .int 90, .ref q4, .int 0, .ref q5, .ref q6, .int 0, .int 0, .int 0, .ref q7, .ref q8, .ref q9, .ref q10, .ref q11, .ref q12, .int 0, .int 0, .int 0, .int 0, .ref q13, .null, .int 0, .int 0, .int 0, .null, .null, .null, .null, .null, .null, .null, .null, .int 0, .int 0, .int 0, .int 0, .int 0, .null, .int 0]) hx hb hts hinX7 tyX7 tyX7_ok nmX7 hown hK hw.1 hw.2.1 hw.2.2 0 rfl rfl 24 (by decide) (hts (.fieldLink RX7 53 "SoupByRankModel" "held" "[I") (by decide +kernel)) (fun _ h9 => h9) rfl hmn rfl (by decide +kernel) rfl rfl (Nat.le_of_ble_eq_true rfl) dX7_init_880 (fun H locs hP hD hS => ?_)
  have hw : RD D [(q0, .inr (7, [.int 0, .ref q1, .ref q2, .ref q3, .int 0, .int 90, .ref q4, .int 0, .ref q5, .ref q6, .int 0, .int 0, .int 0, .ref q7, .ref q8, .ref q9, .ref q10, .ref q11, .ref q12, .int 0, .int 0, .int 0, .int 0, .ref q13, .ref q14, .int 0, .int 0, .int 0, .null, .null, .null, .null, .null, .null, .null, .null, .int 0, .int 0, .int 0, .int 0, .int 0, .null, .int 0])), (q1, .inl (cI, 6, .inl (fun _ => 0))), (q2, .inl (cI, 6, .inl (fun _ => 0))), (q3, .inl (cI, 12, .inl (fun _ => 0))), (q4, .inl (cI, 160, .inl (arL LW7_117 0))), (q5, .inl (cI, 1200, .inl (fun _ => 0))), (q6, .inl (cI, 24, .inl (fun _ => 0))), (q7, .inl (cI, 12, .inl (fun _ => 0))), (q8, .inl (cI, 4, .inl (fun _ => 0))), (q9, .inl (cI, 4, .inl (arL LW7_77 4))), (q10, .inl (cI, 4, .inl (fun _ => 0))), (q11, .inl (cI, 160, .inl (fun _ => 0))), (q12, .inl (cI, 30, .inl (arL LW7_117 30))), (q13, .inl (cI, 96, .inl (arL LW7_299 96))), (q14, .inl (cI, 200, .inl (fun _ => 0)))] (va_A [(q0, .inr (7, [.int 0, .null, .null, .null, .int 0, .int 0, .null, .int 0, .null, .null, .int 0, .int 0, .int 0, .null, .null, .null, .null, .null, .null, .int 0, .int 0, .int 0, .int 0, .null, .null, .int 0, .int 0, .int 0, .null, .null, .null, .null, .null, .null, .null, .null, .int 0, .int 0, .int 0, .int 0, .int 0, .null, .int 0]))] sz) s.heap H _ := ⟨hP, hD, hS⟩
  refine W.eq (g2 := F0 m 883 ls []) rfl ?_
  refine lv_aload_n hx hb dX7_init_883 rfl (lv_at hl 0 rfl) ?_
  refine lv_sipush (v := 200) hx hb dX7_init_884 (by decide) ?_
  refine r_newi (n' := 200) S hK ht hw hA (hts (.arrayClass .int) (by decide +kernel)) (Nat.le_of_ble_eq_true rfl) (Nat.le_of_ble_eq_true rfl) (Nat.le_of_ble_eq_true rfl) dX7_init_887 rfl (fun q15 H hw => ?_)
  refine W.widen (k := 15) (n := 2118) (Nat.le_of_ble_eq_true rfl) (Nat.le_of_ble_eq_true rfl) ?_
  have hw : RD D [(q0, .inr (7, [.int 0, .ref q1, .ref q2, .ref q3, .int 0, .int 90, .ref q4, .int 0, .ref q5, .ref q6, .int 0, .int 0, .int 0, .ref q7, .ref q8, .ref q9, .ref q10, .ref q11, .ref q12, .int 0, .int 0, .int 0, .int 0, .ref q13, .ref q14, .int 0, .int 0, .int 0, .null, .null, .null, .null, .null, .null, .null, .null, .int 0, .int 0, .int 0, .int 0, .int 0, .null, .int 0])), (q1, .inl (cI, 6, .inl (fun _ => 0))), (q2, .inl (cI, 6, .inl (fun _ => 0))), (q3, .inl (cI, 12, .inl (fun _ => 0))), (q4, .inl (cI, 160, .inl (arL LW7_117 0))), (q5, .inl (cI, 1200, .inl (fun _ => 0))), (q6, .inl (cI, 24, .inl (fun _ => 0))), (q7, .inl (cI, 12, .inl (fun _ => 0))), (q8, .inl (cI, 4, .inl (fun _ => 0))), (q9, .inl (cI, 4, .inl (arL LW7_77 4))), (q10, .inl (cI, 4, .inl (fun _ => 0))), (q11, .inl (cI, 160, .inl (fun _ => 0))), (q12, .inl (cI, 30, .inl (arL LW7_117 30))), (q13, .inl (cI, 96, .inl (arL LW7_299 96))), (q14, .inl (cI, 200, .inl (fun _ => 0))), (q15, .inl (cI, 200, .inl (fun _ => 0)))] (va_A [(q0, .inr (7, [.int 0, .null, .null, .null, .int 0, .int 0, .null, .int 0, .null, .null, .int 0, .int 0, .int 0, .null, .null, .null, .null, .null, .null, .int 0, .int 0, .int 0, .int 0, .null, .null, .int 0, .int 0, .int 0, .null, .null, .null, .null, .null, .null, .null, .null, .int 0, .int 0, .int 0, .int 0, .int 0, .null, .int 0]))] sz) s.heap H _ := hw
  refine va_putF (D := D) (ci := 7) (v := .ref q15) (ty := tyX7 28) (C := RX7) (T := TX7) (N := 43) (fs := [.int 0, .ref q1, .ref q2, .ref q3, .int 0, .int 90, .ref q4, .int 0, .ref q5, .ref q6, .int 0, .int 0, .int 0, .ref q7, .ref q8, .ref q9, .ref q10, .ref q11, .ref q12, .int 0, .int 0, .int 0, .int 0, .ref q13, .ref q14, .int 0, .int 0, .int 0, .null, .null, .null, .null, .null, .null, .null, .null, .int 0, .int 0, .int 0, .int 0, .int 0, .null, .int 0]) hx hb hts hinX7 tyX7 tyX7_ok nmX7 hown hK hw.1 hw.2.1 hw.2.2 0 rfl rfl 28 (by decide) (hts (.fieldLink RX7 56 "SoupByRankModel" "stack" "[I") (by decide +kernel)) (fun _ h9 => h9) rfl hmn rfl (by decide +kernel) rfl rfl (Nat.le_of_ble_eq_true rfl) dX7_init_889 (fun H locs hP hD hS => ?_)
  have hw : RD D [(q0, .inr (7, [.int 0, .ref q1, .ref q2, .ref q3, .int 0, .int 90, .ref q4, .int 0, .ref q5, .ref q6, .int 0, .int 0, .int 0, .ref q7, .ref q8, .ref q9, .ref q10, .ref q11, .ref q12, .int 0, .int 0, .int 0, .int 0, .ref q13, .ref q14, .int 0, .int 0, .int 0, .ref q15, .null, .null, .null, .null, .null, .null, .null, .int 0, .int 0, .int 0, .int 0, .int 0, .null, .int 0])), (q1, .inl (cI, 6, .inl (fun _ => 0))), (q2, .inl (cI, 6, .inl (fun _ => 0))), (q3, .inl (cI, 12, .inl (fun _ => 0))), (q4, .inl (cI, 160, .inl (arL LW7_117 0))), (q5, .inl (cI, 1200, .inl (fun _ => 0))), (q6, .inl (cI, 24, .inl (fun _ => 0))), (q7, .inl (cI, 12, .inl (fun _ => 0))), (q8, .inl (cI, 4, .inl (fun _ => 0))), (q9, .inl (cI, 4, .inl (arL LW7_77 4))), (q10, .inl (cI, 4, .inl (fun _ => 0))), (q11, .inl (cI, 160, .inl (fun _ => 0))), (q12, .inl (cI, 30, .inl (arL LW7_117 30))), (q13, .inl (cI, 96, .inl (arL LW7_299 96))), (q14, .inl (cI, 200, .inl (fun _ => 0))), (q15, .inl (cI, 200, .inl (fun _ => 0)))] (va_A [(q0, .inr (7, [.int 0, .null, .null, .null, .int 0, .int 0, .null, .int 0, .null, .null, .int 0, .int 0, .int 0, .null, .null, .null, .null, .null, .null, .int 0, .int 0, .int 0, .int 0, .null, .null, .int 0, .int 0, .int 0, .null, .null, .null, .null, .null, .null, .null, .null, .int 0, .int 0, .int 0, .int 0, .int 0, .null, .int 0]))] sz) s.heap H _ := ⟨hP, hD, hS⟩
  refine W.eq (g2 := F0 m 892 ls []) rfl ?_
  refine lv_aload_n hx hb dX7_init_892 rfl (lv_at hl 0 rfl) ?_
  refine lv_bipush (v := 6) hx hb dX7_init_893 (by decide) ?_
  refine r_newi (n' := 6) S hK ht hw hA (hts (.arrayClass .int) (by decide +kernel)) (Nat.le_of_ble_eq_true rfl) (Nat.le_of_ble_eq_true rfl) (Nat.le_of_ble_eq_true rfl) dX7_init_895 rfl (fun q16 H hw => ?_)
  refine W.widen (k := 16) (n := 2124) (Nat.le_of_ble_eq_true rfl) (Nat.le_of_ble_eq_true rfl) ?_
  have hw : RD D [(q0, .inr (7, [.int 0, .ref q1, .ref q2, .ref q3, .int 0, .int 90, .ref q4, .int 0, .ref q5, .ref q6, .int 0, .int 0, .int 0, .ref q7, .ref q8, .ref q9, .ref q10, .ref q11, .ref q12, .int 0, .int 0, .int 0, .int 0, .ref q13, .ref q14, .int 0, .int 0, .int 0, .ref q15, .null, .null, .null, .null, .null, .null, .null, .int 0, .int 0, .int 0, .int 0, .int 0, .null, .int 0])), (q1, .inl (cI, 6, .inl (fun _ => 0))), (q2, .inl (cI, 6, .inl (fun _ => 0))), (q3, .inl (cI, 12, .inl (fun _ => 0))), (q4, .inl (cI, 160, .inl (arL LW7_117 0))), (q5, .inl (cI, 1200, .inl (fun _ => 0))), (q6, .inl (cI, 24, .inl (fun _ => 0))), (q7, .inl (cI, 12, .inl (fun _ => 0))), (q8, .inl (cI, 4, .inl (fun _ => 0))), (q9, .inl (cI, 4, .inl (arL LW7_77 4))), (q10, .inl (cI, 4, .inl (fun _ => 0))), (q11, .inl (cI, 160, .inl (fun _ => 0))), (q12, .inl (cI, 30, .inl (arL LW7_117 30))), (q13, .inl (cI, 96, .inl (arL LW7_299 96))), (q14, .inl (cI, 200, .inl (fun _ => 0))), (q15, .inl (cI, 200, .inl (fun _ => 0))), (q16, .inl (cI, 6, .inl (fun _ => 0)))] (va_A [(q0, .inr (7, [.int 0, .null, .null, .null, .int 0, .int 0, .null, .int 0, .null, .null, .int 0, .int 0, .int 0, .null, .null, .null, .null, .null, .null, .int 0, .int 0, .int 0, .int 0, .null, .null, .int 0, .int 0, .int 0, .null, .null, .null, .null, .null, .null, .null, .null, .int 0, .int 0, .int 0, .int 0, .int 0, .null, .int 0]))] sz) s.heap H _ := hw
  refine va_putF (D := D) (ci := 7) (v := .ref q16) (ty := tyX7 29) (C := RX7) (T := TX7) (N := 43) (fs := [.int 0, .ref q1, .ref q2, .ref q3, .int 0, .int 90, .ref q4, .int 0, .ref q5, .ref q6, .int 0, .int 0, .int 0, .ref q7, .ref q8, .ref q9, .ref q10, .ref q11, .ref q12, .int 0, .int 0, .int 0, .int 0, .ref q13, .ref q14, .int 0, .int 0, .int 0, .ref q15, .null, .null, .null, .null, .null, .null, .null, .int 0, .int 0, .int 0, .int 0, .int 0, .null, .int 0]) hx hb hts hinX7 tyX7 tyX7_ok nmX7 hown hK hw.1 hw.2.1 hw.2.2 0 rfl rfl 29 (by decide) (hts (.fieldLink RX7 59 "SoupByRankModel" "named" "[I") (by decide +kernel)) (fun _ h9 => h9) rfl hmn rfl (by decide +kernel) rfl rfl (Nat.le_of_ble_eq_true rfl) dX7_init_897 (fun H locs hP hD hS => ?_)
  have hw : RD D [(q0, .inr (7, [.int 0, .ref q1, .ref q2, .ref q3, .int 0, .int 90, .ref q4, .int 0, .ref q5, .ref q6, .int 0, .int 0, .int 0, .ref q7, .ref q8, .ref q9, .ref q10, .ref q11, .ref q12, .int 0, .int 0, .int 0, .int 0, .ref q13, .ref q14, .int 0, .int 0, .int 0, .ref q15, .ref q16, .null, .null, .null, .null, .null, .null, .int 0, .int 0, .int 0, .int 0, .int 0, .null, .int 0])), (q1, .inl (cI, 6, .inl (fun _ => 0))), (q2, .inl (cI, 6, .inl (fun _ => 0))), (q3, .inl (cI, 12, .inl (fun _ => 0))), (q4, .inl (cI, 160, .inl (arL LW7_117 0))), (q5, .inl (cI, 1200, .inl (fun _ => 0))), (q6, .inl (cI, 24, .inl (fun _ => 0))), (q7, .inl (cI, 12, .inl (fun _ => 0))), (q8, .inl (cI, 4, .inl (fun _ => 0))), (q9, .inl (cI, 4, .inl (arL LW7_77 4))), (q10, .inl (cI, 4, .inl (fun _ => 0))), (q11, .inl (cI, 160, .inl (fun _ => 0))), (q12, .inl (cI, 30, .inl (arL LW7_117 30))), (q13, .inl (cI, 96, .inl (arL LW7_299 96))), (q14, .inl (cI, 200, .inl (fun _ => 0))), (q15, .inl (cI, 200, .inl (fun _ => 0))), (q16, .inl (cI, 6, .inl (fun _ => 0)))] (va_A [(q0, .inr (7, [.int 0, .null, .null, .null, .int 0, .int 0, .null, .int 0, .null, .null, .int 0, .int 0, .int 0, .null, .null, .null, .null, .null, .null, .int 0, .int 0, .int 0, .int 0, .null, .null, .int 0, .int 0, .int 0, .null, .null, .null, .null, .null, .null, .null, .null, .int 0, .int 0, .int 0, .int 0, .int 0, .null, .int 0]))] sz) s.heap H _ := ⟨hP, hD, hS⟩
  refine W.eq (g2 := F0 m 900 ls []) rfl ?_
  refine lv_aload_n hx hb dX7_init_900 rfl (lv_at hl 0 rfl) ?_
  refine lv_bipush (v := 6) hx hb dX7_init_901 (by decide) ?_
  refine r_newi (n' := 6) S hK ht hw hA (hts (.arrayClass .int) (by decide +kernel)) (Nat.le_of_ble_eq_true rfl) (Nat.le_of_ble_eq_true rfl) (Nat.le_of_ble_eq_true rfl) dX7_init_903 rfl (fun q17 H hw => ?_)
  refine W.widen (k := 17) (n := 2130) (Nat.le_of_ble_eq_true rfl) (Nat.le_of_ble_eq_true rfl) ?_
  have hw : RD D [(q0, .inr (7, [.int 0, .ref q1, .ref q2, .ref q3, .int 0, .int 90, .ref q4, .int 0, .ref q5, .ref q6, .int 0, .int 0, .int 0, .ref q7, .ref q8, .ref q9, .ref q10, .ref q11, .ref q12, .int 0, .int 0, .int 0, .int 0, .ref q13, .ref q14, .int 0, .int 0, .int 0, .ref q15, .ref q16, .null, .null, .null, .null, .null, .null, .int 0, .int 0, .int 0, .int 0, .int 0, .null, .int 0])), (q1, .inl (cI, 6, .inl (fun _ => 0))), (q2, .inl (cI, 6, .inl (fun _ => 0))), (q3, .inl (cI, 12, .inl (fun _ => 0))), (q4, .inl (cI, 160, .inl (arL LW7_117 0))), (q5, .inl (cI, 1200, .inl (fun _ => 0))), (q6, .inl (cI, 24, .inl (fun _ => 0))), (q7, .inl (cI, 12, .inl (fun _ => 0))), (q8, .inl (cI, 4, .inl (fun _ => 0))), (q9, .inl (cI, 4, .inl (arL LW7_77 4))), (q10, .inl (cI, 4, .inl (fun _ => 0))), (q11, .inl (cI, 160, .inl (fun _ => 0))), (q12, .inl (cI, 30, .inl (arL LW7_117 30))), (q13, .inl (cI, 96, .inl (arL LW7_299 96))), (q14, .inl (cI, 200, .inl (fun _ => 0))), (q15, .inl (cI, 200, .inl (fun _ => 0))), (q16, .inl (cI, 6, .inl (fun _ => 0))), (q17, .inl (cI, 6, .inl (fun _ => 0)))] (va_A [(q0, .inr (7, [.int 0, .null, .null, .null, .int 0, .int 0, .null, .int 0, .null, .null, .int 0, .int 0, .int 0, .null, .null, .null, .null, .null, .null, .int 0, .int 0, .int 0, .int 0, .null, .null, .int 0, .int 0, .int 0, .null, .null, .null, .null, .null, .null, .null, .null, .int 0, .int 0, .int 0, .int 0, .int 0, .null, .int 0]))] sz) s.heap H _ := hw
  refine va_putF (D := D) (ci := 7) (v := .ref q17) (ty := tyX7 30) (C := RX7) (T := TX7) (N := 43) (fs := [.int 0, .ref q1, .ref q2, .ref q3, .int 0, .int 90, .ref q4, .int 0, .ref q5, .ref q6, .int 0, .int 0, .int 0, .ref q7, .ref q8, .ref q9, .ref q10, .ref q11, .ref q12, .int 0, .int 0, .int 0, .int 0, .ref q13, .ref q14, .int 0, .int 0, .int 0, .ref q15, .ref q16, .null, .null, .null, .null, .null, .null, .int 0, .int 0, .int 0, .int 0, .int 0, .null, .int 0]) hx hb hts hinX7 tyX7 tyX7_ok nmX7 hown hK hw.1 hw.2.1 hw.2.2 0 rfl rfl 30 (by decide) (hts (.fieldLink RX7 62 "SoupByRankModel" "inOrder" "[I") (by decide +kernel)) (fun _ h9 => h9) rfl hmn rfl (by decide +kernel) rfl rfl (Nat.le_of_ble_eq_true rfl) dX7_init_905 (fun H locs hP hD hS => ?_)
  have hw : RD D [(q0, .inr (7, [.int 0, .ref q1, .ref q2, .ref q3, .int 0, .int 90, .ref q4, .int 0, .ref q5, .ref q6, .int 0, .int 0, .int 0, .ref q7, .ref q8, .ref q9, .ref q10, .ref q11, .ref q12, .int 0, .int 0, .int 0, .int 0, .ref q13, .ref q14, .int 0, .int 0, .int 0, .ref q15, .ref q16, .ref q17, .null, .null, .null, .null, .null, .int 0, .int 0, .int 0, .int 0, .int 0, .null, .int 0])), (q1, .inl (cI, 6, .inl (fun _ => 0))), (q2, .inl (cI, 6, .inl (fun _ => 0))), (q3, .inl (cI, 12, .inl (fun _ => 0))), (q4, .inl (cI, 160, .inl (arL LW7_117 0))), (q5, .inl (cI, 1200, .inl (fun _ => 0))), (q6, .inl (cI, 24, .inl (fun _ => 0))), (q7, .inl (cI, 12, .inl (fun _ => 0))), (q8, .inl (cI, 4, .inl (fun _ => 0))), (q9, .inl (cI, 4, .inl (arL LW7_77 4))), (q10, .inl (cI, 4, .inl (fun _ => 0))), (q11, .inl (cI, 160, .inl (fun _ => 0))), (q12, .inl (cI, 30, .inl (arL LW7_117 30))), (q13, .inl (cI, 96, .inl (arL LW7_299 96))), (q14, .inl (cI, 200, .inl (fun _ => 0))), (q15, .inl (cI, 200, .inl (fun _ => 0))), (q16, .inl (cI, 6, .inl (fun _ => 0))), (q17, .inl (cI, 6, .inl (fun _ => 0)))] (va_A [(q0, .inr (7, [.int 0, .null, .null, .null, .int 0, .int 0, .null, .int 0, .null, .null, .int 0, .int 0, .int 0, .null, .null, .null, .null, .null, .null, .int 0, .int 0, .int 0, .int 0, .null, .null, .int 0, .int 0, .int 0, .null, .null, .null, .null, .null, .null, .null, .null, .int 0, .int 0, .int 0, .int 0, .int 0, .null, .int 0]))] sz) s.heap H _ := ⟨hP, hD, hS⟩
  refine W.eq (g2 := F0 m 908 ls []) rfl ?_
  refine lv_aload_n hx hb dX7_init_908 rfl (lv_at hl 0 rfl) ?_
  refine lv_bipush (v := 6) hx hb dX7_init_909 (by decide) ?_
  refine r_newi (n' := 6) S hK ht hw hA (hts (.arrayClass .int) (by decide +kernel)) (Nat.le_of_ble_eq_true rfl) (Nat.le_of_ble_eq_true rfl) (Nat.le_of_ble_eq_true rfl) dX7_init_911 rfl (fun q18 H hw => ?_)
  refine W.widen (k := 18) (n := 2136) (Nat.le_of_ble_eq_true rfl) (Nat.le_of_ble_eq_true rfl) ?_
  have hw : RD D [(q0, .inr (7, [.int 0, .ref q1, .ref q2, .ref q3, .int 0, .int 90, .ref q4, .int 0, .ref q5, .ref q6, .int 0, .int 0, .int 0, .ref q7, .ref q8, .ref q9, .ref q10, .ref q11, .ref q12, .int 0, .int 0, .int 0, .int 0, .ref q13, .ref q14, .int 0, .int 0, .int 0, .ref q15, .ref q16, .ref q17, .null, .null, .null, .null, .null, .int 0, .int 0, .int 0, .int 0, .int 0, .null, .int 0])), (q1, .inl (cI, 6, .inl (fun _ => 0))), (q2, .inl (cI, 6, .inl (fun _ => 0))), (q3, .inl (cI, 12, .inl (fun _ => 0))), (q4, .inl (cI, 160, .inl (arL LW7_117 0))), (q5, .inl (cI, 1200, .inl (fun _ => 0))), (q6, .inl (cI, 24, .inl (fun _ => 0))), (q7, .inl (cI, 12, .inl (fun _ => 0))), (q8, .inl (cI, 4, .inl (fun _ => 0))), (q9, .inl (cI, 4, .inl (arL LW7_77 4))), (q10, .inl (cI, 4, .inl (fun _ => 0))), (q11, .inl (cI, 160, .inl (fun _ => 0))), (q12, .inl (cI, 30, .inl (arL LW7_117 30))), (q13, .inl (cI, 96, .inl (arL LW7_299 96))), (q14, .inl (cI, 200, .inl (fun _ => 0))), (q15, .inl (cI, 200, .inl (fun _ => 0))), (q16, .inl (cI, 6, .inl (fun _ => 0))), (q17, .inl (cI, 6, .inl (fun _ => 0))), (q18, .inl (cI, 6, .inl (fun _ => 0)))] (va_A [(q0, .inr (7, [.int 0, .null, .null, .null, .int 0, .int 0, .null, .int 0, .null, .null, .int 0, .int 0, .int 0, .null, .null, .null, .null, .null, .null, .int 0, .int 0, .int 0, .int 0, .null, .null, .int 0, .int 0, .int 0, .null, .null, .null, .null, .null, .null, .null, .null, .int 0, .int 0, .int 0, .int 0, .int 0, .null, .int 0]))] sz) s.heap H _ := hw
  refine va_putF (D := D) (ci := 7) (v := .ref q18) (ty := tyX7 31) (C := RX7) (T := TX7) (N := 43) (fs := [.int 0, .ref q1, .ref q2, .ref q3, .int 0, .int 90, .ref q4, .int 0, .ref q5, .ref q6, .int 0, .int 0, .int 0, .ref q7, .ref q8, .ref q9, .ref q10, .ref q11, .ref q12, .int 0, .int 0, .int 0, .int 0, .ref q13, .ref q14, .int 0, .int 0, .int 0, .ref q15, .ref q16, .ref q17, .null, .null, .null, .null, .null, .int 0, .int 0, .int 0, .int 0, .int 0, .null, .int 0]) hx hb hts hinX7 tyX7 tyX7_ok nmX7 hown hK hw.1 hw.2.1 hw.2.2 0 rfl rfl 31 (by decide) (hts (.fieldLink RX7 65 "SoupByRankModel" "downOf" "[I") (by decide +kernel)) (fun _ h9 => h9) rfl hmn rfl (by decide +kernel) rfl rfl (Nat.le_of_ble_eq_true rfl) dX7_init_913 (fun H locs hP hD hS => ?_)
  have hw : RD D [(q0, .inr (7, [.int 0, .ref q1, .ref q2, .ref q3, .int 0, .int 90, .ref q4, .int 0, .ref q5, .ref q6, .int 0, .int 0, .int 0, .ref q7, .ref q8, .ref q9, .ref q10, .ref q11, .ref q12, .int 0, .int 0, .int 0, .int 0, .ref q13, .ref q14, .int 0, .int 0, .int 0, .ref q15, .ref q16, .ref q17, .ref q18, .null, .null, .null, .null, .int 0, .int 0, .int 0, .int 0, .int 0, .null, .int 0])), (q1, .inl (cI, 6, .inl (fun _ => 0))), (q2, .inl (cI, 6, .inl (fun _ => 0))), (q3, .inl (cI, 12, .inl (fun _ => 0))), (q4, .inl (cI, 160, .inl (arL LW7_117 0))), (q5, .inl (cI, 1200, .inl (fun _ => 0))), (q6, .inl (cI, 24, .inl (fun _ => 0))), (q7, .inl (cI, 12, .inl (fun _ => 0))), (q8, .inl (cI, 4, .inl (fun _ => 0))), (q9, .inl (cI, 4, .inl (arL LW7_77 4))), (q10, .inl (cI, 4, .inl (fun _ => 0))), (q11, .inl (cI, 160, .inl (fun _ => 0))), (q12, .inl (cI, 30, .inl (arL LW7_117 30))), (q13, .inl (cI, 96, .inl (arL LW7_299 96))), (q14, .inl (cI, 200, .inl (fun _ => 0))), (q15, .inl (cI, 200, .inl (fun _ => 0))), (q16, .inl (cI, 6, .inl (fun _ => 0))), (q17, .inl (cI, 6, .inl (fun _ => 0))), (q18, .inl (cI, 6, .inl (fun _ => 0)))] (va_A [(q0, .inr (7, [.int 0, .null, .null, .null, .int 0, .int 0, .null, .int 0, .null, .null, .int 0, .int 0, .int 0, .null, .null, .null, .null, .null, .null, .int 0, .int 0, .int 0, .int 0, .null, .null, .int 0, .int 0, .int 0, .null, .null, .null, .null, .null, .null, .null, .null, .int 0, .int 0, .int 0, .int 0, .int 0, .null, .int 0]))] sz) s.heap H _ := ⟨hP, hD, hS⟩
  refine W.eq (g2 := F0 m 916 ls []) rfl ?_
  refine lv_aload_n hx hb dX7_init_916 rfl (lv_at hl 0 rfl) ?_
  refine lv_bipush (v := 6) hx hb dX7_init_917 (by decide) ?_
  refine r_newi (n' := 6) S hK ht hw hA (hts (.arrayClass .int) (by decide +kernel)) (Nat.le_of_ble_eq_true rfl) (Nat.le_of_ble_eq_true rfl) (Nat.le_of_ble_eq_true rfl) dX7_init_919 rfl (fun q19 H hw => ?_)
  refine W.widen (k := 19) (n := 2142) (Nat.le_of_ble_eq_true rfl) (Nat.le_of_ble_eq_true rfl) ?_
  have hw : RD D [(q0, .inr (7, [.int 0, .ref q1, .ref q2, .ref q3, .int 0, .int 90, .ref q4, .int 0, .ref q5, .ref q6, .int 0, .int 0, .int 0, .ref q7, .ref q8, .ref q9, .ref q10, .ref q11, .ref q12, .int 0, .int 0, .int 0, .int 0, .ref q13, .ref q14, .int 0, .int 0, .int 0, .ref q15, .ref q16, .ref q17, .ref q18, .null, .null, .null, .null, .int 0, .int 0, .int 0, .int 0, .int 0, .null, .int 0])), (q1, .inl (cI, 6, .inl (fun _ => 0))), (q2, .inl (cI, 6, .inl (fun _ => 0))), (q3, .inl (cI, 12, .inl (fun _ => 0))), (q4, .inl (cI, 160, .inl (arL LW7_117 0))), (q5, .inl (cI, 1200, .inl (fun _ => 0))), (q6, .inl (cI, 24, .inl (fun _ => 0))), (q7, .inl (cI, 12, .inl (fun _ => 0))), (q8, .inl (cI, 4, .inl (fun _ => 0))), (q9, .inl (cI, 4, .inl (arL LW7_77 4))), (q10, .inl (cI, 4, .inl (fun _ => 0))), (q11, .inl (cI, 160, .inl (fun _ => 0))), (q12, .inl (cI, 30, .inl (arL LW7_117 30))), (q13, .inl (cI, 96, .inl (arL LW7_299 96))), (q14, .inl (cI, 200, .inl (fun _ => 0))), (q15, .inl (cI, 200, .inl (fun _ => 0))), (q16, .inl (cI, 6, .inl (fun _ => 0))), (q17, .inl (cI, 6, .inl (fun _ => 0))), (q18, .inl (cI, 6, .inl (fun _ => 0))), (q19, .inl (cI, 6, .inl (fun _ => 0)))] (va_A [(q0, .inr (7, [.int 0, .null, .null, .null, .int 0, .int 0, .null, .int 0, .null, .null, .int 0, .int 0, .int 0, .null, .null, .null, .null, .null, .null, .int 0, .int 0, .int 0, .int 0, .null, .null, .int 0, .int 0, .int 0, .null, .null, .null, .null, .null, .null, .null, .null, .int 0, .int 0, .int 0, .int 0, .int 0, .null, .int 0]))] sz) s.heap H _ := hw
  refine va_putF (D := D) (ci := 7) (v := .ref q19) (ty := tyX7 32) (C := RX7) (T := TX7) (N := 43) (fs := [.int 0, .ref q1, .ref q2, .ref q3, .int 0, .int 90, .ref q4, .int 0, .ref q5, .ref q6, .int 0, .int 0, .int 0, .ref q7, .ref q8, .ref q9, .ref q10, .ref q11, .ref q12, .int 0, .int 0, .int 0, .int 0, .ref q13, .ref q14, .int 0, .int 0, .int 0, .ref q15, .ref q16, .ref q17, .ref q18, .null, .null, .null, .null, .int 0, .int 0, .int 0, .int 0, .int 0, .null, .int 0]) hx hb hts hinX7 tyX7 tyX7_ok nmX7 hown hK hw.1 hw.2.1 hw.2.2 0 rfl rfl 32 (by decide) (hts (.fieldLink RX7 68 "SoupByRankModel" "beginsOf" "[I") (by decide +kernel)) (fun _ h9 => h9) rfl hmn rfl (by decide +kernel) rfl rfl (Nat.le_of_ble_eq_true rfl) dX7_init_921 (fun H locs hP hD hS => ?_)
  have hw : RD D [(q0, .inr (7, [.int 0, .ref q1, .ref q2, .ref q3, .int 0, .int 90, .ref q4, .int 0, .ref q5, .ref q6, .int 0, .int 0, .int 0, .ref q7, .ref q8, .ref q9, .ref q10, .ref q11, .ref q12, .int 0, .int 0, .int 0, .int 0, .ref q13, .ref q14, .int 0, .int 0, .int 0, .ref q15, .ref q16, .ref q17, .ref q18, .ref q19, .null, .null, .null, .int 0, .int 0, .int 0, .int 0, .int 0, .null, .int 0])), (q1, .inl (cI, 6, .inl (fun _ => 0))), (q2, .inl (cI, 6, .inl (fun _ => 0))), (q3, .inl (cI, 12, .inl (fun _ => 0))), (q4, .inl (cI, 160, .inl (arL LW7_117 0))), (q5, .inl (cI, 1200, .inl (fun _ => 0))), (q6, .inl (cI, 24, .inl (fun _ => 0))), (q7, .inl (cI, 12, .inl (fun _ => 0))), (q8, .inl (cI, 4, .inl (fun _ => 0))), (q9, .inl (cI, 4, .inl (arL LW7_77 4))), (q10, .inl (cI, 4, .inl (fun _ => 0))), (q11, .inl (cI, 160, .inl (fun _ => 0))), (q12, .inl (cI, 30, .inl (arL LW7_117 30))), (q13, .inl (cI, 96, .inl (arL LW7_299 96))), (q14, .inl (cI, 200, .inl (fun _ => 0))), (q15, .inl (cI, 200, .inl (fun _ => 0))), (q16, .inl (cI, 6, .inl (fun _ => 0))), (q17, .inl (cI, 6, .inl (fun _ => 0))), (q18, .inl (cI, 6, .inl (fun _ => 0))), (q19, .inl (cI, 6, .inl (fun _ => 0)))] (va_A [(q0, .inr (7, [.int 0, .null, .null, .null, .int 0, .int 0, .null, .int 0, .null, .null, .int 0, .int 0, .int 0, .null, .null, .null, .null, .null, .null, .int 0, .int 0, .int 0, .int 0, .null, .null, .int 0, .int 0, .int 0, .null, .null, .null, .null, .null, .null, .null, .null, .int 0, .int 0, .int 0, .int 0, .int 0, .null, .int 0]))] sz) s.heap H _ := ⟨hP, hD, hS⟩
  refine W.eq (g2 := F0 m 924 ls []) rfl ?_
  refine lv_aload_n hx hb dX7_init_924 rfl (lv_at hl 0 rfl) ?_
  refine lv_bipush (v := 6) hx hb dX7_init_925 (by decide) ?_
  refine r_newi (n' := 6) S hK ht hw hA (hts (.arrayClass .int) (by decide +kernel)) (Nat.le_of_ble_eq_true rfl) (Nat.le_of_ble_eq_true rfl) (Nat.le_of_ble_eq_true rfl) dX7_init_927 rfl (fun q20 H hw => ?_)
  refine W.widen (k := 20) (n := 2148) (Nat.le_of_ble_eq_true rfl) (Nat.le_of_ble_eq_true rfl) ?_
  have hw : RD D [(q0, .inr (7, [.int 0, .ref q1, .ref q2, .ref q3, .int 0, .int 90, .ref q4, .int 0, .ref q5, .ref q6, .int 0, .int 0, .int 0, .ref q7, .ref q8, .ref q9, .ref q10, .ref q11, .ref q12, .int 0, .int 0, .int 0, .int 0, .ref q13, .ref q14, .int 0, .int 0, .int 0, .ref q15, .ref q16, .ref q17, .ref q18, .ref q19, .null, .null, .null, .int 0, .int 0, .int 0, .int 0, .int 0, .null, .int 0])), (q1, .inl (cI, 6, .inl (fun _ => 0))), (q2, .inl (cI, 6, .inl (fun _ => 0))), (q3, .inl (cI, 12, .inl (fun _ => 0))), (q4, .inl (cI, 160, .inl (arL LW7_117 0))), (q5, .inl (cI, 1200, .inl (fun _ => 0))), (q6, .inl (cI, 24, .inl (fun _ => 0))), (q7, .inl (cI, 12, .inl (fun _ => 0))), (q8, .inl (cI, 4, .inl (fun _ => 0))), (q9, .inl (cI, 4, .inl (arL LW7_77 4))), (q10, .inl (cI, 4, .inl (fun _ => 0))), (q11, .inl (cI, 160, .inl (fun _ => 0))), (q12, .inl (cI, 30, .inl (arL LW7_117 30))), (q13, .inl (cI, 96, .inl (arL LW7_299 96))), (q14, .inl (cI, 200, .inl (fun _ => 0))), (q15, .inl (cI, 200, .inl (fun _ => 0))), (q16, .inl (cI, 6, .inl (fun _ => 0))), (q17, .inl (cI, 6, .inl (fun _ => 0))), (q18, .inl (cI, 6, .inl (fun _ => 0))), (q19, .inl (cI, 6, .inl (fun _ => 0))), (q20, .inl (cI, 6, .inl (fun _ => 0)))] (va_A [(q0, .inr (7, [.int 0, .null, .null, .null, .int 0, .int 0, .null, .int 0, .null, .null, .int 0, .int 0, .int 0, .null, .null, .null, .null, .null, .null, .int 0, .int 0, .int 0, .int 0, .null, .null, .int 0, .int 0, .int 0, .null, .null, .null, .null, .null, .null, .null, .null, .int 0, .int 0, .int 0, .int 0, .int 0, .null, .int 0]))] sz) s.heap H _ := hw
  refine va_putF (D := D) (ci := 7) (v := .ref q20) (ty := tyX7 33) (C := RX7) (T := TX7) (N := 43) (fs := [.int 0, .ref q1, .ref q2, .ref q3, .int 0, .int 90, .ref q4, .int 0, .ref q5, .ref q6, .int 0, .int 0, .int 0, .ref q7, .ref q8, .ref q9, .ref q10, .ref q11, .ref q12, .int 0, .int 0, .int 0, .int 0, .ref q13, .ref q14, .int 0, .int 0, .int 0, .ref q15, .ref q16, .ref q17, .ref q18, .ref q19, .null, .null, .null, .int 0, .int 0, .int 0, .int 0, .int 0, .null, .int 0]) hx hb hts hinX7 tyX7 tyX7_ok nmX7 hown hK hw.1 hw.2.1 hw.2.2 0 rfl rfl 33 (by decide) (hts (.fieldLink RX7 71 "SoupByRankModel" "getsOf" "[I") (by decide +kernel)) (fun _ h9 => h9) rfl hmn rfl (by decide +kernel) rfl rfl (Nat.le_of_ble_eq_true rfl) dX7_init_929 (fun H locs hP hD hS => ?_)
  have hw : RD D [(q0, .inr (7, [.int 0, .ref q1, .ref q2, .ref q3, .int 0, .int 90, .ref q4, .int 0, .ref q5, .ref q6, .int 0, .int 0, .int 0, .ref q7, .ref q8, .ref q9, .ref q10, .ref q11, .ref q12, .int 0, .int 0, .int 0, .int 0, .ref q13, .ref q14, .int 0, .int 0, .int 0, .ref q15, .ref q16, .ref q17, .ref q18, .ref q19, .ref q20, .null, .null, .int 0, .int 0, .int 0, .int 0, .int 0, .null, .int 0])), (q1, .inl (cI, 6, .inl (fun _ => 0))), (q2, .inl (cI, 6, .inl (fun _ => 0))), (q3, .inl (cI, 12, .inl (fun _ => 0))), (q4, .inl (cI, 160, .inl (arL LW7_117 0))), (q5, .inl (cI, 1200, .inl (fun _ => 0))), (q6, .inl (cI, 24, .inl (fun _ => 0))), (q7, .inl (cI, 12, .inl (fun _ => 0))), (q8, .inl (cI, 4, .inl (fun _ => 0))), (q9, .inl (cI, 4, .inl (arL LW7_77 4))), (q10, .inl (cI, 4, .inl (fun _ => 0))), (q11, .inl (cI, 160, .inl (fun _ => 0))), (q12, .inl (cI, 30, .inl (arL LW7_117 30))), (q13, .inl (cI, 96, .inl (arL LW7_299 96))), (q14, .inl (cI, 200, .inl (fun _ => 0))), (q15, .inl (cI, 200, .inl (fun _ => 0))), (q16, .inl (cI, 6, .inl (fun _ => 0))), (q17, .inl (cI, 6, .inl (fun _ => 0))), (q18, .inl (cI, 6, .inl (fun _ => 0))), (q19, .inl (cI, 6, .inl (fun _ => 0))), (q20, .inl (cI, 6, .inl (fun _ => 0)))] (va_A [(q0, .inr (7, [.int 0, .null, .null, .null, .int 0, .int 0, .null, .int 0, .null, .null, .int 0, .int 0, .int 0, .null, .null, .null, .null, .null, .null, .int 0, .int 0, .int 0, .int 0, .null, .null, .int 0, .int 0, .int 0, .null, .null, .null, .null, .null, .null, .null, .null, .int 0, .int 0, .int 0, .int 0, .int 0, .null, .int 0]))] sz) s.heap H _ := ⟨hP, hD, hS⟩
  refine W.eq (g2 := F0 m 932 ls []) rfl ?_
  refine lv_aload_n hx hb dX7_init_932 rfl (lv_at hl 0 rfl) ?_
  refine lv_bipush (v := 6) hx hb dX7_init_933 (by decide) ?_
  refine r_newi (n' := 6) S hK ht hw hA (hts (.arrayClass .int) (by decide +kernel)) (Nat.le_of_ble_eq_true rfl) (Nat.le_of_ble_eq_true rfl) (Nat.le_of_ble_eq_true rfl) dX7_init_935 rfl (fun q21 H hw => ?_)
  refine W.widen (k := 21) (n := 2154) (Nat.le_of_ble_eq_true rfl) (Nat.le_of_ble_eq_true rfl) ?_
  have hw : RD D [(q0, .inr (7, [.int 0, .ref q1, .ref q2, .ref q3, .int 0, .int 90, .ref q4, .int 0, .ref q5, .ref q6, .int 0, .int 0, .int 0, .ref q7, .ref q8, .ref q9, .ref q10, .ref q11, .ref q12, .int 0, .int 0, .int 0, .int 0, .ref q13, .ref q14, .int 0, .int 0, .int 0, .ref q15, .ref q16, .ref q17, .ref q18, .ref q19, .ref q20, .null, .null, .int 0, .int 0, .int 0, .int 0, .int 0, .null, .int 0])), (q1, .inl (cI, 6, .inl (fun _ => 0))), (q2, .inl (cI, 6, .inl (fun _ => 0))), (q3, .inl (cI, 12, .inl (fun _ => 0))), (q4, .inl (cI, 160, .inl (arL LW7_117 0))), (q5, .inl (cI, 1200, .inl (fun _ => 0))), (q6, .inl (cI, 24, .inl (fun _ => 0))), (q7, .inl (cI, 12, .inl (fun _ => 0))), (q8, .inl (cI, 4, .inl (fun _ => 0))), (q9, .inl (cI, 4, .inl (arL LW7_77 4))), (q10, .inl (cI, 4, .inl (fun _ => 0))), (q11, .inl (cI, 160, .inl (fun _ => 0))), (q12, .inl (cI, 30, .inl (arL LW7_117 30))), (q13, .inl (cI, 96, .inl (arL LW7_299 96))), (q14, .inl (cI, 200, .inl (fun _ => 0))), (q15, .inl (cI, 200, .inl (fun _ => 0))), (q16, .inl (cI, 6, .inl (fun _ => 0))), (q17, .inl (cI, 6, .inl (fun _ => 0))), (q18, .inl (cI, 6, .inl (fun _ => 0))), (q19, .inl (cI, 6, .inl (fun _ => 0))), (q20, .inl (cI, 6, .inl (fun _ => 0))), (q21, .inl (cI, 6, .inl (fun _ => 0)))] (va_A [(q0, .inr (7, [.int 0, .null, .null, .null, .int 0, .int 0, .null, .int 0, .null, .null, .int 0, .int 0, .int 0, .null, .null, .null, .null, .null, .null, .int 0, .int 0, .int 0, .int 0, .null, .null, .int 0, .int 0, .int 0, .null, .null, .null, .null, .null, .null, .null, .null, .int 0, .int 0, .int 0, .int 0, .int 0, .null, .int 0]))] sz) s.heap H _ := hw
  refine va_putF (D := D) (ci := 7) (v := .ref q21) (ty := tyX7 34) (C := RX7) (T := TX7) (N := 43) (fs := [.int 0, .ref q1, .ref q2, .ref q3, .int 0, .int 90, .ref q4, .int 0, .ref q5, .ref q6, .int 0, .int 0, .int 0, .ref q7, .ref q8, .ref q9, .ref q10, .ref q11, .ref q12, .int 0, .int 0, .int 0, .int 0, .ref q13, .ref q14, .int 0, .int 0, .int 0, .ref q15, .ref q16, .ref q17, .ref q18, .ref q19, .ref q20, .null, .null, .int 0, .int 0, .int 0, .int 0, .int 0, .null, .int 0]) hx hb hts hinX7 tyX7 tyX7_ok nmX7 hown hK hw.1 hw.2.1 hw.2.2 0 rfl rfl 34 (by decide) (hts (.fieldLink RX7 74 "SoupByRankModel" "offOf" "[I") (by decide +kernel)) (fun _ h9 => h9) rfl hmn rfl (by decide +kernel) rfl rfl (Nat.le_of_ble_eq_true rfl) dX7_init_937 (fun H locs hP hD hS => ?_)
  have hw : RD D [(q0, .inr (7, [.int 0, .ref q1, .ref q2, .ref q3, .int 0, .int 90, .ref q4, .int 0, .ref q5, .ref q6, .int 0, .int 0, .int 0, .ref q7, .ref q8, .ref q9, .ref q10, .ref q11, .ref q12, .int 0, .int 0, .int 0, .int 0, .ref q13, .ref q14, .int 0, .int 0, .int 0, .ref q15, .ref q16, .ref q17, .ref q18, .ref q19, .ref q20, .ref q21, .null, .int 0, .int 0, .int 0, .int 0, .int 0, .null, .int 0])), (q1, .inl (cI, 6, .inl (fun _ => 0))), (q2, .inl (cI, 6, .inl (fun _ => 0))), (q3, .inl (cI, 12, .inl (fun _ => 0))), (q4, .inl (cI, 160, .inl (arL LW7_117 0))), (q5, .inl (cI, 1200, .inl (fun _ => 0))), (q6, .inl (cI, 24, .inl (fun _ => 0))), (q7, .inl (cI, 12, .inl (fun _ => 0))), (q8, .inl (cI, 4, .inl (fun _ => 0))), (q9, .inl (cI, 4, .inl (arL LW7_77 4))), (q10, .inl (cI, 4, .inl (fun _ => 0))), (q11, .inl (cI, 160, .inl (fun _ => 0))), (q12, .inl (cI, 30, .inl (arL LW7_117 30))), (q13, .inl (cI, 96, .inl (arL LW7_299 96))), (q14, .inl (cI, 200, .inl (fun _ => 0))), (q15, .inl (cI, 200, .inl (fun _ => 0))), (q16, .inl (cI, 6, .inl (fun _ => 0))), (q17, .inl (cI, 6, .inl (fun _ => 0))), (q18, .inl (cI, 6, .inl (fun _ => 0))), (q19, .inl (cI, 6, .inl (fun _ => 0))), (q20, .inl (cI, 6, .inl (fun _ => 0))), (q21, .inl (cI, 6, .inl (fun _ => 0)))] (va_A [(q0, .inr (7, [.int 0, .null, .null, .null, .int 0, .int 0, .null, .int 0, .null, .null, .int 0, .int 0, .int 0, .null, .null, .null, .null, .null, .null, .int 0, .int 0, .int 0, .int 0, .null, .null, .int 0, .int 0, .int 0, .null, .null, .null, .null, .null, .null, .null, .null, .int 0, .int 0, .int 0, .int 0, .int 0, .null, .int 0]))] sz) s.heap H _ := ⟨hP, hD, hS⟩
  refine W.eq (g2 := F0 m 940 ls []) rfl ?_
  refine lv_aload_n hx hb dX7_init_940 rfl (lv_at hl 0 rfl) ?_
  refine lv_bipush (v := 6) hx hb dX7_init_941 (by decide) ?_
  refine r_newi (n' := 6) S hK ht hw hA (hts (.arrayClass .int) (by decide +kernel)) (Nat.le_of_ble_eq_true rfl) (Nat.le_of_ble_eq_true rfl) (Nat.le_of_ble_eq_true rfl) dX7_init_943 rfl (fun q22 H hw => ?_)
  refine W.widen (k := 22) (n := 2160) (Nat.le_of_ble_eq_true rfl) (Nat.le_of_ble_eq_true rfl) ?_
  have hw : RD D [(q0, .inr (7, [.int 0, .ref q1, .ref q2, .ref q3, .int 0, .int 90, .ref q4, .int 0, .ref q5, .ref q6, .int 0, .int 0, .int 0, .ref q7, .ref q8, .ref q9, .ref q10, .ref q11, .ref q12, .int 0, .int 0, .int 0, .int 0, .ref q13, .ref q14, .int 0, .int 0, .int 0, .ref q15, .ref q16, .ref q17, .ref q18, .ref q19, .ref q20, .ref q21, .null, .int 0, .int 0, .int 0, .int 0, .int 0, .null, .int 0])), (q1, .inl (cI, 6, .inl (fun _ => 0))), (q2, .inl (cI, 6, .inl (fun _ => 0))), (q3, .inl (cI, 12, .inl (fun _ => 0))), (q4, .inl (cI, 160, .inl (arL LW7_117 0))), (q5, .inl (cI, 1200, .inl (fun _ => 0))), (q6, .inl (cI, 24, .inl (fun _ => 0))), (q7, .inl (cI, 12, .inl (fun _ => 0))), (q8, .inl (cI, 4, .inl (fun _ => 0))), (q9, .inl (cI, 4, .inl (arL LW7_77 4))), (q10, .inl (cI, 4, .inl (fun _ => 0))), (q11, .inl (cI, 160, .inl (fun _ => 0))), (q12, .inl (cI, 30, .inl (arL LW7_117 30))), (q13, .inl (cI, 96, .inl (arL LW7_299 96))), (q14, .inl (cI, 200, .inl (fun _ => 0))), (q15, .inl (cI, 200, .inl (fun _ => 0))), (q16, .inl (cI, 6, .inl (fun _ => 0))), (q17, .inl (cI, 6, .inl (fun _ => 0))), (q18, .inl (cI, 6, .inl (fun _ => 0))), (q19, .inl (cI, 6, .inl (fun _ => 0))), (q20, .inl (cI, 6, .inl (fun _ => 0))), (q21, .inl (cI, 6, .inl (fun _ => 0))), (q22, .inl (cI, 6, .inl (fun _ => 0)))] (va_A [(q0, .inr (7, [.int 0, .null, .null, .null, .int 0, .int 0, .null, .int 0, .null, .null, .int 0, .int 0, .int 0, .null, .null, .null, .null, .null, .null, .int 0, .int 0, .int 0, .int 0, .null, .null, .int 0, .int 0, .int 0, .null, .null, .null, .null, .null, .null, .null, .null, .int 0, .int 0, .int 0, .int 0, .int 0, .null, .int 0]))] sz) s.heap H _ := hw
  refine va_putF (D := D) (ci := 7) (v := .ref q22) (ty := tyX7 35) (C := RX7) (T := TX7) (N := 43) (fs := [.int 0, .ref q1, .ref q2, .ref q3, .int 0, .int 90, .ref q4, .int 0, .ref q5, .ref q6, .int 0, .int 0, .int 0, .ref q7, .ref q8, .ref q9, .ref q10, .ref q11, .ref q12, .int 0, .int 0, .int 0, .int 0, .ref q13, .ref q14, .int 0, .int 0, .int 0, .ref q15, .ref q16, .ref q17, .ref q18, .ref q19, .ref q20, .ref q21, .null, .int 0, .int 0, .int 0, .int 0, .int 0, .null, .int 0]) hx hb hts hinX7 tyX7 tyX7_ok nmX7 hown hK hw.1 hw.2.1 hw.2.2 0 rfl rfl 35 (by decide) (hts (.fieldLink RX7 77 "SoupByRankModel" "mind" "[I") (by decide +kernel)) (fun _ h9 => h9) rfl hmn rfl (by decide +kernel) rfl rfl (Nat.le_of_ble_eq_true rfl) dX7_init_945 (fun H locs hP hD hS => ?_)
  have hw : RD D [(q0, .inr (7, [.int 0, .ref q1, .ref q2, .ref q3, .int 0, .int 90, .ref q4, .int 0, .ref q5, .ref q6, .int 0, .int 0, .int 0, .ref q7, .ref q8, .ref q9, .ref q10, .ref q11, .ref q12, .int 0, .int 0, .int 0, .int 0, .ref q13, .ref q14, .int 0, .int 0, .int 0, .ref q15, .ref q16, .ref q17, .ref q18, .ref q19, .ref q20, .ref q21, .ref q22, .int 0, .int 0, .int 0, .int 0, .int 0, .null, .int 0])), (q1, .inl (cI, 6, .inl (fun _ => 0))), (q2, .inl (cI, 6, .inl (fun _ => 0))), (q3, .inl (cI, 12, .inl (fun _ => 0))), (q4, .inl (cI, 160, .inl (arL LW7_117 0))), (q5, .inl (cI, 1200, .inl (fun _ => 0))), (q6, .inl (cI, 24, .inl (fun _ => 0))), (q7, .inl (cI, 12, .inl (fun _ => 0))), (q8, .inl (cI, 4, .inl (fun _ => 0))), (q9, .inl (cI, 4, .inl (arL LW7_77 4))), (q10, .inl (cI, 4, .inl (fun _ => 0))), (q11, .inl (cI, 160, .inl (fun _ => 0))), (q12, .inl (cI, 30, .inl (arL LW7_117 30))), (q13, .inl (cI, 96, .inl (arL LW7_299 96))), (q14, .inl (cI, 200, .inl (fun _ => 0))), (q15, .inl (cI, 200, .inl (fun _ => 0))), (q16, .inl (cI, 6, .inl (fun _ => 0))), (q17, .inl (cI, 6, .inl (fun _ => 0))), (q18, .inl (cI, 6, .inl (fun _ => 0))), (q19, .inl (cI, 6, .inl (fun _ => 0))), (q20, .inl (cI, 6, .inl (fun _ => 0))), (q21, .inl (cI, 6, .inl (fun _ => 0))), (q22, .inl (cI, 6, .inl (fun _ => 0)))] (va_A [(q0, .inr (7, [.int 0, .null, .null, .null, .int 0, .int 0, .null, .int 0, .null, .null, .int 0, .int 0, .int 0, .null, .null, .null, .null, .null, .null, .int 0, .int 0, .int 0, .int 0, .null, .null, .int 0, .int 0, .int 0, .null, .null, .null, .null, .null, .null, .null, .null, .int 0, .int 0, .int 0, .int 0, .int 0, .null, .int 0]))] sz) s.heap H _ := ⟨hP, hD, hS⟩
  refine W.eq (g2 := F0 m 948 ls []) rfl ?_
  refine lv_aload_n hx hb dX7_init_948 rfl (lv_at hl 0 rfl) ?_
  refine lv_bipush (v := 13) hx hb dX7_init_949 (by decide) ?_
  refine r_newi (n' := 13) S hK ht hw hA (hts (.arrayClass .int) (by decide +kernel)) (Nat.le_of_ble_eq_true rfl) (Nat.le_of_ble_eq_true rfl) (Nat.le_of_ble_eq_true rfl) dX7_init_951 rfl (fun q23 H hw => ?_)
  refine W.widen (k := 23) (n := 2173) (Nat.le_of_ble_eq_true rfl) (Nat.le_of_ble_eq_true rfl) ?_
  have hw : RD D [(q0, .inr (7, [.int 0, .ref q1, .ref q2, .ref q3, .int 0, .int 90, .ref q4, .int 0, .ref q5, .ref q6, .int 0, .int 0, .int 0, .ref q7, .ref q8, .ref q9, .ref q10, .ref q11, .ref q12, .int 0, .int 0, .int 0, .int 0, .ref q13, .ref q14, .int 0, .int 0, .int 0, .ref q15, .ref q16, .ref q17, .ref q18, .ref q19, .ref q20, .ref q21, .ref q22, .int 0, .int 0, .int 0, .int 0, .int 0, .null, .int 0])), (q1, .inl (cI, 6, .inl (fun _ => 0))), (q2, .inl (cI, 6, .inl (fun _ => 0))), (q3, .inl (cI, 12, .inl (fun _ => 0))), (q4, .inl (cI, 160, .inl (arL LW7_117 0))), (q5, .inl (cI, 1200, .inl (fun _ => 0))), (q6, .inl (cI, 24, .inl (fun _ => 0))), (q7, .inl (cI, 12, .inl (fun _ => 0))), (q8, .inl (cI, 4, .inl (fun _ => 0))), (q9, .inl (cI, 4, .inl (arL LW7_77 4))), (q10, .inl (cI, 4, .inl (fun _ => 0))), (q11, .inl (cI, 160, .inl (fun _ => 0))), (q12, .inl (cI, 30, .inl (arL LW7_117 30))), (q13, .inl (cI, 96, .inl (arL LW7_299 96))), (q14, .inl (cI, 200, .inl (fun _ => 0))), (q15, .inl (cI, 200, .inl (fun _ => 0))), (q16, .inl (cI, 6, .inl (fun _ => 0))), (q17, .inl (cI, 6, .inl (fun _ => 0))), (q18, .inl (cI, 6, .inl (fun _ => 0))), (q19, .inl (cI, 6, .inl (fun _ => 0))), (q20, .inl (cI, 6, .inl (fun _ => 0))), (q21, .inl (cI, 6, .inl (fun _ => 0))), (q22, .inl (cI, 6, .inl (fun _ => 0))), (q23, .inl (cI, 13, .inl (fun _ => 0)))] (va_A [(q0, .inr (7, [.int 0, .null, .null, .null, .int 0, .int 0, .null, .int 0, .null, .null, .int 0, .int 0, .int 0, .null, .null, .null, .null, .null, .null, .int 0, .int 0, .int 0, .int 0, .null, .null, .int 0, .int 0, .int 0, .null, .null, .null, .null, .null, .null, .null, .null, .int 0, .int 0, .int 0, .int 0, .int 0, .null, .int 0]))] sz) s.heap H _ := hw
  refine va_putF (D := D) (ci := 7) (v := .ref q23) (ty := tyX7 41) (C := RX7) (T := TX7) (N := 43) (fs := [.int 0, .ref q1, .ref q2, .ref q3, .int 0, .int 90, .ref q4, .int 0, .ref q5, .ref q6, .int 0, .int 0, .int 0, .ref q7, .ref q8, .ref q9, .ref q10, .ref q11, .ref q12, .int 0, .int 0, .int 0, .int 0, .ref q13, .ref q14, .int 0, .int 0, .int 0, .ref q15, .ref q16, .ref q17, .ref q18, .ref q19, .ref q20, .ref q21, .ref q22, .int 0, .int 0, .int 0, .int 0, .int 0, .null, .int 0]) hx hb hts hinX7 tyX7 tyX7_ok nmX7 hown hK hw.1 hw.2.1 hw.2.2 0 rfl rfl 41 (by decide) (hts (.fieldLink RX7 80 "SoupByRankModel" "kept" "[I") (by decide +kernel)) (fun _ h9 => h9) rfl hmn rfl (by decide +kernel) rfl rfl (Nat.le_of_ble_eq_true rfl) dX7_init_953 (fun H locs hP hD hS => ?_)
  have hw : RD D [(q0, .inr (7, [.int 0, .ref q1, .ref q2, .ref q3, .int 0, .int 90, .ref q4, .int 0, .ref q5, .ref q6, .int 0, .int 0, .int 0, .ref q7, .ref q8, .ref q9, .ref q10, .ref q11, .ref q12, .int 0, .int 0, .int 0, .int 0, .ref q13, .ref q14, .int 0, .int 0, .int 0, .ref q15, .ref q16, .ref q17, .ref q18, .ref q19, .ref q20, .ref q21, .ref q22, .int 0, .int 0, .int 0, .int 0, .int 0, .ref q23, .int 0])), (q1, .inl (cI, 6, .inl (fun _ => 0))), (q2, .inl (cI, 6, .inl (fun _ => 0))), (q3, .inl (cI, 12, .inl (fun _ => 0))), (q4, .inl (cI, 160, .inl (arL LW7_117 0))), (q5, .inl (cI, 1200, .inl (fun _ => 0))), (q6, .inl (cI, 24, .inl (fun _ => 0))), (q7, .inl (cI, 12, .inl (fun _ => 0))), (q8, .inl (cI, 4, .inl (fun _ => 0))), (q9, .inl (cI, 4, .inl (arL LW7_77 4))), (q10, .inl (cI, 4, .inl (fun _ => 0))), (q11, .inl (cI, 160, .inl (fun _ => 0))), (q12, .inl (cI, 30, .inl (arL LW7_117 30))), (q13, .inl (cI, 96, .inl (arL LW7_299 96))), (q14, .inl (cI, 200, .inl (fun _ => 0))), (q15, .inl (cI, 200, .inl (fun _ => 0))), (q16, .inl (cI, 6, .inl (fun _ => 0))), (q17, .inl (cI, 6, .inl (fun _ => 0))), (q18, .inl (cI, 6, .inl (fun _ => 0))), (q19, .inl (cI, 6, .inl (fun _ => 0))), (q20, .inl (cI, 6, .inl (fun _ => 0))), (q21, .inl (cI, 6, .inl (fun _ => 0))), (q22, .inl (cI, 6, .inl (fun _ => 0))), (q23, .inl (cI, 13, .inl (fun _ => 0)))] (va_A [(q0, .inr (7, [.int 0, .null, .null, .null, .int 0, .int 0, .null, .int 0, .null, .null, .int 0, .int 0, .int 0, .null, .null, .null, .null, .null, .null, .int 0, .int 0, .int 0, .int 0, .null, .null, .int 0, .int 0, .int 0, .null, .null, .null, .null, .null, .null, .null, .null, .int 0, .int 0, .int 0, .int 0, .int 0, .null, .int 0]))] sz) s.heap H _ := ⟨hP, hD, hS⟩
  refine W.eq (g2 := F0 m 956 ls []) rfl ?_
  refine lv_iconst (v := 0) hx hb dX7_init_956 (by decide) ?_
  refine lv_istore_n (lv' := [(1, .int 0), (0, .ref q0)]) hx hb dX7_init_957 rfl hl (by decide) rfl (fun ls hl => ?_)
  have hw : RD D (VV7 cI q0 q1 q2 q3 q4 q5 q6 q7 q8 q9 q10 q11 q12 q13 q14 q15 q16 q17 q18 q19 q20 q21 q22 q23 0) (va_A [(q0, .inr (7, [.int 0, .null, .null, .null, .int 0, .int 0, .null, .int 0, .null, .null, .int 0, .int 0, .int 0, .null, .null, .null, .null, .null, .null, .int 0, .int 0, .int 0, .int 0, .null, .null, .int 0, .int 0, .int 0, .null, .null, .null, .null, .null, .null, .null, .null, .int 0, .int 0, .int 0, .int 0, .int 0, .null, .int 0]))] sz) s.heap H _ := hw
  have LP : ∀ (n k : Nat), k + n = 30 → ∀ (H : Heap) (locs : List Loc) (ls : Array Slot) (hw : RD D (VV7 cI q0 q1 q2 q3 q4 q5 q6 q7 q8 q9 q10 q11 q12 q13 q14 q15 q16 q17 q18 q19 q20 q21 q22 q23 k) (va_A [(q0, .inr (7, [.int 0, .null, .null, .null, .int 0, .int 0, .null, .int 0, .null, .null, .int 0, .int 0, .int 0, .null, .null, .null, .null, .null, .null, .int 0, .int 0, .int 0, .int 0, .null, .null, .int 0, .int 0, .int 0, .null, .null, .null, .null, .null, .null, .null, .null, .int 0, .int 0, .int 0, .int 0, .int 0, .null, .int 0]))] sz) s.heap H locs) (hl : lv_has ls 2 [(1, .int (iI (k : Int))), (0, .ref q0)]), W p l e (headSpec wsX7_init ({ frames := 40, cells := 23, slots := 2173, locals := 2000 } : Room)).room s m args below meth c H locs 23 2173 (MQ below (va_Qv (fun _ : Unit => True) (fun _ t => ∃ ad : Nat → Nat, ad 0 = q0 ∧ RE D (wld (GM0 D ad cI SK SV) σR) (va_A [(q0, .inr (7, [.int 0, .null, .null, .null, .int 0, .int 0, .null, .int 0, .null, .null, .int 0, .int 0, .int 0, .null, .null, .null, .null, .null, .null, .int 0, .int 0, .int 0, .int 0, .null, .null, .int 0, .int 0, .int 0, .null, .null, .null, .null, .null, .null, .null, .null, .int 0, .int 0, .int 0, .int 0, .int 0, .null, .int 0]))] sz) t) (va_A [(q0, .inr (7, [.int 0, .null, .null, .null, .int 0, .int 0, .null, .int 0, .null, .null, .int 0, .int 0, .int 0, .null, .null, .null, .null, .null, .null, .int 0, .int 0, .int 0, .int 0, .null, .null, .int 0, .int 0, .int 0, .null, .null, .null, .null, .null, .null, .null, .null, .int 0, .int 0, .int 0, .int 0, .int 0, .null, .int 0]))] sz)) args s 23 2173 (va_A [(q0, .inr (7, [.int 0, .null, .null, .null, .int 0, .int 0, .null, .int 0, .null, .null, .int 0, .int 0, .int 0, .null, .null, .null, .null, .null, .null, .int 0, .int 0, .int 0, .int 0, .null, .null, .int 0, .int 0, .int 0, .null, .null, .null, .null, .null, .null, .null, .null, .int 0, .int 0, .int 0, .int 0, .int 0, .null, .int 0]))] sz)) (F0 m 958 ls []) := by
    intro n
    induction n with
    | zero =>
      intro k hk H locs ls hw hl
      obtain rfl : k = 30 := by omega
      refine lv_iload_n hx hb dX7_init_958 rfl (lv_at hl 0 rfl) ?_
      refine lv_bipush (v := 30) hx hb dX7_init_959 (by decide) ?_
      refine lv_icmp_ge (tgt := 982) hx hb dX7_init_961 (by decide) (fun c_ => ?_) (fun c_ => ?_)
      rotate_left
      · exact absurd (by decide) c_
      refine lv_aload_n hx hb dX7_init_982 rfl (lv_at hl 1 rfl) ?_
      refine lv_bipush (v := 30) hx hb dX7_init_983 (by decide) ?_
      refine va_put (D := D) (ci := 7) (v := .int 30) (ty := tyX7 7) (C := RX7) (T := TX7) (N := 43) (fs := [.int 0, .ref q1, .ref q2, .ref q3, .int 0, .int 90, .ref q4, .int 0, .ref q5, .ref q6, .int 0, .int 0, .int 0, .ref q7, .ref q8, .ref q9, .ref q10, .ref q11, .ref q12, .int 0, .int 0, .int 0, .int 0, .ref q13, .ref q14, .int 0, .int 0, .int 0, .ref q15, .ref q16, .ref q17, .ref q18, .ref q19, .ref q20, .ref q21, .ref q22, .int 0, .int 0, .int 0, .int 0, .int 0, .ref q23, .int 0]) hx hb hts hinX7 tyX7 tyX7_ok nmX7 hown hK hw.1 hw.2.1 hw.2.2 0 rfl rfl 7 (by decide) (hts (.fieldLink RX7 83 "SoupByRankModel" "taped" "I") (by decide +kernel)) (fun _ h9 => h9) rfl (by decide +kernel) rfl rfl (Nat.le_of_ble_eq_true rfl) dX7_init_985 (fun H locs hP hD hS => ?_)
      have hw : XD (GM0 D (fun k => ([q0, q1, q2, q3, q4, q5, q6, q7, q8, q9, q10, q11, q12, q13, q14, q15, q16, q17, q18, q19, q20, q21, q22, q23] : List Nat).getD k 0) cI SK SV) (va_A [(q0, .inr (7, [.int 0, .null, .null, .null, .int 0, .int 0, .null, .int 0, .null, .null, .int 0, .int 0, .int 0, .null, .null, .null, .null, .null, .null, .int 0, .int 0, .int 0, .int 0, .null, .null, .int 0, .int 0, .int 0, .null, .null, .null, .null, .null, .null, .null, .null, .int 0, .int 0, .int 0, .int 0, .int 0, .null, .int 0]))] sz) s.heap sgM0 H _ := ⟨hP, hD, hS⟩
      have hG := GM0_is D (fun k => ([q0, q1, q2, q3, q4, q5, q6, q7, q8, q9, q10, q11, q12, q13, q14, q15, q16, q17, q18, q19, q20, q21, q22, q23] : List Nat).getD k 0) cI SK SV
      have hKG : gK (GM0 D (fun k => ([q0, q1, q2, q3, q4, q5, q6, q7, q8, q9, q10, q11, q12, q13, q14, q15, q16, q17, q18, q19, q20, q21, q22, q23] : List Nat).getD k 0) cI SK SV) (va_A [(q0, .inr (7, [.int 0, .null, .null, .null, .int 0, .int 0, .null, .int 0, .null, .null, .int 0, .int 0, .int 0, .null, .null, .null, .null, .null, .null, .int 0, .int 0, .int 0, .int 0, .null, .null, .int 0, .int 0, .int 0, .null, .null, .null, .null, .null, .null, .null, .null, .int 0, .int 0, .int 0, .int 0, .int 0, .null, .int 0]))] sz) s s.heap := hG0
      refine lv_aload_n hx hb dX7_init_988 rfl (lv_at hl 1 rfl) ?_
      refine r_iV (b := q0) (As := []) (rest := []) S hA hKG hw (c_X7_text l hG hg) (cwV 0 hts gX7_init_X7_text rfl rfl rfl (by decide +kernel) ⟨Nat.le_of_ble_eq_true rfl, Nat.le_of_ble_eq_true rfl⟩) (r_recv hKG hw (kM_0 hG).1 (kM_0 hG).2 rfl) rfl hl.1 (Nat.le_of_ble_eq_true rfl) dX7_init_989 ⟨Nat.le_of_ble_eq_true rfl, Nat.le_of_ble_eq_true rfl⟩ rfl (fun H locs hw => ?_)
      refine lv_pop hx hb dX7_init_992 rfl ?_
      exact W.vret hx hb hr (fun t ht1 hW => ⟨⟨(), rfl, trivial, _, rfl, ⟨by rw [ht1]; exact hw.1, hw.2.1⟩⟩, hw.2.2.F ht1⟩) hw.2.2.2.2 dX7_init_993
    | succ n ih =>
      intro k hk H locs ls hw hl
      have hkc : (iI (k : Int)).toNatClampNeg = k := by rw [iI_cl (by omega)]; exact Int.toNat_natCast k
      have hin : ∀ N : Nat, 30 ≤ N → vp_in (iI (k : Int)) N := by
        intro N hN h
        rcases h with h | h
        · rw [show (0 : Int32) = iI 0 from rfl, iI_lt (by omega) (by omega)] at h; omega
        · rw [hkc] at h; omega
      refine lv_iload_n hx hb dX7_init_958 rfl (lv_at hl 0 rfl) ?_
      refine lv_bipush (v := 30) hx hb dX7_init_959 (by decide) ?_
      refine lv_icmp_ge (tgt := 982) hx hb dX7_init_961 (by decide) (fun c_ => ?_) (fun c_ => ?_)
      · rw [show (30 : Int32) = iI 30 from rfl, iI_le (by omega) (by omega)] at c_; omega
      refine lv_aload_n hx hb dX7_init_964 rfl (lv_at hl 1 rfl) ?_
      refine va_get (v := .ref q4) (C := RX7) (T := TX7) (N := 43) hx hb hts hinX7 hown hK hw.1 0 (ci := 7) (fs := [.int 0, .ref q1, .ref q2, .ref q3, .int 0, .int 90, .ref q4, .int 0, .ref q5, .ref q6, .int 0, .int 0, .int 0, .ref q7, .ref q8, .ref q9, .ref q10, .ref q11, .ref q12, .int 0, .int 0, .int 0, .int 0, .ref q13, .ref q14, .int 0, .int 0, .int 0, .ref q15, .ref q16, .ref q17, .ref q18, .ref q19, .ref q20, .ref q21, .ref q22, .int 0, .int 0, .int 0, .int 0, .int 0, .ref q23, .int 0]) rfl rfl 6 (by decide) (hts (.fieldLink RX7 23 "SoupByRankModel" "tape" "[I") (by decide +kernel)) (fun _ h9 => h9) rfl dX7_init_965 ?_
      refine lv_iload_n hx hb dX7_init_968 rfl (lv_at hl 0 rfl) ?_
      refine lv_aload_n hx hb dX7_init_969 rfl (lv_at hl 1 rfl) ?_
      refine va_get (v := .ref q12) (C := RX7) (T := TX7) (N := 43) hx hb hts hinX7 hown hK hw.1 0 (ci := 7) (fs := [.int 0, .ref q1, .ref q2, .ref q3, .int 0, .int 90, .ref q4, .int 0, .ref q5, .ref q6, .int 0, .int 0, .int 0, .ref q7, .ref q8, .ref q9, .ref q10, .ref q11, .ref q12, .int 0, .int 0, .int 0, .int 0, .ref q13, .ref q14, .int 0, .int 0, .int 0, .ref q15, .ref q16, .ref q17, .ref q18, .ref q19, .ref q20, .ref q21, .ref q22, .int 0, .int 0, .int 0, .int 0, .int 0, .ref q23, .int 0]) rfl rfl 18 (by decide) (hts (.fieldLink RX7 47 "SoupByRankModel" "law" "[I") (by decide +kernel)) (fun _ h9 => h9) rfl dX7_init_970 ?_
      refine lv_iload_n hx hb dX7_init_973 rfl (lv_at hl 0 rfl) ?_
      refine va_iald hx hb hK hw.1 12 0 (n := 30) (f := arL LW7_117 30) rfl ht (hin 30 (Nat.le_refl _)) dX7_init_974 ?_
      refine va_iast hx hb hK hw.1 hw.2.1 hw.2.2 4 0 (n := 160) (f := arL LW7_117 k) rfl ht (hin 160 (by omega)) dX7_init_975 (fun H locs hP hD hS => ?_)
      have hv : upd (arL LW7_117 k) (iI (k : Int)).toNatClampNeg (arL LW7_117 30 (iI (k : Int)).toNatClampNeg) = arL LW7_117 (k + 1) := by
        rw [hkc]; exact arL_up (if_pos (by omega)).symm
      rw [hv] at hP hD
      have hw : RD D (VV7 cI q0 q1 q2 q3 q4 q5 q6 q7 q8 q9 q10 q11 q12 q13 q14 q15 q16 q17 q18 q19 q20 q21 q22 q23 (k + 1)) (va_A [(q0, .inr (7, [.int 0, .null, .null, .null, .int 0, .int 0, .null, .int 0, .null, .null, .int 0, .int 0, .int 0, .null, .null, .null, .null, .null, .null, .int 0, .int 0, .int 0, .int 0, .null, .null, .int 0, .int 0, .int 0, .null, .null, .null, .null, .null, .null, .null, .null, .int 0, .int 0, .int 0, .int 0, .int 0, .null, .int 0]))] sz) s.heap H _ := ⟨hP, hD, hS⟩
      refine lv_iinc (v := iI ((k + 1 : Nat) : Int)) (lv' := [(1, .int (iI ((k + 1 : Nat) : Int))), (0, .ref q0)]) hx hb dX7_init_976 hl (k := 0) rfl (by show iI (k : Int) + iI 1 = _; rw [iI_add]; congr 1) (by decide) rfl (fun ls hl => ?_)
      refine lv_goto (tgt := 958) hx hb dX7_init_979 (by decide) ?_
      exact ih (k + 1) (by omega) _ _ _ hw hl
  exact LP 30 0 rfl _ _ _ hw hl
