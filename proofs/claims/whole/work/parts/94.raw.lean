/-! raw worlds: cells as they come, while references are null yet -/
def RD (D : va_G) (V : va_W) (A : Nat → Prop) (H0 H : Heap) (locs : List Loc) : Prop := va_P D vwCl V H ∧ va_D A V ∧ va_S A H0 H locs
def RP (D : va_G) (tys : List (ClassId × FieldType)) (V : va_W) (sz : Nat) (U : State) : Prop := U.heap.size = sz ∧ va_P D vwCl V U.heap ∧ va_D (fun _ => True) V ∧ va_K D vwCl tys U
def RE (D : va_G) (V : va_W) (A : Nat → Prop) (t : State) : Prop := va_P D vwCl V t.heap ∧ va_D A V
theorem RP_blind {D : va_G} {tys : List (ClassId × FieldType)} {V : va_W} {sz : Nat} {As : List Value} : FrameBlind (va_Pc As (RP D tys V sz)) := fun _ _ g mk q => ⟨q.1, q.2.1, q.2.2.1, q.2.2.2.1, va_K.moved (Vm.Alike.refl _) q.2.2.2.2⟩
theorem RD_A {D : va_G} {V : va_W} {A : Nat → Prop} {H0 H : Heap} {locs : List Loc} (hw : RD D V A H0 H locs) (hA : ∀ q, H0.size ≤ q → A q) : ∀ q, va_A V H.size q → A q := by
  intro q h
  rcases h with ⟨k, e, hk⟩ | h
  · exact hw.2.1.2 k _ hk
  · exact hA q (Nat.le_trans hw.2.2.1 h)
theorem RP_of {D : va_G} {tys : List (ClassId × FieldType)} {V : va_W} {A : Nat → Prop} {s U : State} {H : Heap} {locs : List Loc} (hw : RD D V A s.heap H locs) (hK : va_K D vwCl tys s) (hU : U.heap = H) (hW : s.WarmedH U.vm) : RP D tys V H.size U :=
  ⟨by rw [hU], by rw [hU]; exact hw.1, ⟨hw.2.1.1, fun _ _ _ => trivial⟩, va_K.moved hW.alike hK⟩
theorem metR {l : Launch} {y : MethodName} {ws ws' : List Cond} {rm : Room} {D : va_G} {tys : List (ClassId × FieldType)} {V : va_W} {sz : Nat} {As : List Value} {Qc : Array Value → State → Outcome → State → Prop} {mc ms : Nat} {cc : ByteArray} {maxL : Nat} {ret : Option FieldType}
    (hy : plainName y.cls = true) (hw : ws = Cond.code y cc maxL ret :: ws') (hl : (lg_sl As).length ≤ maxL)
    (body : ∀ (p : Program) (e : Env) (s : State) (m : MethodId) (args : Array Value) (below : List Frame) (meth : Method) (c : Code) (ls : Array Slot), CallFix p m c cc maxL s args ws y.cls → meth.sig.returnType = ret → meth.locks = false → s.heap.size = sz → (∀ q, s.heap.size ≤ q → va_A V sz q) → va_K D vwCl tys s → RD D V (va_A V sz) s.heap s.heap [] → lv_has ls maxL (lv_args 0 As) → (meth.name = y.name) →
      W p l e (headSpec ws rm).room s m args below meth c s.heap [] 0 0 (MQ below Qc args s mc ms (va_A V sz)) (F0 m 0 ls [])) : Met l y ws rm (va_Pc As (RP D tys V sz)) Qc mc ms (va_A V sz) := by
  refine Met.ofW hy hw ?_
  intro p e s m args below meth c s₁ B hml hv
  obtain ⟨rfl, hsz, hP, hD0, hK⟩ := hv
  have hl2 := lv_entry As (n := maxL) hl
  rw [lg_entry_eq]
  refine body p e s m _ below meth c _ ⟨B.exec, B.bytes, hml, findClass_of_methodNamed B.named, atoms_spec (ws := ws) B.pre⟩ B.returns B.notSynchronized hsz (fun q h => Or.inr (by rw [← hsz]; exact h)) hK ⟨hP, hD0.self, va_S.rf⟩ hl2 ((name_of_methodNamed B.named B.method).1)
section RW3
variable {p : Program} {l : Launch} {e : Env} {R : Room} {s : State} {m : MethodId} {args : Array Value} {below : List Frame} {meth : Method} {c : Code} {H : Heap} {locs : List Loc} {cells slots : Nat} {Q : State → Prop}
variable {cc : ByteArray} {pc nL : Nat} {ls : Array Slot} {rest : List Value} {D : va_G} {tys : List (ClassId × FieldType)} {V : va_W} {A : Nat → Prop} {H0 : Heap} {Ts : List Cond} {own : String}
theorem r_newi (S : CallFix p m c cc nL s args Ts own) (hK : va_K D vwCl tys s) {cI : ClassId} (ht : tys[0]? = some (cI, .int)) (hw : RD D V A H0 H locs) (hA : ∀ q, H0.size ≤ q → A q) (harr : (Cond.arrayClass .int).before args s = true) {n' : Nat} (hn : n' ≤ 100000) (hcells : cells + 1 ≤ R.cells) (hslots : slots + n' ≤ R.slots) (hdg : decode cc pc = .ok (.newarray .int, 2)) {x : Int32} (hx : x = iI (n' : Int))
    (kk : ∀ (q : Nat) (H1 : Heap), RD D (V ++ [(q, .inl (cI, n', .inl (fun _ => 0)))]) A H0 H1 locs → W p l e R s m args below meth c H1 locs (cells + 1) (slots + n') Q (F0 m (pc + 2) ls (.ref q :: rest))) : W p l e R s m args below meth c H locs cells slots Q (F0 m pc ls (.int x :: rest)) := by
  subst hx
  refine va_newa (atype := .int) (ty := .int) (N' := n') (a0 := (n', .inl (fun _ => 0))) S.1 S.2.1 harr rfl hK hw.1 hw.2.1 hw.2.2 hA (fun _ => rfl) (by rw [show (0 : Int32) = iI 0 from rfl, iI_lt (by omega) (by omega)]; omega) (by rw [iI_cl (by omega)]; exact Int.toNat_natCast n') (by show n' * 4 ≤ _; omega) hcells hslots hdg (fun q cA H1 hK1 hP hD hS => ?_)
  have h1 := (hK1.2 tys.length (cA, .int) (by rw [List.getElem?_append_right (Nat.le_refl _), Nat.sub_self]; rfl)).2
  have h2 := (hK.2 0 _ ht).2
  have e : cA = cI := Option.some.inj (h1.symm.trans h2)
  subst e
  exact kk q H1 ⟨hP, hD, hS⟩
end RW3
set_option maxHeartbeats 4000000 in
set_option maxRecDepth 100000 in
theorem c_X5_init (l : Launch) {D : va_G} {tys : List (ClassId × FieldType)} {V : va_W} {sz k q a b : Nat} (hV : V[k]? = some (q, .inr (5, [.null, .null]))) : Met l yX5_init wsX5_init ({ frames := 1, cells := 0, slots := 0, locals := 12 } : Room) (va_Pc [.ref q, .ref a, .ref b] (RP D tys V sz)) (va_Qv (fun _ : Unit => True) (fun _ t => RE D (V.set k (q, .inr (5, [.ref a, .ref b]))) (va_A V sz) t) (va_A V sz)) 0 0 (va_A V sz) := by
  refine metR (by decide) rfl (Nat.le_of_ble_eq_true rfl) ?_
  intro p e s m args below meth c ls S hr hlk hsz hA hK hw hl hmn
  have S : CallFix p m c cX5_init 3 s args wsX5_init RX5 := S
  obtain ⟨hx, hb, hml, hown, hts⟩ := id S
  have hl : lv_has ls 3 [(0, .ref q), (1, .ref a), (2, .ref b)] := hl
  have hinX5 : ∀ w ∈ wsX50, w ∈ wsX5_init := by decide +kernel
  refine lv_aload_n hx hb dX5_init_0 rfl (lv_at hl 0 rfl) ?_
  refine W.objInit hx hb hown (hts (.methodLink RX5 1 objectInit) (by decide +kernel)) (hts (.instanceMethod objectInit) (by decide +kernel)) (hts (.code objectInit ⟨#[0xb1]⟩ 1 none) (by decide +kernel)) rfl (by rw [hml]; exact hl.1) rfl dX5_init_1 (Nat.le_of_ble_eq_true rfl) (Nat.le_of_ble_eq_true rfl) ?_
  refine W.eq (g2 := F0 m 4 ls []) rfl ?_
  refine lv_aload_n hx hb dX5_init_4 rfl (lv_at hl 0 rfl) ?_
  refine lv_aload_n hx hb dX5_init_5 rfl (lv_at hl 1 rfl) ?_
  have hkl : k < V.length := (List.getElem?_eq_some_iff.mp hV).1
  refine va_putF (D := D) (ci := 5) (v := .ref a) (ty := .array .int) (C := RX5) (T := TX5) (N := 2) (fs := [.null, .null]) hx hb hts hinX5 tyX5 tyX5_ok nmX5 hown hK hw.1 hw.2.1 hw.2.2 k hV rfl 0 (by decide) (hts (.fieldLink RX5 7 "SoupByRank$Text" "codes" "[I") (by decide +kernel)) (fun _ h9 => h9) rfl hmn rfl (by decide +kernel) rfl rfl (Nat.le_of_ble_eq_true rfl) dX5_init_6 (fun H locs hP hD hS => ?_)
  refine lv_aload_n hx hb dX5_init_9 rfl (lv_at hl 0 rfl) ?_
  refine lv_aload_n hx hb dX5_init_10 rfl (lv_at hl 2 rfl) ?_
  refine va_putF (D := D) (ci := 5) (v := .ref b) (ty := .array .int) (C := RX5) (T := TX5) (N := 2) (fs := [.ref a, .null]) hx hb hts hinX5 tyX5 tyX5_ok nmX5 hown hK hP hD hS k (List.getElem?_set_self hkl) rfl 1 (by decide) (hts (.fieldLink RX5 13 "SoupByRank$Text" "ends" "[I") (by decide +kernel)) (fun _ h9 => h9) rfl hmn rfl (by decide +kernel) rfl rfl (Nat.le_of_ble_eq_true rfl) dX5_init_11 (fun H locs hP hD hS => ?_)
  rw [List.set_set] at hP hD
  exact W.vret hx hb hr (fun t ht hW => ⟨⟨(), rfl, trivial, by show va_P _ _ _ _; rw [ht]; exact hP, hD⟩, hS.F ht⟩) hS.2.2 dX5_init_14
set_option maxHeartbeats 4000000 in
set_option maxRecDepth 100000 in
theorem c_X4_firstOf (l : Launch) {D : va_G} {tys : List (ClassId × FieldType)} {V : va_W} {sz k a n1 n' : Nat} {cI : ClassId} {f : Nat → Int32} (hV : V[k]? = some (a, .inl (cI, n1, .inl f))) (ht : tys[0]? = some (cI, .int)) (h1 : n' ≤ n1) (h2 : n1 ≤ 160) : Met l yX4_firstOf wsX4_firstOf ({ frames := 1, cells := 1, slots := n', locals := 40 } : Room) (va_Pc [.ref a, .int (iI (n' : Int))] (RP D tys V sz)) (va_Qr (fun _ : Unit => True) (fun _ q t => RE D (V ++ [(q, .inl (cI, n', .inl (va_cpy f (fun _ => 0) 0 0 n')))]) (va_A V sz) t) (va_A V sz)) 1 n' (va_A V sz) := by
  refine metR (by decide) rfl (Nat.le_of_ble_eq_true rfl) ?_
  intro p e s m args below meth c ls S hr hlk hsz hA hK hw hl hmn
  have S : CallFix p m c cX4_firstOf 4 s args wsX4_firstOf RX4 := S
  obtain ⟨hx, hb, hml, hown, hts⟩ := id S
  have hl : lv_has ls 4 [(0, .ref a), (1, .int (iI (n' : Int)))] := hl
  refine lv_iconst (v := 0) hx hb dX4_firstOf_0 (by decide) ?_
  refine lv_iload_n hx hb dX4_firstOf_1 rfl (lv_at hl 1 rfl) ?_
  refine lv_aload_n hx hb dX4_firstOf_2 rfl (lv_at hl 0 rfl) ?_
  refine va_alen hx hb hK hw.1 k 0 (x := (n1, .inl f)) hV ht (v := iI (n1 : Int)) (iI_nI n1) dX4_firstOf_3 ?_
  refine va_mmin hx hb (hml.trans hl.1.symm) hown (hts (.methodLink RX4 59 Lib.Math.min.name) (by decide +kernel)) (hts (.static Lib.Math.min.name) (by decide +kernel)) (hts (.initialized "java/lang/Math") (by decide +kernel)) (hts (.code Lib.Math.min.name Lib.Math.min.code 2 (some .int)) (by decide +kernel)) (Nat.le_of_ble_eq_true rfl) (Nat.le_of_ble_eq_true rfl) (Nat.zero_le _) (Nat.zero_le _) dX4_firstOf_4 ?_
  rw [if_neg (show ¬ iI (n1 : Int) < iI (n' : Int) by rw [iI_lt (by omega) (by omega)]; omega)]
  refine va_mmax hx hb (hml.trans hl.1.symm) hown (hts (.methodLink RX4 65 Lib.Math.max.name) (by decide +kernel)) (hts (.static Lib.Math.max.name) (by decide +kernel)) (hts (.initialized "java/lang/Math") (by decide +kernel)) (hts (.code Lib.Math.max.name Lib.Math.max.code 2 (some .int)) (by decide +kernel)) (Nat.le_of_ble_eq_true rfl) (Nat.le_of_ble_eq_true rfl) (Nat.zero_le _) (Nat.zero_le _) dX4_firstOf_7 ?_
  have hm : (if (0 : Int32) < iI (n' : Int) then iI (n' : Int) else 0) = iI (n' : Int) := by
    by_cases h : (0 : Int32) < iI (n' : Int)
    · rw [if_pos h]
    · rw [if_neg h]
      rw [show (0 : Int32) = iI 0 from rfl, iI_lt (by omega) (by omega)] at h
      rw [show (n' : Int) = 0 by omega]
      rfl
  rw [hm]
  refine lv_istore_n (lv' := [(2, .int (iI (n' : Int))), (0, .ref a), (1, .int (iI (n' : Int)))]) hx hb dX4_firstOf_10 rfl hl (by decide) rfl (fun ls hl => ?_)
  refine lv_iload_n hx hb dX4_firstOf_11 rfl (lv_at hl 0 rfl) ?_
  refine r_newi S hK ht hw hA (hts (.arrayClass .int) (by decide +kernel)) (by omega) (by show 0 + 1 ≤ 1; omega) (by show 0 + n' ≤ n'; omega) dX4_firstOf_12 rfl (fun q H hw => ?_)
  refine W.widen (k := 1) (n := n') (by omega) (by omega) ?_
  refine lv_astore_n (lv' := [(3, .ref q), (2, .int (iI (n' : Int))), (0, .ref a), (1, .int (iI (n' : Int)))]) hx hb dX4_firstOf_14 rfl hl (by decide) rfl (fun ls hl => ?_)
  refine lv_aload_n hx hb dX4_firstOf_15 rfl (lv_at hl 2 rfl) ?_
  refine lv_iconst (v := 0) hx hb dX4_firstOf_16 (by decide) ?_
  refine lv_aload_n hx hb dX4_firstOf_17 rfl (lv_at hl 0 rfl) ?_
  refine lv_iconst (v := 0) hx hb dX4_firstOf_18 (by decide) ?_
  refine lv_iload_n hx hb dX4_firstOf_19 rfl (lv_at hl 1 rfl) ?_
  have hkl : k < V.length := (List.getElem?_eq_some_iff.mp hV).1
  have hc : (iI (n' : Int)).toNatClampNeg = n' := by rw [iI_cl (by omega)]; exact Int.toNat_natCast n'
  refine va_copyi (ty := .int) hx hb (hml.trans hl.1.symm) hown (hts (.methodLink RX4 68 arraycopyName) (by decide +kernel)) (hts (.native arraycopyName) (by decide +kernel)) (hts (.static arraycopyName) (by decide +kernel)) (hts (.initialized "java/lang/System") (by decide +kernel)) hK hw.1 hw.2.1 hw.2.2 k V.length 0 0 (f := f) (g := fun _ => 0) (by rw [List.getElem?_append_left hkl]; exact hV) (by rw [List.getElem?_append_right (Nat.le_refl _), Nat.sub_self]; rfl) ht ht rfl (by decide) (by decide) (by rw [show (0 : Int32) = iI 0 from rfl, iI_lt (by omega) (by omega)]; omega) (by rw [hc]; show 0 + n' ≤ n1; omega) (by rw [hc]; show 0 + n' ≤ n'; omega) (fun _ _ => rfl) (Nat.le_of_ble_eq_true rfl) (Nat.le_of_ble_eq_true rfl) dX4_firstOf_20 (fun H locs hP hD hS => ?_)
  refine lv_aload_n hx hb dX4_firstOf_23 rfl (lv_at hl 0 rfl) ?_
  have hz : (V ++ [(q, Sum.inl (cI, n', Sum.inl (fun _ => (0 : Int32))))]).set V.length (q, .inl (cI, n', .inl (va_cpy f (fun _ => 0) (0 : Int32).toNatClampNeg (0 : Int32).toNatClampNeg (iI (n' : Int)).toNatClampNeg))) = V ++ [(q, .inl (cI, n', .inl (va_cpy f (fun _ => 0) 0 0 n')))] := by
    rw [hc, List.set_append_right _ _ (Nat.le_refl _), Nat.sub_self]; rfl
  rw [hz] at hP hD
  exact W.aret hx hb hr (Or.inr ⟨_, rfl⟩) (Or.inr ⟨_, rfl⟩) (fun t ht hW => ⟨⟨(), _, rfl, trivial, by show va_P _ _ _ _; rw [ht]; exact hP, hD⟩, hS.F ht⟩) hS.2.2 dX4_firstOf_24
