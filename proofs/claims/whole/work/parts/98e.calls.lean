/-! two worlds side by side -/
def apG (G K : GW) : Prop := ∀ i, i < gN G → ∀ j, j < gN K → gAd G i ≠ gAd K j
theorem apG_s {G K : GW} (h : apG G K) : apG K G := fun i hi j hj e => h j hj i hi e.symm
def LI (A : Nat → Prop) (s : State) (aX aM : Nat) (H : Heap) (locs : List Loc) : Prop := ∃ (G K : GW) (N : Nat) (ln : Nat → Nat) (x y : Sg) (cT cS : ClassId), isX G N ln cT cS ∧ isM K ∧ gK G A s s.heap ∧ gK K A s s.heap ∧ XD G A s.heap x H locs ∧ XD K A s.heap y H locs ∧ apG G K ∧ Rel N ln x y ∧ gAd G 0 = aX ∧ gAd K 0 = aM
section RW6
variable {p : Program} {l : Launch} {e : Env} {R : Room} {s : State} {m : MethodId} {args : Array Value} {below : List Frame} {meth : Method} {c : Code} {H : Heap} {locs : List Loc} {cells slots : Nat} {Q : State → Prop}
variable {cc : ByteArray} {pc nL : Nat} {ls : Array Slot} {rest : List Value} {G K : GW} {A : Nat → Prop} {σ τ : Sg} {Ts : List Cond} {own : String}
variable {y : MethodName} {bytes : ByteArray} {maxL n index : Nat} {ret : Option FieldType} {ws : List Cond} {rm : Room} {As : List Value} {C : String} {b : Nat} {σ' : Sg}
theorem XD_kept {H1 : Heap} {locs1 : List Loc} (ho : XD K A s.heap τ H locs) (hap : apG G K) (hkp : ∀ q : Nat, q < H.size → ¬ gA G H.size q → H1[q]? = H[q]?) (hS : va_S A s.heap H1 locs1) : XD K A s.heap τ H1 locs1 := by
  refine ⟨ho.1.kept (fun k q hq => hkp q.1 (ho.1 k q hq).lt (fun hg => ?_)), ho.2.1, hS⟩
  have hl := (ho.1 k q hq).lt
  obtain ⟨hk, rfl⟩ := wld_inv hq
  rcases hg with ⟨i, hi, h⟩ | h
  · exact hap i hi k hk h.symm
  · exact absurd hl (Nat.not_lt.mpr h)
theorem r_iV2 {r : Int32} (S : CallFix p m c cc nL s args Ts own) (hA : ∀ q, s.heap.size ≤ q → A q) (hK : gK G A s s.heap) (hw : XD G A s.heap σ H locs) (ho : XD K A s.heap τ H locs) (hap : apG G K) (hM : Met l y ws rm (va_Pc (.ref b :: As) (PX G σ H.size)) (QcI G (gA G H.size) σ' r) 0 0 (gA G H.size)) (cw : CallW R s args own C index y bytes maxL ret ws rm 0 0 n) (hv : ∃ cell : Cell, H[b]? = some cell ∧ cell.vm.isStatics = false ∧ s.vm.findClass C = some cell.cls) (hn : As.length = n) (hsize : ls.size = nL) (hstk : (rest.map fun v => v.category).sum ≤ 8) (hdg : decode cc pc = .ok (.invokevirtual index, 3)) (hf : cells ≤ R.cells ∧ slots ≤ R.slots) {stk : List Value} (hstack : stk = As.reverse ++ .ref b :: rest)
    (kk : ∀ (H1 : Heap) (locs1 : List Loc), XD G A s.heap σ' H1 locs1 → XD K A s.heap τ H1 locs1 → W p l e R s m args below meth c H1 locs1 cells slots Q (F0 m (pc + 3) ls (.int r :: rest))) : W p l e R s m args below meth c H locs cells slots Q (F0 m pc ls stk) := by
  refine va_calli (va_runV (As := As) (rest := rest) (g := F0 m pc ls stk) S hM cw ⟨PX_blind, hv, fun U hU hW => ⟨rfl, PX_of hw hA hK hU hW⟩⟩ rfl hn hsize hstack (lv_room (pc := pc) (ls := ls) (rest := stk) hstk) hdg hf) hw.2.2 (fun q _ h => XD_A hw hA q h) (XD_A hw hA) (fun x u t H1 locs1 ht hvm hx hB hsz hkp hS => ?_)
  subst hx
  exact kk H1 locs1 (XD_ret hw ht hB hS) (XD_kept ho hap hkp hS)
theorem r_lV2 {r : Int64} (S : CallFix p m c cc nL s args Ts own) (hA : ∀ q, s.heap.size ≤ q → A q) (hK : gK G A s s.heap) (hw : XD G A s.heap σ H locs) (ho : XD K A s.heap τ H locs) (hap : apG G K) (hM : Met l y ws rm (va_Pc (.ref b :: As) (PX G σ H.size)) (QcL G (gA G H.size) σ' r) 0 0 (gA G H.size)) (cw : CallW R s args own C index y bytes maxL ret ws rm 0 0 n) (hv : ∃ cell : Cell, H[b]? = some cell ∧ cell.vm.isStatics = false ∧ s.vm.findClass C = some cell.cls) (hn : As.length = n) (hsize : ls.size = nL) (hstk : (rest.map fun v => v.category).sum ≤ 8) (hdg : decode cc pc = .ok (.invokevirtual index, 3)) (hf : cells ≤ R.cells ∧ slots ≤ R.slots) {stk : List Value} (hstack : stk = As.reverse ++ .ref b :: rest)
    (kk : ∀ (H1 : Heap) (locs1 : List Loc), XD G A s.heap σ' H1 locs1 → XD K A s.heap τ H1 locs1 → W p l e R s m args below meth c H1 locs1 cells slots Q (F0 m (pc + 3) ls (.long r :: rest))) : W p l e R s m args below meth c H locs cells slots Q (F0 m pc ls stk) := by
  refine va_calll (va_runV (As := As) (rest := rest) (g := F0 m pc ls stk) S hM cw ⟨PX_blind, hv, fun U hU hW => ⟨rfl, PX_of hw hA hK hU hW⟩⟩ rfl hn hsize hstack (lv_room (pc := pc) (ls := ls) (rest := stk) hstk) hdg hf) hw.2.2 (fun q _ h => XD_A hw hA q h) (XD_A hw hA) (fun x u t H1 locs1 ht hvm hx hB hsz hkp hS => ?_)
  subst hx
  exact kk H1 locs1 (XD_ret hw ht hB hS) (XD_kept ho hap hkp hS)
theorem r_tV2 {r : Int32} {P : GW → Prop} (S : CallFix p m c cc nL s args Ts own) (hA : ∀ q, s.heap.size ≤ q → A q) (hK : gK G A s s.heap) (hw : XD G A s.heap σ H locs) (ho : XD K A s.heap τ H locs) (hap : apG G K) (hM : Met l y ws rm (va_Pc (.ref b :: As) (PX G σ H.size)) (va_Qi (fun (x : Int32) (_ : Unit) => x = r) (fun _ t => ∃ G', P G' ∧ EX G' σ' t ∧ va_D (gA G H.size) (wld G' σ')) (gA G H.size)) 3 165 (gA G H.size)) (hD : ∀ G', P G' → gD G' = gD G) (cw : CallW R s args own C index y bytes maxL ret ws rm 3 165 n) (hv : ∃ cell : Cell, H[b]? = some cell ∧ cell.vm.isStatics = false ∧ s.vm.findClass C = some cell.cls) (hn : As.length = n) (hsize : ls.size = nL) (hstk : (rest.map fun v => v.category).sum ≤ 8) (hdg : decode cc pc = .ok (.invokevirtual index, 3)) (hf : cells + 3 ≤ R.cells ∧ slots + 165 ≤ R.slots) {stk : List Value} (hstack : stk = As.reverse ++ .ref b :: rest)
    (kk : ∀ (G' : GW) (H1 : Heap) (locs1 : List Loc), P G' → XD G' A s.heap σ' H1 locs1 → XD K A s.heap τ H1 locs1 → apG G' K → W p l e R s m args below meth c H1 locs1 (cells + 3) (slots + 165) Q (F0 m (pc + 3) ls (.int r :: rest))) : W p l e R s m args below meth c H locs cells slots Q (F0 m pc ls stk) := by
  refine va_calli (va_runV (As := As) (rest := rest) (g := F0 m pc ls stk) S hM cw ⟨PX_blind, hv, fun U hU hW => ⟨rfl, PX_of hw hA hK hU hW⟩⟩ rfl hn hsize hstack (lv_room (pc := pc) (ls := ls) (rest := stk) hstk) hdg hf) hw.2.2 (fun q _ h => XD_A hw hA q h) (XD_A hw hA) (fun x u t H1 locs1 ht hvm hx hB hsz hkp hS => ?_)
  subst hx
  obtain ⟨G', hP, hE, hDD⟩ := hB
  refine kk G' H1 locs1 hP ⟨by rw [← ht]; exact hE, hDD.weaken (fun _ _ _ h => XD_A hw hA _ h), hS⟩ (XD_kept ho hap hkp hS) (fun i hi j hj h => ?_)
  have h1 : gA G H.size (gAd G' i) := hDD.2 i _ (wld_get σ' hi)
  have h2 : gAd K j < H.size := (ho.1 j _ (wld_get τ hj)).lt
  rcases h1 with ⟨k, hk, e1⟩ | h1
  · exact hap k hk j hj (e1.symm.trans h)
  · rw [h] at h1; exact absurd h2 (Nat.not_lt.mpr h1)
end RW6
theorem ix_k {i k : Nat} {z : Int32} (h : z = iI (k : Int)) : iI (i : Int) + z = iI ((i + k : Nat) : Int) := by
  rw [h, iI_add]; congr 1
theorem grB_is {G : GW} {N : Nat} {ln : Nat → Nat} {cT cS : ClassId} {G' : GW} (hG : isX G N ln cT cS) {n' : Nat} (hN : N < 6) (h : grB G N ln cT cS (some n') G') : isX G' (N + 1) (upN ln N n') cT cS := by
  obtain ⟨q, q1, q2, rfl⟩ := h
  exact growX_is hG hN q q1 q2
theorem grB_gD {G : GW} {N : Nat} {ln : Nat → Nat} {cT cS : ClassId} {G' : GW} {o : Option Nat} (h : grB G N ln cT cS o G') : gD G' = gD G := by
  cases o with
  | none => rw [show G' = G from h]
  | some n' => obtain ⟨q, q1, q2, rfl⟩ := h; rfl
theorem grB_gK {G : GW} {N : Nat} {ln : Nat → Nat} {cT cS : ClassId} {G' : GW} {o : Option Nat} {A : Nat → Prop} {U : State} {H : Heap} (h : grB G N ln cT cS o G') (hK : gK G A U H) : gK G' A U H := by
  cases o with
  | none => rw [show G' = G from h]; exact hK
  | some n' => obtain ⟨q, q1, q2, rfl⟩ := h; exact hK
theorem grB_0 {G : GW} {N : Nat} {ln : Nat → Nat} {cT cS : ClassId} {G' : GW} {o : Option Nat} (h : grB G N ln cT cS o G') (hN : 0 < N) : gAd G' 0 = gAd G 0 := by
  cases o with
  | none => rw [show G' = G from h]
  | some n' =>
    obtain ⟨q, q1, q2, rfl⟩ := h
    show adX (gAd G) N q q1 q2 0 = _
    unfold adX
    rw [if_neg (by omega), if_neg (by omega), if_neg (by omega)]
