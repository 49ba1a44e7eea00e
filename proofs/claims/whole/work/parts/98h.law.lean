/-! THE CLAIM OUT OF ONE WALK OF THE LAW'S BODY. Your part is whole_start (and what it stands on); all else here is the same for every law, but numbers. -/
def R_law : String := "SoupByRankLaw"
def lw_P (b : Addr) (xs : List Int32) (args : Array Value) (s : State) : Prop := args = #[.ref b] ∧ s.IntsAt b xs ∧ xs.length ≤ 3584 ∧ (Jvm.Cond.and given_1 narrow_1).before args s = true
def lw_Q (_ : Array Value) (s : State) (o : Outcome) (t : State) : Prop := o = .returned (some (.int 1)) ∧ Framed s o t [] 600000 7302250
def lw_Z (below : List Frame) (a : Array Value) (s : State) : State → Prop := fun t => ∃ o, t.status = .running ∧ Ended t below o ∧ lw_Q a s o t
/-- the law's own end, with 1 on the stack, nothing written that was there before, its room as the claim has it -/
theorem lw_ret {p : Program} {l : Launch} {e : Env} {s : State} {m : MethodId} {below : List Frame} {meth : Method} {c : Code} {b : Nat} (hx : p.tables.exec = Jvm.exec) (hb : c.code = code) (hr : meth.sig.returnType = ret) (hlocks : meth.locks = false) {pc : Nat} {H : Heap} {ls : Array Slot} (hdg : decode code pc = .ok (.ireturn, 1)) : W p l e room_1 s m #[Value.ref b] below meth c H [] 600000 7302250 (lw_Z below #[Value.ref b] s) (F0 m pc ls [.int 1]) := by
  intro T hT X
  obtain ⟨fs, hret, hrun, hended, hW, hframe⟩ := X.leave (v := some (.int 1)) (hlocks := hlocks) (fun h => by rw [hr] at h; cases h)
  have hmeth' : T.vm.method? m = some meth := X.method'
  refine ⟨T.setFrames fs, ?_, .returned (some (.int 1)), hrun, hended, rfl, ⟨_, rfl⟩, hW, hframe⟩
  jvm_step X.here [X.here.top, hx, hb, hdg, hmeth', hr, ret, narrow_b1]
  (try refine ⟨rfl, ?_⟩); (try refine ⟨rfl, ?_⟩)
  first | (intro acts; rw [hret _ acts rfl rfl rfl]) | rw [hret _ _ rfl rfl rfl]
  exact Steps.refl _
/-- what holds at the law's entry: the machine, the code, the tables' words (any of lw_tbl by 'hts w (by decide +kernel)'), the script of L ints xs at the cell b, what the Statement gives of the start (any of its parts by flat_of_before) -/
def lw_At (p : Program) (s : State) (m : MethodId) (meth : Method) (c : Code) (b L : Nat) (xs : Nat → Int32) : Prop :=
  p.tables.exec = Jvm.exec ∧ c.code = code ∧ meth.sig.returnType = ret ∧ c.maxLocals = 4 ∧ s.vm.findClass R_law = some m.cls ∧ (∀ w ∈ lw_tbl, w.before #[Value.ref b] s = true) ∧ va_X b L xs s s.heap ∧ b < s.heap.size ∧ meth.locks = false ∧ (Jvm.Cond.and given_1 narrow_1).before #[Value.ref b] s = true
theorem ld_split {D : va_G} {G K : GW} {σ τ : Sg} {A : Nat → Prop} {H0 H : Heap} {locs : List Loc} (hG : gD G = D) (hK : gD K = D) (hw : RD D (wld G σ ++ wld K τ) A H0 H locs) : XD G A H0 σ H locs ∧ XD K A H0 τ H locs ∧ apG G K := by
  obtain ⟨hP, hD, hS⟩ := hw
  have l1 : ∀ (k : Nat) (q : Nat × va_E), (wld G σ)[k]? = some q → (wld G σ ++ wld K τ)[k]? = some q := fun k q hk => by
    rw [List.getElem?_append_left (List.getElem?_eq_some_iff.mp hk).1]; exact hk
  have l2 : ∀ (k : Nat) (q : Nat × va_E), (wld K τ)[k]? = some q → (wld G σ ++ wld K τ)[gN G + k]? = some q := fun k q hk => by
    rw [List.getElem?_append_right (by rw [wld_len]; omega), wld_len, Nat.add_sub_cancel_left]; exact hk
  refine ⟨⟨by rw [hG]; exact fun k q hk => hP k q (l1 k q hk), ⟨fun i j p q hi hj => hD.1 i j p q (l1 i p hi) (l1 j q hj), fun k q hk => hD.2 k q (l1 k q hk)⟩, hS⟩, ⟨by rw [hK]; exact fun k q hk => hP _ q (l2 k q hk), ⟨fun i j p q hi hj e => by have := hD.1 _ _ p q (l2 i p hi) (l2 j q hj) e; omega, fun k q hk => hD.2 _ q (l2 k q hk)⟩, hS⟩, fun i hi j hj e => ?_⟩
  have := hD.1 i (gN G + j) _ _ (l1 i _ (wld_get σ hi)) (l2 j _ (wld_get τ hj)) e
  omega
set_option maxHeartbeats 4000000 in
set_option maxRecDepth 100000 in
theorem law_step {p : Program} {l : Launch} {e : Env} {s : State} {m : MethodId} {below : List Frame} {meth : Method} {c : Code} {b L aX aM : Nat} {xs : Nat → Int32} (hL : L ≤ 3584) (C0 : lw_At p s m meth c b L xs) (t : Nat) (h7 : 7 * t ≤ 3584) (next : 7 * t + 7 ≤ L → ∀ (H : Heap) (locs : List Loc) (ls : Array Slot), LI (fun q => s.heap.size ≤ q) s aX aM H locs → lv_has ls 4 [(3, .int (iI ((7 * (t + 1) : Nat) : Int))), (2, .ref aM), (1, .ref aX), (0, .ref b)] → W p l e room_1 s m #[.ref b] below meth c H locs (100 + 3 * (t + 1)) (4000 + 165 * (t + 1)) (lw_Z below #[.ref b] s) (F0 m 18 ls [])) : ∀ (H : Heap) (locs : List Loc) (ls : Array Slot), LI (fun q => s.heap.size ≤ q) s aX aM H locs → lv_has ls 4 [(3, .int (iI ((7 * t : Nat) : Int))), (2, .ref aM), (1, .ref aX), (0, .ref b)] → W p l e room_1 s m #[.ref b] below meth c H locs (100 + 3 * t) (4000 + 165 * t) (lw_Z below #[.ref b] s) (F0 m 18 ls []) := by
  intro H locs ls I hl
  obtain ⟨hx, hb, hr, hml, hown, hts, hX, hbl, hlocks, hgv⟩ := id C0
  have S : CallFix p m c cL_law 4 s #[.ref b] lw_tbl RL := ⟨hx, hb, hml, hown, hts⟩
  have hbA : ¬ (fun q : Nat => s.heap.size ≤ q) b := Nat.not_le.mpr hbl
  have hS : va_S (fun q : Nat => s.heap.size ≤ q) s.heap H locs := by
    obtain ⟨G, K, N, ln, x, y, cT, cS, hG, hM, hKX, hKM, hwX, hwM, hap, hrel, -, -⟩ := I
    exact hwX.2.2
  have hcl : (iI ((7 * t : Nat) : Int)).toNatClampNeg = 7 * t := by rw [iI_cl (by omega)]; exact Int.toNat_natCast _
  refine lv_iload_n hx hb dL_law_18 rfl (lv_at hl 0 rfl) ?_
  refine lv_aload_n hx hb dL_law_19 rfl (lv_at hl 3 rfl) ?_
  refine va_slen hx hb hX hbl hbA hS dL_law_20 ?_
  refine lv_bipush (v := 7) hx hb dL_law_21 (by decide) ?_
  refine lv_isub hx hb dL_law_23 ?_
  have eL : Int32.ofNat L - 7 = iI ((L : Int) - 7) := by rw [ofN_i, show (7 : Int32) = iI 7 from rfl, iI_sub]
  rw [eL]
  refine lv_icmp_gt (tgt := 1289) hx hb dL_law_24 (by decide) (fun c_ => ?_) (fun c_ => ?_)
  · refine lv_iconst (v := 1) hx hb dL_law_1289 (by decide) ?_
    refine va_forget (fun q hq => hS.2.2 q hq) ?_
    refine W.widen (k := 600000) (n := 7302250) (by omega) (by omega) ?_
    exact lw_ret hx hb hr hlocks dL_law_1290
  · have hi : 7 * t + 7 ≤ L := by
      rw [iI_lt (by omega) (by omega)] at c_
      omega
    have hc : 100 + 3 * t + 3 ≤ 600000 := by omega
    have hs : 4000 + 165 * t + 165 ≤ 7302250 := by omega
    have KK : ∀ (H1 : Heap) (locs1 : List Loc), LI (fun q => s.heap.size ≤ q) s aX aM H1 locs1 → W p l e room_1 s m #[.ref b] below meth c H1 locs1 (100 + 3 * t + 3) (4000 + 165 * t + 165) (lw_Z below #[.ref b] s) (F0 m 1283 ls []) := by
      intro H1 locs1 I1
      refine lv_iinc (v := iI ((7 * (t + 1) : Nat) : Int)) (lv' := [(3, .int (iI ((7 * (t + 1) : Nat) : Int))), (2, .ref aM), (1, .ref aX), (0, .ref b)]) hx hb dL_law_1283 hl (k := 0) rfl (by show iI ((7 * t : Nat) : Int) + iI 7 = _; rw [iI_add]; congr 1) (by decide) rfl (fun ls hl => ?_)
      refine lv_goto (tgt := 18) hx hb dL_law_1286 (by decide) ?_
      refine W.widen (k := 100 + 3 * (t + 1)) (n := 4000 + 165 * (t + 1)) (by omega) (by omega) ?_
      exact next hi H1 locs1 ls I1 hl
    have hin : vp_in (iI ((7 * t : Nat) : Int)) L := fun h => by
      rcases h with h | h
      · rw [show (0 : Int32) = iI 0 from rfl, iI_lt (by omega) (by omega)] at h; omega
      · rw [hcl] at h; omega
    refine lv_aload_n hx hb dL_law_27 rfl (lv_at hl 3 rfl) ?_
    refine lv_iload_n hx hb dL_law_28 rfl (lv_at hl 0 rfl) ?_
    refine va_sld hx hb hX hbl hbA hS hin dL_law_29 ?_
    refine lv_bipush (v := 63) hx hb dL_law_30 (by decide) ?_
    refine lv_iand hx hb dL_law_32 ?_
    generalize (xs (iI ((7 * t : Nat) : Int)).toNatClampNeg &&& 63) = v
    by_cases hz : 0 ≤ v.toInt ∧ v.toInt ≤ 32
    · obtain ⟨k, hk⟩ : ∃ k : Nat, v.toInt = (k : Int) := ⟨v.toInt.toNat, by omega⟩
      have hk2 : k ≤ 32 := by omega
      rcases k with _ | k
      · refine lv_tableIn (tgt := 180) (off := 147) hx hb dL_law_33 (by omega) (by omega) (by rw [hk]; rfl) (by decide) ?_
        exact lc_0 S hX hbl hi hL I hl hc hs KK
      rcases k with _ | k
      · refine lv_tableIn (tgt := 203) (off := 170) hx hb dL_law_33 (by omega) (by omega) (by rw [hk]; rfl) (by decide) ?_
        exact lc_1 S hX hbl hi hL I hl hc hs KK
      rcases k with _ | k
      · refine lv_tableIn (tgt := 236) (off := 203) hx hb dL_law_33 (by omega) (by omega) (by rw [hk]; rfl) (by decide) ?_
        exact lc_2 S hX hbl hi hL I hl hc hs KK
      rcases k with _ | k
      · refine lv_tableIn (tgt := 311) (off := 278) hx hb dL_law_33 (by omega) (by omega) (by rw [hk]; rfl) (by decide) ?_
        exact lc_3 S hX hbl hi hL I hl hc hs KK
      rcases k with _ | k
      · refine lv_tableIn (tgt := 324) (off := 291) hx hb dL_law_33 (by omega) (by omega) (by rw [hk]; rfl) (by decide) ?_
        exact lc_4 S hX hbl hi hL I hl hc hs KK
      rcases k with _ | k
      · refine lv_tableIn (tgt := 347) (off := 314) hx hb dL_law_33 (by omega) (by omega) (by rw [hk]; rfl) (by decide) ?_
        exact lc_5 S hX hbl hi hL I hl hc hs KK
      rcases k with _ | k
      · refine lv_tableIn (tgt := 410) (off := 377) hx hb dL_law_33 (by omega) (by omega) (by rw [hk]; rfl) (by decide) ?_
        exact lc_6 S hX hbl hi hL I hl hc hs KK
      rcases k with _ | k
      · refine lv_tableIn (tgt := 443) (off := 410) hx hb dL_law_33 (by omega) (by omega) (by rw [hk]; rfl) (by decide) ?_
        exact lc_7 S hX hbl hi hL I hl hc hs KK
      rcases k with _ | k
      · refine lv_tableIn (tgt := 486) (off := 453) hx hb dL_law_33 (by omega) (by omega) (by rw [hk]; rfl) (by decide) ?_
        exact lc_8 S hX hbl hi hL I hl hc hs KK
      rcases k with _ | k
      · refine lv_tableIn (tgt := 519) (off := 486) hx hb dL_law_33 (by omega) (by omega) (by rw [hk]; rfl) (by decide) ?_
        exact lc_9 S hX hbl hi hL I hl hc hs KK
      rcases k with _ | k
      · refine lv_tableIn (tgt := 542) (off := 509) hx hb dL_law_33 (by omega) (by omega) (by rw [hk]; rfl) (by decide) ?_
        exact lc_10 S hX hbl hi hL I hl hc hs KK
      rcases k with _ | k
      · refine lv_tableIn (tgt := 555) (off := 522) hx hb dL_law_33 (by omega) (by omega) (by rw [hk]; rfl) (by decide) ?_
        exact lc_11 S hX hbl hi hL I hl hc hs KK
      rcases k with _ | k
      · refine lv_tableIn (tgt := 598) (off := 565) hx hb dL_law_33 (by omega) (by omega) (by rw [hk]; rfl) (by decide) ?_
        exact lc_12 S hX hbl hi hL I hl hc hs KK
      rcases k with _ | k
      · refine lv_tableIn (tgt := 621) (off := 588) hx hb dL_law_33 (by omega) (by omega) (by rw [hk]; rfl) (by decide) ?_
        exact lc_13 S hX hbl hi hL I hl hc hs KK
      rcases k with _ | k
      · refine lv_tableIn (tgt := 644) (off := 611) hx hb dL_law_33 (by omega) (by omega) (by rw [hk]; rfl) (by decide) ?_
        exact lc_14 S hX hbl hi hL I hl hc hs KK
      rcases k with _ | k
      · refine lv_tableIn (tgt := 667) (off := 634) hx hb dL_law_33 (by omega) (by omega) (by rw [hk]; rfl) (by decide) ?_
        exact lc_15 S hX hbl hi hL I hl hc hs KK
      rcases k with _ | k
      · refine lv_tableIn (tgt := 700) (off := 667) hx hb dL_law_33 (by omega) (by omega) (by rw [hk]; rfl) (by decide) ?_
        exact lc_16 S hX hbl hi hL I hl hc hs KK
      rcases k with _ | k
      · refine lv_tableIn (tgt := 723) (off := 690) hx hb dL_law_33 (by omega) (by omega) (by rw [hk]; rfl) (by decide) ?_
        exact lc_17 S hX hbl hi hL I hl hc hs KK
      rcases k with _ | k
      · refine lv_tableIn (tgt := 747) (off := 714) hx hb dL_law_33 (by omega) (by omega) (by rw [hk]; rfl) (by decide) ?_
        exact lc_18 S hX hbl hi hL I hl hc hs KK
      rcases k with _ | k
      · refine lv_tableIn (tgt := 770) (off := 737) hx hb dL_law_33 (by omega) (by omega) (by rw [hk]; rfl) (by decide) ?_
        exact lc_19 S hX hbl hi hL I hl hc hs KK
      rcases k with _ | k
      · refine lv_tableIn (tgt := 813) (off := 780) hx hb dL_law_33 (by omega) (by omega) (by rw [hk]; rfl) (by decide) ?_
        exact lc_20 S hX hbl hi hL I hl hc hs KK
      rcases k with _ | k
      · refine lv_tableIn (tgt := 856) (off := 823) hx hb dL_law_33 (by omega) (by omega) (by rw [hk]; rfl) (by decide) ?_
        exact lc_21 S hX hbl hi hL I hl hc hs KK
      rcases k with _ | k
      · refine lv_tableIn (tgt := 889) (off := 856) hx hb dL_law_33 (by omega) (by omega) (by rw [hk]; rfl) (by decide) ?_
        exact lc_22 S hX hbl hi hL I hl hc hs KK
      rcases k with _ | k
      · refine lv_tableIn (tgt := 912) (off := 879) hx hb dL_law_33 (by omega) (by omega) (by rw [hk]; rfl) (by decide) ?_
        exact lc_23 S hX hbl hi hL I hl hc hs KK
      rcases k with _ | k
      · refine lv_tableIn (tgt := 935) (off := 902) hx hb dL_law_33 (by omega) (by omega) (by rw [hk]; rfl) (by decide) ?_
        exact lc_24 S hX hbl hi hL I hl hc hs KK
      rcases k with _ | k
      · refine lv_tableIn (tgt := 968) (off := 935) hx hb dL_law_33 (by omega) (by omega) (by rw [hk]; rfl) (by decide) ?_
        exact lc_25 S hX hbl hi hL I hl hc hs KK
      rcases k with _ | k
      · refine lv_tableIn (tgt := 1022) (off := 989) hx hb dL_law_33 (by omega) (by omega) (by rw [hk]; rfl) (by decide) ?_
        exact lc_26 S hX hbl hi hL I hl hc hs KK
      rcases k with _ | k
      · refine lv_tableIn (tgt := 1035) (off := 1002) hx hb dL_law_33 (by omega) (by omega) (by rw [hk]; rfl) (by decide) ?_
        exact lc_27 S hX hbl hi hL I hl hc hs KK
      rcases k with _ | k
      · refine lv_tableIn (tgt := 1048) (off := 1015) hx hb dL_law_33 (by omega) (by omega) (by rw [hk]; rfl) (by decide) ?_
        exact lc_28 S hX hbl hi hL I hl hc hs KK
      rcases k with _ | k
      · refine lv_tableIn (tgt := 1091) (off := 1058) hx hb dL_law_33 (by omega) (by omega) (by rw [hk]; rfl) (by decide) ?_
        exact lc_29 S hX hbl hi hL I hl hc hs KK
      rcases k with _ | k
      · refine lv_tableIn (tgt := 1134) (off := 1101) hx hb dL_law_33 (by omega) (by omega) (by rw [hk]; rfl) (by decide) ?_
        exact lc_30 S hX hbl hi hL I hl hc hs KK
      rcases k with _ | k
      · refine lv_tableIn (tgt := 1197) (off := 1164) hx hb dL_law_33 (by omega) (by omega) (by rw [hk]; rfl) (by decide) ?_
        exact lc_31 S hX hbl hi hL I hl hc hs KK
      rcases k with _ | k
      · refine lv_tableIn (tgt := 1250) (off := 1217) hx hb dL_law_33 (by omega) (by omega) (by rw [hk]; rfl) (by decide) ?_
        exact lc_32 S hX hbl hi hL I hl hc hs KK
      omega
    · refine lv_tableOut (tgt := 1283) hx hb dL_law_33 (by omega) (by decide) ?_
      exact W.widen (Nat.le_add_right _ _) (Nat.le_add_right _ _) (KK H locs I)
theorem law_loop {p : Program} {l : Launch} {e : Env} {s : State} {m : MethodId} {below : List Frame} {meth : Method} {c : Code} {b L aX aM : Nat} {xs : Nat → Int32} (hL : L ≤ 3584) (C0 : lw_At p s m meth c b L xs) : ∀ (n t : Nat), L ≤ 7 * t + n → 7 * t ≤ 3584 → ∀ (H : Heap) (locs : List Loc) (ls : Array Slot), LI (fun q => s.heap.size ≤ q) s aX aM H locs → lv_has ls 4 [(3, .int (iI ((7 * t : Nat) : Int))), (2, .ref aM), (1, .ref aX), (0, .ref b)] → W p l e room_1 s m #[.ref b] below meth c H locs (100 + 3 * t) (4000 + 165 * t) (lw_Z below #[.ref b] s) (F0 m 18 ls []) := by
  intro n
  induction n with
  | zero => exact fun t h1 h2 => law_step hL C0 t h2 (fun h => absurd h (by omega))
  | succ n ih => exact fun t h1 h2 => law_step hL C0 t h2 (fun h => ih (t + 1) (by omega) (by omega))
set_option maxHeartbeats 4000000 in
set_option maxRecDepth 100000 in
theorem whole_start {p : Program} {e : Env} {s : State} {m : MethodId} {below : List Frame} {meth : Method} {c : Code} (l : Launch) (hflags : l.flags = flags0) {b L : Nat} {xs : Nat → Int32} (hL : L ≤ 3584) (C0 : lw_At p s m meth c b L xs) : W p l e room_1 s m #[Value.ref b] below meth c s.heap [] 0 0 (lw_Z below #[Value.ref b] s) (entryFrame m ([Value.ref b] : List Value).toArray 4) := by
  obtain ⟨hx, hb, hr, hml, hown, hts, hX, hbl, hlocks, hgv⟩ := id C0
  obtain ⟨D, cI, cT, cS, SK, SV, hK3, hXI, hGK⟩ := law_gK hts hgv
  obtain ⟨yM, rM, eM, hrel⟩ := k_start (F := 60000) (by omega)
  have S : CallFix p m c cL_law 4 s #[.ref b] lw_tbl RL := ⟨hx, hb, hml, hown, hts⟩
  have hA : ∀ q : Nat, s.heap.size ≤ q → (fun q : Nat => s.heap.size ≤ q) q := fun _ h => h
  have hw : RD D [] (fun q : Nat => s.heap.size ≤ q) s.heap s.heap [] := ⟨fun k q h => by simp at h, ⟨fun i j p q h => by simp at h, fun k q h => by simp at h⟩, va_S.rf⟩
  have hl := lv_entry ([.ref b]) (n := 4) (Nat.le_of_ble_eq_true rfl)
  rw [lg_entry_eq]
  generalize (lg_sl ([.ref b]) ++ List.replicate (4 - (lg_sl ([.ref b])).length) Slot.unset).toArray = ls at hl ⊢
  have hl : lv_has ls 4 [(0, .ref b)] := hl
  refine va_new (ci := 6) (fs := [.null, .null, .null, .int 0, .null, .null, .null, .null, .int 0, .null, .null, .null]) (C := RX6) (T := TX6) (N := 12) hx hb hts inL_6 tyX6 tyX6_ok hown (hts (.classLink RL 7 RX6) (by decide +kernel)) (hts (.instantiable RX6 12) (by decide +kernel)) (hts (.initialized RX6) (by decide +kernel)) hK3 hw.1 hw.2.1 hw.2.2 hA rfl (fun j hj => by (iterate 12 (rcases j with _ | j; · rfl)); omega) (Nat.le_of_ble_eq_true rfl) (Nat.le_of_ble_eq_true rfl) dL_law_0 (fun qX H hP hD hS => ?_)
  have hw : RD D [(qX, .inr (6, [.null, .null, .null, .int 0, .null, .null, .null, .null, .int 0, .null, .null, .null]))] (fun q : Nat => s.heap.size ≤ q) s.heap H [] := ⟨hP, hD, hS⟩
  refine lv_dup hx hb dL_law_3 rfl ?_
  refine va_callv (va_runI (b := qX) (As := []) (rest := [.ref qX]) S (c_X6_init l (D := D) (cI := cI) (cT := cT) (cS := cS) (sz := H.size) (q0 := qX) SK SV rfl) (cwI 0 hts gW_X6_init rfl rfl rfl (hts (.initialized RX6) (by decide +kernel)) (hts (.methodLink RL 9 yX6_init) (by decide +kernel)) (hts (.instanceMethod yX6_init) (by decide +kernel)) rfl (by decide +kernel) ⟨Nat.le_of_ble_eq_true rfl, Nat.le_of_ble_eq_true rfl⟩) ⟨RPX_blind, fun U hU hW => ⟨rfl, RP_of hw hK3 hU hW, XI_warm hW hXI⟩⟩ rfl rfl hl.1 rfl (lv_room (Nat.le_of_ble_eq_true rfl)) dL_law_4 ⟨Nat.le_of_ble_eq_true rfl, Nat.le_of_ble_eq_true rfl⟩) hw.2.2 (fun q _ h => RD_A hw hA q h) (RD_A hw hA) (fun u t H1 locs1 ht hvm _ hB hsz1 hkp hS => ?_)
  obtain ⟨adX, h0X, hB⟩ := hB
  have hw := RD_ret hw hA ht hB hS
  refine W.widen (k := 44) (n := 855) (Nat.le_of_ble_eq_true rfl) (Nat.le_of_ble_eq_true rfl) ?_
  refine lv_astore_n (lv' := [(1, .ref qX), (0, .ref b)]) hx hb dL_law_7 rfl hl (by decide) rfl (fun ls hl => ?_)
  refine va_new (ci := 7) (fs := [.int 0, .null, .null, .null, .int 0, .int 0, .null, .int 0, .null, .null, .int 0, .int 0, .int 0, .null, .null, .null, .null, .null, .null, .int 0, .int 0, .int 0, .int 0, .null, .null, .int 0, .int 0, .int 0, .null, .null, .null, .null, .null, .null, .null, .null, .int 0, .int 0, .int 0, .int 0, .int 0, .null, .int 0]) (C := RX7) (T := TX7) (N := 43) hx hb hts inL_7 tyX7 tyX7_ok hown (hts (.classLink RL 10 RX7) (by decide +kernel)) (hts (.instantiable RX7 43) (by decide +kernel)) (hts (.initialized RX7) (by decide +kernel)) hK3 hw.1 hw.2.1 hw.2.2 hA rfl (fun j hj => by (iterate 43 (rcases j with _ | j; · rfl)); omega) (Nat.le_of_ble_eq_true rfl) (Nat.le_of_ble_eq_true rfl) dL_law_8 (fun qM H hP hD hS => ?_)
  have hw : RD D (wld (GX0 D adX cI cT cS SK SV) sgX0 ++ [(qM, .inr (7, [.int 0, .null, .null, .null, .int 0, .int 0, .null, .int 0, .null, .null, .int 0, .int 0, .int 0, .null, .null, .null, .null, .null, .null, .int 0, .int 0, .int 0, .int 0, .null, .null, .int 0, .int 0, .int 0, .null, .null, .null, .null, .null, .null, .null, .null, .int 0, .int 0, .int 0, .int 0, .int 0, .null, .int 0]))]) (fun q : Nat => s.heap.size ≤ q) s.heap H _ := ⟨hP, hD, hS⟩
  generalize hz : ((qM, .inr (7, [.int 0, .null, .null, .null, .int 0, .int 0, .null, .int 0, .null, .null, .int 0, .int 0, .int 0, .null, .null, .null, .null, .null, .null, .int 0, .int 0, .int 0, .int 0, .null, .null, .int 0, .int 0, .int 0, .null, .null, .null, .null, .null, .null, .null, .null, .int 0, .int 0, .int 0, .int 0, .int 0, .null, .int 0])) : Nat × va_E) = z at hw
  have hlen : (wld (GX0 D adX cI cT cS SK SV) sgX0).length = 44 := wld_len _ _
  have e44 : (wld (GX0 D adX cI cT cS SK SV) sgX0 ++ [z])[44]? = some z := by rw [List.getElem?_append_right (by omega), hlen]; rfl
  have eC : [44].map (fun i => (wld (GX0 D adX cI cT cS SK SV) sgX0 ++ [z])[i]?) = [z].map some := by simp only [List.map_cons, List.map_nil, e44]
  have eF : [44].filterMap (fun i => (wld (GX0 D adX cI cT cS SK SV) sgX0 ++ [z])[i]?) = [z] := by simp only [List.filterMap_cons, List.filterMap_nil, e44]
  have eR : (List.range 44).map (fun i => (wld (GX0 D adX cI cT cS SK SV) sgX0 ++ [z])[i]?) = (wld (GX0 D adX cI cT cS SK SV) sgX0).map some := by
    show _ = List.map some (List.map _ (List.range 44))
    rw [List.map_map]
    refine List.map_congr_left (fun i hi => ?_)
    have hi : i < 44 := List.mem_range.mp hi
    rw [List.getElem?_append_left (by omega), wld_get _ hi]
    rfl
  subst hz
  refine lv_dup hx hb dL_law_11 rfl ?_
  refine va_callv (va_runI (b := qM) (As := []) (rest := [.ref qM]) S (c_X7_init l (D := D) (cI := cI) (sz := H.size) (q0 := qM) adX SK SV eM) (cwI 0 hts gW_X7_init rfl rfl rfl (hts (.initialized RX7) (by decide +kernel)) (hts (.methodLink RL 12 yX7_init) (by decide +kernel)) (hts (.instanceMethod yX7_init) (by decide +kernel)) rfl (by decide +kernel) ⟨Nat.le_of_ble_eq_true rfl, Nat.le_of_ble_eq_true rfl⟩) ⟨RPG_blind, fun U hU hW => ⟨rfl, RP_sub hw (hK3.sub [0] rfl) [44] rfl eF eC hU hW, by rw [hU]; exact gK_narrow (gK_warm hW (gK_kept (hGK adX).2 hw.2.2.2.1)) (va_free hw.2.1 hw.2.2 hA [44] eC)⟩⟩ rfl rfl hl.1 rfl (lv_room (Nat.le_of_ble_eq_true rfl)) dL_law_12 ⟨Nat.le_of_ble_eq_true rfl, Nat.le_of_ble_eq_true rfl⟩) hw.2.2 (fun q _ h => va_free hw.2.1 hw.2.2 hA [44] eC q h) (va_free hw.2.1 hw.2.2 hA [44] eC) (fun u t H1 locs1 ht hvm _ hB hsz1 hkp hS => ?_)
  obtain ⟨adM, h0M, hB⟩ := hB
  have hw := RD_join hw hA [44] (List.range 44) eC eR (by decide) (by decide) hkp ht hB hS
  obtain ⟨hwX, hwM, hap⟩ := ld_split (G := GX0 D adX cI cT cS SK SV) (K := GM0 D adM cI SK SV) rfl rfl hw
  refine lv_astore_n (lv' := [(2, .ref qM), (1, .ref qX), (0, .ref b)]) hx hb dL_law_15 rfl hl (by decide) rfl (fun ls hl => ?_)
  refine lv_iconst (v := 0) hx hb dL_law_16 (by decide) ?_
  refine lv_istore_n (lv' := [(3, .int 0), (2, .ref qM), (1, .ref qX), (0, .ref b)]) hx hb dL_law_17 rfl hl (by decide) rfl (fun ls hl => ?_)
  refine W.widen (k := 100 + 3 * 0) (n := 4000 + 165 * 0) (Nat.le_of_ble_eq_true rfl) (Nat.le_of_ble_eq_true rfl) ?_
  exact law_loop hL C0 L 0 (by omega) (by omega) H1 locs1 ls ⟨GX0 D adX cI cT cS SK SV, GM0 D adM cI SK SV, 1, ln0, sgX0, yM, cT, cS, GX0_is D adX cI cT cS SK SV, GM0_is D adM cI SK SV, (hGK adX).1, (hGK adM).2, hwX, hwM, hap, hrel, h0X, h0M⟩ hl
