/-! what the law's words give -/
theorem nestF_in : ∀ q ∈ nestFs, Cond.fieldLinkNest q.1 q.2.1 q.2.2.1 q.2.2.2.1 q.2.2.2.2.1 q.2.2.2.2.2 ∈ lw_tbl := by decide +kernel
theorem nestM_in : ∀ q ∈ nestMs, Cond.methodLinkNest q.1 q.2.1 q.2.2.1 q.2.2.2 ∈ lw_tbl := by decide +kernel
set_option maxRecDepth 20000 in
theorem in_6 (X : List Cond) (h : ∀ w ∈ X, w ∈ wsX6_init) : ∀ w ∈ X, w ∈ lw_tbl := fun w hw => (gW_X6_init w (h w hw)).1
theorem in_7 (X : List Cond) (h : ∀ w ∈ X, w ∈ wsX7_init) : ∀ w ∈ X, w ∈ lw_tbl := fun w hw => (gW_X7_init w (h w hw)).1
theorem inL_0 : ∀ w ∈ wsX00, w ∈ lw_tbl := in_6 _ (by decide +kernel)
theorem inL_1 : ∀ w ∈ wsX10, w ∈ lw_tbl := in_6 _ (by decide +kernel)
theorem inL_2 : ∀ w ∈ wsX20, w ∈ lw_tbl := in_6 _ (by decide +kernel)
theorem inL_3 : ∀ w ∈ wsX30, w ∈ lw_tbl := in_6 _ (by decide +kernel)
theorem inL_4 : ∀ w ∈ wsX40, w ∈ lw_tbl := in_6 _ (by decide +kernel)
theorem inL_5 : ∀ w ∈ wsX50, w ∈ lw_tbl := in_6 _ (by decide +kernel)
theorem inL_6 : ∀ w ∈ wsX60, w ∈ lw_tbl := in_6 _ (by decide +kernel)
theorem inL_7 : ∀ w ∈ wsX70, w ∈ lw_tbl := in_7 _ (by decide +kernel)
def tmS (i : Nat) : Term := if i = 0 then .string RX4 124 else .string RX4 132
def flL : List Cond := flatC (Jvm.Cond.and given_1 narrow_1)
theorem ms_1 : ∀ i, i < 2 → Cond.exactly (tmS i) "java/lang/String" ∈ flL := by decide +kernel
theorem ms_2 : ∀ i, i < 2 → Cond.eq (.field (tmS i) "java/lang/String" "coder" "B") (.int 0) ∈ flL := by decide +kernel
theorem ms_3 : ∀ i, i < 2 → Cond.arrayOf (.field (tmS i) "java/lang/String" "value" "[B") .byte ∈ flL := by decide +kernel
theorem ms_4 : ∀ i, i < 2 → Cond.eq (.length (.field (tmS i) "java/lang/String" "value" "[B")) (.int (Int32.ofNat (lenS.getD i 0))) ∈ flL := by decide +kernel
theorem ms_5 : ∀ i, i < 2 → ∀ j, j < lenS.getD i 0 → Cond.eq (.elem (.field (tmS i) "java/lang/String" "value" "[B") (.int (Int32.ofNat j))) (.int ((bytS.getD i []).getD j 0)) ∈ flL := by decide +kernel
theorem ms_6 : ∀ i, i < 2 → ∀ j, j < 2 → i ≠ j → Cond.not (Cond.eq (tmS i) (tmS j)) ∈ flL ∨ Cond.not (Cond.eq (tmS j) (tmS i)) ∈ flL := by decide +kernel
theorem law_str {b : Nat} {s : State} (hs : ∀ w ∈ flL, w.before #[Value.ref b] s = true) {A : Nat → Prop} (hA : ∀ a : Nat, a < s.heap.size → ¬ A a) : ∃ SK SV : Nat → Nat, vk_S 2 lenS bytS SK SV A s s.heap ∧ ∀ i : Nat, i < 2 → (tmS i).eval #[Value.ref b] s none [] s = some (.ref (SK i)) :=
  vk_Sof (tm := tmS) (by decide) (fun i hi => hs _ (ms_1 i hi)) (fun i hi => hs _ (ms_2 i hi)) (fun i hi => hs _ (ms_3 i hi)) (fun i hi => hs _ (ms_4 i hi)) (fun i hi j hj => hs _ (ms_5 i hi j hj)) (fun i j hi hj hij => (ms_6 i hi j hj hij).imp (hs _) (hs _)) hA
theorem law_gK {b : Nat} {s : State} (hts : ∀ w ∈ lw_tbl, w.before #[Value.ref b] s = true) (hgv : (Jvm.Cond.and given_1 narrow_1).before #[Value.ref b] s = true) : ∃ (D : va_G) (cI cT cS : ClassId) (SK SV : Nat → Nat), va_K D vwCl [(cI, .int), (cT, .object "SoupByRank$Text"), (cS, .object "SoupByRank$Sheet")] s ∧ XI s ∧ ∀ ad : Nat → Nat, gK (GX0 D ad cI cT cS SK SV) (fun q => s.heap.size ≤ q) s s.heap ∧ gK (GM0 D ad cI SK SV) (fun q => s.heap.size ≤ q) s s.heap := by
  have hs := flat_of_before _ hgv
  have hA : ∀ a : Nat, a < s.heap.size → ¬ (fun q => s.heap.size ≤ q) a := fun a h => Nat.not_le.mpr h
  obtain ⟨c0, i0, k0⟩ := u_known (C := RX0) (T := TX0) (N := 2) (n := 2) hts inL_0 (hts (.instantiable RX0 2) (by decide +kernel))
  obtain ⟨c1, i1, k1⟩ := u_known (C := RX1) (T := TX1) (N := 9) (n := 9) hts inL_1 (hts (.instantiable RX1 9) (by decide +kernel))
  obtain ⟨c2, i2, k2⟩ := u_known (C := RX2) (T := TX2) (N := 11) (n := 11) hts inL_2 (hts (.instantiable RX2 11) (by decide +kernel))
  obtain ⟨c3, i3, k3⟩ := u_known (C := RX3) (T := TX3) (N := 3) (n := 3) hts inL_3 (hts (.instantiable RX3 3) (by decide +kernel))
  obtain ⟨c4, i4, k4⟩ := u_known (C := RX4) (T := TX4) (N := 10) (n := 10) hts inL_4 (hts (.instantiable RX4 10) (by decide +kernel))
  obtain ⟨c5, i5, k5⟩ := u_known (C := RX5) (T := TX5) (N := 2) (n := 2) hts inL_5 (hts (.instantiable RX5 2) (by decide +kernel))
  obtain ⟨c6, i6, k6⟩ := u_known (C := RX6) (T := TX6) (N := 12) (n := 12) hts inL_6 (hts (.instantiable RX6 12) (by decide +kernel))
  obtain ⟨c7, i7, k7⟩ := u_known (C := RX7) (T := TX7) (N := 43) (n := 43) hts inL_7 (hts (.instantiable RX7 43) (by decide +kernel))
  have hC : ∀ (k : Nat) (q : vw_C), vwCl[k]? = some q → u_Kn s q.1 q.2.1 q.2.2 (([c0, c1, c2, c3, c4, c5, c6, c7] : List ClassId).getD k c0) (([i0, i1, i2, i3, i4, i5, i6, i7] : List (Nat → Nat)).getD k i0) := by
    intro k q hq
    rcases k with _ | k; · cases hq; exact k0
    rcases k with _ | k; · cases hq; exact k1
    rcases k with _ | k; · cases hq; exact k2
    rcases k with _ | k; · cases hq; exact k3
    rcases k with _ | k; · cases hq; exact k4
    rcases k with _ | k; · cases hq; exact k5
    rcases k with _ | k; · cases hq; exact k6
    rcases k with _ | k; · cases hq; exact k7
    · exact absurd hq (by simp [vwCl])
  obtain ⟨cI, kI, cpI, e1, e2, e3⟩ := Cond.arrayClass_spec (hts (.arrayClass .int) (by decide +kernel))
  have aT : va_AO "SoupByRank$Text" s := va_AO.of (hts (.arrayOver (.object "SoupByRank$Text")) (by decide +kernel))
  have aS : va_AO "SoupByRank$Sheet" s := va_AO.of (hts (.arrayOver (.object "SoupByRank$Sheet")) (by decide +kernel))
  obtain ⟨cpT, cT, kT, f1, f2, f3, f4, f5⟩ := Cond.arrayOver_spec aT
  obtain ⟨cpS, cS, kS, g1, g2, g3, g4, g5⟩ := Cond.arrayOver_spec aS
  have hK3 : va_K ((fun k => ([c0, c1, c2, c3, c4, c5, c6, c7] : List ClassId).getD k c0), (fun k => ([i0, i1, i2, i3, i4, i5, i6, i7] : List (Nat → Nat)).getD k i0)) vwCl [(cI, .int), (cT, .object "SoupByRank$Text"), (cS, .object "SoupByRank$Sheet")] s := by
    refine ⟨hC, fun k q hq => ?_⟩
    rcases k with _ | k
    · cases hq
      exact ⟨fun n z => ⟨fun k h => (by cases h), kI, e2, cpI, e3⟩, e1⟩
    rcases k with _ | k
    · cases hq
      exact ⟨fun n z => ⟨fun k h => (by cases h), kT, f3, cpT, f4⟩, kT, cpT, f3, f4, f1, f5⟩
    rcases k with _ | k
    · cases hq
      exact ⟨fun n z => ⟨fun k h => (by cases h), kS, g3, cpS, g4⟩, kS, cpS, g3, g4, g1, g5⟩
    · exact absurd hq (by simp)
  obtain ⟨SK, SV, hSt, hSe⟩ := law_str hs hA
  have nF : ∀ q ∈ nestFs, va_Nw (.fieldLinkNest q.1 q.2.1 q.2.2.1 q.2.2.2.1 q.2.2.2.2.1 q.2.2.2.2.2) s := fun q hq => va_Nw.of rfl (hts _ (nestF_in q hq))
  have nM : ∀ q ∈ nestMs, va_Nw (.methodLinkNest q.1 q.2.1 q.2.2.1 q.2.2.2) s := fun q hq => va_Nw.of rfl (hts _ (nestM_in q hq))
  have r0 : vk_R RX4 124 "cools waits likes or    and   not   heat  minutedown  rank  mood  more  " (SK 0) s := vk_R.of (hts (.stringRef RX4 124 "cools waits likes or    and   not   heat  minutedown  rank  mood  more  ") (by decide +kernel)) (hSe 0 (by omega))
  have r1 : vk_R RX4 132 "();+-*<=" (SK 1) s := vk_R.of (hts (.stringRef RX4 132 "();+-*<=") (by decide +kernel)) (hSe 1 (by omega))
  have z1 : va_Z "java/lang/String" "COMPACT_STRINGS" "Z" (.int 1) (fun q => s.heap.size ≤ q) s s.heap := va_Zof (hts (.laysStatic "java/lang/String" "COMPACT_STRINGS" "Z") (by decide +kernel)) (hts (.initialized "java/lang/String") (by decide +kernel)) (va_eqt (hs (Cond.eq (.static "java/lang/String" "COMPACT_STRINGS" "Z") (.int 1)) (by decide +kernel))) hA
  have z2 : va_Zq "jdk/internal/util/Preconditions" "SIOOBE_FORMATTER" "Ljava/util/function/BiFunction;" (fun q => s.heap.size ≤ q) s s.heap := va_Zqof (hts (.laysStatic "jdk/internal/util/Preconditions" "SIOOBE_FORMATTER" "Ljava/util/function/BiFunction;") (by decide +kernel)) (hts (.initialized "jdk/internal/util/Preconditions") (by decide +kernel)) (hs (Cond.isRef (.static "jdk/internal/util/Preconditions" "SIOOBE_FORMATTER" "Ljava/util/function/BiFunction;")) (by decide +kernel)) hA
  exact ⟨_, cI, cT, cS, SK, SV, hK3, ⟨nM, aT, aS⟩, fun ad => ⟨⟨hK3, rfl, nF, nM, hSt, r0, r1, z1, z2⟩, ⟨hK3.sub [0] rfl, rfl, nF, nM, hSt, r0, r1, z1, z2⟩⟩⟩
