/-! ranks by lots -/
def ltS (seed : Int) : Nat → Int
  | 0 => seed + 1
  | p + 1 => ltS seed p * 48271 % 2147483647
theorem ltS_b {seed : Int} (h : 0 ≤ seed ∧ seed ≤ 200000) : ∀ p, 0 ≤ ltS seed p ∧ ltS seed p < 2147483647
  | 0 => by unfold ltS; omega
  | p + 1 => by
    unfold ltS
    exact ⟨Int.emod_nonneg _ (by omega), Int.emod_lt_of_pos _ (by omega)⟩
def drC (C : CD) (seed : Int) : CD := fun a p => if a = 3 ∧ p < cN C then ltS seed (p + 1) % 100 else C a p
theorem drC_a {C : CD} {seed : Int} {a p : Nat} (h : ¬ (a = 3 ∧ p < cN C)) : drC C seed a p = C a p := if_neg h
theorem drC_3 {C : CD} {seed : Int} {p : Nat} (h : p < cN C) : drC C seed 3 p = ltS seed (p + 1) % 100 := if_pos ⟨rfl, h⟩
theorem drC_n {C : CD} {seed : Int} : cN (drC C seed) = cN C := by unfold cN; rw [drC_a (by omega)]
theorem drC_ok {C : CD} (h : okC C) {seed : Int} : okC (drC C seed) := by
  obtain ⟨a, b, c, d, e⟩ := h
  refine ⟨by rw [drC_a (by omega)]; exact a, by rw [drC_a (by omega)]; exact b, by rw [drC_a (by omega)]; exact c, by rw [drC_a (by omega)]; exact d, fun p hp => ?_⟩
  rw [drC_n] at hp
  obtain ⟨e1, e2, e3, e4⟩ := e p hp
  rw [drC_a (by omega), drC_a (by omega), drC_3 hp, drC_a (by omega)]
  have m1 := Int.emod_nonneg (ltS seed (p + 1)) (show (100 : Int) ≠ 0 by omega)
  have m2 := Int.emod_lt_of_pos (ltS seed (p + 1)) (show (0 : Int) < 100 by omega)
  exact ⟨e1, e2, by omega, e4⟩
theorem jL_iI {z : Int} : (jL z).toInt32 = iI z := by
  unfold jL iI
  exact Int64.toInt32_ofInt
theorem lot_1 {α : Type} {seed : Int} (h : 0 ≤ seed ∧ seed ≤ 200000) {p : Nat} {f : Int64 → Option α} : remL (jL (ltS seed p) * 48271) 2147483647 f = f (jL (ltS seed (p + 1))) := by
  have b := ltS_b h p
  rw [show (48271 : Int64) = jL 48271 from rfl, show (2147483647 : Int64) = jL 2147483647 from rfl, jL_mul, remL_i (by omega)]
  rfl
theorem lot_2 {α : Type} {seed : Int} (h : 0 ≤ seed ∧ seed ≤ 200000) {p : Nat} {f : Int64 → Option α} : remL (jL (ltS seed p)) 100 f = f (jL (ltS seed p % 100)) := by
  have b := ltS_b h p
  rw [show (100 : Int64) = jL 100 from rfl, remL_i (by omega)]
theorem lot_0 {seed : Int} (h : 0 ≤ seed ∧ seed ≤ 200000) : (iI seed).toInt64 + 1 = jL (ltS seed 0) := by
  rw [iI_jL (by omega), show (1 : Int64) = jL 1 from rfl, jL_add]
  rfl
theorem x_draw {F N : Nat} {ln : Nat → Nat} (hF : 100 ≤ F) {C D : CD} {x : Sg} (hC : okC C) (hD : ∀ a b, ¬ (a = 3 ∧ b < cN C) → D a b = C a b) (h : courtR D x 6) {seed : Int} (hs : 0 ≤ seed ∧ seed ≤ 200000) : ∃ x', g_X1_drawRanks F N ln 6 (iI seed) x = some x' ∧ courtR (drC C seed) x' 6 ∧ ∀ a, a ≠ 9 → x' a = x a := by
  have hn := okC_n hC
  have en : cN D = cN C := by unfold cN; rw [hD 0 0 (by omega)]
  obtain ⟨c0, c1, c2, c4, cp⟩ := h
  rw [hD 0 _ (by omega)] at c0 c1 c2 c4
  unfold g_X1_drawRanks
  rw [lot_0 hs]
  obtain ⟨⟨v, s'⟩, e, i1, i2, i3⟩ := loop_up (S := Int64 × Sg) (fun n i s => g_X1_drawRanks_l8 F N ln 6 n s.1 (iI (i : Int)) s.2) (fun i s => s.1 = jL (ltS seed i) ∧ (∀ a, a ≠ 9 → s.2 a = x a) ∧ (∀ p, p < i → s.2 9 p = iI (ltS seed (p + 1) % 100))) (cN C) (by
    intro n i ⟨v, y⟩ hi ⟨i1, i2, i3⟩
    simp only [] at i1 i2 i3 ⊢
    refine ⟨(jL (ltS seed (i + 1)), st y 9 i (iI (ltS seed (i + 1) % 100))), ?_, rfl, fun a ha => by show st y 9 i _ a = x a; rw [st_ne _ _ _ ha]; exact i2 a ha, fun p hp => ?_⟩
    · simp only []
      rw [g_X1_drawRanks_l8, i2 6 (by omega), c0, if_neg (by rw [iI_le (by omega) (by omega)]; omega), i1, lot_1 hs, lot_2 hs, jL_iI, wrA_i (by omega), li_1, iI_add, Int.toNat_natCast]
      rfl
    · show st y 9 i _ 9 p = _
      by_cases hpi : p = i
      · subst hpi; rw [st_e]
      · rw [st_j hpi]; exact i3 p (by omega)) (cN C) 0 (jL (ltS seed 0), x) F (by omega) ⟨rfl, fun _ _ => rfl, fun _ h => absurd h (by omega)⟩ (by omega)
  obtain ⟨q, hq⟩ : ∃ q, F - cN C = q + 1 := ⟨F - cN C - 1, by omega⟩
  simp only [] at i1 i2 i3
  refine ⟨s', ?_, ⟨?_, ?_, ?_, ?_, fun p hp => ?_⟩, i2⟩
  · refine e.trans ?_
    simp only [hq]
    rw [g_X1_drawRanks_l8, i2 6 (by omega), c0, if_pos (by rw [iI_le (by omega) (by omega)]; omega)]
  · rw [i2 6 (by omega), drC_a (by omega)]; exact c0
  · rw [i2 6 (by omega), drC_a (by omega)]; exact c1
  · rw [i2 6 (by omega), drC_a (by omega)]; exact c2
  · rw [i2 6 (by omega), drC_a (by omega)]; exact c4
  · rw [drC_n] at hp
    obtain ⟨e1, e2, e3, e4⟩ := cp p (by omega)
    rw [hD _ _ (by omega)] at e1 e2 e4
    rw [drC_a (by omega), drC_a (by omega), drC_3 hp, drC_a (by omega), i2 (6 + 1) (by omega), i2 (6 + 2) (by omega), i2 (6 + 4) (by omega)]
    exact ⟨e1, e2, i3 p hp, e4⟩
theorem m_lots {F N : Nat} {ln : Nat → Nat} {C : CD} {lw : Nat} {cd : Nat → Nat → List Int} {x m : Sg} (hC : RelC C lw cd N ln x m) (hF : 300 ≤ F) {seed : Int} (hs : 0 ≤ seed ∧ seed ≤ 200000) : ∃ m', g_X7_lotRanks F (iI seed) m = some m' ∧ frY m m' ∧ m' 0 38 = iI (evn (drC C seed) (Tof (cd lw)) 0 0) ∧ m' 0 36 = iI (evn (drC C seed) (Tof (cd lw)) 0 1) := by
  obtain ⟨h1, h2, h3, h4, h5, h6, h7, h8, h9, h10⟩ := id hC
  have hn := okC_n h1
  obtain ⟨m1, em1, fT, f1⟩ := frT_k (F := F) (by omega) m
  unfold g_X7_lotRanks
  rw [em1, bnV_s, lot_0 hs]
  obtain ⟨⟨v, m2⟩, e, i1, i2, i3, i4⟩ := loop_up (S := Int64 × Sg) (fun n i s => g_X7_lotRanks_l12 F n s.1 (iI (i : Int)) s.2) (fun i s => s.1 = jL (ltS seed i) ∧ (∀ a, a ≠ 3 → s.2 a = m1 a) ∧ (∀ j, (∀ p, p < cN C → j ≠ 2 * p) → s.2 3 j = m1 3 j) ∧ (∀ p, p < i → s.2 3 (2 * p) = iI (ltS seed (p + 1) % 100))) (cN C) (by
    intro n i ⟨v, y⟩ hi ⟨i1, i2, i3, i4⟩
    simp only [] at i1 i2 i3 i4 ⊢
    refine ⟨(jL (ltS seed (i + 1)), st y 3 (2 * i) (iI (ltS seed (i + 1) % 100))), ?_, rfl, fun a ha => by show st y 3 _ _ a = m1 a; rw [st_ne _ _ _ ha]; exact i2 a ha, fun j hj => ?_, fun p hp => ?_⟩
    · simp only []
      rw [g_X7_lotRanks_l12, i2 0 (by omega), f1 0 (by omega), h6.1, if_neg (by rw [iI_le (by omega) (by omega)]; omega), i1, lot_1 hs, lot_2 hs, jL_iI, li_2, iI_mul, wrA_i (by omega), li_1, iI_add, show (2 * (i : Int)).toNat = 2 * i by omega]
      rfl
    · show st y 3 (2 * i) _ 3 j = _
      rw [st_j (hj i hi)]; exact i3 j hj
    · show st y 3 (2 * i) _ 3 (2 * p) = _
      by_cases hpi : p = i
      · subst hpi; rw [st_e]
      · rw [st_j (by omega)]; exact i4 p (by omega)) (cN C) 0 (jL (ltS seed 0), m1) F (by omega) ⟨rfl, fun _ _ => rfl, fun _ _ => rfl, fun _ h => absurd h (by omega)⟩ (by omega)
  obtain ⟨q, hq⟩ : ∃ q, F - cN C = q + 1 := ⟨F - cN C - 1, by omega⟩
  simp only [] at i1 i2 i3 i4
  have cm : courtM (drC C seed) m2 := by
    refine ⟨by rw [i2 0 (by omega), f1 0 (by omega), drC_a (by omega)]; exact h6.1, by rw [i2 0 (by omega), f1 0 (by omega), drC_a (by omega)]; exact h6.2.1, by rw [i2 0 (by omega), f1 0 (by omega), drC_a (by omega)]; exact h6.2.2.1, fun p hp => ?_⟩
    rw [drC_n] at hp
    obtain ⟨e1, e2, e3, e4⟩ := h6.2.2.2 p hp
    rw [drC_a (by omega), drC_a (by omega), drC_3 hp, drC_a (by omega), i2 1 (by omega), i2 2 (by omega), i4 p hp, i3 (2 * p + 1) (fun q _ => by omega), f1 1 (by omega), f1 2 (by omega), f1 3 (by omega)]
    exact ⟨e1, e2, rfl, e4⟩
  have fT2 : frT m m2 := frT_m fT (fun a h0 h1 ha => i2 a ha) (fun j hj => i3 j (fun p hp => by omega)) (fun j _ _ => by rw [i2 0 (by omega)])
  obtain ⟨m3, em3, fm3, r3⟩ := m_srv1 hC hF (drC_ok h1) (by rw [drC_a (by omega)]; exact h2.2) h3.1 (m1 := m2) (fun j => by rw [i2 5 (by omega), f1 5 (by omega)]) (fun j => by rw [i2 6 (by omega), f1 6 (by omega)]) cm (by rw [i2 0 (by omega), f1 0 (by omega)]; exact h7)
  obtain ⟨m4, em4, fY, f4, f5⟩ := frT_l (F := F) (by omega) (frT_m fT2 (fun a h0 h1 _ => fm3.1 a h0 h1) (fun j _ => by rw [fm3.1 3 (by omega) (by omega)]) (fun j hj _ => fm3.2 j hj))
  refine ⟨m4, ?_, fY, by rw [f5 38 (by omega)]; exact r3.2.2.1, by rw [f5 36 (by omega)]; exact r3.1⟩
  refine e.trans ?_
  simp only [hq]
  rw [g_X7_lotRanks_l12, i2 0 (by omega), f1 0 (by omega), h6.1, if_pos (by rw [iI_le (by omega) (by omega)]; omega), em3, bnV_s, em4, bnV_s]
theorem k_drawn {F N : Nat} {ln : Nat → Nat} (hF : 300 ≤ F) {x m : Sg} (h : Rel N ln x m) (a b : Int32) : Go N ln (g_X6_drawn F N ln a b x) (g_X7_drawn F a b m) := by
  obtain ⟨C, lw, cd, hC, hT, hI, hS, hW⟩ := id h
  obtain ⟨h1, h2, h3, h4, h5, h6, h7, h8, h9, h10⟩ := id hC
  obtain ⟨za, ha, rfl⟩ := iI_ex a
  have hn := okC_n h1
  unfold g_X6_drawn g_X7_drawn
  rw [x_in, y_in, bnI_s, bnI_s, if01, if01]
  refine go_if Iff.rfl (fun q => ?_) fun _ => go_0 h
  have q := in_i ha (lo := 0) (hi := 99999) (by omega) (by omega) q
  rw [x_in, y_in, bnI_s, bnI_s, if01, if01]
  refine go_if Iff.rfl (fun _ => ?_) fun _ => go_0 h
  obtain ⟨x1, ex, fx, cx, lx⟩ := x_take (F := F) (N := N) (ln := ln) (by omega) (k := 6) (k2 := 1) (Or.inr (Or.inl rfl)) (Or.inl rfl) (by omega) x
  have hx1 : frX x x1 := ⟨fun a ha => fx a (by omega), by rw [fx 30 (by omega)]⟩
  obtain ⟨x2, ex2, cx2, fx2⟩ := x_draw (F := F) (N := N) (ln := ln) (by omega) h1 (fun _ _ _ => rfl) (cx C h1 h4) (seed := za) (by omega)
  have hx2 : frX x x2 := frX_t hx1 ⟨fun a ha => fx2 a (by omega), by rw [fx2 30 (by omega)]⟩
  obtain ⟨x3, ex3, fx3, r3⟩ := x_srv hC hF (Or.inr (Or.inl rfl)) (drC_ok h1) h3.1 (fcX_f hx2) cx2 (by rw [fx2 6 (by omega)]; exact lx.trans h5)
  obtain ⟨m1, em, fm, v0, v1⟩ := m_lots hC hF (seed := za) (by omega)
  obtain ⟨bb, hbb, hE⟩ := evn_ok (drC_ok h1 (seed := za)) (Tof (cd lw))
  rw [ex, bnV_s, ex2, bnV_s, ex3, bnI_s, em, bnV_s, v0, v1]
  refine go_if Iff.rfl (fun _ => go_x h (frX_t hx2 (frX_s fx3)) fm rfl) fun _ => ?_
  rw [x_last (drC_ok h1) hbb hE r3, bnI_s]
  exact go_x h (frX_t hx2 (frX_s fx3)) fm rfl
theorem odds_l {F N : Nat} {ln : Nat → Nat} {C : CD} {lw : Nat} {cd : Nat → Nat → List Int} {x0 m0 : Sg} (h : Rel N ln x0 m0) (hC : RelC C lw cd N ln x0 m0) (hF : 300 ≤ F) {seed most part : Int} (hs : 0 ≤ seed ∧ seed ≤ 99999) {n : Nat} (hn : 0 < n ∧ n ≤ 40) (hm : -999 ≤ most ∧ most ≤ 9999) (hp : 0 ≤ part ∧ part ≤ 1) : ∀ (k i : Nat) (D : CD) (c : Nat) (x m : Sg) (f g : Nat), i + k = n → c ≤ i → k < f → k < g → (∀ a b, ¬ (a = 3 ∧ b < cN C) → D a b = C a b) → courtR D x 6 → x 6 3 = iI (lw : Int) → frX x0 x → frY m0 m →
    Go N ln (g_X6_odds_l64 F N ln (iI seed) (iI (n : Int)) (iI most) (iI part) f (iI (c : Int)) (iI (i : Int)) x) (g_X7_odds_l54 F (iI seed) (iI (n : Int)) (iI most) (iI part) g (jL (c : Int)) (iI (i : Int)) m) := by
  obtain ⟨h1, h2, h3, h4, h5, h6, h7, h8, h9, h10⟩ := id hC
  intro k
  induction k with
  | zero =>
    intro i D c x m f g hi hc hf hg hD hR hl hx hy
    obtain ⟨f, rfl⟩ : ∃ q, f = q + 1 := ⟨f - 1, by omega⟩
    obtain ⟨g, rfl⟩ : ∃ q, g = q + 1 := ⟨g - 1, by omega⟩
    obtain ⟨r, e1, e2⟩ := lows (F := F) (N := N) (ln := ln) hF (above := (c : Int)) (below := (n : Int)) (by omega) (by omega) hp x m
    rw [g_X6_odds_l64, if_pos (by rw [iI_le (by omega) (by omega)]; omega), g_X7_odds_l54, if_pos (by rw [iI_le (by omega) (by omega)]; omega), iI_jL (by omega), e1, e2, bnL_s, bnL_s]
    exact go_x h hx hy rfl
  | succ k ih =>
    intro i D c x m f g hi hc hf hg hD hR hl hx hy
    obtain ⟨f, rfl⟩ : ∃ q, f = q + 1 := ⟨f - 1, by omega⟩
    obtain ⟨g, rfl⟩ : ∃ q, g = q + 1 := ⟨g - 1, by omega⟩
    obtain ⟨x2, ex2, cx2, fx2⟩ := x_draw (F := F) (N := N) (ln := ln) (by omega) h1 hD hR (seed := seed + (i : Int)) (by omega)
    have hx2 : frX x0 x2 := frX_t hx ⟨fun a ha => fx2 a (by omega), by rw [fx2 30 (by omega)]⟩
    have hl2 : x2 6 3 = iI (lw : Int) := by rw [fx2 6 (by omega)]; exact hl
    obtain ⟨x3, ex3, fx3, r3⟩ := x_srv hC hF (Or.inr (Or.inl rfl)) (drC_ok h1) h3.1 (fcX_f hx2) cx2 hl2
    obtain ⟨m1, em, fm, v0, v1⟩ := m_lots (RelC_of hC hx hy) hF (seed := seed + (i : Int)) (by omega)
    have bf := evn_b (drC_ok h1 (seed := seed + (i : Int))) (Tof (cd lw))
    have nx := fun c' hc' => ih (i + 1) (drC C (seed + (i : Int))) c' x3 m1 f g (by omega) hc' (by omega) (by omega) (fun a b q => drC_a q) (courtR_of cx2 (fun a _ _ => fx3 a (by omega))) (by rw [fx3 6 (by omega)]; exact hl2) (frX_t hx2 (frX_s fx3)) (frY_t hy fm)
    have tt : ((i + 1 : Nat) : Int) = (i : Int) + 1 := by omega
    rw [g_X6_odds_l64, if_neg (by rw [iI_le (by omega) (by omega)]; omega), g_X7_odds_l54, if_neg (by rw [iI_le (by omega) (by omega)]; omega), iI_add, ex2, bnV_s, ex3, bnI_s, em, bnV_s, v0]
    unfold g_X6_odds_b96 g_X7_odds_b83
    rw [li_1, iI_add, iI_add, show (0 : Int64) = jL 0 from rfl, show (1 : Int64) = jL 1 from rfl, jL_add, jL_add, Int.add_zero, ← tt]
    refine go_if Iff.rfl (fun _ => nx c (by omega)) fun _ => ?_
    have := nx (c + 1) (by omega)
    rw [show ((c + 1 : Nat) : Int) = (c : Int) + 1 by omega] at this
    exact this
theorem k_odds {F N : Nat} {ln : Nat → Nat} (hF : 300 ≤ F) {x m : Sg} (h : Rel N ln x m) (a b c d : Int32) : Go N ln (g_X6_odds F N ln a b c d x) (g_X7_odds F a b c d m) := by
  obtain ⟨C, lw, cd, hC, hT, hI, hS, hW⟩ := id h
  obtain ⟨h1, h2, h3, h4, h5, h6, h7, h8, h9, h10⟩ := id hC
  obtain ⟨za, ha, rfl⟩ := iI_ex a
  obtain ⟨zb, hb, rfl⟩ := iI_ex b
  obtain ⟨zc, hc, rfl⟩ := iI_ex c
  obtain ⟨zd, hd, rfl⟩ := iI_ex d
  unfold g_X6_odds g_X7_odds
  rw [x_in, y_in, bnI_s, bnI_s, if01, if01]
  refine go_if Iff.rfl (fun qa => ?_) fun _ => go_0 h
  rw [x_in, y_in, bnI_s, bnI_s, if01, if01]
  refine go_if Iff.rfl (fun qb => ?_) fun _ => go_0 h
  rw [x_in, y_in, bnI_s, bnI_s, if01, if01]
  refine go_if Iff.rfl (fun qc => ?_) fun _ => go_0 h
  rw [x_in, y_in, bnI_s, bnI_s, if01, if01]
  refine go_if Iff.rfl (fun qd => ?_) fun _ => go_0 h
  have qa := in_i ha (lo := 0) (hi := 99999) (by omega) (by omega) qa
  have qb := in_i hb (lo := 1) (hi := 40) (by omega) (by omega) qb
  rw [show (-999 : Int32) = iI (-999) by decide] at qc
  have qc := in_i hc (lo := -999) (hi := 9999) (by omega) (by omega) qc
  have qd := in_i hd (lo := 0) (hi := 1) (by omega) (by omega) qd
  obtain ⟨n, rfl⟩ : ∃ n : Nat, zb = n := ⟨zb.toNat, by omega⟩
  obtain ⟨x1, ex, fx, cx, lx⟩ := x_take (F := F) (N := N) (ln := ln) (by omega) (k := 6) (k2 := 1) (Or.inr (Or.inl rfl)) (Or.inl rfl) (by omega) x
  have hx1 : frX x x1 := ⟨fun a ha => fx a (by omega), by rw [fx 30 (by omega)]⟩
  rw [ex, bnV_s]
  exact odds_l h hC hF (by omega) (by omega) qc qd n 0 C 0 x1 m F F (by omega) (by omega) (by omega) (by omega) (fun _ _ _ => rfl) (cx C h1 h4) (lx.trans h5) hx1 (frY_r m)
