theorem lfS_b (ds : List Nat) : ∀ k, lfS ds k ≤ k
  | 0 => Nat.le_refl _
  | k + 1 => by
    have := lfS_b ds k
    unfold lfS; split <;> omega
theorem rgS_b (ds : List Nat) (l : Nat) : ∀ d, l + 1 ≤ rgS ds l d ∧ rgS ds l d ≤ l + 1 + d
  | 0 => by unfold rgS; omega
  | d + 1 => by
    have := rgS_b ds l d
    unfold rgS; split <;> omega
theorem x_left {F N : Nat} {ln : Nat → Nat} {v : Int32} {ds : List Nat} {x : Sg} (hT : T35 ds x) : ∀ (k g : Nat), k ≤ 5 → k < g → g_X6_turnOn_l12 F N ln v g (iI ((k : Int) - 1)) x = g_X6_turnOn_b39 F N ln v (iI ((lfS ds k : Nat) - 1)) x
  | 0, g, _, hg => by
    obtain ⟨g, rfl⟩ : ∃ q, g = q + 1 := ⟨g - 1, by omega⟩
    rw [g_X6_turnOn_l12, if_pos (by decide)]; rfl
  | k + 1, g, hk, hg => by
    obtain ⟨g, rfl⟩ : ∃ q, g = q + 1 := ⟨g - 1, by omega⟩
    have t : ((k + 1 : Nat) : Int) - 1 = (k : Int) := by omega
    have a := hT.2 k (by omega)
    have b := hT.2 (k + 1) (by omega)
    rw [t, g_X6_turnOn_l12, if_neg (by rw [li_0, iI_lt (by omega) (by omega)]; omega), rdA_i (by omega), li_n1, li_1, iI_add, iI_add, show (k : Int) + 1 = ((k + 1 : Nat) : Int) by omega, rdA_i (by omega), Int.toNat_natCast, Int.toNat_natCast, a.2, b.2, ite_le (by omega) (by omega), lfS]
    by_cases h : ds.getD (k + 1) 0 < ds.getD k 0
    · rw [if_pos h, if_neg (by omega)]
      exact x_left hT k g (by omega) (by omega)
    · rw [if_neg h, if_pos (by omega), t]
theorem x_right {F N : Nat} {ln : Nat → Nat} {v : Int32} {ds : List Nat} {x : Sg} (hT : T35 ds x) {l : Nat} : ∀ (d g : Nat), l + 1 + d < 6 → d < g → g_X6_turnOn_l49 F N ln v (iI (l : Int)) g (iI ((l + 1 + d : Nat) : Int)) x = g_X6_turnOn_b77 F N ln v (iI (l : Int)) (iI (rgS ds l d : Nat)) x
  | 0, g, _, hg => by
    obtain ⟨g, rfl⟩ : ∃ q, g = q + 1 := ⟨g - 1, by omega⟩
    rw [g_X6_turnOn_l49, li_1, iI_add, if_pos (by rw [iI_le (by omega) (by omega)]; omega)]; rfl
  | d + 1, g, hk, hg => by
    obtain ⟨g, rfl⟩ : ∃ q, g = q + 1 := ⟨g - 1, by omega⟩
    have a := hT.2 (l + 1 + (d + 1)) (by omega)
    have b := hT.2 l (by omega)
    rw [g_X6_turnOn_l49, li_n1, li_1, iI_add, iI_add, if_neg (by rw [iI_le (by omega) (by omega)]; omega), rdA_i (by omega), rdA_i (by omega), Int.toNat_natCast, Int.toNat_natCast, a.2, b.2, ite_le (by omega) (by omega), rgS]
    by_cases h : ds.getD (l + 1 + (d + 1)) 0 < ds.getD l 0
    · rw [if_pos h, if_neg (by omega), show ((l + 1 + (d + 1) : Nat) : Int) + -1 = ((l + 1 + d : Nat) : Int) by omega]
      exact x_right hT d g (by omega) (by omega)
    · rw [if_neg h, if_pos (by omega)]
theorem x_turnOn {F N : Nat} {ln : Nat → Nat} (hF : 100 ≤ F) {ds : List Nat} {x : Sg} (hT : T35 ds x) {n : Nat} (hn : n ≤ 6) (h0 : x 6 0 = iI (n : Int)) : (nxS n ds = none ∧ g_X6_turnOn F N ln x = some (x, 0)) ∨ ∃ e x', nxS n ds = some e ∧ g_X6_turnOn F N ln x = some (x', 1) ∧ T35 e x' ∧ ∀ a, a ≠ 35 → x' a = x a := by
  unfold g_X6_turnOn nxS
  rw [h0, li_2, iI_sub]
  by_cases hz : n = 0
  · subst hz
    obtain ⟨g, hg⟩ : ∃ q, F = q + 1 := ⟨F - 1, by omega⟩
    refine Or.inl ⟨rfl, ?_⟩
    have : ∀ g, g_X6_turnOn_l12 F N ln (iI ((0 : Nat) : Int)) (g + 1) (iI (((0 : Nat) : Int) - 2)) x = some (x, 0) := fun g => by
      rw [g_X6_turnOn_l12, if_pos (by decide)]
      unfold g_X6_turnOn_b39
      rw [if_neg (by decide)]
    have h1 := this g
    rw [← hg] at h1
    exact h1
  · have hl := lfS_b ds (n - 1)
    rw [show (n : Int) - 2 = ((n - 1 : Nat) : Int) - 1 by omega, x_left hT (n - 1) F (by omega) (by omega)]
    unfold g_X6_turnOn_b39
    by_cases h : lfS ds (n - 1) = 0
    · rw [if_pos h, h, if_neg (by decide)]
      exact Or.inl ⟨rfl, rfl⟩
    · obtain ⟨l, hl1⟩ : ∃ l, lfS ds (n - 1) = l + 1 := ⟨lfS ds (n - 1) - 1, by omega⟩
      rw [if_neg h, hl1, show ((l + 1 : Nat) : Int) - 1 = (l : Int) by omega, li_0, if_pos (by rw [iI_le (by omega) (by omega)]; omega), li_1, iI_sub, show (n : Int) - 1 = ((l + 1 + (n - 1 - (l + 1)) : Nat) : Int) by omega, x_right hT (n - 1 - (l + 1)) F (by omega) (by omega)]
      have hr := rgS_b ds l (n - 1 - (l + 1))
      unfold g_X6_turnOn_b77
      obtain ⟨x1, e1, t1, f1⟩ := x_chg (F := F) (N := N) (ln := ln) hT (i := l) (j := rgS ds l (n - 1 - (l + 1))) (by omega) (by omega)
      obtain ⟨x2, e2, t2, f2⟩ := x_rev (F := F) (N := N) (ln := ln) 6 (l + 1) (n - 1) F _ x1 (by omega) (by omega) (by omega) (by omega) t1
      refine Or.inr ⟨_, x2, rfl, ?_, t2, fun a ha => (f2 a ha).trans (f1 a ha)⟩
      rw [e1, bnV_s, li_1, iI_add, iI_sub, show (l : Int) + 1 = ((l + 1 : Nat) : Int) by omega, show (n : Int) - 1 = ((n - 1 : Nat) : Int) by omega]
      exact e2
/-- the court with ranks by an order -/
def rkC (C : CD) (n : Nat) (ds : List Nat) : CD := fun a p => if a = 3 ∧ p < n then (n : Int) - ((ds.take n).idxOf p : Nat) else C a p
theorem rkC_a {C : CD} {n : Nat} {ds : List Nat} {a p : Nat} (h : ¬ (a = 3 ∧ p < n)) : rkC C n ds a p = C a p := if_neg h
theorem rkC_3 {C : CD} {n : Nat} {ds : List Nat} {p : Nat} (h : p < n) : rkC C n ds 3 p = (n : Int) - ((ds.take n).idxOf p : Nat) := if_pos ⟨rfl, h⟩
theorem rkC_n {C : CD} {n : Nat} {ds : List Nat} : cN (rkC C n ds) = cN C := by unfold cN; rw [rkC_a (by omega)]
theorem rkC_ok {C : CD} (h : okC C) {ds : List Nat} : okC (rkC C (cN C) ds) := by
  have hn := okC_n h
  obtain ⟨a, b, c, d, e⟩ := h
  refine ⟨by rw [rkC_a (by omega)]; exact a, by rw [rkC_a (by omega)]; exact b, by rw [rkC_a (by omega)]; exact c, by rw [rkC_a (by omega)]; exact d, fun p hp => ?_⟩
  rw [rkC_n] at hp
  obtain ⟨e1, e2, e3, e4⟩ := e p hp
  rw [rkC_a (by omega), rkC_a (by omega), rkC_3 hp, rkC_a (by omega)]
  have : (ds.take (cN C)).idxOf p ≤ (ds.take (cN C)).length := List.idxOf_le_length
  have l2 : (ds.take (cN C)).length ≤ cN C := by rw [List.length_take]; omega
  exact ⟨e1, e2, by omega, e4⟩
theorem x_rank {F N : Nat} {ln : Nat → Nat} (hF : 100 ≤ F) {C D : CD} {x : Sg} (hC : okC C) (hD : ∀ a b, ¬ (a = 3 ∧ b < cN C) → D a b = C a b) (h : courtR D x 6) {ds : List Nat} (hT : T35 ds x) (hc : chP (cN C) ds = true) : ∃ x', g_X6_rankByTurns F N ln x = some x' ∧ courtR (rkC C (cN C) ds) x' 6 ∧ ∀ a, a ≠ 9 → x' a = x a := by
  have hn := okC_n hC
  have en : cN D = cN C := by unfold cN; rw [hD 0 0 (by omega)]
  obtain ⟨k1, k2, k3, k4⟩ := chP_e hc
  obtain ⟨c0, c1, c2, c4, cp⟩ := h
  rw [hD 0 _ (by omega)] at c0 c1 c2 c4
  unfold g_X6_rankByTurns
  obtain ⟨s', e, i2, i3⟩ := loop_up (fun n i s => g_X6_rankByTurns_l2 F N ln n (iI (i : Int)) s) (fun i s => (∀ a, a ≠ 9 → s a = x a) ∧ (∀ j, j < i → s 9 (ds.getD j 0) = iI ((cN C : Int) - j))) (cN C) (by
    intro n i y hi ⟨i2, i3⟩
    have ti := hT.2 i (by omega)
    rw [g_X6_rankByTurns_l2, i2 6 (by omega), c0, if_neg (by rw [iI_le (by omega) (by omega)]; omega), rdA_i (by omega), Int.toNat_natCast, i2 35 (by omega), ti.2, wrA_i (by omega), iI_sub, li_1, iI_add, Int.toNat_natCast]
    refine ⟨_, by rw [show ((i + 1 : Nat) : Int) = (i : Int) + 1 by omega], fun a ha => by rw [st_ne _ _ _ ha]; exact i2 a ha, fun j hj => ?_⟩
    by_cases e : ds.getD j 0 = ds.getD i 0
    · have a1 := k3 i hi
      have a2 := k3 j (by omega)
      have : i = j := by rw [← a1.2.1, ← a2.2.1, a1.2.2.1, a2.2.2.1, e]
      subst this
      rw [st_e, ← hn.1]
    · rw [st_j e]
      refine i3 j ?_
      rcases Nat.lt_or_ge j i with q | q
      · exact q
      · exact absurd (by rw [show j = i by omega]) e) (cN C) 0 x F (by omega) ⟨fun _ _ => rfl, fun _ h => absurd h (by omega)⟩ (by omega)
  obtain ⟨q, hq⟩ : ∃ q, F - cN C = q + 1 := ⟨F - cN C - 1, by omega⟩
  refine ⟨s', ?_, ⟨?_, ?_, ?_, ?_, fun p hp => ?_⟩, i2⟩
  · refine e.trans ?_
    simp only [hq]
    rw [g_X6_rankByTurns_l2, i2 6 (by omega), c0, if_pos (by rw [iI_le (by omega) (by omega)]; omega)]
  · rw [i2 6 (by omega), rkC_a (by omega)]; exact c0
  · rw [i2 6 (by omega), rkC_a (by omega)]; exact c1
  · rw [i2 6 (by omega), rkC_a (by omega)]; exact c2
  · rw [i2 6 (by omega), rkC_a (by omega)]; exact c4
  · rw [rkC_n] at hp
    obtain ⟨e1, e2, e3, e4⟩ := cp p (by omega)
    rw [hD _ _ (by omega)] at e1 e2 e4
    obtain ⟨_, _, _, a4, a5⟩ := k3 p hp
    have a6 := k3 _ a4
    have v := i3 _ a4
    rw [← a6.2.2.1, a5] at v
    rw [rkC_a (by omega), rkC_a (by omega), rkC_3 hp, rkC_a (by omega), i2 (6 + 1) (by omega), i2 (6 + 2) (by omega), i2 (6 + 4) (by omega)]
    exact ⟨e1, e2, v, e4⟩
theorem x_digs {F N : Nat} {ln : Nat → Nat} (hF : 100 ≤ F) {n : Nat} (hn : n ≤ 6) {x : Sg} (h0 : x 6 0 = iI (n : Int)) {ds : List Nat} (hT : T35 ds x) : g_X6_digitsOfTurns F N ln x = some (x, iI (hIS ds n : Nat)) := by
  unfold g_X6_digitsOfTurns
  obtain ⟨v, e, i1⟩ := loop_up (fun n i s => g_X6_digitsOfTurns_l4 F N ln n s (iI (i : Int)) x) (fun i s => s = iI (hIS ds i : Nat)) n (by
    intro f i v hi i1
    have ti := hT.2 i (by omega)
    rw [g_X6_digitsOfTurns_l4, h0, if_neg (by rw [iI_le (by omega) (by omega)]; omega), rdA_i (by omega), Int.toNat_natCast, ti.2, i1, li_10, iI_mul, iI_add, li_1, iI_add, iI_add]
    exact ⟨_, by rw [show ((i + 1 : Nat) : Int) = (i : Int) + 1 by omega], by rw [hIS]; rfl⟩) n 0 0 F (by omega) rfl (by omega)
  obtain ⟨q, hq⟩ : ∃ q, F - n = q + 1 := ⟨F - n - 1, by omega⟩
  refine e.trans ?_
  simp only [hq]
  rw [g_X6_digitsOfTurns_l4, h0, if_pos (by rw [iI_le (by omega) (by omega)]; omega), i1]
/-- what the class makes of an order, what the reference makes of it -/
def oFS (C : CD) (T : TX) (s : Int × Int) (ds : List Nat) : Int × Int := wgS s (hIS ds (cN C) : Nat) (evn (rkC C (cN C) ds) T 0 0)
def oMS (C : CD) (T : TX) (s : Int × Int) (ds : List Nat) : Int × Int := if s.1 = -1 ∨ evn (rkC C (cN C) ds) T 0 0 < s.2 then (((hIS ds (cN C) : Nat) : Int), evn (rkC C (cN C) ds) T 0 0) else s
theorem oFM_1 (C : CD) (T : TX) : ∀ (L : List (List Nat)) (s : Int × Int), 0 ≤ s.1 → L.foldl (oFS C T) s = L.foldl (oMS C T) s
  | [], _, _ => rfl
  | ds :: L, s, h => by
    have e : oFS C T s ds = oMS C T s ds := by
      unfold oFS oMS wgS
      by_cases q : evn (rkC C (cN C) ds) T 0 0 < s.2
      · rw [if_pos q, if_pos (Or.inr q)]
      · rw [if_neg q, if_neg]
        rintro (a | a)
        · omega
        · exact q a
    rw [List.foldl_cons, List.foldl_cons, e]
    refine oFM_1 C T L _ ?_
    unfold oMS; split
    · show (0 : Int) ≤ ((hIS ds (cN C) : Nat) : Int); omega
    · exact h
theorem oFM {C : CD} (hC : okC C) (T : TX) (ds : List Nat) (L : List (List Nat)) : (ds :: L).foldl (oFS C T) (0, 1000000) = (ds :: L).foldl (oMS C T) (-1, 0) := by
  have b := evn_b (rkC_ok hC (ds := ds)) T
  rw [List.foldl_cons, List.foldl_cons]
  have e1 : oFS C T (0, 1000000) ds = (((hIS ds (cN C) : Nat) : Int), evn (rkC C (cN C) ds) T 0 0) := by
    unfold oFS wgS; rw [if_pos]; show evn (rkC C (cN C) ds) T 0 0 < 1000000; omega
  have e2 : oMS C T (-1, 0) ds = (((hIS ds (cN C) : Nat) : Int), evn (rkC C (cN C) ds) T 0 0) := by
    unfold oMS; rw [if_pos (Or.inl rfl)]
  rw [e1, e2]
  exact oFM_1 C T L _ (by show (0 : Int) ≤ ((hIS ds (cN C) : Nat) : Int); omega)
theorem x_ordL {F N : Nat} {ln : Nat → Nat} {C : CD} {lw : Nat} {cd : Nat → Nat → List Int} {x0 m0 : Sg} (hC : RelC C lw cd N ln x0 m0) (hF : 300 ≤ F) (a : Int32) : ∀ (k : Nat) (ds : List Nat) (x : Sg) (s : Int × Int) (D : CD) (f v : Nat), v + k = 720 → k < f → T35 ds x → (∀ e, e ∈ orbL (cN C) k ds → chP (cN C) e = true) → (-1000 ≤ s.2 ∧ s.2 ≤ 1000000) → (∀ a b, ¬ (a = 3 ∧ b < cN C) → D a b = C a b) → courtR D x 6 → x 6 3 = iI (lw : Int) → frX x0 x → x 25 0 = iI s.1 → x 25 1 = iI s.2 →
    ∃ x', g_X6_order_l59 F N ln a f (iI (v : Int)) x = some (x', if a = 0 then iI ((orbL (cN C) k ds).foldl (oFS C (Tof (cd lw))) s).1 else iI ((orbL (cN C) k ds).foldl (oFS C (Tof (cd lw))) s).2) ∧ frX x0 x' := by
  obtain ⟨h1, h2, h3, h4, h5, h6, h7, h8, h9, h10⟩ := id hC
  have hn := okC_n h1
  intro k
  induction k with
  | zero =>
    intro ds x s D f v hv hf hT hc hs hD hR hl hx w0 w1
    obtain ⟨f, rfl⟩ : ∃ q, f = q + 1 := ⟨f - 1, by omega⟩
    rw [g_X6_order_l59, li_720, if_pos (by rw [iI_le (by omega) (by omega)]; omega)]
    unfold g_X6_order_b105
    rw [x_ans w0 w1, bnI_s]
    exact ⟨x, rfl, hx⟩
  | succ k ih =>
    intro ds x s D f v hv hf hT hc hs hD hR hl hx w0 w1
    obtain ⟨f, rfl⟩ : ∃ q, f = q + 1 := ⟨f - 1, by omega⟩
    have hcd := hc ds (by rw [orbL]; exact List.mem_cons_self)
    obtain ⟨x1, e1, c1, f1⟩ := x_rank (F := F) (N := N) (ln := ln) (by omega) h1 hD hR hT hcd
    have T1 : T35 ds x1 := ⟨hT.1, fun i hi => by rw [f1 35 (by omega)]; exact hT.2 i hi⟩
    have n1 : x1 6 0 = iI ((cN C : Nat) : Int) := by rw [c1.1, rkC_a (by omega), hn.1]
    have hx1 : frX x0 x1 := frX_t hx ⟨fun a ha => f1 a (by omega), by rw [f1 30 (by omega)]⟩
    obtain ⟨x2, e2, f2, r2⟩ := x_srv hC hF (Or.inr (Or.inl rfl)) (rkC_ok h1) h3.1 (fcX_f hx1) c1 (by rw [f1 6 (by omega)]; exact hl)
    have bf := evn_b (rkC_ok h1 (ds := ds)) (Tof (cd lw))
    obtain ⟨x3, e3, f3, u0, u1⟩ := x_weigh (F := F) (N := N) (ln := ln) (σ := x2) (s := s) (a := (hIS ds (cN C) : Nat)) (b := evn (rkC C (cN C) ds) (Tof (cd lw)) 0 0) (by rw [f2 25 (by omega), f1 25 (by omega)]; exact w0) (by rw [f2 25 (by omega), f1 25 (by omega)]; exact w1) (by omega) (by omega)
    have T3 : T35 ds x3 := ⟨hT.1, fun i hi => by rw [f3 35 (by omega), f2 35 (by omega)]; exact T1.2 i hi⟩
    have n3 : x3 6 0 = iI ((cN C : Nat) : Int) := by rw [f3 6 (by omega), f2 6 (by omega)]; exact n1
    have hx3 : frX x0 x3 := frX_t hx1 (frX_t (frX_s f2) (frX_25 f3))
    have l3 : x3 6 3 = iI (lw : Int) := by rw [f3 6 (by omega), f2 6 (by omega), f1 6 (by omega)]; exact hl
    have c3 : courtR (rkC C (cN C) ds) x3 6 := courtR_of c1 (fun a _ _ => by rw [f3 a (by omega), f2 a (by omega)])
    have bs : -1000 ≤ (wgS s (hIS ds (cN C) : Nat) (evn (rkC C (cN C) ds) (Tof (cd lw)) 0 0)).2 ∧ (wgS s (hIS ds (cN C) : Nat) (evn (rkC C (cN C) ds) (Tof (cd lw)) 0 0)).2 ≤ 1000000 := by
      unfold wgS; split
      · simp only []; omega
      · exact hs
    have head : g_X6_order_l59 F N ln a (f + 1) (iI (v : Int)) x = bnI (g_X6_turnOn F N ln x3) fun s_9 x_10 => if x_10 = 0 then (g_X6_order_b105 F N ln a s_9) else (g_X6_order_l59 F N ln a f (iI ((v + 1 : Nat) : Int)) s_9) := by
      rw [g_X6_order_l59, li_720, if_neg (by rw [iI_le (by omega) (by omega)]; omega), e1, bnV_s, x_digs (by omega) hn.2 n1 T1, bnI_s, e2, bnI_s, e3, bnV_s, li_1, iI_add]
      rfl
    rw [head]
    rcases x_turnOn (F := F) (N := N) (ln := ln) (by omega) T3 hn.2 n3 with ⟨z1, z2⟩ | ⟨e, x4, z1, z2, z3, z4⟩
    · rw [z2, bnI_s, if_pos rfl]
      unfold g_X6_order_b105
      rw [x_ans u0 u1, bnI_s]
      refine ⟨x3, ?_, hx3⟩
      rw [orbL, z1]
      rfl
    · rw [z2, bnI_s, if_neg (by decide)]
      obtain ⟨x5, q1, q2⟩ := ih e x4 _ (rkC C (cN C) ds) f (v + 1) (by omega) (by omega) z3 (fun e' he' => hc e' (by rw [orbL, z1]; exact List.mem_cons_of_mem _ he')) bs (fun a b q => rkC_a q) (courtR_of c3 (fun a _ _ => z4 a (by omega))) (by rw [z4 6 (by omega)]; exact l3) (frX_t hx3 ⟨fun a ha => z4 a (by omega), by rw [z4 30 (by omega)]⟩) (by rw [z4 25 (by omega)]; exact u0) (by rw [z4 25 (by omega)]; exact u1)
      refine ⟨x5, ?_, q2⟩
      rw [q1, orbL, z1]
      rfl
