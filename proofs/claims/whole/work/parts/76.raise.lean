/-! whose ranks to change, whom to send away -/
def swC (D : CD) (p q : Nat) : CD := upI (upI D 3 p (D 3 q)) 3 q (D 3 p)
theorem swC_0 {D : CD} {p q j : Nat} : swC D p q 0 j = D 0 j := by unfold swC; rw [up_k (by omega), up_k (by omega)]
theorem swC_sw {D : CD} {p q : Nat} (h : p ≠ q) : swC (swC D p q) p q = D := by
  funext x y
  unfold swC
  by_cases hx : x = 3
  · subst hx
    by_cases h1 : y = q
    · subst h1; rw [up_e, up_j h, up_e]
    · rw [up_j h1]
      by_cases h2 : y = p
      · subst h2; rw [up_e, up_e]
      · rw [up_j h2, up_j h1, up_j h2]
  · rw [up_k hx, up_k hx, up_k hx, up_k hx]
theorem swC_ok {D : CD} (h : okC D) {p q : Nat} (hp : p < cN D) (hq : q < cN D) : okC (swC D p q) := by
  have e1 := (h.2.2.2.2 p hp).2.2.1
  have e2 := (h.2.2.2.2 q hq).2.2.1
  exact okC_r (okC_r h (by omega)) (by omega)
theorem swC_n {D : CD} {p q : Nat} : cN (swC D p q) = cN D := by unfold cN; rw [swC_0]
theorem x_change {F N : Nat} {ln : Nat → Nat} {D : CD} {x : Sg} (hD : okC D) (h : courtR D x 6) {p q : Nat} (hp : p < cN D) (hq : q < cN D) : ∃ x', g_X1_changeRanks F N ln 6 (iI (p : Int)) (iI (q : Int)) x = some x' ∧ courtR (swC D p q) x' 6 ∧ ∀ a, a ≠ 9 → x' a = x a := by
  have hn := okC_n hD
  have e1 := (h.2.2.2.2 p hp).2.2.1
  have e2 := (h.2.2.2.2 q hq).2.2.1
  unfold g_X1_changeRanks
  rw [rdA_i (by omega), rdA_i (by omega), wrA_i (by omega), wrA_i (by omega), Int.toNat_natCast, Int.toNat_natCast, e1, e2]
  exact ⟨_, rfl, courtR_r (Or.inr (Or.inl rfl)) (courtR_r (Or.inr (Or.inl rfl)) h (r := 3) (p := p) (by omega) (v := D 3 q)) (r := 3) (p := q) (by omega) (v := D 3 p), fun a ha => by rw [st_ne _ _ _ ha, st_ne _ _ _ ha]⟩
theorem m_change {F : Nat} {D : CD} {m : Sg} (hD : okC D) (h : courtM D m) {p q : Nat} (hp : p < cN D) (hq : q < cN D) : ∃ m', g_X7_change F (iI (p : Int)) (iI (q : Int)) m = some m' ∧ courtM (swC D p q) m' ∧ ∀ a j, ¬ (a = 3 ∧ (j = 2 * p ∨ j = 2 * q)) → m' a j = m a j := by
  have hn := okC_n hD
  have e1 := (h.2.2.2 p hp).2.2.1
  have e2 := (h.2.2.2 q hq).2.2.1
  have tp : (2 * (p : Int)).toNat = 2 * p := by omega
  have tq : (2 * (q : Int)).toNat = 2 * q := by omega
  unfold g_X7_change
  rw [li_2, iI_mul, iI_mul, rdA_i (by omega), rdA_i (by omega), wrA_i (by omega), wrA_i (by omega), tp, tq, e1, e2]
  refine ⟨_, rfl, courtM_r3 (courtM_r3 h (w := 0) (p := p) (by omega) (v := D 3 q)) (w := 0) (p := q) (by omega) (v := D 3 p), fun a j ha => ?_⟩
  by_cases h3 : a = 3
  · subst h3
    rw [st_j (fun e => ha ⟨rfl, Or.inr e⟩), st_j (fun e => ha ⟨rfl, Or.inl e⟩)]
  · rw [st_k h3, st_k h3]
theorem wgS_b {s : Int × Int} {a b : Int} (h1 : -1 ≤ s.1 ∧ s.1 ≤ 1000) (h2 : -1000 ≤ s.2 ∧ s.2 ≤ 2000) (ha : 0 ≤ a ∧ a ≤ 1000) (hb : -1000 ≤ b ∧ b ≤ 2000) : (-1 ≤ (wgS s a b).1 ∧ (wgS s a b).1 ≤ 1000) ∧ (-1000 ≤ (wgS s a b).2 ∧ (wgS s a b).2 ≤ 2000) := by
  unfold wgS; split
  · exact ⟨⟨by show -1 ≤ a; omega, ha.2⟩, hb⟩
  · exact ⟨h1, h2⟩
/-- what holds of both between two tries -/
def inRs (C : CD) (lw : Nat) (x0 m0 x m : Sg) (s : Int × Int) : Prop := frX x0 x ∧ courtR C x 6 ∧ x 6 3 = iI (lw : Int) ∧ x 25 0 = iI s.1 ∧ x 25 1 = iI s.2 ∧ ((-1 ≤ s.1 ∧ s.1 ≤ 1000) ∧ (-1000 ≤ s.2 ∧ s.2 ≤ 2000)) ∧ frY m0 m ∧ courtM C m
theorem raise_2 {F N : Nat} {ln : Nat → Nat} {C : CD} {lw : Nat} {cd : Nat → Nat → List Int} {x0 m0 : Sg} (hC : RelC C lw cd N ln x0 m0) (hF : 300 ≤ F) {p : Nat} (hp : p < cN C) (a : Int32) {K41 : Int32 → Sg → Option (Sg × Int32)} {K22 : Int32 → Int32 → Int32 → Sg → Option (Sg × Int32)} (hK : ∀ x m s, inRs C lw x0 m0 x m s → Go N ln (K41 (iI (p : Int) + 1) x) (K22 (iI s.1) (iI s.2) (iI (p : Int) + 1) m)) : ∀ (k q : Nat) (x m : Sg) (s : Int × Int) (f g : Nat), q + k = cN C → p < q → k < f → k < g → inRs C lw x0 m0 x m s →
    Go N ln (g_X6_raise_l56 F N ln K41 a (iI (p : Int)) f (iI (q : Int)) x) (g_X7_raise_l37 F K22 a (iI (p : Int)) g (iI s.1) (iI s.2) (iI (q : Int)) m) := by
  obtain ⟨h1, h2, h3, h4, h5, h6, h7, h8, h9, h10⟩ := id hC
  have hn := okC_n h1
  intro k
  induction k with
  | zero =>
    intro q x m s f g hq hpq hf hg hi
    obtain ⟨f, rfl⟩ : ∃ q, f = q + 1 := ⟨f - 1, by omega⟩
    obtain ⟨g, rfl⟩ : ∃ q, g = q + 1 := ⟨g - 1, by omega⟩
    obtain ⟨i1, i2, i3, i4, i5, i6, i7, i8⟩ := id hi
    rw [g_X6_raise_l56, i1.1 1 (by omega), h4.1, if_pos (by rw [iI_le (by omega) (by omega)]; omega), g_X7_raise_l37, i8.1, if_pos (by rw [iI_le (by omega) (by omega)]; omega)]
    exact hK x m s hi
  | succ k ih =>
    intro q x m s f g hq hpq hf hg hi
    obtain ⟨f, rfl⟩ : ∃ q, f = q + 1 := ⟨f - 1, by omega⟩
    obtain ⟨g, rfl⟩ : ∃ q, g = q + 1 := ⟨g - 1, by omega⟩
    obtain ⟨i1, i2, i3, i4, i5, i6, i7, i8⟩ := id hi
    have hq' : q < cN C := by omega
    have hne : p ≠ q := by omega
    have hD := swC_ok h1 hp hq'
    obtain ⟨x1, ex1, cx1, fx1⟩ := x_change (F := F) (N := N) (ln := ln) h1 i2 hp hq'
    have hx1 : frX x0 x1 := frX_t i1 ⟨fun a ha => fx1 a (by omega), by rw [fx1 30 (by omega)]⟩
    obtain ⟨x2, ex2, fx2, rx2⟩ := x_srv hC hF (Or.inr (Or.inl rfl)) hD h3.1 (fcX_f hx1) cx1 (by rw [fx1 6 (by omega)]; exact i3)
    have bf := evn_b hD (Tof (cd lw))
    obtain ⟨x3, ex3, fx3, w0, w1⟩ := x_weigh (F := F) (N := N) (ln := ln) (σ := x2) (s := s) (a := 10 * (p : Int) + q) (b := evn (swC C p q) (Tof (cd lw)) 0 0) (by rw [fx2 25 (by omega), fx1 25 (by omega)]; exact i4) (by rw [fx2 25 (by omega), fx1 25 (by omega)]; exact i5) (by omega) (by omega)
    obtain ⟨x4, ex4, cx4, fx4⟩ := x_change (F := F) (N := N) (ln := ln) hD (courtR_of cx1 (σ' := x3) (fun a _ _ => by rw [fx3 a (by omega), fx2 a (by omega)])) (by rw [swC_n]; exact hp) (by rw [swC_n]; exact hq')
    rw [swC_sw hne] at cx4
    obtain ⟨m1, em1, cm1, fm1⟩ := m_change (F := F) h1 i8 hp hq'
    obtain ⟨m2, em2, fm2, rm2⟩ := m_now hC hF hD (by rw [swC_0]; exact h2.2) h3.1 (m1 := m1) (fun j => by rw [fm1 5 j (by omega), i7.1 5 j (by omega) (by omega)]) (fun j => by rw [fm1 6 j (by omega), i7.1 6 j (by omega) (by omega)]) cm1 (by rw [fm1 0 11 (by omega), i7.2 11 (by omega)]; exact h7)
    obtain ⟨m3, em3, cm3, fm3⟩ := m_change (F := F) hD (courtM_of cm1 fm2) (p := p) (q := q) (by rw [swC_n]; exact hp) (by rw [swC_n]; exact hq')
    rw [swC_sw hne] at cm3
    have hy : frY m0 m3 := by
      refine ⟨fun a j h0 h14 => ?_, fun j hj => ?_⟩
      · by_cases e : a = 3 ∧ (j = 2 * p ∨ j = 2 * q)
        · obtain ⟨rfl, rfl | rfl⟩ := e
          · rw [(cm3.2.2.2 p hp).2.2.1, (h6.2.2.2 p hp).2.2.1]
          · rw [(cm3.2.2.2 q hq').2.2.1, (h6.2.2.2 q hq').2.2.1]
        · rw [fm3 a j e, fm2.1 a h0 (by omega), fm1 a j e, i7.1 a j h0 h14]
      · rw [fm3 0 j (by omega), fm2.2 j (by omega), fm1 0 j (by omega), i7.2 j hj]
    have bw := wgS_b i6.1 i6.2 (a := 10 * (p : Int) + q) (b := evn (swC C p q) (Tof (cd lw)) 0 0) (by omega) (by omega)
    have nx := ih (q + 1) x4 m3 (wgS s (10 * (p : Int) + q) (evn (swC C p q) (Tof (cd lw)) 0 0)) f g (by omega) (by omega) (by omega) (by omega) ⟨frX_t hx1 (frX_t (frX_s fx2) (frX_t (frX_25 fx3) ⟨fun a ha => fx4 a (by omega), by rw [fx4 30 (by omega)]⟩)), cx4, by rw [fx4 6 (by omega), fx3 6 (by omega), fx2 6 (by omega), fx1 6 (by omega)]; exact i3, by rw [fx4 25 (by omega)]; exact w0, by rw [fx4 25 (by omega)]; exact w1, bw, hy, cm3⟩
    rw [g_X6_raise_l56, i1.1 1 (by omega), h4.1, if_neg (by rw [iI_le (by omega) (by omega)]; omega), ex1, bnV_s, ex2, bnI_s, li_10, iI_mul, iI_add, ex3, bnV_s, ex4, bnV_s, g_X7_raise_l37, i8.1, if_neg (by rw [iI_le (by omega) (by omega)]; omega), em1, bnV_s, em2, bnI_s, em3, bnV_s, li_10, iI_mul, iI_add, li_1, iI_add]
    unfold g_X7_raise_b86 g_X7_raise_b99
    rw [li_1, iI_add]
    have tt : ((q + 1 : Nat) : Int) = (q : Int) + 1 := by omega
    rw [tt] at nx
    unfold wgS at nx
    by_cases w : evn (swC C p q) (Tof (cd lw)) 0 0 < s.2
    · rw [if_pos w] at nx
      have w' : ¬ iI s.2 ≤ iI (evn (swC C p q) (Tof (cd lw)) 0 0) := by rw [iI_le (by omega) (by omega)]; omega
      rw [if_neg w', if_neg w']
      exact nx
    · rw [if_neg w] at nx
      have w' : iI s.2 ≤ iI (evn (swC C p q) (Tof (cd lw)) 0 0) := by rw [iI_le (by omega) (by omega)]; omega
      rw [if_pos w', if_pos w']
      exact nx
theorem raise_1 {F N : Nat} {ln : Nat → Nat} {C : CD} {lw : Nat} {cd : Nat → Nat → List Int} {x0 m0 : Sg} (h : Rel N ln x0 m0) (hC : RelC C lw cd N ln x0 m0) (hF : 300 ≤ F) (a : Int32) : ∀ (k p : Nat) (x m : Sg) (s : Int × Int) (f g : Nat), p + k = cN C → k < f → k < g → inRs C lw x0 m0 x m s →
    Go N ln (g_X6_raise_l41 F N ln a f (iI (p : Int)) x) (g_X7_raise_l22 F a g (iI s.1) (iI s.2) (iI (p : Int)) m) := by
  obtain ⟨h1, h2, h3, h4, h5, h6, h7, h8, h9, h10⟩ := id hC
  have hn := okC_n h1
  intro k
  induction k with
  | zero =>
    intro p x m s f g hp hf hg hi
    obtain ⟨f, rfl⟩ : ∃ q, f = q + 1 := ⟨f - 1, by omega⟩
    obtain ⟨g, rfl⟩ : ∃ q, g = q + 1 := ⟨g - 1, by omega⟩
    obtain ⟨i1, i2, i3, i4, i5, i6, i7, i8⟩ := id hi
    rw [g_X6_raise_l41, i1.1 1 (by omega), h4.1, if_pos (by rw [iI_le (by omega) (by omega)]; omega), g_X7_raise_l22, i8.1, if_pos (by rw [iI_le (by omega) (by omega)]; omega), x_ans i4 i5, bnI_s]
    by_cases w : a = 0
    · rw [if_pos w, if_pos w]; exact go_x h i1 i7 rfl
    · rw [if_neg w, if_neg w]; exact go_x h i1 i7 rfl
  | succ k ih =>
    intro p x m s f g hp hf hg hi
    obtain ⟨f, rfl⟩ : ∃ q, f = q + 1 := ⟨f - 1, by omega⟩
    obtain ⟨g, rfl⟩ : ∃ q, g = q + 1 := ⟨g - 1, by omega⟩
    obtain ⟨i1, i2, i3, i4, i5, i6, i7, i8⟩ := id hi
    rw [g_X6_raise_l41, i1.1 1 (by omega), h4.1, if_neg (by rw [iI_le (by omega) (by omega)]; omega), g_X7_raise_l22, i8.1, if_neg (by rw [iI_le (by omega) (by omega)]; omega), li_1, iI_add]
    have tt : (p : Int) + 1 = ((p + 1 : Nat) : Int) := by omega
    rw [tt]
    refine raise_2 hC hF (by omega) a (fun x' m' s' hi' => ?_) k (p + 1) x m s F F (by omega) (by omega) (by omega) (by omega) hi
    rw [li_1, iI_add, tt]
    exact ih (p + 1) x' m' s' f g (by omega) (by omega) (by omega) hi'
theorem k_raise {F N : Nat} {ln : Nat → Nat} (hF : 300 ≤ F) {x m : Sg} (h : Rel N ln x m) (a : Int32) : Go N ln (g_X6_raise F N ln a x) (g_X7_raise F a m) := by
  obtain ⟨C, lw, cd, hC, hT, hI, hS, hW⟩ := id h
  obtain ⟨h1, h2, h3, h4, h5, h6, h7, h8, h9, h10⟩ := id hC
  have hn := okC_n h1
  unfold g_X6_raise g_X7_raise
  rw [x_in, y_in, bnI_s, bnI_s, if01, if01]
  refine go_if Iff.rfl (fun _ => ?_) fun _ => go_0 h
  obtain ⟨x1, ex, fx, cx, lx⟩ := x_take (F := F) (N := N) (ln := ln) (by omega) (k := 6) (k2 := 1) (Or.inr (Or.inl rfl)) (Or.inl rfl) (by omega) x
  have hx1 : frX x x1 := ⟨fun a ha => fx a (by omega), by rw [fx 30 (by omega)]⟩
  obtain ⟨x2, ex2, fx2, rx2⟩ := x_srv hC hF (Or.inl rfl) h1 h3.1 (fcX_f hx1) (courtR_of h4 (fun a _ _ => fx a (by omega))) (by rw [fx 1 (by omega)]; exact h5)
  obtain ⟨x3, ex3, fx3, b0, b1⟩ := x_bgn (F := F) (N := N) (ln := ln) (σ := x2) (a := iI (-1)) (b := iI (evn C (Tof (cd lw)) 0 0))
  obtain ⟨m1, em, fm, rm⟩ := m_now hC hF h1 h2.2 h3.1 (fun _ => rfl) (fun _ => rfl) h6 h7
  have bf := evn_b h1 (Tof (cd lw))
  rw [ex, bnV_s, ex2, bnI_s, em, bnI_s, li_n1, ex3, bnV_s]
  exact raise_1 h hC hF a (cN C) 0 x3 m1 (-1, evn C (Tof (cd lw)) 0 0) F F (by omega) (by omega) (by omega) ⟨frX_t hx1 (frX_t (frX_s fx2) (frX_25 fx3)), courtR_of (cx C h1 h4) (fun a _ _ => by rw [fx3 a (by omega), fx2 a (by omega)]), by rw [fx3 6 (by omega), fx2 6 (by omega)]; exact lx.trans h5, b0, b1, ⟨by simp only []; omega, by simp only []; omega⟩, frY_m fm, courtM_of h6 fm⟩
theorem okC_4 {C : CD} (h : okC C) {v : Int} (hv : -1 ≤ v ∧ v ≤ 5) : okC (upI C 0 4 v) := by
  obtain ⟨a, b, c, d, e⟩ := h
  have ec : cN (upI C 0 4 v) = cN C := by unfold cN; rw [up_j (by omega)]
  refine ⟨by rw [up_j (by omega)]; exact a, by rw [up_j (by omega)]; exact b, by rw [up_j (by omega)]; exact c, by rw [up_e]; exact hv, fun p hp => ?_⟩
  rw [ec] at hp
  rw [up_k (by omega), up_k (by omega), up_k (by omega), up_k (by omega)]
  exact e p hp
theorem courtM_4 {C : CD} {m : Sg} (h : courtM C m) {v : Int} : courtM (upI C 0 4 v) m := by
  obtain ⟨a, b, c, e⟩ := h
  have ec : cN (upI C 0 4 v) = cN C := by unfold cN; rw [up_j (by omega)]
  refine ⟨by rw [up_j (by omega)]; exact a, by rw [up_j (by omega)]; exact b, by rw [up_j (by omega)]; exact c, fun p hp => ?_⟩
  rw [ec] at hp
  rw [up_k (by omega), up_k (by omega), up_k (by omega), up_k (by omega)]
  exact e p hp
/-- as inRs, somebody perhaps thought away -/
def inEx (C : CD) (lw : Nat) (x0 m0 x m : Sg) (s : Int × Int) : Prop := frX x0 x ∧ (∃ z, courtR (upI C 0 4 z) x 6) ∧ x 6 3 = iI (lw : Int) ∧ x 25 0 = iI s.1 ∧ x 25 1 = iI s.2 ∧ ((-1 ≤ s.1 ∧ s.1 ≤ 1000) ∧ (-1000 ≤ s.2 ∧ s.2 ≤ 2000)) ∧ frY m0 m ∧ courtM C m
theorem exile_1 {F N : Nat} {ln : Nat → Nat} {C : CD} {lw : Nat} {cd : Nat → Nat → List Int} {x0 m0 : Sg} (h : Rel N ln x0 m0) (hC : RelC C lw cd N ln x0 m0) (hF : 300 ≤ F) (a : Int32) : ∀ (k p : Nat) (x m : Sg) (s : Int × Int) (f g : Nat), p + k = cN C → k < f → k < g → inEx C lw x0 m0 x m s →
    Go N ln (g_X6_exile_l41 F N ln a f (iI (p : Int)) x) (g_X7_exile_l22 F a g (iI s.1) (iI s.2) (iI (p : Int)) m) := by
  obtain ⟨h1, h2, h3, h4, h5, h6, h7, h8, h9, h10⟩ := id hC
  have hn := okC_n h1
  intro k
  induction k with
  | zero =>
    intro p x m s f g hp hf hg hi
    obtain ⟨f, rfl⟩ : ∃ q, f = q + 1 := ⟨f - 1, by omega⟩
    obtain ⟨g, rfl⟩ : ∃ q, g = q + 1 := ⟨g - 1, by omega⟩
    obtain ⟨i1, i2, i3, i4, i5, i6, i7, i8⟩ := id hi
    rw [g_X6_exile_l41, i1.1 1 (by omega), h4.1, if_pos (by rw [iI_le (by omega) (by omega)]; omega), g_X7_exile_l22, i8.1, if_pos (by rw [iI_le (by omega) (by omega)]; omega), x_ans i4 i5, bnI_s]
    by_cases w : a = 0
    · rw [if_pos w, if_pos w]; exact go_x h i1 i7 rfl
    · rw [if_neg w, if_neg w]; exact go_x h i1 i7 rfl
  | succ k ih =>
    intro p x m s f g hp hf hg hi
    obtain ⟨f, rfl⟩ : ∃ q, f = q + 1 := ⟨f - 1, by omega⟩
    obtain ⟨g, rfl⟩ : ∃ q, g = q + 1 := ⟨g - 1, by omega⟩
    obtain ⟨i1, ⟨z, i2⟩, i3, i4, i5, i6, i7, i8⟩ := id hi
    have hD : okC (upI C 0 4 (p : Int)) := okC_4 h1 (by omega)
    have c1 : courtR (upI C 0 4 (p : Int)) (st x 6 4 (iI (p : Int))) 6 := by
      have := courtR_f i2 (j := 4) (Or.inr rfl) (v := (p : Int))
      rw [up_up] at this; exact this
    have hx1 : frX x0 (st x 6 4 (iI (p : Int))) := frX_t i1 ⟨fun a ha => st_ne _ _ _ (by omega), st_k (by omega)⟩
    obtain ⟨x2, ex2, fx2, rx2⟩ := x_srv hC hF (Or.inr (Or.inl rfl)) hD h3.1 (fcX_f hx1) c1 (by rw [st_j (by omega)]; exact i3)
    have bf := evn_b hD (Tof (cd lw))
    obtain ⟨x3, ex3, fx3, w0, w1⟩ := x_weigh (F := F) (N := N) (ln := ln) (σ := x2) (s := s) (a := (p : Int)) (b := evn (upI C 0 4 (p : Int)) (Tof (cd lw)) 0 0) (by rw [fx2 25 (by omega), st_k (by omega)]; exact i4) (by rw [fx2 25 (by omega), st_k (by omega)]; exact i5) (by omega) (by omega)
    obtain ⟨m2, em2, fm2, rm2⟩ := m_srv hC hF hD h3.1 (m1 := m) (fun j => i7.1 5 j (by omega) (by omega)) (fun j => i7.1 6 j (by omega) (by omega)) (courtM_4 i8) (by rw [i7.2 11 (by omega)]; exact h7)
    rw [up_e] at em2
    have v0 := rm2.2.2.1
    have bw := wgS_b i6.1 i6.2 (a := (p : Int)) (b := evn (upI C 0 4 (p : Int)) (Tof (cd lw)) 0 0) (by omega) (by omega)
    have nx := ih (p + 1) x3 m2 (wgS s (p : Int) (evn (upI C 0 4 (p : Int)) (Tof (cd lw)) 0 0)) f g (by omega) (by omega) (by omega) ⟨frX_t hx1 (frX_t (frX_s fx2) (frX_25 fx3)), ⟨_, courtR_of c1 (fun a _ _ => by rw [fx3 a (by omega), fx2 a (by omega)])⟩, by rw [fx3 6 (by omega), fx2 6 (by omega), st_j (by omega)]; exact i3, w0, w1, bw, frY_t i7 (frY_m fm2), courtM_of i8 fm2⟩
    rw [g_X6_exile_l41, i1.1 1 (by omega), h4.1, if_neg (by rw [iI_le (by omega) (by omega)]; omega), wrF_i, ex2, bnI_s, ex3, bnV_s, g_X7_exile_l22, i8.1, if_neg (by rw [iI_le (by omega) (by omega)]; omega), em2, bnV_s, v0]
    unfold g_X7_exile_b51 g_X7_exile_b68
    rw [v0, li_1, iI_add]
    have tt : ((p + 1 : Nat) : Int) = (p : Int) + 1 := by omega
    rw [tt] at nx
    unfold wgS at nx
    by_cases w : evn (upI C 0 4 (p : Int)) (Tof (cd lw)) 0 0 < s.2
    · rw [if_pos w] at nx
      have w' : ¬ iI s.2 ≤ iI (evn (upI C 0 4 (p : Int)) (Tof (cd lw)) 0 0) := by rw [iI_le (by omega) (by omega)]; omega
      rw [if_neg w', if_neg w']
      exact nx
    · rw [if_neg w] at nx
      have w' : iI s.2 ≤ iI (evn (upI C 0 4 (p : Int)) (Tof (cd lw)) 0 0) := by rw [iI_le (by omega) (by omega)]; omega
      rw [if_pos w', if_pos w']
      exact nx
theorem k_exile {F N : Nat} {ln : Nat → Nat} (hF : 300 ≤ F) {x m : Sg} (h : Rel N ln x m) (a : Int32) : Go N ln (g_X6_exile F N ln a x) (g_X7_exile F a m) := by
  obtain ⟨C, lw, cd, hC, hT, hI, hS, hW⟩ := id h
  obtain ⟨h1, h2, h3, h4, h5, h6, h7, h8, h9, h10⟩ := id hC
  have hn := okC_n h1
  unfold g_X6_exile g_X7_exile
  rw [x_in, y_in, bnI_s, bnI_s, if01, if01]
  refine go_if Iff.rfl (fun _ => ?_) fun _ => go_0 h
  obtain ⟨x1, ex, fx, cx, lx⟩ := x_take (F := F) (N := N) (ln := ln) (by omega) (k := 6) (k2 := 1) (Or.inr (Or.inl rfl)) (Or.inl rfl) (by omega) x
  have hx1 : frX x x1 := ⟨fun a ha => fx a (by omega), by rw [fx 30 (by omega)]⟩
  obtain ⟨x2, ex2, fx2, rx2⟩ := x_srv hC hF (Or.inl rfl) h1 h3.1 (fcX_f hx1) (courtR_of h4 (fun a _ _ => fx a (by omega))) (by rw [fx 1 (by omega)]; exact h5)
  obtain ⟨x3, ex3, fx3, b0, b1⟩ := x_bgn (F := F) (N := N) (ln := ln) (σ := x2) (a := iI (-1)) (b := iI (evn C (Tof (cd lw)) 0 0))
  obtain ⟨m1, em, fm, rm⟩ := m_now hC hF h1 h2.2 h3.1 (fun _ => rfl) (fun _ => rfl) h6 h7
  have bf := evn_b h1 (Tof (cd lw))
  rw [ex, bnV_s, ex2, bnI_s, em, bnI_s, li_n1, ex3, bnV_s]
  exact exile_1 h hC hF a (cN C) 0 x3 m1 (-1, evn C (Tof (cd lw)) 0 0) F F (by omega) (by omega) (by omega) ⟨frX_t hx1 (frX_t (frX_s fx2) (frX_25 fx3)), ⟨C 0 4, by rw [up_id]; exact courtR_of (cx C h1 h4) (fun a _ _ => by rw [fx3 a (by omega), fx2 a (by omega)])⟩, by rw [fx3 6 (by omega), fx2 6 (by omega)]; exact lx.trans h5, b0, b1, ⟨by simp only []; omega, by simp only []; omega⟩, frY_m fm, courtM_of h6 fm⟩
