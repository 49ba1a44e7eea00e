theorem ite_le0 {b : Int} (hb : -2147483648 ≤ b ∧ b < 2147483648) {α : Type} {A B : α} : (if (0 : Int32) ≤ iI b then A else B) = if 0 ≤ b then A else B := ite_le (a := 0) (by omega) hb
theorem ite_eq0 {b : Int} (hb : -2147483648 ≤ b ∧ b < 2147483648) {α : Type} {A B : α} : (if iI b = 0 then A else B) = if b = 0 then A else B := ite_eq (b := 0) hb (by omega)
theorem courtR_f {C : CD} {x : Sg} {k : Nat} (h : courtR C x k) {j : Nat} (hj : j = 2 ∨ j = 4) {v : Int} : courtR (upI C 0 j v) (st x k j (iI v)) k := by
  obtain ⟨a, b, c, d, e⟩ := h
  have ec : cN (upI C 0 j v) = cN C := by unfold cN; rw [up_j (by omega)]
  refine ⟨by rw [st_j (by omega), up_j (by omega)]; exact a, by rw [st_j (by omega), up_j (by omega)]; exact b, ?_, ?_, fun p hp => ?_⟩
  · rcases hj with rfl | rfl
    · rw [st_e, up_e]
    · rw [st_j (by omega), up_j (by omega)]; exact c
  · rcases hj with rfl | rfl
    · rw [st_j (by omega), up_j (by omega)]; exact d
    · rw [st_e, up_e]
  · rw [ec] at hp
    rw [st_k (by omega), st_k (by omega), st_k (by omega), st_k (by omega), up_k (by omega), up_k (by omega), up_k (by omega), up_k (by omega)]; exact e p hp
theorem courtR_h {C : CD} {x : Sg} (h : courtR C x 6) {v : Int} : courtR (upI C 0 2 v) (st x 6 2 (iI v)) 6 := courtR_f h (Or.inl rfl)
theorem ranks_l {F N : Nat} {ln : Nat → Nat} (hF : 300 ≤ F) {x m : Sg} (h : Rel N ln x m) {C : CD} {lw : Nat} {cd : Nat → Nat → List Int} (hC : RelC C lw cd N ln x m) {p : Nat} (hp : p < cN C) {t n : Nat} (ht : t < 4) (hn6 : (n : Int) ≤ C 0 0) (g1 : x (36 + 2 * t) 1 = iI (n : Int)) (g2 : m 10 t = iI (n : Int)) (g3 : ∀ i, i < 40 → x (37 + 2 * t) i = m 11 (40 * t + i)) {what : Int} {x1 : Sg} (hx1 : frX x x1) (cx : courtR C x1 6) (lx : x1 6 3 = iI (lw : Int)) : Go N ln (g_X6_ranks_l38 F N ln (iI (t : Int)) (iI (p : Int)) (iI what) F (iI 0) (iI (-1)) (iI 99) x1) (g_X7_ranks_l47 F (iI (t : Int)) (iI (p : Int)) (iI what) (iI (C 3 p)) F (iI 0) (iI (-1)) (iI 0) m) := by
  obtain ⟨h1, h2, h3, h4, h5, h6, h7, h8, h9, h10⟩ := id hC
  have hn := okC_n h1
  have hok : ∀ v : Nat, v ≤ 99 → okC (upI C 3 p (v : Int)) := fun v hv => okC_r h1 (by omega)
  have hcn : ∀ v : Int, upI C 3 p v 0 0 = C 0 0 ∧ upI C 3 p v 0 4 = -1 := fun v => by rw [up_k (by omega), up_k (by omega)]; exact ⟨rfl, h2.2⟩
  obtain ⟨⟨⟨a1, b1⟩, x2⟩, ex2, hx2⟩ := loop_up (S := (Int32 × Int32) × Sg) (fun n i v => g_X6_ranks_l38 F N ln (iI (t : Int)) (iI (p : Int)) (iI what) n v.1.1 v.1.2 (iI (99 - (i : Int))) v.2) (fun i v => v.1.1 = iI (cU (fun v => fiS (x (37 + 2 * t)) n (upI C 3 p (v : Int)) (cd lw)) 100 - cU (fun v => fiS (x (37 + 2 * t)) n (upI C 3 p (v : Int)) (cd lw)) (100 - i)) ∧ v.1.2 = iI (lD (fun v => fiS (x (37 + 2 * t)) n (upI C 3 p (v : Int)) (cd lw)) (100 - i) i) ∧ frX x v.2 ∧ (∃ z, courtR (upI C 3 p z) v.2 6) ∧ v.2 6 3 = iI (lw : Int)) 100 (by
    intro f i ⟨⟨a, b⟩, y⟩ hi ⟨i0, i1, i2, ⟨z, i3⟩, i4⟩
    simp only [] at i0 i1 i2 i3 i4 ⊢
    have i5 := courtR_r (Or.inr (Or.inl rfl)) i3 (r := 3) (p := p) (by omega) (v := (99 - (i : Int)))
    rw [up_up] at i5
    have hfr : frX x (st y 9 p (iI (99 - (i : Int)))) := frX_t i2 ⟨fun a ha => st_ne _ _ _ (by omega), st_k (by omega)⟩
    have hv : (99 : Int) - (i : Int) = ((99 - i : Nat) : Int) := by omega
    obtain ⟨y1, ey, fy⟩ := x_fo hC hF (Or.inr (Or.inl rfl)) (hok (99 - i) (by omega)) h3.1 (fcX_f hfr) (by rw [hv] at i5 ⊢; exact i5) (by rw [st_k (by omega)]; exact i4) (by rw [(hcn _).1]; exact hn6) g1
    rw [g_X6_ranks_l38, if_neg (by rw [li_0, iI_lt (by omega) (by omega)]; omega), wrA_i (by omega), rdS_i (by omega), Int.toNat_natCast, Int.toNat_natCast, ey, bnI_s, fo_e (fiS_b (by omega))]
    unfold g_X6_ranks_b79
    refine ⟨((iI (cU (fun v => fiS (x (37 + 2 * t)) n (upI C 3 p (v : Int)) (cd lw)) 100 - cU (fun v => fiS (x (37 + 2 * t)) n (upI C 3 p (v : Int)) (cd lw)) (100 - (i + 1))), iI (lD (fun v => fiS (x (37 + 2 * t)) n (upI C 3 p (v : Int)) (cd lw)) (100 - (i + 1)) (i + 1))), y1), ?_, rfl, rfl, frX_t hfr (frX_s fy), ⟨_, courtR_of i5 (fun a _ _ => fy a (by omega))⟩, by show y1 6 3 = _; rw [fy 6 (by omega)]; rw [st_k (by omega)]; exact i4⟩
    have c1 : cU (fun v => fiS (x (37 + 2 * t)) n (upI C 3 p (v : Int)) (cd lw)) (100 - i) = if fiS (x (37 + 2 * t)) n (upI C 3 p ((99 - i : Nat) : Int)) (cd lw) = -1 then cU (fun v => fiS (x (37 + 2 * t)) n (upI C 3 p (v : Int)) (cd lw)) (99 - i) + 1 else cU (fun v => fiS (x (37 + 2 * t)) n (upI C 3 p (v : Int)) (cd lw)) (99 - i) := by
      rw [show 100 - i = (99 - i) + 1 by omega, cU]
    have c2 : lD (fun v => fiS (x (37 + 2 * t)) n (upI C 3 p (v : Int)) (cd lw)) (99 - i) (i + 1) = if fiS (x (37 + 2 * t)) n (upI C 3 p ((99 - i : Nat) : Int)) (cd lw) = -1 then ((99 - i : Nat) : Int) else lD (fun v => fiS (x (37 + 2 * t)) n (upI C 3 p (v : Int)) (cd lw)) (99 - i + 1) i := by
      rw [lD]
    have t1 : 100 - (i + 1) = 99 - i := by omega
    rw [i0, i1, c1, t1, c2, li_n1, iI_add, show (99 : Int) - (i : Int) + -1 = 99 - ((i + 1 : Nat) : Int) by omega, hv, li_1, iI_add]
    by_cases hf : fiS (x (37 + 2 * t)) n (upI C 3 p ((99 - i : Nat) : Int)) (cd lw) = -1
    · rw [if_pos hf, if_pos hf, if_pos hf]
      congr 2; omega
    · rw [if_neg hf, if_neg hf, if_neg hf, show 99 - i + 1 = 100 - i by omega]) 100 0 ((iI 0, iI (-1)), x1) F rfl ⟨by show iI 0 = _; rw [Nat.sub_zero, Int.sub_self], rfl, hx1, ⟨C 3 p, by rw [up_id]; exact cx⟩, lx⟩ (by omega)
  obtain ⟨w1, hw1⟩ : ∃ q, F - 100 = q + 1 := ⟨F - 101, by omega⟩
  obtain ⟨⟨⟨a2, b2⟩, m2⟩, em2, hm2⟩ := loop_up (S := (Int32 × Int32) × Sg) (fun n i v => g_X7_ranks_l47 F (iI (t : Int)) (iI (p : Int)) (iI what) (iI (C 3 p)) n v.1.1 v.1.2 (iI (i : Int)) v.2) (fun i v => v.1.1 = iI (cU (fun v => fiS (x (37 + 2 * t)) n (upI C 3 p (v : Int)) (cd lw)) i) ∧ v.1.2 = iI (lU (fun v => fiS (x (37 + 2 * t)) n (upI C 3 p (v : Int)) (cd lw)) i) ∧ frZ (fun a j => a = 3 ∧ j = 2 * p) m v.2 ∧ ∃ z, courtM (upI C 3 p z) v.2) 100 (by
    intro f i ⟨⟨a, b⟩, y⟩ hi ⟨i0, i1, i2, z, i3⟩
    simp only [] at i0 i1 i2 i3 ⊢
    have c1 := courtM_r3 i3 (w := 0) (p := p) (by omega) (v := (i : Int))
    rw [up_up] at c1
    have z1 : frZ (fun a j => a = 3 ∧ j = 2 * p) m (st y 3 (2 * p) (iI (i : Int))) := frZ_s i2 (by omega)
    obtain ⟨y1, e, f1⟩ := m_fo hC hF (hok i (by omega)) (hcn _).2 h3.1 (fun j => z1 5 j (by omega) (by omega) (by omega)) (fun j => z1 6 j (by omega) (by omega) (by omega)) c1 (by rw [z1 0 11 (by omega) (by omega) (by omega)]; exact h7) ht (by rw [(hcn _).1]; exact hn6) (by rw [z1 10 t (by omega) (by omega) (by omega)]; exact g2) (w := x (37 + 2 * t)) (fun j hj => by rw [z1 11 _ (by omega) (by omega) (by omega)]; exact g3 j hj)
    have hb := lU_b (fun v => fiS (x (37 + 2 * t)) n (upI C 3 p (v : Int)) (cd lw)) i
    rw [g_X7_ranks_l47, if_neg (by rw [li_99, iI_lt (by omega) (by omega)]; omega), li_2, iI_mul, wrA_i (by omega), show (2 * (p : Int)).toNat = 2 * p by omega, e, bnI_s, fo_e (fiS_b (by omega))]
    unfold g_X7_ranks_b78 g_X7_ranks_b92 g_X7_ranks_b111 g_X7_ranks_b113
    refine ⟨((iI (cU (fun v => fiS (x (37 + 2 * t)) n (upI C 3 p (v : Int)) (cd lw)) (i + 1)), iI (lU (fun v => fiS (x (37 + 2 * t)) n (upI C 3 p (v : Int)) (cd lw)) (i + 1))), y1), ?_, rfl, rfl, frZ_m z1 f1, _, courtM_of c1 f1⟩
    simp only []
    rw [i0, i1, li_n1, show (1 : Int32) = iI 1 from rfl, iI_add, show (i : Int) + 1 = ((i + 1 : Nat) : Int) by omega, cU, lU]
    by_cases hf : fiS (x (37 + 2 * t)) n (upI C 3 p (i : Int)) (cd lw) = -1
    · rw [if_pos hf, if_neg (show ¬ iI 1 = 0 by decide), if_neg (show ¬ iI 1 = 0 by decide), iI_add, if_pos hf, ite_eq (a := lU (fun v => fiS (x (37 + 2 * t)) n (upI C 3 p (v : Int)) (cd lw)) i) (b := -1) (by omega) (by omega)]
      by_cases hl : lU (fun v => fiS (x (37 + 2 * t)) n (upI C 3 p (v : Int)) (cd lw)) i = -1
      · rw [if_pos hl, if_pos ⟨hf, hl⟩]
      · rw [if_neg hl, if_neg (fun q => hl q.2)]
    · rw [if_neg hf, if_pos trivial, if_pos trivial, if_neg hf, Int32.add_zero, if_neg (fun q => hf q.1)]) 100 0 ((iI 0, iI (-1)), m) F rfl ⟨rfl, rfl, frZ_r _ m, C 3 p, by rw [up_id]; exact h6⟩ (by omega)
  obtain ⟨k0, k1, k2, -, -⟩ := hx2
  obtain ⟨k5, k6, k7, -⟩ := hm2
  simp only [] at k0 k1 k2 k5 k6 k7 ex2 em2
  have q1 : cU (fun v => fiS (x (37 + 2 * t)) n (upI C 3 p (v : Int)) (cd lw)) 100 - cU (fun v => fiS (x (37 + 2 * t)) n (upI C 3 p (v : Int)) (cd lw)) (100 - 100) = cU (fun v => fiS (x (37 + 2 * t)) n (upI C 3 p (v : Int)) (cd lw)) 100 := by rw [Nat.sub_self, cU, Int.sub_zero]
  have q2 := lU_D (fun v => fiS (x (37 + 2 * t)) n (upI C 3 p (v : Int)) (cd lw)) 100 0
  rw [lU, if_pos rfl, Nat.zero_add] at q2
  rw [q1] at k0
  rw [Nat.sub_self, q2] at k1
  have ex3 : g_X6_ranks_l38 F N ln (iI (t : Int)) (iI (p : Int)) (iI what) F (iI 0) (iI (-1)) (iI 99) x1 = some (x2, if iI what = 0 then a1 else b1) := by
    refine ex2.trans ?_
    rw [hw1, g_X6_ranks_l38, if_pos (by decide)]
    split <;> rfl
  have em3 : g_X7_ranks_l47 F (iI (t : Int)) (iI (p : Int)) (iI what) (iI (C 3 p)) F (iI 0) (iI (-1)) (iI 0) m = some (st m2 3 (2 * p) (iI (C 3 p)), if iI what = 0 then a2 else b2) := by
    refine em2.trans ?_
    rw [hw1, g_X7_ranks_l47, if_pos (by decide)]
    rw [li_2, iI_mul, wrA_i (by omega), show (2 * (p : Int)).toNat = 2 * p by omega]
    split <;> rfl
  rw [ex3, em3]
  refine go_x h k2 (frZ_y (frZ_s k7 (by omega)) ?_) (by rw [k0, k1, k5, k6])
  rintro a j ⟨rfl, rfl⟩
  rw [st_e, (h6.2.2.2 p hp).2.2.1]
theorem heats_l {F N : Nat} {ln : Nat → Nat} (hF : 300 ≤ F) {x m : Sg} (h : Rel N ln x m) {C : CD} {lw : Nat} {cd : Nat → Nat → List Int} (hC : RelC C lw cd N ln x m) {t n : Nat} (ht : t < 4) (hn6 : (n : Int) ≤ C 0 0) (g1 : x (36 + 2 * t) 1 = iI (n : Int)) (g2 : m 10 t = iI (n : Int)) (g3 : ∀ i, i < 40 → x (37 + 2 * t) i = m 11 (40 * t + i)) {what : Int} {x1 : Sg} (hx1 : frX x x1) (cx : courtR C x1 6) (lx : x1 6 3 = iI (lw : Int)) : Go N ln (g_X6_heats_l45 F N ln (iI (t : Int)) (iI what) F (iI 0) (iI (-1)) (iI 99) x1) (g_X7_heats_l39 F (iI (t : Int)) (iI what) (iI (C 0 2)) F (iI 0) (iI (-1)) (iI 0) m) := by
  obtain ⟨h1, h2, h3, h4, h5, h6, h7, h8, h9, h10⟩ := id hC
  have hn := okC_n h1
  have hok : ∀ v : Nat, v ≤ 99 → okC (upI C 0 2 (v : Int)) := fun v hv => okC_2 h1 (by omega)
  have hcn : ∀ v : Int, upI C 0 2 v 0 0 = C 0 0 ∧ upI C 0 2 v 0 4 = -1 := fun v => by rw [up_j (by omega), up_j (by omega)]; exact ⟨rfl, h2.2⟩
  obtain ⟨⟨⟨a1, b1⟩, x2⟩, ex2, hx2⟩ := loop_up (S := (Int32 × Int32) × Sg) (fun n i v => g_X6_heats_l45 F N ln (iI (t : Int)) (iI what) n v.1.1 v.1.2 (iI (99 - (i : Int))) v.2) (fun i v => v.1.1 = iI (cU (fun v => fiS (x (37 + 2 * t)) n (upI C 0 2 (v : Int)) (cd lw)) 100 - cU (fun v => fiS (x (37 + 2 * t)) n (upI C 0 2 (v : Int)) (cd lw)) (100 - i)) ∧ v.1.2 = iI (lD (fun v => fiS (x (37 + 2 * t)) n (upI C 0 2 (v : Int)) (cd lw)) (100 - i) i) ∧ frX x v.2 ∧ (∃ z, courtR (upI C 0 2 z) v.2 6) ∧ v.2 6 3 = iI (lw : Int)) 100 (by
    intro f i ⟨⟨a, b⟩, y⟩ hi ⟨i0, i1, i2, ⟨z, i3⟩, i4⟩
    simp only [] at i0 i1 i2 i3 i4 ⊢
    have i5 := courtR_h i3 (v := (99 - (i : Int)))
    rw [up_up] at i5
    have hfr : frX x (st y 6 2 (iI (99 - (i : Int)))) := frX_t i2 ⟨fun a ha => st_ne _ _ _ (by omega), st_k (by omega)⟩
    have hv : (99 : Int) - (i : Int) = ((99 - i : Nat) : Int) := by omega
    obtain ⟨y1, ey, fy⟩ := x_fo hC hF (Or.inr (Or.inl rfl)) (hok (99 - i) (by omega)) h3.1 (fcX_f hfr) (by rw [hv] at i5 ⊢; exact i5) (by rw [st_j (by omega)]; exact i4) (by rw [(hcn _).1]; exact hn6) g1
    rw [g_X6_heats_l45, if_neg (by rw [li_0, iI_lt (by omega) (by omega)]; omega), wrF_i, rdS_i (by omega), Int.toNat_natCast, ey, bnI_s, fo_e (fiS_b (by omega))]
    unfold g_X6_heats_b84
    refine ⟨((iI (cU (fun v => fiS (x (37 + 2 * t)) n (upI C 0 2 (v : Int)) (cd lw)) 100 - cU (fun v => fiS (x (37 + 2 * t)) n (upI C 0 2 (v : Int)) (cd lw)) (100 - (i + 1))), iI (lD (fun v => fiS (x (37 + 2 * t)) n (upI C 0 2 (v : Int)) (cd lw)) (100 - (i + 1)) (i + 1))), y1), ?_, rfl, rfl, frX_t hfr (frX_s fy), ⟨_, courtR_of i5 (fun a _ _ => fy a (by omega))⟩, by show y1 6 3 = _; rw [fy 6 (by omega)]; rw [st_j (by omega)]; exact i4⟩
    have c1 : cU (fun v => fiS (x (37 + 2 * t)) n (upI C 0 2 (v : Int)) (cd lw)) (100 - i) = if fiS (x (37 + 2 * t)) n (upI C 0 2 ((99 - i : Nat) : Int)) (cd lw) = -1 then cU (fun v => fiS (x (37 + 2 * t)) n (upI C 0 2 (v : Int)) (cd lw)) (99 - i) + 1 else cU (fun v => fiS (x (37 + 2 * t)) n (upI C 0 2 (v : Int)) (cd lw)) (99 - i) := by
      rw [show 100 - i = (99 - i) + 1 by omega, cU]
    have c2 : lD (fun v => fiS (x (37 + 2 * t)) n (upI C 0 2 (v : Int)) (cd lw)) (99 - i) (i + 1) = if fiS (x (37 + 2 * t)) n (upI C 0 2 ((99 - i : Nat) : Int)) (cd lw) = -1 then ((99 - i : Nat) : Int) else lD (fun v => fiS (x (37 + 2 * t)) n (upI C 0 2 (v : Int)) (cd lw)) (99 - i + 1) i := by
      rw [lD]
    have t1 : 100 - (i + 1) = 99 - i := by omega
    rw [i0, i1, c1, t1, c2, li_n1, iI_add, show (99 : Int) - (i : Int) + -1 = 99 - ((i + 1 : Nat) : Int) by omega, hv, li_1, iI_add]
    by_cases hf : fiS (x (37 + 2 * t)) n (upI C 0 2 ((99 - i : Nat) : Int)) (cd lw) = -1
    · rw [if_pos hf, if_pos hf, if_pos hf]
      congr 2; omega
    · rw [if_neg hf, if_neg hf, if_neg hf, show 99 - i + 1 = 100 - i by omega]) 100 0 ((iI 0, iI (-1)), x1) F rfl ⟨by show iI 0 = _; rw [Nat.sub_zero, Int.sub_self], rfl, hx1, ⟨C 0 2, by rw [up_id]; exact cx⟩, lx⟩ (by omega)
  obtain ⟨w1, hw1⟩ : ∃ q, F - 100 = q + 1 := ⟨F - 101, by omega⟩
  obtain ⟨⟨⟨a2, b2⟩, m2⟩, em2, hm2⟩ := loop_up (S := (Int32 × Int32) × Sg) (fun n i v => g_X7_heats_l39 F (iI (t : Int)) (iI what) (iI (C 0 2)) n v.1.1 v.1.2 (iI (i : Int)) v.2) (fun i v => v.1.1 = iI (cU (fun v => fiS (x (37 + 2 * t)) n (upI C 0 2 (v : Int)) (cd lw)) i) ∧ v.1.2 = iI (lU (fun v => fiS (x (37 + 2 * t)) n (upI C 0 2 (v : Int)) (cd lw)) i) ∧ frZ (fun a j => a = 0 ∧ j = 5) m v.2 ∧ ∃ z, courtM (upI C 0 2 z) v.2) 100 (by
    intro f i ⟨⟨a, b⟩, y⟩ hi ⟨i0, i1, i2, z, i3⟩
    simp only [] at i0 i1 i2 i3 ⊢
    have c1 := courtM_2 i3 (v := (i : Int))
    rw [up_up] at c1
    have z1 : frZ (fun a j => a = 0 ∧ j = 5) m (st y 0 5 (iI (i : Int))) := frZ_s i2 (by omega)
    obtain ⟨y1, e, f1⟩ := m_fo hC hF (hok i (by omega)) (hcn _).2 h3.1 (fun j => z1 5 j (by omega) (by omega) (by omega)) (fun j => z1 6 j (by omega) (by omega) (by omega)) c1 (by rw [z1 0 11 (by omega) (by omega) (by omega)]; exact h7) ht (by rw [(hcn _).1]; exact hn6) (by rw [z1 10 t (by omega) (by omega) (by omega)]; exact g2) (w := x (37 + 2 * t)) (fun j hj => by rw [z1 11 _ (by omega) (by omega) (by omega)]; exact g3 j hj)
    have hb := lU_b (fun v => fiS (x (37 + 2 * t)) n (upI C 0 2 (v : Int)) (cd lw)) i
    rw [g_X7_heats_l39, if_neg (by rw [li_99, iI_lt (by omega) (by omega)]; omega), wrF_i, e, bnI_s, fo_e (fiS_b (by omega))]
    unfold g_X7_heats_b66 g_X7_heats_b80 g_X7_heats_b99 g_X7_heats_b101
    refine ⟨((iI (cU (fun v => fiS (x (37 + 2 * t)) n (upI C 0 2 (v : Int)) (cd lw)) (i + 1)), iI (lU (fun v => fiS (x (37 + 2 * t)) n (upI C 0 2 (v : Int)) (cd lw)) (i + 1))), y1), ?_, rfl, rfl, frZ_m z1 f1, _, courtM_of c1 f1⟩
    simp only []
    rw [i0, i1, li_n1, show (1 : Int32) = iI 1 from rfl, iI_add, show (i : Int) + 1 = ((i + 1 : Nat) : Int) by omega, cU, lU]
    by_cases hf : fiS (x (37 + 2 * t)) n (upI C 0 2 (i : Int)) (cd lw) = -1
    · rw [if_pos hf, if_neg (show ¬ iI 1 = 0 by decide), if_neg (show ¬ iI 1 = 0 by decide), iI_add, if_pos hf, ite_eq (a := lU (fun v => fiS (x (37 + 2 * t)) n (upI C 0 2 (v : Int)) (cd lw)) i) (b := -1) (by omega) (by omega)]
      by_cases hl : lU (fun v => fiS (x (37 + 2 * t)) n (upI C 0 2 (v : Int)) (cd lw)) i = -1
      · rw [if_pos hl, if_pos ⟨hf, hl⟩]
      · rw [if_neg hl, if_neg (fun q => hl q.2)]
    · rw [if_neg hf, if_pos trivial, if_pos trivial, if_neg hf, Int32.add_zero, if_neg (fun q => hf q.1)]) 100 0 ((iI 0, iI (-1)), m) F rfl ⟨rfl, rfl, frZ_r _ m, C 0 2, by rw [up_id]; exact h6⟩ (by omega)
  obtain ⟨k0, k1, k2, -, -⟩ := hx2
  obtain ⟨k5, k6, k7, -⟩ := hm2
  simp only [] at k0 k1 k2 k5 k6 k7 ex2 em2
  have q1 : cU (fun v => fiS (x (37 + 2 * t)) n (upI C 0 2 (v : Int)) (cd lw)) 100 - cU (fun v => fiS (x (37 + 2 * t)) n (upI C 0 2 (v : Int)) (cd lw)) (100 - 100) = cU (fun v => fiS (x (37 + 2 * t)) n (upI C 0 2 (v : Int)) (cd lw)) 100 := by rw [Nat.sub_self, cU, Int.sub_zero]
  have q2 := lU_D (fun v => fiS (x (37 + 2 * t)) n (upI C 0 2 (v : Int)) (cd lw)) 100 0
  rw [lU, if_pos rfl, Nat.zero_add] at q2
  rw [q1] at k0
  rw [Nat.sub_self, q2] at k1
  have ex3 : g_X6_heats_l45 F N ln (iI (t : Int)) (iI what) F (iI 0) (iI (-1)) (iI 99) x1 = some (x2, if iI what = 0 then a1 else b1) := by
    refine ex2.trans ?_
    rw [hw1, g_X6_heats_l45, if_pos (by decide)]
    split <;> rfl
  have em3 : g_X7_heats_l39 F (iI (t : Int)) (iI what) (iI (C 0 2)) F (iI 0) (iI (-1)) (iI 0) m = some (st m2 0 5 (iI (C 0 2)), if iI what = 0 then a2 else b2) := by
    refine em2.trans ?_
    rw [hw1, g_X7_heats_l39, if_pos (by decide)]
    rw [wrF_i]
    split <;> rfl
  rw [ex3, em3]
  refine go_x h k2 (frZ_y (frZ_s k7 (by omega)) ?_) (by rw [k0, k1, k5, k6])
  rintro a j ⟨rfl, rfl⟩
  rw [st_e, h6.2.2.1]
theorem k_ranks {F N : Nat} {ln : Nat → Nat} (hF : 300 ≤ F) {x m : Sg} (h : Rel N ln x m) (a b c : Int32) : Go N ln (g_X6_ranks F N ln a b c x) (g_X7_ranks F a b c m) := by
  obtain ⟨C, lw, cd, hC, hT, hI, hS, hW⟩ := id h
  obtain ⟨h1, h2, h3, h4, h5, h6, h7, h8, h9, h10⟩ := id hC
  obtain ⟨za, ha, rfl⟩ := iI_ex a
  obtain ⟨zb, hb, rfl⟩ := iI_ex b
  obtain ⟨zc, hc, rfl⟩ := iI_ex c
  have hn := okC_n h1
  obtain ⟨r, q, hr, hq, e1, e2, n1, n2⟩ := ref_o (F := F) (N := N) (ln := ln) h1 hS h4.1 h6.1 ha hb hc
  unfold g_X6_ranks g_X7_ranks
  rw [e1, e2, bnI_s, bnI_s, li_0, ite_le (a := 0) (b := r) (by omega) (by omega), ite_eq (a := q) (b := 0) (by omega) (by omega)]
  by_cases q0 : q = 0
  · obtain ⟨n3, n4, t, n, rfl, ht, hn6, g1, g2, g3⟩ := n2 q0
    rw [if_pos q0, show g_X7_in F (iI zc) (iI 0) 1 m = _ from m_in (b := 0) (c := 1) hc (by omega) (by omega), bnI_s]
    by_cases w : 0 ≤ zc ∧ zc ≤ 1
    · rw [if_pos w] at n3
      obtain ⟨p, rfl⟩ : ∃ n : Nat, zb = n := ⟨zb.toNat, by omega⟩
      have hp : p < cN C := by omega
      rw [if_pos w, if_neg (show ¬ (1 : Int32) = iI 0 by decide), if_pos (by omega), li_2, iI_mul, rdA_i (by omega), show (2 * (p : Int)).toNat = 2 * p by omega, (h6.2.2.2 p hp).2.2.1]
      obtain ⟨x1, ex, fx, cx, lx⟩ := x_take (F := F) (N := N) (ln := ln) (by omega) (k := 6) (k2 := 1) (Or.inr (Or.inl rfl)) (Or.inl rfl) (by omega) x
      rw [ex, bnV_s]
      exact ranks_l hF h hC hp ht hn6 g1 g2 g3 ⟨fun a ha => fx a (by omega), by rw [fx 30 (by omega)]⟩ (cx C h1 h4) (lx.trans h5)
    · rw [if_neg w] at n3
      rw [if_neg w, if_pos (show (0 : Int32) = iI 0 from rfl), if_neg (by omega), n3]; exact go_0 h
  · have := n1 q0
    rw [if_neg q0, if_neg (by omega), this]; exact go_0 h
theorem k_heats {F N : Nat} {ln : Nat → Nat} (hF : 300 ≤ F) {x m : Sg} (h : Rel N ln x m) (a b : Int32) : Go N ln (g_X6_heats F N ln a b x) (g_X7_heats F a b m) := by
  obtain ⟨C, lw, cd, hC, hT, hI, hS, hW⟩ := id h
  obtain ⟨h1, h2, h3, h4, h5, h6, h7, h8, h9, h10⟩ := id hC
  obtain ⟨za, ha, rfl⟩ := iI_ex a
  obtain ⟨zc, hc, rfl⟩ := iI_ex b
  obtain ⟨r, hr, e1, e2, hz⟩ := ref_t (F := F) (N := N) (ln := ln) h1 hS h4.1 h6.1 ha
  unfold g_X6_heats g_X7_heats
  rw [e1, e2, bnI_s, bnI_s, ite_le0 (b := r) (by omega), ite_eq0 (b := r) (by omega)]
  by_cases r0 : r = 0
  · rw [if_pos (by omega), if_pos r0, x_in, y_in, bnI_s, bnI_s, if01, if01]
    refine go_if Iff.rfl (fun w => ?_) fun _ => go_0 h
    obtain ⟨t, n, rfl, ht, hn6, g1, g2, g3⟩ := hz r0
    obtain ⟨x1, ex, fx, cx, lx⟩ := x_take (F := F) (N := N) (ln := ln) (by omega) (k := 6) (k2 := 1) (Or.inr (Or.inl rfl)) (Or.inl rfl) (by omega) x
    rw [ex, bnV_s, h6.2.2.1]
    exact heats_l hF h hC ht hn6 g1 g2 g3 ⟨fun a ha => fx a (by omega), by rw [fx 30 (by omega)]⟩ (cx C h1 h4) (lx.trans h5)
  · rw [if_neg (by omega), if_neg r0]; exact go_0 h
theorem k_laws {F N : Nat} {ln : Nat → Nat} (hF : 300 ≤ F) {x m : Sg} (h : Rel N ln x m) (a : Int32) : Go N ln (g_X6_laws F N ln a x) (g_X7_laws F a m) := by
  obtain ⟨C, lw, cd, hC, hT, hI, hS, hW⟩ := id h
  obtain ⟨h1, h2, h3, h4, h5, h6, h7, h8, h9, h10⟩ := id hC
  obtain ⟨za, ha, rfl⟩ := iI_ex a
  obtain ⟨r, hr, e1, e2, hz⟩ := ref_t (F := F) (N := N) (ln := ln) h1 hS h4.1 h6.1 ha
  have hb := h1.1
  unfold g_X6_laws g_X7_laws
  rw [e1, e2, bnI_s, bnI_s, ite_le0 (b := r) (by omega), ite_eq0 (b := r) (by omega)]
  by_cases r0 : r = 0
  · rw [if_pos (by omega), if_pos r0]
    obtain ⟨t, n, rfl, ht, hn6, g1, g2, g3⟩ := hz r0
    obtain ⟨x1, ex, fx, cx, lx⟩ := x_take (F := F) (N := N) (ln := ln) (by omega) (k := 6) (k2 := 1) (Or.inr (Or.inl rfl)) (Or.inl rfl) (by omega) x
    rw [ex, bnV_s, h7]
    have hx1 : frX x x1 := ⟨fun a ha => fx a (by omega), by rw [fx 30 (by omega)]⟩
    obtain ⟨⟨acc, x2⟩, ex2, ha2, hx2, -⟩ := loop_up (S := Int32 × Sg) (fun n i v => g_X6_laws_l28 F N ln (iI (t : Int)) n v.1 (iI (i : Int)) v.2) (fun i v => v.1 = btS (fun v => fiS (x (37 + 2 * t)) n C (cd v)) i ∧ frX x v.2 ∧ courtR C v.2 6) N (by
      intro f i ⟨acc, y⟩ hi ⟨i1, i2, i3⟩
      simp only [] at i1 i2 i3 ⊢
      have i5 : courtR C (st y 6 3 (iI (i : Int))) 6 := by
        obtain ⟨a, b, c, d, e⟩ := i3
        exact ⟨by rw [st_j (by omega)]; exact a, by rw [st_j (by omega)]; exact b, by rw [st_j (by omega)]; exact c, by rw [st_j (by omega)]; exact d, fun p hp => by rw [st_k (by omega), st_k (by omega), st_k (by omega), st_k (by omega)]; exact e p hp⟩
      have hfr : frX x (st y 6 3 (iI (i : Int))) := frX_t i2 ⟨fun a ha => st_ne _ _ _ (by omega), st_k (by omega)⟩
      obtain ⟨y1, ey, fy⟩ := x_fo hC hF (Or.inr (Or.inl rfl)) h1 (t := i) hi (fcX_f hfr) i5 st_e hn6 g1
      rw [g_X6_laws_l28, i2.1 0 (by omega), h8, if_neg (by rw [iI_le (by omega) (by omega)]; omega), wrF_i, rdS_i (by omega), Int.toNat_natCast, ey, bnI_s, fo_e (fiS_b (by omega))]
      unfold g_X6_laws_b71
      refine ⟨(btS (fun v => fiS (x (37 + 2 * t)) n C (cd v)) (i + 1), y1), ?_, rfl, frX_t hfr (frX_s fy), courtR_of i5 (fun a _ _ => fy a (by omega))⟩
      rw [btS, li_1, iI_add, show (i : Int) + 1 = ((i + 1 : Nat) : Int) by omega, i1]
      by_cases hf : fiS (x (37 + 2 * t)) n C (cd i) = -1
      · rw [if_pos hf, if_pos hf]
      · rw [if_neg hf, if_neg hf]) N 0 (iI 0, x1) F (by omega) ⟨rfl, hx1, cx C h1 h4⟩ (by omega)
    obtain ⟨w1, hw1⟩ : ∃ q, F - N = q + 1 := ⟨F - N - 1, by omega⟩
    have ex3 : g_X6_laws_l28 F N ln (iI (t : Int)) F 0 0 x1 = some (x2, acc) := by
      refine ex2.trans ?_
      simp only [hw1] at hx2 ⊢
      rw [g_X6_laws_l28, hx2.1 0 (by omega), h8, if_pos (by rw [iI_le (by omega) (by omega)]; omega)]
    obtain ⟨⟨acc', m2⟩, em2, ha2', hm2, -⟩ := loop_up (S := Int32 × Sg) (fun n i v => g_X7_laws_l23 F (iI (t : Int)) (iI (lw : Int)) n v.1 (iI (i : Int)) v.2) (fun i v => v.1 = btS (fun v => fiS (x (37 + 2 * t)) n C (cd v)) i ∧ frZ (fun a j => a = 0 ∧ j = 11) m v.2 ∧ courtM C v.2) N (by
      intro f i ⟨acc, y⟩ hi ⟨i1, i2, i3⟩
      simp only [] at i1 i2 i3 ⊢
      have c1 : courtM C (st y 0 11 (iI (i : Int))) := by
        obtain ⟨a, b, c, e⟩ := i3
        exact ⟨by rw [st_j (by omega)]; exact a, by rw [st_j (by omega)]; exact b, by rw [st_j (by omega)]; exact c, fun p hp => by rw [st_k (by omega), st_k (by omega), st_k (by omega), st_k (by omega)]; exact e p hp⟩
      have z1 : frZ (fun a j => a = 0 ∧ j = 11) m (st y 0 11 (iI (i : Int))) := frZ_s i2 ⟨rfl, rfl⟩
      obtain ⟨y1, e, f1⟩ := m_fo hC hF h1 h2.2 (t := i) hi (fun j => z1 5 j (by omega) (by omega) (by omega)) (fun j => z1 6 j (by omega) (by omega) (by omega)) c1 st_e ht hn6 (by rw [z1 10 t (by omega) (by omega) (by omega)]; exact g2) (w := x (37 + 2 * t)) (fun j hj => by rw [z1 11 _ (by omega) (by omega) (by omega)]; exact g3 j hj)
      rw [g_X7_laws_l23, i2 0 10 (by omega) (by omega) (by omega), h9, if_neg (by rw [iI_le (by omega) (by omega)]; omega), wrF_i, e, bnI_s, fo_e (fiS_b (by omega))]
      unfold g_X7_laws_b57
      refine ⟨(btS (fun v => fiS (x (37 + 2 * t)) n C (cd v)) (i + 1), y1), ?_, rfl, frZ_m z1 f1, courtM_of c1 f1⟩
      rw [btS, li_1, iI_add, show (i : Int) + 1 = ((i + 1 : Nat) : Int) by omega, i1]
      by_cases hf : fiS (x (37 + 2 * t)) n C (cd i) = -1
      · rw [if_pos hf, if_pos hf]
      · rw [if_neg hf, if_neg hf, Int32.or_zero]) N 0 (iI 0, m) F (by omega) ⟨rfl, frZ_r _ m, h6⟩ (by omega)
    have em3 : g_X7_laws_l23 F (iI (t : Int)) (iI (lw : Int)) F 0 0 m = some (st m2 0 11 (iI (lw : Int)), acc') := by
      refine em2.trans ?_
      simp only [hw1] at hm2 ⊢
      rw [g_X7_laws_l23, hm2 0 10 (by omega) (by omega) (by omega), h9, if_pos (by rw [iI_le (by omega) (by omega)]; omega), wrF_i]
    simp only [] at ha2 ha2' hx2 hm2
    rw [ex3, em3]
    refine go_x h hx2 (frZ_y (frZ_s hm2 ⟨rfl, rfl⟩) ?_) (ha2.trans ha2'.symm)
    rintro a j ⟨rfl, rfl⟩
    rw [st_e, h7]
  · rw [if_neg (by omega), if_neg r0]; exact go_0 h
