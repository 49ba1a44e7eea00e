/-! what is best -/
theorem evn_b {C : CD} (hC : okC C) (T : TX) : -54 ≤ evn C T 0 0 ∧ evn C T 0 0 ≤ 1188 := by
  obtain ⟨b, hb, h1, h2, h3, h4, h5, h6⟩ := evn_ok hC T
  have := stdS_len C
  have := okC_n hC
  omega
/-- of all that is weighed, what has the least; of like ones the first -/
def wgS (s : Int × Int) (a b : Int) : Int × Int := if b < s.2 then (a, b) else s
def bcS (f g : Nat → Int) : Nat → Int × Int
  | 0 => (0, 1000000)
  | i + 1 => wgS (bcS f g i) (g i) (f i)
/-- the reference's, which begins with none -/
def mdS (f g : Nat → Int) (i : Nat) : Int × Int := if i = 0 then (-1, 0) else bcS f g i
theorem bcS_b {f g : Nat → Int} {n : Nat} (hf : ∀ i, i < n → -1000 ≤ f i ∧ f i ≤ 2000) (hg : ∀ i, i < n → 0 ≤ g i ∧ g i ≤ 1000000) : ∀ i, i ≤ n → (0 ≤ (bcS f g i).1 ∧ (bcS f g i).1 ≤ 1000000) ∧ (-1000 ≤ (bcS f g i).2 ∧ (bcS f g i).2 ≤ 1000000) ∧ (0 < i → (bcS f g i).2 ≤ 2000)
  | 0, _ => ⟨by simp [bcS], by simp [bcS], fun h => absurd h (by omega)⟩
  | i + 1, hi => by
    have ih := bcS_b hf hg i (by omega)
    have h1 := hf i (by omega)
    have h2 := hg i (by omega)
    unfold bcS wgS
    split
    · exact ⟨h2, by simp only []; omega, fun _ => h1.2⟩
    · rename_i h
      exact ⟨ih.1, ih.2.1, fun _ => by omega⟩
theorem mdS_s {f g : Nat → Int} {n : Nat} (hf : ∀ i, i < n → -1000 ≤ f i ∧ f i ≤ 2000) (hg : ∀ i, i < n → 0 ≤ g i ∧ g i ≤ 1000000) {i : Nat} (hi : i < n) : mdS f g (i + 1) = if (mdS f g i).1 = -1 ∨ f i < (mdS f g i).2 then (g i, f i) else mdS f g i := by
  have h1 := hf i hi
  unfold mdS
  rw [if_neg (by omega)]
  by_cases h : i = 0
  · subst h
    rw [if_pos rfl, if_pos (Or.inl rfl)]
    unfold bcS wgS
    rw [if_pos]
    show f 0 < 1000000
    omega
  · rw [if_neg h, bcS, wgS]
    have ih := (bcS_b hf hg i (by omega)).1
    by_cases h2 : f i < (bcS f g i).2
    · rw [if_pos h2, if_pos (Or.inr h2)]
    · rw [if_neg h2, if_neg]
      rintro (q | q)
      · omega
      · exact h2 q
theorem mdS_b {f g : Nat → Int} {n : Nat} (hf : ∀ i, i < n → -1000 ≤ f i ∧ f i ≤ 2000) (hg : ∀ i, i < n → 0 ≤ g i ∧ g i ≤ 1000000) {i : Nat} (hi : i ≤ n) : (-1 ≤ (mdS f g i).1 ∧ (mdS f g i).1 ≤ 1000000) ∧ (-1000 ≤ (mdS f g i).2 ∧ (mdS f g i).2 ≤ 2000) := by
  unfold mdS
  split
  · simp
  · have := bcS_b hf hg i hi
    omega
theorem mdS_h {f g : Nat → Int} : mdS f g 100 = bcS f g 100 := if_neg (by decide)
theorem x_weigh {F N : Nat} {ln : Nat → Nat} {σ : Sg} {s : Int × Int} {a b : Int} (h0 : σ 25 0 = iI s.1) (h1 : σ 25 1 = iI s.2) (hs : -2147483648 ≤ s.2 ∧ s.2 < 2147483648) (hb : -2147483648 ≤ b ∧ b < 2147483648) : ∃ σ', g_X0_weigh F N ln (iI a) (iI b) σ = some σ' ∧ (∀ k, k ≠ 25 → σ' k = σ k) ∧ σ' 25 0 = iI (wgS s a b).1 ∧ σ' 25 1 = iI (wgS s a b).2 := by
  unfold g_X0_weigh g_X0_begin wgS
  rw [h1, ite_le hs hb]
  by_cases h : b < s.2
  · rw [if_neg (by omega), if_pos h, wrF_i, wrF_i, bnV_s]
    exact ⟨_, rfl, fun k hk => by rw [st_ne _ _ _ hk, st_ne _ _ _ hk], by rw [st_j (by omega), st_e], st_e⟩
  · rw [if_pos (by omega), if_neg h]
    exact ⟨σ, rfl, fun _ _ => rfl, h0, h1⟩
theorem x_bgn {F N : Nat} {ln : Nat → Nat} {σ : Sg} {a b : Int32} : ∃ σ', g_X0_begin F N ln a b σ = some σ' ∧ (∀ k, k ≠ 25 → σ' k = σ k) ∧ σ' 25 0 = a ∧ σ' 25 1 = b := by
  unfold g_X0_begin
  rw [wrF_i, wrF_i]
  exact ⟨_, rfl, fun k hk => by rw [st_ne _ _ _ hk, st_ne _ _ _ hk], by rw [st_j (by omega), st_e], st_e⟩
theorem x_ans {F N : Nat} {ln : Nat → Nat} {σ : Sg} {a w l : Int32} (h0 : σ 25 0 = w) (h1 : σ 25 1 = l) : g_X0_answer F N ln a σ = some (σ, if a = 0 then w else l) := by
  unfold g_X0_answer
  rw [h0, h1]
  split <;> rfl
theorem frX_25 {x y : Sg} (h : ∀ a, a ≠ 25 → y a = x a) : frX x y := ⟨fun a ha => h a (by omega), by rw [h 30 (by omega)]⟩
theorem k_cook {F N : Nat} {ln : Nat → Nat} (hF : 300 ≤ F) {x m : Sg} (h : Rel N ln x m) (a : Int32) : Go N ln (g_X6_cook F N ln a x) (g_X7_cook F a m) := by
  obtain ⟨C, lw, cd, hC, hT, hI, hS, hW⟩ := id h
  obtain ⟨h1, h2, h3, h4, h5, h6, h7, h8, h9, h10⟩ := id hC
  unfold g_X6_cook g_X7_cook
  rw [x_in, y_in, bnI_s, bnI_s, if01, if01]
  refine go_if Iff.rfl (fun _ => ?_) fun _ => go_0 h
  obtain ⟨x1, ex, fx, cx, lx⟩ := x_take (F := F) (N := N) (ln := ln) (by omega) (k := 6) (k2 := 1) (Or.inr (Or.inl rfl)) (Or.inl rfl) (by omega) x
  obtain ⟨x2, ex2, fx2, b0, b1⟩ := x_bgn (F := F) (N := N) (ln := ln) (σ := x1) (a := 0) (b := 1000000)
  rw [ex, bnV_s, ex2, bnV_s, h6.2.2.1]
  have hx1 : frX x x2 := frX_t ⟨fun a ha => fx a (by omega), by rw [fx 30 (by omega)]⟩ (frX_25 fx2)
  have hok : ∀ v : Nat, v < 100 → okC (upI C 0 2 (v : Int)) := fun v hv => okC_2 h1 (by omega)
  have hcn : ∀ v : Int, upI C 0 2 v 0 0 = C 0 0 ∧ upI C 0 2 v 0 4 = -1 := fun v => by rw [up_j (by omega), up_j (by omega)]; exact ⟨rfl, h2.2⟩
  let f : Nat → Int := fun v => evn (upI C 0 2 (v : Int)) (Tof (cd lw)) 0 0
  have hf : ∀ i, i < 100 → -1000 ≤ f i ∧ f i ≤ 2000 := fun i hi => by have := evn_b (hok i hi) (Tof (cd lw)); show -1000 ≤ evn (upI C 0 2 (i : Int)) (Tof (cd lw)) 0 0 ∧ evn (upI C 0 2 (i : Int)) (Tof (cd lw)) 0 0 ≤ 2000; omega
  have hg : ∀ i, i < 100 → 0 ≤ (fun i : Nat => (i : Int)) i ∧ (fun i : Nat => (i : Int)) i ≤ 1000000 := fun i hi => by simp only []; omega
  obtain ⟨x3, ex3, hx3⟩ := loop_up (fun n i s => g_X6_cook_l35 F N ln a n (iI (i : Int)) s) (fun i s => frX x s ∧ (∃ z, courtR (upI C 0 2 z) s 6) ∧ s 6 3 = iI (lw : Int) ∧ s 25 0 = iI (bcS f (fun i => (i : Int)) i).1 ∧ s 25 1 = iI (bcS f (fun i => (i : Int)) i).2) 100 (by
    intro n i y hi ⟨i2, ⟨z, i3⟩, i4, i5, i6⟩
    have c1 := courtR_h i3 (v := (i : Int))
    rw [up_up] at c1
    have hfr : frX x (st y 6 2 (iI (i : Int))) := frX_t i2 ⟨fun a ha => st_ne _ _ _ (by omega), st_k (by omega)⟩
    obtain ⟨y1, ey, fy, ry⟩ := x_srv hC hF (Or.inr (Or.inl rfl)) (hok i (by omega)) h3.1 (fcX_f hfr) c1 (by rw [st_j (by omega)]; exact i4)
    have bb := bcS_b hf hg i (by omega)
    have bf := hf i hi
    obtain ⟨y2, ey2, fy2, w0, w1⟩ := x_weigh (F := F) (N := N) (ln := ln) (σ := y1) (s := bcS f (fun i => (i : Int)) i) (a := i) (b := f i) (by rw [fy 25 (by omega), st_k (by omega)]; exact i5) (by rw [fy 25 (by omega), st_k (by omega)]; exact i6) (by omega) (by omega)
    rw [g_X6_cook_l35, if_neg (by rw [li_99, iI_lt (by omega) (by omega)]; omega), wrF_i, ey, bnI_s, ey2, bnV_s, li_1, iI_add]
    refine ⟨y2, by rw [show ((i + 1 : Nat) : Int) = (i : Int) + 1 by omega], frX_t (frX_t hfr (frX_s fy)) (frX_25 fy2), ⟨_, courtR_of c1 (fun a _ _ => by rw [fy2 a (by omega), fy a (by omega)])⟩, by rw [fy2 6 (by omega), fy 6 (by omega), st_j (by omega)]; exact i4, w0, w1⟩) 100 0 x2 F rfl ⟨hx1, ⟨C 0 2, by rw [up_id]; exact courtR_of (cx C h1 h4) (fun a _ _ => fx2 a (by omega))⟩, by rw [fx2 6 (by omega)]; exact lx.trans h5, b0, b1⟩ (by omega)
  obtain ⟨⟨⟨w, l⟩, m2⟩, em2, hm2⟩ := loop_up (S := (Int32 × Int32) × Sg) (fun n i v => g_X7_cook_l25 F a (iI (C 0 2)) n v.1.1 v.1.2 (iI (i : Int)) v.2) (fun i v => v.1.1 = iI (mdS f (fun i => (i : Int)) i).1 ∧ v.1.2 = iI (mdS f (fun i => (i : Int)) i).2 ∧ frZ (fun a j => a = 0 ∧ j = 5) m v.2 ∧ ∃ z, courtM (upI C 0 2 z) v.2) 100 (by
    intro n i ⟨⟨w, l⟩, y⟩ hi ⟨i0, i1, i2, z, i3⟩
    simp only [] at i0 i1 i2 i3 ⊢
    have c1 := courtM_2 i3 (v := (i : Int))
    rw [up_up] at c1
    have z1 : frZ (fun a j => a = 0 ∧ j = 5) m (st y 0 5 (iI (i : Int))) := frZ_s i2 ⟨rfl, rfl⟩
    obtain ⟨y1, e, f1, r1⟩ := m_now hC hF (hok i (by omega)) (hcn _).2 h3.1 (fun j => z1 5 j (by omega) (by omega) (by omega)) (fun j => z1 6 j (by omega) (by omega) (by omega)) c1 (by rw [z1 0 11 (by omega) (by omega) (by omega)]; exact h7)
    have bb := mdS_b hf hg (i := i) (by omega)
    have bf := hf i hi
    have hs := mdS_s hf hg hi
    have ef : evn (upI C 0 2 (i : Int)) (Tof (cd lw)) 0 0 = f i := rfl
    refine ⟨((iI (mdS f (fun i => (i : Int)) (i + 1)).1, iI (mdS f (fun i => (i : Int)) (i + 1)).2), y1), ?_, rfl, rfl, frZ_m z1 f1, _, courtM_of c1 f1⟩
    simp only []
    rw [g_X7_cook_l25, if_neg (by rw [li_99, iI_lt (by omega) (by omega)]; omega), wrF_i, e, bnI_s, i0, i1, ef, li_n1, ite_eq (by omega) (by omega), ite_le (by omega) (by omega)]
    unfold g_X7_cook_b56 g_X7_cook_b61 g_X7_cook_b74 g_X7_cook_b87
    rw [hs, li_1, iI_add, show (i : Int) + 1 = ((i + 1 : Nat) : Int) by omega]
    by_cases q1 : (mdS f (fun i => (i : Int)) i).1 = -1
    · rw [if_pos q1, if_pos (Or.inl q1), if_neg (by decide), if_neg (by decide)]
    · rw [if_neg q1]
      by_cases q2 : f i < (mdS f (fun i => (i : Int)) i).2
      · rw [if_neg (by omega), if_pos (Or.inr q2), if_neg (by decide), if_neg (by decide)]
      · rw [if_pos (by omega), if_pos rfl, if_pos rfl, if_neg (fun q : _ ∨ _ => q.elim q1 q2)]) 100 0 ((-1, 0), m) F rfl ⟨rfl, rfl, frZ_r _ m, C 0 2, by rw [up_id]; exact h6⟩ (by omega)
  obtain ⟨w1, hw1⟩ : ∃ q, F - 100 = q + 1 := ⟨F - 101, by omega⟩
  obtain ⟨k0, k1, k2, -⟩ := hm2
  obtain ⟨k3, -, -, k4, k5⟩ := hx3
  simp only [] at k0 k1 k2
  have ex4 : g_X6_cook_l35 F N ln a F 0 x2 = some (x3, if a = 0 then iI (bcS f (fun i => (i : Int)) 100).1 else iI (bcS f (fun i => (i : Int)) 100).2) := by
    refine ex3.trans ?_
    simp only [hw1]
    rw [g_X6_cook_l35, if_pos (by decide), x_ans k4 k5, bnI_s]
  have em4 : g_X7_cook_l25 F a (iI (C 0 2)) F (-1) 0 0 m = some (st m2 0 5 (iI (C 0 2)), if a = 0 then w else l) := by
    refine em2.trans ?_
    simp only [hw1]
    rw [g_X7_cook_l25, if_pos (by decide), wrF_i]
    split <;> rfl
  rw [ex4, em4]
  refine go_x h k3 (frZ_y (frZ_s k2 ⟨rfl, rfl⟩) ?_) (by rw [k0, k1, mdS_h])
  rintro a j ⟨rfl, rfl⟩
  rw [st_e, h6.2.2.1]
theorem k_seat {F N : Nat} {ln : Nat → Nat} (hF : 300 ≤ F) {x m : Sg} (h : Rel N ln x m) (a b : Int32) : Go N ln (g_X6_seat F N ln a b x) (g_X7_seat F a b m) := by
  obtain ⟨C, lw, cd, hC, hT, hI, hS, hW⟩ := id h
  obtain ⟨h1, h2, h3, h4, h5, h6, h7, h8, h9, h10⟩ := id hC
  obtain ⟨za, ha, rfl⟩ := iI_ex a
  have hn := okC_n h1
  unfold g_X6_seat g_X7_seat
  rw [x_there h1 h4.1 ha, m_one h1 h6.1 ha, bnI_s, bnI_s, if01, if01]
  refine go_if Iff.rfl (fun q1 => ?_) fun _ => go_0 h
  obtain ⟨p, rfl⟩ : ∃ n : Nat, za = n := ⟨za.toNat, by omega⟩
  have hp : p < cN C := by omega
  rw [x_in, y_in, bnI_s, bnI_s, if01, if01]
  refine go_if Iff.rfl (fun _ => ?_) fun _ => go_0 h
  obtain ⟨x1, ex, fx, cx, lx⟩ := x_take (F := F) (N := N) (ln := ln) (by omega) (k := 6) (k2 := 1) (Or.inr (Or.inl rfl)) (Or.inl rfl) (by omega) x
  obtain ⟨x2, ex2, fx2, b0, b1⟩ := x_bgn (F := F) (N := N) (ln := ln) (σ := x1) (a := 0) (b := 1000000)
  have tp : (2 * (p : Int)).toNat = 2 * p := by omega
  rw [ex, bnV_s, ex2, bnV_s, li_2, iI_mul, rdA_i (by omega), tp, (h6.2.2.2 p hp).2.2.1]
  have hx1 : frX x x2 := frX_t ⟨fun a ha => fx a (by omega), by rw [fx 30 (by omega)]⟩ (frX_25 fx2)
  have hok : ∀ v : Nat, v < 100 → okC (upI C 3 p (v : Int)) := fun v hv => okC_r h1 (by omega)
  have hcn : ∀ v : Int, upI C 3 p v 0 0 = C 0 0 ∧ upI C 3 p v 0 4 = -1 := fun v => by rw [up_k (by omega), up_k (by omega)]; exact ⟨rfl, h2.2⟩
  have hcp : ∀ v : Int, p < cN (upI C 3 p v) := fun v => by unfold cN; rw [(hcn v).1]; exact hp
  let f : Nat → Int := fun v => costS (evn (upI C 3 p (v : Int)) (Tof (cd lw))) p
  have hf : ∀ i, i < 100 → -1000 ≤ f i ∧ f i ≤ 2000 := fun i hi => by
    obtain ⟨bb, _, hE⟩ := evn_ok (hok i hi) (Tof (cd lw))
    have := costS_b hE p
    show -1000 ≤ costS (evn (upI C 3 p (i : Int)) (Tof (cd lw))) p ∧ costS (evn (upI C 3 p (i : Int)) (Tof (cd lw))) p ≤ 2000
    omega
  have hg : ∀ i, i < 100 → 0 ≤ (fun i : Nat => (i : Int)) i ∧ (fun i : Nat => (i : Int)) i ≤ 1000000 := fun i hi => by simp only []; omega
  obtain ⟨x3, ex3, hx3⟩ := loop_up (fun n i s => g_X6_seat_l48 F N ln (iI (p : Int)) b n (iI (i : Int)) s) (fun i s => frX x s ∧ (∃ z, courtR (upI C 3 p z) s 6) ∧ s 6 3 = iI (lw : Int) ∧ s 25 0 = iI (bcS f (fun i => (i : Int)) i).1 ∧ s 25 1 = iI (bcS f (fun i => (i : Int)) i).2) 100 (by
    intro n i y hi ⟨i2, ⟨z, i3⟩, i4, i5, i6⟩
    have c1 := courtR_r (Or.inr (Or.inl rfl)) i3 (r := 3) (p := p) (by omega) (v := (i : Int))
    rw [up_up] at c1
    have hfr : frX x (st y 9 p (iI (i : Int))) := frX_t i2 ⟨fun a ha => st_ne _ _ _ (by omega), st_k (by omega)⟩
    obtain ⟨y1, ey, fy, ry⟩ := x_srv hC hF (Or.inr (Or.inl rfl)) (hok i (by omega)) h3.1 (fcX_f hfr) c1 (by rw [st_k (by omega)]; exact i4)
    obtain ⟨bb, _, hE⟩ := evn_ok (hok i hi) (Tof (cd lw))
    have bb := bcS_b hf hg i (by omega)
    have bf := hf i hi
    obtain ⟨y2, ey2, fy2, w0, w1⟩ := x_weigh (F := F) (N := N) (ln := ln) (σ := y1) (s := bcS f (fun i => (i : Int)) i) (a := i) (b := f i) (by rw [fy 25 (by omega), st_k (by omega)]; exact i5) (by rw [fy 25 (by omega), st_k (by omega)]; exact i6) (by omega) (by omega)
    rw [g_X6_seat_l48, if_neg (by rw [li_99, iI_lt (by omega) (by omega)]; omega), wrA_i (by omega), Int.toNat_natCast, ey, bnI_s, x_costs (hok i hi) hE ry (hcp _), bnI_s, ey2, bnV_s, li_1, iI_add]
    refine ⟨y2, by rw [show ((i + 1 : Nat) : Int) = (i : Int) + 1 by omega], frX_t (frX_t hfr (frX_s fy)) (frX_25 fy2), ⟨_, courtR_of c1 (fun a _ _ => by rw [fy2 a (by omega), fy a (by omega)])⟩, by rw [fy2 6 (by omega), fy 6 (by omega), st_k (by omega)]; exact i4, w0, w1⟩) 100 0 x2 F rfl ⟨hx1, ⟨C 3 p, by rw [up_id]; exact courtR_of (cx C h1 h4) (fun a _ _ => fx2 a (by omega))⟩, by rw [fx2 6 (by omega)]; exact lx.trans h5, b0, b1⟩ (by omega)
  obtain ⟨⟨⟨w, l⟩, m2⟩, em2, hm2⟩ := loop_up (S := (Int32 × Int32) × Sg) (fun n i v => g_X7_seat_l43 F (iI (p : Int)) b (iI (C 3 p)) n v.1.1 v.1.2 (iI (i : Int)) v.2) (fun i v => v.1.1 = iI (mdS f (fun i => (i : Int)) i).1 ∧ v.1.2 = iI (mdS f (fun i => (i : Int)) i).2 ∧ frZ (fun a j => a = 3 ∧ j = 2 * p) m v.2 ∧ ∃ z, courtM (upI C 3 p z) v.2) 100 (by
    intro n i ⟨⟨w, l⟩, y⟩ hi ⟨i0, i1, i2, z, i3⟩
    simp only [] at i0 i1 i2 i3 ⊢
    have c1 := courtM_r3 i3 (w := 0) (p := p) (by omega) (v := (i : Int))
    rw [up_up] at c1
    have z1 : frZ (fun a j => a = 3 ∧ j = 2 * p) m (st y 3 (2 * p) (iI (i : Int))) := frZ_s i2 ⟨rfl, rfl⟩
    obtain ⟨y1, e, f1, r1⟩ := m_srv1 hC hF (hok i (by omega)) (hcn _).2 h3.1 (fun j => z1 5 j (by omega) (by omega) (by omega)) (fun j => z1 6 j (by omega) (by omega) (by omega)) c1 (by rw [z1 0 11 (by omega) (by omega) (by omega)]; exact h7)
    obtain ⟨bb, _, hE⟩ := evn_ok (hok i hi) (Tof (cd lw))
    obtain ⟨s2, s3, s4, s5⟩ := r1.2.2.2.2.2.2.2 p (by omega)
    have bb := mdS_b hf hg (i := i) (by omega)
    have bf := hf i hi
    have hs := mdS_s hf hg hi
    have ef : costS (evn (upI C 3 p (i : Int)) (Tof (cd lw))) p = f i := rfl
    refine ⟨((iI (mdS f (fun i => (i : Int)) (i + 1)).1, iI (mdS f (fun i => (i : Int)) (i + 1)).2), y1), ?_, rfl, rfl, frZ_m z1 f1, _, courtM_of c1 f1⟩
    simp only []
    rw [g_X7_seat_l43, if_neg (by rw [li_99, iI_lt (by omega) (by omega)]; omega), li_2, iI_mul, wrA_i (by omega), tp, e, bnV_s, m_less hE (by omega) s2 s5, bnI_s, i0, i1, ef, li_n1, ite_eq (by omega) (by omega), ite_le (by omega) (by omega)]
    unfold g_X7_seat_b85 g_X7_seat_b90 g_X7_seat_b104 g_X7_seat_b118
    rw [hs, li_1, iI_add, show (i : Int) + 1 = ((i + 1 : Nat) : Int) by omega]
    by_cases q1 : (mdS f (fun i => (i : Int)) i).1 = -1
    · rw [if_pos q1, if_pos (Or.inl q1), if_neg (by decide), if_neg (by decide)]
    · rw [if_neg q1]
      by_cases q2 : f i < (mdS f (fun i => (i : Int)) i).2
      · rw [if_neg (by omega), if_pos (Or.inr q2), if_neg (by decide), if_neg (by decide)]
      · rw [if_pos (by omega), if_pos rfl, if_pos rfl, if_neg (fun q : _ ∨ _ => q.elim q1 q2)]) 100 0 ((-1, 0), m) F rfl ⟨rfl, rfl, frZ_r _ m, C 3 p, by rw [up_id]; exact h6⟩ (by omega)
  obtain ⟨w1, hw1⟩ : ∃ q, F - 100 = q + 1 := ⟨F - 101, by omega⟩
  obtain ⟨k0, k1, k2, -⟩ := hm2
  obtain ⟨k3, -, -, k4, k5⟩ := hx3
  simp only [] at k0 k1 k2
  have ex4 : g_X6_seat_l48 F N ln (iI (p : Int)) b F 0 x2 = some (x3, if b = 0 then iI (bcS f (fun i => (i : Int)) 100).1 else iI (bcS f (fun i => (i : Int)) 100).2) := by
    refine ex3.trans ?_
    simp only [hw1]
    rw [g_X6_seat_l48, if_pos (by decide), x_ans k4 k5, bnI_s]
  have em4 : g_X7_seat_l43 F (iI (p : Int)) b (iI (C 3 p)) F (-1) 0 0 m = some (st m2 3 (2 * p) (iI (C 3 p)), if b = 0 then w else l) := by
    refine em2.trans ?_
    simp only [hw1]
    rw [g_X7_seat_l43, if_pos (by decide), li_2, iI_mul, wrA_i (by omega), tp]
    split <;> rfl
  rw [ex4, em4]
  refine go_x h k3 (frZ_y (frZ_s k2 ⟨rfl, rfl⟩) ?_) (by rw [k0, k1, mdS_h])
  rintro a j ⟨rfl, rfl⟩
  rw [st_e, (h6.2.2.2 p hp).2.2.1]
