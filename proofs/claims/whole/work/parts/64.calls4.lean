theorem k_back {F N : Nat} {ln : Nat → Nat} (hF : 100 ≤ F) {x m : Sg} (h : Rel N ln x m) : Go N ln (g_X6_back F N ln x) (g_X7_back F m) := by
  obtain ⟨C, lw, cd, hC, hT, hI, hS, hW⟩ := id h
  obtain ⟨h1, h2, h3, h4, h5, h6, h7, h8, h9, h10⟩ := id hC
  unfold g_X6_back g_X7_back
  rcases hI with ⟨q1, q2⟩ | ⟨q1, q2, D, lw', d1, d2, d3, d4, d5, d6, d7, d8, d9⟩
  · rw [q1, q2, if_pos (by rfl), if_pos (by rfl)]; exact go_0 h
  · rw [q1, q2, if_neg (by decide), if_neg (by decide)]
    obtain ⟨x1, e1, f1, c1, l1⟩ := x_take (F := F) (N := N) (ln := ln) hF (k := 1) (k2 := 11) (Or.inl rfl) (Or.inr (Or.inr rfl)) (by omega) x
    rw [e1, bnV_s]
    obtain ⟨m', e, i1, i2⟩ := loop_up (fun n i s => g_X7_back_l12 F n (iI (i : Int)) s) (fun i s => (∀ a, a ≠ 3 → s a = m a) ∧ (∀ p, p < i → s 3 p = m 7 p)) 12 (by
      intro n i s hi ⟨i1, i2⟩
      rw [g_X7_back_l12, li_12, if_neg (by rw [iI_le (by omega) (by omega)]; omega), rdA_i (by omega), wrA_i (by omega), li_1, iI_add, Int.toNat_natCast]
      refine ⟨_, by rw [show ((i + 1 : Nat) : Int) = (i : Int) + 1 by omega], fun a ha => ?_, fun p hp => ?_⟩
      · rw [st_ne _ _ _ ha]; exact i1 a ha
      · by_cases hpi : p = i
        · subst hpi; rw [st_e, i1 7 (by omega)]
        · rw [st_j hpi]; exact i2 p (by omega)) 12 0 m F rfl ⟨fun _ _ => rfl, fun _ h => absurd h (by omega)⟩ (by omega)
    obtain ⟨n, hn⟩ : ∃ n, F - 12 = n + 1 := ⟨F - 13, by omega⟩
    have e2 : g_X7_back_l12 F F 0 m = some (st (st (st (st m' 0 0 (m 8 0)) 0 4 (m 8 1)) 0 5 (m 8 2)) 0 11 (m 8 3), m 8 0) := by
      refine e.trans ?_
      simp only [hn]
      rw [g_X7_back_l12, if_pos (by decide)]
      rw [show (0 : Int32) = iI 0 from rfl, rdA_i (by omega), wrF_i, show (1 : Int32) = iI 1 from rfl, rdA_i (by omega), wrF_i, show (2 : Int32) = iI 2 from rfl, rdA_i (by omega), wrF_i, show (3 : Int32) = iI 3 from rfl, rdA_i (by omega), wrF_i]
      simp (disch := omega) only [st_e, st_k, st_j, i1, Int.toNat_zero, Int.reduceToNat]
    rw [e2]
    have hd := okC_n d1
    have hcc := okC_n h1
    obtain ⟨v0, v1, v2, v3⟩ := d8
    have hle : cN D ≤ cN C := by omega
    refine go_w (by rw [(c1 D d1 d6).1, v0]) ⟨D, lw', cd, ⟨d1, d2, ⟨d3, h3.2⟩, c1 D d1 d6, l1.trans d7, ⟨?_, ?_, ?_, fun p hp => ?_⟩, ?_, by rw [f1 0 (by omega)]; exact h8, ?_, fun t ht => ?_⟩, RelT_m hT (by rw [f1 _ (by omega)]) (by rw [f1 _ (by omega)]) (fun j => by rw [st_k (by omega), st_k (by omega), st_k (by omega), st_k (by omega), i1 4 (by omega)]) (by rw [st_j (by omega), st_j (by omega), st_j (by omega), st_j (by omega), i1 0 (by omega)]), ?_, RelS_m hS (fun a ha => by rw [f1 _ (by omega)]) (fun a j ha => by rw [st_k (by omega), st_k (by omega), st_k (by omega), st_k (by omega), i1 a (by omega)]), RelW_m hW (fun j => by rw [st_k (by omega), st_k (by omega), st_k (by omega), st_k (by omega), i1 13 (by omega)])⟩
    · simp (disch := omega) only [st_e, st_k, st_j]; exact v0
    · simp (disch := omega) only [st_e, st_k, st_j]; exact v1
    · simp (disch := omega) only [st_e, st_k, st_j]; exact v2
    · obtain ⟨r1, r2, r3, r4⟩ := h6.2.2.2 p (by omega)
      obtain ⟨r5, r6⟩ := d9 p hp
      simp (disch := omega) only [st_e, st_k, st_j, i1, i2]
      rw [(d5 p hp).1, (d5 p hp).2]
      exact ⟨r1, r2, r5, r6⟩
    · simp (disch := omega) only [st_e, st_k, st_j]; exact v3
    · simp (disch := omega) only [st_e, st_k, st_j, i1]; exact h9
    · have q := txQ (t := t)
      exact txR_of (h10 t ht) rfl (f1 _ (by omega)) (f1 _ (by omega)) (fun j _ => by rw [st_k (by omega), st_k (by omega), st_k (by omega), st_k (by omega), i1 5 (by omega)]) (fun j _ => by rw [st_k (by omega), st_k (by omega), st_k (by omega), st_k (by omega), i1 6 (by omega)])
    · refine Or.inr ⟨by rw [f1 0 (by omega)]; exact q1, by simp (disch := omega) only [st_e, st_k, st_j, i1]; exact q2, D, lw', d1, d2, d3, Int.le_refl _, fun _ _ => ⟨rfl, rfl⟩, courtR_of d6 (fun a ha hb => f1 a (by omega)), by rw [f1 _ (by omega)]; exact d7, ?_, fun p hp => ?_⟩
      · simp (disch := omega) only [st_e, st_k, st_j, i1]
        exact ⟨v0, v1, v2, v3⟩
      · rw [st_k (by omega), st_k (by omega), st_k (by omega), st_k (by omega), st_k (by omega), st_k (by omega), st_k (by omega), st_k (by omega), i1 _ (by omega)]
        exact d9 p hp
theorem x_add {F N : Nat} {ln : Nat → Nat} {x : Sg} {tl : Nat} (h : x 30 1 = iI (tl : Int)) (h1 : tl < 160) (v : Int32) : g_X4_add F N ln v x = some (st (st x 31 tl v) 30 1 (iI ((tl + 1 : Nat) : Int))) := by
  unfold g_X4_add
  rw [h, ofN_i, ite_le (by omega) (by omega), if_neg (by omega), wrA_i (by omega), wrF_i, st_k (by omega), h, li_1, iI_add, Int.toNat_natCast]
  rfl
theorem feed_l {F N : Nat} {ln : Nat → Nat} {n : Nat} (hn : n ≤ 5) {a b c d e : Int} (ha : 0 ≤ a ∧ a ≤ 255) (hb : 0 ≤ b ∧ b ≤ 255) (hc : 0 ≤ c ∧ c ≤ 255) (hd : 0 ≤ d ∧ d ≤ 255) (he : 0 ≤ e ∧ e ≤ 255) : ∀ (k i tl : Nat) (x m : Sg) (f g : Nat), i + k = n → tl + k ≤ 160 → k < f → k < g → x 30 1 = iI (tl : Int) → m 0 7 = iI (tl : Int) → (∀ i, i < tl → ∃ b : Int, (0 ≤ b ∧ b ≤ 255) ∧ x 31 i = iI b ∧ m 4 i = iI b) →
    ∃ x' m', g_X6_feed_l71 F N ln (iI (n : Int)) (iI a) (iI b) (iI c) (iI d) (iI e) f (iI (i : Int)) x = some (x', iI ((tl + k : Nat) : Int)) ∧ g_X7_feed_l68 F (iI (n : Int)) (iI a) (iI b) (iI c) (iI d) (iI e) g (iI (i : Int)) m = some (m', iI ((tl + k : Nat) : Int)) ∧ RelT x' m' ∧ (∀ a, a ≠ 30 → a ≠ 31 → x' a = x a) ∧ (∀ a, a ≠ 0 → a ≠ 4 → m' a = m a) ∧ ∀ j, j ≠ 7 → m' 0 j = m 0 j := by
  intro k
  induction k with
  | zero =>
    intro i tl x m f g h1 h2 h3 h4 h5 h6 h7
    obtain ⟨f, rfl⟩ : ∃ q, f = q + 1 := ⟨f - 1, by omega⟩
    obtain ⟨g, rfl⟩ : ∃ q, g = q + 1 := ⟨g - 1, by omega⟩
    rw [g_X6_feed_l71, g_X7_feed_l68, if_pos (by rw [iI_le (by omega) (by omega)]; omega), if_pos (by rw [iI_le (by omega) (by omega)]; omega), h5, h6]
    exact ⟨x, m, rfl, rfl, ⟨tl, by omega, h5, h6, h7⟩, fun _ _ _ => rfl, fun _ _ _ => rfl, fun _ _ => rfl⟩
  | succ k ih =>
    intro i tl x m f g h1 h2 h3 h4 h5 h6 h7
    obtain ⟨f, rfl⟩ : ∃ q, f = q + 1 := ⟨f - 1, by omega⟩
    obtain ⟨g, rfl⟩ : ∃ q, g = q + 1 := ⟨g - 1, by omega⟩
    have step : ∀ w : Int, (0 ≤ w ∧ w ≤ 255) → ∃ x' m', g_X6_feed_b124 F N ln (fun v7_ σ_ => g_X6_feed_l71 F N ln (iI (n : Int)) (iI a) (iI b) (iI c) (iI d) (iI e) f v7_ σ_) (iI (n : Int)) (iI a) (iI b) (iI c) (iI d) (iI e) (iI (i : Int)) (iI w) x = some (x', iI ((tl + (k + 1) : Nat) : Int)) ∧ g_X7_feed_b125 F (fun v7_ σ_ => g_X7_feed_l68 F (iI (n : Int)) (iI a) (iI b) (iI c) (iI d) (iI e) g v7_ σ_) (iI (n : Int)) (iI a) (iI b) (iI c) (iI d) (iI e) (iI (i : Int)) (iI w) (m 0 7) m = some (m', iI ((tl + (k + 1) : Nat) : Int)) ∧ RelT x' m' ∧ (∀ a, a ≠ 30 → a ≠ 31 → x' a = x a) ∧ (∀ a, a ≠ 0 → a ≠ 4 → m' a = m a) ∧ ∀ j, j ≠ 7 → m' 0 j = m 0 j := by
      intro w hw
      unfold g_X6_feed_b124 g_X7_feed_b125
      rw [x_add h5 (by omega), bnV_s, h6, wrA_i (by omega), wrF_i, st_k (by omega), h6, li_1, iI_add, iI_add, Int.toNat_natCast]
      obtain ⟨x', m', e1, e2, e3, e4, e5, e6⟩ := ih (i + 1) (tl + 1) (st (st x 31 tl (iI w)) 30 1 (iI ((tl + 1 : Nat) : Int))) (st (st m 4 tl (iI w)) 0 7 (iI ((tl + 1 : Nat) : Int))) f g (by omega) (by omega) (by omega) (by omega) st_e st_e (fun j hj => by
        by_cases hjt : j = tl
        · subst hjt
          exact ⟨w, hw, by rw [st_k (by omega), st_e], by rw [st_k (by omega), st_e]⟩
        · obtain ⟨b, hb, q1, q2⟩ := h7 j (by omega)
          exact ⟨b, hb, by rw [st_k (by omega), st_j hjt]; exact q1, by rw [st_k (by omega), st_j hjt]; exact q2⟩)
      have t1 : ((i + 1 : Nat) : Int) = (i : Int) + 1 := by omega
      have t2 : ((tl + 1 : Nat) : Int) = (tl : Int) + 1 := by omega
      have t3 : (tl + 1 + k : Nat) = tl + (k + 1) := by omega
      rw [t1, t3, t2] at e1 e2
      refine ⟨x', m', by rw [t2]; exact e1, e2, e3, fun a h1 h2 => by rw [e4 a h1 h2, st_ne _ _ _ h1, st_ne _ _ _ h2], fun a h1 h2 => by rw [e5 a h1 h2, st_ne _ _ _ h1, st_ne _ _ _ h2], fun j hj => by rw [e6 j hj, st_j hj, st_k (by omega)]⟩
    rcases (show i = 0 ∨ i = 1 ∨ i = 2 ∨ i = 3 ∨ i = 4 by omega) with hi | hi | hi | hi | hi
    · rw [g_X6_feed_l71, if_neg (by rw [iI_le (by omega) (by omega)]; omega), if_pos (by rw [li_0, iI_eq (by omega) (by omega)]; omega), g_X7_feed_l68, if_neg (by rw [iI_le (by omega) (by omega)]; omega), if_pos (by rw [li_0, iI_eq (by omega) (by omega)]; omega)]; exact step a ha
    · rw [g_X6_feed_l71, if_neg (by rw [iI_le (by omega) (by omega)]; omega), if_neg (by rw [li_0, iI_eq (by omega) (by omega)]; omega), if_pos (by rw [li_1, iI_eq (by omega) (by omega)]; omega), g_X7_feed_l68, if_neg (by rw [iI_le (by omega) (by omega)]; omega), if_neg (by rw [li_0, iI_eq (by omega) (by omega)]; omega), if_pos (by rw [li_1, iI_eq (by omega) (by omega)]; omega)]; exact step b hb
    · rw [g_X6_feed_l71, if_neg (by rw [iI_le (by omega) (by omega)]; omega), if_neg (by rw [li_0, iI_eq (by omega) (by omega)]; omega), if_neg (by rw [li_1, iI_eq (by omega) (by omega)]; omega), if_pos (by rw [li_2, iI_eq (by omega) (by omega)]; omega), g_X7_feed_l68, if_neg (by rw [iI_le (by omega) (by omega)]; omega), if_neg (by rw [li_0, iI_eq (by omega) (by omega)]; omega), if_neg (by rw [li_1, iI_eq (by omega) (by omega)]; omega), if_pos (by rw [li_2, iI_eq (by omega) (by omega)]; omega)]; exact step c hc
    · rw [g_X6_feed_l71, if_neg (by rw [iI_le (by omega) (by omega)]; omega), if_neg (by rw [li_0, iI_eq (by omega) (by omega)]; omega), if_neg (by rw [li_1, iI_eq (by omega) (by omega)]; omega), if_neg (by rw [li_2, iI_eq (by omega) (by omega)]; omega), if_pos (by rw [li_3, iI_eq (by omega) (by omega)]; omega), g_X7_feed_l68, if_neg (by rw [iI_le (by omega) (by omega)]; omega), if_neg (by rw [li_0, iI_eq (by omega) (by omega)]; omega), if_neg (by rw [li_1, iI_eq (by omega) (by omega)]; omega), if_neg (by rw [li_2, iI_eq (by omega) (by omega)]; omega), if_pos (by rw [li_3, iI_eq (by omega) (by omega)]; omega)]; exact step d hd
    · rw [g_X6_feed_l71, if_neg (by rw [iI_le (by omega) (by omega)]; omega), if_neg (by rw [li_0, iI_eq (by omega) (by omega)]; omega), if_neg (by rw [li_1, iI_eq (by omega) (by omega)]; omega), if_neg (by rw [li_2, iI_eq (by omega) (by omega)]; omega), if_neg (by rw [li_3, iI_eq (by omega) (by omega)]; omega), g_X7_feed_l68, if_neg (by rw [iI_le (by omega) (by omega)]; omega), if_neg (by rw [li_0, iI_eq (by omega) (by omega)]; omega), if_neg (by rw [li_1, iI_eq (by omega) (by omega)]; omega), if_neg (by rw [li_2, iI_eq (by omega) (by omega)]; omega), if_neg (by rw [li_3, iI_eq (by omega) (by omega)]; omega)]; exact step e he
theorem k_feed {F N : Nat} {ln : Nat → Nat} (hF : 100 ≤ F) {x m : Sg} (h : Rel N ln x m) (n a b c d e : Int32) : Go N ln (g_X6_feed F N ln n a b c d e x) (g_X7_feed F n a b c d e m) := by
  obtain ⟨C, lw, cd, hC, ⟨tl, t1, t2, t3, t4⟩, hI, hS, hW⟩ := id h
  obtain ⟨zn, hn, rfl⟩ := iI_ex n
  obtain ⟨za, ha, rfl⟩ := iI_ex a
  obtain ⟨zb, hb, rfl⟩ := iI_ex b
  obtain ⟨zc, hc, rfl⟩ := iI_ex c
  obtain ⟨zd, hd, rfl⟩ := iI_ex d
  obtain ⟨ze, he, rfl⟩ := iI_ex e
  unfold g_X6_feed g_X7_feed
  rw [x_in, y_in, bnI_s, bnI_s, if01, if01]
  refine go_if Iff.rfl (fun q => ?_) fun _ => go_0 h
  have q := in_i hn (lo := 1) (hi := 5) (by omega) (by omega) q
  rw [x_byte ha, m_byte ha, bnI_s, bnI_s, if01, if01]
  refine go_if Iff.rfl (fun qa => ?_) fun _ => go_0 h
  rw [x_byte hb, m_byte hb, bnI_s, bnI_s, if01, if01]
  refine go_if Iff.rfl (fun qb => ?_) fun _ => go_0 h
  rw [x_byte hc, m_byte hc, bnI_s, bnI_s, if01, if01]
  refine go_if Iff.rfl (fun qc => ?_) fun _ => go_0 h
  rw [x_byte hd, m_byte hd, bnI_s, bnI_s, if01, if01]
  refine go_if Iff.rfl (fun qd => ?_) fun _ => go_0 h
  rw [x_byte he, m_byte he, bnI_s, bnI_s, if01, if01]
  refine go_if Iff.rfl (fun qe => ?_) fun _ => go_0 h
  rw [t2, t3, iI_add, li_160, ite_le (by omega) (by omega), ite_le (by omega) (by omega)]
  refine go_if Iff.rfl (fun qr => ?_) fun _ => go_0 h
  obtain ⟨n, rfl⟩ : ∃ n : Nat, zn = n := ⟨zn.toNat, by omega⟩
  obtain ⟨x', m', e1, e2, e3, e4, e5, e6⟩ := feed_l (F := F) (N := N) (ln := ln) (n := n) (by omega) qa qb qc qd qe n 0 tl x m F F (by omega) (by omega) (by omega) (by omega) t2 t3 t4
  refine ⟨x', m', _, e1, e2, C, lw, cd, RelC_m hC (fun a ha => e4 a (by omega) (by omega)) (by rw [e4 0 (by omega) (by omega)]) (fun a j ha => by rw [e5 a (by omega) (by omega)]) (by refine ⟨?_, ?_, ?_, ?_, ?_⟩ <;> exact e6 _ (by omega)), e3, RelI_m hI (fun a ha => e4 a (by omega) (by omega)) (by rw [e4 0 (by omega) (by omega)]) (fun a j ha => by rw [e5 a (by omega) (by omega)]) (e6 _ (by omega)), RelS_m hS (fun a ha => e4 a (by omega) (by omega)) (fun a j ha => by rw [e5 a (by omega) (by omega)]), RelW_m hW (fun j => by rw [e5 13 (by omega) (by omega)])⟩
