/-! frames of the parts -/
theorem txQ {t : Nat} : (26 ≤ tc t + 1 ∧ tc t + 1 ≤ 28 ∨ 44 ≤ tc t + 1) ∧ (26 ≤ tc t + 2 ∧ tc t + 2 ≤ 28 ∨ 44 ≤ tc t + 2) := by
  rcases Nat.eq_zero_or_pos t with rfl | h0
  · decide
  · rw [tc_s h0]; omega
theorem RelC_m {C : CD} {lw : Nat} {cd : Nat → Nat → List Int} {N : Nat} {ln : Nat → Nat} {x m x' m' : Sg} (h : RelC C lw cd N ln x m) (a1 : ∀ a, (1 ≤ a ∧ a ≤ 5) ∨ (26 ≤ a ∧ a ≤ 28) ∨ 44 ≤ a → x' a = x a) (a2 : x' 0 8 = x 0 8) (b1 : ∀ a j, a = 1 ∨ a = 2 ∨ a = 3 ∨ a = 5 ∨ a = 6 → m' a j = m a j) (b2 : m' 0 0 = m 0 0 ∧ m' 0 4 = m 0 4 ∧ m' 0 5 = m 0 5 ∧ m' 0 10 = m 0 10 ∧ m' 0 11 = m 0 11) : RelC C lw cd N ln x' m' := by
  obtain ⟨h1, h2, h3, h4, h5, h6, h7, h8, h9, h10⟩ := h
  obtain ⟨c0, c1, c2, c3⟩ := h6
  refine ⟨h1, h2, h3, courtR_of h4 (fun a ha hb => a1 a (by omega)), by rw [a1 1 (by omega)]; exact h5, ⟨b2.1.trans c0, b2.2.1.trans c1, b2.2.2.1.trans c2, fun p hp => ?_⟩, b2.2.2.2.2.trans h7, a2.trans h8, b2.2.2.2.1.trans h9, fun t ht => ?_⟩
  · rw [b1 1 p (by omega), b1 2 p (by omega), b1 3 _ (by omega), b1 3 _ (by omega)]
    exact c3 p hp
  · have q := txQ (t := t)
    exact txR_of (h10 t ht) rfl (a1 _ (by omega)) (a1 _ (by omega)) (fun j _ => b1 5 _ (by omega)) (fun j _ => b1 6 _ (by omega))
theorem RelT_m {x m x' m' : Sg} (h : RelT x m) (a1 : x' 31 = x 31) (a2 : x' 30 1 = x 30 1) (b1 : ∀ j, m' 4 j = m 4 j) (b2 : m' 0 7 = m 0 7) : RelT x' m' := by
  obtain ⟨tl, h1, h2, h3, h4⟩ := h
  refine ⟨tl, h1, a2.trans h2, b2.trans h3, fun i hi => ?_⟩
  rw [a1, b1]; exact h4 i hi
theorem RelI_m {C : CD} {N : Nat} {x m x' m' : Sg} (h : RelI C N x m) (a1 : ∀ a, 11 ≤ a ∧ a ≤ 15 → x' a = x a) (a2 : x' 0 3 = x 0 3) (b1 : ∀ a j, a = 7 ∨ a = 8 → m' a j = m a j) (b2 : m' 0 12 = m 0 12) : RelI C N x' m' := by
  unfold RelI
  rw [a2, b2]
  rcases h with h | ⟨h1, h2, D, lw, d1, d2, d3, d4, d5, d6, d7, d8, d9⟩
  · exact Or.inl h
  · refine Or.inr ⟨h1, h2, D, lw, d1, d2, d3, d4, d5, courtR_of d6 (fun a ha hb => a1 a (by omega)), by rw [a1 11 (by omega)]; exact d7, ?_, fun p hp => ?_⟩
    · rw [b1 8 _ (by omega), b1 8 _ (by omega), b1 8 _ (by omega), b1 8 _ (by omega)]; exact d8
    · rw [b1 7 _ (by omega), b1 7 _ (by omega)]; exact d9 p hp
theorem RelS_m {x m x' m' : Sg} (h : RelS x m) (a1 : ∀ a, 36 ≤ a ∧ a ≤ 43 → x' a = x a) (b1 : ∀ a j, a = 9 ∨ a = 10 ∨ a = 11 → m' a j = m a j) : RelS x' m' := by
  intro s hs
  obtain ⟨so, sz, h1, h2, h3, h4, h5⟩ := h s hs
  refine ⟨so, sz, h1, h2, ?_, ?_, fun i hi => ?_⟩
  · rw [a1 _ (by omega), b1 9 _ (by omega)]; exact h3
  · rw [a1 _ (by omega), b1 10 _ (by omega)]; exact h4
  · rw [a1 _ (by omega), b1 11 _ (by omega)]; exact h5 i hi
theorem RelW_m {m m' : Sg} (h : RelW m) (b1 : ∀ j, m' 13 j = m 13 j) : RelW m' := fun i hi => by rw [b1]; exact h i hi
/-! a court into another one -/
theorem x_take {F N : Nat} {ln : Nat → Nat} (hF : 100 ≤ F) {k k2 : Nat} (hk : isCt k) (hk2 : isCt k2) (hne : k ≠ k2) (σ : Sg) : ∃ σ', g_X1_takeFrom F N ln k k2 σ = some σ' ∧ (∀ a, a < k ∨ k + 4 < a → σ' a = σ a) ∧ (∀ C, okC C → courtR C σ k2 → courtR C σ' k) ∧ σ' k 3 = σ k2 3 := by
  have hk' := kct hk
  have hk2' := kct hk2
  unfold g_X1_takeFrom
  simp only [wrF_i]
  generalize hs0 : st (st (st (st (st σ k 0 (σ k2 0)) k 1 _) k 2 _) k 3 _) k 4 _ = s0
  have f0 : ∀ a, a ≠ k → s0 a = σ a := fun a ha => by rw [← hs0, st_ne _ _ _ ha, st_ne _ _ _ ha, st_ne _ _ _ ha, st_ne _ _ _ ha, st_ne _ _ _ ha]
  have g0 : s0 k 0 = σ k2 0 ∧ s0 k 1 = σ k2 1 ∧ s0 k 2 = σ k2 2 ∧ s0 k 3 = σ k2 3 ∧ s0 k 4 = σ k2 4 := by
    rw [← hs0]; refine ⟨?_, ?_, ?_, ?_, ?_⟩ <;> simp (disch := omega) only [st_e, st_k, st_j]
  clear hs0
  obtain ⟨s', e, h1, h2, h3⟩ := loop_up (fun n i s => g_X1_takeFrom_l42 F N ln k k2 n (iI (i : Int)) s) (fun i s => (∀ a, a ≤ k ∨ k + 4 < a → s a = s0 a) ∧ (∀ r p, 1 ≤ r → r ≤ 4 → p < i → s (k + r) p = σ (k2 + r) p) ∧ True) 6 (by
    intro n i s hi ⟨i1, i2, _⟩
    rw [g_X1_takeFrom_l42, li_6, if_neg (by rw [iI_le (by omega) (by omega)]; omega), rdA_i (by omega), wrA_i (by omega), rdA_i (by omega), wrA_i (by omega), rdA_i (by omega), wrA_i (by omega), rdA_i (by omega), wrA_i (by omega), li_1, iI_add, Int.toNat_natCast]
    refine ⟨_, by rw [show ((i + 1 : Nat) : Int) = (i : Int) + 1 by omega], fun a ha => ?_, fun r p h1 h4 hp => ?_, trivial⟩
    · rw [st_ne _ _ _ (by omega), st_ne _ _ _ (by omega), st_ne _ _ _ (by omega), st_ne _ _ _ (by omega)]; exact i1 a ha
    · have j2 : ∀ r, r ≤ 4 → s (k2 + r) i = σ (k2 + r) i := fun r hr => by
        rw [i1 _ (by omega), f0 _ (by omega)]
      by_cases hpi : p = i
      · subst hpi
        rcases (show r = 1 ∨ r = 2 ∨ r = 3 ∨ r = 4 by omega) with rfl | rfl | rfl | rfl <;> simp (disch := omega) only [st_e, st_k, st_j, j2]
      · have := i2 r p h1 h4 (by omega)
        simp (disch := omega) only [st_j, this]) 6 0 s0 F rfl ⟨fun _ _ => rfl, fun _ _ _ _ h => absurd h (by omega), trivial⟩ (by omega)
  obtain ⟨n, hn⟩ : ∃ n, F - 6 = n + 1 := ⟨F - 7, by omega⟩
  refine ⟨s', ?_, fun a ha => ?_, fun C hC hR => ?_, by rw [h1 k (by omega)]; exact g0.2.2.2.1⟩
  · refine e.trans ?_
    simp only [hn]
    rw [g_X1_takeFrom_l42, if_pos (by decide)]
  · rw [h1 a (by omega), f0 a (by omega)]
  · have hc := okC_n hC
    obtain ⟨a, b, c, d, e⟩ := hR
    refine ⟨by rw [h1 k (by omega), g0.1]; exact a, by rw [h1 k (by omega), g0.2.1]; exact b, by rw [h1 k (by omega), g0.2.2.1]; exact c, by rw [h1 k (by omega), g0.2.2.2.2]; exact d, fun p hp => ?_⟩
    rw [h2 1 p (by omega) (by omega) (by omega), h2 2 p (by omega) (by omega) (by omega), h2 3 p (by omega) (by omega) (by omega), h2 4 p (by omega) (by omega) (by omega)]
    exact e p hp
theorem k_image {F N : Nat} {ln : Nat → Nat} (hF : 100 ≤ F) {x m : Sg} (h : Rel N ln x m) : Go N ln (g_X6_image F N ln x) (g_X7_image F m) := by
  obtain ⟨C, lw, cd, hC, hT, hI, hS, hW⟩ := id h
  obtain ⟨h1, h2, h3, h4, h5, h6, h7, h8, h9, h10⟩ := id hC
  unfold g_X6_image g_X7_image
  obtain ⟨x1, e1, f1, c1, l1⟩ := x_take (F := F) (N := N) (ln := ln) hF (k := 11) (k2 := 1) (Or.inr (Or.inr rfl)) (Or.inl rfl) (by omega) x
  rw [e1, bnV_s, wrF_i, wrF_i]
  obtain ⟨m', e, i1, i2⟩ := loop_up (fun n i s => g_X7_image_l7 F n (iI (i : Int)) s) (fun i s => (∀ a, a ≠ 7 → s a = st m 0 12 1 a) ∧ (∀ p, p < i → s 7 p = m 3 p)) 12 (by
    intro n i s hi ⟨i1, i2⟩
    rw [g_X7_image_l7, li_12, if_neg (by rw [iI_le (by omega) (by omega)]; omega), rdA_i (by omega), wrA_i (by omega), li_1, iI_add, Int.toNat_natCast]
    refine ⟨_, by rw [show ((i + 1 : Nat) : Int) = (i : Int) + 1 by omega], fun a ha => ?_, fun p hp => ?_⟩
    · rw [st_ne _ _ _ ha]; exact i1 a ha
    · by_cases hpi : p = i
      · subst hpi; rw [st_e, i1 3 (by omega), st_k (by omega)]
      · rw [st_j hpi]; exact i2 p (by omega)) 12 0 (st m 0 12 1) F rfl ⟨fun _ _ => rfl, fun _ h => absurd h (by omega)⟩ (by omega)
  obtain ⟨n, hn⟩ : ∃ n, F - 12 = n + 1 := ⟨F - 13, by omega⟩
  have e2 : g_X7_image_l7 F F 0 (st m 0 12 1) = some (st (st (st (st m' 8 0 (m 0 0)) 8 1 (m 0 4)) 8 2 (m 0 5)) 8 3 (m 0 11), m 0 0) := by
    refine e.trans ?_
    simp only [hn]
    rw [g_X7_image_l7, if_pos (by decide)]
    simp (disch := omega) only [wrF_i, bnI_s, bnL_s, bnV_s, iI_add, iI_sub, iI_mul, iI_neg, rdA_i, wrA_i, iI_lt, iI_le, iI_eq, mxI_i, mnI_i, abI_i, Int.toNat_natCast, Int.reduceToNat, Int.toNat_zero, li_0, li_1, li_2, li_3, li_4, li_5, li_6, li_7, li_8, li_9, li_10, li_11, li_12, li_13, li_14, li_15, li_16, li_17, li_18, li_19, li_20, li_21, li_22, li_23, li_24, li_25, li_26, li_27, li_28, li_29, li_30, li_31, li_32, li_36, li_39, li_40, li_41, li_42, li_43, li_45, li_47, li_48, li_50, li_55, li_57, li_59, li_60, li_61, li_90, li_97, li_99, li_100, li_122, li_127, li_159, li_160, li_199, li_200, li_255, li_499, li_500, li_720, li_999, li_1000, li_1001, li_1002, li_1003, li_1004, li_1005, li_1006, li_5000, li_6000, li_7000, li_9999, li_48271, li_99999, li_100000, li_1000000, st_k, i1, st_j]
  rw [e2]
  have y0 : ∀ j, j ≠ 12 → m' 0 j = m 0 j := fun j hj => by rw [i1 0 (by omega), st_j hj]
  have ya : ∀ a, a ≠ 7 → a ≠ 0 → m' a = m a := fun a h1 h2 => by rw [i1 a h1, st_ne _ _ _ h2]
  refine go_w (by rw [st_k (by omega), f1 1 (by omega)]; exact h4.1.trans h6.1.symm) ⟨C, lw, cd, RelC_m hC (fun a ha => by rw [st_ne _ _ _ (by omega), f1 a (by omega)]) (by rw [st_j (by omega), f1 0 (by omega)]) (fun a j ha => by rw [st_k (by omega), st_k (by omega), st_k (by omega), st_k (by omega), ya a (by omega) (by omega)]) ?_, RelT_m hT (by rw [st_ne _ _ _ (by omega), f1 _ (by omega)]) (by rw [st_ne _ _ _ (by omega), f1 _ (by omega)]) (fun j => by rw [st_k (by omega), st_k (by omega), st_k (by omega), st_k (by omega), ya 4 (by omega) (by omega)]) (by rw [st_k (by omega), st_k (by omega), st_k (by omega), st_k (by omega), y0 _ (by omega)]), ?_, RelS_m hS (fun a ha => by rw [st_ne _ _ _ (by omega), f1 _ (by omega)]) (fun a j ha => by rw [st_k (by omega), st_k (by omega), st_k (by omega), st_k (by omega), ya a (by omega) (by omega)]), RelW_m hW (fun j => by rw [st_k (by omega), st_k (by omega), st_k (by omega), st_k (by omega), ya 13 (by omega) (by omega)])⟩
  · refine ⟨?_, ?_, ?_, ?_, ?_⟩ <;> rw [st_k (by omega), st_k (by omega), st_k (by omega), st_k (by omega), y0 _ (by omega)]
  · refine Or.inr ⟨st_e, by rw [st_k (by omega), st_k (by omega), st_k (by omega), st_k (by omega), i1 0 (by omega), st_e]; rfl, C, lw, h1, h2, h3.1, Int.le_refl _, fun _ _ => ⟨rfl, rfl⟩, courtR_of (c1 C h1 h4) (fun a ha hb => st_ne _ _ _ (by omega)), by rw [st_k (by omega), l1]; exact h5, ?_, fun p hp => ?_⟩
    · simp (disch := omega) only [st_e, st_k, st_j]
      exact ⟨h6.1, h6.2.1, h6.2.2.1, h7⟩
    · have hc := okC_n h1
      rw [st_k (by omega), st_k (by omega), st_k (by omega), st_k (by omega), st_k (by omega), st_k (by omega), st_k (by omega), st_k (by omega), i2 _ (by omega), i2 _ (by omega)]
      obtain ⟨_, _, r3, r4⟩ := h6.2.2.2 p hp
      exact ⟨r3, r4⟩
