theorem Rel_sh {N : Nat} {ln : Nat → Nat} {x m x' m' : Sg} (h : Rel N ln x m) (a1 : ∀ a, (a < 16 ∨ 24 < a) → (a < 36 ∨ 44 ≤ a) → x' a = x a) (b1 : ∀ a j, 0 < a → a < 14 → a ≠ 9 → a ≠ 10 → a ≠ 11 → m' a j = m a j) (b2 : ∀ j, j < 19 → m' 0 j = m 0 j) (hS' : RelS x' m') : Rel N ln x' m' := by
  obtain ⟨C, lw, cd, hC, hT, hI, hS, hW⟩ := h
  exact ⟨C, lw, cd, RelC_m hC (fun a ha => a1 a (by omega) (by omega)) (by rw [a1 0 (by omega) (by omega)]) (fun a j ha => b1 a j (by omega) (by omega) (by omega) (by omega) (by omega)) (by refine ⟨?_, ?_, ?_, ?_, ?_⟩ <;> exact b2 _ (by omega)), RelT_m hT (a1 31 (by omega) (by omega)) (by rw [a1 30 (by omega) (by omega)]) (fun j => b1 4 j (by omega) (by omega) (by omega) (by omega) (by omega)) (b2 _ (by omega)), RelI_m hI (fun a ha => a1 a (by omega) (by omega)) (by rw [a1 0 (by omega) (by omega)]) (fun a j ha => b1 a j (by omega) (by omega) (by omega) (by omega) (by omega)) (b2 _ (by omega)), hS', RelW_m hW (fun j => b1 13 j (by omega) (by omega) (by omega) (by omega) (by omega))⟩
theorem RelS_put {x m x' m' : Sg} (h : RelS x m) {s : Nat} (a1 : ∀ a, 36 ≤ a → a ≤ 43 → a ≠ 36 + 2 * s → a ≠ 37 + 2 * s → x' a = x a) (b9 : ∀ j, j ≠ s → m' 9 j = m 9 j ∧ m' 10 j = m 10 j) (b11 : ∀ j, (j < 40 * s ∨ 40 * s + 40 ≤ j) → m' 11 j = m 11 j) (hs : s < 4 → ∃ so sz : Int, (-1 ≤ so ∧ so ≤ 2) ∧ (0 ≤ sz ∧ sz ≤ 40) ∧ (x' (36 + 2 * s) 0 = iI so ∧ m' 9 s = iI so) ∧ (x' (36 + 2 * s) 1 = iI sz ∧ m' 10 s = iI sz) ∧ ∀ i, i < 40 → x' (37 + 2 * s) i = m' 11 (40 * s + i)) : RelS x' m' := by
  intro t ht
  by_cases e : t = s
  · subst e; exact hs ht
  · obtain ⟨so, sz, h1, h2, h3, h4, h5⟩ := h t ht
    refine ⟨so, sz, h1, h2, ?_, ?_, fun i hi => ?_⟩
    · rw [a1 _ (by omega) (by omega) (by omega) (by omega), (b9 t e).1]; exact h3
    · rw [a1 _ (by omega) (by omega) (by omega) (by omega), (b9 t e).2]; exact h4
    · rw [a1 _ (by omega) (by omega) (by omega) (by omega), b11 _ (by omega)]; exact h5 i hi
theorem x_become {F N : Nat} {ln : Nat → Nat} (hF : 100 ≤ F) {k : Nat} {v : Int32} {n : Int} (hn : 0 ≤ n ∧ n ≤ 40) (σ : Sg) : ∃ σ', g_X3_become F N ln k v (iI n) σ = some σ' ∧ (∀ a, a ≠ k → a ≠ k + 1 → σ' a = σ a) ∧ σ' k 0 = v ∧ σ' k 1 = iI n ∧ ∀ i, i < 40 → σ' (k + 1) i = iI 0 := by
  unfold g_X3_become
  simp only [wrF_i]
  have e1 : mxI 0 (mnI (iI n) 40) = iI n := by
    rw [li_40, mnI_i (by omega) (by omega), if_neg (by omega), li_0, mxI_i (by omega) (by omega)]
    by_cases h : (0 : Int) < n
    · rw [if_pos h]
    · rw [if_neg h, show n = 0 by omega]
  rw [e1]
  obtain ⟨s', e, i1, i2⟩ := loop_up (fun n i s => g_X3_become_l21 F N ln k n (iI (i : Int)) s) (fun i s => (∀ a, a ≠ k + 1 → s a = st (st σ k 0 v) k 1 (iI n) a) ∧ (∀ p, p < i → s (k + 1) p = iI 0)) 40 (by
    intro n i s hi ⟨i1, i2⟩
    rw [g_X3_become_l21, li_40, if_neg (by rw [iI_le (by omega) (by omega)]; omega), wrA_i (by omega), li_1, iI_add, Int.toNat_natCast]
    refine ⟨_, by rw [show ((i + 1 : Nat) : Int) = (i : Int) + 1 by omega], fun a ha => ?_, fun p hp => ?_⟩
    · rw [st_ne _ _ _ ha]; exact i1 a ha
    · by_cases hpi : p = i
      · subst hpi; rw [st_e]; rfl
      · rw [st_j hpi]; exact i2 p (by omega)) 40 0 (st (st σ k 0 v) k 1 (iI n)) F rfl ⟨fun _ _ => rfl, fun _ h => absurd h (by omega)⟩ (by omega)
  obtain ⟨q, hq⟩ : ∃ q, F - 40 = q + 1 := ⟨F - 41, by omega⟩
  refine ⟨s', ?_, fun a h1 h2 => ?_, ?_, ?_, i2⟩
  · refine e.trans ?_
    simp only [hq]
    rw [g_X3_become_l21, if_pos (by decide)]
  · rw [i1 a h2, st_ne _ _ _ h1, st_ne _ _ _ h1]
  · rw [i1 k (by omega), st_j (by omega), st_e]
  · rw [i1 k (by omega), st_e]
theorem m_zero {F : Nat} (hF : 100 ≤ F) {s : Nat} (hs : s < 4) (σ : Sg) : ∃ σ', g_X7_sheet_l70 F (iI (s : Int)) F 0 σ = some (σ', 1) ∧ (∀ a, a ≠ 11 → σ' a = σ a) ∧ (∀ j, (j < 40 * s ∨ 40 * s + 40 ≤ j) → σ' 11 j = σ 11 j) ∧ ∀ i, i < 40 → σ' 11 (40 * s + i) = iI 0 := by
  obtain ⟨s', e, i1, i2, i3⟩ := loop_up (fun n i t => g_X7_sheet_l70 F (iI (s : Int)) n (iI (i : Int)) t) (fun i t => (∀ a, a ≠ 11 → t a = σ a) ∧ (∀ j, (j < 40 * s ∨ 40 * s + 40 ≤ j) → t 11 j = σ 11 j) ∧ (∀ p, p < i → t 11 (40 * s + p) = iI 0)) 40 (by
    intro n i t hi ⟨i1, i2, i3⟩
    rw [g_X7_sheet_l70, if_neg (by rw [li_40, iI_le (by omega) (by omega)]; omega), li_40, iI_mul, iI_add, wrA_i (by omega), li_1, iI_add, show (40 * (s : Int) + (i : Int)).toNat = 40 * s + i by omega]
    refine ⟨_, by rw [show ((i + 1 : Nat) : Int) = (i : Int) + 1 by omega], fun a ha => ?_, fun j hj => ?_, fun p hp => ?_⟩
    · rw [st_ne _ _ _ ha]; exact i1 a ha
    · rw [st_j (by omega)]; exact i2 j hj
    · by_cases hpi : p = i
      · subst hpi; rw [st_e]; rfl
      · rw [st_j (by omega)]; exact i3 p (by omega)) 40 0 σ F rfl ⟨fun _ _ => rfl, fun _ _ => rfl, fun _ h => absurd h (by omega)⟩ (by omega)
  obtain ⟨q, hq⟩ : ∃ q, F - 40 = q + 1 := ⟨F - 41, by omega⟩
  refine ⟨s', ?_, i1, i2, i3⟩
  refine e.trans ?_
  simp only [hq]
  rw [g_X7_sheet_l70, if_pos (by decide)]
theorem sheet_t {F N : Nat} {ln : Nat → Nat} (hF : 100 ≤ F) {x m : Sg} (h : Rel N ln x m) {s : Nat} (hs : s < 4) {so n : Int} (h1 : -1 ≤ so ∧ so ≤ 2) (h2 : 0 ≤ n ∧ n ≤ 40) : Go N ln (bnV (g_X3_become F N ln (36 + 2 * s) (iI so) (iI n) x) fun s_9 => some (s_9, 1)) (g_X7_sheet_l70 F (iI (s : Int)) F 0 (st (st m 9 s (iI so)) 10 s (iI n))) := by
  obtain ⟨x', e1, f1, f2, f3, f4⟩ := x_become (F := F) (N := N) (ln := ln) hF (k := 36 + 2 * s) (v := iI so) h2 x
  obtain ⟨m', e2, g1, g2, g3⟩ := m_zero hF hs (st (st m 9 s (iI so)) 10 s (iI n))
  rw [e1, e2, bnV_s]
  have hS := h
  obtain ⟨C, lw, cd, -, -, -, hS, -⟩ := hS
  refine ⟨x', m', 1, rfl, rfl, Rel_sh h (fun a _ ha => f1 a (by omega) (by omega)) (fun a j h0 h1 h2 h3 h4 => by rw [g1 a h4, st_k h3, st_k h2]) (fun j hj => by rw [g1 0 (by omega), st_k (by omega), st_k (by omega)]) (RelS_put hS (s := s) (fun a _ _ h1 h2 => f1 a h1 (by omega)) (fun j hj => ⟨by rw [g1 9 (by omega), st_k (by omega), st_j hj], by rw [g1 10 (by omega), st_j hj, st_k (by omega)]⟩) (fun j hj => by rw [g2 j hj, st_k (by omega), st_k (by omega)]) fun _ => ⟨so, n, h1, h2, ⟨f2, by rw [g1 9 (by omega), st_k (by omega), st_e]⟩, ⟨f3, by rw [g1 10 (by omega), st_e]⟩, fun i hi => ?_⟩)⟩
  rw [g3 i hi, show 37 + 2 * s = 36 + 2 * s + 1 by omega]
  exact f4 i hi
theorem k_sheet {F N : Nat} {ln : Nat → Nat} (hF : 100 ≤ F) {x m : Sg} (h : Rel N ln x m) (a b c : Int32) : Go N ln (g_X6_sheet F N ln a b c x) (g_X7_sheet F a b c m) := by
  obtain ⟨za, ha, rfl⟩ := iI_ex a
  obtain ⟨zb, hb, rfl⟩ := iI_ex b
  obtain ⟨zc, hc, rfl⟩ := iI_ex c
  unfold g_X6_sheet g_X7_sheet
  rw [x_sheet ha, show g_X7_in F (iI za) 0 3 m = _ from m_in (b := 0) (c := 3) ha (by omega) (by omega), bnI_s, bnI_s, if01, if01]
  refine go_if Iff.rfl (fun q1 => ?_) fun _ => go_0 h
  obtain ⟨s, rfl⟩ : ∃ n : Nat, za = n := ⟨za.toNat, by omega⟩
  rw [show g_X7_in F (iI zb) (-1) 2 m = _ from m_in (b := -1) (c := 2) hb (by omega) (by omega), bnI_s, if01]
  by_cases q2 : zb = -1
  · subst q2
    rw [if_pos (by rfl), if_pos (by omega), if_pos (by rfl), rdS_i (by omega), Int.toNat_natCast]
    unfold g_X7_sheet_b32 g_X7_sheet_b44 g_X7_sheet_b66
    rw [if_pos (by rfl), wrA_i (by omega), if_pos (by rfl), wrA_i (by omega), Int.toNat_natCast]
    exact sheet_t hF h (s := s) (by omega) (so := -1) (n := 0) (by omega) (by omega)
  · have nb : ¬ iI zb = -1 := by rw [li_n1, iI_eq hb (by omega)]; exact q2
    rw [if_neg nb, x_sort hb, bnI_s, if01]
    refine go_if ⟨fun h => by omega, fun h => by omega⟩ (fun q3 => ?_) fun _ => go_0 h
    rw [if_neg nb]
    refine go_if Iff.rfl (fun q4 => ?_) fun _ => go_0 h
    rw [li_40, iI_le hc (by omega)] at q4
    unfold g_X7_sheet_b32
    rw [if_neg nb]
    refine go_if Iff.rfl (fun q5 => ?_) fun _ => go_0 h
    rw [li_0, iI_le (by omega) hc] at q5
    rw [rdS_i (by omega), Int.toNat_natCast]
    unfold g_X7_sheet_b44 g_X7_sheet_b66
    rw [wrA_i (by omega), if_neg nb, wrA_i (by omega), Int.toNat_natCast]
    exact sheet_t hF h (s := s) (by omega) (so := zb) (n := zc) (by omega) (by omega)
theorem k_cell {F N : Nat} {ln : Nat → Nat} (hF : 100 ≤ F) {x m : Sg} (h : Rel N ln x m) (a b c : Int32) : Go N ln (g_X6_cell F N ln a b c x) (g_X7_cell F a b c m) := by
  obtain ⟨za, ha, rfl⟩ := iI_ex a
  obtain ⟨zb, hb, rfl⟩ := iI_ex b
  obtain ⟨C, lw, cd, -, -, -, hS, -⟩ := id h
  unfold g_X6_cell g_X7_cell
  rw [x_sheet ha, show g_X7_in F (iI za) 0 3 m = _ from m_in (b := 0) (c := 3) ha (by omega) (by omega), bnI_s, bnI_s, if01, if01]
  refine go_if Iff.rfl (fun q1 => ?_) fun _ => go_0 h
  obtain ⟨s, rfl⟩ : ∃ n : Nat, za = n := ⟨za.toNat, by omega⟩
  obtain ⟨so, sz, h1, h2, ⟨h3, h4⟩, ⟨h5, h6⟩, h7⟩ := hS s (by omega)
  rw [rdS_i (by omega), Int.toNat_natCast, x_missing h3 h1, bnI_s, rdA_i (by omega), Int.toNat_natCast, h4]
  by_cases q2 : so = -1
  · rw [if_pos q2, if_neg (by decide), if_pos (by rw [q2]; rfl)]; exact go_0 h
  · rw [if_neg q2, if_pos rfl, if_neg (by rw [li_n1, iI_eq (by omega) (by omega)]; exact q2), rdS_i (by omega), Int.toNat_natCast, x_place h5 h2 hb, bnI_s, if01, rdA_i (by omega), Int.toNat_natCast, h6, li_1, iI_sub, show g_X7_in F (iI zb) 0 (iI (sz - 1)) m = _ from m_in (b := 0) (c := sz - 1) hb (by omega) (by omega), bnI_s, if01]
    refine go_if ⟨fun h => by omega, fun h => by omega⟩ (fun q3 => ?_) fun _ => go_0 h
    obtain ⟨i, rfl⟩ : ∃ n : Nat, zb = n := ⟨zb.toNat, by omega⟩
    unfold g_X3_write
    rw [rdS_i (by omega), Int.toNat_natCast, x_place h5 h2 hb, bnI_s, if01, if_pos q3, h3, rdA_i (by omega), rdA_i (by omega), Int.toNat_natCast, h4]
    have fin : ∀ v : Int32, Go N ln (bnV (g_X3_write_b39 F N ln (36 + 2 * s) v (iI (i : Int)) x) fun s_10 => some (s_10, iI 1)) (g_X7_cell_b84 F v (40 * iI (s : Int) + iI (i : Int)) m) := by
      intro v
      unfold g_X3_write_b39 g_X7_cell_b84
      rw [wrA_i (by omega), bnV_s, li_40, iI_mul, iI_add, wrA_i (by omega), Int.toNat_natCast, show (40 * (s : Int) + (i : Int)).toNat = 40 * s + i by omega]
      refine ⟨_, _, _, rfl, rfl, Rel_sh h (fun a _ ha => st_ne _ _ _ (by omega)) (fun a j _ _ _ _ h3 => st_k h3) (fun j _ => st_k (by omega)) (RelS_put hS (s := s) (fun a _ _ h1 h2 => st_ne _ _ _ (by omega)) (fun j hj => ⟨st_k (by omega), st_k (by omega)⟩) (fun j hj => st_j (by omega)) fun _ => ⟨so, sz, h1, h2, ⟨by rw [st_k (by omega)]; exact h3, by rw [st_k (by omega)]; exact h4⟩, ⟨by rw [st_k (by omega)]; exact h5, by rw [st_k (by omega)]; exact h6⟩, fun j hj => ?_⟩)⟩
      by_cases hji : j = i
      · subst hji; rw [st_e, show 37 + 2 * s = 36 + 2 * s + 1 by omega, st_e]
      · rw [st_j hji, st_j (by omega)]; exact h7 j hj
    by_cases q4 : iI so = 0
    · rw [if_pos q4, if_pos q4]; exact fin _
    · rw [if_neg q4, if_neg q4]
      by_cases q5 : iI so = iI 1
      · rw [if_pos q5, if_pos (show iI so = 1 from q5)]; exact fin _
      · rw [if_neg q5, if_neg (show ¬ iI so = 1 from q5)]; exact fin _
