theorem m_l0 {F : Nat} {B : Nat → Int} {tl : Nat} : ∀ (k p n : Nat) (σ : Sg), p + k = tl → k < n → tpM B tl σ → σ 0 19 = iI (p : Int) → ∃ τ, g_X7_next_l0 F n σ = g_X7_next_b52 F τ ∧ τ 0 19 = iI ((spS blS B k p : Nat) : Int) ∧ frP (fun a j => a = 0 ∧ j = 19) σ τ := by
  intro k
  induction k with
  | zero =>
    intro p n σ hp hn ht hq
    obtain ⟨n, rfl⟩ : ∃ q, n = q + 1 := ⟨n - 1, by omega⟩
    obtain ⟨t1, t2, t3, t4⟩ := id ht
    rw [g_X7_next_l0, t2, hq, if_pos (by rw [iI_le (by omega) (by omega)]; omega)]
    exact ⟨σ, rfl, hq, frP_r _ σ⟩
  | succ k ih =>
    intro p n σ hp hn ht hq
    obtain ⟨n, rfl⟩ : ∃ q, n = q + 1 := ⟨n - 1, by omega⟩
    obtain ⟨t1, t2, t3, t4⟩ := id ht
    have b := t3 p (by omega)
    have fr : frP (fun a j => a = 0 ∧ j = 19) σ (st σ 0 19 (iI ((p : Int) + 1))) := frP_s (frP_r _ σ) ⟨rfl, rfl⟩
    obtain ⟨τ, e1, e2, e3⟩ := ih (p + 1) n (st σ 0 19 (iI ((p : Int) + 1))) (by omega) (by omega) (tpM_of ht fr (fun a j q => by omega)) st_e
    rw [g_X7_next_l0, t2, hq, if_neg (by rw [iI_le (by omega) (by omega)]; omega), rdA_i (by omega), rdA_i (by omega), Int.toNat_natCast, b.2, spS]
    unfold g_X7_next_b39
    rw [wrF_i, hq, li_1, iI_add, li_32, li_10, ite_eq (by omega) (by omega), ite_eq (by omega) (by omega)]
    by_cases h1 : B p = 32
    · rw [if_pos h1, if_pos (by simp [blS, h1])]
      exact ⟨τ, e1, e2, frP_t fr e3⟩
    · rw [if_neg h1]
      by_cases h2 : B p = 10
      · rw [if_pos h2, if_pos (by simp [blS, h2])]
        exact ⟨τ, e1, e2, frP_t fr e3⟩
      · rw [if_neg h2, if_neg (by simp [blS, h1, h2])]
        exact ⟨σ, rfl, hq, frP_r _ σ⟩
theorem m_inL {F : Nat} {v : Int} (h : 0 ≤ v ∧ v ≤ 255) {σ : Sg} : g_X7_in F (iI v) 97 122 σ = some (σ, if leS v = true then 1 else 0) := by
  have := m_in (F := F) (a := v) (b := 97) (c := 122) (σ := σ) (by omega) (by omega) (by omega)
  refine Eq.trans this ?_
  unfold leS
  by_cases q : 97 ≤ v ∧ v ≤ 122
  · rw [if_pos q, if_pos (decide_eq_true q)]
  · rw [if_neg q, if_neg (fun w => q (of_decide_eq_true w))]
theorem m_inD {F : Nat} {v : Int} (h : 0 ≤ v ∧ v ≤ 255) {σ : Sg} : g_X7_in F (iI v) 48 57 σ = some (σ, if diS v = true then 1 else 0) := by
  have := m_in (F := F) (a := v) (b := 48) (c := 57) (σ := σ) (by omega) (by omega) (by omega)
  refine Eq.trans this ?_
  unfold diS
  by_cases q : 48 ≤ v ∧ v ≤ 57
  · rw [if_pos q, if_pos (decide_eq_true q)]
  · rw [if_neg q, if_neg (fun w => q (of_decide_eq_true w))]
theorem m_l103 {F : Nat} {B : Nat → Int} {tl : Nat} : ∀ (k p n : Nat) (σ : Sg), p + k = tl → k < n → tpM B tl σ → σ 0 19 = iI (p : Int) → ∃ τ, g_X7_next_l103 F n σ = g_X7_next_b146 F τ ∧ τ 0 19 = iI ((spS leS B k p : Nat) : Int) ∧ frP (fun a j => a = 0 ∧ j = 19) σ τ := by
  intro k
  induction k with
  | zero =>
    intro p n σ hp hn ht hq
    obtain ⟨n, rfl⟩ : ∃ q, n = q + 1 := ⟨n - 1, by omega⟩
    obtain ⟨t1, t2, t3, t4⟩ := id ht
    rw [g_X7_next_l103, t2, hq, if_pos (by rw [iI_le (by omega) (by omega)]; omega)]
    exact ⟨σ, rfl, hq, frP_r _ σ⟩
  | succ k ih =>
    intro p n σ hp hn ht hq
    obtain ⟨n, rfl⟩ : ∃ q, n = q + 1 := ⟨n - 1, by omega⟩
    obtain ⟨t1, t2, t3, t4⟩ := id ht
    have b := t3 p (by omega)
    have fr : frP (fun a j => a = 0 ∧ j = 19) σ (st σ 0 19 (iI ((p : Int) + 1))) := frP_s (frP_r _ σ) ⟨rfl, rfl⟩
    obtain ⟨τ, e1, e2, e3⟩ := ih (p + 1) n (st σ 0 19 (iI ((p : Int) + 1))) (by omega) (by omega) (tpM_of ht fr (fun a j q => by omega)) st_e
    rw [g_X7_next_l103, t2, hq, if_neg (by rw [iI_le (by omega) (by omega)]; omega), rdA_i (by omega), Int.toNat_natCast, b.2, m_inL b.1, bnI_s, if01, spS]
    by_cases h : leS (B p) = true
    · rw [if_pos h, if_pos h, wrF_i, hq, li_1, iI_add]
      exact ⟨τ, e1, e2, frP_t fr e3⟩
    · rw [if_neg h, if_neg h]
      exact ⟨σ, rfl, hq, frP_r _ σ⟩
theorem m_l230 {F : Nat} {B : Nat → Int} {tl p : Nat} : ∀ (k c n : Nat) (σ : Sg), p + c + k = tl → k < n → tpM B tl σ → σ 0 19 = iI ((p + c : Nat) : Int) → (c ≤ 4 → σ 0 22 = iI (nvS B p c)) → ∃ τ d, spS diS B k (p + c) = p + d ∧ g_X7_next_l230 F n (iI (c : Int)) σ = g_X7_next_b309 F (iI (d : Int)) τ ∧ τ 0 19 = iI ((p + d : Nat) : Int) ∧ (d ≤ 4 → τ 0 22 = iI (nvS B p d)) ∧ frP (fun a j => a = 0 ∧ (j = 19 ∨ j = 22)) σ τ := by
  intro k
  induction k with
  | zero =>
    intro c n σ hp hn ht hq hv
    obtain ⟨n, rfl⟩ : ∃ q, n = q + 1 := ⟨n - 1, by omega⟩
    obtain ⟨t1, t2, t3, t4⟩ := id ht
    rw [g_X7_next_l230, t2, hq, if_pos (by rw [iI_le (by omega) (by omega)]; omega)]
    exact ⟨σ, c, rfl, rfl, hq, hv, frP_r _ σ⟩
  | succ k ih =>
    intro c n σ hp hn ht hq hv
    obtain ⟨n, rfl⟩ : ∃ q, n = q + 1 := ⟨n - 1, by omega⟩
    obtain ⟨t1, t2, t3, t4⟩ := id ht
    have b := t3 (p + c) (by omega)
    rw [g_X7_next_l230, t2, hq, if_neg (by rw [iI_le (by omega) (by omega)]; omega), rdA_i (by omega), Int.toNat_natCast, b.2, m_inD b.1, bnI_s, if01, spS]
    by_cases h : diS (B (p + c)) = true
    · rw [if_pos h, if_pos h, li_4, ite_le (by omega) (by omega)]
      have go : ∀ w : Int32, (c + 1 ≤ 4 → w = iI (nvS B p (c + 1))) → ∃ τ d, spS diS B k (p + c + 1) = p + d ∧ g_X7_next_b290 F (fun v2_ σ_ => g_X7_next_l230 F n v2_ σ_) (iI (c : Int)) w σ = g_X7_next_b309 F (iI (d : Int)) τ ∧ τ 0 19 = iI ((p + d : Nat) : Int) ∧ (d ≤ 4 → τ 0 22 = iI (nvS B p d)) ∧ frP (fun a j => a = 0 ∧ (j = 19 ∨ j = 22)) σ τ := by
        intro w hw
        unfold g_X7_next_b290
        rw [wrF_i, wrF_i, st_j (show (19 : Nat) ≠ 22 by omega), hq, li_1, iI_add, iI_add]
        have fr : frP (fun a j => a = 0 ∧ (j = 19 ∨ j = 22)) σ (st (st σ 0 22 w) 0 19 (iI (((p + c : Nat) : Int) + 1))) := frP_s (frP_s (frP_r _ σ) ⟨rfl, Or.inr rfl⟩) ⟨rfl, Or.inl rfl⟩
        obtain ⟨τ, d, e0, e1, e2, e3, e4⟩ := ih (c + 1) n _ (by omega) (by omega) (tpM_of ht fr (fun a j q => by omega)) (by rw [st_e]; rfl) (fun q => by rw [st_j (by omega), st_e]; exact hw q)
        exact ⟨τ, d, e0, e1, e2, e3, frP_t fr e4⟩
      by_cases h4 : 4 ≤ c
      · rw [if_pos (by omega)]
        exact go 0 (fun q => by omega)
      · rw [if_neg (by omega), hq, rdA_i (by omega), Int.toNat_natCast, b.2, hv (by omega), li_10, iI_mul, iI_add, li_48, iI_sub]
        exact go _ (fun _ => rfl)
    · rw [if_neg h, if_neg h]
      exact ⟨σ, c, rfl, rfl, hq, hv, frP_w (frP_r (fun _ _ => False) σ) (fun _ _ q => q.elim)⟩
theorem m_next {F : Nat} (hF : 300 ≤ F) {B : Nat → Int} {tl q : Nat} (hq : q ≤ tl) {σ : Sg} (ht : tpM B tl σ) (h5 : σ 0 19 = iI (q : Int)) : ∃ τ, g_X7_next F σ = some τ ∧ frP (fun a j => a = 0 ∧ 19 ≤ j ∧ j ≤ 22) σ τ ∧ τ 0 19 = iI ((tkE B tl q : Nat) : Int) ∧ τ 0 20 = iI ((tkB B tl q : Nat) : Int) ∧ τ 0 21 = iI (mtS (tkT B tl q)) ∧ (tkT B tl q = 2 → τ 0 22 = iI (tkN B tl q)) ∧ (1000 ≤ tkT B tl q → tkT B tl q < 1003 → τ 0 22 = iI (tkT B tl q - 1000)) ∧ (1006 ≤ tkT B tl q → τ 0 22 = iI (tkT B tl q - 1006)) := by
  have hb := tkB_b (B := B) hq
  obtain ⟨σ1, e1, p1, f1⟩ := m_l0 (F := F) (tl - q) q F σ (by omega) (by have := ht.1; omega) ht h5
  have f1' : frP (fun a j => a = 0 ∧ 19 ≤ j ∧ j ≤ 22) σ σ1 := frP_w f1 (fun a j w => by omega)
  have hE : spS blS B (tl - q) q = tkB B tl q := rfl
  rw [hE] at p1
  unfold g_X7_next
  rw [e1]
  unfold g_X7_next_b52 tkE tkT tkN tkX
  generalize tkB B tl q = p at *
  have f2 : frP (fun a j => a = 0 ∧ 19 ≤ j ∧ j ≤ 22) σ (st (st (st σ1 0 20 (iI (p : Int))) 0 21 0) 0 22 0) := frP_s (frP_s (frP_s f1' (by omega)) (by omega)) (by omega)
  have t2 := tpM_of ht f2 (fun a j w => by omega)
  obtain ⟨a1, a2, a3, a4⟩ := id t2
  have p2 : (st (st (st σ1 0 20 (iI (p : Int))) 0 21 0) 0 22 0) 0 19 = iI (p : Int) := by rw [st_j (by omega), st_j (by omega), st_j (by omega)]; exact p1
  have p3 : (st (st (st σ1 0 20 (iI (p : Int))) 0 21 0) 0 22 0) 0 20 = iI (p : Int) := by rw [st_j (by omega), st_j (by omega), st_e]
  rw [wrF_i, wrF_i, wrF_i, p1, a2, p2, ite_eq (by omega) (by omega)]
  by_cases h1 : tl ≤ p
  · have e : p = tl := by omega
    rw [if_pos (by omega), if_pos h1]
    refine ⟨_, rfl, f2, by rw [p2, e], p3, by rw [st_j (by omega), st_e]; rfl, fun w => ?_, fun w => ?_, fun w => ?_⟩
    · exact absurd w (by show ¬ (0 : Int) = 2; omega)
    · exact absurd w (by show ¬ (1000 : Int) ≤ 0; omega)
    · exact absurd w (by show ¬ (1006 : Int) ≤ 0; omega)
  · rw [if_neg (by omega), if_neg h1, rdA_i (by omega), Int.toNat_natCast]
    have b := a3 p (by omega)
    rw [b.2, m_inL b.1, bnI_s, if01]
    by_cases h2 : leS (B p) = true
    · rw [if_pos h2, if_pos h2]
      obtain ⟨σ3, e3, p4, f3⟩ := m_l103 (F := F) (B := B) (tl - p) p F _ (by omega) (by omega) t2 p2
      have f3' := frP_t f2 (frP_w f3 (Q := fun a j => a = 0 ∧ 19 ≤ j ∧ j ≤ 22) (fun a j w => by omega))
      have t3 := tpM_of ht f3' (fun a j w => by omega)
      have q7 : σ3 0 20 = iI (p : Int) := by rw [f3 0 20 (by omega)]; exact p3
      have sb := spS_b leS B (tl - p) p
      have si := spS_in leS B (tl - p) p
      have xw := m_words (F := F) (by omega) (p := p) (e := spS leS B (tl - p) p) (by omega) (by omega) t3 12 0 F (by omega) (by omega)
      rw [fw_8 si] at xw
      have wb : wdT B p (spS leS B (tl - p) p) ≤ 12 := by have := fwS_b (okW B p (spS leS B (tl - p) p)) 12 0; unfold wdT; omega
      rw [e3]
      unfold g_X7_next_b146 g_X7_wordFrom
      rw [q7, p4, show (0 : Int32) = iI ((0 : Nat) : Int) from rfl, xw, bnI_s]
      generalize wdT B p (spS leS B (tl - p) p) = w at *
      have fin : ∀ (k u v : Int), (if 3 ≤ iI k then g_X7_next_b211 F (iI k - 3) (st σ3 0 21 (iI u)) else g_X7_next_b211 F (iI k) (st σ3 0 21 (iI u))) = g_X7_next_b211 F (iI v) (st σ3 0 21 (iI u)) → ∃ τ, g_X7_next_b195 F (iI k) (iI u) σ3 = some τ ∧ frP (fun a j => a = 0 ∧ 19 ≤ j ∧ j ≤ 22) σ τ ∧ τ 0 19 = iI ((spS leS B (tl - p) p : Nat) : Int) ∧ τ 0 20 = iI (p : Int) ∧ τ 0 21 = iI u ∧ τ 0 22 = iI v := by
        intro k u v hk
        unfold g_X7_next_b195
        rw [wrF_i, hk]
        unfold g_X7_next_b211
        rw [wrF_i]
        exact ⟨_, rfl, frP_s (frP_s f3' (by omega)) (by omega), by rw [st_j (by omega), st_j (by omega)]; exact p4, by rw [st_j (by omega), st_j (by omega)]; exact q7, by rw [st_j (by omega), st_e], st_e⟩
      have fin3 : ∀ k u : Int, 3 ≤ k ∧ k ≤ 12 → (if 3 ≤ iI k then g_X7_next_b211 F (iI k - 3) (st σ3 0 21 (iI u)) else g_X7_next_b211 F (iI k) (st σ3 0 21 (iI u))) = g_X7_next_b211 F (iI (k - 3)) (st σ3 0 21 (iI u)) := fun k u hk => by rw [if_pos (by rw [li_3, iI_le (by omega) (by omega)]; omega), li_3, iI_sub]
      have fin0 : ∀ k u : Int, 0 ≤ k ∧ k < 3 → (if 3 ≤ iI k then g_X7_next_b211 F (iI k - 3) (st σ3 0 21 (iI u)) else g_X7_next_b211 F (iI k) (st σ3 0 21 (iI u))) = g_X7_next_b211 F (iI k) (st σ3 0 21 (iI u)) := fun k u hk => by rw [if_neg (by rw [li_3, iI_le (by omega) (by omega)]; omega)]
      by_cases w12 : w = 12
      · rw [if_pos w12, show piS w = 12 by rw [w12]; rfl, if_pos (by decide), if_pos (by decide), if_pos (by decide)]
        obtain ⟨τ, r1, r2, r3, r4, r5, r6⟩ := fin 12 (-1) 9 (fin3 12 _ (by omega))
        exact ⟨τ, r1, r2, r3, r4, r5, fun w => absurd w (by show ¬ (1 : Int) = 2; omega), fun w => absurd w (by show ¬ (1000 : Int) ≤ 1; omega), fun w => absurd w (by show ¬ (1006 : Int) ≤ 1; omega)⟩
      · rw [if_neg w12]
        by_cases w3 : w < 3
        · have ep : piS w = w := if_pos w3
          rw [ep, if_neg (by rw [li_3, iI_le (by omega) (by omega)]; omega)]
          obtain ⟨τ, r1, r2, r3, r4, r5, r6⟩ := fin (w : Int) 3 w (fin0 _ _ (by omega))
          refine ⟨τ, r1, r2, r3, r4, ?_, fun q => ?_, fun _ _ => ?_, fun q => ?_⟩
          · rw [r5]; congr 1; unfold mtS; show (3 : Int) = if 1000 + (w : Int) = 0 then 0 else if 1000 + (w : Int) = 1 then -1 else if 1000 + (w : Int) = 2 then 1 else if 1000 + (w : Int) < 1000 then 1000 + (w : Int) else if 1000 + (w : Int) < 1003 then 3 else if 1000 + (w : Int) < 1006 then 1000 + (w : Int) - 999 else 2
            rw [if_neg (by omega), if_neg (by omega), if_neg (by omega), if_neg (by omega), if_pos (by omega)]
          · exact absurd q (by show ¬ 1000 + (w : Int) = 2; omega)
          · rw [r6]; congr 1; show (w : Int) = 1000 + (w : Int) - 1000; omega
          · exact absurd q (by show ¬ 1006 ≤ 1000 + (w : Int); omega)
        · by_cases w6 : w < 6
          · have ep : piS w = w + 6 := by unfold piS; rw [if_neg w3, if_pos w6]
            rw [ep, if_pos (by rw [li_3, iI_le (by omega) (by omega)]; omega), if_pos (by rw [li_9, iI_le (by omega) (by omega)]; omega), if_neg (by rw [li_12, iI_eq (by omega) (by omega)]; omega), li_4, iI_add, li_9, iI_sub]
            obtain ⟨τ, r1, r2, r3, r4, r5, r6⟩ := fin ((w + 6 : Nat) : Int) (4 + ((w + 6 : Nat) : Int) - 9) _ (fin3 _ _ (by omega))
            refine ⟨τ, r1, r2, r3, r4, ?_, fun q => ?_, fun _ q => ?_, fun q => ?_⟩
            · rw [r5]; congr 1; unfold mtS; show (4 + ((w + 6 : Nat) : Int) - 9) = if 1000 + (w : Int) = 0 then 0 else if 1000 + (w : Int) = 1 then -1 else if 1000 + (w : Int) = 2 then 1 else if 1000 + (w : Int) < 1000 then 1000 + (w : Int) else if 1000 + (w : Int) < 1003 then 3 else if 1000 + (w : Int) < 1006 then 1000 + (w : Int) - 999 else 2
              rw [if_neg (by omega), if_neg (by omega), if_neg (by omega), if_neg (by omega), if_neg (by omega), if_pos (by omega)]; omega
            · exact absurd q (by show ¬ 1000 + (w : Int) = 2; omega)
            · exact absurd q (by show ¬ 1000 + (w : Int) < 1003; omega)
            · exact absurd q (by show ¬ 1006 ≤ 1000 + (w : Int); omega)
          · have ep : piS w = w - 3 := by unfold piS; rw [if_neg w3, if_neg w6, if_pos (by omega)]
            rw [ep, if_pos (by rw [li_3, iI_le (by omega) (by omega)]; omega), if_neg (by rw [li_9, iI_le (by omega) (by omega)]; omega)]
            obtain ⟨τ, r1, r2, r3, r4, r5, r6⟩ := fin ((w - 3 : Nat) : Int) 2 _ (fin3 _ _ (by omega))
            refine ⟨τ, r1, r2, r3, r4, ?_, fun q => ?_, fun _ q => ?_, fun q => ?_⟩
            · rw [r5]; congr 1; unfold mtS; show (2 : Int) = if 1000 + (w : Int) = 0 then 0 else if 1000 + (w : Int) = 1 then -1 else if 1000 + (w : Int) = 2 then 1 else if 1000 + (w : Int) < 1000 then 1000 + (w : Int) else if 1000 + (w : Int) < 1003 then 3 else if 1000 + (w : Int) < 1006 then 1000 + (w : Int) - 999 else 2
              rw [if_neg (by omega), if_neg (by omega), if_neg (by omega), if_neg (by omega), if_neg (by omega), if_neg (by omega)]
            · exact absurd q (by show ¬ 1000 + (w : Int) = 2; omega)
            · exact absurd q (by show ¬ 1000 + (w : Int) < 1003; omega)
            · rw [r6]; congr 1; show ((w - 3 : Nat) : Int) - 3 = 1000 + (w : Int) - 1006; omega
    · rw [if_neg h2, if_neg h2, m_inD b.1, bnI_s, if01]
      by_cases h3 : diS (B p) = true
      · rw [if_pos h3, if_pos h3]
        obtain ⟨σ3, d, e0, e3, p4, v4, f3⟩ := m_l230 (F := F) (B := B) (p := p) (tl - p) 0 F _ (by omega) (by omega) t2 p2 (fun _ => by rw [st_e]; rfl)
        have f3' := frP_t f2 (frP_w f3 (Q := fun a j => a = 0 ∧ 19 ≤ j ∧ j ≤ 22) (fun a j w => by omega))
        have q7 : σ3 0 20 = iI (p : Int) := by rw [f3 0 20 (by omega)]; exact p3
        have sb := spS_b diS B (tl - p) p
        rw [Nat.add_zero] at e0
        rw [show (0 : Int32) = iI ((0 : Nat) : Int) from rfl] at *
        rw [e3]
        unfold g_X7_next_b309 g_X7_next_b320
        rw [li_4, ite_le (by omega) (by omega), e0, show p + d - p = d by omega]
        by_cases h4 : 4 < d
        · rw [if_neg (by omega), if_pos h4, wrF_i]
          refine ⟨_, rfl, frP_s f3' (by omega), ?_, ?_, by rw [st_e]; rfl, fun w => ?_, fun w => ?_, fun w => ?_⟩
          · rw [st_j (by omega)]; exact p4
          · rw [st_j (by omega)]; exact q7
          · exact absurd w (by show ¬ (1 : Int) = 2; omega)
          · exact absurd w (by show ¬ (1000 : Int) ≤ 1; omega)
          · exact absurd w (by show ¬ (1006 : Int) ≤ 1; omega)
        · rw [if_pos (by omega), if_neg h4, wrF_i]
          refine ⟨_, rfl, frP_s f3' (by omega), ?_, ?_, by rw [st_e]; rfl, fun w => ?_, fun w => ?_, fun w => ?_⟩
          · rw [st_j (by omega)]; exact p4
          · rw [st_j (by omega)]; exact q7
          · rw [st_j (by omega)]; exact v4 (by omega)
          · exact absurd w (by show ¬ (1000 : Int) ≤ 2; omega)
          · exact absurd w (by show ¬ (1006 : Int) ≤ 2; omega)
      · rw [if_neg h3, if_neg h3]
        have fin : ∀ u v : Int, mtS v = u → v ≠ 2 → v < 1000 → ∃ τ, g_X7_next_b390 F (iI u) (st (st (st σ1 0 20 (iI (p : Int))) 0 21 0) 0 22 0) = some τ ∧ frP (fun a j => a = 0 ∧ 19 ≤ j ∧ j ≤ 22) σ τ ∧ τ 0 19 = iI ((p + 1 : Nat) : Int) ∧ τ 0 20 = iI (p : Int) ∧ τ 0 21 = iI (mtS v) ∧ (v = 2 → τ 0 22 = iI 0) ∧ (1000 ≤ v → v < 1003 → τ 0 22 = iI (v - 1000)) ∧ (1006 ≤ v → τ 0 22 = iI (v - 1006)) := by
          intro u v hv n2 n3
          unfold g_X7_next_b390
          rw [wrF_i, wrF_i, st_j (show (19 : Nat) ≠ 21 by omega), p2, li_1, iI_add]
          refine ⟨_, rfl, frP_s (frP_s f2 (by omega)) (by omega), by rw [st_e]; rfl, by rw [st_j (by omega), st_j (by omega)]; exact p3, by rw [st_j (by omega), st_e, hv], fun w => absurd w n2, fun w => absurd w (by omega), fun w => absurd w (by omega)⟩
        unfold g_X7_next_b374 g_X7_next_b379
        rw [if_neg (show ¬ (1 : Int32) = 0 by decide), if_pos (show (0 : Int32) = 0 from rfl), show (-1 : Int32) = iI (-1) from rfl, li_40, li_41, li_59, li_43, li_45, li_42, li_60, li_61, ite_eq (by omega) (by omega), ite_eq (by omega) (by omega), ite_eq (by omega) (by omega), ite_eq (by omega) (by omega), ite_eq (by omega) (by omega), ite_eq (by omega) (by omega), ite_eq (by omega) (by omega), ite_eq (by omega) (by omega)]
        by_cases h4 : siS (B p) = true
        · rw [if_pos h4]
          have s4 := of_decide_eq_true h4
          have mt : mtS (B p) = B p := by unfold mtS; rw [if_neg (by omega), if_neg (by omega), if_neg (by omega), if_pos (by omega)]
          have go := fin (B p) (B p) mt (by omega) (by omega)
          rcases s4 with q | q | q | q | q | q | q | q <;> (rw [q] at go ⊢; exact go)
        · rw [if_neg h4]
          have s4 : ¬ (B p = 40 ∨ B p = 41 ∨ B p = 59 ∨ B p = 43 ∨ B p = 45 ∨ B p = 42 ∨ B p = 60 ∨ B p = 61) := fun q => h4 (decide_eq_true q)
          rw [if_neg (by omega), if_neg (by omega), if_neg (by omega), if_neg (by omega), if_neg (by omega), if_neg (by omega), if_neg (by omega), if_neg (by omega)]
          exact fin (-1) 1 rfl (by omega) (by omega)
