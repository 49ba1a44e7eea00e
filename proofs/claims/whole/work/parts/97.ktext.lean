theorem gd_l {l r : List Int} {j : Nat} (h : j < l.length) : (l ++ r).getD j 0 = l.getD j 0 := by
  simp only [List.getD, List.getElem?_append_left h]
theorem gd_r {l r : List Int} {j : Nat} : (l ++ r).getD (l.length + j) 0 = r.getD j 0 := by
  simp only [List.getD, List.getElem?_append_right (Nat.le_add_right _ _), Nat.add_sub_cancel_left]
theorem Rel_T {C : CD} {lw : Nat} {cd : Nat → Nat → List Int} {N : Nat} {ln : Nat → Nat} {x m x' m' : Sg} (hC : RelC C lw cd N ln x m) (hI : RelI C N x m) (hS : RelS x m) (hW : RelW m)
    (fx : ∀ a j, ¬ (a = 30 ∨ a = 32 ∨ a = 33 ∨ (a = 0 ∧ j = 8) ∨ 42 + 3 * N ≤ a) → x' a j = x a j) (fm : frP (ptS N) m m') (h30 : x' 30 1 = 0) (h7 : m' 0 7 = 0) {cd' : Nat → Nat → List Int} {N' : Nat} {ln' : Nat → Nat} (hN : N ≤ N' ∧ N' ≤ 6) (h08 : x' 0 8 = iI (N' : Int)) (h10 : m' 0 10 = iI (N' : Int))
    (hcd : ∀ t, t < N' → t < N ∨ txR ln' x' m' t (cd' t)) (hln : ∀ t, t < N → ln' t = ln t ∧ cd' t = cd t) : Rel N' ln' x' m' := by
  have gm : ∀ a j, ¬ ((a = 0 ∧ 19 ≤ j ∧ j ≤ 27) ∨ a = 14 ∨ (a = 5 ∧ 200 * N ≤ j ∧ j < 200 * N + 200) ∨ (a = 6 ∧ 4 * N ≤ j ∧ j < 4 * N + 4) ∨ (a = 0 ∧ (j = 7 ∨ j = 10))) → m' a j = m a j := fun a j h => fm a j (fun w => by unfold ptS pmS at w; exact h (by omega))
  obtain ⟨h1, h2, h3, h4, h5, h6, h7', h8, h9, hx⟩ := hC
  have gx : ∀ a, ¬ (a = 0 ∨ a = 30 ∨ a = 32 ∨ a = 33 ∨ 42 + 3 * N ≤ a) → x' a = x a := fun a h => by
    funext j
    exact fx a j (by omega)
  refine ⟨C, lw, cd', ⟨h1, h2, ⟨by omega, hN.2⟩, courtR_of h4 (fun a ha hb => gx a (by omega)), by rw [gx 1 (by omega)]; exact h5, ?_, by rw [gm 0 11 (by omega)]; exact h7', h08, h10, fun t ht => ?_⟩, ⟨0, by omega, by rw [h30]; rfl, by rw [h7]; rfl, fun i hi => absurd hi (by omega)⟩, ?_, ?_, fun i hi => by rw [gm 13 i (by omega)]; exact hW i hi⟩
  · obtain ⟨c0, c1, c2, c3⟩ := h6
    refine ⟨by rw [gm 0 0 (by omega)]; exact c0, by rw [gm 0 4 (by omega)]; exact c1, by rw [gm 0 5 (by omega)]; exact c2, fun p hp => ?_⟩
    rw [gm 1 p (by omega), gm 2 p (by omega), gm 3 _ (by omega), gm 3 _ (by omega)]
    exact c3 p hp
  · rcases hcd t ht with hl | hl
    · rw [(hln t hl).2]
      have q : (26 ≤ tc t + 1 ∧ tc t + 1 ≤ 28 ∨ 44 ≤ tc t + 1) ∧ (26 ≤ tc t + 2 ∧ tc t + 2 ≤ 28 ∨ 44 ≤ tc t + 2) ∧ tc t + 2 < 41 + 3 * N := by
        refine ⟨?_, ?_, tc_lt hl⟩ <;> (rcases Nat.eq_zero_or_pos t with rfl | h0; · decide
                                       · rw [tc_s h0]; omega)
      exact txR_of (hx t hl) (hln t hl).1 (gx _ (by omega)) (gx _ (by omega)) (fun j hj => gm 5 _ (by omega)) (fun j hj => gm 6 _ (by omega))
    · exact hl
  · unfold RelI
    rw [fx 0 3 (by omega), gm 0 12 (by omega)]
    rcases hI with h | ⟨i1, i2, D, lw', d1, d2, d3, d4, d5, d6, d7, d8, d9⟩
    · exact Or.inl h
    · refine Or.inr ⟨i1, i2, D, lw', d1, d2, by omega, d4, d5, courtR_of d6 (fun a ha hb => gx a (by omega)), by rw [gx 11 (by omega)]; exact d7, ?_, fun p hp => ?_⟩
      · rw [gm 8 _ (by omega), gm 8 _ (by omega), gm 8 _ (by omega), gm 8 _ (by omega)]; exact d8
      · rw [gm 7 _ (by omega), gm 7 _ (by omega)]; exact d9 p hp
  · intro s hs
    obtain ⟨so, sz, s1, s2, s3, s4, s5⟩ := hS s hs
    refine ⟨so, sz, s1, s2, ?_, ?_, fun i hi => ?_⟩
    · rw [gx _ (by omega), gm 9 _ (by omega)]; exact s3
    · rw [gx _ (by omega), gm 10 _ (by omega)]; exact s4
    · rw [gx _ (by omega), gm 11 _ (by omega)]; exact s5 i hi
def GoT (F N : Nat) (ln : Nat → Nat) (x m : Sg) : Prop := ∃ (b : Option Nat) (x' m' : Sg) (r : Int32), g_X6_text F N ln x b x' r ∧ g_X7_text F m = some (m', r) ∧ ((b = none ∧ Rel N ln x' m') ∨ ∃ n', b = some n' ∧ N < 6 ∧ n' ≤ 160 ∧ Rel (N + 1) (upN ln N n') x' m')
theorem txR_new {ln : Nat → Nat} {N : Nat} (hN : 0 < N) {c0 c1 c2 : List Int} {n' : Nat} (hn : n' = (c0 ++ c1 ++ c2).length) (hn2 : n' ≤ 160) (w0 : wfp c0) (w1 : wfp c1) (w2 : wfp c2) {x m : Sg}
    (hx : ∀ i, i < n' → x (42 + 3 * N) i = iI ((c0 ++ c1 ++ c2).getD i 0)) (he : x (43 + 3 * N) 0 = iI ((c0.length : Nat) : Int) ∧ x (43 + 3 * N) 1 = iI (((c0 ++ c1).length : Nat) : Int) ∧ x (43 + 3 * N) 2 = iI (((c0 ++ c1 ++ c2).length : Nat) : Int))
    (h6 : m 6 (4 * N) = iI 0 ∧ m 6 (4 * N + 1) = iI ((c0.length : Nat) : Int) ∧ m 6 (4 * N + 2) = iI (((c0 ++ c1).length : Nat) : Int) ∧ m 6 (4 * N + 3) = iI (((c0 ++ c1 ++ c2).length : Nat) : Int)) (h5 : ∀ i, i < n' → m 5 (200 * N + i) = iI (encM ((c0 ++ c1 ++ c2).getD i 0))) :
    txR (upN ln N n') x m N (fun p => if p = 0 then c0 else if p = 1 then c1 else c2) := by
  simp only [List.length_append] at hn he h6
  unfold txR
  have e1 : tc N + 1 = 42 + 3 * N := by rw [tc_s hN]; omega
  have e2 : tc N + 2 = 43 + 3 * N := by rw [tc_s hN]; omega
  have e3 : upN ln N n' N = n' := if_pos rfl
  rw [e1, e2, e3]
  have k0 : (fun p : Nat => if p = 0 then c0 else if p = 1 then c1 else c2) 0 = c0 := rfl
  have k1 : (fun p : Nat => if p = 0 then c0 else if p = 1 then c1 else c2) 1 = c1 := rfl
  have k2 : (fun p : Nat => if p = 0 then c0 else if p = 1 then c1 else c2) 2 = c2 := rfl
  rw [k0, k1, k2]
  refine ⟨fun p hp => ?_, hn, hn2, he, h6, fun j hj => ?_, fun j hj => ?_, fun j hj => ?_⟩
  · rcases (show p = 0 ∨ p = 1 ∨ p = 2 by omega) with rfl | rfl | rfl
    · exact w0
    · exact w1
    · exact w2
  · have a := hx j (by omega)
    have b := h5 j (by omega)
    rw [List.append_assoc, gd_l hj] at a b
    exact ⟨a, b⟩
  · have a := hx (c0.length + j) (by omega)
    have b := h5 (c0.length + j) (by omega)
    rw [List.append_assoc, gd_r, gd_l hj] at a b
    exact ⟨a, b⟩
  · have a := hx (c0.length + c1.length + j) (by omega)
    have b := h5 (c0.length + c1.length + j) (by omega)
    rw [List.append_assoc, Nat.add_assoc, gd_r, gd_r] at a b
    rw [Nat.add_assoc]
    exact ⟨a, b⟩
theorem k_text {F N : Nat} {ln : Nat → Nat} (hF : 300 ≤ F) {x m : Sg} (h : Rel N ln x m) : GoT F N ln x m := by
  have h0 := h
  obtain ⟨C, lw, cd, hC, hT, hI, hS, hW⟩ := h
  have hN3 := hC.2.2.1
  have hx8 := hC.2.2.2.2.2.2.2.1
  have hm10 := hC.2.2.2.2.2.2.2.2.1
  by_cases h6 : N = 6
  · subst h6
    refine ⟨none, x, m, -4, Or.inl ⟨by rw [hx8]; decide, rfl, rfl, rfl⟩, ?_, Or.inl ⟨rfl, h0⟩⟩
    unfold g_X7_text
    rw [hm10, if_pos (by decide)]
  obtain ⟨tl, t1, t2, t3, t4⟩ := hT
  have hB : ∀ i, i < tl → (0 ≤ (x 31 i).toInt ∧ (x 31 i).toInt ≤ 255) ∧ x 31 i = iI ((x 31 i).toInt) ∧ m 4 i = iI ((x 31 i).toInt) := by
    intro i hi
    obtain ⟨b, b1, b2, b3⟩ := t4 i hi
    rw [b2, b3, iI_toInt (by omega)]
    exact ⟨b1, rfl, rfl⟩
  have tx : tpX (fun i => (x 31 i).toInt) tl x := ⟨t1, t2, fun i hi => ⟨(hB i hi).1, (hB i hi).2.1⟩⟩
  have tm : tpM (fun i => (x 31 i).toInt) tl m := ⟨t1, t3, fun i hi => ⟨(hB i hi).1, (hB i hi).2.2⟩, hW⟩
  have X := x_read (F := F) (N := N) (ln := ln) hF tx
  have M := m_text (F := F) (T := N) hF tm hm10 (by omega)
  have h6x : x 0 8 < 6 := by rw [hx8, show (6 : Int32) = iI 6 from rfl, iI_lt (by omega) (by omega)]; omega
  revert X M
  generalize rd3 (tkT (fun i => (x 31 i).toInt) tl) (tkN (fun i => (x 31 i).toInt) tl) (tkB (fun i => (x 31 i).toInt) tl) (tkE (fun i => (x 31 i).toInt) tl) = rr
  intro X M
  rcases rr with f | ⟨c0, c1, c2⟩
  · obtain ⟨τ, e1, f1, hf⟩ := X
    obtain ⟨υ, e2, f2, u7, u10⟩ := M
    refine ⟨none, st τ 30 1 0, υ, _, Or.inr ⟨h6x, τ, iI (f : Int), e1, Or.inl ⟨?_, rfl, rfl, rfl⟩⟩, ?_, Or.inl ⟨rfl, ?_⟩⟩
    · rw [li_n1, Ne, iI_eq (by omega) (by omega)]; omega
    · rw [e2, show (-100 : Int32) = iI (-100) from rfl, iI_sub]
    · refine Rel_T hC hI hS hW (fun a j hn => ?_) f2 st_e u7 ⟨Nat.le_refl _, by omega⟩ ?_ u10 (fun t ht => Or.inl ht) (fun t ht => ⟨rfl, rfl⟩)
      · rw [st_k (by omega)]
        exact f1 a j (fun w => by unfold pyS pxS at w; omega)
      · rw [st_k (by omega), f1 0 8 (fun w => by unfold pyS pxS at w; omega)]
        exact hx8
  · obtain ⟨τ, e1, f1, ⟨x1, x2, x3⟩, ⟨y0, y1, y2⟩, w0, w1, w2⟩ := X
    obtain ⟨υ, e2, f2, u7, u10, u6, u5⟩ := M
    have hN0 : 0 < N := by omega
    refine ⟨some (c0 ++ c1 ++ c2).length, _, υ, _, Or.inr ⟨h6x, τ, iI (-1), e1, Or.inr ⟨rfl, (c0 ++ c1 ++ c2).length, x2, by omega, ?_, x1, rfl, rfl, rfl⟩⟩, ?_, Or.inr ⟨_, rfl, by omega, x2, ?_⟩⟩
    · rw [f1 0 8 (fun w => by unfold pyS pxS at w; omega)]
      exact hx8
    · rw [e2, li_1, iI_add, iI_sub]
      congr 3
      omega
    · have tx0 : ∀ a j, a ≠ 42 + 3 * N → a ≠ 43 + 3 * N → tx1 N (c0 ++ c1 ++ c2).length (st τ 30 1 0) a j = st τ 30 1 0 a j := by
        intro a j q1 q2
        unfold tx1
        rw [if_neg q1, if_neg q2]
      refine Rel_T hC hI hS hW (cd' := fun t => if t = N then (fun p => if p = 0 then c0 else if p = 1 then c1 else c2) else cd t) (fun a j hn => ?_) f2 ?_ u7 ⟨by omega, by omega⟩ ?_ u10 (fun t ht => ?_) (fun t ht => ⟨if_neg (by omega), if_neg (by omega)⟩)
      · have q : st (tx1 N (c0 ++ c1 ++ c2).length (st τ 30 1 0)) 0 8 (iI (N : Int) + 1) a j = tx1 N (c0 ++ c1 ++ c2).length (st τ 30 1 0) a j := by
          by_cases ha : a = 0
          · subst ha; exact st_j (by omega)
          · exact st_k ha
        rw [q, tx0 a j (by omega) (by omega), st_k (by omega)]
        exact f1 a j (fun w => by unfold pyS pxS at w; omega)
      · rw [st_k (by omega), tx0 30 1 (by omega) (by omega), st_e]
      · rw [st_e, li_1, iI_add]; congr 1
      · by_cases ht2 : t = N
        · subst ht2
          refine Or.inr ?_
          rw [if_pos rfl]
          refine txR_new hN0 rfl x2 w0 w1 w2 (fun i hi => ?_) ?_ u6 u5
          · rw [st_k (by omega), ← x3 i hi]
            have hi : i < (c0 ++ c1 ++ c2).length := hi
            unfold tx1
            rw [if_pos rfl]
            unfold va_cpy
            rw [if_pos ⟨Nat.zero_le _, by omega⟩, st_k (by omega)]
            congr 1
            omega
          · have q : ∀ j, j < 3 → st (tx1 t (c0 ++ c1 ++ c2).length (st τ 30 1 0)) 0 8 (iI (t : Int) + 1) (43 + 3 * t) j = τ 33 j := by
              intro j hj
              rw [st_k (by omega)]
              unfold tx1
              rw [if_neg (by omega), if_pos rfl]
              unfold va_cpy
              rw [if_pos ⟨Nat.zero_le _, by omega⟩, st_k (by omega)]
              congr 1
              omega
            rw [q 0 (by omega), q 1 (by omega), q 2 (by omega)]
            exact ⟨y0, y1, y2⟩
        · exact Or.inl (by omega)
