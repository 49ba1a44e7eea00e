theorem m_move {F : Nat} (hF : 100 ≤ F) {A B n : Nat} (hn : n ≤ 40) (hA : A + n ≤ 160) (hB : B + n ≤ 160) (m : Sg) : ∃ m', g_X7_copy_l147 F (iI (n : Int)) (iI (A : Int)) (iI (B : Int)) F 0 m = some (m', iI (n : Int)) ∧ (∀ a, a ≠ 11 → m' a = m a) ∧ ∀ y, m' 11 y = if B ≤ y ∧ y < B + n then m 11 (A + (y - B)) else m 11 y := by
  by_cases hd : B ≤ A
  · obtain ⟨s', e, i1, i2⟩ := loop_up (fun f k t => g_X7_copy_l147 F (iI (n : Int)) (iI (A : Int)) (iI (B : Int)) f (iI (k : Int)) t) (fun k t => (∀ a, a ≠ 11 → t a = m a) ∧ ∀ y, t 11 y = if B ≤ y ∧ y < B + k then m 11 (A + (y - B)) else m 11 y) n (by
      intro f k t hk ⟨i1, i2⟩
      rw [g_X7_copy_l147, if_neg (by rw [iI_le (by omega) (by omega)]; omega), if_pos (by rw [iI_le (by omega) (by omega)]; omega)]
      unfold g_X7_copy_b173
      rw [iI_add, iI_add, rdA_i (by omega), wrA_i (by omega), li_1, iI_add, show ((A : Int) + (k : Int)).toNat = A + k by omega, show ((B : Int) + (k : Int)).toNat = B + k by omega]
      refine ⟨_, by rw [show ((k + 1 : Nat) : Int) = (k : Int) + 1 by omega], fun a ha => ?_, fun y => ?_⟩
      · rw [st_ne _ _ _ ha]; exact i1 a ha
      · by_cases hy : y = B + k
        · subst hy; rw [st_e, i2, if_neg (by omega), if_pos (by omega)]; congr 1; omega
        · rw [st_j hy, i2]
          by_cases h1 : B ≤ y ∧ y < B + k
          · rw [if_pos h1, if_pos (by omega)]
          · rw [if_neg h1, if_neg (by omega)]) n 0 m F (by omega) ⟨fun _ _ => rfl, fun y => by rw [if_neg (by omega)]⟩ (by omega)
    obtain ⟨q, hq⟩ : ∃ q, F - n = q + 1 := ⟨F - n - 1, by omega⟩
    refine ⟨s', ?_, i1, i2⟩
    refine e.trans ?_
    simp only [hq]
    rw [g_X7_copy_l147, if_pos (by rw [iI_le (by omega) (by omega)]; omega)]
  · obtain ⟨s', e, i1, i2⟩ := loop_up (fun f k t => g_X7_copy_l147 F (iI (n : Int)) (iI (A : Int)) (iI (B : Int)) f (iI (k : Int)) t) (fun k t => (∀ a, a ≠ 11 → t a = m a) ∧ ∀ y, t 11 y = if B + n - k ≤ y ∧ y < B + n then m 11 (A + (y - B)) else m 11 y) n (by
      intro f k t hk ⟨i1, i2⟩
      rw [g_X7_copy_l147, if_neg (by rw [iI_le (by omega) (by omega)]; omega), if_neg (by rw [iI_le (by omega) (by omega)]; omega)]
      unfold g_X7_copy_b173
      rw [li_1, iI_sub, iI_sub, iI_add, iI_add, iI_add, rdA_i (by omega), wrA_i (by omega), show ((A : Int) + ((n : Int) - 1 - (k : Int))).toNat = A + (n - 1 - k) by omega, show ((B : Int) + ((n : Int) - 1 - (k : Int))).toNat = B + (n - 1 - k) by omega]
      refine ⟨_, by rw [show ((k + 1 : Nat) : Int) = (k : Int) + 1 by omega], fun a ha => ?_, fun y => ?_⟩
      · rw [st_ne _ _ _ ha]; exact i1 a ha
      · by_cases hy : y = B + (n - 1 - k)
        · subst hy; rw [st_e, i2, if_neg (by omega), if_pos (by omega)]; congr 1; omega
        · rw [st_j hy, i2]
          by_cases h1 : B + n - k ≤ y ∧ y < B + n
          · rw [if_pos h1, if_pos (by omega)]
          · rw [if_neg h1, if_neg (by omega)]) n 0 m F (by omega) ⟨fun _ _ => rfl, fun y => by rw [if_neg (by omega)]⟩ (by omega)
    obtain ⟨q, hq⟩ : ∃ q, F - n = q + 1 := ⟨F - n - 1, by omega⟩
    refine ⟨s', ?_, i1, fun y => ?_⟩
    · refine e.trans ?_
      simp only [hq]
      rw [g_X7_copy_l147, if_pos (by rw [iI_le (by omega) (by omega)]; omega)]
    · rw [i2, show B + n - n = B by omega]
theorem k_copy {F N : Nat} {ln : Nat → Nat} (hF : 100 ≤ F) {x m : Sg} (h : Rel N ln x m) (a b c d e : Int32) : Go N ln (g_X6_copy F N ln a b c d e x) (g_X7_copy F a b c d e m) := by
  obtain ⟨za, ha, rfl⟩ := iI_ex a
  obtain ⟨zb, hb, rfl⟩ := iI_ex b
  obtain ⟨zc, hc, rfl⟩ := iI_ex c
  obtain ⟨zd, hd, rfl⟩ := iI_ex d
  obtain ⟨ze, he, rfl⟩ := iI_ex e
  obtain ⟨C, lw, cd, -, -, -, hS, -⟩ := id h
  unfold g_X6_copy g_X7_copy
  rw [x_sheet ha, show g_X7_in F (iI za) 0 3 m = _ from m_in (b := 0) (c := 3) ha (by omega) (by omega), bnI_s, bnI_s, if01, if01]
  refine go_if Iff.rfl (fun q1 => ?_) fun _ => go_0 h
  rw [x_sheet hc, show g_X7_in F (iI zc) 0 3 m = _ from m_in (b := 0) (c := 3) hc (by omega) (by omega), bnI_s, bnI_s, if01, if01]
  refine go_if Iff.rfl (fun q2 => ?_) fun _ => go_0 h
  obtain ⟨s, rfl⟩ : ∃ n : Nat, za = n := ⟨za.toNat, by omega⟩
  obtain ⟨o, rfl⟩ : ∃ n : Nat, zc = n := ⟨zc.toNat, by omega⟩
  obtain ⟨so, sz, h1, h2, ⟨h3, h4⟩, ⟨h5, h6⟩, h7⟩ := hS s (by omega)
  obtain ⟨po, pz, g1, g2, ⟨g3, g4⟩, ⟨g5, g6⟩, g7⟩ := hS o (by omega)
  rw [rdS_i (by omega), rdS_i (by omega), Int.toNat_natCast, Int.toNat_natCast, x_missing h3 h1, bnI_s, rdA_i (by omega), Int.toNat_natCast, h4]
  by_cases q3 : so = -1
  · rw [if_pos q3, if_neg (by decide), if_pos (by rw [q3]; rfl)]; exact go_0 h
  · rw [if_neg q3, if_pos rfl, if_neg (by rw [li_n1, iI_eq (by omega) (by omega)]; exact q3), x_missing g3 g1, bnI_s, rdA_i (by omega), Int.toNat_natCast, g4]
    by_cases q4 : po = -1
    · rw [if_pos q4, if_neg (by decide), if_pos (by rw [q4]; rfl)]; exact go_0 h
    · rw [if_neg q4, if_pos rfl, if_neg (show ¬ iI po = -1 by rw [li_n1, iI_eq (by omega) (by omega)]; exact q4), h3, g3, rdA_i (by omega), rdA_i (by omega), Int.toNat_natCast, Int.toNat_natCast, h4, g4]
      refine go_if Iff.rfl (fun q5 => ?_) fun _ => go_0 h
      rw [x_places h5 h2 hb he, bnI_s, if01]
      have no : ∀ {α : Type} {P : Prop} [Decidable P] {A B : α}, ¬ P → (if P then A else B) = B := fun h => if_neg h
      have z0 : ∀ {z : Int}, (-2147483648 ≤ z ∧ z < 2147483648) → ∀ {α : Type} {A B : α}, (if iI z < 0 then A else B) = if z < 0 then A else B := fun hz => ite_lt (b := 0) hz (by omega)
      rw [z0 he, z0 hb, z0 hd, rdA_i (by omega), rdA_i (by omega), rdA_i (by omega), rdA_i (by omega), Int.toNat_natCast, Int.toNat_natCast, h6, g6, ite_lt (a := sz) (b := zb) (by omega) hb, ite_lt (a := pz) (b := zd) (by omega) hd]
      by_cases w1 : ze < 0
      · rw [if_neg (by omega), if_pos w1]; exact go_0 h
      · rw [if_neg w1]
        by_cases w2 : zb < 0
        · rw [if_neg (by omega), if_pos w2]; exact go_0 h
        · rw [if_neg w2]
          by_cases w5 : sz < zb
          · rw [if_neg (by omega), if_pos w5]
            by_cases w3 : zd < 0
            · rw [if_pos w3]; exact go_0 h
            · rw [if_neg w3]; exact go_0 h
          · rw [if_neg w5, iI_sub, iI_sub, ite_lt (a := sz - zb) (b := ze) (by omega) (by omega)]
            by_cases w6 : sz - zb < ze
            · rw [if_neg (by omega), if_pos w6]
              by_cases w3 : zd < 0
              · rw [if_pos w3]; exact go_0 h
              · rw [if_neg w3]
                by_cases w7 : pz < zd
                · rw [if_pos w7]; exact go_0 h
                · rw [if_neg w7]; exact go_0 h
            · rw [if_pos (by omega), if_neg w6, x_places g5 g2 hd he, bnI_s, if01]
              by_cases w3 : zd < 0
              · rw [if_neg (by omega), if_pos w3]; exact go_0 h
              · rw [if_neg w3]
                by_cases w7 : pz < zd
                · rw [if_neg (by omega), if_pos w7]; exact go_0 h
                · rw [if_neg w7, ite_le (a := ze) (b := pz - zd) (by omega) (by omega)]
                  refine go_if ⟨fun h => h.2.2.2, fun h => ⟨by omega, by omega, by omega, h⟩⟩ (fun w8 => ?_) fun _ => go_0 h
                  obtain ⟨i, rfl⟩ : ∃ n : Nat, zb = n := ⟨zb.toNat, by omega⟩
                  obtain ⟨j, rfl⟩ : ∃ n : Nat, zd = n := ⟨zd.toNat, by omega⟩
                  obtain ⟨n, rfl⟩ : ∃ n : Nat, ze = n := ⟨ze.toNat, by omega⟩
                  rw [li_40, iI_mul, iI_mul, iI_add, iI_add]
                  obtain ⟨m', e, f1, f2⟩ := m_move hF (A := 40 * s + i) (B := 40 * o + j) (n := n) (by omega) (by omega) (by omega) m
                  have t1 : ((40 * s + i : Nat) : Int) = 40 * (s : Int) + (i : Int) := by omega
                  have t2 : ((40 * o + j : Nat) : Int) = 40 * (o : Int) + (j : Int) := by omega
                  rw [t1, t2] at e
                  unfold cpA
                  rw [e, if_pos ⟨⟨by rw [li_0, iI_lt (by omega) (by omega)]; omega, by rw [li_0, iI_lt (by omega) (by omega)]; omega, by rw [li_0, iI_lt (by omega) (by omega)]; omega⟩, by rw [iI_cl (by omega), iI_cl (by omega)]; omega, by rw [iI_cl (by omega), iI_cl (by omega)]; omega⟩]
                  unfold cpS
                  rw [iI_cl (by omega), iI_cl (by omega), iI_cl (by omega), Int.toNat_natCast, Int.toNat_natCast, Int.toNat_natCast]
                  refine ⟨_, _, _, rfl, rfl, Rel_sh h (fun a _ ha => by funext y; rw [if_neg (by omega)]) (fun a j _ _ _ _ h3 => by rw [f1 a h3]) (fun j _ => by rw [f1 0 (by omega)]) (RelS_put hS (s := o) (fun a _ _ h1 h2 => by funext y; rw [if_neg (by omega)]) (fun j hj => by rw [f1 9 (by omega), f1 10 (by omega)]; exact ⟨rfl, rfl⟩) (fun y hy => by rw [f2, if_neg (by omega)]) fun _ => ⟨po, pz, g1, g2, ⟨by rw [if_neg (by omega)]; exact g3, by rw [f1 9 (by omega)]; exact g4⟩, ⟨by rw [if_neg (by omega)]; exact g5, by rw [f1 10 (by omega)]; exact g6⟩, fun y hy => ?_⟩)⟩
                  rw [if_pos (by omega), f2]
                  by_cases hy2 : j ≤ y ∧ y < j + n
                  · rw [if_pos (by omega), pk_cpy_in hy2.1 hy2.2, show 36 + 2 * s + 1 = 37 + 2 * s by omega, h7 _ (by omega)]
                    congr 1; omega
                  · rw [if_neg (by omega), pk_cpy_out (by omega), show 36 + 2 * o + 1 = 37 + 2 * o by omega, g7 _ (by omega)]
theorem iI_wrap (z : Int) : iI z = iI (z - 4294967296) := by
  rw [← iI_sub, show iI 4294967296 = 0 by decide, Int32.sub_zero]
theorem courtBy_l {F N : Nat} {ln : Nat → Nat} {n s : Nat} (hn : n ≤ 6) (hs : s < 4) {fr : Int} (hf : -2147483648 ≤ fr ∧ fr < 2147483648) : ∀ (k i : Nat) (came : Int32) (x m : Sg) (f g : Nat), i + k = n → k < f → k < g → Rel N ln x m →
    Go N ln (g_X6_courtBy_l65 F N ln (iI fr) (iI (n : Int)) (36 + 2 * s) f came (iI (i : Int)) x) (g_X7_courtBy_l64 F (iI (s : Int)) (iI fr) (iI (n : Int)) g came (iI (i : Int)) m) := by
  intro k
  induction k with
  | zero =>
    intro i came x m f g h1 h2 h3 h
    obtain ⟨f, rfl⟩ : ∃ q, f = q + 1 := ⟨f - 1, by omega⟩
    obtain ⟨g, rfl⟩ : ∃ q, g = q + 1 := ⟨g - 1, by omega⟩
    rw [g_X6_courtBy_l65, if_pos (by rw [iI_le (by omega) (by omega)]; omega), g_X7_courtBy_l64, if_pos (by rw [iI_le (by omega) (by omega)]; omega)]
    exact go_0 h
  | succ k ih =>
    intro i came x m f g h1 h2 h3 h
    obtain ⟨f, rfl⟩ : ∃ q, f = q + 1 := ⟨f - 1, by omega⟩
    obtain ⟨g, rfl⟩ : ∃ q, g = q + 1 := ⟨g - 1, by omega⟩
    obtain ⟨C, lw, cd, -, -, -, hS, -⟩ := id h
    obtain ⟨so, sz, h1', h2', ⟨h3', h4'⟩, ⟨h5, h6⟩, h7⟩ := hS s (by omega)
    rw [g_X6_courtBy_l65, if_neg (by rw [iI_le (by omega) (by omega)]; omega), g_X7_courtBy_l64, if_neg (by rw [iI_le (by omega) (by omega)]; omega), li_2, iI_mul, iI_add, iI_add, x_places h5 h2' hf (by omega), bnI_s, if01, li_0, ite_lt (a := fr) (b := 0) hf (by omega), rdA_i (n := 4) (k := 10) (by omega), Int.toNat_natCast, h6, iI_sub]
    by_cases w1 : fr < 0
    · rw [if_neg (by omega), if_pos w1]; exact go_0 h
    · rw [if_neg w1]
      by_cases w2 : fr + 2 * (i : Int) < 2147483648
      · rw [if_neg (show ¬ iI (fr + 2 * (i : Int)) < iI fr by rw [iI_lt (by omega) (by omega)]; omega), ite_le (a := fr + 2 * (i : Int)) (b := sz - 2) (by omega) (by omega)]
        refine go_if ⟨fun h => by omega, fun h => by omega⟩ (fun w3 => ?_) fun _ => go_0 h
        obtain ⟨p, rfl⟩ : ∃ n : Nat, fr = n := ⟨fr.toNat, by omega⟩
        rw [li_1, li_40, iI_mul, iI_add, iI_add, iI_add, rdA_i (by omega), rdA_i (by omega), rdA_i (by omega), rdA_i (by omega)]
        rw [show 36 + 2 * s + 1 = 37 + 2 * s by omega, h7 _ (by omega), h7 _ (by omega)]
        rw [show 40 * s + ((p : Int) + 2 * (i : Int)).toNat = (40 * (s : Int) + ((p : Int) + 2 * (i : Int))).toNat by omega, show 40 * s + ((p : Int) + 2 * (i : Int) + 1).toNat = (40 * (s : Int) + ((p : Int) + 2 * (i : Int)) + 1).toNat by omega]
        obtain ⟨x', m', r, e1, e2, h'⟩ := k_courtier (F := F) h (m 11 (40 * (s : Int) + ((p : Int) + 2 * (i : Int))).toNat) (m 11 (40 * (s : Int) + ((p : Int) + 2 * (i : Int)) + 1).toNat)
        rw [e1, e2, bnI_s, bnI_s]
        have tt : ((i + 1 : Nat) : Int) = (i : Int) + 1 := by omega
        refine go_if Iff.rfl (fun _ => ?_) fun _ => ?_
        · unfold g_X6_courtBy_b126 g_X7_courtBy_b144
          rw [li_1, iI_add, ← li_0, Int32.add_zero, ← tt]
          exact ih (i + 1) came x' m' f g (by omega) (by omega) (by omega) h'
        · unfold g_X6_courtBy_b126 g_X7_courtBy_b144
          rw [li_1, iI_add, ← tt]
          exact ih (i + 1) _ x' m' f g (by omega) (by omega) (by omega) h'
      · rw [if_neg (by omega), if_pos (by rw [iI_wrap (fr + 2 * (i : Int)), iI_lt (by omega) (by omega)]; omega)]; exact go_0 h
theorem k_courtBy {F N : Nat} {ln : Nat → Nat} (hF : 100 ≤ F) {x m : Sg} (h : Rel N ln x m) (a b c d : Int32) : Go N ln (g_X6_courtBy F N ln a b c d x) (g_X7_courtBy F a b c d m) := by
  obtain ⟨za, ha, rfl⟩ := iI_ex a
  obtain ⟨zb, hb, rfl⟩ := iI_ex b
  obtain ⟨zc, hc, rfl⟩ := iI_ex c
  obtain ⟨zd, hd, rfl⟩ := iI_ex d
  obtain ⟨C, lw, cd, -, -, -, hS, -⟩ := id h
  unfold g_X6_courtBy g_X7_courtBy
  rw [x_sheet ha, show g_X7_in F (iI za) 0 3 m = _ from m_in (b := 0) (c := 3) ha (by omega) (by omega), bnI_s, bnI_s, if01, if01]
  refine go_if Iff.rfl (fun q1 => ?_) fun _ => go_0 h
  rw [x_sort hb, show g_X7_in F (iI zb) 0 2 m = _ from m_in (b := 0) (c := 2) hb (by omega) (by omega), bnI_s, bnI_s, if01, if01]
  refine go_if Iff.rfl (fun q2 => ?_) fun _ => go_0 h
  rw [x_in, y_in, bnI_s, bnI_s, if01, if01]
  refine go_if Iff.rfl (fun q3 => ?_) fun _ => go_0 h
  have q3 := in_i hd (lo := 0) (hi := 6) (by omega) (by omega) q3
  obtain ⟨s, rfl⟩ : ∃ n : Nat, za = n := ⟨za.toNat, by omega⟩
  obtain ⟨n, rfl⟩ : ∃ n : Nat, zd = n := ⟨zd.toNat, by omega⟩
  obtain ⟨so, sz, h1, h2, ⟨h3, h4⟩, ⟨h5, h6⟩, h7⟩ := hS s (by omega)
  rw [rdS_i (by omega), Int.toNat_natCast, x_missing h3 h1, bnI_s, rdA_i (by omega), Int.toNat_natCast, h4]
  by_cases q4 : so = -1
  · rw [if_pos q4, if_neg (by decide), if_pos (by rw [q4]; rfl)]; exact go_0 h
  · rw [if_neg q4, if_pos rfl, if_neg (show ¬ iI so = -1 by rw [li_n1, iI_eq (by omega) (by omega)]; exact q4), h3, rdA_i (by omega), Int.toNat_natCast, h4]
    refine go_if Iff.rfl (fun q5 => ?_) fun _ => go_0 h
    exact courtBy_l (n := n) (s := s) (by omega) (by omega) hc n 0 0 x m F F (by omega) (by omega) (by omega) h
