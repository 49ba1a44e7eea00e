/-! told suppers -/
def toldS (x m : Sg) (C : CD) (s : Int) : Prop := ∃ (t n : Nat), s = t ∧ t < 4 ∧ (n : Int) ≤ C 0 0 ∧ x (36 + 2 * t) 1 = iI (n : Int) ∧ m 10 t = iI (n : Int) ∧ ∀ i, i < 40 → x (37 + 2 * t) i = m 11 (40 * t + i)
theorem ref_t {F N : Nat} {ln : Nat → Nat} {x m : Sg} {C : CD} (hC : okC C) (hS : RelS x m) (c1 : x 1 0 = iI (C 0 0)) (c2 : m 0 0 = iI (C 0 0)) {s : Int} (hs : -2147483648 ≤ s ∧ s < 2147483648) : ∃ r : Int, (r = -2 ∨ r = -11 ∨ r = 0) ∧ g_X6_refusalOfTold F N ln (iI s) x = some (x, iI r) ∧ g_X7_sheetWrong F (iI s) m = some (m, iI r) ∧ (r = 0 → toldS x m C s) := by
  unfold g_X6_refusalOfTold g_X7_sheetWrong
  have hb := hC.1
  rw [x_sheet hs, show g_X7_in F (iI s) 0 3 m = _ from m_in (b := 0) (c := 3) hs (by omega) (by omega), bnI_s, bnI_s, if01, if01]
  by_cases q1 : 0 ≤ s ∧ s ≤ 3
  · rw [if_pos q1, if_pos q1]
    obtain ⟨t, rfl⟩ : ∃ n : Nat, s = n := ⟨s.toNat, by omega⟩
    obtain ⟨so, sz, h1, h2, ⟨h3, h4⟩, ⟨h5, h6⟩, h7⟩ := hS t (by omega)
    rw [rdS_i (by omega), Int.toNat_natCast, x_missing h3 h1, bnI_s, rdA_i (by omega), Int.toNat_natCast, h4]
    by_cases q2 : so = -1
    · rw [if_pos q2, if_neg (by decide), if_pos (by rw [q2]; rfl)]
      exact ⟨-11, by omega, rfl, rfl, fun h => absurd h (by decide)⟩
    · rw [if_neg q2, if_pos rfl, if_neg (show ¬ iI so = -1 by rw [li_n1, iI_eq (by omega) (by omega)]; exact q2), rdS_i (by omega), rdA_i (by omega), Int.toNat_natCast, h5, h6, c1, c2, ite_le (by omega) (by omega), ite_le (by omega) (by omega)]
      by_cases q3 : sz ≤ C 0 0
      · rw [if_pos q3, if_pos q3]
        obtain ⟨n, rfl⟩ : ∃ n : Nat, sz = n := ⟨sz.toNat, by omega⟩
        exact ⟨0, by omega, rfl, rfl, fun _ => ⟨t, n, rfl, by omega, q3, h5, h6, h7⟩⟩
      · rw [if_neg q3, if_neg q3]
        exact ⟨-2, by omega, rfl, rfl, fun h => absurd h (by decide)⟩
  · rw [if_neg q1, if_neg q1]
    exact ⟨-2, by omega, rfl, rfl, fun h => absurd h (by decide)⟩
/-- the first that is otherwise -/
def foS (w : Nat → Int32) (E : CD) : Nat → Nat → Int
  | 0, _ => -1
  | k + 1, i => if w i = iI (E 2 i) then foS w E k (i + 1) else i
theorem foS_b (w : Nat → Int32) (E : CD) : ∀ k i, -1 ≤ foS w E k i ∧ foS w E k i < ((i + k + 1 : Nat) : Int)
  | 0, i => by unfold foS; omega
  | k + 1, i => by
    have := foS_b w E k (i + 1)
    unfold foS; split <;> omega
theorem foS_c {w w' : Nat → Int32} {E : CD} (h : ∀ i, i < 40 → w i = w' i) : ∀ k i, i + k ≤ 40 → foS w E k i = foS w' E k i
  | 0, i, _ => rfl
  | k + 1, i, hk => by
    unfold foS
    rw [h i (by omega), foS_c h k (i + 1) (by omega)]
theorem x_firstL {F N : Nat} {ln : Nat → Nat} {t k0 : Nat} {C E : CD} (hC : okC C) {σ : Sg} (hR : evR C E σ) {n : Nat} (hn : (n : Int) ≤ C 0 0) (h1 : σ (36 + 2 * t) 1 = iI (n : Int)) : ∀ (k i f : Nat), i + k = n → k < f → g_X6_firstOtherwise_l16 F N ln (36 + 2 * t) k0 f (iI (i : Int)) σ = some (σ, iI (foS (σ (37 + 2 * t)) E k i))
  | _, _, 0, _, h => by omega
  | 0, i, f + 1, hi, _ => by
    have hb := hC.1
    rw [g_X6_firstOtherwise_l16, h1, if_pos (by rw [iI_le (by omega) (by omega)]; omega)]; rfl
  | k + 1, i, f + 1, hi, hf => by
    have hb := hC.1
    have hc := okC_n hC
    have r2 := (hR.2.2.2.2 i (by omega)).2.2.1
    rw [g_X6_firstOtherwise_l16, h1, if_neg (by rw [iI_le (by omega) (by omega)]; omega), if_neg (by rw [li_6, iI_le (by omega) (by omega)]; omega), rdA_i (by omega), rdA_i (by omega), Int.toNat_natCast, r2, foS, show 36 + 2 * t + 1 = 37 + 2 * t by omega]
    by_cases h : σ (37 + 2 * t) i = iI (E 2 i)
    · rw [if_pos h, if_pos h, li_1, iI_add, show (i : Int) + 1 = ((i + 1 : Nat) : Int) by omega]
      exact x_firstL hC hR hn h1 k (i + 1) f (by omega) (by omega)
    · rw [if_neg h, if_neg h]
theorem m_firstL {F : Nat} {t : Nat} (ht : t < 4) {C E : CD} (hC : okC C) {σ : Sg} (hR : evM C E σ) {n : Nat} (hn : (n : Int) ≤ C 0 0) (h1 : σ 10 t = iI (n : Int)) : ∀ (k i f : Nat), i + k = n → k < f → g_X7_unlike_l7 F (iI (t : Int)) f (iI (i : Int)) σ = some (σ, iI (foS (fun j => σ 11 (40 * t + j)) E k i))
  | _, _, 0, _, h => by omega
  | 0, i, f + 1, hi, _ => by
    have hb := hC.1
    rw [g_X7_unlike_l7, rdA_i (by omega), Int.toNat_natCast, h1, if_pos (by rw [iI_le (by omega) (by omega)]; omega)]; rfl
  | k + 1, i, f + 1, hi, hf => by
    have hb := hC.1
    have hc := okC_n hC
    have r2 := (hR.2.2.2.2.2.2.2 i (by omega)).2.1
    rw [g_X7_unlike_l7, rdA_i (by omega), Int.toNat_natCast, h1, if_neg (by rw [iI_le (by omega) (by omega)]; omega), if_neg (by rw [li_6, iI_le (by omega) (by omega)]; omega), li_40, iI_mul, iI_add, rdA_i (by omega), rdA_i (by omega), Int.toNat_natCast, r2, foS, show (40 * (t : Int) + (i : Int)).toNat = 40 * t + i by omega]
    by_cases h : σ 11 (40 * t + i) = iI (E 2 i)
    · rw [if_pos h, if_pos h, li_1, iI_add, show (i : Int) + 1 = ((i + 1 : Nat) : Int) by omega]
      exact m_firstL ht hC hR hn h1 k (i + 1) f (by omega) (by omega)
    · rw [if_neg h, if_neg h]
/-- what a sheet says of a supper in thought -/
def fiS (w : Nat → Int32) (n : Nat) (D : CD) (c : Nat → List Int) : Int := foS w (evn D (Tof c)) n 0
theorem x_fo {F N : Nat} {ln : Nat → Nat} {C : CD} {lw : Nat} {cd : Nat → Nat → List Int} {x m : Sg} (hC : RelC C lw cd N ln x m) (hF : 300 ≤ F) {k : Nat} (hk : isCt k) {D : CD} (hD : okC D) {t : Nat} (ht : t < N) {x1 : Sg} (hf : fcX x x1) (hR : courtR D x1 k) (hl : x1 k 3 = iI (t : Int)) {s n : Nat} (hn : (n : Int) ≤ D 0 0) (h1 : x (36 + 2 * s) 1 = iI (n : Int)) : ∃ x2, g_X6_firstOtherwise F N ln (36 + 2 * s) k x1 = some (x2, iI (fiS (x (37 + 2 * s)) n D (cd t))) ∧ ∀ a, a < 16 ∨ 24 < a → x2 a = x1 a := by
  obtain ⟨x2, e, f, r⟩ := x_fst hC hF hk hD ht hf hR hl
  have hb := hD.1
  refine ⟨x2, ?_, f⟩
  have := x_firstL (F := F) (N := N) (ln := ln) (t := s) (k0 := k) hD r hn (by rw [f _ (by omega), hf.1 _ (by omega)]; exact h1) n 0 F (by omega) (by omega)
  have e2 : x2 (37 + 2 * s) = x (37 + 2 * s) := by rw [f _ (by omega), hf.1 _ (by omega)]
  rw [e2] at this
  rw [e]
  exact this
theorem m_fo {F N : Nat} {ln : Nat → Nat} {C : CD} {lw : Nat} {cd : Nat → Nat → List Int} {x m : Sg} (hC : RelC C lw cd N ln x m) (hF : 300 ≤ F) {D : CD} (hD : okC D) (h4 : D 0 4 = -1) {t : Nat} (ht : t < N) {m1 : Sg} (h5 : ∀ j, m1 5 j = m 5 j) (h6 : ∀ j, m1 6 j = m 6 j) (hR : courtM D m1) (hl : m1 0 11 = iI (t : Int)) {s n : Nat} (hs : s < 4) (hn : (n : Int) ≤ D 0 0) (h1 : m1 10 s = iI (n : Int)) {w : Nat → Int32} (hw : ∀ i, i < 40 → w i = m1 11 (40 * s + i)) : ∃ m2, g_X7_unlike F (iI (s : Int)) m1 = some (m2, iI (fiS w n D (cd t))) ∧ frM m1 m2 := by
  obtain ⟨m2, e, f, r⟩ := m_srv1 hC hF hD h4 ht h5 h6 hR hl
  have hb := hD.1
  refine ⟨m2, ?_, f⟩
  unfold g_X7_unlike
  have := m_firstL (F := F) (t := s) hs hD r hn (by rw [f.1 10 (by omega) (by omega)]; exact h1) n 0 F (by omega) (by omega)
  rw [e, bnV_s]
  refine this.trans ?_
  unfold fiS
  rw [foS_c (w' := w) (fun i hi => by rw [f.1 11 (by omega) (by omega)]; exact (hw i hi).symm) n 0 (by omega)]
theorem fiS_b {w : Nat → Int32} {n : Nat} (hn : n ≤ 6) {D : CD} {c : Nat → List Int} : -1 ≤ fiS w n D c ∧ fiS w n D c ≤ 6 := by
  have := foS_b w (evn D (Tof c)) n 0
  unfold fiS; omega
theorem k_judge {F N : Nat} {ln : Nat → Nat} (hF : 300 ≤ F) {x m : Sg} (h : Rel N ln x m) (a : Int32) : Go N ln (g_X6_judge F N ln a x) (g_X7_judge F a m) := by
  obtain ⟨C, lw, cd, hC, hT, hI, hS, hW⟩ := id h
  obtain ⟨h1, h2, h3, h4, h5, h6, h7, h8, h9, h10⟩ := id hC
  obtain ⟨za, ha, rfl⟩ := iI_ex a
  obtain ⟨r, hr, e1, e2, hz⟩ := ref_t (F := F) (N := N) (ln := ln) h1 hS h4.1 h6.1 ha
  have hb := h1.1
  unfold g_X6_judge g_X7_judge
  rw [e1, e2, bnI_s, bnI_s, li_0, ite_le (a := 0) (b := r) (by omega) (by omega), ite_eq (a := r) (b := 0) (by omega) (by omega)]
  by_cases r0 : r = 0
  · rw [if_pos (by omega), if_pos r0]
    obtain ⟨t, n, rfl, ht, hn, g1, g2, g3⟩ := hz r0
    obtain ⟨x1, ex, fx⟩ := x_fo hC hF (Or.inl rfl) h1 h3.1 ⟨fun _ _ => rfl, rfl⟩ h4 h5 hn g1
    obtain ⟨m1, em, fm⟩ := m_fo hC hF h1 h2.2 h3.1 (fun _ => rfl) (fun _ => rfl) h6 h7 ht hn g2 g3
    rw [rdS_i (by omega), Int.toNat_natCast, ex, em, bnI_s, bnI_s]
    exact go_x h (frX_s fx) (frY_m fm) rfl
  · rw [if_neg (by omega), if_neg r0]; exact go_0 h
theorem ref_o {F N : Nat} {ln : Nat → Nat} {x m : Sg} {C : CD} (hC : okC C) (hS : RelS x m) (c1 : x 1 0 = iI (C 0 0)) (c2 : m 0 0 = iI (C 0 0)) {s p w : Int} (hs : -2147483648 ≤ s ∧ s < 2147483648) (hp : -2147483648 ≤ p ∧ p < 2147483648) (hw : -2147483648 ≤ w ∧ w < 2147483648) : ∃ r q : Int, (r = -2 ∨ r = -11 ∨ r = -5 ∨ r = -7 ∨ r = 0) ∧ (q = -2 ∨ q = -11 ∨ q = -5 ∨ q = 0) ∧ g_X6_refusalOfOne F N ln (iI s) (iI p) (iI w) x = some (x, iI r) ∧ g_X7_toldWrong F (iI s) (iI p) m = some (m, iI q) ∧ (q ≠ 0 → r = q) ∧ (q = 0 → r = (if 0 ≤ w ∧ w ≤ 1 then 0 else -7) ∧ (0 ≤ p ∧ p < C 0 0) ∧ toldS x m C s) := by
  obtain ⟨r, hr, e1, e2, hz⟩ := ref_t (F := F) (N := N) (ln := ln) hC hS c1 c2 hs
  have hn := okC_n hC
  unfold g_X6_refusalOfOne g_X7_toldWrong
  rw [e1, e2, bnI_s, bnI_s, li_0, ite_le (a := 0) (b := r) (by omega) (by omega), ite_eq (a := r) (b := 0) (by omega) (by omega)]
  by_cases r0 : r = 0
  · rw [if_pos (by omega), if_pos r0, x_there hC c1 hp, m_one hC c2 hp, bnI_s, bnI_s, ← li_0, if01, if01]
    by_cases q1 : 0 ≤ p ∧ p < C 0 0
    · rw [if_pos q1, if_pos q1, show g_X6_isWithin F N ln (iI w) 0 1 x = _ from x_within (b := 0) (c := 1) hw (by omega) (by omega), bnI_s, if01]
      refine ⟨if 0 ≤ w ∧ w ≤ 1 then 0 else -7, 0, by split <;> omega, by omega, ?_, rfl, fun h => absurd rfl h, fun _ => ⟨rfl, q1, hz r0⟩⟩
      by_cases q2 : 0 ≤ w ∧ w ≤ 1
      · rw [if_pos q2, if_pos q2]; rfl
      · rw [if_neg q2, if_neg q2]; rfl
    · rw [if_neg q1, if_neg q1]
      exact ⟨-5, -5, by omega, by omega, rfl, rfl, fun _ => rfl, fun h => absurd h (by decide)⟩
  · rw [if_neg (by omega), if_neg r0]
    exact ⟨r, r, by omega, by omega, rfl, rfl, fun _ => rfl, fun h => absurd h r0⟩
theorem by_i {z : Int} (h : -128 ≤ z ∧ z ≤ 127) : Int8.toInt32 (Int32.toInt8 (iI z)) = iI z := by
  apply Int32.toInt_inj.mp
  rw [Int8.toInt_toInt32, Int32.toInt_toInt8, iI_toInt (by omega)]
  show (if z % 256 < (256 + 1) / 2 then z % 256 else z % 256 - 256) = z
  split <;> omega
theorem k_film {F N : Nat} {ln : Nat → Nat} (hF : 300 ≤ F) {x m : Sg} (h : Rel N ln x m) (a : Int32) : Go N ln (g_X6_film F N ln a x) (g_X7_film F a m) := by
  obtain ⟨C, lw, cd, hC, hT, hI, hS, hW⟩ := id h
  obtain ⟨h1, h2, h3, h4, h5, h6, h7, h8, h9, h10⟩ := id hC
  obtain ⟨za, ha, rfl⟩ := iI_ex a
  have hn := okC_n h1
  obtain ⟨x1, ex, fx, rx⟩ := x_srv hC hF (Or.inl rfl) h1 h3.1 ⟨fun _ _ => rfl, rfl⟩ h4 h5
  obtain ⟨m1, em, fm, rm⟩ := m_srv1 hC hF h1 h2.2 h3.1 (fun _ => rfl) (fun _ => rfl) h6 h7
  obtain ⟨bb, hbb, hE⟩ := evn_ok h1 (Tof (cd lw))
  generalize evn C (Tof (cd lw)) = E at *
  unfold g_X6_film g_X7_film
  rw [x_sheet ha, show g_X7_in F (iI za) 0 3 m = _ from m_in (b := 0) (c := 3) ha (by omega) (by omega), bnI_s, bnI_s, if01, if01]
  refine go_if Iff.rfl (fun q1 => ?_) fun _ => go_0 h
  obtain ⟨s, rfl⟩ : ∃ n : Nat, za = n := ⟨za.toNat, by omega⟩
  rw [ex, em, bnI_s, bnV_s, rdS_i (by omega), Int.toNat_natCast, fx 1 (by omega), h4.1]
  obtain ⟨x2, e1, f1, f2, f3, f4⟩ := x_become (F := F) (N := N) (ln := ln) (by omega) (k := 36 + 2 * s) (v := 0) (n := C 0 0) (by omega) x1
  rw [e1, bnV_s]
  obtain ⟨x3, e3, i1, i2, i3⟩ := loop_up (fun n i t => g_X6_film_l38 F N ln (iI (s : Int)) n (iI (i : Int)) t) (fun i t => (∀ a, a ≠ 37 + 2 * s → t a = x2 a) ∧ (∀ p, p < i → t (37 + 2 * s) p = iI (E 2 p)) ∧ ∀ p, i ≤ p → p < 40 → t (37 + 2 * s) p = iI 0) (cN C) (by
    intro n i t hi ⟨i1, i2, i3⟩
    have b2 := (hE.2.2.2.2.2 i).2.1
    have g2 : t 20 i = iI (E 2 i) := by rw [i1 20 (by omega), f1 20 (by omega) (by omega)]; exact (rx.2.2.2.2 i hi).2.2.1
    have g1 : t 1 0 = iI (C 0 0) := by rw [i1 1 (by omega), f1 1 (by omega) (by omega), fx 1 (by omega)]; exact h4.1
    rw [g_X6_film_l38, g1, if_neg (by rw [iI_le (by omega) (by omega)]; omega), rdS_i (by omega), Int.toNat_natCast, rdA_i (by omega), Int.toNat_natCast, g2]
    unfold g_X3_write g_X3_write_b39
    rw [x_place (sz := C 0 0) (by rw [i1 _ (by omega)]; exact f3) (by omega) (by omega), bnI_s, if01, if_pos (by omega), if_pos (by rw [i1 _ (by omega)]; exact f2), by_i (by omega), wrA_i (by omega), bnV_s, Int.toNat_natCast, li_1, iI_add]
    refine ⟨_, by rw [show ((i + 1 : Nat) : Int) = (i : Int) + 1 by omega], fun a ha => ?_, fun p hp => ?_, fun p hp hp4 => ?_⟩
    · rw [st_ne _ _ _ (by omega)]; exact i1 a ha
    · by_cases hpi : p = i
      · subst hpi; rw [show 37 + 2 * s = 36 + 2 * s + 1 by omega, st_e]
      · rw [st_j hpi]; exact i2 p (by omega)
    · rw [st_j (by omega)]; exact i3 p (by omega) hp4) (cN C) 0 x2 F (by omega) ⟨fun _ _ => rfl, fun _ h => absurd h (by omega), fun p _ hp => by rw [show 37 + 2 * s = 36 + 2 * s + 1 by omega]; exact f4 p hp⟩ (by omega)
  obtain ⟨q, hq⟩ : ∃ q, F - cN C = q + 1 := ⟨F - cN C - 1, by omega⟩
  have e4 : g_X6_film_l38 F N ln (iI (s : Int)) F 0 x2 = some (x3, iI (C 0 0)) := by
    have g1 : x3 1 0 = iI (C 0 0) := by rw [i1 1 (by omega), f1 1 (by omega) (by omega), fx 1 (by omega)]; exact h4.1
    refine e3.trans ?_
    simp only [hq]
    rw [g_X6_film_l38, g1, if_pos (by rw [iI_le (by omega) (by omega)]; omega)]
  have c0 := (courtM_of h6 fm).1
  rw [wrA_i (by omega), wrA_i (by omega), Int.toNat_natCast, st_k (by omega), c0]
  generalize hm2 : st (st m1 9 s 0) 10 s (iI (C 0 0)) = m2
  have k0 : ∀ a, a ≠ 9 → a ≠ 10 → m2 a = m1 a := fun a h9 h10 => by rw [← hm2, st_ne _ _ _ h10, st_ne _ _ _ h9]
  have k9 : ∀ j, j ≠ s → m2 9 j = m1 9 j ∧ m2 10 j = m1 10 j := fun j hj => by
    rw [← hm2]; exact ⟨by rw [st_k (by omega), st_j hj], by rw [st_j hj, st_k (by omega)]⟩
  have k10 : m2 9 s = iI 0 ∧ m2 10 s = iI (C 0 0) := by rw [← hm2]; exact ⟨by rw [st_k (by omega), st_e]; rfl, st_e⟩
  clear hm2
  obtain ⟨m3, e5, j1, j2, j3⟩ := loop_up (fun n i t => g_X7_film_l36 F (iI (s : Int)) n (iI (i : Int)) t) (fun i t => (∀ a, a ≠ 11 → t a = m2 a) ∧ (∀ j, (j < 40 * s ∨ 40 * s + 40 ≤ j) → t 11 j = m2 11 j) ∧ ∀ p, p < i → t 11 (40 * s + p) = iI (if p < cN C then E 2 p else 0)) 40 (by
    intro n i t hi ⟨i1, i2, i3⟩
    have g1 : t 0 0 = iI (C 0 0) := by rw [i1 0 (by omega), k0 0 (by omega) (by omega)]; exact c0
    rw [g_X7_film_l36, if_neg (by rw [li_40, iI_le (by omega) (by omega)]; omega), li_40, iI_mul, iI_add, wrA_i (by omega), show (40 * (s : Int) + (i : Int)).toNat = 40 * s + i by omega, st_k (by omega), g1, ite_le (by omega) (by omega)]
    unfold g_X7_film_b84
    by_cases hic : i < cN C
    · have g2 : t 20 i = iI (E 2 i) := by rw [i1 20 (by omega), k0 20 (by omega) (by omega)]; exact (rm.2.2.2.2.2.2.2 i (by omega)).2.1
      rw [if_neg (by omega), show g_X7_within F (iI (i : Int)) 0 5 _ = _ from m_within (a := i) (b := 0) (c := 5) (by omega) (by omega) (by omega), bnI_s, if_pos (by omega), if_pos (by omega), rdA_i (by omega), Int.toNat_natCast, st_k (by omega), g2, wrA_i (by omega), show (40 * (s : Int) + (i : Int)).toNat = 40 * s + i by omega, li_1, iI_add]
      refine ⟨_, by rw [show ((i + 1 : Nat) : Int) = (i : Int) + 1 by omega], fun a ha => ?_, fun j hj => ?_, fun p hp => ?_⟩
      · rw [st_ne _ _ _ ha, st_ne _ _ _ ha]; exact i1 a ha
      · rw [st_j (by omega), st_j (by omega)]; exact i2 j hj
      · by_cases hpi : p = i
        · subst hpi; rw [st_e, if_pos hic]
        · rw [st_j (by omega), st_j (by omega)]; exact i3 p (by omega)
    · rw [if_pos (by omega), li_1, iI_add]
      refine ⟨_, by rw [show ((i + 1 : Nat) : Int) = (i : Int) + 1 by omega], fun a ha => ?_, fun j hj => ?_, fun p hp => ?_⟩
      · rw [st_ne _ _ _ ha]; exact i1 a ha
      · rw [st_j (by omega)]; exact i2 j hj
      · by_cases hpi : p = i
        · subst hpi; rw [st_e, if_neg hic]; rfl
        · rw [st_j (by omega)]; exact i3 p (by omega)) 40 0 m2 F rfl ⟨fun _ _ => rfl, fun _ _ => rfl, fun _ h => absurd h (by omega)⟩ (by omega)
  obtain ⟨q', hq'⟩ : ∃ q, F - 40 = q + 1 := ⟨F - 41, by omega⟩
  have e6 : g_X7_film_l36 F (iI (s : Int)) F 0 m2 = some (m3, iI (C 0 0)) := by
    refine e5.trans ?_
    simp only [hq']
    rw [g_X7_film_l36, if_pos (by decide), j1 0 (by omega), k0 0 (by omega) (by omega), c0]
  have hx := frX_s fx
  have hm := frY_m fm
  rw [e4, e6]
  refine ⟨x3, m3, _, rfl, rfl, Rel_sh h (fun a ha1 ha => by rw [i1 a (by omega), f1 a (by omega) (by omega), fx a ha1]) (fun a j h0 h1 h2 h3 h4 => by rw [j1 a h4, k0 a h2 h3, hm.1 a j h0 h1]) (fun j hj => by rw [j1 0 (by omega), k0 0 (by omega) (by omega), hm.2 j hj]) (RelS_put hS (s := s) (fun a ha hb h1 h2 => by rw [i1 a h2, f1 a h1 (by omega), fx a (by omega)]) (fun j hj => by rw [j1 9 (by omega), j1 10 (by omega), (k9 j hj).1, (k9 j hj).2, hm.1 9 j (by omega) (by omega), hm.1 10 j (by omega) (by omega)]; exact ⟨rfl, rfl⟩) (fun j hj => by rw [j2 j hj, k0 11 (by omega) (by omega), hm.1 11 j (by omega) (by omega)]) fun _ => ⟨0, C 0 0, by omega, by omega, ⟨by rw [i1 _ (by omega)]; exact f2, by rw [j1 9 (by omega)]; exact k10.1⟩, ⟨by rw [i1 _ (by omega)]; exact f3, by rw [j1 10 (by omega)]; exact k10.2⟩, fun i hi => ?_⟩)⟩
  rw [j3 i hi]
  by_cases hic : i < cN C
  · rw [if_pos hic, i2 i hic]
  · rw [if_neg hic, i3 i (by omega) hi]
