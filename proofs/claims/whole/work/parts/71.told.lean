/-! longs -/
def jL (z : Int) : Int64 := Int64.ofInt z
theorem jL_toInt {z : Int} (h : -4611686018427387904 ≤ z ∧ z ≤ 4611686018427387904) : (jL z).toInt = z := Int64.toInt_ofInt_of_le (by omega) (by omega)
theorem jL_eq {a b : Int} (ha : -4611686018427387904 ≤ a ∧ a ≤ 4611686018427387904) (hb : -4611686018427387904 ≤ b ∧ b ≤ 4611686018427387904) : (jL a = jL b) = (a = b) := by rw [← Int64.toInt_inj, jL_toInt ha, jL_toInt hb]
theorem jL_add (a b : Int) : jL a + jL b = jL (a + b) := (Int64.ofInt_add a b).symm
theorem jL_sub (a b : Int) : jL a - jL b = jL (a - b) := (Int64.ofInt_sub a b).symm
theorem jL_mul (a b : Int) : jL a * jL b = jL (a * b) := (Int64.ofInt_mul a b).symm
theorem jL_div {a b : Int} (ha : 0 ≤ a ∧ a ≤ 4611686018427387904) (hb : 0 < b ∧ b ≤ 4611686018427387904) : jL a / jL b = jL (a / b) := by
  have h1 : 0 ≤ a / b := Int.ediv_nonneg ha.1 (by omega)
  have h2 : a / b ≤ a := Int.ediv_le_self _ ha.1
  apply Int64.toInt_inj.mp
  rw [Int64.toInt_div_of_ne_left _ _ (by intro h; have := congrArg Int64.toInt h; rw [jL_toInt (by omega)] at this; simp at this; omega), jL_toInt (by omega), jL_toInt (by omega), Int.tdiv_eq_ediv_of_nonneg ha.1, jL_toInt (by omega)]
theorem jL_0 : (0 : Int64) = jL 0 := rfl
theorem iI_jL {a : Int} (ha : -2147483648 ≤ a ∧ a < 2147483648) : (iI a).toInt64 = jL a := iI_64 ha
theorem divL_i {α : Type} {a b : Int} {f : Int64 → Option α} (h : (0 ≤ a ∧ a ≤ 4611686018427387904) ∧ 0 < b ∧ b ≤ 4611686018427387904) : divL (jL a) (jL b) f = f (jL (a / b)) := by
  rw [divL, if_neg, jL_div h.1 h.2]
  rw [jL_0, jL_eq (by omega) (by omega)]; omega
theorem remL_i {α : Type} {a b : Int} {f : Int64 → Option α} (h : (0 ≤ a ∧ a ≤ 4611686018427387904) ∧ 0 < b ∧ b ≤ 4611686018427387904) : remL (jL a) (jL b) f = f (jL (a % b)) := by
  rw [remL, if_neg, jL_div h.1 h.2, jL_mul, jL_sub]
  · congr 2
    have := Int.emod_add_mul_ediv a b
    rw [Int.mul_comm] at this
    omega
  · rw [jL_0, jL_eq (by omega) (by omega)]; omega
theorem lg_0 {a : Int} (ha : 0 ≤ a ∧ a ≤ 4611686018427387904) : (lg_cmp (jL a) 0 = 0) = (a = 0) := by
  rw [← jL_eq (a := a) (b := 0) (by omega) (by omega), ← jL_0]
  unfold lg_cmp
  apply propext
  by_cases h : jL a = 0
  · rw [h]; decide
  · refine ⟨fun q => absurd q ?_, fun q => absurd q h⟩
    rw [if_neg h]
    split <;> decide
/-- the greatest that divides both -/
def gS : Nat → Int → Int → Int
  | 0, a, _ => a
  | n + 1, a, b => if b = 0 then a else gS n b (a % b)
theorem gS_b : ∀ (n : Nat) (a b : Int), 0 ≤ b → b < n → 0 ≤ a → (0 < a ∨ 0 < b) → 0 < gS n a b ∧ gS n a b ≤ (if b = 0 then a else b)
  | 0, _, _, h, h1, _, _ => by omega
  | n + 1, a, b, h, h1, h2, h3 => by
    unfold gS
    by_cases e : b = 0
    · rw [if_pos e, if_pos e]; omega
    · rw [if_neg e, if_neg e]
      have m1 := Int.emod_nonneg a e
      have m2 := Int.emod_lt_of_pos a (show 0 < b by omega)
      have := gS_b n b (a % b) m1 (by omega) h (by omega)
      refine ⟨this.1, ?_⟩
      have := this.2
      split at this <;> omega
theorem x_low {F N : Nat} {ln : Nat → Nat} {above below part : Int} (ha : 0 ≤ above ∧ above ≤ 10000) (hb : 0 < below ∧ below ≤ 90) (hp : 0 ≤ part ∧ part ≤ 1) {σ : Sg} : ∀ (n : Nat) (a b : Int) (i : Nat) (f : Nat), b < n → n < f → i + n ≤ 100 → (0 ≤ a ∧ a ≤ 10000) → (0 ≤ b ∧ b ≤ 10000) → (0 < a ∨ 0 < b) →
    g_X6_inLowestTerms_l8 F N ln (iI above) (iI below) (iI part) f (iI a) (iI b) (iI (i : Int)) σ = some (σ, jL ((if part = 0 then above else below) / gS n a b))
  | 0, _, _, _, _, h, _, _, _, h1, _ => by omega
  | n + 1, a, b, i, 0, _, h, _, _, _, _ => by omega
  | n + 1, a, b, i, f + 1, h1, h2, h3, h4, h5, h6 => by
    rw [g_X6_inLowestTerms_l8, if_neg (by rw [li_100, iI_le (by omega) (by omega)]; omega), li_0, ite_eq (a := b) (b := 0) (by omega) (by omega), gS]
    by_cases e : b = 0
    · rw [if_pos e, if_pos e]
      unfold g_X6_inLowestTerms_b39 g_X6_inLowestTerms_b48
      have q0 : ¬ iI a = 0 := by rw [li_0, iI_eq (by omega) (by omega)]; omega
      have d1 : 0 ≤ above / a := Int.ediv_nonneg ha.1 (by omega)
      have d2 : above / a ≤ above := Int.ediv_le_self _ ha.1
      have d3 : 0 ≤ below / a := Int.ediv_nonneg (by omega) (by omega)
      have d4 : below / a ≤ below := Int.ediv_le_self _ (by omega)
      rw [if_neg q0, if_neg q0, divI_i (by omega), divI_i (by omega), li_0, ite_eq (a := part) (b := 0) (by omega) (by omega), iI_jL (by omega), iI_jL (by omega)]
      by_cases p0 : part = 0
      · rw [if_pos p0, if_pos p0]
      · rw [if_neg p0, if_neg p0]
    · rw [if_neg e, if_neg e]
      have m1 := Int.emod_nonneg a e
      have m2 := Int.emod_lt_of_pos a (show 0 < b by omega)
      rw [remI_i (by omega), li_1, iI_add, show (i : Int) + 1 = ((i + 1 : Nat) : Int) by omega]
      exact x_low ha hb hp n b (a % b) (i + 1) f (by omega) (by omega) (by omega) (by omega) (by omega) (by omega)
theorem m_low {F : Nat} {above below part : Int} (ha : 0 ≤ above ∧ above ≤ 10000) (hb : 0 < below ∧ below ≤ 90) (hp : 0 ≤ part ∧ part ≤ 1) {σ : Sg} : ∀ (n : Nat) (a b : Int) (f : Nat), b < n → n < f → (0 ≤ a ∧ a ≤ 10000) → (0 ≤ b ∧ b ≤ 10000) → (0 < a ∨ 0 < b) →
    g_X7_lowest_l16 F (jL above) (jL below) (iI part) f (jL a) (jL b) σ = some (σ, jL ((if part = 0 then above else below) / gS n a b))
  | 0, _, _, _, h, _, _, h1, _ => by omega
  | n + 1, a, b, 0, _, h, _, _, _ => by omega
  | n + 1, a, b, f + 1, h1, h2, h4, h5, h6 => by
    rw [g_X7_lowest_l16, gS]
    by_cases e : b = 0
    · rw [if_pos (by rw [lg_0 (by omega)]; exact e), if_pos e, divL_i (by omega), divL_i (by omega), li_0, ite_eq (a := part) (b := 0) (by omega) (by omega)]
      by_cases p0 : part = 0
      · rw [if_pos p0, if_pos p0]
      · rw [if_neg p0, if_neg p0]
    · rw [if_neg (by rw [lg_0 (by omega)]; exact e), if_neg e]
      have m1 := Int.emod_nonneg a e
      have m2 := Int.emod_lt_of_pos a (show 0 < b by omega)
      rw [remL_i (by omega)]
      exact m_low ha hb hp n b (a % b) f (by omega) (by omega) (by omega) (by omega) (by omega)
/-- both in lowest terms -/
theorem lows {F N : Nat} {ln : Nat → Nat} (hF : 300 ≤ F) {above below part : Int} (ha : 0 ≤ above ∧ above ≤ 10000) (hb : 0 < below ∧ below ≤ 90) (hp : 0 ≤ part ∧ part ≤ 1) (x m : Sg) : ∃ r, g_X6_inLowestTerms F N ln (iI above) (iI below) (iI part) x = some (x, r) ∧ g_X7_lowest F (jL above) (jL below) (iI part) m = some (m, r) := by
  refine ⟨_, x_low ha hb hp 95 above below 0 F (by omega) (by omega) (by omega) ha (by omega) (by omega), ?_⟩
  unfold g_X7_lowest
  by_cases h0 : above = 0
  · rw [if_pos (by rw [lg_0 (by omega)]; exact h0), iI_jL (by omega)]
    subst h0
    have : gS 95 0 below = below := by
      rw [gS, if_neg (by omega), Int.zero_emod, gS, if_pos rfl]
    rw [this]
    by_cases p0 : part = 0
    · rw [if_pos p0, p0, Int.zero_ediv]
    · rw [if_neg p0, Int.ediv_self (by omega), show part = 1 by omega]
  · rw [if_neg (by rw [lg_0 (by omega)]; exact h0)]
    exact m_low ha hb hp 95 above below F (by omega) (by omega) ha (by omega) (by omega)
/-! what all get -/
def gotS (E : CD) : Nat → Int
  | 0 => 0
  | n + 1 => gotS E n + (if E 1 n = -1 then 0 else E 2 n)
theorem gotS_B {C : CD} {T : TX} {p : Nat} {d m h : Int} {E : CD} (h0 : E 1 p = -1) (hm : 0 ≤ m) : ∀ n, gotS (evB C T p d m h E) n = gotS E n + (if p < n then h else 0)
  | 0 => by rw [if_neg (by omega)]; rfl
  | n + 1 => by
    have ih := gotS_B (C := C) (T := T) (d := d) (h := h) h0 hm n
    have e1 := evB_p (C := C) (T := T) (p := p) (d := d) (m := m) (h := h) (E := E)
    unfold gotS
    rw [ih]
    by_cases hpn : p = n
    · subst hpn
      rw [e1.1, e1.2.1, h0, if_neg (by omega), if_neg (by omega), if_pos rfl, if_pos (by omega)]
    · have e2 := evB_q (C := C) (T := T) (p := p) (q := n) (d := d) (m := m) (h := h) (E := E) (by omega)
      rw [e2.1, e2.2.1]
      by_cases hlt : p < n
      · rw [if_pos hlt, if_pos (show p < n + 1 by omega)]; omega
      · rw [if_neg hlt, if_neg (show ¬ p < n + 1 by omega)]; omega
theorem evs_got {C : CD} (hC : okC C) (T : TX) : ∀ (r d : Nat) (m h : Int) (E : CD), d + r = (stdS C).length → 0 ≤ m → E 0 3 = gotS E (cN C) → (∀ p, p ∈ stdS C → d ≤ downS C p → E 1 p = -1) → evs C T r d m h E 0 3 = gotS (evs C T r d m h E) (cN C)
  | 0, _, _, _, _, _, _, h, _ => h
  | r + 1, d, m, h, E, hd, hm, h0, h1 => by
    unfold evs
    split
    · exact h0
    · obtain ⟨a1, a2⟩ := atS_ok (C := C) (d := d) (by omega)
      have hp := (stdS_mem.mp a1).1
      have hw := waiS_b hC T hp (d := d) (m := m) (h := h)
      refine evs_got hC T r (d + 1) _ _ _ (by omega) (by omega) ?_ fun p hp1 hp2 => ?_
      · rw [gotS_B (h1 _ a1 (by omega)) hm, if_pos hp, evB_0.2.2.2.1, h0]
      · rw [(evB_q (q := p) (p := atS C d) (fun e => by rw [e, a2] at hp2; omega)).1]
        exact h1 p hp1 (by omega)
theorem evn_got {C : CD} (hC : okC C) (T : TX) : evn C T 0 3 = gotS (evn C T) (cN C) := by
  refine evs_got hC T _ 0 0 _ _ (by omega) (by omega) ?_ fun p _ _ => rfl
  have : ∀ n, gotS ev0 n = 0 := by
    intro n
    induction n with
    | zero => rfl
    | succ n ih => rw [gotS, ih, if_pos (by rfl)]; rfl
  rw [this]; rfl
theorem evs_more {C : CD} (T : TX) : ∀ (r d : Nat) (m h : Int) (E : CD), E 0 4 ≤ evs C T r d m h E 0 4
  | 0, _, _, _, E => Int.le_refl _
  | r + 1, d, m, h, E => by
    unfold evs
    split
    · exact Int.le_refl _
    · have := evs_more (C := C) T r (d + 1) (m + waiS C T (atS C d) d m h) (coolS T d (waiS C T (atS C d) d m h).toNat m h) (evB C T (atS C d) d m h E)
      rw [evB_0.2.2.2.2] at this
      omega
theorem evn_some {C : CD} (hC : okC C) (T : TX) (h4 : C 0 4 = -1) (h : 0 < cN C) : 0 < evn C T 0 4 := by
  have hl : (stdS C).length = cN C := by
    unfold stdS
    rw [List.filter_eq_self.mpr (fun p _ => by rw [h4]; simp), List.length_range]
  unfold evn
  obtain ⟨r, hr⟩ : ∃ r, (stdS C).length = r + 1 := ⟨cN C - 1, by omega⟩
  rw [hr]
  unfold evs
  rw [if_neg (by omega)]
  have := evs_more (C := C) T r (0 + 1) (0 + waiS C T (atS C 0) (0 : Nat) 0 (C 0 2)) (coolS T (0 : Nat) (waiS C T (atS C 0) (0 : Nat) 0 (C 0 2)).toNat 0 (C 0 2)) (evB C T (atS C 0) (0 : Nat) 0 (C 0 2) ev0)
  rw [evB_0.2.2.2.2] at this
  have e0 : ev0 0 4 = 0 := rfl
  omega
theorem k_mean {F N : Nat} {ln : Nat → Nat} (hF : 300 ≤ F) {x m : Sg} (h : Rel N ln x m) (a : Int32) : Go N ln (g_X6_mean F N ln a x) (g_X7_mean F a m) := by
  obtain ⟨C, lw, cd, hC, hT, hI, hS, hW⟩ := id h
  obtain ⟨h1, h2, h3, h4, h5, h6, h7, h8, h9, h10⟩ := id hC
  obtain ⟨za, ha, rfl⟩ := iI_ex a
  have hn := okC_n h1
  obtain ⟨x1, ex, fx, rx⟩ := x_srv hC hF (Or.inl rfl) h1 h3.1 ⟨fun _ _ => rfl, rfl⟩ h4 h5
  obtain ⟨m1, em, fm, rm⟩ := m_srv1 hC hF h1 h2.2 h3.1 (fun _ => rfl) (fun _ => rfl) h6 h7
  obtain ⟨bb, hbb, hE⟩ := evn_ok h1 (Tof (cd lw))
  have hg := evn_got h1 (Tof (cd lw))
  have hs := evn_some h1 (Tof (cd lw)) h2.2
  have hl := stdS_len C
  generalize evn C (Tof (cd lw)) = E at *
  have hx := frX_s fx
  have hm := frY_m fm
  unfold g_X6_mean g_X7_mean
  rw [ex, bnI_s, x_in, y_in, bnI_s, bnI_s, if01, if01]
  refine go_if Iff.rfl (fun q => ?_) fun _ => go_x h hx (frY_r m) rfl
  have q := in_i ha (lo := 0) (hi := 1) (by omega) (by omega) q
  have hE1 := hE.1
  rw [rx.2.1, h6.1, li_0, ite_eq (a := E 0 4) (b := 0) (by omega) (by omega), ite_eq (a := C 0 0) (b := 0) (by omega) (by omega)]
  by_cases e0 : C 0 0 = 0
  · rw [if_pos (by omega), if_pos e0]; exact go_x h hx (frY_r m) rfl
  · have hs := hs (by omega)
    rw [if_neg (by omega), if_neg e0, em, bnV_s, rm.2.2.2.1, rm.2.2.2.2.1]
    have hgb := hE.2.2.2.2.1
    obtain ⟨v, e, hv⟩ := loop_up (fun n i v => g_X6_mean_l36 F N ln (iI za) n v (iI (i : Int)) x1) (fun i v => v = iI (gotS E i)) (cN C) (by
      intro n i v hi hv
      rw [g_X6_mean_l36, fx 1 (by omega), h4.1, if_neg (by rw [iI_le (by omega) (by omega)]; omega), x_beg h1 hE rx hi, bnI_s]
      refine ⟨iI (gotS E (i + 1)), ?_, rfl⟩
      unfold g_X6_mean_b72
      by_cases h : E 1 i = -1
      · rw [if_pos h, if_pos rfl, hv, li_0, iI_add, li_1, iI_add, gotS, if_pos h]; rfl
      · rw [if_neg h, if_neg (by decide), rdA_i (by omega), Int.toNat_natCast, (rx.2.2.2.2 i hi).2.2.1, hv, iI_add, li_1, iI_add, gotS, if_neg h]; rfl) (cN C) 0 (iI 0) F (by omega) rfl (by omega)
    obtain ⟨w, hw⟩ : ∃ w, F - cN C = w + 1 := ⟨F - cN C - 1, by omega⟩
    obtain ⟨r, r1, r2⟩ := lows (F := F) (N := N) (ln := ln) hF (above := E 0 3) (below := E 0 4) (part := za) (by omega) (by omega) q x1 m1
    have e2 : g_X6_mean_l36 F N ln (iI za) F (iI 0) (iI 0) x1 = some (x1, r) := by
      refine e.trans ?_
      simp only [hw]
      rw [g_X6_mean_l36, fx 1 (by omega), h4.1, if_pos (by rw [iI_le (by omega) (by omega)]; omega), hv, ← hg, rx.2.1, r1, bnL_s]
    rw [e2, iI_jL (by omega), iI_jL (by omega), r2, bnL_s]
    exact go_x h hx hm rfl
