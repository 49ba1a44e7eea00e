/-! a supper, truly -/
def riseS (C E : CD) : CD := fun a p => if a = 4 ∧ p < cN C then clS 999 (C 4 p - costS E p) else if a = 0 ∧ p = 1 then C 0 1 + 1 else C a p
theorem riseS_0 {C E : CD} : riseS C E 0 1 = C 0 1 + 1 ∧ ∀ j, j ≠ 1 → riseS C E 0 j = C 0 j := by
  unfold riseS
  refine ⟨by rw [if_neg (by omega), if_pos ⟨rfl, rfl⟩], fun j hj => by rw [if_neg (by omega), if_neg (by omega)]⟩
theorem riseS_a {C E : CD} {a p : Nat} (h : a ≠ 0) (h4 : a ≠ 4) : riseS C E a p = C a p := by
  unfold riseS; rw [if_neg (by omega), if_neg (by omega)]
theorem riseS_4 {C E : CD} {p : Nat} (h : p < cN C) : riseS C E 4 p = clS 999 (C 4 p - costS E p) := by
  unfold riseS; rw [if_pos ⟨rfl, h⟩]
theorem riseS_n {C E : CD} : cN (riseS C E) = cN C := by unfold cN; rw [riseS_0.2 0 (by omega)]
theorem riseS_ok {C E : CD} (h : okC C) (h1 : C 0 1 < 2000) : okC (riseS C E) := by
  obtain ⟨a, b, c, d, e⟩ := h
  refine ⟨by rw [riseS_0.2 _ (by omega)]; exact a, by rw [riseS_0.1]; omega, by rw [riseS_0.2 _ (by omega)]; exact c, by rw [riseS_0.2 _ (by omega)]; exact d, fun p hp => ?_⟩
  rw [riseS_n] at hp
  obtain ⟨e1, e2, e3, e4⟩ := e p hp
  rw [riseS_a (by omega) (by omega), riseS_a (by omega) (by omega), riseS_a (by omega) (by omega), riseS_4 hp]
  exact ⟨e1, e2, e3, clS_b (by omega)⟩
theorem x_rise {F N : Nat} {ln : Nat → Nat} (hF : 100 ≤ F) {k : Nat} (hk : isCt k) {C E : CD} (hC : okC C) {b : Nat} (hE : okE C b E) {σ : Sg} (hc : courtR C σ k) (hR : evR C E σ) : ∃ σ', g_X1_rise F N ln k σ = some σ' ∧ (∀ a, a ≠ k → a ≠ k + 4 → σ' a = σ a) ∧ courtR (riseS C E) σ' k ∧ σ' k 3 = σ k 3 := by
  have hk' := kct hk
  have hn := okC_n hC
  obtain ⟨c0, c1, c2, c4, cp⟩ := hc
  unfold g_X1_rise
  obtain ⟨s', e, i1, i2, i3⟩ := loop_up (fun n i s => g_X1_rise_l2 F N ln k n (iI (i : Int)) s) (fun i s => (∀ a, a ≠ k + 4 → s a = σ a) ∧ (∀ p, p < i → s (k + 4) p = iI (riseS C E 4 p)) ∧ ∀ p, i ≤ p → s (k + 4) p = σ (k + 4) p) (cN C) (by
    intro n i s hi ⟨i1, i2, i3⟩
    have hb := costS_b hE i
    have hm := (hC.2.2.2.2 i hi).2.2.2
    rw [g_X1_rise_l2, i1 k (by omega), c0, if_neg (by rw [iI_le (by omega) (by omega)]; omega), rdA_i (by omega), Int.toNat_natCast, i3 i (Nat.le_refl _), (cp i hi).2.2.2, x_costs hC hE (evR_of hR (fun a _ _ => i1 a (by omega))) hi, bnI_s, wrA_i (by omega), iI_sub, li_0, li_999, clamp_x (by omega), iI_toInt (by omega), li_1, iI_add, Int.toNat_natCast]
    refine ⟨_, by rw [show ((i + 1 : Nat) : Int) = (i : Int) + 1 by omega], fun a ha => ?_, fun p hp => ?_, fun p hp => ?_⟩
    · rw [st_ne _ _ _ ha]; exact i1 a ha
    · by_cases hpi : p = i
      · subst hpi; rw [st_e, riseS_4 hi]
      · rw [st_j hpi]; exact i2 p (by omega)
    · rw [st_j (by omega)]; exact i3 p (by omega)) (cN C) 0 σ F (by omega) ⟨fun _ _ => rfl, fun _ h => absurd h (by omega), fun _ _ => rfl⟩ (by omega)
  obtain ⟨q, hq⟩ : ∃ q, F - cN C = q + 1 := ⟨F - cN C - 1, by omega⟩
  refine ⟨st s' k 1 (iI (C 0 1 + 1)), ?_, fun a h1 h2 => by rw [st_ne _ _ _ h1, i1 a h2], ⟨?_, ?_, ?_, ?_, fun p hp => ?_⟩, by rw [st_j (by omega), i1 k (by omega)]⟩
  · refine e.trans ?_
    simp only [hq]
    rw [g_X1_rise_l2, i1 k (by omega), c0, if_pos (by rw [iI_le (by omega) (by omega)]; omega), wrF_i, c1, li_1, iI_add]
  · rw [st_j (by omega), i1 k (by omega), riseS_0.2 _ (by omega)]; exact c0
  · rw [st_e, riseS_0.1]
  · rw [st_j (by omega), i1 k (by omega), riseS_0.2 _ (by omega)]; exact c2
  · rw [st_j (by omega), i1 k (by omega), riseS_0.2 _ (by omega)]; exact c4
  · rw [riseS_n] at hp
    obtain ⟨e1, e2, e3, e4⟩ := cp p hp
    rw [st_k (by omega), st_k (by omega), st_k (by omega), st_k (by omega), i1 _ (by omega), i1 _ (by omega), i1 _ (by omega), i2 p hp, riseS_a (by omega) (by omega), riseS_a (by omega) (by omega), riseS_a (by omega) (by omega)]
    exact ⟨e1, e2, e3, rfl⟩
theorem m_rise {F : Nat} (hF : 100 ≤ F) {C E : CD} (hC : okC C) {b : Nat} (hE : okE C b E) {σ : Sg} (hc : courtM C σ) (hR : evM C E σ) : ∃ σ', g_X7_supsTruly_l7 F F 0 σ = some (σ', iI (E 0 0)) ∧ (∀ a, a ≠ 0 → a ≠ 3 → σ' a = σ a) ∧ (∀ j, 12 ≤ j → σ' 3 j = σ 3 j) ∧ (∀ j, j ≠ 4 → σ' 0 j = σ 0 j) ∧ courtM (riseS C E) σ' := by
  have hn := okC_n hC
  obtain ⟨c0, c1, c2, cp⟩ := hc
  obtain ⟨s', e, i1, i2, i3⟩ := loop_up (fun n i s => g_X7_supsTruly_l7 F n (iI (i : Int)) s) (fun i s => (∀ a, a ≠ 3 → s a = σ a) ∧ (∀ p, p < i → s 3 (2 * p + 1) = iI (riseS C E 4 p)) ∧ ∀ j, (∀ p, p < i → j ≠ 2 * p + 1) → s 3 j = σ 3 j) (cN C) (by
    intro n i s hi ⟨i1, i2, i3⟩
    have hb := costS_b hE i
    have hm := (hC.2.2.2.2 i hi).2.2.2
    obtain ⟨s2, s3, s4, s5⟩ := hR.2.2.2.2.2.2.2 i (by omega)
    rw [g_X7_supsTruly_l7, i1 0 (by omega), c0, if_neg (by rw [iI_le (by omega) (by omega)]; omega), li_2, iI_mul, li_1, iI_add, rdA_i (by omega), show (2 * (i : Int) + 1).toNat = 2 * i + 1 by omega, i3 _ (fun p hp => by omega), (cp i hi).2.2.2, m_less hE (by omega) (by rw [i1 19 (by omega)]; exact s2) (by rw [i1 22 (by omega)]; exact s5), bnI_s, iI_sub, li_0, li_999, m_clamp (by omega), iI_toInt (by omega), bnI_s, wrA_i (by omega), iI_add, show (2 * (i : Int) + 1).toNat = 2 * i + 1 by omega]
    refine ⟨_, by rw [show ((i + 1 : Nat) : Int) = (i : Int) + 1 by omega], fun a ha => ?_, fun p hp => ?_, fun j hj => ?_⟩
    · rw [st_ne _ _ _ ha]; exact i1 a ha
    · by_cases hpi : p = i
      · subst hpi; rw [st_e, riseS_4 hi]
      · rw [st_j (by omega)]; exact i2 p (by omega)
    · rw [st_j (hj i (by omega))]; exact i3 j (fun p hp => hj p (by omega))) (cN C) 0 σ F (by omega) ⟨fun _ _ => rfl, fun _ h => absurd h (by omega), fun _ _ => rfl⟩ (by omega)
  obtain ⟨q, hq⟩ : ∃ q, F - cN C = q + 1 := ⟨F - cN C - 1, by omega⟩
  refine ⟨st s' 0 4 (iI (C 0 1 + 1)), ?_, fun a h1 h2 => by rw [st_ne _ _ _ h1, i1 a h2], fun j hj => by rw [st_k (by omega), i3 j (fun p hp => by omega)], fun j hj => by rw [st_j hj, i1 0 (by omega)], ⟨?_, ?_, ?_, fun p hp => ?_⟩⟩
  · refine e.trans ?_
    simp only [hq]
    rw [g_X7_supsTruly_l7, i1 0 (by omega), c0, if_pos (by rw [iI_le (by omega) (by omega)]; omega), wrF_i, c1, li_1, iI_add, st_j (by omega), i1 0 (by omega), hR.2.2.1]
  · rw [st_j (by omega), i1 0 (by omega), riseS_0.2 _ (by omega)]; exact c0
  · rw [st_e, riseS_0.1]
  · rw [st_j (by omega), i1 0 (by omega), riseS_0.2 _ (by omega)]; exact c2
  · rw [riseS_n] at hp
    obtain ⟨e1, e2, e3, e4⟩ := cp p hp
    rw [st_k (by omega), st_k (by omega), st_k (by omega), st_k (by omega), i1 _ (by omega), i1 _ (by omega), i3 _ (fun q _ => by omega), i2 p hp, riseS_a (by omega) (by omega), riseS_a (by omega) (by omega), riseS_a (by omega) (by omega)]
    exact ⟨e1, e2, e3, rfl⟩
theorem m_truly {F N : Nat} {ln : Nat → Nat} {C : CD} {lw : Nat} {cd : Nat → Nat → List Int} {x m : Sg} (hC : RelC C lw cd N ln x m) (hF : 300 ≤ F) {D : CD} (hD : okC D) (h4 : D 0 4 = -1) {t : Nat} (ht : t < N) {m1 : Sg} (h5 : ∀ j, m1 5 j = m 5 j) (h6 : ∀ j, m1 6 j = m 6 j) (hR : courtM D m1) (hl : m1 0 11 = iI (t : Int)) : ∃ m2, g_X7_supsTruly F m1 = some (m2, iI (evn D (Tof (cd t)) 0 0)) ∧ (∀ a, 0 < a → (a < 15 ∨ 22 < a) → a ≠ 3 → m2 a = m1 a) ∧ (∀ j, 12 ≤ j → m2 3 j = m1 3 j) ∧ (∀ j, j < 36 ∨ 40 < j → j ≠ 4 → m2 0 j = m1 0 j) ∧ courtM (riseS D (evn D (Tof (cd t)))) m2 ∧ ∀ p, p < 6 → m2 19 p = iI (evn D (Tof (cd t)) 1 p) ∧ m2 22 p = iI (evn D (Tof (cd t)) 4 p) := by
  obtain ⟨m2, e, f, r⟩ := m_srv1 hC hF hD h4 ht h5 h6 hR hl
  obtain ⟨b, _, hE⟩ := evn_ok hD (Tof (cd t))
  obtain ⟨m3, e3, f1, f2, f3, c⟩ := m_rise (F := F) (by omega) hD hE (courtM_of hR f) r
  refine ⟨m3, ?_, fun a h0 h1 h3 => by rw [f1 a (by omega) h3, f.1 a h0 h1], fun j hj => by rw [f2 j hj, f.1 3 (by omega) (by omega)], fun j hj h4 => by rw [f3 j h4, f.2 j hj], c, fun p hp => ?_⟩
  · unfold g_X7_supsTruly
    rw [e, bnV_s, e3]
  · rw [f1 19 (by omega) (by omega), f1 22 (by omega) (by omega)]
    obtain ⟨s2, s3, s4, s5⟩ := r.2.2.2.2.2.2.2 p hp
    exact ⟨s2, s5⟩
theorem k_sup {F N : Nat} {ln : Nat → Nat} (hF : 300 ≤ F) {x m : Sg} (h : Rel N ln x m) : Go N ln (g_X6_sup F N ln x) (g_X7_sup F m) := by
  obtain ⟨C, lw, cd, hC, hT, hI, hS, hW⟩ := id h
  obtain ⟨h1, h2, h3, h4, h5, h6, h7, h8, h9, h10⟩ := id hC
  have hs := h1.2.1
  unfold g_X6_sup g_X7_sup
  rw [h4.2.1, h6.2.1, li_999, ite_lt (a := C 0 1) (b := 999) (by omega) (by omega), ite_eq (a := C 0 1) (b := 999) (by omega) (by omega)]
  by_cases q : C 0 1 < 999
  · rw [if_pos q, if_neg (by omega)]
    obtain ⟨x1, ex, fx, rx⟩ := x_srv hC hF (Or.inl rfl) h1 h3.1 ⟨fun _ _ => rfl, rfl⟩ h4 h5
    obtain ⟨b, _, hE⟩ := evn_ok h1 (Tof (cd lw))
    obtain ⟨x2, ex2, fx2, cx2, lx2⟩ := x_rise (F := F) (N := N) (ln := ln) (by omega) (Or.inl rfl) h1 hE (courtR_of h4 (fun a _ _ => fx a (by omega))) rx
    obtain ⟨m2, em, f1, f2, f3, cm, _⟩ := m_truly hC hF h1 h2.2 h3.1 (fun _ => rfl) (fun _ => rfl) h6 h7
    rw [ex, bnI_s, ex2, bnV_s, em, bnI_s]
    refine ⟨x2, m2, _, rfl, rfl, Rel_c hC hT hI hS hW ⟨fun a ha => by rw [fx2 a (by omega) (by omega), fx a (by omega)], by rw [fx2 30 (by omega) (by omega), fx 30 (by omega)]⟩ ⟨fun a j h0 h1 => by rw [f1 a (by omega) (by omega) (by omega)], fun j hj _ h4 _ _ => f3 j (by omega) h4⟩ (riseS_ok h1 (by omega)) ⟨by rw [riseS_0.1]; omega, by rw [riseS_0.2 _ (by omega)]; exact h2.2⟩ h3.1 cx2 (by rw [lx2, fx 1 (by omega)]; exact h5) cm (by rw [f3 11 (by omega) (by omega)]; exact h7) ⟨by rw [riseS_0.2 _ (by omega)]; omega, fun p _ => ⟨riseS_a (by omega) (by omega), riseS_a (by omega) (by omega)⟩⟩⟩
  · rw [if_neg q, if_pos (by omega)]; exact go_0 h
/-! what the reference lays back -/
theorem m_keeps {F : Nat} (hF : 100 ≤ F) (m : Sg) : ∃ m', g_X7_keeps F m = some m' ∧ (∀ a, a ≠ 23 → m' a = m a) ∧ (∀ j, j < 12 → m' 23 j = m 3 j) ∧ m' 23 12 = m 0 4 := by
  unfold g_X7_keeps
  obtain ⟨s', e, i1, i2⟩ := loop_up (fun n i s => g_X7_keeps_l2 F n (iI (i : Int)) s) (fun i s => (∀ a, a ≠ 23 → s a = m a) ∧ ∀ p, p < i → s 23 p = m 3 p) 12 (by
    intro n i s hi ⟨i1, i2⟩
    rw [g_X7_keeps_l2, li_12, if_neg (by rw [iI_le (by omega) (by omega)]; omega), rdA_i (by omega), wrA_i (by omega), li_1, iI_add, Int.toNat_natCast]
    refine ⟨_, by rw [show ((i + 1 : Nat) : Int) = (i : Int) + 1 by omega], fun a ha => ?_, fun p hp => ?_⟩
    · rw [st_ne _ _ _ ha]; exact i1 a ha
    · by_cases hpi : p = i
      · subst hpi; rw [st_e, i1 3 (by omega)]
      · rw [st_j hpi]; exact i2 p (by omega)) 12 0 m F rfl ⟨fun _ _ => rfl, fun _ h => absurd h (by omega)⟩ (by omega)
  obtain ⟨q, hq⟩ : ∃ q, F - 12 = q + 1 := ⟨F - 13, by omega⟩
  refine ⟨st s' 23 12 (m 0 4), ?_, fun a ha => by rw [st_ne _ _ _ ha, i1 a ha], fun j hj => by rw [st_j (by omega), i2 j hj], st_e⟩
  refine e.trans ?_
  simp only [hq]
  rw [g_X7_keeps_l2, if_pos (by decide), li_12, wrA_i (by omega), i1 0 (by omega)]
  rfl
theorem m_lays {F : Nat} (hF : 100 ≤ F) (m : Sg) : ∃ m', g_X7_lays F m = some m' ∧ (∀ a, a ≠ 0 → a ≠ 3 → m' a = m a) ∧ (∀ j, j < 12 → m' 3 j = m 23 j) ∧ (∀ j, 12 ≤ j → m' 3 j = m 3 j) ∧ m' 0 4 = m 23 12 ∧ ∀ j, j ≠ 4 → m' 0 j = m 0 j := by
  unfold g_X7_lays
  obtain ⟨s', e, i1, i2, i3⟩ := loop_up (fun n i s => g_X7_lays_l2 F n (iI (i : Int)) s) (fun i s => (∀ a, a ≠ 3 → s a = m a) ∧ (∀ p, p < i → s 3 p = m 23 p) ∧ ∀ p, 12 ≤ p → s 3 p = m 3 p) 12 (by
    intro n i s hi ⟨i1, i2, i3⟩
    rw [g_X7_lays_l2, li_12, if_neg (by rw [iI_le (by omega) (by omega)]; omega), rdA_i (by omega), wrA_i (by omega), li_1, iI_add, Int.toNat_natCast]
    refine ⟨_, by rw [show ((i + 1 : Nat) : Int) = (i : Int) + 1 by omega], fun a ha => ?_, fun p hp => ?_, fun p hp => ?_⟩
    · rw [st_ne _ _ _ ha]; exact i1 a ha
    · by_cases hpi : p = i
      · subst hpi; rw [st_e, i1 23 (by omega)]
      · rw [st_j hpi]; exact i2 p (by omega)
    · rw [st_j (by omega)]; exact i3 p hp) 12 0 m F rfl ⟨fun _ _ => rfl, fun _ h => absurd h (by omega), fun _ _ => rfl⟩ (by omega)
  obtain ⟨q, hq⟩ : ∃ q, F - 12 = q + 1 := ⟨F - 13, by omega⟩
  refine ⟨st s' 0 4 (m 23 12), ?_, fun a h0 h3 => by rw [st_ne _ _ _ h0, i1 a h3], fun j hj => by rw [st_k (by omega), i2 j hj], fun j hj => by rw [st_k (by omega), i3 j hj], st_e, fun j hj => by rw [st_j hj, i1 0 (by omega)]⟩
  refine e.trans ?_
  simp only [hq]
  rw [g_X7_lays_l2, if_pos (by decide), li_12, rdA_i (by omega), wrF_i, i1 23 (by omega)]
  rfl
/-- kept, and to be laid back -/
def frT (m0 m : Sg) : Prop := (∀ a j, 0 < a → a < 14 → a ≠ 3 → m a j = m0 a j) ∧ (∀ j, 12 ≤ j → m 3 j = m0 3 j) ∧ (∀ j, j < 19 → j ≠ 4 → m 0 j = m0 0 j) ∧ (∀ j, j < 12 → m 23 j = m0 3 j) ∧ m 23 12 = m0 0 4
theorem frT_k {F : Nat} (hF : 100 ≤ F) (m : Sg) : ∃ m', g_X7_keeps F m = some m' ∧ frT m m' ∧ (∀ a, a ≠ 23 → m' a = m a) := by
  obtain ⟨m', e, f1, f2, f3⟩ := m_keeps hF m
  exact ⟨m', e, ⟨fun a j _ _ _ => by rw [f1 a (by omega)], fun j _ => by rw [f1 3 (by omega)], fun j _ _ => by rw [f1 0 (by omega)], f2, f3⟩, f1⟩
theorem frT_l {F : Nat} (hF : 100 ≤ F) {m0 m : Sg} (h : frT m0 m) : ∃ m', g_X7_lays F m = some m' ∧ frY m0 m' ∧ (∀ a, a ≠ 0 → a ≠ 3 → m' a = m a) ∧ ∀ j, j ≠ 4 → m' 0 j = m 0 j := by
  obtain ⟨h1, h2, h3, h4, h5⟩ := h
  obtain ⟨m', e, f1, f2, f3, f4, f5⟩ := m_lays hF m
  refine ⟨m', e, ⟨fun a j h0 h14 => ?_, fun j hj => ?_⟩, f1, f5⟩
  · by_cases ha : a = 3
    · subst ha
      by_cases hj : j < 12
      · rw [f2 j hj, h4 j hj]
      · rw [f3 j (by omega), h2 j (by omega)]
    · rw [f1 a (by omega) ha, h1 a j h0 h14 ha]
  · by_cases hj4 : j = 4
    · subst hj4; rw [f4, h5]
    · rw [f5 j hj4, h3 j hj hj4]
theorem frT_m {m0 m m' : Sg} (h : frT m0 m) (f1 : ∀ a, 0 < a → (a < 15 ∨ 22 < a) → a ≠ 3 → m' a = m a) (f2 : ∀ j, 12 ≤ j → m' 3 j = m 3 j) (f3 : ∀ j, j < 36 ∨ 40 < j → j ≠ 4 → m' 0 j = m 0 j) : frT m0 m' := by
  obtain ⟨h1, h2, h3, h4, h5⟩ := h
  exact ⟨fun a j h0 h14 ha => by rw [f1 a h0 (by omega) ha, h1 a j h0 h14 ha], fun j hj => by rw [f2 j hj, h2 j hj], fun j hj h4 => by rw [f3 j (by omega) h4, h3 j hj h4], fun j hj => by rw [f1 23 (by omega) (by omega) (by omega), h4 j hj], by rw [f1 23 (by omega) (by omega) (by omega), h5]⟩
theorem run_l {F N : Nat} {ln : Nat → Nat} {C : CD} {lw : Nat} {cd : Nat → Nat → List Int} {x0 m0 : Sg} (h : Rel N ln x0 m0) (hC : RelC C lw cd N ln x0 m0) (hF : 300 ≤ F) {p n : Nat} (hn : n ≤ 20) {what : Int} (hw : 0 ≤ what ∧ what ≤ 2) : ∀ (k i : Nat) (D : CD) (a b : Int32) (x m : Sg) (f g : Nat), i + k = n → k < f → k < g → okC D → D 0 4 = -1 → D 0 1 ≤ 999 + (i : Int) → p < cN D → courtR D x 6 → x 6 3 = iI (lw : Int) → frX x0 x → courtM D m → frT m0 m →
    Go N ln (g_X6_run_l50 F N ln (iI (p : Int)) (iI (n : Int)) (iI what) f a b (iI (i : Int)) x) (g_X7_run_l43 F (iI (p : Int)) (iI (n : Int)) (iI what) g a b (iI (i : Int)) m) := by
  intro k
  induction k with
  | zero =>
    intro i D a b x m f g h1 h2 h3 hD h4 hs hp hR hl hx hM hT
    obtain ⟨f, rfl⟩ : ∃ q, f = q + 1 := ⟨f - 1, by omega⟩
    obtain ⟨g, rfl⟩ : ∃ q, g = q + 1 := ⟨g - 1, by omega⟩
    have hc := okC_n hD
    obtain ⟨m', e, fY, _⟩ := frT_l (F := F) (by omega) hT
    have le0 : iI (n : Int) ≤ iI (i : Int) := by rw [iI_le (by omega) (by omega)]; omega
    rw [g_X6_run_l50, if_pos le0, g_X7_run_l43, if_pos le0, li_2, iI_mul, li_1, iI_add, rdA_i (n := 12) (by omega), e, bnV_s]
    refine go_if Iff.rfl (fun _ => ?_) fun _ => go_if Iff.rfl (fun _ => go_x h hx fY rfl) fun _ => go_x h hx fY rfl
    rw [rdA_i (by omega), Int.toNat_natCast, show (2 * (p : Int) + 1).toNat = 2 * p + 1 by omega]
    exact go_x h hx fY ((hR.2.2.2.2 p hp).2.2.2.trans (hM.2.2.2 p hp).2.2.2.symm)
  | succ k ih =>
    intro i D a b x m f g h1 h2 h3 hD h4 hs hp hR hl hx hM hT
    obtain ⟨f, rfl⟩ : ∃ q, f = q + 1 := ⟨f - 1, by omega⟩
    obtain ⟨g, rfl⟩ : ∃ q, g = q + 1 := ⟨g - 1, by omega⟩
    have hc := okC_n hD
    have h3' := hC.2.2.1
    obtain ⟨x1, ex, fx, rx⟩ := x_srv hC hF (Or.inr (Or.inl rfl)) hD h3'.1 (fcX_f hx) hR hl
    obtain ⟨bb, _, hE⟩ := evn_ok hD (Tof (cd lw))
    obtain ⟨x2, ex2, fx2, cx2, lx2⟩ := x_rise (F := F) (N := N) (ln := ln) (by omega) (Or.inr (Or.inl rfl)) hD hE (courtR_of hR (fun a _ _ => fx a (by omega))) rx
    obtain ⟨m2, em, f1, f2, f3, cm, cv⟩ := m_truly hC hF hD h4 h3'.1 (fun j => hT.1 5 j (by omega) (by omega) (by omega)) (fun j => hT.1 6 j (by omega) (by omega) (by omega)) hM (by rw [hT.2.2.1 11 (by omega) (by omega)]; exact hC.2.2.2.2.2.2.1)
    obtain ⟨c1, c2⟩ := cv p (by omega)
    rw [g_X6_run_l50, if_neg (by rw [iI_le (by omega) (by omega)]; omega), g_X7_run_l43, if_neg (by rw [iI_le (by omega) (by omega)]; omega), ex, bnI_s, x_costs hD hE rx hp, bnI_s, ex2, bnV_s, em, bnI_s, m_less hE (by omega) c1 c2, bnI_s, li_1, iI_add]
    have tt : ((i + 1 : Nat) : Int) = (i : Int) + 1 := by omega
    rw [← tt]
    exact ih (i + 1) _ _ _ x2 m2 f g (by omega) (by omega) (by omega) (riseS_ok hD (by omega)) (by rw [riseS_0.2 _ (by omega)]; exact h4) (by rw [riseS_0.1]; omega) (by rw [riseS_n]; exact hp) cx2 (by rw [lx2, fx 6 (by omega)]; exact hl) (frX_t hx ⟨fun a ha => by rw [fx2 a (by omega) (by omega), fx a (by omega)], by rw [fx2 30 (by omega) (by omega), fx 30 (by omega)]⟩) cm (frT_m hT f1 f2 f3)
theorem k_run {F N : Nat} {ln : Nat → Nat} (hF : 300 ≤ F) {x m : Sg} (h : Rel N ln x m) (a b c : Int32) : Go N ln (g_X6_run F N ln a b c x) (g_X7_run F a b c m) := by
  obtain ⟨C, lw, cd, hC, hT, hI, hS, hW⟩ := id h
  obtain ⟨h1, h2, h3, h4, h5, h6, h7, h8, h9, h10⟩ := id hC
  obtain ⟨za, ha, rfl⟩ := iI_ex a
  obtain ⟨zb, hb, rfl⟩ := iI_ex b
  obtain ⟨zc, hc, rfl⟩ := iI_ex c
  have hn := okC_n h1
  unfold g_X6_run g_X7_run
  rw [x_there h1 h4.1 ha, m_one h1 h6.1 ha, bnI_s, bnI_s, if01, if01]
  refine go_if Iff.rfl (fun q1 => ?_) fun _ => go_0 h
  obtain ⟨p, rfl⟩ : ∃ n : Nat, za = n := ⟨za.toNat, by omega⟩
  rw [x_in, y_in, bnI_s, bnI_s, if01, if01]
  refine go_if Iff.rfl (fun q2 => ?_) fun _ => go_0 h
  have q2 := in_i hb (lo := 0) (hi := 20) (by omega) (by omega) q2
  rw [x_in, y_in, bnI_s, bnI_s, if01, if01]
  refine go_if Iff.rfl (fun q3 => ?_) fun _ => go_0 h
  have q3 := in_i hc (lo := 0) (hi := 2) (by omega) (by omega) q3
  obtain ⟨n, rfl⟩ : ∃ n : Nat, zb = n := ⟨zb.toNat, by omega⟩
  obtain ⟨x1, e1, f1, c1, l1⟩ := x_take (F := F) (N := N) (ln := ln) (by omega) (k := 6) (k2 := 1) (Or.inr (Or.inl rfl)) (Or.inl rfl) (by omega) x
  obtain ⟨m1, e2, fT, f2⟩ := frT_k (F := F) (by omega) m
  rw [e1, bnV_s, e2, bnV_s]
  exact run_l h hC hF (p := p) (n := n) (by omega) q3 n 0 C 0 0 x1 m1 F F (by omega) (by omega) (by omega) h1 h2.2 (by omega) (by omega) (c1 C h1 h4) (l1.trans h5) ⟨fun a ha => f1 a (by omega), by rw [f1 30 (by omega)]⟩ ⟨by rw [f2 0 (by omega)]; exact h6.1, by rw [f2 0 (by omega)]; exact h6.2.1, by rw [f2 0 (by omega)]; exact h6.2.2.1, fun p hp => by rw [f2 1 (by omega), f2 2 (by omega), f2 3 (by omega)]; exact h6.2.2.2 p hp⟩ fT
