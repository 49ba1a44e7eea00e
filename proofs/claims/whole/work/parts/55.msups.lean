/-! the reference: a supper is as it is told -/
def courtM (C : CD) (σ : Sg) : Prop := σ 0 0 = iI (C 0 0) ∧ σ 0 4 = iI (C 0 1) ∧ σ 0 5 = iI (C 0 2) ∧ ∀ p, p < cN C → σ 1 p = iI (C 1 p) ∧ σ 2 p = iI (C 2 p) ∧ σ 3 (2 * p) = iI (C 3 p) ∧ σ 3 (2 * p + 1) = iI (C 4 p)
def frM (σ σ' : Sg) : Prop := (∀ a, 0 < a → (a < 15 ∨ 22 < a) → σ' a = σ a) ∧ ∀ j, j < 36 ∨ 40 < j → σ' 0 j = σ 0 j
theorem frM_r (σ : Sg) : frM σ σ := ⟨fun _ _ _ => rfl, fun _ _ => rfl⟩
theorem frM_t {σ σ1 σ2 : Sg} (h : frM σ σ1) (h2 : frM σ1 σ2) : frM σ σ2 := ⟨fun a h0 h1 => (h2.1 a h0 h1).trans (h.1 a h0 h1), fun j h1 => (h2.2 j h1).trans (h.2 j h1)⟩
theorem frM_c {σ σ' : Sg} (h : ∀ a, a < 15 ∨ 22 < a → σ' a = σ a) : frM σ σ' := ⟨fun a _ h1 => h a h1, fun j _ => by rw [h 0 (by omega)]⟩
theorem courtM_of {C : CD} {σ σ' : Sg} (h : courtM C σ) (f : frM σ σ') : courtM C σ' := by
  unfold courtM at h ⊢
  rw [f.2 0 (by omega), f.2 4 (by omega), f.2 5 (by omega), f.1 1 (by omega) (by omega), f.1 2 (by omega) (by omega), f.1 3 (by omega) (by omega)]
  exact h
def semM (F : Nat) (T : TX) (σ : Sg) : Prop := ∀ (σ' : Sg) (part : Nat), part < 3 → σ' 5 = σ 5 → σ' 6 = σ 6 → σ' 0 11 = σ 0 11 → ∃ σ2, g_X7_says F (iI (part : Int)) σ' = some (σ2, T part (σ' 16)) ∧ ∀ a, a ≠ 15 → σ2 a = σ' a
theorem semM_of {F : Nat} {T : TX} {σ σ1 : Sg} (h : semM F T σ) (f : frM σ σ1) : semM F T σ1 := fun σ' part hp h1 h2 h3 => h σ' part hp (h1.trans (f.1 5 (by omega) (by omega))) (h2.trans (f.1 6 (by omega) (by omega))) (h3.trans (f.2 11 (by omega)))
theorem m_in {F : Nat} {a b c : Int} {σ : Sg} (ha : -2147483648 ≤ a ∧ a < 2147483648) (hb : -2147483648 ≤ b ∧ b < 2147483648) (hc : -2147483648 ≤ c ∧ c < 2147483648) : g_X7_in F (iI a) (iI b) (iI c) σ = some (σ, if b ≤ a ∧ a ≤ c then 1 else 0) := by
  unfold g_X7_in
  simp only [iI_lt ha hb, iI_lt hc ha]
  by_cases h1 : a < b
  · rw [if_pos h1, if_neg (by omega)]
  · rw [if_neg h1]
    by_cases h2 : c < a
    · rw [if_pos h2, if_neg (by omega)]
    · rw [if_neg h2, if_pos (by omega)]
theorem m_within {F : Nat} {a b c : Int} {σ : Sg} (ha : -2147483648 ≤ a ∧ a < 2147483648) (hb : -2147483648 ≤ b ∧ b < 2147483648) (hc : -2147483648 ≤ c ∧ c < 2147483648) : g_X7_within F (iI a) (iI b) (iI c) σ = some (σ, iI (if b ≤ a then (if a ≤ c then a else c) else b)) := by
  unfold g_X7_within
  simp only [iI_le hb ha, iI_le ha hc]
  split
  · split <;> rfl
  · rfl
theorem m_clamp {F : Nat} {v : Int32} {hi : Int} {σ : Sg} (h : 0 ≤ hi ∧ hi < 1000) : g_X7_within F v (iI 0) (iI hi) σ = some (σ, iI (clS hi v.toInt)) := by
  obtain ⟨z, hz, rfl⟩ := iI_ex v
  rw [m_within hz (by omega) (by omega), iI_toInt hz]
  congr 3
  unfold clS
  split <;> (try split) <;> (try split) <;> (try split) <;> omega
/-- the tail of asksOf: the names are written, the text speaks -/
theorem m_asksT {F : Nat} {T : TX} {σ0 σ : Sg} (hT : semM F T σ0) (hc : congT T) (f : frM σ0 σ) {part : Nat} (hp : part < 3) {h m d r o q : Int} (hn : σ 16 0 = iI h ∧ σ 16 1 = iI m ∧ σ 16 2 = iI d ∧ σ 16 3 = iI r ∧ σ 16 4 = iI o ∧ σ 16 5 = iI q) : ∃ σ', g_X7_asksOf_b95 F (iI (part : Int)) σ = some (σ', iI (sayS T part h m d r o q)) ∧ ∀ a, a ≠ 15 → σ' a = σ a := by
  obtain ⟨s2, e2, f2⟩ := (semM_of hT f) σ part hp rfl rfl rfl
  have hnn : T part (σ 16) = T part (nms h m d r o q) := by
    apply hc
    intro i hi
    obtain ⟨n0, n1, n2, n3, n4, n5⟩ := hn
    rcases (show i = 0 ∨ i = 1 ∨ i = 2 ∨ i = 3 ∨ i = 4 ∨ i = 5 by omega) with rfl | rfl | rfl | rfl | rfl | rfl <;> simp only [n0, n1, n2, n3, n4, n5] <;> rfl
  unfold g_X7_asksOf_b95 g_X7_asksOf_b113
  rw [e2, bnI_s, hnn]
  refine ⟨s2, ?_, f2⟩
  unfold sayS
  have hp' : (part : Int) < 3 := by omega
  by_cases h1 : (part : Int) = 1
  · have h2 : part = 1 := by omega
    rw [if_pos (by rw [h1]; rfl), if_pos h2, li_20, li_0, m_clamp (by omega), bnI_s]
  · have h2 : ¬ part = 1 := by omega
    rw [if_neg (by rw [li_1, iI_eq (by omega) (by omega)]; exact h1), if_neg h2, li_99, li_0, m_clamp (by omega), bnI_s]
theorem m_asksN {F : Nat} {T : TX} {σ : Sg} (hT : semM F T σ) (hc : congT T) {part : Nat} (hp : part < 3) {h m d : Int} : ∃ σ', g_X7_asksOf F (iI (part : Int)) (iI (-1)) (iI h) (iI m) (iI d) σ = some (σ', iI (sayS T part h m d 0 0 0)) ∧ ∀ a, a ≠ 15 → a ≠ 16 → σ' a = σ a := by
  simp (disch := omega) only [g_X7_asksOf, wrF_i, bnI_s, bnL_s, bnV_s, iI_add, iI_sub, iI_mul, iI_neg, rdA_i, wrA_i, iI_lt, iI_le, iI_eq, mxI_i, mnI_i, abI_i, Int.toNat_natCast, Int.reduceToNat, Int.toNat_zero, li_0, li_1, li_2, li_3, li_4, li_5, li_6, li_7, li_8, li_9, li_10, li_11, li_12, li_13, li_14, li_15, li_16, li_17, li_18, li_19, li_20, li_21, li_22, li_23, li_24, li_25, li_26, li_27, li_28, li_29, li_30, li_31, li_32, li_36, li_39, li_40, li_41, li_42, li_43, li_45, li_47, li_48, li_50, li_55, li_57, li_59, li_60, li_61, li_90, li_97, li_99, li_100, li_122, li_127, li_159, li_160, li_199, li_200, li_255, li_499, li_500, li_720, li_999, li_1000, li_1001, li_1002, li_1003, li_1004, li_1005, li_1006, li_5000, li_6000, li_7000, li_9999, li_48271, li_99999, li_100000, li_1000000]
  rw [if_pos (by decide)]
  generalize hs : st (st (st (st (st (st σ 16 0 (iI h)) 16 1 (iI m)) 16 2 (iI d)) 16 3 (iI 0)) 16 4 (iI 0)) 16 5 (iI 0) = s
  have a1 : ∀ a, a ≠ 16 → s a = σ a := fun a ha => by funext b; rw [← hs]; simp only [st_k ha]
  obtain ⟨s2, e2, f2⟩ := m_asksT hT hc (frM_c (fun a ha => a1 a (by omega))) hp (h := h) (m := m) (d := d) (r := 0) (o := 0) (q := 0) (by rw [← hs]; refine ⟨?_, ?_, ?_, ?_, ?_, ?_⟩ <;> simp (disch := omega) only [st_e, st_k, st_j])
  exact ⟨s2, e2, fun a h1 h2 => by rw [f2 a h1, a1 a h2]⟩
theorem m_asksP {F : Nat} {T : TX} {σ : Sg} (hT : semM F T σ) (hc : congT T) {C : CD} (hC : okC C) (hR : courtM C σ) {p : Nat} (hp : p < cN C) {part : Nat} (hp1 : 0 < part) (hp3 : part < 3) {h m d : Int} : ∃ σ', g_X7_asksOf F (iI (part : Int)) (iI (p : Int)) (iI h) (iI m) (iI d) σ = some (σ', iI (sayS T part h m d (C 3 p) (C 4 p) (C 2 p))) ∧ ∀ a, a ≠ 15 → a ≠ 16 → σ' a = σ a := by
  have hn := okC_n hC
  obtain ⟨r1, r2, r3, r4⟩ := hR.2.2.2 p hp
  have ht1 : ((2 * (p : Int))).toNat = 2 * p := by omega
  have ht2 : ((2 * (p : Int) + 1)).toNat = 2 * p + 1 := by omega
  simp (disch := omega) only [g_X7_asksOf, wrF_i, bnI_s, bnL_s, bnV_s, iI_add, iI_sub, iI_mul, iI_neg, rdA_i, wrA_i, iI_lt, iI_le, iI_eq, mxI_i, mnI_i, abI_i, Int.toNat_natCast, Int.reduceToNat, Int.toNat_zero, li_0, li_1, li_2, li_3, li_4, li_5, li_6, li_7, li_8, li_9, li_10, li_11, li_12, li_13, li_14, li_15, li_16, li_17, li_18, li_19, li_20, li_21, li_22, li_23, li_24, li_25, li_26, li_27, li_28, li_29, li_30, li_31, li_32, li_36, li_39, li_40, li_41, li_42, li_43, li_45, li_47, li_48, li_50, li_55, li_57, li_59, li_60, li_61, li_90, li_97, li_99, li_100, li_122, li_127, li_159, li_160, li_199, li_200, li_255, li_499, li_500, li_720, li_999, li_1000, li_1001, li_1002, li_1003, li_1004, li_1005, li_1006, li_5000, li_6000, li_7000, li_9999, li_48271, li_99999, li_100000, li_1000000, ht1, ht2]
  rw [if_neg (by omega), if_neg (by omega)]
  simp (disch := omega) only [st_k, r2, r3, r4]
  generalize hs : st (st (st (st (st (st (st (st (st σ 16 0 (iI h)) 16 1 (iI m)) 16 2 (iI d)) 16 3 (iI 0)) 16 4 (iI 0)) 16 5 (iI 0)) 16 3 (iI (C 3 p))) 16 4 (iI (C 4 p))) 16 5 (iI (C 2 p)) = s
  have a1 : ∀ a, a ≠ 16 → s a = σ a := fun a ha => by funext b; rw [← hs]; simp only [st_k ha]
  obtain ⟨s2, e2, f2⟩ := m_asksT hT hc (frM_c (fun a ha => a1 a (by omega))) hp3 (h := h) (m := m) (d := d) (r := C 3 p) (o := C 4 p) (q := C 2 p) (by rw [← hs]; refine ⟨?_, ?_, ?_, ?_, ?_, ?_⟩ <;> simp (disch := omega) only [st_e, st_k, st_j])
  exact ⟨s2, e2, fun a h1 h2 => by rw [f2 a h1, a1 a h2]⟩
theorem m_likes {F : Nat} {T : TX} {σ : Sg} (hT : semM F T σ) (hc : congT T) {C : CD} (hC : okC C) (hR : courtM C σ) {p : Nat} (hp : p < cN C) {h m d : Int} : ∃ σ', g_X7_likesOf F (iI (p : Int)) (iI h) (iI m) (iI d) σ = some (σ', iI (likeS (C 1 p) (C 2 p) (sayS T 2 h m d (C 3 p) (C 4 p) (C 2 p)))) ∧ ∀ a, a ≠ 15 → a ≠ 16 → σ' a = σ a := by
  have hn := okC_n hC
  obtain ⟨r1, r2, r3, r4⟩ := hR.2.2.2 p hp
  obtain ⟨q1, q2, q3, q4⟩ := hC.2.2.2.2 p hp
  have sb := sayS_b T 2 h m d (C 3 p) (C 4 p) (C 2 p)
  obtain ⟨s2, e2, f2⟩ := m_asksP hT hc hC hR hp (part := 2) (by omega) (by omega) (h := h) (m := m) (d := d)
  have e2 : g_X7_asksOf F 2 (iI (p : Int)) (iI h) (iI m) (iI d) σ = some (s2, iI (sayS T 2 h m d (C 3 p) (C 4 p) (C 2 p))) := e2
  unfold g_X7_likesOf g_X7_likesOf_b44
  rw [e2, bnI_s, rdA_i (by omega), rdA_i (by omega), Int.toNat_natCast, f2 1 (by omega) (by omega), f2 2 (by omega) (by omega), r1, r2, iI_sub, li_0, li_99, m_within (by omega) (by omega) (by omega), bnI_s]
  refine ⟨s2, ?_, f2⟩
  generalize sayS T 2 h m d (C 3 p) (C 4 p) (C 2 p) = v at sb ⊢
  generalize C 1 p = kd at q1 ⊢
  generalize C 2 p = mo at q2 ⊢
  simp (disch := omega) only [wrF_i, bnI_s, bnL_s, bnV_s, iI_add, iI_sub, iI_mul, iI_neg, rdA_i, wrA_i, iI_lt, iI_le, iI_eq, mxI_i, mnI_i, abI_i, Int.toNat_natCast, Int.reduceToNat, Int.toNat_zero, li_0, li_1, li_2, li_3, li_4, li_5, li_6, li_7, li_8, li_9, li_10, li_11, li_12, li_13, li_14, li_15, li_16, li_17, li_18, li_19, li_20, li_21, li_22, li_23, li_24, li_25, li_26, li_27, li_28, li_29, li_30, li_31, li_32, li_36, li_39, li_40, li_41, li_42, li_43, li_45, li_47, li_48, li_50, li_55, li_57, li_59, li_60, li_61, li_90, li_97, li_99, li_100, li_122, li_127, li_159, li_160, li_199, li_200, li_255, li_499, li_500, li_720, li_999, li_1000, li_1001, li_1002, li_1003, li_1004, li_1005, li_1006, li_5000, li_6000, li_7000, li_9999, li_48271, li_99999, li_100000, li_1000000]
  unfold likeS
  rcases (show kd = 0 ∨ kd = 1 ∨ kd = 2 ∨ kd = 3 ∨ kd = 4 ∨ kd = 5 by omega) with rfl | rfl | rfl | rfl | rfl | rfl <;> simp <;> (try (congr 1; split <;> split <;> (try split) <;> omega))
theorem m_waits {F : Nat} {T : TX} {σ : Sg} (hT : semM F T σ) (hc : congT T) {C : CD} (hC : okC C) (hR : courtM C σ) {p : Nat} (hp : p < cN C) {h m d : Int} (hh : 0 ≤ h ∧ h ≤ 99) : ∃ σ', g_X7_waitsOf F (iI (p : Int)) (iI h) (iI m) (iI d) σ = some (σ', iI (waiS C T p d m h)) ∧ ∀ a, a ≠ 15 → a ≠ 16 → σ' a = σ a := by
  have hn := okC_n hC
  obtain ⟨r1, r2, r3, r4⟩ := hR.2.2.2 p hp
  obtain ⟨q1, q2, q3, q4⟩ := hC.2.2.2.2 p hp
  have su := hC.2.1
  have sb := sayS_b1 T h m d (C 3 p) (C 4 p) (C 2 p)
  obtain ⟨s2, e2, f2⟩ := m_asksP hT hc hC hR hp (part := 1) (by omega) (by omega) (h := h) (m := m) (d := d)
  have e2 : g_X7_asksOf F 1 (iI (p : Int)) (iI h) (iI m) (iI d) σ = some (s2, iI (sayS T 1 h m d (C 3 p) (C 4 p) (C 2 p))) := e2
  unfold g_X7_waitsOf waiS
  rw [rdA_i (by omega), Int.toNat_natCast, r1]
  by_cases h5 : C 1 p = 5
  · rw [if_pos (by rw [h5]; rfl), h5]
    exact ⟨σ, rfl, fun _ _ _ => rfl⟩
  · rw [if_neg (by rw [li_5, iI_eq (by omega) (by omega)]; exact h5), e2, bnI_s, rdA_i (by omega), Int.toNat_natCast, f2 2 (by omega) (by omega), r2, iI_add]
    refine ⟨s2, ?_, f2⟩
    have s1 : s2 1 = σ 1 := f2 1 (by omega) (by omega)
    have s22 : s2 2 = σ 2 := f2 2 (by omega) (by omega)
    have s04 : s2 0 4 = iI (C 0 1) := by rw [f2 0 (by omega) (by omega)]; exact hR.2.1
    have key : ∀ u : Int, (0 ≤ u ∧ u ≤ 29) → g_X7_waitsOf_b44 F (iI (p : Int)) (iI (sayS T 1 h m d (C 3 p) (C 4 p) (C 2 p))) (iI u) s2 = some (s2, iI (if C 1 p = 1 then u else if C 1 p = 3 then u / 2 else if C 1 p = 4 then (if C 0 1 % 4 = 0 then C 2 p else sayS T 1 h m d (C 3 p) (C 4 p) (C 2 p)) else sayS T 1 h m d (C 3 p) (C 4 p) (C 2 p))) := by
      intro u hu
      unfold g_X7_waitsOf_b44
      rw [rdA_i (by omega), rdA_i (by omega), Int.toNat_natCast, s1, s22, r1, r2, s04]
      generalize sayS T 1 h m d (C 3 p) (C 4 p) (C 2 p) = v at sb ⊢
      generalize C 1 p = kd at q1 h5 ⊢
      generalize C 2 p = mo at q2 ⊢
      generalize C 0 1 = sp at su ⊢
      simp (disch := omega) only [wrF_i, bnI_s, bnL_s, bnV_s, iI_add, iI_sub, iI_mul, iI_neg, rdA_i, wrA_i, iI_lt, iI_le, iI_eq, mxI_i, mnI_i, abI_i, Int.toNat_natCast, Int.reduceToNat, Int.toNat_zero, li_0, li_1, li_2, li_3, li_4, li_5, li_6, li_7, li_8, li_9, li_10, li_11, li_12, li_13, li_14, li_15, li_16, li_17, li_18, li_19, li_20, li_21, li_22, li_23, li_24, li_25, li_26, li_27, li_28, li_29, li_30, li_31, li_32, li_36, li_39, li_40, li_41, li_42, li_43, li_45, li_47, li_48, li_50, li_55, li_57, li_59, li_60, li_61, li_90, li_97, li_99, li_100, li_122, li_127, li_159, li_160, li_199, li_200, li_255, li_499, li_500, li_720, li_999, li_1000, li_1001, li_1002, li_1003, li_1004, li_1005, li_1006, li_5000, li_6000, li_7000, li_9999, li_48271, li_99999, li_100000, li_1000000, divI_i, remI_i]
      rcases (show kd = 0 ∨ kd = 1 ∨ kd = 2 ∨ kd = 3 ∨ kd = 4 by omega) with rfl | rfl | rfl | rfl | rfl <;> simp <;> (try (split <;> rfl))
    by_cases h60 : h ≤ 60
    · have e60 : earlS (C 2 p) (sayS T 1 h m d (C 3 p) (C 4 p) (C 2 p)) h = sayS T 1 h m d (C 3 p) (C 4 p) (C 2 p) := if_neg (by omega)
      rw [if_pos (by rw [li_60, iI_le (by omega) (by omega)]; exact h60), key _ (by omega)]
      unfold waitS
      rw [e60, if_neg h5]
    · have e60 : earlS (C 2 p) (sayS T 1 h m d (C 3 p) (C 4 p) (C 2 p)) h = sayS T 1 h m d (C 3 p) (C 4 p) (C 2 p) + C 2 p := if_pos (by omega)
      rw [if_neg (by rw [li_60, iI_le (by omega) (by omega)]; exact h60), key _ (by omega)]
      unfold waitS
      rw [e60, if_neg h5]
theorem m_minds {F : Nat} {σ : Sg} {C : CD} (hC : okC C) {p : Nat} (hp : p < cN C) (r1 : σ 1 p = iI (C 1 p)) (r2 : σ 2 p = iI (C 2 p)) {o : Int} (ho : -99 ≤ o ∧ o ≤ 99) : g_X7_mindsOf F (iI (p : Int)) (iI o) σ = some (σ, iI (mindS (C 1 p) (C 2 p) o)) := by
  have hn := okC_n hC
  obtain ⟨q1, q2, q3, q4⟩ := hC.2.2.2.2 p hp
  have key : ∀ far ch : Int, (0 ≤ far ∧ far ≤ 99) → (0 ≤ ch ∧ ch ≤ 99) → g_X7_mindsOf_b22 F (iI (p : Int)) (iI o) (iI far) (iI ch) σ = some (σ, iI (if C 1 p = 1 ∨ C 1 p = 3 then (if 0 < o then 2 * far else far) else if C 1 p = 2 then ch else if C 1 p = 4 then (if ch - C 2 p < 0 then 0 else ch - C 2 p) else if C 1 p = 5 then -C 2 p else far)) := by
    intro far ch hf hch
    unfold g_X7_mindsOf_b22 g_X7_mindsOf_b64
    rw [rdA_i (by omega), rdA_i (by omega), rdA_i (by omega), rdA_i (by omega), Int.toNat_natCast, r1, r2]
    generalize C 1 p = kd at q1 ⊢
    generalize C 2 p = mo at q2 ⊢
    simp (disch := omega) only [wrF_i, bnI_s, bnL_s, bnV_s, iI_add, iI_sub, iI_mul, iI_neg, rdA_i, wrA_i, iI_lt, iI_le, iI_eq, mxI_i, mnI_i, abI_i, Int.toNat_natCast, Int.reduceToNat, Int.toNat_zero, li_0, li_1, li_2, li_3, li_4, li_5, li_6, li_7, li_8, li_9, li_10, li_11, li_12, li_13, li_14, li_15, li_16, li_17, li_18, li_19, li_20, li_21, li_22, li_23, li_24, li_25, li_26, li_27, li_28, li_29, li_30, li_31, li_32, li_36, li_39, li_40, li_41, li_42, li_43, li_45, li_47, li_48, li_50, li_55, li_57, li_59, li_60, li_61, li_90, li_97, li_99, li_100, li_122, li_127, li_159, li_160, li_199, li_200, li_255, li_499, li_500, li_720, li_999, li_1000, li_1001, li_1002, li_1003, li_1004, li_1005, li_1006, li_5000, li_6000, li_7000, li_9999, li_48271, li_99999, li_100000, li_1000000]
    rcases (show kd = 0 ∨ kd = 1 ∨ kd = 2 ∨ kd = 3 ∨ kd = 4 ∨ kd = 5 by omega) with rfl | rfl | rfl | rfl | rfl | rfl <;> simp <;> (try (split <;> (try split) <;> (try rfl) <;> (try (congr 1; omega)) <;> omega))
  unfold g_X7_mindsOf g_X7_mindsOf_b10
  by_cases h0 : 0 ≤ o
  · have c0 : (0 : Int32) ≤ iI o := by rw [li_0, iI_le (by omega) (by omega)]; exact h0
    have ec : chapS o = o := if_neg (by omega)
    have e1 : (if 0 < o then 2 * o else -o) = (if 0 < o then 2 * o else o) := by split <;> omega
    have e2 : (if 0 ≤ o then o else -o) = o := if_pos h0
    rw [if_pos c0, if_pos c0, key o o (by omega) (by omega)]
    unfold mindS
    rw [ec, e1, e2]
  · have c0 : ¬ (0 : Int32) ≤ iI o := by rw [li_0, iI_le (by omega) (by omega)]; exact h0
    have ec : chapS o = (-o) / 2 := if_pos (by omega)
    have e1 : (if 0 < o then 2 * o else -o) = (if 0 < o then 2 * -o else -o) := by split <;> omega
    have e2 : (if 0 ≤ o then o else -o) = -o := if_neg h0
    rw [if_neg c0, if_neg c0, iI_neg, li_2, divI_i (by omega), key (-o) ((-o) / 2) (by omega) (by omega)]
    unfold mindS
    rw [ec, e1, e2]
theorem m_better {F : Nat} {C : CD} (hC : okC C) {σ : Sg} (hR : courtM C σ) {p q : Nat} (hp : p < cN C) (hq : q < cN C) : g_X7_isBetter F (iI (q : Int)) (iI (p : Int)) σ = some (σ, if betS C q p then 1 else 0) := by
  have hn := okC_n hC
  obtain ⟨-, -, -, -, b5⟩ := hC
  have q3 := (b5 p hp).2.2.1
  have q4 := (b5 q hq).2.2.1
  have r3 := (hR.2.2.2 p hp).2.2.1
  have r4 := (hR.2.2.2 q hq).2.2.1
  have hb : (betS C q p = true) ↔ (C 3 p < C 3 q ∨ (C 3 p = C 3 q ∧ q < p)) := by simp [betS]
  have ht1 : ((2 * (p : Int))).toNat = 2 * p := by omega
  have ht2 : ((2 * (q : Int))).toNat = 2 * q := by omega
  unfold g_X7_isBetter g_X7_isBetter_b43
  rw [li_2, iI_mul, iI_mul, rdA_i (by omega), rdA_i (by omega), rdA_i (by omega), rdA_i (by omega), ht1, ht2, r3, r4]
  simp (disch := omega) only [iI_lt, iI_le, iI_eq]
  by_cases h1 : C 3 p < C 3 q
  · rw [if_pos h1, if_pos (hb.mpr (Or.inl h1))]
  · rw [if_neg h1]
    by_cases h2 : C 3 q = C 3 p
    · rw [if_pos h2]
      by_cases h3 : (p : Int) ≤ q
      · rw [if_pos h3, if_neg (fun h => by have := hb.mp h; omega)]
      · rw [if_neg h3, if_pos (hb.mpr (by omega))]
    · rw [if_neg h2, if_neg (fun h => by have := hb.mp h; omega)]
