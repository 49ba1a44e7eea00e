/-! the class: a supper is as it is told -/
theorem kct {k : Nat} (h : isCt k) : k = 1 ∨ k = 6 ∨ k = 11 := h
theorem okC_n {C : CD} (h : okC C) : (cN C : Int) = C 0 0 ∧ cN C ≤ 6 := by
  have := h.1; unfold cN; omega
def courtR (C : CD) (σ : Sg) (k : Nat) : Prop := σ k 0 = iI (C 0 0) ∧ σ k 1 = iI (C 0 1) ∧ σ k 2 = iI (C 0 2) ∧ σ k 4 = iI (C 0 4) ∧ ∀ p, p < cN C → σ (k + 1) p = iI (C 1 p) ∧ σ (k + 2) p = iI (C 2 p) ∧ σ (k + 3) p = iI (C 3 p) ∧ σ (k + 4) p = iI (C 4 p)
theorem courtR_of {C : CD} {σ σ' : Sg} {k : Nat} (h : courtR C σ k) (e : ∀ a, k ≤ a → a ≤ k + 4 → σ' a = σ a) : courtR C σ' k := by
  unfold courtR at h ⊢
  rw [e k (by omega) (by omega), e (k + 1) (by omega) (by omega), e (k + 2) (by omega) (by omega), e (k + 3) (by omega) (by omega), e (k + 4) (by omega) (by omega)]
  exact h
def semX (F N : Nat) (ln : Nat → Nat) (t : Nat) (T : TX) (σ : Sg) : Prop := ∀ (σ' : Sg) (part : Nat), part < 3 → (∀ a, (26 ≤ a ∧ a ≤ 28) ∨ 44 ≤ a → σ' a = σ a) → ∃ σ2, g_X5_value F N ln t (iI (part : Int)) σ' = some (σ2, T part (σ' 23)) ∧ ∀ a, a ≠ 24 → σ2 a = σ' a
theorem semX_of {F N : Nat} {ln : Nat → Nat} {t : Nat} {T : TX} {σ σ1 : Sg} (h : semX F N ln t T σ) (e : ∀ a, (26 ≤ a ∧ a ≤ 28) ∨ 44 ≤ a → σ1 a = σ a) : semX F N ln t T σ1 := fun σ' part hp h1 => h σ' part hp (fun a ha => (h1 a ha).trans (e a ha))
theorem x_within {F N : Nat} {ln : Nat → Nat} {a b c : Int} {σ : Sg} (ha : -2147483648 ≤ a ∧ a < 2147483648) (hb : -2147483648 ≤ b ∧ b < 2147483648) (hc : -2147483648 ≤ c ∧ c < 2147483648) : g_X6_isWithin F N ln (iI a) (iI b) (iI c) σ = some (σ, if b ≤ a ∧ a ≤ c then 1 else 0) := by
  unfold g_X6_isWithin
  simp only [iI_lt ha hb, iI_lt hc ha]
  by_cases h1 : a < b
  · rw [if_pos h1, if_neg (by omega)]
  · rw [if_neg h1]
    by_cases h2 : c < a
    · rw [if_pos h2, if_neg (by omega)]
    · rw [if_neg h2, if_pos (by omega)]
theorem x_speak {F N : Nat} {ln : Nat → Nat} {k : Nat} (hk : isCt k) {C : CD} (hC : okC C) {σ : Sg} (hR : courtR C σ k) {p : Nat} (hp : p < cN C) : ∃ σ', g_X2_speakOf F N ln k (iI (p : Int)) σ = some σ' ∧ (∀ a, a ≠ 23 → σ' a = σ a) ∧ σ' 23 3 = iI (C 3 p) ∧ σ' 23 4 = iI (C 4 p) ∧ σ' 23 5 = iI (C 2 p) := by
  have hk := kct hk
  have hn := okC_n hC
  obtain ⟨-, -, -, -, hR⟩ := hR
  obtain ⟨r1, r2, r3, r4⟩ := hR p hp
  have e1 : ((p : Int)) < 6 := by omega
  simp (disch := omega) only [g_X2_speakOf, g_X2_speakOf_b15, g_X2_speakOf_b35, g_X2_speakOf_b55, g_X2_speakOf_b75, wrF_i, bnI_s, bnL_s, bnV_s, iI_add, iI_sub, iI_mul, iI_neg, rdA_i, wrA_i, iI_lt, iI_le, iI_eq, mxI_i, mnI_i, abI_i, Int.toNat_natCast, Int.reduceToNat, Int.toNat_zero, li_0, li_1, li_2, li_3, li_4, li_5, li_6, li_7, li_8, li_9, li_10, li_11, li_12, li_13, li_14, li_15, li_16, li_17, li_18, li_19, li_20, li_21, li_22, li_23, li_24, li_25, li_26, li_27, li_28, li_29, li_30, li_31, li_32, li_36, li_39, li_40, li_41, li_42, li_43, li_45, li_47, li_48, li_50, li_55, li_57, li_59, li_60, li_61, li_90, li_97, li_99, li_100, li_122, li_127, li_159, li_160, li_199, li_200, li_255, li_499, li_500, li_720, li_999, li_1000, li_1001, li_1002, li_1003, li_1004, li_1005, li_1006, li_5000, li_6000, li_7000, li_9999, li_48271, li_99999, li_100000, li_1000000, st_e, st_k, st_j]
  have c1 : ¬ (p : Int) < 0 := by omega
  have c2 : ¬ 6 ≤ (p : Int) := by omega
  have c3 : ¬ (1 : Int) = 0 := by omega
  simp only [if_neg c1, if_neg c2, if_neg c3, r1, r2, r3, r4]
  refine ⟨_, rfl, fun a ha => ?_, ?_, ?_, ?_⟩
  · funext b; simp only [st_k ha]
  · simp (disch := omega) only [st_e, st_k, st_j]
  · simp (disch := omega) only [st_e, st_k, st_j]
  · simp (disch := omega) only [st_e, st_k, st_j]
theorem x_speakN {F N : Nat} {ln : Nat → Nat} {k : Nat} (hk : isCt k) {σ : Sg} : ∃ σ', g_X2_speakOf F N ln k (iI (-1)) σ = some σ' ∧ (∀ a, a ≠ 23 → σ' a = σ a) ∧ σ' 23 3 = iI 0 ∧ σ' 23 4 = iI 0 ∧ σ' 23 5 = iI 0 := by
  simp (disch := omega) only [g_X2_speakOf, g_X2_speakOf_b14, g_X2_speakOf_b15, g_X2_speakOf_b35, g_X2_speakOf_b55, g_X2_speakOf_b75, wrF_i, bnI_s, bnL_s, bnV_s, iI_add, iI_sub, iI_mul, iI_neg, rdA_i, wrA_i, iI_lt, iI_le, iI_eq, mxI_i, mnI_i, abI_i, Int.toNat_natCast, Int.reduceToNat, Int.toNat_zero, li_0, li_1, li_2, li_3, li_4, li_5, li_6, li_7, li_8, li_9, li_10, li_11, li_12, li_13, li_14, li_15, li_16, li_17, li_18, li_19, li_20, li_21, li_22, li_23, li_24, li_25, li_26, li_27, li_28, li_29, li_30, li_31, li_32, li_36, li_39, li_40, li_41, li_42, li_43, li_45, li_47, li_48, li_50, li_55, li_57, li_59, li_60, li_61, li_90, li_97, li_99, li_100, li_122, li_127, li_159, li_160, li_199, li_200, li_255, li_499, li_500, li_720, li_999, li_1000, li_1001, li_1002, li_1003, li_1004, li_1005, li_1006, li_5000, li_6000, li_7000, li_9999, li_48271, li_99999, li_100000, li_1000000, st_e, st_k, st_j]
  have c1 : (-1 : Int) < 0 := by omega
  simp only [if_pos c1, if_true]
  refine ⟨_, rfl, fun a ha => ?_, ?_, ?_, ?_⟩
  · funext b; simp only [st_k ha]
  · simp (disch := omega) only [st_e, st_k, st_j]
  · simp (disch := omega) only [st_e, st_k, st_j]
  · simp (disch := omega) only [st_e, st_k, st_j]
theorem clamp_x {v : Int32} {hi : Int} (h : 0 ≤ hi ∧ hi < 1000) : mxI (iI 0) (mnI (iI hi) v) = iI (clS hi v.toInt) := by
  obtain ⟨z, hz, rfl⟩ := iI_ex v
  rw [mnI_i (by omega) hz, mxI_i (by omega) (by split <;> omega), iI_toInt hz]
  congr 1
  unfold clS
  split <;> split <;> (try split) <;> (try split) <;> omega
theorem x_says {F N : Nat} {ln : Nat → Nat} {t : Nat} {T : TX} {σ : Sg} (hT : semX F N ln t T σ) (hc : congT T) {part : Nat} (hp : part < 3) {h m d r o q : Int} (h3 : σ 23 3 = iI r) (h4 : σ 23 4 = iI o) (h5 : σ 23 5 = iI q) : ∃ σ', g_X2_says F N ln t (iI (part : Int)) (iI h) (iI m) (iI d) σ = some (σ', iI (sayS T part h m d r o q)) ∧ (∀ a, a ≠ 23 → a ≠ 24 → σ' a = σ a) ∧ σ' 23 3 = iI r ∧ σ' 23 4 = iI o ∧ σ' 23 5 = iI q := by
  have hp' : (part : Int) < 3 := by omega
  simp (disch := omega) only [g_X2_says, g_X2_says_b35, wrF_i, bnI_s, bnL_s, bnV_s, iI_add, iI_sub, iI_mul, iI_neg, rdA_i, wrA_i, iI_lt, iI_le, iI_eq, mxI_i, mnI_i, abI_i, Int.toNat_natCast, Int.reduceToNat, Int.toNat_zero, li_0, li_1, li_2, li_3, li_4, li_5, li_6, li_7, li_8, li_9, li_10, li_11, li_12, li_13, li_14, li_15, li_16, li_17, li_18, li_19, li_20, li_21, li_22, li_23, li_24, li_25, li_26, li_27, li_28, li_29, li_30, li_31, li_32, li_36, li_39, li_40, li_41, li_42, li_43, li_45, li_47, li_48, li_50, li_55, li_57, li_59, li_60, li_61, li_90, li_97, li_99, li_100, li_122, li_127, li_159, li_160, li_199, li_200, li_255, li_499, li_500, li_720, li_999, li_1000, li_1001, li_1002, li_1003, li_1004, li_1005, li_1006, li_5000, li_6000, li_7000, li_9999, li_48271, li_99999, li_100000, li_1000000]
  obtain ⟨s2, e2, f2⟩ := hT (st (st (st σ 23 0 (iI h)) 23 1 (iI m)) 23 2 (iI d)) part hp (fun a ha => by funext b; rw [st_k (by omega), st_k (by omega), st_k (by omega)])
  have hn : T part (st (st (st σ 23 0 (iI h)) 23 1 (iI m)) 23 2 (iI d) 23) = T part (nms h m d r o q) := by
    apply hc
    intro i hi
    rcases (show i = 0 ∨ i = 1 ∨ i = 2 ∨ i = 3 ∨ i = 4 ∨ i = 5 by omega) with rfl | rfl | rfl | rfl | rfl | rfl <;> simp (disch := omega) only [st_e, st_k, st_j, h3, h4, h5] <;> rfl
  have key : ∀ (u : Int), 0 ≤ u ∧ u < 1000 → bnI (g_X5_value F N ln t (iI (part : Int)) (st (st (st σ 23 0 (iI h)) 23 1 (iI m)) 23 2 (iI d))) (fun s_1 x_2 => some (s_1, mxI (iI 0) (mnI (iI u) x_2))) = some (s2, iI (clS u (T part (nms h m d r o q)).toInt)) := by
    intro u hu
    rw [e2, bnI_s, hn, clamp_x hu]
  refine ⟨s2, ?_, fun a h1 h2 => ?_, ?_, ?_, ?_⟩
  · unfold sayS
    by_cases h1 : (part : Int) = 1
    · have h2 : part = 1 := by omega
      rw [if_pos h1, if_pos h2, key 20 (by omega)]
    · have h2 : ¬ part = 1 := by omega
      rw [if_neg h1, if_neg h2, key 99 (by omega)]
  · rw [f2 a h2]; funext b; rw [st_k h1, st_k h1, st_k h1]
  · rw [f2 23 (by omega)]; simp (disch := omega) only [st_e, st_k, st_j, h3]
  · rw [f2 23 (by omega)]; simp (disch := omega) only [st_e, st_k, st_j, h4]
  · rw [f2 23 (by omega)]; simp (disch := omega) only [st_e, st_k, st_j, h5]
theorem x_like {F N : Nat} {ln : Nat → Nat} {kd mo s : Int} {σ : Sg} (hk : 0 ≤ kd ∧ kd ≤ 5) (hm : 0 ≤ mo ∧ mo ≤ 9) (hs : 0 ≤ s ∧ s ≤ 99) : g_X6_liking F N ln (iI kd) (iI mo) (iI s) σ = some (σ, iI (likeS kd mo s)) := by
  simp (disch := omega) only [g_X6_liking, g_X6_liking_b28, wrF_i, bnI_s, bnL_s, bnV_s, iI_add, iI_sub, iI_mul, iI_neg, rdA_i, wrA_i, iI_lt, iI_le, iI_eq, mxI_i, mnI_i, abI_i, Int.toNat_natCast, Int.reduceToNat, Int.toNat_zero, li_0, li_1, li_2, li_3, li_4, li_5, li_6, li_7, li_8, li_9, li_10, li_11, li_12, li_13, li_14, li_15, li_16, li_17, li_18, li_19, li_20, li_21, li_22, li_23, li_24, li_25, li_26, li_27, li_28, li_29, li_30, li_31, li_32, li_36, li_39, li_40, li_41, li_42, li_43, li_45, li_47, li_48, li_50, li_55, li_57, li_59, li_60, li_61, li_90, li_97, li_99, li_100, li_122, li_127, li_159, li_160, li_199, li_200, li_255, li_499, li_500, li_720, li_999, li_1000, li_1001, li_1002, li_1003, li_1004, li_1005, li_1006, li_5000, li_6000, li_7000, li_9999, li_48271, li_99999, li_100000, li_1000000]
  unfold likeS
  rcases (show kd = 0 ∨ kd = 1 ∨ kd = 2 ∨ kd = 3 ∨ kd = 4 ∨ kd = 5 by omega) with rfl | rfl | rfl | rfl | rfl | rfl <;> simp <;> (try (congr 1; split <;> split <;> omega))
theorem x_wait {F N : Nat} {ln : Nat → Nat} {kd mo s h su : Int} {σ : Sg} (hk : 0 ≤ kd ∧ kd ≤ 5) (hm : 0 ≤ mo ∧ mo ≤ 9) (hs : 0 ≤ s ∧ s ≤ 20) (hh : 0 ≤ h ∧ h ≤ 99) (hu : 0 ≤ su ∧ su ≤ 2000) : g_X6_waiting F N ln (iI kd) (iI mo) (iI s) (iI h) (iI su) σ = some (σ, iI (waitS kd mo s h su)) := by
  have h1 : g_X6_earlWaiting F N ln (iI mo) (iI s) (iI h) σ = some (σ, iI (earlS mo s h)) := by
    simp (disch := omega) only [g_X6_earlWaiting, wrF_i, bnI_s, bnL_s, bnV_s, iI_add, iI_sub, iI_mul, iI_neg, rdA_i, wrA_i, iI_lt, iI_le, iI_eq, mxI_i, mnI_i, abI_i, Int.toNat_natCast, Int.reduceToNat, Int.toNat_zero, li_0, li_1, li_2, li_3, li_4, li_5, li_6, li_7, li_8, li_9, li_10, li_11, li_12, li_13, li_14, li_15, li_16, li_17, li_18, li_19, li_20, li_21, li_22, li_23, li_24, li_25, li_26, li_27, li_28, li_29, li_30, li_31, li_32, li_36, li_39, li_40, li_41, li_42, li_43, li_45, li_47, li_48, li_50, li_55, li_57, li_59, li_60, li_61, li_90, li_97, li_99, li_100, li_122, li_127, li_159, li_160, li_199, li_200, li_255, li_499, li_500, li_720, li_999, li_1000, li_1001, li_1002, li_1003, li_1004, li_1005, li_1006, li_5000, li_6000, li_7000, li_9999, li_48271, li_99999, li_100000, li_1000000]
    unfold earlS
    by_cases h60 : h ≤ 60
    · rw [if_pos h60, if_neg (by omega)]
    · rw [if_neg h60, if_pos (by omega)]
  have h2 : 0 ≤ earlS mo s h ∧ earlS mo s h ≤ 29 := by unfold earlS; split <;> omega
  simp (disch := omega) only [g_X6_waiting, h1, wrF_i, bnI_s, bnL_s, bnV_s, iI_add, iI_sub, iI_mul, iI_neg, rdA_i, wrA_i, iI_lt, iI_le, iI_eq, mxI_i, mnI_i, abI_i, Int.toNat_natCast, Int.reduceToNat, Int.toNat_zero, li_0, li_1, li_2, li_3, li_4, li_5, li_6, li_7, li_8, li_9, li_10, li_11, li_12, li_13, li_14, li_15, li_16, li_17, li_18, li_19, li_20, li_21, li_22, li_23, li_24, li_25, li_26, li_27, li_28, li_29, li_30, li_31, li_32, li_36, li_39, li_40, li_41, li_42, li_43, li_45, li_47, li_48, li_50, li_55, li_57, li_59, li_60, li_61, li_90, li_97, li_99, li_100, li_122, li_127, li_159, li_160, li_199, li_200, li_255, li_499, li_500, li_720, li_999, li_1000, li_1001, li_1002, li_1003, li_1004, li_1005, li_1006, li_5000, li_6000, li_7000, li_9999, li_48271, li_99999, li_100000, li_1000000, divI_i, remI_i]
  unfold waitS
  rcases (show kd = 0 ∨ kd = 1 ∨ kd = 2 ∨ kd = 3 ∨ kd = 4 ∨ kd = 5 by omega) with rfl | rfl | rfl | rfl | rfl | rfl <;> simp <;> (try (split <;> rfl))
theorem x_mind {F N : Nat} {ln : Nat → Nat} {kd mo o : Int} {σ : Sg} (hk : 0 ≤ kd ∧ kd ≤ 5) (hm : 0 ≤ mo ∧ mo ≤ 9) (ho : -99 ≤ o ∧ o ≤ 99) : g_X6_minding F N ln (iI kd) (iI mo) (iI o) σ = some (σ, iI (mindS kd mo o)) := by
  have h1 : g_X6_chaplainMinding F N ln (iI o) σ = some (σ, iI (chapS o)) := by
    unfold chapS g_X6_chaplainMinding
    by_cases h0 : 0 ≤ o
    · simp (disch := omega) only [wrF_i, bnI_s, bnL_s, bnV_s, iI_add, iI_sub, iI_mul, iI_neg, rdA_i, wrA_i, iI_lt, iI_le, iI_eq, mxI_i, mnI_i, abI_i, Int.toNat_natCast, Int.reduceToNat, Int.toNat_zero, li_0, li_1, li_2, li_3, li_4, li_5, li_6, li_7, li_8, li_9, li_10, li_11, li_12, li_13, li_14, li_15, li_16, li_17, li_18, li_19, li_20, li_21, li_22, li_23, li_24, li_25, li_26, li_27, li_28, li_29, li_30, li_31, li_32, li_36, li_39, li_40, li_41, li_42, li_43, li_45, li_47, li_48, li_50, li_55, li_57, li_59, li_60, li_61, li_90, li_97, li_99, li_100, li_122, li_127, li_159, li_160, li_199, li_200, li_255, li_499, li_500, li_720, li_999, li_1000, li_1001, li_1002, li_1003, li_1004, li_1005, li_1006, li_5000, li_6000, li_7000, li_9999, li_48271, li_99999, li_100000, li_1000000]
      rw [if_pos h0, if_neg (by omega)]
    · simp (disch := omega) only [wrF_i, bnI_s, bnL_s, bnV_s, iI_add, iI_sub, iI_mul, iI_neg, rdA_i, wrA_i, iI_lt, iI_le, iI_eq, mxI_i, mnI_i, abI_i, Int.toNat_natCast, Int.reduceToNat, Int.toNat_zero, li_0, li_1, li_2, li_3, li_4, li_5, li_6, li_7, li_8, li_9, li_10, li_11, li_12, li_13, li_14, li_15, li_16, li_17, li_18, li_19, li_20, li_21, li_22, li_23, li_24, li_25, li_26, li_27, li_28, li_29, li_30, li_31, li_32, li_36, li_39, li_40, li_41, li_42, li_43, li_45, li_47, li_48, li_50, li_55, li_57, li_59, li_60, li_61, li_90, li_97, li_99, li_100, li_122, li_127, li_159, li_160, li_199, li_200, li_255, li_499, li_500, li_720, li_999, li_1000, li_1001, li_1002, li_1003, li_1004, li_1005, li_1006, li_5000, li_6000, li_7000, li_9999, li_48271, li_99999, li_100000, li_1000000, divI_i]
      rw [if_neg h0, if_pos (by omega)]
  have h2 := chapS_b ho
  simp (disch := omega) only [g_X6_minding, g_X6_minding_b36, h1, wrF_i, bnI_s, bnL_s, bnV_s, iI_add, iI_sub, iI_mul, iI_neg, rdA_i, wrA_i, iI_lt, iI_le, iI_eq, mxI_i, mnI_i, abI_i, Int.toNat_natCast, Int.reduceToNat, Int.toNat_zero, li_0, li_1, li_2, li_3, li_4, li_5, li_6, li_7, li_8, li_9, li_10, li_11, li_12, li_13, li_14, li_15, li_16, li_17, li_18, li_19, li_20, li_21, li_22, li_23, li_24, li_25, li_26, li_27, li_28, li_29, li_30, li_31, li_32, li_36, li_39, li_40, li_41, li_42, li_43, li_45, li_47, li_48, li_50, li_55, li_57, li_59, li_60, li_61, li_90, li_97, li_99, li_100, li_122, li_127, li_159, li_160, li_199, li_200, li_255, li_499, li_500, li_720, li_999, li_1000, li_1001, li_1002, li_1003, li_1004, li_1005, li_1006, li_5000, li_6000, li_7000, li_9999, li_48271, li_99999, li_100000, li_1000000]
  unfold mindS
  rcases (show kd = 0 ∨ kd = 1 ∨ kd = 2 ∨ kd = 3 ∨ kd = 4 ∨ kd = 5 by omega) with rfl | rfl | rfl | rfl | rfl | rfl <;> simp <;> (try (split <;> (try split) <;> (try rfl) <;> (try (congr 1; omega)) <;> omega))
