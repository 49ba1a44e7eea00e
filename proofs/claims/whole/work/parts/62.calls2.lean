theorem courtR_r {C : CD} {x : Sg} {k : Nat} (hk : isCt k) (h : courtR C x k) {r p : Nat} (hr : 1 ≤ r ∧ r ≤ 4) {v : Int} : courtR (upI C r p v) (st x (k + r) p (iI v)) k := by
  obtain ⟨a, b, c, d, e⟩ := h
  have hk' := kct hk
  have ec : cN (upI C r p v) = cN C := by unfold cN; rw [up_k (by omega)]
  refine ⟨by rw [st_k (by omega), up_k (by omega)]; exact a, by rw [st_k (by omega), up_k (by omega)]; exact b, by rw [st_k (by omega), up_k (by omega)]; exact c, by rw [st_k (by omega), up_k (by omega)]; exact d, fun q hq => ?_⟩
  rw [ec] at hq
  obtain ⟨e1, e2, e3, e4⟩ := e q hq
  have key : ∀ s, 1 ≤ s → s ≤ 4 → x (k + s) q = iI (C s q) → st x (k + r) p (iI v) (k + s) q = iI (upI C r p v s q) := by
    intro s _ _ hs
    by_cases h1 : s = r
    · subst h1
      by_cases h2 : q = p
      · subst h2; rw [st_e, up_e]
      · rw [st_j h2, up_j h2]; exact hs
    · rw [st_k (by omega), up_k h1]; exact hs
  exact ⟨key 1 (by omega) (by omega) e1, key 2 (by omega) (by omega) e2, key 3 (by omega) (by omega) e3, key 4 (by omega) (by omega) e4⟩
theorem okC_r {C : CD} (h : okC C) {r p : Nat} {v : Int} (hv : (r = 1 ∧ 0 ≤ v ∧ v ≤ 5) ∨ (r = 2 ∧ 0 ≤ v ∧ v ≤ 9) ∨ (r = 3 ∧ 0 ≤ v ∧ v ≤ 99) ∨ (r = 4 ∧ 0 ≤ v ∧ v ≤ 999)) : okC (upI C r p v) := by
  obtain ⟨a, b, c, d, e⟩ := h
  have ec : cN (upI C r p v) = cN C := by unfold cN; rw [up_k (by omega)]
  refine ⟨by rw [up_k (by omega)]; exact a, by rw [up_k (by omega)]; exact b, by rw [up_k (by omega)]; exact c, by rw [up_k (by omega)]; exact d, fun q hq => ?_⟩
  rw [ec] at hq
  obtain ⟨e1, e2, e3, e4⟩ := e q hq
  unfold upI
  refine ⟨?_, ?_, ?_, ?_⟩ <;> split <;> first | assumption | (split <;> omega)
theorem courtM_r1 {C : CD} {m : Sg} (h : courtM C m) {r p : Nat} (hr : 1 ≤ r ∧ r ≤ 2) {v : Int} : courtM (upI C r p v) (st m r p (iI v)) := by
  obtain ⟨a, b, c, e⟩ := h
  have ec : cN (upI C r p v) = cN C := by unfold cN; rw [up_k (by omega)]
  refine ⟨by rw [st_k (by omega), up_k (by omega)]; exact a, by rw [st_k (by omega), up_k (by omega)]; exact b, by rw [st_k (by omega), up_k (by omega)]; exact c, fun q hq => ?_⟩
  rw [ec] at hq
  obtain ⟨e1, e2, e3, e4⟩ := e q hq
  have key : ∀ s, s ≤ 2 → m s q = iI (C s q) → st m r p (iI v) s q = iI (upI C r p v s q) := by
    intro s _ hs
    by_cases h1 : s = r
    · subst h1
      by_cases h2 : q = p
      · subst h2; rw [st_e, up_e]
      · rw [st_j h2, up_j h2]; exact hs
    · rw [st_k h1, up_k h1]; exact hs
  exact ⟨key 1 (by omega) e1, key 2 (by omega) e2, by rw [st_k (by omega), up_k (by omega)]; exact e3, by rw [st_k (by omega), up_k (by omega)]; exact e4⟩
theorem courtM_r3 {C : CD} {m : Sg} (h : courtM C m) {w p : Nat} (hw : w ≤ 1) {v : Int} : courtM (upI C (3 + w) p v) (st m 3 (2 * p + w) (iI v)) := by
  obtain ⟨a, b, c, e⟩ := h
  have ec : cN (upI C (3 + w) p v) = cN C := by unfold cN; rw [up_k (by omega)]
  refine ⟨by rw [st_k (by omega), up_k (by omega)]; exact a, by rw [st_k (by omega), up_k (by omega)]; exact b, by rw [st_k (by omega), up_k (by omega)]; exact c, fun q hq => ?_⟩
  rw [ec] at hq
  obtain ⟨e1, e2, e3, e4⟩ := e q hq
  have key : ∀ u, u ≤ 1 → m 3 (2 * q + u) = iI (C (3 + u) q) → st m 3 (2 * p + w) (iI v) 3 (2 * q + u) = iI (upI C (3 + w) p v (3 + u) q) := by
    intro u _ hs
    by_cases h1 : u = w ∧ q = p
    · rw [h1.1, h1.2, st_e, up_e]
    · rw [st_j (by omega)]
      by_cases h2 : u = w
      · rw [h2, up_j (fun h => h1 ⟨h2, h⟩), ← h2]; exact hs
      · rw [up_k (by omega)]; exact hs
  exact ⟨by rw [st_k (by omega), up_k (by omega)]; exact e1, by rw [st_k (by omega), up_k (by omega)]; exact e2, key 0 (by omega) e3, key 1 (by omega) e4⟩
theorem k_put {F N : Nat} {ln : Nat → Nat} {x m : Sg} (h : Rel N ln x m) (a b v : Int32) : Go N ln (g_X6_put F N ln a b v x) (g_X7_put F a b v m) := by
  obtain ⟨C, lw, cd, hC, hT, hI, hS, hW⟩ := id h
  obtain ⟨h1, h2, h3, h4, h5, h6, h7, h8, h9, h10⟩ := id hC
  obtain ⟨p, hp, rfl⟩ := iI_ex a
  obtain ⟨w, hw, rfl⟩ := iI_ex b
  obtain ⟨z, hz, rfl⟩ := iI_ex v
  unfold g_X6_put g_X7_put
  rw [x_there h1 h4.1 hp, m_one h1 h6.1 hp, bnI_s, bnI_s, if01, if01]
  refine go_if Iff.rfl (fun q => ?_) fun _ => go_0 h
  obtain ⟨n, rfl⟩ : ∃ n : Nat, p = n := ⟨p.toNat, by omega⟩
  have hc := okC_n h1
  have hn : n < cN C := by omega
  obtain ⟨e1, e2, e3, e4⟩ := h4.2.2.2.2 n hn
  obtain ⟨f1, f2, f3, f4⟩ := h6.2.2.2 n hn
  rw [x_in, y_in, bnI_s, bnI_s, if01, if01]
  refine go_if Iff.rfl (fun q2 => ?_) fun _ => go_0 h
  have hw2 := in_i hw (lo := 0) (hi := 1) (by omega) (by omega) q2
  rw [li_0, ite_eq hw (by omega), ite_eq hw (by omega)]
  refine go_if Iff.rfl (fun e => ?_) fun e => ?_
  · subst e
    unfold g_X6_put_b34 g_X7_put_b34
    rw [x_in, y_in, bnI_s, bnI_s, if01, if01]
    refine go_if Iff.rfl (fun q => ?_) fun _ => go_0 h
    have hv := in_i hz (lo := 0) (hi := 99) (by omega) (by omega) q
    unfold g_X6_put_b64
    rw [if_pos (by rfl), rdA_i (by omega), wrA_i (by omega), li_2, iI_mul, iI_add, rdA_i (by omega), wrA_i (by omega), Int.toNat_natCast, show (2 * (n : Int) + 0).toNat = 2 * n + 0 by omega]
    exact go_w (e3.trans f3.symm) (Rel_c hC hT hI hS hW (fcX_s (by omega)) (fcY_s (by omega)) (C' := upI C 3 n z) (okC_r h1 (by omega)) ⟨by rw [up_k (by omega)]; omega, by rw [up_k (by omega)]; omega⟩ h3.1 (courtR_r (Or.inl rfl) h4 (by omega)) (by rw [st_k (by omega)]; exact h5) (courtM_r3 h6 (by omega)) (by rw [st_k (by omega)]; exact h7) ⟨by rw [up_k (by omega)]; omega, fun p _ => by rw [up_k (by omega), up_k (by omega)]; exact ⟨rfl, rfl⟩⟩)
  · have e : w = 1 := by omega
    subst e
    unfold g_X6_put_b34 g_X7_put_b34
    rw [x_in, y_in, bnI_s, bnI_s, if01, if01]
    refine go_if Iff.rfl (fun q => ?_) fun _ => go_0 h
    have hv := in_i hz (lo := 0) (hi := 999) (by omega) (by omega) q
    unfold g_X6_put_b64
    rw [if_neg (by decide), rdA_i (by omega), wrA_i (by omega), li_2, iI_mul, iI_add, rdA_i (by omega), wrA_i (by omega), Int.toNat_natCast, show (2 * (n : Int) + 1).toNat = 2 * n + 1 by omega]
    exact go_w (e4.trans f4.symm) (Rel_c hC hT hI hS hW (fcX_s (by omega)) (fcY_s (by omega)) (C' := upI C 4 n z) (okC_r h1 (by omega)) ⟨by rw [up_k (by omega)]; omega, by rw [up_k (by omega)]; omega⟩ h3.1 (courtR_r (Or.inl rfl) h4 (by omega)) (by rw [st_k (by omega)]; exact h5) (courtM_r3 h6 (by omega)) (by rw [st_k (by omega)]; exact h7) ⟨by rw [up_k (by omega)]; omega, fun p _ => by rw [up_k (by omega), up_k (by omega)]; exact ⟨rfl, rfl⟩⟩)
theorem x_isC {F N : Nat} {ln : Nat → Nat} {a b : Int32} {σ : Sg} : g_X6_isCourtier F N ln a b σ = some (σ, if (0 ≤ a ∧ a ≤ 59) ∧ 0 ≤ b ∧ b ≤ 99 then 1 else 0) := by
  unfold g_X6_isCourtier
  rw [x_in, bnI_s, if01]
  by_cases h : 0 ≤ a ∧ a ≤ 59
  · rw [if_pos h, x_in, bnI_s, if01]
    by_cases h2 : 0 ≤ b ∧ b ≤ 99
    · rw [if_pos h2, if_pos ⟨h, h2⟩]
    · rw [if_neg h2, if_neg (fun q => h2 q.2)]
  · rw [if_neg h, if_neg (fun q => h q.1)]
/-- one more comes -/
def moreC (C : CD) (kd mo r : Int) : CD := upI (upI (upI (upI (upI C 1 (cN C) kd) 2 (cN C) mo) 3 (cN C) r) 4 (cN C) 500) 0 0 (C 0 0 + 1)
theorem moreC_0 {C : CD} {kd mo r : Int} : moreC C kd mo r 0 0 = C 0 0 + 1 ∧ ∀ j, j ≠ 0 → moreC C kd mo r 0 j = C 0 j := by
  unfold moreC
  exact ⟨up_e, fun j hj => by rw [up_j hj, up_k (by omega), up_k (by omega), up_k (by omega), up_k (by omega)]⟩
theorem moreC_n {C : CD} {kd mo r : Int} (h : okC C) : cN (moreC C kd mo r) = cN C + 1 := by
  have := okC_n h
  unfold cN; rw [moreC_0.1]; unfold cN at this; omega
theorem moreC_p {C : CD} {kd mo r : Int} {p : Nat} (hp : p ≠ cN C) {a : Nat} (ha : a ≠ 0) : moreC C kd mo r a p = C a p := by
  unfold moreC; rw [up_k ha, up_j hp, up_j hp, up_j hp, up_j hp]
theorem moreC_q {C : CD} {kd mo r : Int} : moreC C kd mo r 1 (cN C) = kd ∧ moreC C kd mo r 2 (cN C) = mo ∧ moreC C kd mo r 3 (cN C) = r ∧ moreC C kd mo r 4 (cN C) = 500 := by
  unfold moreC
  refine ⟨?_, ?_, ?_, ?_⟩
  · rw [up_k (by omega), up_k (by omega), up_k (by omega), up_k (by omega), up_e]
  · rw [up_k (by omega), up_k (by omega), up_k (by omega), up_e]
  · rw [up_k (by omega), up_k (by omega), up_e]
  · rw [up_k (by omega), up_e]
theorem moreC_ok {C : CD} {kd mo r : Int} (h : okC C) (h6 : C 0 0 < 6) (h1 : 0 ≤ kd ∧ kd ≤ 5) (h2 : 0 ≤ mo ∧ mo ≤ 9) (h3 : 0 ≤ r ∧ r ≤ 99) : okC (moreC C kd mo r) := by
  have hn := moreC_n (kd := kd) (mo := mo) (r := r) h
  obtain ⟨a, b, c, d, e⟩ := h
  have z := moreC_0 (C := C) (kd := kd) (mo := mo) (r := r)
  refine ⟨by rw [z.1]; omega, by rw [z.2 _ (by omega)]; exact b, by rw [z.2 _ (by omega)]; exact c, by rw [z.2 _ (by omega)]; exact d, fun p hp => ?_⟩
  by_cases h : p = cN C
  · rw [h, moreC_q.1, moreC_q.2.1, moreC_q.2.2.1, moreC_q.2.2.2]; omega
  · rw [moreC_p h (by omega), moreC_p h (by omega), moreC_p h (by omega), moreC_p h (by omega)]; exact e p (by omega)
theorem k_courtier {F N : Nat} {ln : Nat → Nat} {x m : Sg} (h : Rel N ln x m) (a b : Int32) : Go N ln (g_X6_courtier F N ln a b x) (g_X7_courtier F a b m) := by
  obtain ⟨C, lw, cd, hC, hT, hI, hS, hW⟩ := id h
  obtain ⟨h1, h2, h3, h4, h5, h6, h7, h8, h9, h10⟩ := id hC
  obtain ⟨p, hp, rfl⟩ := iI_ex a
  obtain ⟨w, hw, rfl⟩ := iI_ex b
  unfold g_X6_courtier g_X7_courtier
  rw [x_isC, y_in, bnI_s, bnI_s, if01, if01]
  by_cases q1 : 0 ≤ iI p ∧ iI p ≤ 59
  · rw [if_pos q1, y_in, bnI_s, if01]
    refine go_if ⟨fun h => h.2, fun h => ⟨q1, h⟩⟩ (fun q2 => ?_) fun _ => go_0 h
    have hv1 := in_i hp (lo := 0) (hi := 59) (by omega) (by omega) q2.1
    have hv2 := in_i hw (lo := 0) (hi := 99) (by omega) (by omega) q2.2
    have hc := okC_n h1
    have hb := h1.1
    rw [h4.1, h6.1, li_6, ite_lt (by omega) (by omega), ite_eq (by omega) (by omega)]
    by_cases q3 : C 0 0 < 6
    · rw [if_pos q3, if_neg (by omega), li_10, divI_i (by omega), remI_i (by omega), divI_i (by omega), wrA_i (by omega), remI_i (by omega)]
      have hd : 0 ≤ p / 10 ∧ p / 10 ≤ 5 := by omega
      have hm : 0 ≤ p % 10 ∧ p % 10 ≤ 9 := by omega
      generalize p / 10 = kd at hd
      generalize p % 10 = mo at hm
      unfold g_X1_admit
      rw [h4.1, li_6, ite_lt (by omega) (by omega), if_pos q3, wrA_i (by omega), wrA_i (by omega), wrA_i (by omega), li_500, wrA_i (by omega), wrF_i, st_k (by omega), st_k (by omega), st_k (by omega), st_k (by omega), h4.1, bnI_s]
      have ht : (C 0 0).toNat = cN C := rfl
      have t2 : (2 * C 0 0).toNat = 2 * cN C + 0 := by omega
      have t3 : (2 * C 0 0 + 1).toNat = 2 * cN C + 1 := by omega
      have m0 : ∀ (s : Sg) (k j : Nat) (v : Int32), k ≠ 0 → st s k j v 0 0 = s 0 0 := fun s k j v hk => st_k (Ne.symm hk)
      simp (disch := omega) only [m0, h6.1, wrF_i, bnI_s, bnL_s, bnV_s, iI_add, iI_sub, iI_mul, iI_neg, rdA_i, wrA_i, iI_lt, iI_le, iI_eq, mxI_i, mnI_i, abI_i, Int.toNat_natCast, Int.reduceToNat, Int.toNat_zero, li_0, li_1, li_2, li_3, li_4, li_5, li_6, li_7, li_8, li_9, li_10, li_11, li_12, li_13, li_14, li_15, li_16, li_17, li_18, li_19, li_20, li_21, li_22, li_23, li_24, li_25, li_26, li_27, li_28, li_29, li_30, li_31, li_32, li_36, li_39, li_40, li_41, li_42, li_43, li_45, li_47, li_48, li_50, li_55, li_57, li_59, li_60, li_61, li_90, li_97, li_99, li_100, li_122, li_127, li_159, li_160, li_199, li_200, li_255, li_499, li_500, li_720, li_999, li_1000, li_1001, li_1002, li_1003, li_1004, li_1005, li_1006, li_5000, li_6000, li_7000, li_9999, li_48271, li_99999, li_100000, li_1000000, ht, t2, t3]
      refine go_w (by rw [st_e]; simp (disch := omega) only [wrF_i, bnI_s, bnL_s, bnV_s, iI_add, iI_sub, iI_mul, iI_neg, rdA_i, wrA_i, iI_lt, iI_le, iI_eq, mxI_i, mnI_i, abI_i, Int.toNat_natCast, Int.reduceToNat, Int.toNat_zero, li_0, li_1, li_2, li_3, li_4, li_5, li_6, li_7, li_8, li_9, li_10, li_11, li_12, li_13, li_14, li_15, li_16, li_17, li_18, li_19, li_20, li_21, li_22, li_23, li_24, li_25, li_26, li_27, li_28, li_29, li_30, li_31, li_32, li_36, li_39, li_40, li_41, li_42, li_43, li_45, li_47, li_48, li_50, li_55, li_57, li_59, li_60, li_61, li_90, li_97, li_99, li_100, li_122, li_127, li_159, li_160, li_199, li_200, li_255, li_499, li_500, li_720, li_999, li_1000, li_1001, li_1002, li_1003, li_1004, li_1005, li_1006, li_5000, li_6000, li_7000, li_9999, li_48271, li_99999, li_100000, li_1000000]; congr 1; omega) (Rel_c hC hT hI hS hW ?_ ?_ (C' := moreC C kd mo w) (moreC_ok h1 q3 hd hm hv2) ⟨by rw [moreC_0.2 _ (by omega)]; omega, by rw [moreC_0.2 _ (by omega)]; omega⟩ h3.1 ?_ ?_ ?_ ?_ ?_)
      · exact fcX_t (fcX_t (fcX_t (fcX_t (fcX_s (by omega)) (fcX_s (by omega))) (fcX_s (by omega))) (fcX_s (by omega))) (fcX_s (by omega))
      · exact fcY_t (fcY_t (fcY_t (fcY_t (fcY_s (by omega)) (fcY_s (by omega))) (fcY_s (by omega))) (fcY_s (by omega))) (fcY_s (by omega))
      · obtain ⟨a, b, c, d, e⟩ := h4
        refine ⟨by rw [st_e, moreC_0.1], by simp (disch := omega) only [st_e, st_k, st_j, moreC_0.2, b], by simp (disch := omega) only [st_e, st_k, st_j, moreC_0.2, c], by simp (disch := omega) only [st_e, st_k, st_j, moreC_0.2, d], fun q hq => ?_⟩
        rw [moreC_n h1] at hq
        by_cases hqn : q = cN C
        · subst hqn
          rw [moreC_q.1, moreC_q.2.1, moreC_q.2.2.1, moreC_q.2.2.2]
          refine ⟨?_, ?_, ?_, ?_⟩ <;> simp (disch := omega) only [st_e, st_k, st_j]
        · rw [moreC_p hqn (by omega), moreC_p hqn (by omega), moreC_p hqn (by omega), moreC_p hqn (by omega)]
          obtain ⟨e1, e2, e3, e4⟩ := e q (by omega)
          refine ⟨?_, ?_, ?_, ?_⟩ <;> simp (disch := omega) only [st_e, st_k, st_j] <;> assumption
      · simp (disch := omega) only [st_e, st_k, st_j, h5]
      · obtain ⟨a, b, c, e⟩ := h6
        refine ⟨by rw [st_e, moreC_0.1], by simp (disch := omega) only [st_e, st_k, st_j, moreC_0.2, b], by simp (disch := omega) only [st_e, st_k, st_j, moreC_0.2, c], fun q hq => ?_⟩
        rw [moreC_n h1] at hq
        by_cases hqn : q = cN C
        · subst hqn
          rw [moreC_q.1, moreC_q.2.1, moreC_q.2.2.1, moreC_q.2.2.2]
          refine ⟨?_, ?_, ?_, ?_⟩ <;> simp (disch := omega) only [st_e, st_k, st_j]
          exact st_e
        · rw [moreC_p hqn (by omega), moreC_p hqn (by omega), moreC_p hqn (by omega), moreC_p hqn (by omega)]
          obtain ⟨e1, e2, e3, e4⟩ := e q (by omega)
          refine ⟨?_, ?_, ?_, ?_⟩ <;> simp (disch := omega) only [st_e, st_k, st_j] <;> assumption
      · simp (disch := omega) only [st_e, st_k, st_j, h7]
      · exact ⟨by rw [moreC_0.1]; omega, fun q hq => ⟨moreC_p (by omega) (by omega), moreC_p (by omega) (by omega)⟩⟩
    · rw [if_neg q3, if_pos (by omega)]; exact go_0 h
  · rw [if_neg q1, if_neg (fun q => q1 q.1)]; exact go_0 h
