theorem x_last {F N : Nat} {ln : Nat → Nat} {C E : CD} (hC : okC C) {b : Nat} (hb : b ≤ (stdS C).length) (hE : okE C b E) {σ : Sg} (hR : evR C E σ) : g_X2_last F N ln σ = some (σ, iI (E 0 1)) := by
  have hn := okC_n hC
  have hl := stdS_len C
  unfold g_X2_last
  rw [hR.2.1, hE.1, li_0, ite_le (by omega) (by omega)]
  by_cases h : b = 0
  · rw [if_pos (by omega), (hE.2.2.1 h).1]; rfl
  · rw [if_neg (by omega), li_1, iI_sub, rdA_i (by omega), show ((b : Int) - 1).toNat = b - 1 by omega, hR.2.2.2.1 _ (by omega), (hE.2.1 (by omega)).1]
theorem x_lastM {F N : Nat} {ln : Nat → Nat} {C E : CD} (hC : okC C) {b : Nat} (hb : b ≤ (stdS C).length) (hE : okE C b E) {σ : Sg} (hR : evR C E σ) : g_X2_lastMinute F N ln σ = some (σ, iI (E 0 2)) := by
  have hn := okC_n hC
  have hl := stdS_len C
  unfold g_X2_lastMinute
  rw [hR.2.1, hE.1, li_0, ite_le (by omega) (by omega)]
  by_cases h : b = 0
  · rw [if_pos (by omega), (hE.2.2.1 h).2]; rfl
  · have ha := (atS_ok (C := C) (d := b - 1) (by omega)).1
    have hp := (stdS_mem.mp ha).1
    rw [if_neg (by omega), li_1, iI_sub, rdA_i (by omega), show ((b : Int) - 1).toNat = b - 1 by omega, hR.2.2.2.1 _ (by omega), rdA_i (by omega), Int.toNat_natCast, (hR.2.2.2.2 _ hp).2.1, (hE.2.1 (by omega)).2]
def nbS (E : CD) : Nat → Int32
  | 0 => 0
  | n + 1 => nbS E n ||| (if E 1 n = -1 then (1 : Int32) <<< (iI (n : Int) &&& 31) else 0)
theorem x_never {F N : Nat} {ln : Nat → Nat} (hF : 100 ≤ F) {C E : CD} (hC : okC C) {b : Nat} (hE : okE C b E) {σ : Sg} (hR : evR C E σ) : g_X2_neverBits F N ln (iI (C 0 0)) σ = some (σ, nbS E (cN C)) := by
  have hn := okC_n hC
  unfold g_X2_neverBits
  obtain ⟨v, e, hv⟩ := loop_up (fun n i v => g_X2_neverBits_l4 F N ln (iI (C 0 0)) n v (iI (i : Int)) σ) (fun i v => v = nbS E i) (cN C) (by
    intro n i v hi hv
    rw [g_X2_neverBits_l4, if_neg (by rw [iI_le (by omega) (by omega)]; omega), x_beg hC hE hR hi, bnI_s]
    refine ⟨nbS E (i + 1), ?_, rfl⟩
    unfold g_X2_neverBits_b25
    by_cases h : E 1 i = -1
    · rw [if_pos h, if_pos rfl, li_1, iI_add, nbS, if_pos h, hv]; rfl
    · rw [if_neg h, if_neg (by decide), li_1, iI_add, nbS, if_neg h, hv]; rfl) (cN C) 0 0 F (by omega) rfl (by omega)
  obtain ⟨q, hq⟩ : ∃ q, F - cN C = q + 1 := ⟨F - cN C - 1, by omega⟩
  refine e.trans ?_
  simp only [hq]
  rw [g_X2_neverBits_l4, if_pos (by rw [iI_le (by omega) (by omega)]; omega), hv]
theorem m_never {F : Nat} (hF : 100 ≤ F) {C E : CD} (hC : okC C) {b : Nat} (hE : okE C b E) {σ : Sg} (h0 : σ 0 0 = iI (C 0 0)) (hR : evM C E σ) : g_X7_neverSet F σ = some (σ, nbS E (cN C)) := by
  have hn := okC_n hC
  unfold g_X7_neverSet
  obtain ⟨v, e, hv⟩ := loop_up (fun n i v => g_X7_neverSet_l4 F n v (iI (i : Int)) σ) (fun i v => v = nbS E i) (cN C) (by
    intro n i v hi hv
    have hb := (hE.2.2.2.2.2 i).1
    rw [g_X7_neverSet_l4, h0, if_neg (by rw [iI_le (by omega) (by omega)]; omega), rdA_i (by omega), Int.toNat_natCast, (hR.2.2.2.2.2.2.2 i (by omega)).1, li_n1, ite_eq (a := E 1 i) (b := -1) (by omega) (by omega)]
    refine ⟨nbS E (i + 1), ?_, rfl⟩
    unfold g_X7_neverSet_b30
    by_cases h : E 1 i = -1
    · rw [if_pos h, li_1, iI_add, nbS, if_pos h, hv]; rfl
    · rw [if_neg h, li_1, iI_add, nbS, if_neg h, hv]; rfl) (cN C) 0 0 F (by omega) rfl (by omega)
  obtain ⟨q, hq⟩ : ∃ q, F - cN C = q + 1 := ⟨F - cN C - 1, by omega⟩
  refine e.trans ?_
  simp only [hq]
  rw [g_X7_neverSet_l4, h0, if_pos (by rw [iI_le (by omega) (by omega)]; omega), hv]
/-- who minds most -/
def mmS (E : CD) : Nat → Int
  | 0 => -1
  | n + 1 => if E 1 n ≠ -1 ∧ (mmS E n = -1 ∨ E 4 (mmS E n).toNat < E 4 n) then n else mmS E n
theorem mmS_b {C E : CD} {b : Nat} (hE : okE C b E) : ∀ n, -1 ≤ mmS E n ∧ mmS E n < n ∧ (mmS E n ≠ -1 → E 1 (mmS E n).toNat ≠ -1)
  | 0 => ⟨by unfold mmS; omega, by unfold mmS; omega, fun h => absurd rfl h⟩
  | n + 1 => by
    have ih := mmS_b hE n
    unfold mmS
    split
    · rename_i h; exact ⟨by omega, by omega, fun _ => by rw [Int.toNat_natCast]; exact h.1⟩
    · exact ⟨by omega, by omega, ih.2.2⟩
theorem x_most {F N : Nat} {ln : Nat → Nat} (hF : 100 ≤ F) {C E : CD} (hC : okC C) {b : Nat} (hE : okE C b E) {σ : Sg} (hR : evR C E σ) : g_X2_mindsMost F N ln (iI (C 0 0)) σ = some (σ, iI (mmS E (cN C))) := by
  have hn := okC_n hC
  unfold g_X2_mindsMost
  obtain ⟨v, e, hv⟩ := loop_up (fun n i v => g_X2_mindsMost_l4 F N ln (iI (C 0 0)) n v (iI (i : Int)) σ) (fun i v => v = iI (mmS E i)) (cN C) (by
    intro n i v hi hv
    have hm := mmS_b hE i
    rw [g_X2_mindsMost_l4, if_neg (by rw [iI_le (by omega) (by omega)]; omega), x_beg hC hE hR hi, bnI_s]
    refine ⟨iI (mmS E (i + 1)), ?_, rfl⟩
    unfold g_X2_mindsMost_b37 g_X2_mindsMost_b39
    by_cases h : E 1 i = -1
    · rw [if_pos h, if_pos rfl, li_1, iI_add, mmS, if_neg (fun q => q.1 h), hv]; rfl
    · rw [if_neg h, if_neg (by decide), hv, li_n1, ite_eq (a := mmS E i) (b := -1) (by omega) (by omega)]
      by_cases h2 : mmS E i = -1
      · rw [if_pos h2, mmS, if_pos ⟨h, Or.inl h2⟩, li_1, iI_add]; rfl
      · obtain ⟨p, hp⟩ : ∃ p : Nat, mmS E i = p := ⟨(mmS E i).toNat, by omega⟩
        have v1 := ((hR.2.2.2.2 i hi).2.2.2 h).2
        have h3 := hm.2.2 h2
        rw [hp, Int.toNat_natCast] at h3
        have v2 := ((hR.2.2.2.2 p (by omega)).2.2.2 h3).2
        have b1 := (hE.2.2.2.2.2 i).2.2.2 h
        have b2 := (hE.2.2.2.2.2 p).2.2.2 h3
        rw [if_neg h2, mmS, hp, rdA_i (by omega), rdA_i (by omega), Int.toNat_natCast, Int.toNat_natCast, v1, v2, ite_le (by omega) (by omega), li_1, iI_add]
        by_cases h4 : E 4 p < E 4 i
        · rw [if_neg (by omega), if_pos ⟨h, Or.inr h4⟩]; rfl
        · rw [if_pos (by omega), if_neg (by omega)]; rfl) (cN C) 0 (-1) F (by omega) rfl (by omega)
  obtain ⟨q, hq⟩ : ∃ q, F - cN C = q + 1 := ⟨F - cN C - 1, by omega⟩
  refine e.trans ?_
  simp only [hq]
  rw [g_X2_mindsMost_l4, if_pos (by rw [iI_le (by omega) (by omega)]; omega), hv]
theorem m_most {F : Nat} (hF : 100 ≤ F) {C E : CD} (hC : okC C) {b : Nat} (hE : okE C b E) {σ : Sg} (h0 : σ 0 0 = iI (C 0 0)) (hR : evM C E σ) : g_X7_mindsMost F σ = some (σ, iI (mmS E (cN C))) := by
  have hn := okC_n hC
  unfold g_X7_mindsMost
  obtain ⟨⟨v, w⟩, e, hv, hw⟩ := loop_up (S := Int32 × Int32) (fun n i v => g_X7_mindsMost_l8 F n v.1 v.2 (iI (i : Int)) σ) (fun i v => v.1 = iI (mmS E i) ∧ v.2 = iI (if mmS E i = -1 then -6000 else E 4 (mmS E i).toNat)) (cN C) (by
    intro n i ⟨v, w⟩ hi ⟨hv, hw⟩
    have hm := mmS_b hE i
    simp only [] at hv hw
    have v1 := (hR.2.2.2.2.2.2.2 i (by omega)).2.2.2
    have b0 := (hE.2.2.2.2.2 i).2.2.1
    have b1 := (hE.2.2.2.2.2 i).2.2.2
    refine ⟨(iI (mmS E (i + 1)), iI (if mmS E (i + 1) = -1 then -6000 else E 4 (mmS E (i + 1)).toNat)), ?_, rfl, rfl⟩
    simp only []
    rw [g_X7_mindsMost_l8, h0, if_neg (by rw [iI_le (by omega) (by omega)]; omega), rdA_i (by omega), Int.toNat_natCast, v1, hv, hw]
    have bw : -6000 ≤ (if mmS E i = -1 then -6000 else E 4 (mmS E i).toNat) ∧ (if mmS E i = -1 then -6000 else E 4 (mmS E i).toNat) ≤ 198 := by
      split
      · omega
      · rename_i h2
        have := (hE.2.2.2.2.2 (mmS E i).toNat).2.2.2 (hm.2.2 h2)
        omega
    have be : -6000 ≤ E 4 i ∧ E 4 i ≤ 198 := by
      by_cases h : E 1 i = -1
      · have := b0 h; omega
      · have := b1 h; omega
    unfold g_X7_mindsMost_b31 g_X7_mindsMost_b52
    rw [ite_le (by omega) (by omega)]
    by_cases h4 : (if mmS E i = -1 then -6000 else E 4 (mmS E i).toNat) < E 4 i
    · have h : E 1 i ≠ -1 := fun h => by have := (b0 h).2.2; omega
      have h5 : mmS E (i + 1) = i := by
        rw [mmS, if_pos]
        refine ⟨h, ?_⟩
        by_cases h2 : mmS E i = -1
        · exact Or.inl h2
        · rw [if_neg h2] at h4; exact Or.inr h4
      rw [if_neg (by omega), rdA_i (by omega), Int.toNat_natCast, v1, ite_le (by omega) (by omega), if_neg (by omega), rdA_i (by omega), Int.toNat_natCast, v1, h5, if_neg (by omega), Int.toNat_natCast, li_1, iI_add]
      rfl
    · have h5 : mmS E (i + 1) = mmS E i := by
        rw [mmS, if_neg]
        intro ⟨h, h6⟩
        have := b1 h
        rcases h6 with h6 | h6
        · rw [if_pos h6] at h4; omega
        · by_cases h2 : mmS E i = -1
          · rw [if_pos h2] at h4; omega
          · rw [if_neg h2] at h4; omega
      rw [if_pos (by omega), rdA_i (by omega), Int.toNat_natCast, v1, ite_le (by omega) (by omega), if_pos (by omega), h5, li_1, iI_add]
      rfl) (cN C) 0 (-1, -6000) F (by omega) ⟨rfl, rfl⟩ (by omega)
  obtain ⟨q, hq⟩ : ∃ q, F - cN C = q + 1 := ⟨F - cN C - 1, by omega⟩
  refine e.trans ?_
  simp only [hq] at hv ⊢
  rw [g_X7_mindsMost_l8, h0, if_pos (by rw [iI_le (by omega) (by omega)]; omega), hv]
theorem k_table {F N : Nat} {ln : Nat → Nat} (hF : 300 ≤ F) {x m : Sg} (h : Rel N ln x m) (a : Int32) : Go N ln (g_X6_table F N ln a x) (g_X7_table F a m) := by
  obtain ⟨C, lw, cd, hC, hT, hI, hS, hW⟩ := id h
  obtain ⟨h1, h2, h3, h4, h5, h6, h7, h8, h9, h10⟩ := id hC
  obtain ⟨za, ha, rfl⟩ := iI_ex a
  have hn := okC_n h1
  obtain ⟨x1, ex, fx, rx⟩ := x_srv hC hF (Or.inl rfl) h1 h3.1 ⟨fun _ _ => rfl, rfl⟩ h4 h5
  obtain ⟨m1, em, fm, rm⟩ := m_srv1 hC hF h1 h2.2 h3.1 (fun _ => rfl) (fun _ => rfl) h6 h7
  obtain ⟨bb, hbb, hE⟩ := evn_ok h1 (Tof (cd lw))
  generalize evn C (Tof (cd lw)) = E at *
  have hx := frX_s fx
  have hm := frY_m fm
  have c0 := (courtM_of h6 fm).1
  unfold g_X6_table g_X7_table
  rw [ex, bnI_s, y_in, bnI_s, if01]
  by_cases q2 : 0 ≤ iI za ∧ iI za ≤ 4
  · rw [if_pos q2, em, bnV_s]
    have q2 := in_i ha (lo := 0) (hi := 4) (by omega) (by omega) q2
    refine go_if Iff.rfl (fun _ => ?_) fun _ => ?_
    · rw [x_last h1 hbb hE rx, bnI_s]; exact go_x h hx hm rm.1.symm
    refine go_if Iff.rfl (fun _ => ?_) fun _ => ?_
    · rw [x_lastM h1 hbb hE rx, bnI_s]; exact go_x h hx hm rm.2.1.symm
    refine go_if Iff.rfl (fun _ => ?_) fun _ => ?_
    · exact go_x h hx hm (rx.2.2.1.trans rm.2.2.1.symm)
    refine go_if Iff.rfl (fun _ => ?_) fun w => ?_
    · rw [fx 1 (by omega), h4.1, x_never (by omega) h1 hE rx, m_never (by omega) h1 hE c0 rm, bnI_s, bnI_s]; exact go_x h hx hm rfl
    have : za = 4 := by
      rename_i w0 w1 w2
      have e : ∀ c : Int, 0 ≤ c ∧ c ≤ 4 → ¬ iI za = iI c → ¬ za = c := fun c hc h e => h (by rw [e])
      have := e 0 (by omega) w0
      have := e 1 (by omega) w1
      have := e 2 (by omega) w2
      have := e 3 (by omega) w
      omega
    rw [if_pos (by rw [this]; rfl), fx 1 (by omega), h4.1, x_most (by omega) h1 hE rx, m_most (by omega) h1 hE c0 rm, bnI_s, bnI_s]; exact go_x h hx hm rfl
  · rw [if_neg q2]
    have q3 : ¬ (0 ≤ za ∧ za ≤ 4) := fun q => q2 ⟨by rw [li_0, iI_le (by omega) ha]; exact q.1, by rw [li_4, iI_le ha (by omega)]; exact q.2⟩
    have ne : ∀ c : Int, 0 ≤ c ∧ c ≤ 4 → ¬ iI za = iI c := fun c hc e => by rw [iI_eq ha (by omega)] at e; omega
    rw [li_0, li_1, li_2, li_3, li_4, if_neg (ne 0 (by omega)), if_neg (ne 1 (by omega)), if_neg (ne 2 (by omega)), if_neg (ne 3 (by omega)), if_neg (ne 4 (by omega))]
    exact go_x h hx (frY_r m) rfl
