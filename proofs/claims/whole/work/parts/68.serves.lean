/-! suppers of both, out of the relation -/
theorem x_srv {F N : Nat} {ln : Nat → Nat} {C : CD} {lw : Nat} {cd : Nat → Nat → List Int} {x m : Sg} (hC : RelC C lw cd N ln x m) (hF : 300 ≤ F) {k : Nat} (hk : isCt k) {D : CD} (hD : okC D) {t : Nat} (ht : t < N) {x1 : Sg} (hf : fcX x x1) (hR : courtR D x1 k) (hl : x1 k 3 = iI (t : Int)) : ∃ x2, g_X6_serve F N ln k x1 = some (x2, iI (evn D (Tof (cd t)) 0 0)) ∧ (∀ a, a < 16 ∨ 24 < a → x2 a = x1 a) ∧ evR D (evn D (Tof (cd t))) x2 := by
  obtain ⟨h1, h2, h3, h4, h5, h6, h7, h8, h9, h10⟩ := hC
  have sx := x_sem (F := F) (N := N) (by omega) (h10 t ht)
  exact x_serve (by omega) hk hD hR (semX_of sx (fun a ha => hf.1 a (by omega))) (Tof_c (cd t)) (by rw [hf.1 0 (by omega)]; exact h8) h3.2 ht hl
theorem x_fst {F N : Nat} {ln : Nat → Nat} {C : CD} {lw : Nat} {cd : Nat → Nat → List Int} {x m : Sg} (hC : RelC C lw cd N ln x m) (hF : 300 ≤ F) {k : Nat} (hk : isCt k) {D : CD} (hD : okC D) {t : Nat} (ht : t < N) {x1 : Sg} (hf : fcX x x1) (hR : courtR D x1 k) (hl : x1 k 3 = iI (t : Int)) : ∃ x2, (∀ ks, g_X6_firstOtherwise F N ln ks k x1 = g_X6_firstOtherwise_l16 F N ln ks k F 0 x2) ∧ (∀ a, a < 16 ∨ 24 < a → x2 a = x1 a) ∧ evR D (evn D (Tof (cd t))) x2 := by
  obtain ⟨x2, e, f, r⟩ := x_srv hC hF hk hD ht hf hR hl
  refine ⟨x2, fun ks => ?_, f, r⟩
  unfold g_X6_serve at e
  unfold g_X6_firstOtherwise
  have hlw : g_X6_lawOf F N ln k x1 = some (x1, t) := x_lawOf (by rw [hf.1 0 (by omega)]; exact hC.2.2.2.2.2.2.2.1) hC.2.2.1.2 ht hl
  rw [hlw, bnT_s ht] at e ⊢
  obtain ⟨x3, v, e3, e4⟩ := bnI_e e
  have := Prod.mk.inj (Option.some.inj e4)
  rw [e3, bnI_s, this.1]
theorem m_srv {F N : Nat} {ln : Nat → Nat} {C : CD} {lw : Nat} {cd : Nat → Nat → List Int} {x m : Sg} (hC : RelC C lw cd N ln x m) (hF : 300 ≤ F) {D : CD} (hD : okC D) {t : Nat} (ht : t < N) {m1 : Sg} (h5 : ∀ j, m1 5 j = m 5 j) (h6 : ∀ j, m1 6 j = m 6 j) (hR : courtM D m1) (hl : m1 0 11 = iI (t : Int)) : ∃ m2, g_X7_sups F (iI (D 0 4)) m1 = some m2 ∧ frM m1 m2 ∧ evM D (evn D (Tof (cd t))) m2 := by
  have h3 := hC.2.2.1
  have tx := txR_of (hC.2.2.2.2.2.2.2.2.2 t ht) (rfl : ln t = ln t) (x' := x) rfl rfl (fun j _ => h5 _) (fun j _ => h6 _)
  exact m_sups (by omega) hD hR (m_sem (F := F) (by omega) (by omega) tx hl) (Tof_c (cd t))
theorem m_srv1 {F N : Nat} {ln : Nat → Nat} {C : CD} {lw : Nat} {cd : Nat → Nat → List Int} {x m : Sg} (hC : RelC C lw cd N ln x m) (hF : 300 ≤ F) {D : CD} (hD : okC D) (h4 : D 0 4 = -1) {t : Nat} (ht : t < N) {m1 : Sg} (h5 : ∀ j, m1 5 j = m 5 j) (h6 : ∀ j, m1 6 j = m 6 j) (hR : courtM D m1) (hl : m1 0 11 = iI (t : Int)) : ∃ m2, g_X7_sups F (-1) m1 = some m2 ∧ frM m1 m2 ∧ evM D (evn D (Tof (cd t))) m2 := by
  obtain ⟨m2, e, f, r⟩ := m_srv hC hF hD ht h5 h6 hR hl
  rw [h4] at e
  exact ⟨m2, e, f, r⟩
theorem m_now {F N : Nat} {ln : Nat → Nat} {C : CD} {lw : Nat} {cd : Nat → Nat → List Int} {x m : Sg} (hC : RelC C lw cd N ln x m) (hF : 300 ≤ F) {D : CD} (hD : okC D) (h4 : D 0 4 = -1) {t : Nat} (ht : t < N) {m1 : Sg} (h5 : ∀ j, m1 5 j = m 5 j) (h6 : ∀ j, m1 6 j = m 6 j) (hR : courtM D m1) (hl : m1 0 11 = iI (t : Int)) : ∃ m2, g_X7_mindsNow F m1 = some (m2, iI (evn D (Tof (cd t)) 0 0)) ∧ frM m1 m2 ∧ evM D (evn D (Tof (cd t))) m2 := by
  obtain ⟨m2, e, f, r⟩ := m_srv1 hC hF hD h4 ht h5 h6 hR hl
  refine ⟨m2, ?_, f, r⟩
  unfold g_X7_mindsNow
  rw [e, bnV_s, r.2.2.1]
theorem x_beg {F N : Nat} {ln : Nat → Nat} {C E : CD} (hC : okC C) {b : Nat} (hE : okE C b E) {σ : Sg} (hR : evR C E σ) {p : Nat} (hp : p < cN C) : g_X2_hasBegun F N ln (iI (p : Int)) σ = some (σ, if E 1 p = -1 then 0 else 1) := by
  have hn := okC_n hC
  have hb := (hE.2.2.2.2.2 p).1
  obtain ⟨r1, r2, r3, r4⟩ := hR.2.2.2.2 p hp
  unfold g_X2_hasBegun
  rw [rdA_i (by omega), Int.toNat_natCast, r2, li_n1, ite_eq (a := E 1 p) (b := -1) (by omega) (by omega)]
  split <;> rfl
def costS (E : CD) (p : Nat) : Int := if E 1 p = -1 then 10 else E 4 p
theorem costS_b {C E : CD} {b : Nat} (hE : okE C b E) (p : Nat) : -9 ≤ costS E p ∧ costS E p ≤ 198 := by
  have := (hE.2.2.2.2.2 p).2.2.2
  unfold costS; split
  · omega
  · rename_i h; exact (this h).2.2
theorem x_costs {F N : Nat} {ln : Nat → Nat} {C E : CD} (hC : okC C) {b : Nat} (hE : okE C b E) {σ : Sg} (hR : evR C E σ) {p : Nat} (hp : p < cN C) : g_X2_costs F N ln (iI (p : Int)) σ = some (σ, iI (costS E p)) := by
  have hn := okC_n hC
  obtain ⟨r1, r2, r3, r4⟩ := hR.2.2.2.2 p hp
  unfold g_X2_costs costS
  rw [x_beg hC hE hR hp, bnI_s]
  by_cases h : E 1 p = -1
  · rw [if_pos h, if_pos rfl, if_pos h]; rfl
  · rw [if_neg h, if_neg (by decide), if_neg h, rdA_i (by omega), Int.toNat_natCast, (r4 h).2]
theorem m_less {F : Nat} {C E : CD} {b : Nat} (hE : okE C b E) {σ : Sg} {p : Nat} (hp : p < 6) (r1 : σ 19 p = iI (E 1 p)) (r2 : σ 22 p = iI (E 4 p)) : g_X7_lessFor F (iI (p : Int)) σ = some (σ, iI (costS E p)) := by
  have hb := (hE.2.2.2.2.2 p).1
  unfold g_X7_lessFor costS
  rw [rdA_i (by omega), Int.toNat_natCast, r1, li_n1, ite_eq (a := E 1 p) (b := -1) (by omega) (by omega)]
  by_cases h : E 1 p = -1
  · rw [if_pos h, if_pos h]; rfl
  · rw [if_neg h, if_neg h, rdA_i (by omega), Int.toNat_natCast, r2]
theorem go_x {α : Type} {N : Nat} {ln : Nat → Nat} {x m x' m' : Sg} {r r' : α} (h : Rel N ln x m) (hx : frX x x') (hm : frY m m') (e : r = r') : Go N ln (some (x', r)) (some (m', r')) := ⟨x', m', r, rfl, by rw [e], Rel_of h hx hm⟩
theorem k_told {F N : Nat} {ln : Nat → Nat} (hF : 300 ≤ F) {x m : Sg} (h : Rel N ln x m) (a b : Int32) : Go N ln (g_X6_told F N ln a b x) (g_X7_told F a b m) := by
  obtain ⟨C, lw, cd, hC, hT, hI, hS, hW⟩ := id h
  obtain ⟨h1, h2, h3, h4, h5, h6, h7, h8, h9, h10⟩ := id hC
  obtain ⟨za, ha, rfl⟩ := iI_ex a
  obtain ⟨zb, hb, rfl⟩ := iI_ex b
  have hn := okC_n h1
  unfold g_X6_told g_X7_told
  rw [x_there h1 h4.1 ha, m_one h1 h6.1 ha, bnI_s, bnI_s, if01, if01]
  refine go_if Iff.rfl (fun q1 => ?_) fun _ => go_0 h
  obtain ⟨p, rfl⟩ : ∃ n : Nat, za = n := ⟨za.toNat, by omega⟩
  have hp : p < cN C := by omega
  obtain ⟨x1, ex, fx, rx⟩ := x_srv hC hF (Or.inl rfl) h1 h3.1 ⟨fun _ _ => rfl, rfl⟩ h4 h5
  obtain ⟨m1, em, fm, rm⟩ := m_srv1 hC hF h1 h2.2 h3.1 (fun _ => rfl) (fun _ => rfl) h6 h7
  obtain ⟨bb, hbb, hE⟩ := evn_ok h1 (Tof (cd lw))
  generalize evn C (Tof (cd lw)) = E at *
  obtain ⟨e1, e2, e3, e4⟩ := h4.2.2.2.2 p hp
  obtain ⟨f1, f2, f3, f4⟩ := h6.2.2.2 p hp
  have cM := (courtM_of h6 fm).2.2.2 p hp
  obtain ⟨r1, r2, r3, r4⟩ := rx.2.2.2.2 p hp
  have s1 := rm.2.2.2.2.2.2.1 p hp
  obtain ⟨s2, s3, s4, s5⟩ := rm.2.2.2.2.2.2.2 p (by omega)
  have hx := frX_s fx
  have hm := frY_m fm
  rw [y_in, bnI_s, if01]
  by_cases q2 : 0 ≤ iI zb ∧ iI zb ≤ 8
  · rw [if_pos q2, em, bnV_s]
    have q2 := in_i hb (lo := 0) (hi := 8) (by omega) (by omega) q2
    obtain ⟨w, rfl⟩ : ∃ n : Nat, zb = n := ⟨zb.toNat, by omega⟩
    have hbs : E 1 p = -1 → E 3 p = -6000 ∧ E 4 p = -6000 := fun h => ((hE.2.2.2.2.2 p).2.2.1 h).2
    have T2 : (2 * (p : Int) + 0).toNat = 2 * p := by omega
    have T3 : (2 * (p : Int) + 1).toNat = 2 * p + 1 := by omega
    rcases (show w = 0 ∨ w = 1 ∨ w = 2 ∨ w = 3 ∨ w = 4 ∨ w = 5 ∨ w = 6 ∨ w = 7 ∨ w = 8 by omega) with rfl | rfl | rfl | rfl | rfl | rfl | rfl | rfl | rfl
    · rw [if_pos (by rfl), if_pos (by rfl), rdA_i (by omega), Int.toNat_natCast]
      unfold g_X7_told_b80
      rw [li_2, iI_mul, iI_add, rdA_i (by omega), show (2 * (p : Int) + ((0 : Nat) : Int)).toNat = 2 * p by omega]
      exact go_x h (frX_r x) hm (e3.trans cM.2.2.1.symm)
    · rw [if_neg (by decide), if_pos (by rfl), if_neg (by decide), if_pos (by rfl), rdA_i (by omega), Int.toNat_natCast]
      unfold g_X7_told_b80
      rw [li_2, iI_mul, iI_add, rdA_i (by omega), show (2 * (p : Int) + ((1 : Nat) : Int)).toNat = 2 * p + 1 by omega]
      exact go_x h (frX_r x) hm (e4.trans cM.2.2.2.symm)
    · rw [if_neg (by decide), if_neg (by decide), if_pos (by rfl), if_neg (by decide), if_neg (by decide), if_pos (by rfl), rdA_i (by omega), rdA_i (by omega), Int.toNat_natCast]
      exact go_x h (frX_r x) hm (e1.trans cM.1.symm)
    · rw [if_neg (by decide), if_neg (by decide), if_neg (by decide), if_pos (by rfl), if_neg (by decide), if_neg (by decide), if_neg (by decide), if_pos (by rfl), rdA_i (by omega), rdA_i (by omega), Int.toNat_natCast]
      exact go_x h (frX_r x) hm (e2.trans cM.2.1.symm)
    · rw [if_neg (by decide), if_neg (by decide), if_neg (by decide), if_neg (by decide), ex, bnI_s, if_pos (by rfl), if_neg (by decide), if_neg (by decide), if_neg (by decide), if_neg (by decide), if_pos (by rfl), rdA_i (by omega), rdA_i (by omega), Int.toNat_natCast]
      exact go_x h hx hm (r1.trans s1.symm)
    · rw [if_neg (by decide), if_neg (by decide), if_neg (by decide), if_neg (by decide), ex, bnI_s, if_neg (by decide), if_pos (by rfl), if_neg (by decide), if_neg (by decide), if_neg (by decide), if_neg (by decide), if_neg (by decide), if_pos (by rfl), rdA_i (by omega), rdA_i (by omega), Int.toNat_natCast]
      exact go_x h hx hm (r2.trans s2.symm)
    · rw [if_neg (by decide), if_neg (by decide), if_neg (by decide), if_neg (by decide), ex, bnI_s, if_neg (by decide), if_neg (by decide), if_pos (by rfl), if_neg (by decide), if_neg (by decide), if_neg (by decide), if_neg (by decide), if_neg (by decide), if_neg (by decide), if_pos (by rfl), rdA_i (by omega), rdA_i (by omega), Int.toNat_natCast]
      exact go_x h hx hm (r3.trans s3.symm)
    · rw [if_neg (by decide), if_neg (by decide), if_neg (by decide), if_neg (by decide), ex, bnI_s, if_neg (by decide), if_neg (by decide), if_neg (by decide), if_pos (by rfl), if_neg (by decide), if_neg (by decide), if_neg (by decide), if_neg (by decide), if_neg (by decide), if_neg (by decide), if_neg (by decide), if_pos (by rfl), x_beg h1 hE rx hp, bnI_s, rdA_i (by omega), rdA_i (by omega), Int.toNat_natCast, s4]
      by_cases hb : E 1 p = -1
      · rw [if_pos hb, if_pos rfl, (hbs hb).1]; exact go_x h hx hm rfl
      · rw [if_neg hb, if_neg (by decide)]; exact go_x h hx hm (r4 hb).1
    · rw [if_neg (by decide), if_neg (by decide), if_neg (by decide), if_neg (by decide), ex, bnI_s, if_neg (by decide), if_neg (by decide), if_neg (by decide), if_neg (by decide), if_pos (by rfl), if_neg (by decide), if_neg (by decide), if_neg (by decide), if_neg (by decide), if_neg (by decide), if_neg (by decide), if_neg (by decide), if_neg (by decide), x_beg h1 hE rx hp, bnI_s, rdA_i (by omega), rdA_i (by omega), Int.toNat_natCast, s5]
      by_cases hb : E 1 p = -1
      · rw [if_pos hb, if_pos rfl, (hbs hb).2]; exact go_x h hx hm rfl
      · rw [if_neg hb, if_neg (by decide)]; exact go_x h hx hm (r4 hb).2
  · rw [if_neg q2, ex, bnI_s]
    have q3 : ¬ (0 ≤ zb ∧ zb ≤ 8) := fun q => q2 ⟨by rw [li_0, iI_le (by omega) hb]; exact q.1, by rw [li_8, iI_le hb (by omega)]; exact q.2⟩
    have ne : ∀ c : Int, 0 ≤ c ∧ c ≤ 8 → ¬ iI zb = iI c := fun c hc e => by rw [iI_eq hb (by omega)] at e; omega
    rw [li_0, li_1, li_2, li_3, li_4, li_5, li_6, li_7, li_8, if_neg (ne 0 (by omega)), if_neg (ne 1 (by omega)), if_neg (ne 2 (by omega)), if_neg (ne 3 (by omega)), if_neg (ne 4 (by omega)), if_neg (ne 5 (by omega)), if_neg (ne 6 (by omega)), if_neg (ne 7 (by omega)), if_neg (ne 8 (by omega))]
    exact go_x h hx (frY_r m) rfl
