theorem m_asks0 {F : Nat} {T : TX} {σ : Sg} (hT : semM F T σ) (hc : congT T) {p h m d : Int} : ∃ σ', g_X7_asksOf F (iI (0 : Nat)) (iI p) (iI h) (iI m) (iI d) σ = some (σ', iI (sayS T 0 h m d 0 0 0)) ∧ ∀ a, a ≠ 15 → a ≠ 16 → σ' a = σ a := by
  obtain ⟨σ', e, f⟩ := m_asksN hT hc (part := 0) (by omega) (h := h) (m := m) (d := d)
  refine ⟨σ', ?_, f⟩
  rw [← e]
  unfold g_X7_asksOf
  simp only [show (iI ((0 : Nat) : Int) ≤ 0) = True from eq_true (by decide), if_true, ite_self]
theorem k_asks {F N : Nat} {ln : Nat → Nat} (hF : 300 ≤ F) {x m : Sg} (h : Rel N ln x m) (a b c d e : Int32) : Go N ln (g_X6_asks F N ln a b c d e x) (g_X7_asks F a b c d e m) := by
  obtain ⟨C, lw, cd, hC, hT, hI, hS, hW⟩ := id h
  obtain ⟨h1, h2, h3, h4, h5, h6, h7, h8, h9, h10⟩ := id hC
  obtain ⟨za, ha, rfl⟩ := iI_ex a
  obtain ⟨zb, hb, rfl⟩ := iI_ex b
  obtain ⟨zc, hc, rfl⟩ := iI_ex c
  obtain ⟨zd, hd, rfl⟩ := iI_ex d
  obtain ⟨ze, he, rfl⟩ := iI_ex e
  have sx := x_sem (F := F) (N := N) (by omega) (h10 lw h3.1)
  have sm := m_sem (F := F) (by omega) (by omega) (h10 lw h3.1) h7
  have hcg := Tof_c (cd lw)
  have hn := okC_n h1
  unfold g_X6_asks g_X7_asks
  rw [x_in, y_in, bnI_s, bnI_s, if01, if01]
  by_cases q1 : 0 ≤ iI za ∧ iI za ≤ 2
  · rw [if_pos q1, if_pos q1]
    have q1 := in_i ha (lo := 0) (hi := 2) (by omega) (by omega) q1
    obtain ⟨n, rfl⟩ : ∃ n : Nat, za = n := ⟨za.toNat, by omega⟩
    have key : (zb = -1 ∨ 0 ≤ zb ∧ zb < C 0 0) → Go N ln (g_X6_asks_b22 F N ln (iI (n : Int)) (iI zb) (iI zc) (iI zd) (iI ze) x) (g_X7_asks_b22 F (iI (n : Int)) (iI zb) (iI zc) (iI zd) (iI ze) m) := by
      intro hw
      unfold g_X6_asks_b22 g_X7_asks_b22 g_X7_asks_b27
      rw [if_neg (show ¬ (1 : Int32) = 0 by decide), x_in, y_in, bnI_s, bnI_s, if01, if01]
      refine go_if Iff.rfl (fun q2 => ?_) fun _ => go_0 h
      have q2 := in_i hc (lo := 0) (hi := 99) (by omega) (by omega) q2
      rw [x_in, y_in, bnI_s, bnI_s, if01, if01]
      refine go_if Iff.rfl (fun q3 => ?_) fun _ => go_0 h
      have q3 := in_i hd (lo := 0) (hi := 60) (by omega) (by omega) q3
      rw [x_in, y_in, bnI_s, bnI_s, if01, if01]
      refine go_if Iff.rfl (fun q4 => ?_) fun _ => go_0 h
      have q4 := in_i he (lo := 0) (hi := 6) (by omega) (by omega) q4
      have tail : ∀ (u : Int) (r o q : Int) (m' : Sg), (∃ x1, g_X2_speakOf F N ln 1 (iI u) x = some x1 ∧ (∀ a, a ≠ 23 → x1 a = x a) ∧ x1 23 3 = iI r ∧ x1 23 4 = iI o ∧ x1 23 5 = iI q) → g_X7_asksOf F (iI (n : Int)) (iI zb) (iI zc) (iI zd) (iI ze) m = some (m', iI (sayS (Tof (cd lw)) n zc zd ze r o q)) → (∀ a, a ≠ 15 → a ≠ 16 → m' a = m a) → Go N ln (g_X6_asks_b74 F N ln (iI (n : Int)) (iI zc) (iI zd) (iI ze) (iI u) x) (bnI (g_X7_asksOf F (iI (n : Int)) (iI zb) (iI zc) (iI zd) (iI ze) m) fun s_7 x_8 => some (s_7, x_8)) := by
        intro u r o q m' ⟨x1, e1, f1, n3, n4, n5⟩ e2 f2
        unfold g_X6_asks_b74
        rw [e1, bnV_s, x_lawOf (t := lw) (by rw [f1 0 (by omega)]; exact h8) h3.2 h3.1 (by rw [f1 1 (by omega)]; exact h5), bnT_s h3.1]
        obtain ⟨x2, e3, f3, _⟩ := x_says (semX_of sx (fun a ha => f1 a (by omega))) hcg (part := n) (by omega) (h := zc) (m := zd) (d := ze) n3 n4 n5
        rw [e3, e2, bnI_s, bnI_s]
        exact go_f h ⟨fun a ha => by rw [f3 a (by omega) (by omega), f1 a (by omega)], by rw [f3 30 (by omega) (by omega), f1 30 (by omega)]⟩ ⟨fun a j h0 h1 => by rw [f2 a (by omega) (by omega)], fun j hj => by rw [f2 0 (by omega) (by omega)]⟩
      by_cases hn0 : n = 0
      · subst hn0
        rw [if_pos (by rfl)]
        obtain ⟨m', e, f⟩ := m_asks0 sm hcg (p := zb) (h := zc) (m := zd) (d := ze)
        exact tail (-1) 0 0 0 m' (x_speakN (Or.inl rfl)) e f
      · rw [if_neg (by rw [li_0, iI_eq (by omega) (by omega)]; omega)]
        rcases hw with rfl | hw
        · obtain ⟨m', e, f⟩ := m_asksN sm hcg (part := n) (by omega) (h := zc) (m := zd) (d := ze)
          exact tail (-1) 0 0 0 m' (x_speakN (Or.inl rfl)) e f
        · obtain ⟨p, rfl⟩ : ∃ p : Nat, zb = p := ⟨zb.toNat, by omega⟩
          obtain ⟨m', e, f⟩ := m_asksP sm hcg h1 h6 (p := p) (by omega) (part := n) (by omega) (by omega) (h := zc) (m := zd) (d := ze)
          exact tail p _ _ _ m' (x_speak (Or.inl rfl) h1 h4 (by omega)) e f
    rw [li_n1, ite_eq hb (by omega), ite_eq hb (by omega)]
    refine go_if Iff.rfl (fun q => key (Or.inl q)) fun q => ?_
    rw [x_there h1 h4.1 hb, m_one h1 h6.1 hb, bnI_s, bnI_s, if01, if01]
    refine go_if Iff.rfl (fun q => key (Or.inr q)) fun q => ?_
    unfold g_X7_asks_b26 g_X7_asks_b27
    rw [if_pos rfl]; exact go_0 h
  · rw [if_neg q1, if_neg q1]
    unfold g_X7_asks_b26 g_X7_asks_b27
    rw [if_pos rfl]; exact go_0 h
theorem x_oneOf {F N : Nat} {ln : Nat → Nat} {σ : Sg} {k w : Int} (hk : 0 ≤ k ∧ k ≤ 5) (hw : 0 ≤ w ∧ w ≤ 6) : g_X6_isOneOf F N ln (iI k) (iI w) σ = some (σ, if w = 0 ∨ (w = 1 ∧ (k = 1 ∨ k = 3)) ∨ (w = 2 ∧ (k = 2 ∨ k = 4)) ∨ (3 ≤ w ∧ k = w) then 1 else 0) := by
  rcases (show k = 0 ∨ k = 1 ∨ k = 2 ∨ k = 3 ∨ k = 4 ∨ k = 5 by omega) with rfl | rfl | rfl | rfl | rfl | rfl <;> rcases (show w = 0 ∨ w = 1 ∨ w = 2 ∨ w = 3 ∨ w = 4 ∨ w = 5 ∨ w = 6 by omega) with rfl | rfl | rfl | rfl | rfl | rfl | rfl <;> rfl
theorem m_under {F : Nat} {σ : Sg} {k w : Int} (hk : 0 ≤ k ∧ k ≤ 5) (hw : 0 ≤ w ∧ w ≤ 6) : g_X7_isUnder F (iI k) (iI w) σ = some (σ, if w = 0 ∨ (w = 1 ∧ (k = 1 ∨ k = 3)) ∨ (w = 2 ∧ (k = 2 ∨ k = 4)) ∨ (3 ≤ w ∧ k = w) then 1 else 0) := by
  rcases (show k = 0 ∨ k = 1 ∨ k = 2 ∨ k = 3 ∨ k = 4 ∨ k = 5 by omega) with rfl | rfl | rfl | rfl | rfl | rfl <;> rcases (show w = 0 ∨ w = 1 ∨ w = 2 ∨ w = 3 ∨ w = 4 ∨ w = 5 ∨ w = 6 by omega) with rfl | rfl | rfl | rfl | rfl | rfl | rfl <;> rfl
theorem k_taken {F N : Nat} {ln : Nat → Nat} {x m : Sg} (h : Rel N ln x m) (a b : Int32) : Go N ln (g_X6_taken F N ln a b x) (g_X7_taken F a b m) := by
  obtain ⟨C, lw, cd, hC, hT, hI, hS, hW⟩ := id h
  obtain ⟨h1, h2, h3, h4, h5, h6, h7, h8, h9, h10⟩ := id hC
  obtain ⟨za, ha, rfl⟩ := iI_ex a
  obtain ⟨zb, hb, rfl⟩ := iI_ex b
  have hn := okC_n h1
  have hC0 := h1.1
  unfold g_X6_taken g_X7_taken
  rw [x_in, y_in, bnI_s, bnI_s, if01, if01]
  refine go_if Iff.rfl (fun q1 => ?_) fun _ => go_0 h
  have q1 := in_i hb (lo := 0) (hi := 6) (by omega) (by omega) q1
  rw [x_in, y_in, bnI_s, bnI_s, if01, if01]
  refine go_if Iff.rfl (fun q2 => ?_) fun _ => go_0 h
  have q2 := in_i ha (lo := 0) (hi := 11) (by omega) (by omega) q2
  rw [li_6, remI_i (by omega), remI_i (by omega), x_there h1 h4.1 (by omega), bnI_s, if01, h6.1, ite_lt (a := za % 6) (b := C 0 0) (by omega) (by omega)]
  refine go_if ⟨fun h => h.2, fun h => ⟨by omega, h⟩⟩ (fun q3 => ?_) fun _ => go_0 h
  rw [ite_lt ha (by omega), ite_lt ha (by omega)]
  obtain ⟨e1, e2, e3, e4⟩ := h4.2.2.2.2 (za % 6).toNat (by omega)
  obtain ⟨f1, f2, f3, f4⟩ := h6.2.2.2 (za % 6).toNat (by omega)
  refine go_if Iff.rfl (fun q4 => ?_) fun q4 => ?_
  · have hk := (h1.2.2.2.2 (za % 6).toNat (by omega)).1
    have t0 : za.toNat = (za % 6).toNat := by omega
    have t1 : za % 6 = za := by omega
    have e1' : x 2 (za % 6).toNat = iI (C 1 (za % 6).toNat) := e1
    rw [rdA_i (by omega), ite_le (a := 6) (by omega) hb, e1', x_oneOf hk (by omega), bnI_s, if01]
    by_cases hb6 : 6 ≤ zb
    · rw [if_pos hb6, if_neg (by omega)]; exact go_0 h
    · rw [if_neg hb6, rdA_i (by omega), t0, f1, m_under hk (by omega), bnI_s, if01, t1]
      exact go_if Iff.rfl (fun _ => go_0 h) fun _ => go_0 h
  · have t2 : (2 * (za - 6) + 1).toNat = 2 * (za % 6).toNat + 1 := by omega
    have e4' : x 5 (za % 6).toNat = iI (C 4 (za % 6).toNat) := e4
    rw [ite_eq hb (by omega), ite_eq hb (by omega)]
    refine go_if Iff.rfl (fun q5 => ?_) fun _ => go_0 h
    rw [rdA_i (by omega), li_2, li_1, iI_sub, iI_mul, iI_add, rdA_i (by omega), t2, e4', f4]
    exact go_0 h
