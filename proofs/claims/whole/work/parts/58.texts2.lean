theorem encM_b {c : Int} (h : -15 ≤ c ∧ c ≤ 9999) : 0 ≤ encM c ∧ encM c ≤ 109999 := by
  unfold encM; split <;> (try split) <;> (try split) <;> (try split) <;> (try split) <;> (try split) <;> (try split) <;> (try split) <;> (try split) <;> (try split) <;> omega
theorem m_saysL {F : Nat} {t part e : Nat} (ht : t < 6) (hp : part < 3) (he : e ≤ 160) : ∀ (cs : List Int) (i : Nat) (s : List Int32) (σ : Sg) (n : Nat), cs.length < n → i + cs.length = e → s.length ≤ i → σ 0 11 = iI (t : Int) → σ 6 (4 * t + part + 1) = iI (e : Int) → (∀ j, j < cs.length → σ 5 (200 * t + (i + j)) = iI (encM (cs.getD j 0))) → (∀ c, c ∈ cs → -15 ≤ c ∧ c ≤ 9999) → dep cs s.length = some 1 → stk σ 15 s →
    ∃ σ', g_X7_says_l16 F (iI (part : Int)) n (iI (s.length : Int)) (iI (i : Int)) σ = some (σ', (evl (σ 16) cs s).headD 0) ∧ ∀ a, a ≠ 15 → σ' a = σ a := by
  intro cs
  induction cs with
  | nil =>
    intro i s σ n hn hi hs hr hend _ _ hd hst
    obtain ⟨n, rfl⟩ : ∃ q, n = q + 1 := ⟨n - 1, by omega⟩
    rw [g_X7_says_l16, hr, li_4, iI_mul, iI_add, li_1, iI_add, rdA_i (by omega), show (4 * (t : Int) + (part : Int) + 1).toNat = 4 * t + part + 1 by omega, hend, if_pos (by rw [iI_le (by omega) (by omega)]; simp at hi; omega)]
    have h1 : s.length = 1 := by simpa [dep] using hd
    obtain ⟨v, rfl⟩ : ∃ v, s = [v] := List.length_eq_one_iff.mp h1
    rw [li_0, rdA_i (by omega)]
    refine ⟨σ, ?_, fun _ _ => rfl⟩
    have : σ 15 0 = v := hst.1
    show some (σ, σ 15 0) = _
    rw [this]; rfl
  | cons c cs ih =>
    intro i s σ n hn hi hs hr hend hcs hok hd hst
    obtain ⟨n, rfl⟩ : ∃ q, n = q + 1 := ⟨n - 1, by omega⟩
    rw [List.length_cons] at hi hn
    obtain ⟨d1, hd1, hd2⟩ := dep_1 hd
    have hc0 : σ 5 (200 * t + i) = iI (encM c) := by simpa using hcs 0 (by simp)
    have hcb := hok c List.mem_cons_self
    have eb := encM_b hcb
    rw [g_X7_says_l16, hr, li_4, iI_mul, iI_add, li_1, iI_add, rdA_i (by omega), show (4 * (t : Int) + (part : Int) + 1).toNat = 4 * t + part + 1 by omega, hend, if_neg (by rw [iI_le (by omega) (by omega)]; omega), li_200, iI_mul, iI_add, rdA_i (by omega), show (200 * (t : Int) + (i : Int)).toNat = 200 * t + i by omega, hc0]
    unfold g_X7_says_b66 g_X7_says_b130 g_X7_says_b93 g_X7_says_b191
    have step : ∀ (s' : List Int32) (σ1 : Sg), (∀ a, a ≠ 15 → σ1 a = σ a) → stk σ1 15 s' → s' = ev1 (σ 16) c s → s'.length = d1 → ∃ σ', g_X7_says_l16 F (iI (part : Int)) n (iI (s'.length : Int)) (iI ((i : Int) + 1)) σ1 = some (σ', (evl (σ 16) (c :: cs) s).headD 0) ∧ ∀ a, a ≠ 15 → σ' a = σ a := by
      intro s' σ1 h1 h2 h3 h4
      have hs1 : s'.length ≤ i + 1 := by
        rw [h4]
        unfold dp1 at hd1
        split at hd1
        · have := Option.some.inj hd1; omega
        · split at hd1
          · split at hd1
            · have := Option.some.inj hd1; omega
            · cases hd1
          · split at hd1
            · have := Option.some.inj hd1; omega
            · cases hd1
      obtain ⟨σ', e', f'⟩ := ih (i + 1) s' σ1 n (by omega) (by omega) hs1 (by rw [h1 0 (by omega)]; exact hr) (by rw [h1 6 (by omega)]; exact hend) (fun j hj => by rw [h1 5 (by omega)]; have h9 := hcs (j + 1) (by simp; omega); rw [List.getD_cons_succ] at h9; rw [← h9]; congr 1; omega) (fun c hc => hok c (List.mem_cons_of_mem _ hc)) (by rw [h4]; exact hd2) h2
      refine ⟨σ', ?_, fun a ha => (f' a ha).trans (h1 a ha)⟩
      have e1 : ((i + 1 : Nat) : Int) = (i : Int) + 1 := by omega
      rw [e1, h1 16 (by omega)] at e'
      rw [e', h3]
      rfl
    by_cases c6 : -6 ≤ c
    · have hdd : d1 = s.length + 1 := by unfold dp1 at hd1; rw [if_pos c6] at hd1; exact (Option.some.inj hd1).symm
      by_cases c0 : 0 ≤ c
      · have hen : encM c = 100000 + c := if_pos c0
        rw [hen, if_pos (by rw [li_100000, iI_le (by omega) (by omega)]; omega), if_pos (by rw [li_11, iI_le (by omega) (by omega)]; omega), li_100000, iI_sub, show 100000 + c - 100000 = c by omega, wrA_i (by omega), li_1, iI_add, iI_add, Int.toNat_natCast]
        have := step (iI c :: s) (st σ 15 s.length (iI c)) (fun a ha => st_ne _ _ _ ha) ⟨st_e, stk_up s (Nat.le_refl _) hst⟩ (by unfold ev1; rw [if_pos c0]) (by rw [hdd]; rfl)
        rw [List.length_cons, show ((s.length + 1 : Nat) : Int) = (s.length : Int) + 1 by omega] at this
        exact this
      · have hen : encM c = -1 - c := by unfold encM; rw [if_neg c0, if_pos c6]
        rw [hen, if_neg (by rw [li_100000, iI_le (by omega) (by omega)]; omega), if_neg (by rw [li_11, iI_le (by omega) (by omega)]; omega), if_neg (by rw [li_11, iI_le (by omega) (by omega)]; omega), rdA_i (by omega), wrA_i (by omega), li_1, iI_add, iI_add, Int.toNat_natCast]
        have := step (σ 16 (-1 - c).toNat :: s) (st σ 15 s.length (σ 16 (-1 - c).toNat)) (fun a ha => st_ne _ _ _ ha) ⟨st_e, stk_up s (Nat.le_refl _) hst⟩ (by unfold ev1; rw [if_neg c0, if_pos c6]) (by rw [hdd]; rfl)
        rw [List.length_cons, show ((s.length + 1 : Nat) : Int) = (s.length : Int) + 1 by omega] at this
        exact this
    · have h11 : 11 ≤ encM c ∧ encM c ≤ 19 := by
        unfold encM; rw [if_neg (by omega), if_neg c6]; split <;> (try split) <;> (try split) <;> (try split) <;> (try split) <;> (try split) <;> (try split) <;> (try split) <;> omega
      rw [if_neg (by rw [li_100000, iI_le (by omega) (by omega)]; omega), if_pos (by rw [li_11, iI_le (by omega) (by omega)]; omega)]
      by_cases c8 : -8 ≤ c
      · have hdd : 1 ≤ s.length ∧ d1 = s.length := by
          unfold dp1 at hd1; rw [if_neg c6, if_pos c8] at hd1
          split at hd1
          · rename_i h; exact ⟨h, (Option.some.inj hd1).symm⟩
          · cases hd1
        obtain ⟨v, u, rfl⟩ : ∃ v u, s = v :: u := by
          cases s with
          | nil => simp at hdd
          | cons v u => exact ⟨v, u, rfl⟩
        have hv : σ 15 u.length = v := hst.1
        have hL : ((v :: u).length : Int) = (u.length : Int) + 1 := by simp
        have hLn : (v :: u).length = u.length + 1 := rfl
        have hi1 : iI ((u.length : Int) + 1) - iI 1 = iI (u.length : Int) := by rw [iI_sub]; congr 1; omega
        have hst1 : ∀ w, stk (st σ 15 u.length w) 15 (w :: u) := fun w => ⟨st_e, stk_up u (Nat.le_refl _) hst.2⟩
        rw [hL, hi1, rdA_i (by omega), rdA_i (by omega), Int.toNat_natCast, hv, li_1, iI_add]
        by_cases c7 : c = -7
        · have hen : encM c = 19 := by rw [c7]; rfl
          rw [hen, if_neg (by decide), if_pos (by decide), wrA_i (by omega), Int.toNat_natCast]
          have := step (-v :: u) _ (fun a ha => st_ne _ _ _ ha) (hst1 (-v)) (by unfold ev1; rw [if_neg (by omega), if_neg c6]; simp [c7]) (by rw [hdd.2]; rfl)
          rw [List.length_cons, show ((u.length + 1 : Nat) : Int) = (u.length : Int) + 1 by omega] at this
          exact this
        · have h8 : c = -8 := by omega
          have hen : encM c = 13 := by rw [h8]; rfl
          rw [hen, if_pos (by decide), wrA_i (by omega), wrA_i (by omega), Int.toNat_natCast]
          by_cases hv0 : v = 0
          · rw [if_pos hv0]
            have := step (1 :: u) _ (fun a ha => st_ne _ _ _ ha) (hst1 1) (by unfold ev1; rw [if_neg (by omega), if_neg c6]; simp [h8, hv0]) (by rw [hdd.2]; rfl)
            rw [List.length_cons, show ((u.length + 1 : Nat) : Int) = (u.length : Int) + 1 by omega] at this
            exact this
          · rw [if_neg hv0]
            have := step (0 :: u) _ (fun a ha => st_ne _ _ _ ha) (hst1 0) (by unfold ev1; rw [if_neg (by omega), if_neg c6]; simp [h8, hv0]) (by rw [hdd.2]; rfl)
            rw [List.length_cons, show ((u.length + 1 : Nat) : Int) = (u.length : Int) + 1 by omega] at this
            exact this
      · have hdd : 2 ≤ s.length ∧ d1 = s.length - 1 := by
          unfold dp1 at hd1; rw [if_neg c6, if_neg c8] at hd1
          split at hd1
          · rename_i h; exact ⟨h, (Option.some.inj hd1).symm⟩
          · cases hd1
        obtain ⟨v, w, u, rfl⟩ : ∃ v w u, s = v :: w :: u := by
          cases s with
          | nil => simp at hdd
          | cons v s => cases s with
            | nil => simp at hdd
            | cons w u => exact ⟨v, w, u, rfl⟩
        have hv : σ 15 (u.length + 1) = v := hst.1
        have hw : σ 15 u.length = w := hst.2.1
        have hL : ((v :: w :: u).length : Int) = (u.length : Int) + 2 := by simp; omega
        have hLn : (v :: w :: u).length = u.length + 2 := rfl
        have hen : ¬ encM c = 13 ∧ ¬ encM c = 19 := by
          unfold encM; rw [if_neg (by omega), if_neg c6, if_neg (by omega), if_neg (by omega)]
          split <;> (try split) <;> (try split) <;> (try split) <;> (try split) <;> (try split) <;> omega
        have hi1 : iI ((u.length : Int) + 2) + (-iI 1) = iI ((u.length : Int) + 1) := by rw [iI_neg, iI_add]; congr 1; omega
        have hi2 : iI ((u.length : Int) + 1) - iI 1 = iI (u.length : Int) := by rw [iI_sub]; congr 1; omega
        rw [hL, if_neg (by rw [li_13, iI_eq (by omega) (by omega)]; exact hen.1), if_neg (by rw [li_19, iI_eq (by omega) (by omega)]; exact hen.2), hi1, hi2, rdA_i (by omega), rdA_i (by omega), Int.toNat_natCast, show ((u.length : Int) + 1).toNat = u.length + 1 by omega, hv, hw, m_two (by omega), bnI_s, wrA_i (by omega), Int.toNat_natCast, li_1, iI_add]
        have := step (jnS c w v :: u) (st σ 15 u.length (jnS c w v)) (fun a ha => st_ne _ _ _ ha) ⟨st_e, stk_up u (Nat.le_refl _) hst.2.2⟩ (by
          unfold ev1; rw [if_neg (by omega), if_neg c6]
          have h7 : ¬ c = -7 := by omega
          have h8 : ¬ c = -8 := by omega
          simp [h7, h8]) (by rw [hdd.2]; rfl)
        rw [List.length_cons, show ((u.length + 1 : Nat) : Int) = (u.length : Int) + 1 by omega] at this
        exact this
/-- text t of both: the same codes -/
def txR (ln : Nat → Nat) (x m : Sg) (t : Nat) (c : Nat → List Int) : Prop := (∀ p, p < 3 → wfp (c p)) ∧ ln t = (c 0).length + (c 1).length + (c 2).length ∧ ln t ≤ 160 ∧
  (x (tc t + 2) 0 = iI ((c 0).length : Int) ∧ x (tc t + 2) 1 = iI (((c 0).length + (c 1).length : Nat) : Int) ∧ x (tc t + 2) 2 = iI (((c 0).length + (c 1).length + (c 2).length : Nat) : Int)) ∧
  (m 6 (4 * t) = iI 0 ∧ m 6 (4 * t + 1) = iI ((c 0).length : Int) ∧ m 6 (4 * t + 2) = iI (((c 0).length + (c 1).length : Nat) : Int) ∧ m 6 (4 * t + 3) = iI (((c 0).length + (c 1).length + (c 2).length : Nat) : Int)) ∧
  (∀ j, j < (c 0).length → x (tc t + 1) j = iI ((c 0).getD j 0) ∧ m 5 (200 * t + j) = iI (encM ((c 0).getD j 0))) ∧
  (∀ j, j < (c 1).length → x (tc t + 1) ((c 0).length + j) = iI ((c 1).getD j 0) ∧ m 5 (200 * t + ((c 0).length + j)) = iI (encM ((c 1).getD j 0))) ∧
  ∀ j, j < (c 2).length → x (tc t + 1) ((c 0).length + (c 1).length + j) = iI ((c 2).getD j 0) ∧ m 5 (200 * t + ((c 0).length + (c 1).length + j)) = iI (encM ((c 2).getD j 0))
theorem txR_of {ln ln' : Nat → Nat} {x m x' m' : Sg} {t : Nat} {c : Nat → List Int} (h : txR ln x m t c) (hl : ln' t = ln t) (h1 : x' (tc t + 1) = x (tc t + 1)) (h2 : x' (tc t + 2) = x (tc t + 2)) (h5 : ∀ j, j < 200 → m' 5 (200 * t + j) = m 5 (200 * t + j)) (h6 : ∀ j, j < 4 → m' 6 (4 * t + j) = m 6 (4 * t + j)) : txR ln' x' m' t c := by
  obtain ⟨a1, a2, a3, a4, a5, a6, a7, a8⟩ := h
  unfold txR
  rw [hl, h1, h2]
  have g0 := h6 0 (by omega)
  rw [Nat.add_zero] at g0
  refine ⟨a1, a2, a3, a4, ?_, fun j hj => ⟨(a6 j hj).1, ?_⟩, fun j hj => ⟨(a7 j hj).1, ?_⟩, fun j hj => ⟨(a8 j hj).1, ?_⟩⟩
  · rw [g0, h6 1 (by omega), h6 2 (by omega), h6 3 (by omega)]; exact a5
  · rw [h5 _ (by omega)]; exact (a6 j hj).2
  · rw [h5 _ (by omega)]; exact (a7 j hj).2
  · rw [h5 _ (by omega)]; exact (a8 j hj).2
theorem x_sem {F N : Nat} {ln : Nat → Nat} (hF : 300 ≤ F) {x m : Sg} {t : Nat} {c : Nat → List Int} (h : txR ln x m t c) : semX F N ln t (Tof c) x := by
  intro σ' part hp hs
  obtain ⟨a1, a2, a3, ⟨e0, e1, e2⟩, -, a6, a7, a8⟩ := h
  have ht : (26 ≤ tc t + 1 ∧ tc t + 1 ≤ 28 ∨ 44 ≤ tc t + 1) ∧ (26 ≤ tc t + 2 ∧ tc t + 2 ≤ 28 ∨ 44 ≤ tc t + 2) := by
    rcases Nat.eq_zero_or_pos t with rfl | h0
    · decide
    · rw [tc_s h0]; omega
  have s1 := hs _ ht.1
  have s2 := hs _ ht.2
  have hw := a1 part hp
  rcases (show part = 0 ∨ part = 1 ∨ part = 2 by omega) with rfl | rfl | rfl
  · obtain ⟨σ2, e, f⟩ := x_valueL (F := F) (N := N) (ln := ln) (t := t) (part := 0) (e := (c 0).length) (by omega) (by omega) a3 (c 0) 0 [] σ' F (by omega) (by omega) (by simp) (by rw [s2]; exact e0) (fun j hj => by rw [s1, Nat.zero_add]; exact (a6 j hj).1) hw.1 (hw.2 0) trivial
    refine ⟨σ2, ?_, f⟩
    unfold g_X5_value g_X5_value_b34
    rw [if_neg (by decide), if_pos (by decide), if_pos (by decide)]
    exact e
  · obtain ⟨σ2, e, f⟩ := x_valueL (F := F) (N := N) (ln := ln) (t := t) (part := 1) (e := (c 0).length + (c 1).length) (by omega) (by omega) a3 (c 1) (c 0).length [] σ' F (by omega) rfl (by simp) (by rw [s2]; exact e1) (fun j hj => by rw [s1]; exact (a7 j hj).1) hw.1 (hw.2 0) trivial
    refine ⟨σ2, ?_, f⟩
    unfold g_X5_value g_X5_value_b34
    rw [if_neg (by decide), if_pos (by decide), if_neg (by decide), show iI ((1 : Nat) : Int) - 1 = iI 0 by decide, rdA_i (by omega), Int.toNat_zero, s2, e0]
    exact e
  · obtain ⟨σ2, e, f⟩ := x_valueL (F := F) (N := N) (ln := ln) (t := t) (part := 2) (e := (c 0).length + (c 1).length + (c 2).length) (by omega) (by omega) a3 (c 2) ((c 0).length + (c 1).length) [] σ' F (by omega) rfl (by simp) (by rw [s2]; exact e2) (fun j hj => by rw [s1]; exact (a8 j hj).1) hw.1 (hw.2 0) trivial
    refine ⟨σ2, ?_, f⟩
    unfold g_X5_value g_X5_value_b34
    rw [if_neg (by decide), if_pos (by decide), if_neg (by decide), show iI ((2 : Nat) : Int) - 1 = iI 1 by decide, rdA_i (by omega), show (1 : Int).toNat = 1 by decide, s2, e1]
    exact e
theorem m_sem {F : Nat} {ln : Nat → Nat} (hF : 300 ≤ F) {x m : Sg} {t : Nat} (ht : t < 6) {c : Nat → List Int} (h : txR ln x m t c) (hr : m 0 11 = iI (t : Int)) : semM F (Tof c) m := by
  intro σ' part hp s5 s6 s11
  obtain ⟨a1, a2, a3, -, ⟨e0, e1, e2, e3⟩, a6, a7, a8⟩ := h
  have hw := a1 part hp
  have hr' : σ' 0 11 = iI (t : Int) := by rw [s11, hr]
  unfold g_X7_says
  rw [hr', li_4, iI_mul, iI_add, rdA_i (by omega), s6, show (4 * (t : Int) + (part : Int)).toNat = 4 * t + part by omega]
  rcases (show part = 0 ∨ part = 1 ∨ part = 2 by omega) with rfl | rfl | rfl
  · obtain ⟨σ2, e, f⟩ := m_saysL (F := F) (t := t) (part := 0) (e := (c 0).length) ht (by omega) (by omega) (c 0) 0 [] σ' F (by omega) (by omega) (by simp) hr' (by rw [s6]; exact e1) (fun j hj => by rw [s5, Nat.zero_add]; exact (a6 j hj).2) hw.1 (hw.2 0) trivial
    refine ⟨σ2, ?_, f⟩
    rw [Nat.add_zero, e0]
    exact e
  · obtain ⟨σ2, e, f⟩ := m_saysL (F := F) (t := t) (part := 1) (e := (c 0).length + (c 1).length) ht (by omega) (by omega) (c 1) (c 0).length [] σ' F (by omega) rfl (by simp) hr' (by rw [s6]; exact e2) (fun j hj => by rw [s5]; exact (a7 j hj).2) hw.1 (hw.2 0) trivial
    refine ⟨σ2, ?_, f⟩
    rw [e1]
    exact e
  · obtain ⟨σ2, e, f⟩ := m_saysL (F := F) (t := t) (part := 2) (e := (c 0).length + (c 1).length + (c 2).length) ht (by omega) (by omega) (c 2) ((c 0).length + (c 1).length) [] σ' F (by omega) rfl (by simp) hr' (by rw [s6]; exact e3) (fun j hj => by rw [s5]; exact (a8 j hj).2) hw.1 (hw.2 0) trivial
    refine ⟨σ2, ?_, f⟩
    rw [e2]
    exact e
