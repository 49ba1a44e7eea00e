theorem m_begins {F : Nat} {T : TX} {σ : Sg} (hT : semM F T σ) (hc : congT T) {C : CD} (hC : okC C) (hR : courtM C σ) {p d : Nat} (hp : p < cN C) (hd : σ 18 p = iI (d : Int)) {m h : Int} (hh : 0 ≤ h ∧ h ≤ 99) :
    ∃ σ', g_X7_begins F (iI (p : Int)) (iI m) (iI h) σ = some σ' ∧ frM σ σ' ∧ σ' 17 = σ 17 ∧ σ' 18 = σ 18 ∧ σ' 19 = upd (σ 19) p (iI m) ∧ σ' 20 = upd (σ 20) p (iI h) ∧ σ' 21 = upd (σ 21) p (iI (offS C T p d m h)) ∧ σ' 22 = upd (σ 22) p (iI (minS C T p d m h)) ∧ σ' 0 36 = iI (p : Int) ∧ σ' 0 37 = iI m ∧ σ' 0 38 = σ 0 38 + iI (minS C T p d m h) ∧ σ' 0 39 = σ 0 39 + iI h ∧ σ' 0 40 = σ 0 40 + iI 1 := by
  have hn := okC_n hC
  have ob := offS_b hC T hp (d := d) (m := m) hh
  unfold g_X7_begins
  rw [wrA_i (by omega), wrA_i (by omega), rdA_i (by omega), Int.toNat_natCast]
  generalize hs2 : st (st σ 19 p (iI m)) 20 p (iI h) = s2
  have a2 : ∀ a, a ≠ 19 → a ≠ 20 → s2 a = σ a := fun a h1 h2 => by funext b; rw [← hs2, st_k h2, st_k h1]
  have f2 : frM σ s2 := frM_c (fun a ha => a2 a (by omega) (by omega))
  obtain ⟨s4, e4, f4⟩ := m_likes (semM_of hT f2) hc hC (courtM_of hR f2) hp (h := h) (m := m) (d := d)
  have w18 : s2 18 p = iI (d : Int) := by rw [a2 18 (by omega) (by omega), hd]
  have r4 := courtM_of hR (frM_t f2 (frM_c (fun a ha => f4 a (by omega) (by omega))))
  rw [w18, e4, bnI_s, wrA_i (by omega), rdA_i (by omega), Int.toNat_natCast, st_e, iI_sub, show h - likeS (C 1 p) (C 2 p) (sayS T 2 h m d (C 3 p) (C 4 p) (C 2 p)) = offS C T p d m h from rfl]
  rw [m_minds hC hp (by rw [st_k (by omega)]; exact (r4.2.2.2 p hp).1) (by rw [st_k (by omega)]; exact (r4.2.2.2 p hp).2.1) ob, bnI_s, wrA_i (by omega), wrF_i, wrF_i, rdA_i (by omega), Int.toNat_natCast, wrF_i, wrF_i, wrF_i, show mindS (C 1 p) (C 2 p) (offS C T p d m h) = minS C T p d m h from rfl]
  generalize hs10 : st (st s4 21 p (iI (offS C T p d m h))) 22 p (iI (minS C T p d m h)) = s10
  have a10 : ∀ a, a ≠ 15 → a ≠ 16 → a ≠ 19 → a ≠ 20 → a ≠ 21 → a ≠ 22 → s10 a = σ a := fun a h1 h2 h3 h4 h5 h6 => by rw [← hs10]; funext b; rw [st_k h6, st_k h5, f4 a h1 h2, a2 a h3 h4]
  have v22 : s10 22 p = iI (minS C T p d m h) := by rw [← hs10, st_e]
  have v22' : st (st s10 0 36 (iI (p : Int))) 0 37 (iI m) 22 p = iI (minS C T p d m h) := by rw [st_k (by omega), st_k (by omega), v22]
  rw [v22']
  refine ⟨_, rfl, ⟨fun a h0 h1 => ?_, fun j hj => ?_⟩, ?_, ?_, ?_, ?_, ?_, ?_, ?_, ?_, ?_, ?_, ?_⟩
  · funext b; rw [st_k (by omega), st_k (by omega), st_k (by omega), st_k (by omega), st_k (by omega), a10 a (by omega) (by omega) (by omega) (by omega) (by omega) (by omega)]
  · rw [st_j (by omega), st_j (by omega), st_j (by omega), st_j (by omega), st_j (by omega), a10 0 (by omega) (by omega) (by omega) (by omega) (by omega) (by omega)]
  · funext b; rw [st_k (by omega), st_k (by omega), st_k (by omega), st_k (by omega), st_k (by omega), a10 17 (by omega) (by omega) (by omega) (by omega) (by omega) (by omega)]
  · funext b; rw [st_k (by omega), st_k (by omega), st_k (by omega), st_k (by omega), st_k (by omega), a10 18 (by omega) (by omega) (by omega) (by omega) (by omega) (by omega)]
  · funext b
    rw [st_k (by omega), st_k (by omega), st_k (by omega), st_k (by omega), st_k (by omega), ← hs10, st_k (by omega), st_k (by omega), f4 19 (by omega) (by omega), ← hs2, st_k (by omega), st_row]
  · funext b
    rw [st_k (by omega), st_k (by omega), st_k (by omega), st_k (by omega), st_k (by omega), ← hs10, st_k (by omega), st_k (by omega), f4 20 (by omega) (by omega), ← hs2, st_row, st_ne _ _ _ (by omega)]
  · funext b
    rw [st_k (by omega), st_k (by omega), st_k (by omega), st_k (by omega), st_k (by omega), ← hs10, st_k (by omega), st_row, f4 21 (by omega) (by omega), a2 21 (by omega) (by omega)]
  · funext b
    rw [st_k (by omega), st_k (by omega), st_k (by omega), st_k (by omega), st_k (by omega), ← hs10, st_row, st_ne _ _ _ (by omega), f4 22 (by omega) (by omega), a2 22 (by omega) (by omega)]
  · simp (disch := omega) only [st_e, st_k, st_j]
  · simp (disch := omega) only [st_e, st_k, st_j]
  · simp (disch := omega) only [st_e, st_k, st_j]
    rw [a10 0 (by omega) (by omega) (by omega) (by omega) (by omega) (by omega)]
  · simp (disch := omega) only [st_e, st_k, st_j]
    rw [a10 0 (by omega) (by omega) (by omega) (by omega) (by omega) (by omega)]
  · simp (disch := omega) only [st_e, st_k, st_j]
    rw [a10 0 (by omega) (by omega) (by omega) (by omega) (by omega) (by omega)]; rfl
theorem m_stands {F : Nat} (hF : 100 ≤ F) {C : CD} (hC : okC C) {σ : Sg} (hR : courtM C σ) : ∃ σ', g_X7_standsDown F (iI (C 0 4)) σ = some (σ', iI ((stdS C).length : Int)) ∧ (∀ a, a ≠ 17 → a ≠ 18 → σ' a = σ a) ∧ (∀ p, p < cN C → σ' 18 p = iI (downS C p : Int)) ∧ ∀ d, d < (stdS C).length → σ' 17 d = iI (atS C d : Int) := by
  have hn := okC_n hC
  have b4 := hC.2.2.2.1
  unfold g_X7_standsDown
  obtain ⟨⟨s', v'⟩, e', h1, h2, h3, h4⟩ := loop_up (fun n p (s : Sg × Int32) => g_X7_standsDown_l4 F (iI (C 0 4)) n s.2 (iI ((p : Nat) : Int)) s.1) (fun p s => (∀ a, a ≠ 17 → a ≠ 18 → s.1 a = σ a) ∧ s.2 = iI (scS C p : Int) ∧ (∀ x, x < p → s.1 18 x = iI (downS C x : Int)) ∧ (∀ x, x < p → x ∈ stdS C → s.1 17 (downS C x) = iI (x : Int))) (cN C) (by
    intro n p ⟨s, v⟩ hp ⟨i1, i2, i3, i4⟩
    simp only at i1 i2 i3 i4 ⊢
    have fs : frM σ s := frM_c (fun a ha => i1 a (by omega) (by omega))
    have hRs : courtM C s := courtM_of hR fs
    rw [g_X7_standsDown_l4]
    have c1 : ¬ s 0 0 ≤ iI (p : Int) := by rw [hRs.1, iI_le (by omega) (by omega)]; omega
    rw [if_neg c1]
    generalize hKK : (fun (v2_ v3_ : Int32) (σ_ : Sg) => g_X7_standsDown_l4 F (iI (C 0 4)) n v2_ v3_ σ_) = KK
    obtain ⟨w, e4, j1⟩ := loop_up (fun n q (w : Int32) => g_X7_standsDown_l18 F KK (iI (C 0 4)) v (iI (p : Int)) n w (iI ((q : Nat) : Int)) s) (fun q w => w = iI (dnS C p q : Int)) (cN C) (by
      intro n q w hq j1
      have dl := dnS_le C p q
      have sl := scS_le C q
      rw [g_X7_standsDown_l18]
      have c2 : ¬ s 0 0 ≤ iI (q : Int) := by rw [hRs.1, iI_le (by omega) (by omega)]; omega
      rw [if_neg c2]
      unfold g_X7_standsDown_b55 g_X7_standsDown_b56
      by_cases c3 : (q : Int) = C 0 4
      · rw [if_pos (by rw [c3])]
        refine ⟨w + 0, by rw [li_1, iI_add]; rfl, ?_⟩
        rw [j1, dnS_s, if_neg (fun h => h.1 c3), Nat.add_zero, li_0, iI_add, Int.add_zero]
      · have c4 : ¬ iI (q : Int) = iI (C 0 4) := by rw [iI_eq (by omega) (by omega)]; exact c3
        rw [if_neg c4]
        by_cases cp : q = p
        · subst cp
          rw [if_pos rfl]
          refine ⟨w + 0, by rw [li_1, iI_add]; rfl, ?_⟩
          rw [j1, dnS_s, if_neg (fun h => by have := h.2; rw [betS_irr] at this; cases this), Nat.add_zero, li_0, iI_add, Int.add_zero]
        · have c5 : ¬ iI (q : Int) = iI (p : Int) := by rw [iI_eq (by omega) (by omega)]; omega
          rw [if_neg c5, m_better hC hRs hp hq, bnI_s]
          by_cases c6 : betS C q p = true
          · rw [if_pos c6, if_neg (by decide)]
            refine ⟨w + 1, by rw [li_1, iI_add]; rfl, ?_⟩
            rw [j1, dnS_s, if_pos ⟨c3, c6⟩, li_1, iI_add]; rfl
          · rw [if_neg c6, if_pos rfl]
            refine ⟨w + 0, by rw [li_1, iI_add]; rfl, ?_⟩
            rw [j1, dnS_s, if_neg (fun h => c6 h.2), Nat.add_zero, li_0, iI_add, Int.add_zero]) (cN C) 0 (iI 0) F (by omega) rfl (by omega)
    have e4 : g_X7_standsDown_l18 F KK (iI (C 0 4)) v (iI (p : Int)) F 0 0 s = g_X7_standsDown_l18 F KK (iI (C 0 4)) v (iI (p : Int)) (F - cN C) w (iI (cN C : Int)) s := e4
    rw [e4]
    obtain ⟨f, hf⟩ : ∃ f, F - cN C = f + 1 := ⟨F - cN C - 1, by omega⟩
    rw [hf, g_X7_standsDown_l18]
    have c2 : s 0 0 ≤ iI (cN C : Int) := by rw [hRs.1, iI_le (by omega) (by omega)]; omega
    have sl := scS_le C p
    have dl := dnS_le C p (cN C)
    have sl2 := scS_le C (cN C)
    rw [if_pos c2, wrA_i (by omega), Int.toNat_natCast, j1, dnS_n]
    generalize hs4 : st s 18 p (iI (downS C p : Int)) = s4
    have a4 : ∀ a, a ≠ 18 → s4 a = s a := fun a h1 => by funext b; rw [← hs4, st_k h1]
    have x3 : ∀ x, x < p + 1 → s4 18 x = iI (downS C x : Int) := fun x hx => by
      rw [← hs4]
      by_cases hxp : x = p
      · subst hxp; rw [st_e]
      · rw [st_j hxp]; exact i3 x (by omega)
    unfold g_X7_standsDown_b89
    by_cases c3 : (p : Int) = C 0 4
    · rw [if_pos (by rw [c3])]
      refine ⟨(s4, v), by rw [← hKK, li_1, iI_add]; rfl, fun a h1 h2 => (a4 a h2).trans (i1 a h1 h2), ?_, x3, fun x hx hm => ?_⟩
      · simp only [i2]; rw [scS_s, if_neg (fun h => h c3), Nat.add_zero]
      · have : x ≠ p := fun h => (stdS_mem.mp hm).2 (by rw [h]; exact c3)
        simp only [a4 17 (by omega)]; exact i4 x (by omega) hm
    · have c4 : ¬ iI (p : Int) = iI (C 0 4) := by rw [iI_eq (by omega) (by omega)]; exact c3
      have hps : p ∈ stdS C := stdS_mem.mpr ⟨hp, c3⟩
      have dl := downS_lt hps
      have sl2 := stdS_len C
      rw [if_neg c4, wrA_i (by omega), Int.toNat_natCast]
      refine ⟨(st s4 17 (downS C p) (iI (p : Int)), v + 1), by rw [← hKK, li_1, iI_add]; rfl, fun a h1 h2 => ?_, ?_, fun x hx => ?_, fun x hx hm => ?_⟩
      · simp only; funext b; rw [st_k (by omega), a4 a (by omega)]; exact congrFun (i1 a h1 h2) b
      · simp only [i2]; rw [scS_s, if_pos c3, li_1, iI_add]; rfl
      · simp only; rw [st_k (by omega)]; exact x3 x hx
      · simp only
        by_cases hxp : x = p
        · subst hxp; rw [st_e]
        · rw [st_j (fun h => hxp (downS_inj hm hps h)), a4 17 (by omega)]; exact i4 x (by omega) hm) (cN C) 0 (σ, iI 0) F (by omega) ⟨fun a _ _ => rfl, rfl, fun x hx => by omega, fun x hx => by omega⟩ (by omega)
  have e' : g_X7_standsDown_l4 F (iI (C 0 4)) F 0 0 σ = g_X7_standsDown_l4 F (iI (C 0 4)) (F - cN C) v' (iI (cN C : Int)) s' := e'
  rw [e']
  obtain ⟨f, hf⟩ : ∃ f, F - cN C = f + 1 := ⟨F - cN C - 1, by omega⟩
  rw [hf, g_X7_standsDown_l4]
  simp only at h1 h2 h3 h4
  have hRs : courtM C s' := courtM_of hR (frM_c (fun a ha => h1 a (by omega) (by omega)))
  have c2 : s' 0 0 ≤ iI (cN C : Int) := by rw [hRs.1, iI_le (by omega) (by omega)]; omega
  rw [if_pos c2]
  refine ⟨s', by rw [h2, scS_n], h1, h3, fun d hd => ?_⟩
  have hm := atS_ok hd
  have := h4 (atS C d) (stdS_mem.mp hm.1).1 hm.1
  rw [hm.2] at this
  exact this
theorem m_cool {F : Nat} {T : TX} (hc : congT T) {K : Int32 → Int32 → Int32 → Sg → Option Sg} {v2 v5 : Int32} {p d : Nat} (hp : p < 6) {U : Int} : ∀ (w : Nat) (m h : Int) (σ : Sg) (n : Nat), w < n → (0 ≤ m ∧ m + w ≤ 200) → U = m + w → (0 ≤ h ∧ h ≤ 99) → semM F T σ → σ 18 p = iI (d : Int) →
    ∃ (σ' : Sg), g_X7_sups_l148 F K v2 v5 (iI (p : Int)) (iI U) n (iI h) (iI m) σ = K (iI U) (iI (coolS T d w m h)) (v5 + 1) σ' ∧ ∀ a, a ≠ 15 → a ≠ 16 → σ' a = σ a := by
  intro w
  induction w with
  | zero =>
    intro m h σ n hn hm hU hh hT hz
    obtain ⟨n, rfl⟩ : ∃ q, n = q + 1 := ⟨n - 1, by omega⟩
    rw [g_X7_sups_l148]
    unfold g_X7_sups_b196
    rw [if_pos (by rw [iI_le (by omega) (by omega)]; omega)]
    exact ⟨σ, rfl, fun _ _ _ => rfl⟩
  | succ w ih =>
    intro m h σ n hn hm hU hh hT hz
    obtain ⟨n, rfl⟩ : ∃ q, n = q + 1 := ⟨n - 1, by omega⟩
    rw [g_X7_sups_l148]
    unfold g_X7_sups_b188
    rw [if_neg (by rw [iI_le (by omega) (by omega)]; omega), rdA_i (by omega), Int.toNat_natCast, hz]
    obtain ⟨s1, e1, f1⟩ := m_asksN hT hc (part := 0) (by omega) (h := h) (m := m) (d := d)
    have e1 : g_X7_asksOf F 0 (-1) (iI h) (iI m) (iI (d : Int)) σ = some (s1, iI (sayS T 0 h m d 0 0 0)) := e1
    have sb := sayS_b T 0 h m d 0 0 0
    rw [e1, bnI_s, iI_sub, li_0, li_1, iI_add]
    have T1 : semM F T s1 := semM_of hT (frM_c (fun a ha => f1 a (by omega) (by omega)))
    have key : ∀ h1 : Int, h1 = (if h - sayS T 0 h m d 0 0 0 < 0 then 0 else h - sayS T 0 h m d 0 0 0) → ∃ (σ' : Sg), g_X7_sups_l148 F K v2 v5 (iI (p : Int)) (iI U) n (iI h1) (iI (m + 1)) s1 = K (iI U) (iI (coolS T d (w + 1) m h)) (v5 + iI 1) σ' ∧ ∀ a, a ≠ 15 → a ≠ 16 → σ' a = σ a := by
      intro h1 hh1
      obtain ⟨s2, e2, f2⟩ := ih (m + 1) h1 s1 n (by omega) (by omega) (by omega) (by rw [hh1]; split <;> omega) T1 (by rw [f1 18 (by omega) (by omega)]; exact hz)
      refine ⟨s2, ?_, fun a h1 h2 => by rw [f2 a h1 h2, f1 a h1 h2]⟩
      rw [e2, hh1]
      rfl
    by_cases c : 0 ≤ h - sayS T 0 h m d 0 0 0
    · rw [if_pos (by rw [iI_le (by omega) (by omega)]; exact c)]
      exact key _ (by rw [if_neg (by omega)])
    · rw [if_neg (by rw [iI_le (by omega) (by omega)]; exact c)]
      exact key _ (by rw [if_pos (by omega)])
def evM (C : CD) (E : CD) (σ : Sg) : Prop := σ 0 36 = iI (E 0 1) ∧ σ 0 37 = iI (E 0 2) ∧ σ 0 38 = iI (E 0 0) ∧ σ 0 39 = iI (E 0 3) ∧ σ 0 40 = iI (E 0 4) ∧ (∀ d, d < (stdS C).length → σ 17 d = iI (atS C d : Int)) ∧ (∀ p, p < cN C → σ 18 p = iI (downS C p : Int)) ∧ ∀ p, p < 6 → σ 19 p = iI (E 1 p) ∧ σ 20 p = iI (E 2 p) ∧ σ 21 p = iI (E 3 p) ∧ σ 22 p = iI (E 4 p)
theorem evM_of {C E : CD} {σ σ' : Sg} (h : evM C E σ) (e : ∀ a, a ≠ 15 → a ≠ 16 → σ' a = σ a) : evM C E σ' := by
  unfold evM at h ⊢
  rw [e 0 (by omega) (by omega), e 17 (by omega) (by omega), e 18 (by omega) (by omega), e 19 (by omega) (by omega), e 20 (by omega) (by omega), e 21 (by omega) (by omega), e 22 (by omega) (by omega)]
  exact h
theorem m_loop {F : Nat} (hF : 100 ≤ F) {C : CD} (hC : okC C) {σ0 : Sg} (hR : courtM C σ0) {T : TX} (hT : semM F T σ0) (hc : congT T) : ∀ (r d : Nat) (m h hX : Int) (E : CD) (σ : Sg) (n : Nat), d + r = (stdS C).length → r < n → frM σ0 σ → evM C E σ → (0 ≤ m ∧ m ≤ 1000) → (m ≤ 60 → hX = h ∧ (0 ≤ h ∧ h ≤ 99)) →
    ∃ σ', g_X7_sups_l88 F (iI ((stdS C).length : Int)) n (iI m) (iI hX) (iI (d : Int)) σ = some σ' ∧ frM σ0 σ' ∧ evM C (evs C T r d m h E) σ' := by
  intro r
  have hn := okC_n hC
  have sl := stdS_len C
  induction r with
  | zero =>
    intro d m h hX E σ n hr hrn hf hE _ _
    obtain ⟨n, rfl⟩ : ∃ q, n = q + 1 := ⟨n - 1, by omega⟩
    rw [g_X7_sups_l88, if_pos (by rw [iI_le (by omega) (by omega)]; omega)]
    exact ⟨σ, rfl, hf, hE⟩
  | succ r ih =>
    intro d m h hX E σ n hr hrn hf hE hm hcond
    obtain ⟨n, rfl⟩ : ∃ q, n = q + 1 := ⟨n - 1, by omega⟩
    have hd : d < (stdS C).length := by omega
    rw [g_X7_sups_l88, if_neg (by rw [iI_le (by omega) (by omega)]; omega)]
    unfold evs
    by_cases h60 : 60 < m
    · rw [if_pos (by rw [li_60, iI_lt (by omega) (by omega)]; omega), if_pos h60]
      exact ⟨σ, rfl, hf, hE⟩
    · obtain ⟨rfl, hh⟩ := hcond (by omega)
      rw [if_neg (by rw [li_60, iI_lt (by omega) (by omega)]; omega), if_neg (by omega)]
      obtain ⟨hps, hdn⟩ := atS_ok hd
      have hp := (stdS_mem.mp hps).1
      have wb := waiS_b hC T hp (d := d) (m := m) (h := hX)
      have Rs : courtM C σ := courtM_of hR hf
      have Ts : semM F T σ := semM_of hT hf
      obtain ⟨s2, e2, f2, a17, a18, a19, a20, a21, a22, c36, c37, c38, c39, c40⟩ := m_begins Ts hc hC Rs hp (d := d) (m := m) (by rw [hE.2.2.2.2.2.2.1 _ hp, hdn]) hh
      rw [rdA_i (by omega), Int.toNat_natCast, hE.2.2.2.2.2.1 d hd, e2, bnV_s, rdA_i (by omega), Int.toNat_natCast, a18, hE.2.2.2.2.2.2.1 _ hp, hdn]
      have ER2 : evM C (evB C T (atS C d) d m hX E) s2 := by
        obtain ⟨f0, f1, f2, f3, f4⟩ := @evB_0 C T (atS C d) d m hX E
        obtain ⟨i36, i37, i38, i39, i40, i17, i18, ip⟩ := hE
        refine ⟨by rw [c36, f1], by rw [c37, f2], by rw [c38, i38, f0, iI_add], by rw [c39, i39, f3, iI_add], by rw [c40, i40, f4, iI_add], fun x hx => by rw [a17]; exact i17 x hx, fun x hx => by rw [a18]; exact i18 x hx, fun p hpn => ?_⟩
        obtain ⟨g1, g2, g3, g4⟩ := ip p hpn
        rw [a19, a20, a21, a22]
        by_cases hpp : p = atS C d
        · subst hpp
          obtain ⟨k1, k2, k3, k4⟩ := @evB_p C T (atS C d) d m hX E
          rw [k1, k2, k3, k4]
          exact ⟨by simp [upd], by simp [upd], by simp [upd], by simp [upd]⟩
        · obtain ⟨k1, k2, k3, k4⟩ := @evB_q C T (atS C d) p d m hX E hpp
          rw [k1, k2, k3, k4]
          exact ⟨by simp [upd, hpp, g1], by simp [upd, hpp, g2], by simp [upd, hpp, g3], by simp [upd, hpp, g4]⟩
      obtain ⟨s3, e3, f3⟩ := m_waits (semM_of Ts f2) hc hC (courtM_of Rs f2) hp (h := hX) (m := m) (d := d) hh
      rw [e3, bnI_s, iI_add]
      have ER3 := evM_of ER2 f3
      have F3 : frM σ0 s3 := frM_t hf (frM_t f2 (frM_c (fun a ha => f3 a (by omega) (by omega))))
      by_cases hu : 60 < m + waiS C T (atS C d) d m hX
      · rw [if_pos (by rw [li_60, iI_lt (by omega) (by omega)]; exact hu)]
        unfold g_X7_sups_b196
        rw [li_1, iI_add]
        exact ih (d + 1) _ _ hX _ s3 n (by omega) (by omega) F3 ER3 (by omega) (fun hx => by omega)
      · rw [if_neg (by rw [li_60, iI_lt (by omega) (by omega)]; exact hu)]
        obtain ⟨s4, e4, f4⟩ := m_cool hc (K := fun v3_ v4_ v5_ σ_ => g_X7_sups_l88 F (iI ((stdS C).length : Int)) n v3_ v4_ v5_ σ_) (v2 := iI ((stdS C).length : Int)) (v5 := iI (d : Int)) (p := atS C d) (d := d) (by omega) (U := m + waiS C T (atS C d) d m hX) (waiS C T (atS C d) d m hX).toNat m hX s3 F (by omega) (by omega) (by omega) hh (semM_of hT F3) (by rw [ER3.2.2.2.2.2.2.1 _ hp, hdn])
        rw [e4, li_1, iI_add]
        exact ih (d + 1) _ _ _ _ s4 n (by omega) (by omega) (frM_t F3 (frM_c (fun a ha => f4 a (by omega) (by omega)))) (evM_of ER3 f4) (by omega) (fun _ => ⟨rfl, coolS_b T _ _ _ _ hh⟩)
theorem m_sups {F : Nat} (hF : 100 ≤ F) {C : CD} (hC : okC C) {σ : Sg} (hR : courtM C σ) {T : TX} (hT : semM F T σ) (hc : congT T) : ∃ σ', g_X7_sups F (iI (C 0 4)) σ = some σ' ∧ frM σ σ' ∧ evM C (evn C T) σ' := by
  have hn := okC_n hC
  have sl := stdS_len C
  obtain ⟨s1, e1, f1, g18, g17⟩ := m_stands hF hC hR
  unfold g_X7_sups
  rw [e1, bnI_s]
  obtain ⟨s2, e2, j1, j2⟩ := loop_up (fun n p s => g_X7_sups_l8 F (iI ((stdS C).length : Int)) n (iI ((p : Nat) : Int)) s) (fun p s => (∀ a, a < 19 ∨ 22 < a → s a = s1 a) ∧ ∀ x, x < p → s 19 x = iI (-1) ∧ s 20 x = iI (-1) ∧ s 21 x = iI (-6000) ∧ s 22 x = iI (-6000)) 6 (by
    intro n p s hp ⟨j1, j2⟩
    rw [g_X7_sups_l8, if_neg (by rw [li_6, iI_le (by omega) (by omega)]; omega), wrA_i (by omega), wrA_i (by omega), wrA_i (by omega), wrA_i (by omega), Int.toNat_natCast]
    refine ⟨st (st (st (st s 19 p (-1)) 20 p (-1)) 21 p (-6000)) 22 p (-6000), by rw [li_1, iI_add]; rfl, fun a ha => ?_, fun x hx => ?_⟩
    · funext b; rw [st_k (by omega), st_k (by omega), st_k (by omega), st_k (by omega), j1 a ha]
    · by_cases hxp : x = p
      · subst hxp
        refine ⟨?_, ?_, ?_, ?_⟩ <;> simp (disch := omega) only [st_e, st_k, st_j] <;> rfl
      · have hx' := j2 x (by omega)
        refine ⟨?_, ?_, ?_, ?_⟩ <;> simp (disch := omega) only [st_e, st_k, st_j] <;> simp only [hx'.1, hx'.2.1, hx'.2.2.1, hx'.2.2.2]) 6 0 s1 F (by omega) ⟨fun _ _ => rfl, fun x hx => by omega⟩ (by omega)
  have e2 : g_X7_sups_l8 F (iI ((stdS C).length : Int)) F 0 s1 = g_X7_sups_l8 F (iI ((stdS C).length : Int)) (F - 6) (iI ((6 : Nat) : Int)) s2 := e2
  rw [e2]
  obtain ⟨f, hf⟩ : ∃ f, F - 6 = f + 1 := ⟨F - 7, by omega⟩
  rw [hf, g_X7_sups_l8, if_pos (by decide), wrF_i, wrF_i, wrF_i, wrF_i, wrF_i]
  generalize hs7 : st (st (st (st (st s2 0 36 (-1)) 0 37 (-1)) 0 38 0) 0 39 0) 0 40 0 = s7
  have a7 : ∀ a, a ≠ 0 → s7 a = s2 a := fun a ha => by funext b; rw [← hs7]; simp only [st_k ha]
  have b7 : ∀ j, j < 36 ∨ 40 < j → s7 0 j = s2 0 j := fun j hj => by rw [← hs7]; simp (disch := omega) only [st_j]
  have F7 : frM σ s7 := ⟨fun a h0 ha => by rw [a7 a (by omega), j1 a (by omega), f1 a (by omega) (by omega)], fun j hj => by rw [b7 j hj, j1 0 (by omega), f1 0 (by omega) (by omega)]⟩
  have E7 : evM C ev0 s7 := by
    refine ⟨?_, ?_, ?_, ?_, ?_, fun d hd => ?_, fun p hp => ?_, fun p hp => ?_⟩
    · rw [← hs7]; simp (disch := omega) only [st_e, st_k, st_j]; rfl
    · rw [← hs7]; simp (disch := omega) only [st_e, st_k, st_j]; rfl
    · rw [← hs7]; simp (disch := omega) only [st_e, st_k, st_j]; rfl
    · rw [← hs7]; simp (disch := omega) only [st_e, st_k, st_j]; rfl
    · rw [← hs7]; simp (disch := omega) only [st_e, st_k, st_j]; rfl
    · rw [a7 17 (by omega), j1 17 (by omega)]; exact g17 d hd
    · rw [a7 18 (by omega), j1 18 (by omega)]; exact g18 p hp
    · rw [a7 19 (by omega), a7 20 (by omega), a7 21 (by omega), a7 22 (by omega)]; exact j2 p hp
  have h5 : s7 0 5 = iI (C 0 2) := by rw [F7.2 5 (by omega)]; exact hR.2.2.1
  rw [h5]
  exact m_loop hF hC hR hT hc (stdS C).length 0 0 (C 0 2) (C 0 2) ev0 s7 F (by omega) (by omega) F7 E7 (by omega) (fun _ => ⟨rfl, hC.2.2.1⟩)
