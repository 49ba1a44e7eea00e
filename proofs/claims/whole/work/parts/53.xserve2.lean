theorem x_begin {F N : Nat} {ln : Nat → Nat} {k t : Nat} (hk : isCt k) {C : CD} (hC : okC C) {σ : Sg} (hR : courtR C σ k) {T : TX} (hT : semX F N ln t T σ) (hc : congT T) {p d : Nat} (hp : p < cN C) (hd : σ 18 p = iI (d : Int)) {m h : Int} (hh : 0 ≤ h ∧ h ≤ 99) :
    ∃ σ', g_X2_begin F N ln k t (iI (p : Int)) (iI h) (iI m) σ = some (σ', iI (waiS C T p d m h)) ∧ (∀ a, a < 16 ∨ 24 < a → σ' a = σ a) ∧ σ' 17 = σ 17 ∧ σ' 18 = σ 18 ∧ σ' 19 = upd (σ 19) p (iI m) ∧ σ' 20 = upd (σ 20) p (iI h) ∧ σ' 21 = upd (σ 21) p (iI (offS C T p d m h)) ∧ σ' 22 = upd (σ 22) p (iI (minS C T p d m h)) ∧ σ' 16 8 = σ 16 8 ∧ σ' 16 9 = σ 16 9 + iI 1 ∧ σ' 16 10 = σ 16 10 + iI (minS C T p d m h) := by
  have hk' := kct hk
  have hn := okC_n hC
  obtain ⟨b1, b2, b3, b4, b5⟩ := hC
  obtain ⟨q1, q2, q3, q4⟩ := b5 p hp
  have hR' := hR
  obtain ⟨-, rs, -, -, hR2⟩ := hR
  obtain ⟨r1, r2, r3, r4⟩ := hR2 p hp
  have lb := sayS_b T 2 h m d (C 3 p) (C 4 p) (C 2 p)
  have wb := sayS_b1 T h m d (C 3 p) (C 4 p) (C 2 p)
  have kb := likeS_b (kd := C 1 p) lb q2
  have ob : -99 ≤ offS C T p d m h ∧ offS C T p d m h ≤ 99 := by unfold offS; omega
  obtain ⟨s3, e3, f3, g33, g34, g35⟩ := x_speak (F := F) (N := N) (ln := ln) hk ⟨b1, b2, b3, b4, b5⟩ hR' hp
  unfold g_X2_begin
  rw [rdA_i (by omega), rdA_i (by omega), Int.toNat_natCast, r1, r2, e3, bnV_s, wrA_i (by omega), wrA_i (by omega), rdA_i (by omega), Int.toNat_natCast]
  have v18 : st (st s3 19 p (iI m)) 20 p (iI h) 18 p = iI (d : Int) := by rw [st_k (by omega), st_k (by omega), f3 18 (by omega), hd]
  have t6 : semX F N ln t T (st (st s3 19 p (iI m)) 20 p (iI h)) := semX_of hT (fun a ha => by funext b; rw [st_k (by omega), st_k (by omega), f3 a (by omega)])
  obtain ⟨s8, e8, f8, g83, g84, g85⟩ := x_says t6 hc (part := 2) (by omega) (h := h) (m := m) (d := d) (r := C 3 p) (o := C 4 p) (q := C 2 p) (by rw [st_k (by omega), st_k (by omega), g33]) (by rw [st_k (by omega), st_k (by omega), g34]) (by rw [st_k (by omega), st_k (by omega), g35])
  have e8 : g_X2_says F N ln t 2 (iI h) (iI m) (iI (d : Int)) (st (st s3 19 p (iI m)) 20 p (iI h)) = some (s8, iI (sayS T 2 h m d (C 3 p) (C 4 p) (C 2 p))) := e8
  rw [v18, e8, bnI_s, x_like q1 q2 lb, bnI_s, wrA_i (by omega), rdA_i (by omega), Int.toNat_natCast, st_e, iI_sub, show h - likeS (C 1 p) (C 2 p) (sayS T 2 h m d (C 3 p) (C 4 p) (C 2 p)) = offS C T p d m h from rfl, x_mind q1 q2 ob, bnI_s, wrA_i (by omega), rdA_i (by omega), Int.toNat_natCast, st_e, wrF_i, wrF_i, show mindS (C 1 p) (C 2 p) (offS C T p d m h) = minS C T p d m h from rfl]
  generalize hs12 : st s8 21 p (iI (offS C T p d m h)) = s12
  generalize hs16 : st s12 22 p (iI (minS C T p d m h)) = s16
  generalize hs18 : st s16 16 10 (s16 16 10 + iI (minS C T p d m h)) = s18
  generalize hs19 : st s18 16 9 (s18 16 9 + 1) = s19
  have a19 : ∀ a, a ≠ 16 → s19 a = s16 a := fun a ha => by funext b; rw [← hs19, ← hs18, st_k ha, st_k ha]
  have a16 : ∀ a, a ≠ 21 → a ≠ 22 → s16 a = s8 a := fun a h1 h2 => by funext b; rw [← hs16, ← hs12, st_k h2, st_k h1]
  have a8 : ∀ a, a ≠ 19 → a ≠ 20 → a ≠ 23 → a ≠ 24 → s8 a = σ a := fun a h1 h2 h3 h4 => by rw [f8 a h3 h4]; funext b; rw [st_k h2, st_k h1, f3 a h3]
  have t19 : semX F N ln t T s19 := semX_of hT (fun a ha => by rw [a19 a (by omega), a16 a (by omega) (by omega), a8 a (by omega) (by omega) (by omega) (by omega)])
  have w18 : s19 18 p = iI (d : Int) := by rw [a19 18 (by omega), a16 18 (by omega) (by omega), a8 18 (by omega) (by omega) (by omega) (by omega), hd]
  have n19 : s19 23 = s8 23 := by rw [a19 23 (by omega), a16 23 (by omega) (by omega)]
  obtain ⟨s21, e21, f21, -, -, -⟩ := x_says t19 hc (part := 1) (by omega) (h := h) (m := m) (d := d) (r := C 3 p) (o := C 4 p) (q := C 2 p) (by rw [n19, g83]) (by rw [n19, g84]) (by rw [n19, g85])
  have e21 : g_X2_says F N ln t 1 (iI h) (iI m) (iI (d : Int)) s19 = some (s21, iI (sayS T 1 h m d (C 3 p) (C 4 p) (C 2 p))) := e21
  have vs : s21 k 1 = iI (C 0 1) := by rw [f21 k (by omega) (by omega), a19 k (by omega), a16 k (by omega) (by omega), a8 k (by omega) (by omega) (by omega) (by omega), rs]
  rw [rdA_i (by omega), Int.toNat_natCast, w18, e21, bnI_s, vs, x_wait q1 q2 wb hh b2, bnI_s]
  refine ⟨s21, rfl, fun a ha => ?_, ?_, ?_, ?_, ?_, ?_, ?_, ?_, ?_, ?_⟩
  · rw [f21 a (by omega) (by omega), a19 a (by omega), a16 a (by omega) (by omega), a8 a (by omega) (by omega) (by omega) (by omega)]
  · rw [f21 17 (by omega) (by omega), a19 17 (by omega), a16 17 (by omega) (by omega), a8 17 (by omega) (by omega) (by omega) (by omega)]
  · rw [f21 18 (by omega) (by omega), a19 18 (by omega), a16 18 (by omega) (by omega), a8 18 (by omega) (by omega) (by omega) (by omega)]
  · rw [f21 19 (by omega) (by omega), a19 19 (by omega), a16 19 (by omega) (by omega), f8 19 (by omega) (by omega), st_ne _ _ _ (by omega), st_row, f3 19 (by omega)]
  · rw [f21 20 (by omega) (by omega), a19 20 (by omega), a16 20 (by omega) (by omega), f8 20 (by omega) (by omega), st_row, st_ne _ _ _ (by omega), f3 20 (by omega)]
  · rw [f21 21 (by omega) (by omega), a19 21 (by omega), ← hs16, st_ne _ _ _ (by omega), ← hs12, st_row, a8 21 (by omega) (by omega) (by omega) (by omega)]
  · rw [f21 22 (by omega) (by omega), a19 22 (by omega), ← hs16, st_row, ← hs12, st_ne _ _ _ (by omega), a8 22 (by omega) (by omega) (by omega) (by omega)]
  · rw [f21 16 (by omega) (by omega), ← hs19, st_j (by omega), ← hs18, st_j (by omega), a16 16 (by omega) (by omega), a8 16 (by omega) (by omega) (by omega) (by omega)]
  · rw [f21 16 (by omega) (by omega), ← hs19, st_e, ← hs18, st_j (by omega), a16 16 (by omega) (by omega), a8 16 (by omega) (by omega) (by omega) (by omega)]; rfl
  · rw [f21 16 (by omega) (by omega), ← hs19, st_j (by omega), ← hs18, st_e, a16 16 (by omega) (by omega), a8 16 (by omega) (by omega) (by omega) (by omega)]
theorem x_better {F N : Nat} {ln : Nat → Nat} {k : Nat} (hk : isCt k) {C : CD} (hC : okC C) {σ : Sg} (hR : courtR C σ k) {p q : Nat} (hp : p < cN C) (hq : q < cN C) : g_X1_isBetter F N ln k (iI (q : Int)) (iI (p : Int)) σ = some (σ, if betS C q p then 1 else 0) := by
  have hn := okC_n hC
  obtain ⟨-, -, -, -, b5⟩ := hC
  have q3 := (b5 p hp).2.2.1
  have q4 := (b5 q hq).2.2.1
  have r3 := (hR.2.2.2.2 p hp).2.2.1
  have r4 := (hR.2.2.2.2 q hq).2.2.1
  have hb : (betS C q p = true) ↔ (C 3 p < C 3 q ∨ (C 3 p = C 3 q ∧ q < p)) := by simp [betS]
  unfold g_X1_isBetter g_X1_isBetter_b35
  rw [rdA_i (by omega), rdA_i (by omega), rdA_i (by omega), rdA_i (by omega), Int.toNat_natCast, Int.toNat_natCast, r3, r4]
  simp (disch := omega) only [iI_lt, iI_le, iI_eq]
  by_cases h1 : C 3 p < C 3 q
  · rw [if_pos h1, if_pos (hb.mpr (Or.inl h1))]
  · rw [if_neg h1]
    by_cases h2 : C 3 q = C 3 p
    · rw [if_pos h2]
      by_cases h3 : (p : Int) ≤ q
      · rw [if_pos h3, if_neg (fun h => by have := hb.mp h; omega)]
      · rw [if_neg h3, if_pos (hb.mpr (by omega))]
    · rw [if_neg h2, if_neg (fun h => by have := hb.mp h; omega)]
/-- of those below q, how many are there and better than p; how many are there -/
def dnS (C : CD) (p q : Nat) : Nat := ((List.range q).filter (fun p : Nat => decide ((p : Int) ≠ C 0 4))).countP (fun x => betS C x p)
def scS (C : CD) (q : Nat) : Nat := ((List.range q).filter (fun p : Nat => decide ((p : Int) ≠ C 0 4))).length
theorem dnS_s (C : CD) (p q : Nat) : dnS C p (q + 1) = dnS C p q + (if (q : Int) ≠ C 0 4 ∧ betS C q p = true then 1 else 0) := by
  unfold dnS
  rw [List.range_succ, List.filter_append, List.countP_append]
  by_cases h : (q : Int) ≠ C 0 4 <;> by_cases h2 : betS C q p = true <;> simp [h, h2]
theorem scS_s (C : CD) (q : Nat) : scS C (q + 1) = scS C q + (if (q : Int) ≠ C 0 4 then 1 else 0) := by
  unfold scS
  rw [List.range_succ, List.filter_append, List.length_append]
  by_cases h : (q : Int) ≠ C 0 4 <;> simp [h]
theorem scS_le (C : CD) : ∀ q, scS C q ≤ q
  | 0 => Nat.le_refl 0
  | q + 1 => by have := scS_le C q; rw [scS_s]; split <;> omega
theorem dnS_le (C : CD) (p : Nat) : ∀ q, dnS C p q ≤ scS C q := fun q => List.countP_le_length
theorem dnS_n (C : CD) (p : Nat) : dnS C p (cN C) = downS C p := rfl
theorem scS_n (C : CD) : scS C (cN C) = (stdS C).length := rfl
theorem x_lineUp {F N : Nat} {ln : Nat → Nat} (hF : 100 ≤ F) {k : Nat} (hk : isCt k) {C : CD} (hC : okC C) {σ : Sg} (hR : courtR C σ k) : ∃ σ', g_X2_lineUp F N ln k σ = some σ' ∧ (∀ a, a < 16 ∨ 20 < a → σ' a = σ a) ∧ σ' 16 8 = iI ((stdS C).length : Int) ∧ (∀ p, p < cN C → σ' 18 p = iI (downS C p : Int) ∧ σ' 19 p = iI (-1) ∧ σ' 20 p = iI (-1)) ∧ ∀ d, d < (stdS C).length → σ' 17 d = iI (atS C d : Int) := by
  have hk' := kct hk
  have hn := okC_n hC
  have b4 := hC.2.2.2.1
  unfold g_X2_lineUp
  rw [wrF_i]
  obtain ⟨s', e', h1, h2, h3, h4⟩ := loop_up (fun n p s => g_X2_lineUp_l7 F N ln k n (iI ((p : Nat) : Int)) s) (fun p s => (∀ a, a < 16 ∨ 20 < a → s a = σ a) ∧ s 16 8 = iI (scS C p : Int) ∧ (∀ x, x < p → s 18 x = iI (downS C x : Int) ∧ s 19 x = iI (-1) ∧ s 20 x = iI (-1)) ∧ (∀ x, x < p → x ∈ stdS C → s 17 (downS C x) = iI (x : Int))) (cN C) (by
    intro n p s hp ⟨i1, i2, i3, i4⟩
    have hRs : courtR C s k := courtR_of hR (fun a h1 h2 => i1 a (by omega))
    rw [g_X2_lineUp_l7]
    have c1 : ¬ s k 0 ≤ iI (p : Int) := by rw [hRs.1, iI_le (by omega) (by omega)]; omega
    rw [if_neg c1, wrA_i (by omega), wrA_i (by omega), wrA_i (by omega), Int.toNat_natCast]
    generalize hs3 : st (st (st s 19 p (-1)) 20 p (-1)) 18 p 0 = s3
    generalize hKK : (fun (v2_ : Int32) (σ_ : Sg) => g_X2_lineUp_l7 F N ln k n v2_ σ_) = KK
    have a3 : ∀ a, a ≠ 18 → a ≠ 19 → a ≠ 20 → s3 a = s a := fun a h1 h2 h3 => by funext b; rw [← hs3, st_k h1, st_k h3, st_k h2]
    obtain ⟨s4, e4, j1, j2, j3⟩ := loop_up (fun n q s => g_X2_lineUp_l38 F N ln k KK (iI (p : Int)) n (iI ((q : Nat) : Int)) s) (fun q s => (∀ a, a ≠ 18 → s a = s3 a) ∧ (∀ x, x ≠ p → s 18 x = s3 18 x) ∧ s 18 p = iI (dnS C p q : Int)) (cN C) (by
      intro n q s hq ⟨j1, j2, j3⟩
      have hRq : courtR C s k := courtR_of hRs (fun a h1 h2 => by rw [j1 a (by omega), a3 a (by omega) (by omega) (by omega)])
      have dl := dnS_le C p q
      have sl := scS_le C q
      rw [g_X2_lineUp_l38]
      have c2 : ¬ s k 0 ≤ iI (q : Int) := by rw [hRq.1, iI_le (by omega) (by omega)]; omega
      rw [if_neg c2]
      unfold g_X2_lineUp_b73
      have e4 : s k 4 = iI (C 0 4) := hRq.2.2.2.1
      by_cases c3 : (q : Int) = C 0 4
      · have c4 : iI (q : Int) = s k 4 := by rw [e4, c3]
        rw [if_pos c4]
        refine ⟨s, by rw [li_1, iI_add]; rfl, j1, j2, ?_⟩
        rw [j3, dnS_s, if_neg (fun h => h.1 c3), Nat.add_zero]
      · have c4 : ¬ iI (q : Int) = s k 4 := by rw [e4, iI_eq (by omega) (by omega)]; exact c3
        rw [if_neg c4, x_better hk hC hRq hp hq, bnI_s]
        by_cases c5 : betS C q p = true
        · rw [if_pos c5, if_neg (by decide), rdA_i (by omega), wrA_i (by omega), Int.toNat_natCast]
          refine ⟨st s 18 p (s 18 p + 1), by rw [li_1, iI_add]; rfl, fun a ha => ?_, fun x hx => ?_, ?_⟩
          · rw [st_ne _ _ _ ha]; exact j1 a ha
          · rw [st_j hx]; exact j2 x hx
          · rw [st_e, j3, dnS_s, if_pos ⟨c3, c5⟩, li_1, iI_add]; rfl
        · rw [if_neg c5, if_pos rfl]
          refine ⟨s, by rw [li_1, iI_add]; rfl, j1, j2, ?_⟩
          rw [j3, dnS_s, if_neg (fun h => c5 h.2), Nat.add_zero]) (cN C) 0 s3 F (by omega) ⟨fun _ _ => rfl, fun _ _ => rfl, by rw [← hs3, st_e]; rfl⟩ (by omega)
    have hRq : courtR C s4 k := courtR_of hRs (fun a h1 h2 => by rw [j1 a (by omega), a3 a (by omega) (by omega) (by omega)])
    have e4 : g_X2_lineUp_l38 F N ln k KK (iI (p : Int)) F 0 s3 = g_X2_lineUp_l38 F N ln k KK (iI (p : Int)) (F - cN C) (iI (cN C : Int)) s4 := e4
    rw [e4]
    obtain ⟨f, hf⟩ : ∃ f, F - cN C = f + 1 := ⟨F - cN C - 1, by omega⟩
    rw [hf, g_X2_lineUp_l38]
    have c2 : s4 k 0 ≤ iI (cN C : Int) := by rw [hRq.1, iI_le (by omega) (by omega)]; omega
    rw [if_pos c2]
    have sl := scS_le C p
    have a4 : ∀ a, a ≠ 18 → a ≠ 19 → a ≠ 20 → s4 a = s a := fun a h1 h2 h3 => by rw [j1 a h1, a3 a h1 h2 h3]
    have w18 : ∀ x, x < p → s4 18 x = s 18 x := fun x hx => by rw [j2 x (by omega), ← hs3, st_j (by omega), st_k (by omega), st_k (by omega)]
    have w19 : ∀ x, x < p + 1 → (x < p → s 19 x = iI (-1)) → s4 19 x = iI (-1) := fun x hx hh => by
      rw [j1 19 (by omega), ← hs3, st_k (by omega), st_k (by omega)]
      by_cases hxp : x = p
      · subst hxp; rw [st_e]; rfl
      · rw [st_j hxp]; exact hh (by omega)
    have w20 : ∀ x, x < p + 1 → (x < p → s 20 x = iI (-1)) → s4 20 x = iI (-1) := fun x hx hh => by
      rw [j1 20 (by omega), ← hs3, st_k (by omega)]
      by_cases hxp : x = p
      · subst hxp; rw [st_e]; rfl
      · rw [st_j hxp, st_k (by omega)]; exact hh (by omega)
    have x3 : ∀ x, x < p + 1 → s4 18 x = iI (downS C x : Int) ∧ s4 19 x = iI (-1) ∧ s4 20 x = iI (-1) := fun x hx => by
      refine ⟨?_, w19 x hx (fun h => (i3 x h).2.1), w20 x hx (fun h => (i3 x h).2.2)⟩
      by_cases hxp : x = p
      · subst hxp; rw [j3, dnS_n]
      · rw [w18 x (by omega)]; exact (i3 x (by omega)).1
    unfold g_X2_lineUp_b109
    have e5 : s4 k 4 = iI (C 0 4) := hRq.2.2.2.1
    by_cases c3 : (p : Int) = C 0 4
    · have c4 : iI (p : Int) = s4 k 4 := by rw [e5, c3]
      rw [if_pos c4]
      refine ⟨s4, by rw [← hKK, li_1, iI_add]; rfl, fun a ha => by rw [a4 a (by omega) (by omega) (by omega)]; exact i1 a ha, ?_, x3, fun x hx hm => ?_⟩
      · rw [a4 16 (by omega) (by omega) (by omega), i2, scS_s, if_neg (fun h => h c3), Nat.add_zero]
      · have : x ≠ p := fun h => (stdS_mem.mp hm).2 (by rw [h]; exact c3)
        rw [a4 17 (by omega) (by omega) (by omega)]; exact i4 x (by omega) hm
    · have c4 : ¬ iI (p : Int) = s4 k 4 := by rw [e5, iI_eq (by omega) (by omega)]; exact c3
      have hps : p ∈ stdS C := stdS_mem.mpr ⟨hp, c3⟩
      have dl := downS_lt hps
      have sl2 := stdS_len C
      rw [if_neg c4, rdA_i (by omega), Int.toNat_natCast, (x3 p (by omega)).1, wrA_i (by omega), wrF_i, Int.toNat_natCast]
      refine ⟨st (st s4 17 (downS C p) (iI (p : Int))) 16 8 (st s4 17 (downS C p) (iI (p : Int)) 16 8 + 1), by rw [← hKK, li_1, iI_add]; rfl, fun a ha => ?_, ?_, fun x hx => ?_, fun x hx hm => ?_⟩
      · funext b; rw [st_k (by omega), st_k (by omega), a4 a (by omega) (by omega) (by omega)]; exact congrFun (i1 a ha) b
      · rw [st_e, st_k (by omega), a4 16 (by omega) (by omega) (by omega), i2, scS_s, if_pos c3, li_1, iI_add]; rfl
      · rw [st_k (by omega), st_k (by omega), st_k (by omega), st_k (by omega), st_k (by omega), st_k (by omega)]; exact x3 x hx
      · rw [st_k (by omega)]
        by_cases hxp : x = p
        · subst hxp; rw [st_e]
        · rw [st_j (fun h => hxp (downS_inj hm hps h)), a4 17 (by omega) (by omega) (by omega)]; exact i4 x (by omega) hm) (cN C) 0 (st σ 16 8 0) F (by omega) ⟨fun a ha => by funext b; rw [st_k (by omega)], by rw [st_e]; rfl, fun x hx => by omega, fun x hx => by omega⟩ (by omega)
  have e' : g_X2_lineUp_l7 F N ln k F 0 (st σ 16 8 0) = g_X2_lineUp_l7 F N ln k (F - cN C) (iI (cN C : Int)) s' := e'
  rw [e']
  obtain ⟨f, hf⟩ : ∃ f, F - cN C = f + 1 := ⟨F - cN C - 1, by omega⟩
  rw [hf, g_X2_lineUp_l7]
  have hRs : courtR C s' k := courtR_of hR (fun a h3 h4 => h1 a (by omega))
  have c2 : s' k 0 ≤ iI (cN C : Int) := by rw [hRs.1, iI_le (by omega) (by omega)]; omega
  rw [if_pos c2]
  refine ⟨s', rfl, h1, by rw [h2, scS_n], h3, fun d hd => ?_⟩
  have hm := atS_ok hd
  have := h4 (atS C d) (stdS_mem.mp hm.1).1 hm.1
  rw [hm.2] at this
  exact this
