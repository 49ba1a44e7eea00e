def okE (C : CD) (b : Nat) (E : CD) : Prop := E 0 4 = b ∧ (0 < b → E 0 1 = (atS C (b - 1) : Int) ∧ E 0 2 = E 1 (atS C (b - 1))) ∧ (b = 0 → E 0 1 = -1 ∧ E 0 2 = -1) ∧ (-9 * (b : Int) ≤ E 0 0 ∧ E 0 0 ≤ 198 * (b : Int)) ∧ (0 ≤ E 0 3 ∧ E 0 3 ≤ 99 * (b : Int)) ∧ ∀ p, (-1 ≤ E 1 p ∧ E 1 p ≤ 60) ∧ (-1 ≤ E 2 p ∧ E 2 p ≤ 99) ∧ (E 1 p = -1 → E 2 p = -1 ∧ E 3 p = -6000 ∧ E 4 p = -6000) ∧ (E 1 p ≠ -1 → 0 ≤ E 2 p ∧ (-99 ≤ E 3 p ∧ E 3 p ≤ 99) ∧ (-9 ≤ E 4 p ∧ E 4 p ≤ 198))
theorem evB_0 {C : CD} {T : TX} {p : Nat} {d m h : Int} {E : CD} : evB C T p d m h E 0 0 = E 0 0 + minS C T p d m h ∧ evB C T p d m h E 0 1 = p ∧ evB C T p d m h E 0 2 = m ∧ evB C T p d m h E 0 3 = E 0 3 + h ∧ evB C T p d m h E 0 4 = E 0 4 + 1 := by
  unfold evB
  refine ⟨?_, ?_, ?_, ?_, ?_⟩ <;> simp [upI]
theorem evB_p {C : CD} {T : TX} {p : Nat} {d m h : Int} {E : CD} : evB C T p d m h E 1 p = m ∧ evB C T p d m h E 2 p = h ∧ evB C T p d m h E 3 p = offS C T p d m h ∧ evB C T p d m h E 4 p = minS C T p d m h := by
  unfold evB
  refine ⟨?_, ?_, ?_, ?_⟩ <;> simp [upI]
theorem evB_q {C : CD} {T : TX} {p q : Nat} {d m h : Int} {E : CD} (hq : q ≠ p) : evB C T p d m h E 1 q = E 1 q ∧ evB C T p d m h E 2 q = E 2 q ∧ evB C T p d m h E 3 q = E 3 q ∧ evB C T p d m h E 4 q = E 4 q := by
  unfold evB
  refine ⟨?_, ?_, ?_, ?_⟩ <;> simp [upI, hq]
theorem offS_b {C : CD} (hC : okC C) (T : TX) {p : Nat} (hp : p < cN C) {d m h : Int} (hh : 0 ≤ h ∧ h ≤ 99) : -99 ≤ offS C T p d m h ∧ offS C T p d m h ≤ 99 := by
  have q := hC.2.2.2.2 p hp
  have := likeS_b (kd := C 1 p) (sayS_b T 2 h m d (C 3 p) (C 4 p) (C 2 p)) q.2.1
  unfold offS; omega
theorem minS_b {C : CD} (hC : okC C) (T : TX) {p : Nat} (hp : p < cN C) {d m h : Int} (hh : 0 ≤ h ∧ h ≤ 99) : -9 ≤ minS C T p d m h ∧ minS C T p d m h ≤ 198 :=
  mindS_b (offS_b hC T hp hh) (hC.2.2.2.2 p hp).2.1
theorem waiS_b {C : CD} (hC : okC C) (T : TX) {p : Nat} (hp : p < cN C) {d m h : Int} : 0 ≤ waiS C T p d m h ∧ waiS C T p d m h ≤ 29 :=
  waitS_b (sayS_b1 T _ _ _ _ _ _) (hC.2.2.2.2 p hp).2.1
theorem okE_B {C : CD} (hC : okC C) {T : TX} {d : Nat} (hd : d < (stdS C).length) {m h : Int} (hm : 0 ≤ m ∧ m ≤ 60) (hh : 0 ≤ h ∧ h ≤ 99) {E : CD} (hE : okE C d E) : okE C (d + 1) (evB C T (atS C d) d m h E) := by
  have hp := (stdS_mem.mp (atS_ok hd).1).1
  have mb := minS_b hC T hp (d := d) (m := m) hh
  have ob := offS_b hC T hp (d := d) (m := m) hh
  obtain ⟨e1, e2, e3, e4, e5, e6⟩ := hE
  obtain ⟨f0, f1, f2, f3, f4⟩ := @evB_0 C T (atS C d) d m h E
  obtain ⟨g1, g2, g3, g4⟩ := @evB_p C T (atS C d) d m h E
  refine ⟨by rw [f4, e1]; rfl, fun _ => ⟨by rw [f1]; rfl, by rw [f2, Nat.add_sub_cancel, g1]⟩, fun h => by omega, by rw [f0]; omega, by rw [f3]; omega, fun p => ?_⟩
  by_cases hpp : p = atS C d
  · subst hpp
    rw [g1, g2, g3, g4]
    omega
  · obtain ⟨k1, k2, k3, k4⟩ := @evB_q C T (atS C d) p d m h E hpp
    rw [k1, k2, k3, k4]
    exact e6 p
theorem ev0_ok (C : CD) : okE C 0 ev0 := by
  refine ⟨rfl, fun h => by omega, fun _ => ⟨rfl, rfl⟩, ⟨by decide, by decide⟩, ⟨by decide, by decide⟩, fun p => ?_⟩
  have h1 : ev0 1 p = -1 := rfl
  have h2 : ev0 2 p = -1 := rfl
  have h3 : ev0 3 p = -6000 := rfl
  have h4 : ev0 4 p = -6000 := rfl
  rw [h1, h2, h3, h4]; omega
theorem evs_ok {C : CD} (hC : okC C) (T : TX) : ∀ (r d : Nat) (m h : Int) (E : CD), d + r = (stdS C).length → 0 ≤ m → (0 ≤ h ∧ h ≤ 99) → okE C d E → ∃ b, b ≤ (stdS C).length ∧ okE C b (evs C T r d m h E)
  | 0, d, m, h, E, hr, _, _, hE => ⟨d, by omega, hE⟩
  | r + 1, d, m, h, E, hr, hm, hh, hE => by
    unfold evs
    by_cases h60 : 60 < m
    · rw [if_pos h60]; exact ⟨d, by omega, hE⟩
    · rw [if_neg h60]
      have hd : d < (stdS C).length := by omega
      have hp := (stdS_mem.mp (atS_ok hd).1).1
      have wb := waiS_b hC T hp (d := d) (m := m) (h := h)
      exact evs_ok hC T r (d + 1) _ _ _ (by omega) (by omega) (coolS_b T _ _ _ _ hh) (okE_B hC hd (by omega) hh hE)
theorem evn_ok {C : CD} (hC : okC C) (T : TX) : ∃ b, b ≤ (stdS C).length ∧ okE C b (evn C T) := evs_ok hC T _ 0 0 _ _ (by omega) (by omega) hC.2.2.1 (ev0_ok C)
theorem x_cool {F N : Nat} {ln : Nat → Nat} {k t : Nat} {T : TX} (hc : congT T) {K : Int32 → Int32 → Int32 → Sg → Option (Sg × Int32)} {d : Nat} : ∀ (w : Nat) (m h : Int) (σ : Sg) (n : Nat), w < n → (0 ≤ m ∧ m + w ≤ 200) → (0 ≤ h ∧ h ≤ 99) → semX F N ln t T σ → (σ 23 3 = iI 0 ∧ σ 23 4 = iI 0 ∧ σ 23 5 = iI 0) →
    ∃ (σ' : Sg) (hX mX : Int), g_X2_serve_l89 F N ln k t K (iI (d : Int)) (iI (m + w)) n (iI h) (iI m) σ = K (iI hX) (iI mX) (iI ((d : Int) + 1)) σ' ∧ (∀ a, a ≠ 23 → a ≠ 24 → σ' a = σ a) ∧ ((m + w ≤ 60 ∧ mX = m + w ∧ hX = coolS T d w m h) ∨ (60 < m + w ∧ 60 < mX ∧ mX ≤ m + w) ∨ w = 0 ∧ mX = m ∧ hX = h) := by
  intro w
  induction w with
  | zero =>
    intro m h σ n hn hm hh hT hz
    obtain ⟨n, rfl⟩ : ∃ q, n = q + 1 := ⟨n - 1, by omega⟩
    rw [g_X2_serve_l89]
    unfold g_X2_serve_b127
    refine ⟨σ, h, m, ?_, fun _ _ _ => rfl, Or.inr (Or.inr ⟨rfl, rfl, rfl⟩)⟩
    have e : m + ((0 : Nat) : Int) = m := by omega
    rw [e, if_pos (by rw [iI_le (by omega) (by omega)]; omega), li_1, iI_add]
  | succ w ih =>
    intro m h σ n hn hm hh hT hz
    obtain ⟨n, rfl⟩ : ∃ q, n = q + 1 := ⟨n - 1, by omega⟩
    rw [g_X2_serve_l89]
    unfold g_X2_serve_b127
    rw [if_neg (by rw [iI_le (by omega) (by omega)]; omega)]
    by_cases h60 : 60 < m
    · refine ⟨σ, h, m, ?_, fun _ _ _ => rfl, Or.inr (Or.inl (by omega))⟩
      rw [if_pos (by rw [li_60, iI_lt (by omega) (by omega)]; omega), li_1, iI_add]
    · rw [if_neg (by rw [li_60, iI_lt (by omega) (by omega)]; omega)]
      obtain ⟨s1, e1, f1, z3, z4, z5⟩ := x_says hT hc (part := 0) (by omega) (h := h) (m := m) (d := d) hz.1 hz.2.1 hz.2.2
      have e1 : g_X2_says F N ln t 0 (iI h) (iI m) (iI (d : Int)) σ = some (s1, iI (sayS T 0 h m d 0 0 0)) := e1
      have sb := sayS_b T 0 h m d 0 0 0
      rw [e1, bnI_s, iI_sub, li_0, mxI_i (by omega) (by omega), li_1, iI_add]
      have T1 : semX F N ln t T s1 := semX_of hT (fun a ha => f1 a (by omega) (by omega))
      have ee : (if 0 < h - sayS T 0 h m d 0 0 0 then h - sayS T 0 h m d 0 0 0 else 0) = (if h - sayS T 0 h m d 0 0 0 < 0 then 0 else h - sayS T 0 h m d 0 0 0) := by split <;> split <;> omega
      rw [ee]
      obtain ⟨s2, hX, mX, e2, f2, g2⟩ := ih (m + 1) (if h - sayS T 0 h m d 0 0 0 < 0 then 0 else h - sayS T 0 h m d 0 0 0) s1 n (by omega) (by omega) (by split <;> omega) T1 ⟨z3, z4, z5⟩
      have e3 : m + ((w + 1 : Nat) : Int) = m + 1 + (w : Int) := by omega
      refine ⟨s2, hX, mX, ?_, fun a h1 h2 => by rw [f2 a h1 h2, f1 a h1 h2], ?_⟩
      · rw [e3]; exact e2
      · rw [e3]
        rcases g2 with ⟨g1, g2, g3⟩ | g2 | ⟨g1, g2, g3⟩
        · exact Or.inl ⟨g1, g2, g3⟩
        · exact Or.inr (Or.inl g2)
        · subst g1
          by_cases h61 : m + 1 ≤ 60
          · exact Or.inl ⟨by omega, by omega, g3⟩
          · exact Or.inr (Or.inl (by omega))
def evR (C : CD) (E : CD) (σ : Sg) : Prop := σ 16 8 = iI ((stdS C).length : Int) ∧ σ 16 9 = iI (E 0 4) ∧ σ 16 10 = iI (E 0 0) ∧ (∀ d, d < (stdS C).length → σ 17 d = iI (atS C d : Int)) ∧ ∀ p, p < cN C → σ 18 p = iI (downS C p : Int) ∧ σ 19 p = iI (E 1 p) ∧ σ 20 p = iI (E 2 p) ∧ (E 1 p ≠ -1 → σ 21 p = iI (E 3 p) ∧ σ 22 p = iI (E 4 p))
theorem evR_of {C E : CD} {σ σ' : Sg} (h : evR C E σ) (e : ∀ a, 16 ≤ a → a ≤ 22 → σ' a = σ a) : evR C E σ' := by
  unfold evR at h ⊢
  rw [e 16 (by omega) (by omega), e 17 (by omega) (by omega), e 18 (by omega) (by omega), e 19 (by omega) (by omega), e 20 (by omega) (by omega), e 21 (by omega) (by omega), e 22 (by omega) (by omega)]
  exact h
theorem x_loop {F N : Nat} {ln : Nat → Nat} (hF : 100 ≤ F) {k t : Nat} (hk : isCt k) {C : CD} (hC : okC C) {σ0 : Sg} (hR : courtR C σ0 k) {T : TX} (hT : semX F N ln t T σ0) (hc : congT T) : ∀ (r d : Nat) (m h mX hX : Int) (E : CD) (σ : Sg) (n : Nat), d + r = (stdS C).length → r < n → (∀ a, a < 16 ∨ 24 < a → σ a = σ0 a) → evR C E σ → (r = 0 ∨ ((0 ≤ m ∧ m ≤ 60) ∧ mX = m ∧ hX = h ∧ (0 ≤ h ∧ h ≤ 99)) ∨ (60 < m ∧ 60 < mX ∧ mX ≤ 1000)) →
    ∃ σ', g_X2_serve_l26 F N ln k t n (iI hX) (iI mX) (iI (d : Int)) σ = some (σ', iI (evs C T r d m h E 0 0)) ∧ (∀ a, a < 16 ∨ 24 < a → σ' a = σ0 a) ∧ evR C (evs C T r d m h E) σ' := by
  intro r
  have hn := okC_n hC
  have hk' := kct hk
  have sl := stdS_len C
  induction r with
  | zero =>
    intro d m h mX hX E σ n hr hrn hf hE _
    obtain ⟨n, rfl⟩ : ∃ q, n = q + 1 := ⟨n - 1, by omega⟩
    rw [g_X2_serve_l26, if_pos (by rw [hE.1, iI_le (by omega) (by omega)]; omega)]
    exact ⟨σ, by rw [hE.2.2.1]; rfl, hf, hE⟩
  | succ r ih =>
    intro d m h mX hX E σ n hr hrn hf hE hcond
    obtain ⟨n, rfl⟩ : ∃ q, n = q + 1 := ⟨n - 1, by omega⟩
    have hd : d < (stdS C).length := by omega
    rw [g_X2_serve_l26, if_neg (by rw [hE.1, iI_le (by omega) (by omega)]; omega)]
    unfold evs
    rcases hcond with h0 | ⟨hm, rfl, rfl, hh⟩ | h60
    · omega
    · rw [if_neg (by rw [li_60, iI_lt (by omega) (by omega)]; omega), if_neg (by omega)]
      obtain ⟨hps, hdn⟩ := atS_ok hd
      have hp := (stdS_mem.mp hps).1
      have wb := waiS_b hC T hp (d := d) (m := mX) (h := hX)
      have Rs : courtR C σ k := courtR_of hR (fun a h1 h2 => hf a (by omega))
      have Ts : semX F N ln t T σ := semX_of hT (fun a ha => hf a (by omega))
      obtain ⟨s2, e2, f2, a17, a18, a19, a20, a21, a22, c8, c9, c10⟩ := x_begin hk hC Rs Ts hc hp (d := d) (m := mX) (by rw [(hE.2.2.2.2 _ hp).1, hdn]) hh
      rw [rdA_i (by omega), Int.toNat_natCast, hE.2.2.2.1 d hd, e2, bnI_s, c8, hE.1]
      have fr2 : ∀ a, a < 16 ∨ 24 < a → s2 a = σ0 a := fun a ha => by rw [f2 a ha, hf a ha]
      have ER2 : evR C (evB C T (atS C d) d mX hX E) s2 := by
        obtain ⟨f0, -, -, -, f4⟩ := @evB_0 C T (atS C d) d mX hX E
        refine ⟨by rw [c8, hE.1], by rw [c9, hE.2.1, f4, iI_add], by rw [c10, hE.2.2.1, f0, iI_add], fun x hx => by rw [a17]; exact hE.2.2.2.1 x hx, fun p hpn => ?_⟩
        obtain ⟨g1, g2, g3, g4⟩ := hE.2.2.2.2 p hpn
        rw [a18, a19, a20, a21, a22]
        by_cases hpp : p = atS C d
        · subst hpp
          obtain ⟨k1, k2, k3, k4⟩ := @evB_p C T (atS C d) d mX hX E
          rw [k1, k2, k3, k4, g1]
          exact ⟨rfl, by simp [upd], by simp [upd], fun _ => ⟨by simp [upd], by simp [upd]⟩⟩
        · obtain ⟨k1, k2, k3, k4⟩ := @evB_q C T (atS C d) p d mX hX E hpp
          rw [k1, k2, k3, k4]
          exact ⟨g1, by simp [upd, hpp, g2], by simp [upd, hpp, g3], fun hx => ⟨by simp [upd, hpp, (g4 hx).1], by simp [upd, hpp, (g4 hx).2]⟩⟩
      have T2 : semX F N ln t T s2 := semX_of hT (fun a ha => fr2 a (by omega))
      obtain ⟨s3, e3, f3, z3, z4, z5⟩ := x_speakN (F := F) (N := N) (ln := ln) hk (σ := s2)
      have T3 : semX F N ln t T s3 := semX_of T2 (fun a ha => f3 a (by omega))
      have e3 : g_X2_speakOf F N ln k (-1) s2 = some s3 := e3
      rw [li_1, iI_add]
      unfold g_X2_serve_b81
      by_cases hlast : r = 0
      · subst hlast
        rw [if_pos (by rw [iI_le (by omega) (by omega)]; omega), e3, bnV_s]
        obtain ⟨s4, hX4, mX4, e4, f4, -⟩ := x_cool (k := k) hc (K := fun v3_ v4_ v5_ σ_ => g_X2_serve_l26 F N ln k t n v3_ v4_ v5_ σ_) (d := d) 0 mX hX s3 F (by omega) (by omega) hh T3 ⟨z3, z4, z5⟩
        have e4 : g_X2_serve_l89 F N ln k t (fun v3_ v4_ v5_ σ_ => g_X2_serve_l26 F N ln k t n v3_ v4_ v5_ σ_) (iI (d : Int)) (iI mX) F (iI hX) (iI mX) s3 = g_X2_serve_l26 F N ln k t n (iI hX4) (iI mX4) (iI ((d : Int) + 1)) s4 := by rw [← e4, show mX + ((0 : Nat) : Int) = mX by omega]
        rw [e4]
        exact ih (d + 1) _ _ mX4 hX4 _ s4 n (by omega) (by omega) (fun a ha => by rw [f4 a (by omega) (by omega), f3 a (by omega), fr2 a ha]) (evR_of ER2 (fun a h1 h2 => by rw [f4 a (by omega) (by omega), f3 a (by omega)])) (Or.inl rfl)
      · rw [if_neg (by rw [iI_le (by omega) (by omega)]; omega), e3, bnV_s, iI_add]
        obtain ⟨s4, hX4, mX4, e4, f4, g4⟩ := x_cool (k := k) hc (K := fun v3_ v4_ v5_ σ_ => g_X2_serve_l26 F N ln k t n v3_ v4_ v5_ σ_) (d := d) (waiS C T (atS C d) d mX hX).toNat mX hX s3 F (by omega) (by omega) hh T3 ⟨z3, z4, z5⟩
        have ew : ((waiS C T (atS C d) d mX hX).toNat : Int) = waiS C T (atS C d) d mX hX := by omega
        rw [ew] at e4 g4
        rw [e4]
        refine ih (d + 1) _ _ mX4 hX4 _ s4 n (by omega) (by omega) (fun a ha => by rw [f4 a (by omega) (by omega), f3 a (by omega), fr2 a ha]) (evR_of ER2 (fun a h1 h2 => by rw [f4 a (by omega) (by omega), f3 a (by omega)])) (Or.inr ?_)
        rcases g4 with ⟨g1, g2, g3⟩ | g1 | ⟨g1, g2, g3⟩
        · exact Or.inl ⟨by omega, by omega, g3, coolS_b T _ _ _ _ hh⟩
        · exact Or.inr (by omega)
        · have hw0 : waiS C T (atS C d) d mX hX = 0 := by omega
          refine Or.inl ⟨by omega, by omega, ?_, ?_⟩
          · rw [g1, g3]; rfl
          · rw [g1]; exact hh
    · rw [if_pos (by rw [li_60, iI_lt (by omega) (by omega)]; omega), if_pos h60.1]
      exact ⟨σ, by rw [hE.2.2.1], hf, hE⟩
theorem x_serve2 {F N : Nat} {ln : Nat → Nat} (hF : 100 ≤ F) {k t : Nat} (hk : isCt k) {C : CD} (hC : okC C) {σ : Sg} (hR : courtR C σ k) {T : TX} (hT : semX F N ln t T σ) (hc : congT T) : ∃ σ', g_X2_serve F N ln k t σ = some (σ', iI (evn C T 0 0)) ∧ (∀ a, a < 16 ∨ 24 < a → σ' a = σ a) ∧ evR C (evn C T) σ' := by
  have hk' := kct hk
  have hn := okC_n hC
  have sl := stdS_len C
  obtain ⟨s1, e1, f1, c8, c18, c17⟩ := x_lineUp (F := F) (N := N) (ln := ln) hF hk hC hR
  unfold g_X2_serve
  rw [e1, bnV_s, wrF_i, wrF_i]
  generalize hs4 : st (st s1 16 9 0) 16 10 0 = s4
  have a4 : ∀ a, a ≠ 16 → s4 a = s1 a := fun a ha => by funext b; rw [← hs4, st_k ha, st_k ha]
  have fr : ∀ a, a < 16 ∨ 24 < a → s4 a = σ a := fun a ha => by rw [a4 a (by omega), f1 a (by omega)]
  have E0 : evR C ev0 s4 := by
    refine ⟨by rw [← hs4, st_j (by omega), st_j (by omega), c8], by rw [← hs4, st_j (by omega), st_e]; rfl, by rw [← hs4, st_e]; rfl, fun d hd => by rw [a4 17 (by omega)]; exact c17 d hd, fun p hp => ?_⟩
    rw [a4 18 (by omega), a4 19 (by omega), a4 20 (by omega)]
    exact ⟨(c18 p hp).1, (c18 p hp).2.1, (c18 p hp).2.2, fun h => absurd rfl h⟩
  obtain ⟨s5, e5, f5, g5⟩ := x_loop hF hk hC hR hT hc (stdS C).length 0 0 (C 0 2) 0 (C 0 2) ev0 s4 F (by omega) (by omega) fr E0 (Or.inr (Or.inl ⟨by omega, rfl, rfl, hC.2.2.1⟩))
  have h2 : s4 k 2 = iI (C 0 2) := by rw [fr k (by omega)]; exact hR.2.2.1
  rw [h2]
  exact ⟨s5, e5, f5, g5⟩
theorem x_lawOf {F N : Nat} {ln : Nat → Nat} {k t : Nat} {σ : Sg} (hN : σ 0 8 = iI (N : Int)) (h6 : N ≤ 6) (ht : t < N) (hl : σ k 3 = iI (t : Int)) : g_X6_lawOf F N ln k σ = some (σ, t) := by
  unfold g_X6_lawOf g_X6_lawOf_b33
  rw [hN, hl, li_1, iI_sub, li_0, x_within (by omega) (by omega) (by omega), if_pos (by omega), bnI_s, if_neg (by decide), hl]
  unfold rdT
  rw [if_neg, iI_cl (by omega), Int.toNat_natCast]
  rw [iI_cl (by omega), li_0, iI_lt (by omega) (by omega)]
  omega
theorem x_serve {F N : Nat} {ln : Nat → Nat} (hF : 100 ≤ F) {k t : Nat} (hk : isCt k) {C : CD} (hC : okC C) {σ : Sg} (hR : courtR C σ k) {T : TX} (hT : semX F N ln t T σ) (hc : congT T) (hN : σ 0 8 = iI (N : Int)) (h6 : N ≤ 6) (ht : t < N) (hl : σ k 3 = iI (t : Int)) : ∃ σ', g_X6_serve F N ln k σ = some (σ', iI (evn C T 0 0)) ∧ (∀ a, a < 16 ∨ 24 < a → σ' a = σ a) ∧ evR C (evn C T) σ' := by
  obtain ⟨s1, e1, f1, g1⟩ := x_serve2 (F := F) (N := N) (ln := ln) hF hk hC hR hT hc
  unfold g_X6_serve
  rw [x_lawOf hN h6 ht hl, bnT_s ht, e1, bnI_s]
  exact ⟨s1, rfl, f1, g1⟩
