/-! the calls, one by one -/
theorem k_count {F N : Nat} {ln : Nat → Nat} {x m : Sg} (h : Rel N ln x m) (a : Int32) : Go N ln (g_X6_count F N ln a x) (g_X7_count F a m) := by
  obtain ⟨C, lw, cd, ⟨h1, h2, h3, h4, h5, h6, h7, h8, h9, h10⟩, ⟨tl, t1, t2, t3, t4⟩, hI, hS, hW⟩ := id h
  unfold g_X6_count g_X7_count
  refine go_if Iff.rfl (fun _ => go_v h (h4.1.trans h6.1.symm)) fun _ => ?_
  refine go_if Iff.rfl (fun _ => go_v h (h4.2.1.trans h6.2.1.symm)) fun _ => ?_
  refine go_if Iff.rfl (fun _ => go_v h (h4.2.2.1.trans h6.2.2.1.symm)) fun _ => ?_
  refine go_if Iff.rfl (fun _ => go_v h (h8.trans h9.symm)) fun _ => ?_
  refine go_if Iff.rfl (fun _ => go_v h (h5.trans h7.symm)) fun _ => ?_
  exact go_if Iff.rfl (fun _ => go_v h (t2.trans t3.symm)) fun _ => go_0 h
theorem courtR_1 {C : CD} {x : Sg} (h : courtR C x 1) {v : Int} : courtR (upI C 0 1 v) (st x 1 1 (iI v)) 1 := by
  obtain ⟨a, b, c, d, e⟩ := h
  refine ⟨by simp [st, upI, a], by simp [st, upI], by simp [st, upI, c], by simp [st, upI, d], fun p hp => ?_⟩
  have := e p hp
  simpa [st, upI] using this
theorem courtR_2 {C : CD} {x : Sg} (h : courtR C x 1) {v : Int} : courtR (upI C 0 2 v) (st x 1 2 (iI v)) 1 := by
  obtain ⟨a, b, c, d, e⟩ := h
  refine ⟨by simp [st, upI, a], by simp [st, upI, b], by simp [st, upI], by simp [st, upI, d], fun p hp => ?_⟩
  have := e p hp
  simpa [st, upI] using this
theorem courtM_1 {C : CD} {m : Sg} (h : courtM C m) {v : Int} : courtM (upI C 0 1 v) (st m 0 4 (iI v)) := by
  obtain ⟨a, b, c, e⟩ := h
  refine ⟨by simp [st, upI, a], by simp [st, upI], by simp [st, upI, c], fun p hp => ?_⟩
  have := e p hp
  simpa [st, upI] using this
theorem courtM_2 {C : CD} {m : Sg} (h : courtM C m) {v : Int} : courtM (upI C 0 2 v) (st m 0 5 (iI v)) := by
  obtain ⟨a, b, c, e⟩ := h
  refine ⟨by simp [st, upI, a], by simp [st, upI, b], by simp [st, upI], fun p hp => ?_⟩
  have := e p hp
  simpa [st, upI] using this
theorem okC_1 {C : CD} (h : okC C) {v : Int} (hv : 0 ≤ v ∧ v ≤ 2000) : okC (upI C 0 1 v) := by
  obtain ⟨a, b, c, d, e⟩ := h
  refine ⟨by simpa [upI] using a, by simpa [upI] using hv, by simpa [upI] using c, by simpa [upI] using d, fun p hp => ?_⟩
  have := e p hp
  simpa [upI] using this
theorem okC_2 {C : CD} (h : okC C) {v : Int} (hv : 0 ≤ v ∧ v ≤ 99) : okC (upI C 0 2 v) := by
  obtain ⟨a, b, c, d, e⟩ := h
  refine ⟨by simpa [upI] using a, by simpa [upI] using b, by simpa [upI] using hv, by simpa [upI] using d, fun p hp => ?_⟩
  have := e p hp
  simpa [upI] using this
theorem fcX_s {x : Sg} {k j : Nat} {v : Int32} (h : (1 ≤ k ∧ k ≤ 10) ∨ (16 ≤ k ∧ k ≤ 25) ∨ k = 29 ∨ (32 ≤ k ∧ k ≤ 35)) : fcX x (st x k j v) := ⟨fun a ha => st_ne _ _ _ (by omega), st_k (by omega)⟩
theorem fcY_s {m : Sg} {k j : Nat} {v : Int32} (h : (k = 0 ∧ (j = 0 ∨ j = 4 ∨ j = 5 ∨ j = 11)) ∨ (1 ≤ k ∧ k ≤ 3) ∨ 14 ≤ k) : fcY m (st m k j v) := by
  refine ⟨fun a b h1 h2 => st_k (by omega), fun b h1 h2 h3 h4 h5 => ?_⟩
  by_cases hk : (0 : Nat) = k
  · subst hk; exact st_j (by omega)
  · exact st_k hk
theorem fcX_t {x y z : Sg} (h : fcX x y) (h2 : fcX y z) : fcX x z := ⟨fun a ha => (h2.1 a ha).trans (h.1 a ha), h2.2.trans h.2⟩
theorem fcY_t {x y z : Sg} (h : fcY x y) (h2 : fcY y z) : fcY x z := ⟨fun a j h0 h1 => (h2.1 a j h0 h1).trans (h.1 a j h0 h1), fun j h1 a b c d => (h2.2 j h1 a b c d).trans (h.2 j h1 a b c d)⟩
theorem k_brings {F N : Nat} {ln : Nat → Nat} {x m : Sg} (h : Rel N ln x m) (a v : Int32) : Go N ln (g_X6_brings F N ln a v x) (g_X7_brings F a v m) := by
  obtain ⟨C, lw, cd, hC, hT, hI, hS, hW⟩ := id h
  obtain ⟨h1, h2, h3, h4, h5, h6, h7, h8, h9, h10⟩ := id hC
  obtain ⟨z, hz, rfl⟩ := iI_ex v
  unfold g_X6_brings g_X7_brings
  rw [x_in, y_in, bnI_s, bnI_s, if01, if01]
  refine go_if Iff.rfl (fun q => ?_) fun _ => go_0 h
  refine go_if Iff.rfl (fun e => ?_) fun e => ?_
  · unfold g_X6_brings_b23 g_X7_brings_b23
    rw [x_in, y_in, bnI_s, bnI_s, if01, if01]
    refine go_if Iff.rfl (fun q => ?_) fun _ => go_0 h
    have hv := in_i hz (lo := 0) (hi := 999) (by omega) (by omega) q
    rw [if_pos e, if_pos e]
    unfold g_X6_brings_b53 g_X7_brings_b47
    rw [if_pos e, if_pos e]
    exact go_w (h4.2.1.trans h6.2.1.symm) (Rel_c hC hT hI hS hW (fcX_s (by omega)) (fcY_s (by omega)) (C' := upI C 0 1 z) (okC_1 h1 (by omega)) ⟨by simp [upI]; omega, by simp [upI]; omega⟩ h3.1 (courtR_1 h4) (by simp [st, h5]) (courtM_1 h6) (by simp [st, h7]) ⟨by simp [upI], fun p _ => by simp [upI]⟩)
  · unfold g_X6_brings_b23 g_X7_brings_b23
    rw [x_in, y_in, bnI_s, bnI_s, if01, if01]
    refine go_if Iff.rfl (fun q => ?_) fun _ => go_0 h
    have hv := in_i hz (lo := 0) (hi := 99) (by omega) (by omega) q
    rw [if_neg e, if_neg e]
    unfold g_X6_brings_b53 g_X7_brings_b47
    rw [if_neg e, if_neg e]
    exact go_w (h4.2.2.1.trans h6.2.2.1.symm) (Rel_c hC hT hI hS hW (fcX_s (by omega)) (fcY_s (by omega)) (C' := upI C 0 2 z) (okC_2 h1 (by omega)) ⟨by simp [upI]; omega, by simp [upI]; omega⟩ h3.1 (courtR_2 h4) (by simp [st, h5]) (courtM_2 h6) (by simp [st, h7]) ⟨by simp [upI], fun p _ => by simp [upI]⟩)
theorem k_force {F N : Nat} {ln : Nat → Nat} {x m : Sg} (h : Rel N ln x m) (a : Int32) : Go N ln (g_X6_force F N ln a x) (g_X7_force F a m) := by
  obtain ⟨C, lw, cd, hC, hT, hI, hS, hW⟩ := id h
  obtain ⟨h1, h2, h3, h4, h5, h6, h7, h8, h9, h10⟩ := id hC
  obtain ⟨z, hz, rfl⟩ := iI_ex a
  unfold g_X6_force g_X7_force
  rw [x_in, y_in, bnI_s, bnI_s, if01, if01]
  refine go_if (by rw [h8, h9]) (fun q => ?_) fun _ => go_0 h
  rw [h8, li_1, iI_sub] at q
  have hv := in_i hz (lo := 0) (by omega) (by omega) q
  obtain ⟨t, rfl⟩ : ∃ t : Nat, z = t := ⟨z.toNat, by omega⟩
  refine go_w (h5.trans h7.symm) (Rel_c hC hT hI hS hW (fcX_s (by omega)) (fcY_s (by omega)) (C' := C) (lw' := t) h1 h2 (by omega) ?_ (by simp [st]) ?_ (by simp [st]) ⟨Int.le_refl _, fun _ _ => ⟨rfl, rfl⟩⟩)
  · obtain ⟨a, b, c, d, e⟩ := h4
    exact ⟨by rw [st_j (by omega)]; exact a, by rw [st_j (by omega)]; exact b, by rw [st_j (by omega)]; exact c, by rw [st_j (by omega)]; exact d, fun p hp => by rw [st_k (by omega), st_k (by omega), st_k (by omega), st_k (by omega)]; exact e p hp⟩
  · obtain ⟨a, b, c, e⟩ := h6
    exact ⟨by rw [st_j (by omega)]; exact a, by rw [st_j (by omega)]; exact b, by rw [st_j (by omega)]; exact c, fun p hp => by rw [st_k (by omega), st_k (by omega), st_k (by omega), st_k (by omega)]; exact e p hp⟩
