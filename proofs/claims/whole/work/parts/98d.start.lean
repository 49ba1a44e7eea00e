/-! both new objects stand alike -/
def B0 : Nat → Int := fun i => (LW7_117.getD i 0).toInt
def C0x : CD := fun a j => if a = 0 then (if j = 2 then 90 else if j = 4 then -1 else 0) else 0
theorem rd_0 : rd3 (tkT B0 30) (tkN B0 30) (tkB B0 30) (tkE B0 30) = .inr ([2], [3], [50]) := by decide +kernel
theorem tp_0 : tpM B0 30 sgM0 := by
  refine ⟨by omega, rfl, fun i hi => ?_, fun i hi => ?_⟩
  · have h : ∀ i, i < 30 → (0 ≤ B0 i ∧ B0 i ≤ 255) ∧ sgM0 4 i = iI (B0 i) := by decide +kernel
    exact h i hi
  · have h : ∀ i, i < 96 → sgM0 13 i = iI (wdL.getD i 0) := by decide +kernel
    exact h i hi
theorem wf_s9 {c : Int} (h : 0 ≤ c ∧ c ≤ 9999) : wfp [c] := by
  refine ⟨fun x hx => ?_, fun d => ?_⟩
  · rw [List.mem_singleton] at hx
    subst hx
    omega
  · show (dp1 c d).bind _ = _
    unfold dp1
    rw [if_pos (by omega)]
    rfl
theorem k_start {F : Nat} (hF : 300 ≤ F) : ∃ m r, g_X7_text F sgM0 = some (m, r) ∧ Rel 1 ln0 sgX0 m := by
  have M := m_text (F := F) (B := B0) (tl := 30) (T := 0) hF tp_0 rfl (by omega)
  rw [rd_0] at M
  obtain ⟨m, e, f, u7, u10, u6, u5⟩ := M
  have gm : ∀ a j, ¬ ((a = 0 ∧ 19 ≤ j ∧ j ≤ 27) ∨ a = 14 ∨ (a = 5 ∧ j < 200) ∨ (a = 6 ∧ j < 4) ∨ (a = 0 ∧ (j = 7 ∨ j = 10))) → m a j = sgM0 a j := fun a j h => f a j (fun w => by unfold ptS pmS at w; exact h (by omega))
  refine ⟨m, _, e, C0x, 0, fun t p => if p = 0 then [2] else if p = 1 then [3] else [50], ⟨?_, by decide, by decide, ⟨rfl, rfl, rfl, rfl, fun p hp => absurd hp (by show ¬ p < 0; omega)⟩, rfl, ?_, ?_, rfl, u10, fun t ht => ?_⟩, ⟨0, by omega, rfl, u7, fun i hi => absurd hi (by omega)⟩, Or.inl ⟨rfl, ?_⟩, fun s hs => ?_, fun i hi => ?_⟩
  · exact ⟨by decide, by decide, by decide, by decide, fun p hp => absurd hp (by show ¬ p < 0; omega)⟩
  · exact ⟨by rw [gm 0 0 (by omega)]; rfl, by rw [gm 0 4 (by omega)]; rfl, by rw [gm 0 5 (by omega)]; rfl, fun p hp => absurd hp (by show ¬ p < 0; omega)⟩
  · rw [gm 0 11 (by omega)]; rfl
  · obtain rfl : t = 0 := by omega
    refine ⟨fun p hp => ?_, rfl, by show 3 ≤ 160; omega, ⟨rfl, rfl, rfl⟩, ⟨u6.1, u6.2.1, u6.2.2.1, u6.2.2.2⟩, fun j hj => ?_, fun j hj => ?_, fun j hj => ?_⟩
    · rcases (show p = 0 ∨ p = 1 ∨ p = 2 by omega) with rfl | rfl | rfl
      · exact wf_s9 (by omega)
      · exact wf_s9 (by omega)
      · exact wf_s9 (by omega)
    · obtain rfl : j = 0 := by have : j < 1 := hj; omega
      exact ⟨rfl, u5 0 (by decide)⟩
    · obtain rfl : j = 0 := by have : j < 1 := hj; omega
      exact ⟨rfl, u5 1 (by decide)⟩
    · obtain rfl : j = 0 := by have : j < 1 := hj; omega
      exact ⟨rfl, u5 2 (by decide)⟩
  · rw [gm 0 12 (by omega)]; rfl
  · refine ⟨-1, 0, by omega, by omega, ⟨?_, ?_⟩, ⟨?_, ?_⟩, fun i hi => ?_⟩
    · rcases (show s = 0 ∨ s = 1 ∨ s = 2 ∨ s = 3 by omega) with rfl | rfl | rfl | rfl <;> rfl
    · rw [gm 9 s (by omega)]
      rcases (show s = 0 ∨ s = 1 ∨ s = 2 ∨ s = 3 by omega) with rfl | rfl | rfl | rfl <;> rfl
    · rcases (show s = 0 ∨ s = 1 ∨ s = 2 ∨ s = 3 by omega) with rfl | rfl | rfl | rfl <;> rfl
    · rw [gm 10 s (by omega)]; rfl
    · rw [gm 11 _ (by omega)]
      rcases (show s = 0 ∨ s = 1 ∨ s = 2 ∨ s = 3 by omega) with rfl | rfl | rfl | rfl <;> rfl
  · rw [gm 13 i (by omega)]
    exact tp_0.2.2.2 i hi
