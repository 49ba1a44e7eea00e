/-! what is best -/
theorem evn_b {C : CD} (hC : okC C) (T : TX) : -54 ≤ evn C T 0 0 ∧ evn C T 0 0 ≤ 1188 := by
  obtain ⟨b, hb, h1, h2, h3, h4, h5, h6⟩ := evn_ok hC T
  have := stdS_len C
  have := okC_n hC
  omega
/-- of all that is weighed, what has the least; of like ones the first -/
def wgS (s : Int × Int) (a b : Int) : Int × Int := if b < s.2 then (a, b) else s
def bcS (f g : Nat → Int) : Nat → Int × Int
  | 0 => (0, 1000000)
  | i + 1 => wgS (bcS f g i) (g i) (f i)
/-- the reference's, which begins with none -/
def mdS (f g : Nat → Int) (i : Nat) : Int × Int := if i = 0 then (-1, 0) else bcS f g i
theorem bcS_b {f g : Nat → Int} {n : Nat} (hf : ∀ i, i < n → -1000 ≤ f i ∧ f i ≤ 2000) (hg : ∀ i, i < n → 0 ≤ g i ∧ g i ≤ 1000000) : ∀ i, i ≤ n → (0 ≤ (bcS f g i).1 ∧ (bcS f g i).1 ≤ 1000000) ∧ (-1000 ≤ (bcS f g i).2 ∧ (bcS f g i).2 ≤ 1000000) ∧ (0 < i → (bcS f g i).2 ≤ 2000)
  | 0, _ => ⟨by simp [bcS], by simp [bcS], fun h => absurd h (by omega)⟩
  | i + 1, hi => by
    have ih := bcS_b hf hg i (by omega)
    have h1 := hf i (by omega)
    have h2 := hg i (by omega)
    unfold bcS wgS
    split
    · exact ⟨h2, by simp only []; omega, fun _ => h1.2⟩
    · rename_i h
      exact ⟨ih.1, ih.2.1, fun _ => by omega⟩
theorem mdS_s {f g : Nat → Int} {n : Nat} (hf : ∀ i, i < n → -1000 ≤ f i ∧ f i ≤ 2000) (hg : ∀ i, i < n → 0 ≤ g i ∧ g i ≤ 1000000) {i : Nat} (hi : i < n) : mdS f g (i + 1) = if (mdS f g i).1 = -1 ∨ f i < (mdS f g i).2 then (g i, f i) else mdS f g i := by
  have h1 := hf i hi
  unfold mdS
  rw [if_neg (by omega)]
  by_cases h : i = 0
  · subst h
    rw [if_pos rfl, if_pos (Or.inl rfl)]
    unfold bcS wgS
    rw [if_pos]
    show f 0 < 1000000
    omega
  · rw [if_neg h, bcS, wgS]
    have ih := (bcS_b hf hg i (by omega)).1
    by_cases h2 : f i < (bcS f g i).2
    · rw [if_pos h2, if_pos (Or.inr h2)]
    · rw [if_neg h2, if_neg]
      rintro (q | q)
      · omega
      · exact h2 q
theorem mdS_b {f g : Nat → Int} {n : Nat} (hf : ∀ i, i < n → -1000 ≤ f i ∧ f i ≤ 2000) (hg : ∀ i, i < n → 0 ≤ g i ∧ g i ≤ 1000000) {i : Nat} (hi : i ≤ n) : (-1 ≤ (mdS f g i).1 ∧ (mdS f g i).1 ≤ 1000000) ∧ (-1000 ≤ (mdS f g i).2 ∧ (mdS f g i).2 ≤ 2000) := by
  unfold mdS
  split
  · simp
  · have := bcS_b hf hg i hi
    omega
theorem x_weigh {F N : Nat} {ln : Nat → Nat} {σ : Sg} {s : Int × Int} {a b : Int} (h0 : σ 25 0 = iI s.1) (h1 : σ 25 1 = iI s.2) (hs : -2147483648 ≤ s.2 ∧ s.2 < 2147483648) (hb : -2147483648 ≤ b ∧ b < 2147483648) : ∃ σ', g_X0_weigh F N ln (iI a) (iI b) σ = some σ' ∧ (∀ k, k ≠ 25 → σ' k = σ k) ∧ σ' 25 0 = iI (wgS s a b).1 ∧ σ' 25 1 = iI (wgS s a b).2 := by
  unfold g_X0_weigh g_X0_begin wgS
  rw [h1, ite_le hs hb]
  by_cases h : b < s.2
  · rw [if_neg (by omega), if_pos h, wrF_i, wrF_i, bnV_s]
    exact ⟨_, rfl, fun k hk => by rw [st_ne _ _ _ hk, st_ne _ _ _ hk], by rw [st_j (by omega), st_e], st_e⟩
  · rw [if_pos (by omega), if_neg h]
    exact ⟨σ, rfl, fun _ _ => rfl, h0, h1⟩
theorem x_bgn {F N : Nat} {ln : Nat → Nat} {σ : Sg} {a b : Int32} : ∃ σ', g_X0_begin F N ln a b σ = some σ' ∧ (∀ k, k ≠ 25 → σ' k = σ k) ∧ σ' 25 0 = a ∧ σ' 25 1 = b := by
  unfold g_X0_begin
  rw [wrF_i, wrF_i]
  exact ⟨_, rfl, fun k hk => by rw [st_ne _ _ _ hk, st_ne _ _ _ hk], by rw [st_j (by omega), st_e], st_e⟩
theorem x_ans {F N : Nat} {ln : Nat → Nat} {σ : Sg} {a w l : Int32} (h0 : σ 25 0 = w) (h1 : σ 25 1 = l) : g_X0_answer F N ln a σ = some (σ, if a = 0 then w else l) := by
  unfold g_X0_answer
  rw [h0, h1]
  split <;> rfl
theorem frX_25 {x y : Sg} (h : ∀ a, a ≠ 25 → y a = x a) : frX x y := ⟨fun a ha => h a (by omega), by rw [h 30 (by omega)]⟩
theorem k_cook {F N : Nat} {ln : Nat → Nat} (hF : 300 ≤ F) {x m : Sg} (h : Rel N ln x m) (a : Int32) : Go N ln (g_X6_cook F N ln a x) (g_X7_cook F a m) := by
  sorry
theorem k_seat {F N : Nat} {ln : Nat → Nat} (hF : 300 ≤ F) {x m : Sg} (h : Rel N ln x m) (a b : Int32) : Go N ln (g_X6_seat F N ln a b x) (g_X7_seat F a b m) := by
  sorry
