/-! the reference reads, signs held back -/
def encH (c : Int) : Int := if c = 0 then 0 else encM c
def stkH (σ : Sg) : List Int → Prop
  | [] => True
  | s :: S => σ 14 S.length = iI (encH s) ∧ (s = 0 ∨ (-15 ≤ s ∧ s ≤ -7)) ∧ stkH σ S
theorem stkH_of {σ τ : Sg} : ∀ (S : List Int), (∀ j, j < S.length → τ 14 j = σ 14 j) → stkH σ S → stkH τ S
  | [], _, _ => trivial
  | s :: S, h, ⟨a, b, c⟩ => ⟨by rw [h _ (by rw [List.length_cons]; omega)]; exact a, b, stkH_of S (fun j hj => h j (by rw [List.length_cons]; omega)) c⟩
def pnS (T a j : Nat) : Prop := (a = 0 ∧ 25 ≤ j ∧ j ≤ 27) ∨ a = 14 ∨ (a = 5 ∧ 200 * T ≤ j ∧ j < 200 * T + 200)
def ivM (B : Nat → Int) (tl T q : Nat) (S out : List Int) (σ : Sg) : Prop := tpM B tl σ ∧ (σ 0 10 = iI (T : Int) ∧ T < 6) ∧ σ 0 19 = iI (q : Int) ∧ σ 0 25 = iI ((S.length : Nat) : Int) ∧ stkH σ S ∧ σ 0 26 = iI ((opnS S : Nat) : Int) ∧ σ 0 27 = iI ((out.length : Nat) : Int) ∧ (∀ i, i < out.length → σ 5 (200 * T + i) = iI (encM (out.getD i 0))) ∧ out.length + S.length ≤ q ∧ q ≤ tl
theorem rk_enc : ∀ k, k < 16 → (k = 0 ∨ 7 ≤ k) → (rkS (-((k : Nat) : Int)) ≤ 7) ∧ (∀ σ, g_X7_rank 0 (iI (encH (-((k : Nat) : Int)))) σ = some (σ, iI ((rkS (-((k : Nat) : Int)) : Nat) : Int))) := by
  intro k hk h
  rcases (show k = 0 ∨ k = 7 ∨ k = 8 ∨ k = 9 ∨ k = 10 ∨ k = 11 ∨ k = 12 ∨ k = 13 ∨ k = 14 ∨ k = 15 by omega) with rfl | rfl | rfl | rfl | rfl | rfl | rfl | rfl | rfl | rfl <;> exact ⟨by decide, fun σ => rfl⟩
theorem m_rank {F : Nat} {c : Int} (h : c = 0 ∨ (-15 ≤ c ∧ c ≤ -7)) {σ : Sg} : rkS c ≤ 7 ∧ g_X7_rank F (iI (encH c)) σ = some (σ, iI ((rkS c : Nat) : Int)) := by
  obtain ⟨k, rfl⟩ : ∃ k : Nat, c = -((k : Nat) : Int) := ⟨(-c).toNat, by omega⟩
  have r := rk_enc k (by omega) (by omega)
  exact ⟨r.1, r.2 σ⟩
theorem m_puts {F : Nat} {B : Nat → Int} {tl T q q2 : Nat} {S out : List Int} {σ : Sg} (h : ivM B tl T q S out σ) {c : Int} (hl : out.length + 1 + S.length ≤ q2) (h2 : q2 = q) : ∃ τ, g_X7_puts F (iI (encM c)) σ = some τ ∧ frP (pnS T) σ τ ∧ ivM B tl T q S (out ++ [c]) τ := by
  subst h2
  obtain ⟨h1, ⟨h2, h2'⟩, h3, h4, h5, h6, h7, h8, h9, h10⟩ := h
  have t1 := h1.1
  unfold g_X7_puts
  rw [h2, h7, li_200, iI_mul, iI_add, wrA_i (by omega), wrF_i, st_k (by omega), h7, li_1, iI_add, show (200 * (T : Int) + ((out.length : Nat) : Int)).toNat = 200 * T + out.length by omega]
  have fr : frP (pnS T) σ (st (st σ 5 (200 * T + out.length) (iI (encM c))) 0 27 (iI (((out.length : Nat) : Int) + 1))) := frP_s (frP_s (frP_r _ σ) (Or.inr (Or.inr ⟨rfl, by omega, by omega⟩))) (Or.inl ⟨rfl, by omega, by omega⟩)
  have t0 : ∀ a j, a ≠ 5 → ¬ (a = 0 ∧ j = 27) → (st (st σ 5 (200 * T + out.length) (iI (encM c))) 0 27 (iI (((out.length : Nat) : Int) + 1))) a j = σ a j := by
    intro a j ha hj
    by_cases e : a = 0
    · subst e; rw [st_j (fun q => hj ⟨rfl, q⟩), st_k ha]
    · rw [st_k e, st_k ha]
  refine ⟨_, rfl, fr, tpM_of h1 fr (fun a j w => by unfold pnS at w; omega), ⟨by rw [t0 0 10 (by omega) (by omega)]; exact h2, h2'⟩, by rw [t0 0 19 (by omega) (by omega)]; exact h3, by rw [t0 0 25 (by omega) (by omega)]; exact h4, stkH_of S (fun j _ => t0 14 j (by omega) (by omega)) h5, by rw [t0 0 26 (by omega) (by omega)]; exact h6, ?_, fun i hi => ?_, ?_, h10⟩
  · rw [st_e, List.length_append, List.length_singleton]; rfl
  · rw [List.length_append, List.length_singleton] at hi
    rw [st_k (by omega), List.getD_eq_getElem?_getD]
    by_cases e : i = out.length
    · subst e; rw [st_e, List.getElem?_append_right (Nat.le_refl _), Nat.sub_self]; rfl
    · rw [st_j (by omega), List.getElem?_append_left (by omega), ← List.getD_eq_getElem?_getD]; exact h8 i (by omega)
  · rw [List.length_append, List.length_singleton]; omega
theorem m_holds {F : Nat} {B : Nat → Int} {tl T q : Nat} {S out : List Int} {σ : Sg} (h : ivM B tl T q S out σ) {c : Int} (hc : -15 ≤ c ∧ c ≤ -9) (hl : out.length + S.length + 1 ≤ q) : ∃ τ, g_X7_holds F (iI (encM c)) σ = some τ ∧ frP (pnS T) σ τ ∧ ivM B tl T q (c :: S) out τ := by
  obtain ⟨h1, ⟨h2, h2'⟩, h3, h4, h5, h6, h7, h8, h9, h10⟩ := h
  have t1 := h1.1
  unfold g_X7_holds
  rw [h4, wrA_i (by omega), wrF_i, st_k (by omega), h4, li_1, iI_add, Int.toNat_natCast]
  have fr : frP (pnS T) σ (st (st σ 14 S.length (iI (encM c))) 0 25 (iI (((S.length : Nat) : Int) + 1))) := frP_s (frP_s (frP_r _ σ) (Or.inr (Or.inl rfl))) (Or.inl ⟨rfl, by omega, by omega⟩)
  have t0 : ∀ a j, a ≠ 14 → ¬ (a = 0 ∧ j = 25) → (st (st σ 14 S.length (iI (encM c))) 0 25 (iI (((S.length : Nat) : Int) + 1))) a j = σ a j := by
    intro a j ha hj
    by_cases e : a = 0
    · subst e; rw [st_j (fun q => hj ⟨rfl, q⟩), st_k ha]
    · rw [st_k e, st_k ha]
  refine ⟨_, rfl, fr, tpM_of h1 fr (fun a j w => by unfold pnS at w; omega), ⟨by rw [t0 0 10 (by omega) (by omega)]; exact h2, h2'⟩, by rw [t0 0 19 (by omega) (by omega)]; exact h3, ?_, ⟨?_, Or.inr (by omega), stkH_of S (fun j hj => by rw [st_k (by omega), st_j (by omega)]) h5⟩, ?_, by rw [t0 0 27 (by omega) (by omega)]; exact h7, fun i hi => by rw [t0 5 _ (by omega) (by omega)]; exact h8 i hi, by rw [List.length_cons]; omega, h10⟩
  · rw [st_e, List.length_cons]; rfl
  · rw [st_k (by omega), st_e, encH, if_neg (by omega)]
  · rw [t0 0 26 (by omega) (by omega), h6, op_n hc]
theorem m_opens {F : Nat} {B : Nat → Int} {tl T q : Nat} {S out : List Int} {σ : Sg} (h : ivM B tl T q S out σ) {c : Int} (hc : c = 0 ∨ c = -7 ∨ c = -8) (hl : out.length + S.length + 1 ≤ q) : (opnS S = 5 ∧ g_X7_opensOne F (iI (encH c)) σ = some (σ, 0)) ∨ (opnS S ≠ 5 ∧ ∃ τ, g_X7_opensOne F (iI (encH c)) σ = some (τ, 1) ∧ frP (pnS T) σ τ ∧ ivM B tl T q (c :: S) out τ) := by
  obtain ⟨h1, ⟨h2, h2'⟩, h3, h4, h5, h6, h7, h8, h9, h10⟩ := h
  have t1 := h1.1
  have ob : ∀ S : List Int, opnS S ≤ S.length := by
    intro S
    induction S with
    | nil => exact Nat.le_refl _
    | cons s S ih => rw [opnS, List.length_cons]; split <;> omega
  have ob := ob S
  unfold g_X7_opensOne g_X7_holds
  rw [h6, li_5, ite_eq (by omega) (by omega)]
  by_cases e : opnS S = 5
  · rw [if_pos (by omega)]; exact Or.inl ⟨e, rfl⟩
  · rw [if_neg (by omega), wrF_i, st_j (by omega), h4, wrA_i (by omega), wrF_i, li_1, iI_add, st_k (by omega), st_j (by omega), h4, iI_add, bnV_s, Int.toNat_natCast]
    have fr : frP (pnS T) σ (st (st (st σ 0 26 (iI (((opnS S : Nat) : Int) + 1))) 14 S.length (iI (encH c))) 0 25 (iI (((S.length : Nat) : Int) + 1))) := frP_s (frP_s (frP_s (frP_r _ σ) (Or.inl ⟨rfl, by omega, by omega⟩)) (Or.inr (Or.inl rfl))) (Or.inl ⟨rfl, by omega, by omega⟩)
    have t0 : ∀ a j, a ≠ 14 → ¬ (a = 0 ∧ (j = 25 ∨ j = 26)) → (st (st (st σ 0 26 (iI (((opnS S : Nat) : Int) + 1))) 14 S.length (iI (encH c))) 0 25 (iI (((S.length : Nat) : Int) + 1))) a j = σ a j := by
      intro a j ha hj
      by_cases e : a = 0
      · subst e; rw [st_j (fun q => hj ⟨rfl, Or.inl q⟩), st_k ha, st_j (fun q => hj ⟨rfl, Or.inr q⟩)]
      · rw [st_k e, st_k ha, st_k e]
    refine Or.inr ⟨e, _, rfl, fr, tpM_of h1 fr (fun a j w => by unfold pnS at w; omega), ⟨by rw [t0 0 10 (by omega) (by omega)]; exact h2, h2'⟩, by rw [t0 0 19 (by omega) (by omega)]; exact h3, ?_, ⟨?_, by omega, stkH_of S (fun j hj => by rw [st_k (by omega), st_j (by omega), st_k (by omega)]) h5⟩, ?_, by rw [t0 0 27 (by omega) (by omega)]; exact h7, fun i hi => by rw [t0 5 _ (by omega) (by omega)]; exact h8 i hi, by rw [List.length_cons]; omega, h10⟩
    · rw [st_e, List.length_cons]; rfl
    · rw [st_k (by omega), st_e]
    · rw [st_j (by omega), st_k (by omega), st_e, opnS, if_pos hc]; rfl
theorem m_unw {F : Nat} {B : Nat → Int} {tl T q r : Nat} (hr : 1 ≤ r ∧ r ≤ 7) : ∀ (S out : List Int) (n : Nat) (σ : Sg), S.length < n → ivM B tl T q S out σ → ∃ τ, g_X7_unwinds_l0 F (iI (r : Int)) n σ = some τ ∧ frP (pnS T) σ τ ∧ ivM B tl T q (unS r S out).1 (unS r S out).2 τ
  | [], out, n, σ, hn, h => by
    obtain ⟨n, rfl⟩ : ∃ q, n = q + 1 := ⟨n - 1, by omega⟩
    refine ⟨σ, ?_, frP_r _ σ, h⟩
    rw [g_X7_unwinds_l0, h.2.2.2.1, if_pos (by decide)]
  | s :: S, out, n, σ, hn, h => by
    obtain ⟨n, rfl⟩ : ∃ q, n = q + 1 := ⟨n - 1, by omega⟩
    obtain ⟨h1, ⟨h2, h2'⟩, h3, h4, ⟨h5, h5', h5''⟩, h6, h7, h8, h9, h10⟩ := id h
    have t1 := h1.1
    rw [List.length_cons] at hn h4 h9
    have e0 : ((S.length + 1 : Nat) : Int) - 1 = ((S.length : Nat) : Int) := by omega
    have rk := m_rank (F := F) (σ := σ) h5'
    rw [g_X7_unwinds_l0, h4, li_0, if_neg (by rw [iI_le (by omega) (by omega)]; omega), li_1, iI_sub, e0, rdA_i (by omega), Int.toNat_natCast, h5, rk.2, bnI_s, ite_lt (by omega) (by omega)]
    by_cases w : rkS s < r
    · rw [if_pos (by omega), un_id (by rw [hdR_c]; exact w)]
      exact ⟨σ, rfl, frP_r _ σ, h⟩
    · rw [if_neg (by omega), un_pop (by omega), wrF_i, h4, iI_sub, e0, st_e, rdA_i (by omega), Int.toNat_natCast, st_k (by omega), h5, st_j (show (26 : Nat) ≠ 25 by omega), h6]
      have s0 : s ≠ 0 := fun q => by rw [q] at w; exact w (by show 0 < r; omega)
      have go : ∀ u : Int, (u = if s = -7 ∨ s = -8 then 1 else 0) → ∃ τ, g_X7_unwinds_b67 F (fun σ_ => g_X7_unwinds_l0 F (iI (r : Int)) n σ_) (iI (r : Int)) (iI (encH s)) (iI u) (iI ((opnS (s :: S) : Nat) : Int)) (st σ 0 25 (iI ((S.length : Nat) : Int))) = some τ ∧ frP (pnS T) σ τ ∧ ivM B tl T q (unS r S (out ++ [s])).1 (unS r S (out ++ [s])).2 τ := by
        intro u hu
        unfold g_X7_unwinds_b67
        have eo : ((opnS (s :: S) : Nat) : Int) - u = ((opnS S : Nat) : Int) := by
          rw [hu, opnS]
          by_cases z : s = -7 ∨ s = -8
          · rw [if_pos z, if_pos (Or.inr z)]; omega
          · rw [if_neg z, if_neg (by omega)]; omega
        rw [iI_sub, eo, wrF_i]
        have fr : frP (pnS T) σ (st (st σ 0 25 (iI ((S.length : Nat) : Int))) 0 26 (iI ((opnS S : Nat) : Int))) := frP_s (frP_s (frP_r _ σ) (Or.inl ⟨rfl, by omega, by omega⟩)) (Or.inl ⟨rfl, by omega, by omega⟩)
        have t0 : ∀ a j, ¬ (a = 0 ∧ (j = 25 ∨ j = 26)) → (st (st σ 0 25 (iI ((S.length : Nat) : Int))) 0 26 (iI ((opnS S : Nat) : Int))) a j = σ a j := by
          intro a j hj
          by_cases e : a = 0
          · subst e; rw [st_j (fun q => hj ⟨rfl, Or.inr q⟩), st_j (fun q => hj ⟨rfl, Or.inl q⟩)]
          · rw [st_k e, st_k e]
        have iv : ivM B tl T q S out (st (st σ 0 25 (iI ((S.length : Nat) : Int))) 0 26 (iI ((opnS S : Nat) : Int))) := ⟨tpM_of h1 fr (fun a j w => by unfold pnS at w; omega), ⟨by rw [t0 0 10 (by omega)]; exact h2, h2'⟩, by rw [t0 0 19 (by omega)]; exact h3, by rw [st_j (by omega), st_e], stkH_of S (fun j _ => t0 14 j (by omega)) h5'', st_e, by rw [t0 0 27 (by omega)]; exact h7, fun i hi => by rw [t0 5 _ (by omega)]; exact h8 i hi, by omega, h10⟩
        have ee : encH s = encM s := if_neg s0
        obtain ⟨τ, e1, f1, i1⟩ := m_puts (F := F) (q2 := q) iv (c := s) (by omega) rfl
        obtain ⟨υ, e2, f2, i2⟩ := m_unw hr S (out ++ [s]) n τ (by omega) i1
        rw [ee, e1, bnV_s]
        exact ⟨υ, e2, frP_t fr (frP_t f1 f2), i2⟩
      unfold g_X7_unwinds_b62
      have q13 : (iI (encH s) = 13) = (s = -8) := by
        have := encM_b (c := s) (by omega)
        rw [encH, if_neg s0, li_13, iI_eq (by omega) (by omega)]
        unfold encM
        apply propext
        repeat' split
        all_goals omega
      have q19 : (iI (encH s) = 19) = (s = -7) := by
        have := encM_b (c := s) (by omega)
        rw [encH, if_neg s0, li_19, iI_eq (by omega) (by omega)]
        unfold encM
        apply propext
        repeat' split
        all_goals omega
      by_cases z8 : s = -8
      · rw [if_pos (by rw [q13]; exact z8)]
        exact go 1 (by rw [if_pos (Or.inr z8)])
      · rw [if_neg (by rw [q13]; exact z8)]
        by_cases z7 : s = -7
        · rw [if_pos (by rw [q19]; exact z7)]
          exact go 1 (by rw [if_pos (Or.inl z7)])
        · rw [if_neg (by rw [q19]; exact z7)]
          exact go 0 (by rw [if_neg (by omega)])
