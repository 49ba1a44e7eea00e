def ptS (T a j : Nat) : Prop := pmS T a j ∨ (a = 6 ∧ 4 * T ≤ j ∧ j < 4 * T + 4) ∨ (a = 0 ∧ (j = 7 ∨ j = 10))
def puS (T a j : Nat) : Prop := pmS T a j ∨ (a = 6 ∧ 4 * T ≤ j ∧ j < 4 * T + 4)
theorem pu_m {T : Nat} {σ τ : Sg} (h : frP (pmS T) σ τ) : frP (puS T) σ τ := frP_w h (fun a j w => Or.inl w)
theorem sy_top {t n : Nat → Int} {g e : Nat → Nat} {tl : Nat} (hs : scnr t n e tl) {q k : Nat} (hq : q ≤ tl) (hk : tl < k + q) (out : List Int) : sy t n g e k true true [] out q = bnR (rdZ t n g e 50 0 0 q) fun q1 c1 => if t q1 = 59 then .inr (e q1, out ++ c1) else .inl (g q1) := by
  have r := rs_all hs (g := g) 50 0 0 q [] out k true (by omega) (by omega) (by omega) rfl hq hk ⟨fun _ => by show 0 < 1; omega, fun w => by omega, fun w => by omega, fun w => by omega, fun w => by omega⟩ (fun _ => rfl) (fun w => by omega)
  cases hr : rdZ t n g e 50 0 0 q with
  | inl f => rw [hr] at r; exact r
  | inr x =>
    rw [hr] at r
    obtain ⟨⟨b1, b2, b3, b4⟩, Z, k', mn, r1, r2, r3, r4⟩ := r
    obtain ⟨k', rfl⟩ : ∃ j, k' = j + 1 := ⟨k' - 1, by omega⟩
    have u1 : unS 1 Z.1 Z.2 = ([], out ++ x.2) := r3
    rw [r1, bnR_r, sy, if_neg (by decide), u1]
    by_cases h59 : t x.1 = 59
    · rw [if_pos h59, if_pos h59, if_pos rfl]
    · rw [if_neg h59, if_neg h59]
      by_cases h41 : t x.1 = 41
      · rw [if_pos h41]; rfl
      · rw [if_neg h41]
        by_cases hsg : sgS (t x.1) = 0
        · rw [if_pos hsg]
        · rw [if_neg hsg]
          have v1 := r4.1 (by omega)
          have v2 := r4.2.1 (by omega)
          have v3 := r4.2.2.2.1 (by omega)
          have v4 := r4.2.2.2.2 rfl
          have v6 : t x.1 = 60 ∨ t x.1 = 61 := by
            unfold sgS at hsg
            rw [if_neg v4, if_neg v3, if_neg v2.1, if_neg v2.2, if_neg v1] at hsg
            by_cases z : t x.1 = 60
            · exact Or.inl z
            · rw [if_neg z] at hsg
              by_cases z2 : t x.1 = 61
              · exact Or.inr z2
              · rw [if_neg z2] at hsg; exact absurd rfl hsg
          have v7 := r4.2.2.1 (by omega) v6
          rw [if_pos ⟨by rcases v6 with z | z <;> rw [z] <;> decide, v7⟩]
def ivN (B : Nat → Int) (tl T q : Nat) (out : List Int) (σ : Sg) : Prop := tpM B tl σ ∧ (σ 0 10 = iI (T : Int) ∧ T < 6) ∧ σ 0 19 = iI (q : Int) ∧ σ 0 27 = iI ((out.length : Nat) : Int) ∧ (∀ i, i < out.length → σ 5 (200 * T + i) = iI (encM (out.getD i 0))) ∧ out.length ≤ q ∧ q ≤ tl
section
variable {F : Nat} {B : Nat → Int} {tl T : Nat}
theorem m_part (hF : 300 ≤ F) {part q n : Nat} (hp : part < 3) {out : List Int} {σ : Sg} (h : ivN B tl T q out σ) :
    (∃ f τ, rd1 (tkT B tl) (tkN B tl) (tkB B tl) (tkE B tl) part q = .inl f ∧ g_X7_text_l26 F (n + 1) 1 (iI (part : Int)) σ = g_X7_text_l26 F n 0 (iI ((part + 1 : Nat) : Int)) τ ∧ frP (puS T) σ τ ∧ τ 0 20 = iI (f : Int)) ∨ ∃ x τ, rd1 (tkT B tl) (tkN B tl) (tkB B tl) (tkE B tl) part q = .inr x ∧ g_X7_text_l26 F (n + 1) 1 (iI (part : Int)) σ = g_X7_text_l26 F n 1 (iI ((part + 1 : Nat) : Int)) τ ∧ frP (puS T) σ τ ∧ ivN B tl T x.1 (out ++ x.2) τ ∧ τ 6 (4 * T + part) = iI ((out.length : Nat) : Int) ∧ ∀ j, j ≠ 4 * T + part → τ 6 j = σ 6 j := by
  obtain ⟨h1, ⟨h2, h2'⟩, h3, h7, h8, h9, h10⟩ := h
  have hB : ∀ i, i < tl → 0 ≤ B i ∧ B i ≤ 255 := fun i hi => (h1.2.2.1 i hi).1
  have hs := tk_s h1.1 hB
  have tr : tkR (tkT B tl q) := tk_r hB h10
  have mq := mt_q tr
  have q3 := mq.2.2.2.2.2.2.2.2.1
  have mb := mt_b tr
  obtain ⟨σ1, e1, f1, r1, r2, r3, _, r5, _⟩ := m_next (F := F) hF h10 h1 h3
  have eb := tkE_b (B := B) h10
  have fp1 : frP (puS T) σ σ1 := frP_w f1 (fun a j w => Or.inl (Or.inl (by omega)))
  have t10 : σ1 0 10 = iI (T : Int) := by rw [f1 0 10 (by omega)]; exact h2
  have t27 : σ1 0 27 = iI ((out.length : Nat) : Int) := by rw [f1 0 27 (by omega)]; exact h7
  have nx : iI (part : Int) + 1 = iI ((part + 1 : Nat) : Int) := by rw [li_1, iI_add]; rfl
  have start : g_X7_text_l26 F (n + 1) 1 (iI (part : Int)) σ = if (σ1 0 21) = 3 then (if (σ1 0 22) = iI (part : Int) then (g_X7_text_b60 F (fun v1_ v2_ σ_ => g_X7_text_l26 F n v1_ v2_ σ_) (iI (part : Int)) 1 σ1) else (g_X7_text_b59 F (fun v1_ v2_ σ_ => g_X7_text_l26 F n v1_ v2_ σ_) (iI (part : Int)) σ1)) else (g_X7_text_b59 F (fun v1_ v2_ σ_ => g_X7_text_l26 F n v1_ v2_ σ_) (iI (part : Int)) σ1) := by
    rw [g_X7_text_l26, if_neg (by rw [li_3, iI_le (by omega) (by omega)]; omega), if_neg (by decide), e1, bnV_s]
  have wr : ∀ (u : Int32), g_X7_text_b60 F (fun v1_ v2_ σ_ => g_X7_text_l26 F n v1_ v2_ σ_) (iI (part : Int)) u σ1 = if u = 0 then (g_X7_text_l26 F n 0 (iI ((part + 1 : Nat) : Int)) (st σ1 6 (4 * T + part) (iI ((out.length : Nat) : Int)))) else (bnI (g_X7_eRead F (st σ1 6 (4 * T + part) (iI ((out.length : Nat) : Int)))) fun s_2 x_3 => if x_3 = 0 then (g_X7_text_l26 F n 0 (iI ((part + 1 : Nat) : Int)) s_2) else (g_X7_text_l26 F n 1 (iI ((part + 1 : Nat) : Int)) s_2)) := by
    intro u
    unfold g_X7_text_b60 g_X7_text_b93 g_X7_text_b94
    rw [t10, t27, li_4, iI_mul, iI_add, wrA_i (by omega), nx, show (4 * (T : Int) + (part : Int)).toNat = 4 * T + part by omega]
  have fr6 : frP (puS T) σ (st σ1 6 (4 * T + part) (iI ((out.length : Nat) : Int))) := frP_s fp1 (Or.inr ⟨rfl, by omega, by omega⟩)
  have bad : g_X7_text_b59 F (fun v1_ v2_ σ_ => g_X7_text_l26 F n v1_ v2_ σ_) (iI (part : Int)) σ1 = g_X7_text_l26 F n 0 (iI ((part + 1 : Nat) : Int)) (st σ1 6 (4 * T + part) (iI ((out.length : Nat) : Int))) := by
    unfold g_X7_text_b59
    rw [wr, if_pos rfl]
  have r20 : (st σ1 6 (4 * T + part) (iI ((out.length : Nat) : Int))) 0 20 = iI ((tkB B tl q : Nat) : Int) := by rw [st_k (by omega)]; exact r2
  rw [start, r3, li_3, ite_eq (by omega) (by omega)]
  unfold rd1
  by_cases c : tkT B tl q = 1000 + (part : Int)
  · have c3 : 1000 ≤ tkT B tl q ∧ tkT B tl q < 1003 := by omega
    have ek := eb.2.2 (by omega)
    rw [if_pos (q3.mpr c3), r5 c3.1 c3.2, ite_eq (by omega) (by omega), if_pos (show tkT B tl q - 1000 = (part : Int) by omega), wr, if_neg (show ¬ (1 : Int32) = 0 by decide), if_pos c]
    unfold g_X7_eRead
    rw [wrF_i, wrF_i]
    have fr7 : frP (puS T) (st σ1 6 (4 * T + part) (iI ((out.length : Nat) : Int))) (st (st (st σ1 6 (4 * T + part) (iI ((out.length : Nat) : Int))) 0 25 0) 0 26 0) := frP_s (frP_s (frP_r _ _) (Or.inl (Or.inl ⟨rfl, by omega, by omega⟩))) (Or.inl (Or.inl ⟨rfl, by omega, by omega⟩))
    have t0 : ∀ a j, a ≠ 6 → ¬ (a = 0 ∧ (j = 25 ∨ j = 26)) → (st (st (st σ1 6 (4 * T + part) (iI ((out.length : Nat) : Int))) 0 25 0) 0 26 0) a j = σ1 a j := by
      intro a j ha hj
      by_cases e : a = 0
      · subst e; rw [st_j (fun q => hj ⟨rfl, Or.inr q⟩), st_j (fun q => hj ⟨rfl, Or.inl q⟩), st_k ha]
      · rw [st_k e, st_k e, st_k ha]
    have frA := frP_t fr6 fr7
    have tpA : tpM B tl (st (st (st σ1 6 (4 * T + part) (iI ((out.length : Nat) : Int))) 0 25 0) 0 26 0) := by
      refine tpM_of h1 frA (fun a j w => ?_)
      rcases w with w | w
      · unfold pmS at w; omega
      · omega
    have iv : ivM B tl T (tkE B tl q) [] out (st (st (st σ1 6 (4 * T + part) (iI ((out.length : Nat) : Int))) 0 25 0) 0 26 0) := ⟨tpA, ⟨by rw [t0 0 10 (by omega) (by omega)]; exact t10, h2'⟩, by rw [t0 0 19 (by omega) (by omega)]; exact r1, by rw [st_j (by omega), st_e]; rfl, trivial, by rw [st_e]; rfl, by rw [t0 0 27 (by omega) (by omega)]; exact t27, fun i hi => by rw [t0 5 _ (by omega) (by omega), f1 5 _ (by omega)]; exact h8 i hi, by rw [List.length_nil]; omega, eb.2.1⟩
    have ms := m_sy (F := F) hF F true true [] out (tkE B tl q) _ (by have := h1.1; omega) iv
    rw [if_pos rfl, sy_top hs eb.2.1 (by have := h1.1; omega) out] at ms
    have key : ∀ (f : Nat) (τ : Sg), g_X7_eRead_l14 F F 1 1 (st (st (st σ1 6 (4 * T + part) (iI ((out.length : Nat) : Int))) 0 25 0) 0 26 0) = some (τ, 0) → frP (pmS T) (st (st (st σ1 6 (4 * T + part) (iI ((out.length : Nat) : Int))) 0 25 0) 0 26 0) τ → τ 0 20 = iI (f : Int) → ∃ f' τ', (Sum.inl f : Rs) = .inl f' ∧ (bnI (g_X7_eRead_l14 F F 1 1 (st (st (st σ1 6 (4 * T + part) (iI ((out.length : Nat) : Int))) 0 25 0) 0 26 0)) fun s_2 x_3 => if x_3 = 0 then (g_X7_text_l26 F n 0 (iI ((part + 1 : Nat) : Int)) s_2) else (g_X7_text_l26 F n 1 (iI ((part + 1 : Nat) : Int)) s_2)) = g_X7_text_l26 F n 0 (iI ((part + 1 : Nat) : Int)) τ' ∧ frP (puS T) σ τ' ∧ τ' 0 20 = iI (f' : Int) := by
      intro f τ e fr hf
      exact ⟨f, τ, rfl, by rw [e, bnI_s, if_pos rfl], frP_t frA (pu_m fr), hf⟩
    cases hr : rdZ (tkT B tl) (tkN B tl) (tkB B tl) (tkE B tl) 50 0 0 (tkE B tl q) with
    | inl f =>
      rw [hr, bnR_l] at ms
      obtain ⟨τ, e, fr, hf⟩ := ms
      rw [bnR_l]
      exact Or.inl (key f τ e fr hf)
    | inr x =>
      rw [hr, bnR_r] at ms
      rw [bnR_r]
      by_cases h59 : tkT B tl x.1 = 59
      · rw [if_pos h59] at ms
        obtain ⟨τ, e, fr, iw⟩ := ms
        obtain ⟨w1, w2, w3, _, _, _, w7, w8, w9, w10⟩ := iw
        rw [if_pos h59]
        refine Or.inr ⟨_, τ, rfl, by rw [e, bnI_s, if_neg (by decide)], frP_t frA (pu_m fr), ⟨w1, w2, w3, w7, w8, by rw [List.length_nil] at w9; exact w9, w10⟩, ?_, fun j hj => ?_⟩
        · rw [fr 6 _ (by unfold pmS; omega), st_k (by omega), st_k (by omega), st_e]
        · rw [fr 6 _ (by unfold pmS; omega), st_k (by omega), st_k (by omega), st_j hj]; exact f1 6 j (by omega)
      · rw [if_neg h59] at ms
        obtain ⟨τ, e, fr, hf⟩ := ms
        rw [if_neg h59]
        exact Or.inl (key _ τ e fr hf)
  · rw [if_neg c]
    by_cases c3 : 1000 ≤ tkT B tl q ∧ tkT B tl q < 1003
    · rw [if_pos (q3.mpr c3), r5 c3.1 c3.2, ite_eq (by omega) (by omega), if_neg (by omega), bad]
      exact Or.inl ⟨_, _, rfl, rfl, fr6, r20⟩
    · rw [if_neg (fun w => c3 (q3.mp w)), bad]
      exact Or.inl ⟨_, _, rfl, rfl, fr6, r20⟩
theorem m_bad {σ : Sg} (h2 : σ 0 10 = iI (T : Int)) (hT : T < 6) {f : Nat} (hf : σ 0 20 = iI (f : Int)) (n p : Nat) (hp : p ≤ 3) : ∃ τ, g_X7_text_l26 F (n + 1) 0 (iI (p : Int)) σ = some (τ, iI (-100 - (f : Int))) ∧ frP (ptS T) σ τ ∧ τ 0 7 = 0 ∧ τ 0 10 = iI (T : Int) := by
  have e : g_X7_text_l26 F (n + 1) 0 (iI (p : Int)) σ = g_X7_text_b101 F 0 σ := by
    rw [g_X7_text_l26]
    split
    · rfl
    · rw [if_pos rfl]
  rw [e]
  unfold g_X7_text_b101 g_X7_text_b122
  rw [if_pos rfl, h2, li_4, iI_mul, li_3, iI_add, wrA_i (by omega), wrF_i, if_pos rfl, st_j (show (20 : Nat) ≠ 7 by omega), st_k (show (0 : Nat) ≠ 6 by omega), hf, show (-100 : Int32) = iI (-100) from rfl, iI_sub, show (4 * (T : Int) + 3).toNat = 4 * T + 3 by omega]
  exact ⟨_, rfl, frP_s (frP_s (frP_r _ σ) (Or.inr (Or.inl ⟨rfl, by omega, by omega⟩))) (Or.inr (Or.inr ⟨rfl, Or.inl rfl⟩)), st_e, by rw [st_j (by omega), st_k (by omega)]; exact h2⟩
theorem pt_u {σ τ : Sg} (h : frP (puS T) σ τ) : frP (ptS T) σ τ := frP_w h (fun a j w => by unfold puS at w; unfold ptS; rcases w with w | w; exact Or.inl w; exact Or.inr (Or.inl w))
theorem pu_10 {σ τ : Sg} (h : frP (puS T) σ τ) : τ 0 10 = σ 0 10 := h 0 10 (fun w => by unfold puS pmS at w; omega)
theorem m_text (hF : 300 ≤ F) {σ : Sg} (ht : tpM B tl σ) (h2 : σ 0 10 = iI (T : Int)) (hT : T < 6) : match rd3 (tkT B tl) (tkN B tl) (tkB B tl) (tkE B tl) with
    | .inl f => ∃ τ, g_X7_text F σ = some (τ, iI (-100 - (f : Int))) ∧ frP (ptS T) σ τ ∧ τ 0 7 = 0 ∧ τ 0 10 = iI (T : Int)
    | .inr x => ∃ τ, g_X7_text F σ = some (τ, iI (T : Int)) ∧ frP (ptS T) σ τ ∧ τ 0 7 = 0 ∧ τ 0 10 = iI ((T + 1 : Nat) : Int) ∧ (τ 6 (4 * T) = iI 0 ∧ τ 6 (4 * T + 1) = iI ((x.1.length : Nat) : Int) ∧ τ 6 (4 * T + 2) = iI (((x.1 ++ x.2.1).length : Nat) : Int) ∧ τ 6 (4 * T + 3) = iI (((x.1 ++ x.2.1 ++ x.2.2).length : Nat) : Int)) ∧ ∀ i, i < (x.1 ++ x.2.1 ++ x.2.2).length → τ 5 (200 * T + i) = iI (encM ((x.1 ++ x.2.1 ++ x.2.2).getD i 0)) := by
  have hB : ∀ i, i < tl → 0 ≤ B i ∧ B i ≤ 255 := fun i hi => (ht.2.2.1 i hi).1
  have hs := tk_s ht.1 hB
  unfold g_X7_text
  rw [h2, li_6, ite_eq (by omega) (by omega), if_neg (by omega), wrF_i, wrF_i]
  have f0 : frP (puS T) σ (st (st σ 0 19 0) 0 27 0) := frP_s (frP_s (frP_r _ σ) (Or.inl (Or.inl ⟨rfl, by omega, by omega⟩))) (Or.inl (Or.inl ⟨rfl, by omega, by omega⟩))
  have i0 : ivN B tl T 0 [] (st (st σ 0 19 0) 0 27 0) := ⟨tpM_of ht f0 (fun a j w => by unfold puS pmS at w; omega), ⟨by rw [pu_10 f0]; exact h2, hT⟩, by rw [st_j (by omega), st_e]; rfl, by rw [st_e]; rfl, fun i hi => absurd hi (by simp), by simp, by omega⟩
  generalize st (st σ 0 19 0) 0 27 0 = σ0 at *
  obtain ⟨g0, hg0⟩ : ∃ q, F = q + 4 := ⟨F - 4, by omega⟩
  have start : g_X7_text_l26 F F 1 0 σ0 = g_X7_text_l26 F (g0 + 3 + 1) 1 (iI ((0 : Nat) : Int)) σ0 := by
    show g_X7_text_l26 F F 1 (iI ((0 : Nat) : Int)) σ0 = _
    congr 1
  rw [start]
  unfold rd3
  rcases m_part (F := F) hF (part := 0) (n := g0 + 3) (by omega) i0 with ⟨f, τ, r, e, fr, hf⟩ | ⟨x, τ, r, e, fr, i, v, _⟩
  · have fA := frP_t f0 fr
    obtain ⟨υ, e2, f2, w1, w2⟩ := m_bad (F := F) (T := T) (by rw [pu_10 fA]; exact h2) hT hf (g0 + 2) 1 (by omega)
    rw [r, e, e2]
    exact ⟨υ, rfl, frP_t (pt_u fA) f2, w1, w2⟩
  have fA := frP_t f0 fr
  have b0 := rd1_b hs (by omega) r
  rw [r, e]
  rw [List.nil_append] at i
  show match (match rd1 (tkT B tl) (tkN B tl) (tkB B tl) (tkE B tl) 1 x.1 with
    | .inl f => .inl f
    | .inr y => match rd1 (tkT B tl) (tkN B tl) (tkB B tl) (tkE B tl) 2 y.1 with
      | .inl f => .inl f
      | .inr z => if tkT B tl z.1 = 0 then .inr (x.2, y.2, z.2) else .inl (tkB B tl z.1) : R3) with
    | .inl f => ∃ υ, g_X7_text_l26 F (g0 + 2 + 1) 1 (iI ((1 : Nat) : Int)) τ = some (υ, iI (-100 - (f : Int))) ∧ frP (ptS T) σ υ ∧ υ 0 7 = 0 ∧ υ 0 10 = iI (T : Int)
    | .inr x => ∃ υ, g_X7_text_l26 F (g0 + 2 + 1) 1 (iI ((1 : Nat) : Int)) τ = some (υ, iI (T : Int)) ∧ frP (ptS T) σ υ ∧ υ 0 7 = 0 ∧ υ 0 10 = iI ((T + 1 : Nat) : Int) ∧ (υ 6 (4 * T) = iI 0 ∧ υ 6 (4 * T + 1) = iI ((x.1.length : Nat) : Int) ∧ υ 6 (4 * T + 2) = iI (((x.1 ++ x.2.1).length : Nat) : Int) ∧ υ 6 (4 * T + 3) = iI (((x.1 ++ x.2.1 ++ x.2.2).length : Nat) : Int)) ∧ ∀ i, i < (x.1 ++ x.2.1 ++ x.2.2).length → υ 5 (200 * T + i) = iI (encM ((x.1 ++ x.2.1 ++ x.2.2).getD i 0))
  rcases m_part (F := F) hF (part := 1) (n := g0 + 2) (by omega) i with ⟨f, υ, r, e, fr, hf⟩ | ⟨y, υ, r, e, fr, i, u, uf⟩
  · have fB := frP_t fA fr
    obtain ⟨ω, e2, f2, w1, w2⟩ := m_bad (F := F) (T := T) (by rw [pu_10 fB]; exact h2) hT hf (g0 + 1) 2 (by omega)
    rw [r, e, e2]
    exact ⟨ω, rfl, frP_t (pt_u fB) f2, w1, w2⟩
  have fB := frP_t fA fr
  have b1 := rd1_b hs (by omega) r
  rw [r, e]
  have v := (uf _ (by omega)).trans v
  show match (match rd1 (tkT B tl) (tkN B tl) (tkB B tl) (tkE B tl) 2 y.1 with
      | .inl f => .inl f
      | .inr z => if tkT B tl z.1 = 0 then .inr (x.2, y.2, z.2) else .inl (tkB B tl z.1) : R3) with
    | .inl f => ∃ τ, g_X7_text_l26 F (g0 + 1 + 1) 1 (iI ((2 : Nat) : Int)) υ = some (τ, iI (-100 - (f : Int))) ∧ frP (ptS T) σ τ ∧ τ 0 7 = 0 ∧ τ 0 10 = iI (T : Int)
    | .inr x => ∃ τ, g_X7_text_l26 F (g0 + 1 + 1) 1 (iI ((2 : Nat) : Int)) υ = some (τ, iI (T : Int)) ∧ frP (ptS T) σ τ ∧ τ 0 7 = 0 ∧ τ 0 10 = iI ((T + 1 : Nat) : Int) ∧ (τ 6 (4 * T) = iI 0 ∧ τ 6 (4 * T + 1) = iI ((x.1.length : Nat) : Int) ∧ τ 6 (4 * T + 2) = iI (((x.1 ++ x.2.1).length : Nat) : Int) ∧ τ 6 (4 * T + 3) = iI (((x.1 ++ x.2.1 ++ x.2.2).length : Nat) : Int)) ∧ ∀ i, i < (x.1 ++ x.2.1 ++ x.2.2).length → τ 5 (200 * T + i) = iI (encM ((x.1 ++ x.2.1 ++ x.2.2).getD i 0))
  rcases m_part (F := F) hF (part := 2) (n := g0 + 1) (by omega) i with ⟨f, ω, r, e, fr, hf⟩ | ⟨z, ω, r, e, fr, i, w, wf⟩
  · have fC := frP_t fB fr
    obtain ⟨ψ, e2, f2, w1, w2⟩ := m_bad (F := F) (T := T) (by rw [pu_10 fC]; exact h2) hT hf g0 3 (by omega)
    rw [r, e, e2]
    exact ⟨ψ, rfl, frP_t (pt_u fC) f2, w1, w2⟩
  have fC := frP_t fB fr
  rw [r, e]
  have v := (wf _ (by omega)).trans v
  have u := (wf _ (by omega)).trans u
  obtain ⟨n1, ⟨n2, n2'⟩, n3, n4, n5, n6, n7⟩ := i
  obtain ⟨σ1, e1, f1, r1, r2, r3, _, _, _⟩ := m_next (F := F) hF n7 n1 n3
  have tr : tkR (tkT B tl z.1) := tk_r hB n7
  have q0 := (mt_q tr).2.2.2.2.2.2.2.1
  have mb := mt_b tr
  have fp1 : frP (puS T) ω σ1 := frP_w f1 (fun a j w => Or.inl (Or.inl (by omega)))
  have fD := frP_t fC fp1
  have t10 : σ1 0 10 = iI (T : Int) := by rw [pu_10 fD]; exact h2
  have t27 : σ1 0 27 = iI (((x.2 ++ y.2 ++ z.2).length : Nat) : Int) := by rw [f1 0 27 (by omega)]; exact n4
  have e3 : g_X7_text_l26 F (g0 + 1) 1 (iI ((3 : Nat) : Int)) ω = if tkT B tl z.1 = 0 then g_X7_text_b122 F 1 σ1 else g_X7_text_b122 F 0 σ1 := by
    rw [g_X7_text_l26, if_pos (show (3 : Int32) ≤ iI ((3 : Nat) : Int) by decide)]
    unfold g_X7_text_b101 g_X7_text_b121
    rw [if_neg (by decide), e1, bnV_s, r3, li_0, ite_eq (by omega) (by omega)]
    by_cases c : tkT B tl z.1 = 0
    · rw [if_pos (q0.mpr c), if_pos c]
    · rw [if_neg (fun w => c (q0.mp w)), if_neg c]
  have e4 : g_X7_text_l26 F (g0 + 1) 1 (iI ((2 + 1 : Nat) : Int)) ω = _ := e3
  have nn : (4 * (T : Int) + 3).toNat = 4 * T + 3 := by omega
  rw [e4]
  show match (if tkT B tl z.1 = 0 then .inr (x.2, y.2, z.2) else .inl (tkB B tl z.1) : R3) with
    | .inl f => ∃ τ, (if tkT B tl z.1 = 0 then g_X7_text_b122 F 1 σ1 else g_X7_text_b122 F 0 σ1) = some (τ, iI (-100 - (f : Int))) ∧ frP (ptS T) σ τ ∧ τ 0 7 = 0 ∧ τ 0 10 = iI (T : Int)
    | .inr x => ∃ τ, (if tkT B tl z.1 = 0 then g_X7_text_b122 F 1 σ1 else g_X7_text_b122 F 0 σ1) = some (τ, iI (T : Int)) ∧ frP (ptS T) σ τ ∧ τ 0 7 = 0 ∧ τ 0 10 = iI ((T + 1 : Nat) : Int) ∧ (τ 6 (4 * T) = iI 0 ∧ τ 6 (4 * T + 1) = iI ((x.1.length : Nat) : Int) ∧ τ 6 (4 * T + 2) = iI (((x.1 ++ x.2.1).length : Nat) : Int) ∧ τ 6 (4 * T + 3) = iI (((x.1 ++ x.2.1 ++ x.2.2).length : Nat) : Int)) ∧ ∀ i, i < (x.1 ++ x.2.1 ++ x.2.2).length → τ 5 (200 * T + i) = iI (encM ((x.1 ++ x.2.1 ++ x.2.2).getD i 0))
  by_cases c : tkT B tl z.1 = 0
  · rw [if_pos c, if_pos c]
    unfold g_X7_text_b122
    rw [t10, li_4, iI_mul, li_3, iI_add, wrA_i (by omega), wrF_i, if_neg (show ¬ (1 : Int32) = 0 by decide), wrF_i, st_e, st_j (show (10 : Nat) ≠ 7 by omega), st_k (show (0 : Nat) ≠ 6 by omega), t10, t27, nn, li_1, iI_add, iI_sub]
    have g1 : ∀ a j, a ≠ 0 → ¬ (a = 6 ∧ j = 4 * T + 3) → (st (st (st σ1 6 (4 * T + 3) (iI (((x.2 ++ y.2 ++ z.2).length : Nat) : Int))) 0 7 0) 0 10 (iI ((T : Int) + 1))) a j = σ1 a j := by
      intro a j ha hj
      rw [st_k ha, st_k ha]
      by_cases e6 : a = 6
      · subst e6; rw [st_j (fun q => hj ⟨rfl, q⟩)]
      · rw [st_k e6]
    have s6 : ∀ j, σ1 6 j = ω 6 j := fun j => f1 6 j (by omega)
    refine ⟨_, by rw [show (T : Int) + 1 - 1 = (T : Int) by omega], frP_s (frP_s (frP_s (pt_u fD) (Or.inr (Or.inl ⟨rfl, by omega, by omega⟩))) (Or.inr (Or.inr ⟨rfl, Or.inl rfl⟩))) (Or.inr (Or.inr ⟨rfl, Or.inr rfl⟩)), by rw [st_j (by omega), st_e], by rw [st_e]; rfl, ⟨?_, ?_, ?_, ?_⟩, fun j hj => ?_⟩
    · rw [g1 6 _ (by omega) (by omega), s6]; exact v
    · rw [g1 6 _ (by omega) (by omega), s6]; exact u
    · rw [g1 6 _ (by omega) (by omega), s6]; exact w
    · rw [st_k (by omega), st_k (by omega), st_e]
    · rw [g1 5 _ (by omega) (by omega), f1 5 _ (by omega)]; exact n5 j hj
  · rw [if_neg c, if_neg c]
    unfold g_X7_text_b122
    rw [t10, li_4, iI_mul, li_3, iI_add, wrA_i (by omega), wrF_i, if_pos (show (0 : Int32) = 0 from rfl), st_j (show (20 : Nat) ≠ 7 by omega), st_k (show (0 : Nat) ≠ 6 by omega), r2, show (-100 : Int32) = iI (-100) from rfl, iI_sub, nn]
    exact ⟨_, rfl, frP_s (frP_s (pt_u fD) (Or.inr (Or.inl ⟨rfl, by omega, by omega⟩))) (Or.inr (Or.inr ⟨rfl, Or.inl rfl⟩)), st_e, by rw [st_j (by omega), st_k (by omega)]; exact t10⟩
end
