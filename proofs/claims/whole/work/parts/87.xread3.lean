/-! a whole text: three parts, the end -/
def rd1 (t n : Nat → Int) (g e : Nat → Nat) (part q : Nat) : Rs := if t q = 1000 + (part : Int) then (bnR (rdZ t n g e 50 0 0 (e q)) fun q1 c1 => if t q1 = 59 then .inr (e q1, c1) else .inl (g q1)) else .inl (g q)
abbrev R3 : Type := Nat ⊕ (List Int × List Int × List Int)
def rd3 (t n : Nat → Int) (g e : Nat → Nat) : R3 := match rd1 t n g e 0 0 with
  | .inl f => .inl f
  | .inr x => match rd1 t n g e 1 x.1 with
    | .inl f => .inl f
    | .inr y => match rd1 t n g e 2 y.1 with
      | .inl f => .inl f
      | .inr z => if t z.1 = 0 then .inr (x.2, y.2, z.2) else .inl (g z.1)
theorem rd1_b {t n : Nat → Int} {g e : Nat → Nat} {tl : Nat} (hs : scnr t n e tl) {part q : Nat} (hq : q ≤ tl) {x : Nat × List Int} (hx : rd1 t n g e part q = .inr x) : q < x.1 ∧ x.1 ≤ tl ∧ x.2.length + q ≤ x.1 ∧ wfp x.2 := by
  unfold rd1 at hx
  by_cases h : t q = 1000 + (part : Int)
  · rw [if_pos h] at hx
    have eb := hs.2.1 q hq
    have ek := eb.2 (by omega)
    cases hr : rdZ t n g e 50 0 0 (e q) with
    | inl f => rw [hr, bnR_l] at hx; cases hx
    | inr y =>
      have b := rd_b hs (by omega) (by omega) (by omega) eb.1 hr
      rw [hr, bnR_r] at hx
      by_cases h2 : t y.1 = 59
      · rw [if_pos h2] at hx
        have e2 := hs.2.1 y.1 b.2.1
        have e3 := e2.2 (by omega)
        obtain rfl := Sum.inr.inj hx
        exact ⟨by show q < e y.1; omega, e2.1, by show y.2.length + q ≤ e y.1; omega, b.2.2.2⟩
      · rw [if_neg h2] at hx; cases hx
  · rw [if_neg h] at hx; cases hx
def pyS (a j : Nat) : Prop := pxS a j ∨ a = 33
section
variable {F N : Nat} {ln : Nat → Nat} {B : Nat → Int} {tl : Nat}
/-- one part, up to its ; -/
theorem x_part (hF : 300 ≤ F) (hs : scnr (tkT B tl) (tkN B tl) (tkE B tl) tl) {part q : Nat} (hp : part < 3) {out : List Int} {σ : Sg} (h : ivX B tl q out σ) {α : Type} (K : Sg → Option α) :
    (∃ f τ, rd1 (tkT B tl) (tkN B tl) (tkB B tl) (tkE B tl) part q = .inl f ∧ (bnV (g_X4_demand F N ln (1000 + iI (part : Int)) σ) fun s_3 => bnV (g_rd F N ln 50 0 0 s_3) fun s_5 => bnV (g_X4_demand F N ln 59 s_5) K) = K τ ∧ frP pxS σ τ ∧ ddX f τ) ∨ ∃ x τ, rd1 (tkT B tl) (tkN B tl) (tkB B tl) (tkE B tl) part q = .inr x ∧ (bnV (g_X4_demand F N ln (1000 + iI (part : Int)) σ) fun s_3 => bnV (g_rd F N ln 50 0 0 s_3) fun s_5 => bnV (g_X4_demand F N ln 59 s_5) K) = K τ ∧ frP pxS σ τ ∧ ivX B tl x.1 (out ++ x.2) τ := by
  unfold rd1
  rw [li_1000, iI_add, li_59]
  rcases iv_dem (F := F) (N := N) (ln := ln) hF h (w := 1000 + (part : Int)) (by omega) with ⟨w, σ1, e1, f1, i1⟩ | ⟨w, σ1, e1, f1, d1⟩
  · rw [if_pos w, e1, bnV_s]
    have r := xr_all (F := F) (N := N) (ln := ln) hF hs 50 0 0 _ out σ1 (by omega) (by omega) (by omega) i1
    cases hr : rdZ (tkT B tl) (tkN B tl) (tkB B tl) (tkE B tl) 50 0 0 (tkE B tl q) with
    | inl a =>
      rw [hr] at r
      obtain ⟨σ2, e2, f2, d2⟩ := r
      obtain ⟨σ3, e3, f3, d3⟩ := dd_dem (F := F) (N := N) (ln := ln) d2 (w := 59) (by omega)
      have e2' : g_rd F N ln 50 0 0 σ1 = some σ2 := e2
      rw [bnR_l, e2', bnV_s, e3, bnV_s]
      exact Or.inl ⟨a, σ3, rfl, rfl, frP_t f1 (frP_t f2 f3), d3⟩
    | inr x =>
      rw [hr] at r
      obtain ⟨σ2, e2, f2, i2⟩ := r
      have e2' : g_rd F N ln 50 0 0 σ1 = some σ2 := e2
      rw [bnR_r, e2', bnV_s]
      rcases iv_dem (F := F) (N := N) (ln := ln) hF i2 (w := 59) (by omega) with ⟨w, σ3, e3, f3, i3⟩ | ⟨w, σ3, e3, f3, d3⟩
      · rw [if_pos w, e3, bnV_s]
        exact Or.inr ⟨_, σ3, rfl, rfl, frP_t f1 (frP_t f2 f3), i3⟩
      · rw [if_neg w, e3, bnV_s]
        exact Or.inl ⟨_, σ3, rfl, rfl, frP_t f1 (frP_t f2 f3), d3⟩
  · obtain ⟨σ2, e2, f2, d2⟩ := dd_rd (F := F) (N := N) (ln := ln) (by omega) 50 0 0 σ1 (by omega) (by omega) d1
    obtain ⟨σ3, e3, f3, d3⟩ := dd_dem (F := F) (N := N) (ln := ln) d2 (w := 59) (by omega)
    rw [if_neg w, e1, bnV_s, e2, bnV_s, e3, bnV_s]
    exact Or.inl ⟨_, σ3, rfl, rfl, frP_t f1 (frP_t f2 f3), d3⟩
theorem py_33 {σ τ : Sg} {p : Nat} {v : Int32} (f : frP pyS σ τ) : frP pyS σ (st τ 33 p v) := frP_s f (Or.inr rfl)
theorem dd_33 {f : Nat} {τ : Sg} {p : Nat} {v : Int32} (h : ddX f τ) : ddX f (st τ 33 p v) := by
  obtain ⟨h1, h2, h3, u, hu, h4⟩ := h
  exact ⟨h1, by rw [st_k (by omega)]; exact h2, by rw [st_k (by omega)]; exact h3, u, hu, by rw [st_k (by omega)]; exact h4⟩
theorem iv_33 {q : Nat} {out : List Int} {τ : Sg} {p : Nat} {v : Int32} (h : ivX B tl q out τ) : ivX B tl q out (st τ 33 p v) := by
  obtain ⟨h1, h2, h3, h4, h5, h6, h7, h8, h9, h10⟩ := h
  refine ⟨tpX_of h1 (P := fun a _ => a = 33) (frP_s (frP_r _ τ) rfl) (fun a j w => by omega), ?_, ?_, ?_, ?_, fun w => ?_, ?_, fun i hi => ?_, h9, h10⟩
  · rw [st_k (by omega)]; exact h2
  · rw [st_k (by omega)]; exact h3
  · rw [st_k (by omega)]; exact h4
  · rw [st_k (by omega)]; exact h5
  · rw [st_k (by omega)]; exact h6 w
  · rw [st_k (by omega)]; exact h7
  · rw [st_k (by omega)]; exact h8 i hi
/-- behind a fault the other parts change nothing of it -/
theorem dd_read (hF : 300 ≤ F) {f : Nat} : ∀ (k p n : Nat) (σ : Sg), p + k = 3 → k < n → ddX f σ → ∃ τ, g_X4_read_l21 F N ln n (iI (p : Int)) σ = some (τ, iI (f : Int)) ∧ frP pyS σ τ := by
  intro k
  induction k with
  | zero =>
    intro p n σ hp hn h
    obtain ⟨n, rfl⟩ : ∃ q, n = q + 1 := ⟨n - 1, by omega⟩
    obtain ⟨τ, e, f1, d1⟩ := dd_ref (F := F) (N := N) (ln := ln) h
    rw [g_X4_read_l21, if_pos (by rw [li_3, iI_le (by omega) (by omega)]; omega), if_neg (by rw [h.2.2.1]; decide), e, bnV_s, d1.2.1]
    exact ⟨τ, rfl, frP_w f1 (fun a j w => Or.inl w)⟩
  | succ k ih =>
    intro p n σ hp hn h
    obtain ⟨n, rfl⟩ : ∃ q, n = q + 1 := ⟨n - 1, by omega⟩
    obtain ⟨σ1, e1, f1, d1⟩ := dd_dem (F := F) (N := N) (ln := ln) h (w := 1000 + (p : Int)) (by omega)
    obtain ⟨σ2, e2, f2, d2⟩ := dd_rd (F := F) (N := N) (ln := ln) (by omega) 50 0 0 σ1 (by omega) (by omega) d1
    obtain ⟨σ3, e3, f3, d3⟩ := dd_dem (F := F) (N := N) (ln := ln) d2 (w := 59) (by omega)
    have fr : frP pyS σ σ3 := frP_w (frP_t f1 (frP_t f2 f3)) (fun a j w => Or.inl w)
    obtain ⟨τ, e4, f4⟩ := ih (p + 1) n _ (by omega) (by omega) (dd_33 (p := p) (v := σ3 30 4) d3)
    rw [g_X4_read_l21, if_neg (by rw [li_3, iI_le (by omega) (by omega)]; omega), li_1000, iI_add, e1, bnV_s, e2, bnV_s, li_59, e3, bnV_s, wrA_i (by omega), li_1, iI_add, Int.toNat_natCast, show (p : Int) + 1 = ((p + 1 : Nat) : Int) by omega]
    exact ⟨τ, e4, frP_t (py_33 fr) f4⟩
/-- the class reads a tape -/
theorem x_read (hF : 300 ≤ F) {σ : Sg} (ht : tpX B tl σ) : match rd3 (tkT B tl) (tkN B tl) (tkB B tl) (tkE B tl) with
    | .inl f => ∃ τ, g_X4_read F N ln σ = some (τ, iI (f : Int)) ∧ frP pyS σ τ ∧ f ≤ 160
    | .inr x => ∃ τ, g_X4_read F N ln σ = some (τ, iI (-1)) ∧ frP pyS σ τ ∧ (τ 30 4 = iI (((x.1 ++ x.2.1 ++ x.2.2).length : Nat) : Int) ∧ (x.1 ++ x.2.1 ++ x.2.2).length ≤ 160 ∧ ∀ i, i < (x.1 ++ x.2.1 ++ x.2.2).length → τ 32 i = iI ((x.1 ++ x.2.1 ++ x.2.2).getD i 0)) ∧ (τ 33 0 = iI ((x.1.length : Nat) : Int) ∧ τ 33 1 = iI (((x.1 ++ x.2.1).length : Nat) : Int) ∧ τ 33 2 = iI (((x.1 ++ x.2.1 ++ x.2.2).length : Nat) : Int)) ∧ wfp x.1 ∧ wfp x.2.1 ∧ wfp x.2.2 := by
  have t1 := ht.1
  have hB : ∀ i, i < tl → 0 ≤ B i ∧ B i ≤ 255 := fun i hi => (ht.2.2 i hi).1
  have hs := tk_s t1 hB
  unfold g_X4_read
  rw [wrF_i, wrF_i, wrF_i]
  have f0 : frP pxS σ (st (st (st σ 30 4 0) 30 5 0) 30 9 (-1)) := frP_s (frP_s (frP_s (frP_r _ σ) (Or.inl ⟨rfl, by omega⟩)) (Or.inl ⟨rfl, by omega⟩)) (Or.inl ⟨rfl, by omega⟩)
  have tp := tpX_of ht (P := fun a j => a = 30 ∧ 4 ≤ j) (τ := st (st (st σ 30 4 0) 30 5 0) 30 9 (-1)) (frP_s (frP_s (frP_s (frP_r _ σ) ⟨rfl, by omega⟩) ⟨rfl, by omega⟩) ⟨rfl, by omega⟩) (fun a j w => by omega)
  obtain ⟨σ1, e1, f1, q5, q6, q7, q8⟩ := x_adv (F := F) (N := N) (ln := ln) hF (q := 0) (by omega) tp st_e (by rw [st_j (by omega), st_e]; rfl)
  have i1 : ivX B tl 0 [] σ1 := ⟨tpX_of tp f1 (fun a j w => by omega), by rw [f1 30 9 (by omega), st_e], q5, q6, q7, q8, by rw [f1 30 4 (by omega), st_j (by omega), st_j (by omega), st_e]; rfl, fun i hi => absurd hi (by simp), Nat.le_refl _, by omega⟩
  have fr1 : frP pyS σ σ1 := frP_w (frP_t f0 (frP_w f1 (fun a j w => Or.inl (by omega)))) (fun a j w => Or.inl w)
  rw [e1, bnV_s]
  obtain ⟨g0, hg0⟩ : ∃ q, F = q + 4 := ⟨F - 4, by omega⟩
  have unf : ∀ (n p : Nat) (s : Sg), p < 3 → g_X4_read_l21 F N ln (n + 1) (iI (p : Int)) s = bnV (g_X4_demand F N ln (1000 + iI (p : Int)) s) fun s_3 => bnV (g_rd F N ln 50 0 0 s_3) fun s_5 => bnV (g_X4_demand F N ln 59 s_5) fun s_7 => g_X4_read_l21 F N ln n (iI ((p + 1 : Nat) : Int)) (st s_7 33 p (s_7 30 4)) := by
    intro n p s hp
    rw [g_X4_read_l21, if_neg (by rw [li_3, iI_le (by omega) (by omega)]; omega)]
    simp only [wrA_i (α := Sg × Int32) (n := 3) (k := 33) (z := (p : Int)) (by omega), Int.toNat_natCast, li_1, iI_add]
    rfl
  have u0 := fun s => unf (g0 + 3) 0 s (by omega)
  have u1 := fun s => unf (g0 + 2) 1 s (by omega)
  have u2 := fun s => unf (g0 + 1) 2 s (by omega)
  have start : g_X4_read_l21 F N ln F 0 σ1 = g_X4_read_l21 F N ln (g0 + 3 + 1) (iI ((0 : Nat) : Int)) σ1 := by
    show g_X4_read_l21 F N ln F (iI ((0 : Nat) : Int)) σ1 = _
    congr 1
  rw [start, u0]
  unfold rd3
  rcases x_part (F := F) (N := N) (ln := ln) hF hs (part := 0) (by omega) i1 (fun s_7 => g_X4_read_l21 F N ln (g0 + 3) (iI ((0 + 1 : Nat) : Int)) (st s_7 33 0 (s_7 30 4))) with ⟨f, τ, r, e, fr, d⟩ | ⟨x, τ, r, e, fr, i⟩
  · rw [r, e]
    obtain ⟨υ, e2, f2⟩ := dd_read (F := F) (N := N) (ln := ln) hF 2 1 (g0 + 3) _ (by omega) (by omega) (dd_33 (p := 0) (v := τ 30 4) d)
    exact ⟨υ, e2, frP_t fr1 (frP_t (py_33 (frP_w fr (fun a j w => Or.inl w))) f2), d.1⟩
  rw [r, e]
  have b0 := rd1_b hs (by omega) r
  have fr2 := frP_t fr1 (py_33 (p := 0) (v := τ 30 4) (frP_w fr (fun a j w => Or.inl w)))
  have v0 : (st τ 33 0 (τ 30 4)) 33 0 = iI ((x.2.length : Nat) : Int) := by rw [st_e, i.2.2.2.2.2.2.1, List.nil_append]
  have i := iv_33 (p := 0) (v := τ 30 4) i
  rw [List.nil_append] at i
  generalize st τ 33 0 (τ 30 4) = σ2 at *
  show match (match rd1 (tkT B tl) (tkN B tl) (tkB B tl) (tkE B tl) 1 x.1 with
    | .inl f => .inl f
    | .inr y => match rd1 (tkT B tl) (tkN B tl) (tkB B tl) (tkE B tl) 2 y.1 with
      | .inl f => .inl f
      | .inr z => if tkT B tl z.1 = 0 then .inr (x.2, y.2, z.2) else .inl (tkB B tl z.1) : R3) with
    | .inl f => ∃ τ, g_X4_read_l21 F N ln (g0 + 2 + 1) (iI ((1 : Nat) : Int)) σ2 = some (τ, iI (f : Int)) ∧ frP pyS σ τ ∧ f ≤ 160
    | .inr x => ∃ τ, g_X4_read_l21 F N ln (g0 + 2 + 1) (iI ((1 : Nat) : Int)) σ2 = some (τ, iI (-1)) ∧ frP pyS σ τ ∧ (τ 30 4 = iI (((x.1 ++ x.2.1 ++ x.2.2).length : Nat) : Int) ∧ (x.1 ++ x.2.1 ++ x.2.2).length ≤ 160 ∧ ∀ i, i < (x.1 ++ x.2.1 ++ x.2.2).length → τ 32 i = iI ((x.1 ++ x.2.1 ++ x.2.2).getD i 0)) ∧ (τ 33 0 = iI ((x.1.length : Nat) : Int) ∧ τ 33 1 = iI (((x.1 ++ x.2.1).length : Nat) : Int) ∧ τ 33 2 = iI (((x.1 ++ x.2.1 ++ x.2.2).length : Nat) : Int)) ∧ wfp x.1 ∧ wfp x.2.1 ∧ wfp x.2.2
  rw [u1]
  rcases x_part (F := F) (N := N) (ln := ln) hF hs (part := 1) (by omega) i (fun s_7 => g_X4_read_l21 F N ln (g0 + 2) (iI ((1 + 1 : Nat) : Int)) (st s_7 33 1 (s_7 30 4))) with ⟨f, υ, r, e, fr, d⟩ | ⟨y, υ, r, e, fr, i⟩
  · rw [r, e]
    obtain ⟨ω, e2, f2⟩ := dd_read (F := F) (N := N) (ln := ln) hF 1 2 (g0 + 2) _ (by omega) (by omega) (dd_33 (p := 1) (v := υ 30 4) d)
    exact ⟨ω, e2, frP_t fr2 (frP_t (py_33 (frP_w fr (fun a j w => Or.inl w))) f2), d.1⟩
  rw [r, e]
  have b1 := rd1_b hs (by omega) r
  have fr3 := frP_t fr2 (py_33 (p := 1) (v := υ 30 4) (frP_w fr (fun a j w => Or.inl w)))
  have v1 : (st υ 33 1 (υ 30 4)) 33 1 = iI (((x.2 ++ y.2).length : Nat) : Int) := by rw [st_e, i.2.2.2.2.2.2.1]
  have v0 : (st υ 33 1 (υ 30 4)) 33 0 = iI ((x.2.length : Nat) : Int) := by rw [st_j (by omega), fr 33 0 (by unfold pxS; omega)]; exact v0
  have i := iv_33 (p := 1) (v := υ 30 4) i
  generalize st υ 33 1 (υ 30 4) = σ3 at *
  show match (match rd1 (tkT B tl) (tkN B tl) (tkB B tl) (tkE B tl) 2 y.1 with
      | .inl f => .inl f
      | .inr z => if tkT B tl z.1 = 0 then .inr (x.2, y.2, z.2) else .inl (tkB B tl z.1) : R3) with
    | .inl f => ∃ τ, g_X4_read_l21 F N ln (g0 + 1 + 1) (iI ((2 : Nat) : Int)) σ3 = some (τ, iI (f : Int)) ∧ frP pyS σ τ ∧ f ≤ 160
    | .inr x => ∃ τ, g_X4_read_l21 F N ln (g0 + 1 + 1) (iI ((2 : Nat) : Int)) σ3 = some (τ, iI (-1)) ∧ frP pyS σ τ ∧ (τ 30 4 = iI (((x.1 ++ x.2.1 ++ x.2.2).length : Nat) : Int) ∧ (x.1 ++ x.2.1 ++ x.2.2).length ≤ 160 ∧ ∀ i, i < (x.1 ++ x.2.1 ++ x.2.2).length → τ 32 i = iI ((x.1 ++ x.2.1 ++ x.2.2).getD i 0)) ∧ (τ 33 0 = iI ((x.1.length : Nat) : Int) ∧ τ 33 1 = iI (((x.1 ++ x.2.1).length : Nat) : Int) ∧ τ 33 2 = iI (((x.1 ++ x.2.1 ++ x.2.2).length : Nat) : Int)) ∧ wfp x.1 ∧ wfp x.2.1 ∧ wfp x.2.2
  rw [u2]
  rcases x_part (F := F) (N := N) (ln := ln) hF hs (part := 2) (by omega) i (fun s_7 => g_X4_read_l21 F N ln (g0 + 1) (iI ((2 + 1 : Nat) : Int)) (st s_7 33 2 (s_7 30 4))) with ⟨f, ω, r, e, fr, d⟩ | ⟨z, ω, r, e, fr, i⟩
  · rw [r, e]
    obtain ⟨ψ, e2, f2⟩ := dd_read (F := F) (N := N) (ln := ln) hF 0 3 (g0 + 1) _ (by omega) (by omega) (dd_33 (p := 2) (v := ω 30 4) d)
    exact ⟨ψ, e2, frP_t fr3 (frP_t (py_33 (frP_w fr (fun a j w => Or.inl w))) f2), d.1⟩
  rw [r, e]
  have b2 := rd1_b hs (by omega) r
  have fr4 := frP_t fr3 (py_33 (p := 2) (v := ω 30 4) (frP_w fr (fun a j w => Or.inl w)))
  have v2 : (st ω 33 2 (ω 30 4)) 33 2 = iI (((x.2 ++ y.2 ++ z.2).length : Nat) : Int) := by rw [st_e, i.2.2.2.2.2.2.1]
  have v1 : (st ω 33 2 (ω 30 4)) 33 1 = iI (((x.2 ++ y.2).length : Nat) : Int) := by rw [st_j (by omega), fr 33 1 (by unfold pxS; omega)]; exact v1
  have v0 : (st ω 33 2 (ω 30 4)) 33 0 = iI ((x.2.length : Nat) : Int) := by rw [st_j (by omega), fr 33 0 (by unfold pxS; omega)]; exact v0
  have i := iv_33 (p := 2) (v := ω 30 4) i
  generalize st ω 33 2 (ω 30 4) = σ4 at *
  have p := ivX_p i
  show match (if tkT B tl z.1 = 0 then .inr (x.2, y.2, z.2) else .inl (tkB B tl z.1) : R3) with
    | .inl f => ∃ τ, g_X4_read_l21 F N ln (g0 + 1) (iI ((3 : Nat) : Int)) σ4 = some (τ, iI (f : Int)) ∧ frP pyS σ τ ∧ f ≤ 160
    | .inr x => ∃ τ, g_X4_read_l21 F N ln (g0 + 1) (iI ((3 : Nat) : Int)) σ4 = some (τ, iI (-1)) ∧ frP pyS σ τ ∧ (τ 30 4 = iI (((x.1 ++ x.2.1 ++ x.2.2).length : Nat) : Int) ∧ (x.1 ++ x.2.1 ++ x.2.2).length ≤ 160 ∧ ∀ i, i < (x.1 ++ x.2.1 ++ x.2.2).length → τ 32 i = iI ((x.1 ++ x.2.1 ++ x.2.2).getD i 0)) ∧ (τ 33 0 = iI ((x.1.length : Nat) : Int) ∧ τ 33 1 = iI (((x.1 ++ x.2.1).length : Nat) : Int) ∧ τ 33 2 = iI (((x.1 ++ x.2.1 ++ x.2.2).length : Nat) : Int)) ∧ wfp x.1 ∧ wfp x.2.1 ∧ wfp x.2.2
  have e3 : g_X4_read_l21 F N ln (g0 + 1) (iI ((3 : Nat) : Int)) σ4 = if tkT B tl z.1 = 0 then some (σ4, σ4 30 9) else bnV (g_X4_refuse F N ln σ4) fun s_1 => some (s_1, s_1 30 9) := by
    rw [g_X4_read_l21, if_pos (show (3 : Int32) ≤ iI ((3 : Nat) : Int) by decide), i.2.2.2.1, li_0, ite_eq (by omega) (by omega)]
  rw [e3]
  by_cases w : tkT B tl z.1 = 0
  · rw [if_pos w, if_pos w]
    have hl := i.2.2.2.2.2.2.2.2
    exact ⟨σ4, by rw [i.2.1]; rfl, fr4, ⟨i.2.2.2.2.2.2.1, by show (x.2 ++ y.2 ++ z.2).length ≤ 160; omega, i.2.2.2.2.2.2.2.1⟩, ⟨v0, v1, v2⟩, b0.2.2.2, b1.2.2.2, b2.2.2.2⟩
  · obtain ⟨ψ, e2, f2, d2⟩ := iv_ref (F := F) (N := N) (ln := ln) i
    rw [if_neg w, if_neg w, e2, bnV_s]
    exact ⟨ψ, by rw [d2.2.1], frP_t fr4 (frP_w f2 (fun a j w => Or.inl w)), d2.1⟩
end
