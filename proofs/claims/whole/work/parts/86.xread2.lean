theorem xr_t {B : Nat → Int} {tl : Nat} {σ σ1 : Sg} {out : List Int} {v : Option Sg} {r : Rs} (f : frP pxS σ σ1) (h : xrP B tl σ1 out v r) : xrP B tl σ out v r := by
  cases r with
  | inl a => obtain ⟨τ, e, f2, d⟩ := h; exact ⟨τ, e, frP_t f f2, d⟩
  | inr x => obtain ⟨τ, e, f2, d⟩ := h; exact ⟨τ, e, frP_t f f2, d⟩
section
variable {F N : Nat} {ln : Nat → Nat} {B : Nat → Int} {tl : Nat}
/-- a sign between two, and what follows it -/
theorem xr_op (hF : 300 ≤ F) (hs : scnr (tkT B tl) (tkN B tl) (tkE B tl) tl) {d o sub : Nat} (h6 : sub ≤ 6) (ho : o ≤ 5) (hd : 7 * (5 - o) + (7 - sub) ≤ d)
    (IH : ∀ (q : Nat) (out : List Int) (σ : Sg), ivX B tl q out σ → xrP B tl σ out (g_rd F N ln d sub (iI (o : Int)) σ) (rdZ (tkT B tl) (tkN B tl) (tkB B tl) (tkE B tl) d sub o q))
    {q1 : Nat} {out cs : List Int} {c : Int} {K : Sg → Option Sg} {f : Nat → List Int → Rs} {σ : Sg} (h : ivX B tl q1 (out ++ cs) σ) (h0 : tkT B tl q1 ≠ 0)
    (hK : ∀ (x : Nat × List Int) (τ : Sg), frP pxS σ τ → tkE B tl q1 < x.1 → x.1 ≤ tl → ivX B tl x.1 (out ++ (cs ++ x.2 ++ [c])) τ → xrP B tl σ out (K τ) (f x.1 x.2)) (hD : ∀ (a : Nat) (τ : Sg), frP pxS σ τ → ddX a τ → ∃ υ, K τ = some υ ∧ frP pxS τ υ ∧ ddX a υ) :
    xrP B tl σ out (bnV (g_X4_advance F N ln σ) fun s_1 => bnV (g_rd F N ln d sub (iI (o : Int)) s_1) fun s_3 => bnV (g_X4_write F N ln (iI c) s_3) fun s_5 => K s_5) (bnR (rdZ (tkT B tl) (tkN B tl) (tkB B tl) (tkE B tl) d sub o (tkE B tl q1)) f) := by
  obtain ⟨σ1, e1, f1, i1⟩ := iv_adv (F := F) (N := N) (ln := ln) hF h
  have hq := h.2.2.2.2.2.2.2.2
  have eb := tkE_b (B := B) hq.2
  have r := IH _ _ σ1 i1
  rw [e1, bnV_s]
  cases hr : rdZ (tkT B tl) (tkN B tl) (tkB B tl) (tkE B tl) d sub o (tkE B tl q1) with
  | inl a =>
    rw [hr] at r
    obtain ⟨σ2, e2, f2, d2⟩ := r
    obtain ⟨σ3, e3, f3, d3⟩ := dd_write (F := F) (N := N) (ln := ln) d2 (iI c)
    obtain ⟨σ4, e4, f4, d4⟩ := hD a σ3 (frP_t f1 (frP_t f2 f3)) d3
    rw [e2, bnV_s, e3, bnV_s, e4]
    exact ⟨σ4, rfl, frP_t f1 (frP_t f2 (frP_t f3 f4)), d4⟩
  | inr x =>
    rw [hr] at r
    obtain ⟨σ2, e2, f2, i2⟩ := r
    have b := rd_b hs h6 ho hd eb.2.1 hr
    have ek := eb.2.2 h0
    obtain ⟨σ3, e3, f3, i3⟩ := iv_write (F := F) (N := N) (ln := ln) i2 (by rw [List.length_append]; have := hq.1; omega) c
    rw [e2, bnV_s, e3, bnV_s]
    refine hK x σ3 (frP_t f1 (frP_t f2 f3)) b.1 b.2.1 ?_
    have : out ++ (cs ++ x.2 ++ [c]) = out ++ cs ++ x.2 ++ [c] := by simp only [List.append_assoc]
    rw [this]; exact i3
theorem xr_L (hF : 300 ≤ F) (hs : scnr (tkT B tl) (tkN B tl) (tkE B tl) tl) {d o sub : Nat} (h6 : sub ≤ 6) (ho : o ≤ 5) (hd : 7 * (5 - o) + (7 - sub) ≤ d)
    (IH : ∀ (q : Nat) (out : List Int) (σ : Sg), ivX B tl q out σ → xrP B tl σ out (g_rd F N ln d sub (iI (o : Int)) σ) (rdZ (tkT B tl) (tkN B tl) (tkB B tl) (tkE B tl) d sub o q))
    {op : Int → Int} (hop : op 0 = 0) {L : Nat → Int32 → Sg → Option Sg} (hL : ∀ (n i : Nat) (σ : Sg) (v : Int), i < 160 → σ 30 6 = iI v → 0 ≤ v ∧ v < 1012 → L (n + 1) (iI (i : Int)) σ = if op v = 0 then some σ else bnV (g_X4_advance F N ln σ) fun s_1 => bnV (g_rd F N ln d sub (iI (o : Int)) s_1) fun s_3 => bnV (g_X4_write F N ln (iI (op v)) s_3) fun s_5 => L n (iI ((i + 1 : Nat) : Int)) s_5) (hL1 : op 1 = 0) {out : List Int} :
    ∀ (kl q1 i n : Nat) (cs : List Int) (σ : Sg), i + kl = 160 → kl < n → tl < kl + q1 → ivX B tl q1 (out ++ cs) σ → xrP B tl σ out (L n (iI (i : Int)) σ) (rdL (tkT B tl) (tkE B tl) (fun a b c => rdZ (tkT B tl) (tkN B tl) (tkB B tl) (tkE B tl) d a b c) sub op o kl q1 cs) := by
  intro kl
  induction kl with
  | zero => intro q1 i n cs σ h1 h2 h3 h; have := h.2.2.2.2.2.2.2.2.2; omega
  | succ kl ih =>
    intro q1 i n cs σ h1 h2 h3 h
    obtain ⟨n, rfl⟩ : ∃ q, n = q + 1 := ⟨n - 1, by omega⟩
    have p := ivX_p h
    rw [hL n i σ _ (by omega) h.2.2.2.1 p, rdL]
    by_cases h0 : op (tkT B tl q1) = 0
    · rw [if_pos h0, if_pos h0]
      exact ⟨σ, rfl, frP_r _ σ, h⟩
    · rw [if_neg h0, if_neg h0]
      have t0 : tkT B tl q1 ≠ 0 := fun w => h0 (by rw [w]; exact hop)
      have eb := tkE_b (B := B) h.2.2.2.2.2.2.2.2.2
      have ek := eb.2.2 t0
      refine xr_op hF hs h6 ho hd IH h t0 (fun x τ f1 b1 b2 iv => xr_t f1 (ih x.1 (i + 1) n _ τ (by omega) (by omega) (by omega) iv)) (fun a τ _ dd => ?_)
      obtain ⟨n, rfl⟩ : ∃ q, n = q + 1 := ⟨n - 1, by omega⟩
      by_cases hi : i + 1 < 160
      · rw [hL n (i + 1) τ 1 hi dd.2.2.1 (by omega), if_pos hL1]
        exact ⟨τ, rfl, frP_r _ τ, dd⟩
      · have := h.2.2.2.2.2.2.2.2.2; omega
theorem xr_all (hF : 300 ≤ F) (hs : scnr (tkT B tl) (tkN B tl) (tkE B tl) tl) : ∀ (d tag o q : Nat) (out : List Int) (σ : Sg), tag ≤ 6 → o ≤ 5 → 7 * (5 - o) + (7 - tag) ≤ d → ivX B tl q out σ → xrP B tl σ out (g_rd F N ln d tag (iI (o : Int)) σ) (rdZ (tkT B tl) (tkN B tl) (tkB B tl) (tkE B tl) d tag o q) := by
  intro d
  induction d with
  | zero => intro tag o q out σ h1 h2 h3; omega
  | succ d ih =>
    intro tag o q out σ ht ho hd h
    have p := ivX_p h
    have hq := h.2.2.2.2.2.2.2.2
    have h6 := h.2.2.2.1
    have loop : ∀ (sub : Nat) (op : Int → Int) (L : Nat → Int32 → Sg → Option Sg), sub ≤ 6 → 7 * (5 - o) + (7 - sub) ≤ d → op 0 = 0 → op 1 = 0 → (∀ (n i : Nat) (σ : Sg) (v : Int), i < 160 → σ 30 6 = iI v → 0 ≤ v ∧ v < 1012 → L (n + 1) (iI (i : Int)) σ = if op v = 0 then some σ else bnV (g_X4_advance F N ln σ) fun s_1 => bnV (g_rd F N ln d sub (iI (o : Int)) s_1) fun s_3 => bnV (g_X4_write F N ln (iI (op v)) s_3) fun s_5 => L n (iI ((i + 1 : Nat) : Int)) s_5) → xrP B tl σ out (bnV (g_rd F N ln d sub (iI (o : Int)) σ) fun s => L F 0 s) (bnR (rdZ (tkT B tl) (tkN B tl) (tkB B tl) (tkE B tl) d sub o q) fun q1 c1 => rdL (tkT B tl) (tkE B tl) (fun a b c => rdZ (tkT B tl) (tkN B tl) (tkB B tl) (tkE B tl) d a b c) sub op o 160 q1 c1) := by
      intro sub op L k6 kd hop0 hop1 hL
      have r := ih sub o q out σ k6 ho kd h
      cases hr : rdZ (tkT B tl) (tkN B tl) (tkB B tl) (tkE B tl) d sub o q with
      | inl a =>
        rw [hr] at r
        obtain ⟨σ2, e2, f2, d2⟩ := r
        obtain ⟨g, hg⟩ : ∃ q, F = q + 1 := ⟨F - 1, by omega⟩
        have l0 := hL g 0 σ2 1 (by omega) d2.2.2.1 (by omega)
        rw [if_pos hop1, ← hg] at l0
        rw [e2, bnV_s]
        exact ⟨σ2, l0, f2, d2⟩
      | inr x =>
        rw [hr] at r
        obtain ⟨σ2, e2, f2, i2⟩ := r
        have b := rd_b hs k6 ho kd hq.2 hr
        rw [e2, bnV_s, bnR_r]
        exact xr_t f2 (xr_L hF hs k6 ho kd (fun q' o' s' i' => ih sub o q' o' s' k6 ho kd i') hop0 hL hop1 160 x.1 0 F x.2 σ2 (by omega) (by omega) (by have := hs.1; omega) i2)
    rcases (show tag = 0 ∨ tag = 1 ∨ tag = 2 ∨ tag = 3 ∨ tag = 4 ∨ tag = 5 ∨ tag = 6 by omega) with rfl | rfl | rfl | rfl | rfl | rfl | rfl
    · rw [g_rd0, rdZ, if_pos rfl]
      refine loop 1 opE _ (by omega) (by omega) rfl rfl (fun n i σ v hi hv vb => ?_)
      rw [g_X4_readEither_l7, if_neg (by rw [li_160, iI_le (by omega) (by omega)]; omega), hv, li_1003, ite_eq (by omega) (by omega)]
      unfold opE
      by_cases w : v = 1003
      · rw [if_pos w, if_pos w, if_neg (by decide), li_1, iI_add]; rfl
      · rw [if_neg w, if_neg w, if_pos rfl]
    · rw [g_rd1, rdZ, if_neg (by omega), if_pos rfl]
      refine loop 2 opB _ (by omega) (by omega) rfl rfl (fun n i σ v hi hv vb => ?_)
      rw [g_X4_readBoth_l7, if_neg (by rw [li_160, iI_le (by omega) (by omega)]; omega), hv, li_1004, ite_eq (by omega) (by omega)]
      unfold opB
      by_cases w : v = 1004
      · rw [if_pos w, if_pos w, if_neg (by decide), li_1, iI_add]; rfl
      · rw [if_neg w, if_neg w, if_pos rfl]
    · rw [rdZ, if_neg (by omega), if_neg (by omega), if_pos rfl, g_rd2, h6, li_1005, ite_eq (by omega) (by omega)]
      by_cases w : tkT B tl q = 1005
      · rw [if_pos w, if_pos w, li_5, ite_lt (by omega) (by omega)]
        by_cases h5 : o < 5
        · rw [if_pos (by omega), if_pos h5, show (-8 : Int32) = iI (-8) from rfl, li_1, iI_add, show (o : Int) + 1 = ((o + 1 : Nat) : Int) by omega]
          refine xr_op (d := d) (sub := 2) (o := o + 1) (σ := σ) (q1 := q) (out := out) (cs := []) (c := -8) (K := fun s => some s) (f := fun q2 c2 => .inr (q2, c2 ++ [-8])) hF hs (by omega) (by omega) (by omega) (fun q' o' s' i' => ih 2 (o + 1) q' o' s' (by omega) (by omega) (by omega) i') (by rw [List.append_nil]; exact h) (by omega) (fun x τ f1 b1 b2 iv => ⟨τ, rfl, f1, iv⟩) (fun a τ _ dd => ⟨τ, rfl, frP_r _ τ, dd⟩)
        · obtain ⟨τ, e1, f1, d1⟩ := iv_ref (F := F) (N := N) (ln := ln) h
          rw [if_neg (by omega), if_neg h5, e1, bnV_s]
          exact ⟨τ, rfl, f1, d1⟩
      · rw [if_neg w, if_neg w]
        have r := ih 3 o q out σ (by omega) ho (by omega) h
        cases hr : rdZ (tkT B tl) (tkN B tl) (tkB B tl) (tkE B tl) d 3 o q with
        | inl a =>
          rw [hr] at r
          obtain ⟨σ2, e2, f2, d2⟩ := r
          rw [e2, bnV_s]
          exact ⟨σ2, rfl, f2, d2⟩
        | inr x =>
          rw [hr] at r
          obtain ⟨σ2, e2, f2, d2⟩ := r
          rw [e2, bnV_s]
          exact ⟨σ2, rfl, f2, d2⟩
    · rw [g_rd3, rdZ, if_neg (by omega), if_neg (by omega), if_neg (by omega), if_pos rfl]
      have r := ih 4 o q out σ (by omega) ho (by omega) h
      cases hr : rdZ (tkT B tl) (tkN B tl) (tkB B tl) (tkE B tl) d 4 o q with
      | inl a =>
        rw [hr] at r
        obtain ⟨σ2, e2, f2, d2⟩ := r
        rw [e2, bnV_s, li_60, if_neg (dd_6 d2 (by omega)), li_61, if_neg (dd_6 d2 (by omega))]
        exact ⟨σ2, rfl, f2, d2⟩
      | inr x =>
        rw [hr] at r
        obtain ⟨σ2, e2, f2, i2⟩ := r
        have p2 := ivX_p i2
        rw [e2, bnV_s, bnR_r, i2.2.2.2.1, li_60, li_61, ite_eq (by omega) (by omega), ite_eq (by omega) (by omega)]
        unfold g_X4_readComparison_b23 g_X4_readComparison_b39
        rw [i2.2.2.2.1, li_60, ite_eq (by omega) (by omega)]
        have go : ∀ c : Int, tkT B tl x.1 ≠ 0 → xrP B tl σ out (bnV (g_X4_advance F N ln σ2) fun s_1 => bnV (g_rd F N ln d 4 (iI (o : Int)) s_1) fun s_3 => bnV (g_X4_write F N ln (iI c) s_3) fun s_5 => some s_5) (bnR (rdZ (tkT B tl) (tkN B tl) (tkB B tl) (tkE B tl) d 4 o (tkE B tl x.1)) fun q2 c2 => .inr (q2, x.2 ++ c2 ++ [c])) := by
          intro c h0
          exact xr_t f2 (xr_op (c := c) (K := fun s => some s) hF hs (by omega) ho (by omega) (fun q' o' s' i' => ih 4 o q' o' s' (by omega) ho (by omega) i') i2 h0 (fun y τ f1 b1 b2 iv => ⟨τ, rfl, f1, iv⟩) (fun a τ _ dd => ⟨τ, rfl, frP_r _ τ, dd⟩))
        unfold opC
        by_cases w : tkT B tl x.1 = 60
        · rw [if_pos w, if_pos w, if_pos w, if_neg (by decide)]
          exact go (-12) (by omega)
        · rw [if_neg w, if_neg w, if_neg w]
          by_cases w2 : tkT B tl x.1 = 61
          · rw [if_pos w2, if_pos w2, if_neg (by decide)]
            exact go (-13) (by omega)
          · rw [if_neg w2, if_neg w2, if_pos rfl]
            exact ⟨σ2, rfl, f2, i2⟩
    · rw [g_rd4, rdZ, if_neg (by omega), if_neg (by omega), if_neg (by omega), if_neg (by omega), if_pos rfl]
      refine loop 5 opA _ (by omega) (by omega) rfl rfl (fun n i σ v hi hv vb => ?_)
      rw [g_X4_readSum_l7, if_neg (by rw [li_160, iI_le (by omega) (by omega)]; omega), hv, li_43, li_45, ite_eq (by omega) (by omega), ite_eq (by omega) (by omega)]
      unfold g_X4_readSum_b32 g_X4_readSum_b48 opA
      rw [hv, li_43, ite_eq (by omega) (by omega), li_1, iI_add]
      by_cases w : v = 43
      · rw [if_pos w, if_pos w, if_pos w, if_neg (by decide)]; rfl
      · rw [if_neg w, if_neg w, if_neg w]
        by_cases w2 : v = 45
        · rw [if_pos w2, if_pos w2, if_neg (by decide)]; rfl
        · rw [if_neg w2, if_neg w2, if_pos rfl]
    · rw [g_rd5, rdZ, if_neg (by omega), if_neg (by omega), if_neg (by omega), if_neg (by omega), if_neg (by omega), if_pos rfl]
      refine loop 6 opM _ (by omega) (by omega) rfl rfl (fun n i σ v hi hv vb => ?_)
      rw [g_X4_readTerm_l7, if_neg (by rw [li_160, iI_le (by omega) (by omega)]; omega), hv, li_42, ite_eq (by omega) (by omega)]
      unfold opM
      by_cases w : v = 42
      · rw [if_pos w, if_pos w, if_neg (by decide), li_1, iI_add]; rfl
      · rw [if_neg w, if_neg w, if_pos rfl]
    · rw [g_rd6, rdZ, if_neg (by omega), if_neg (by omega), if_neg (by omega), if_neg (by omega), if_neg (by omega), if_neg (by omega), rdO]
      unfold g_X4_readOne g_X4_readOne_b88 g_X4_readOne_b122
      have eb := tkE_b (B := B) hq.2
      have one : ∀ c : Int, tkT B tl q ≠ 0 → xrP B tl σ out (bnV (g_X4_write F N ln (iI c) σ) fun s_11 => bnV (g_X4_advance F N ln s_11) fun s_13 => some s_13) (.inr (tkE B tl q, [c])) := by
        intro c h0
        have ek := eb.2.2 h0
        have t1 := h.1.1
        have hw := x_write (F := F) (N := N) (ln := ln) (σ := σ) (u := out.length) (by omega) h.2.2.2.2.2.2.1 (iI c)
        have fr : frP pxS σ (st (st σ 32 out.length (iI c)) 30 4 (iI ((out.length + 1 : Nat) : Int))) := frP_s (frP_s (frP_r _ σ) (Or.inr rfl)) (Or.inl ⟨rfl, by omega⟩)
        rw [hw, bnV_s]
        have tp := tpX_of h.1 (P := fun a j => a = 32 ∨ (a = 30 ∧ j = 4)) (τ := st (st σ 32 out.length (iI c)) 30 4 (iI ((out.length + 1 : Nat) : Int))) (frP_s (frP_s (frP_r _ σ) (Or.inl rfl)) (Or.inr ⟨rfl, rfl⟩)) (fun a j w => by omega)
        obtain ⟨τ, e, f, q5, q6, q7, q8⟩ := x_adv (F := F) (N := N) (ln := ln) hF eb.2.1 tp (by rw [st_j (by omega), st_k (by omega)]; exact h.2.1) (by rw [st_j (by omega), st_k (by omega)]; exact h.2.2.1)
        rw [e, bnV_s]
        refine ⟨τ, rfl, frP_t fr (frP_w f (fun a j w => Or.inl (by omega))), tpX_of tp f (fun a j w => by omega), by rw [f 30 9 (by omega), st_j (by omega), st_k (by omega)]; exact h.2.1, q5, q6, q7, q8, ?_, fun i hi => ?_, ?_, eb.2.1⟩
        · rw [f 30 4 (by omega), st_e, List.length_append, List.length_singleton]
        · rw [List.length_append, List.length_singleton] at hi
          rw [f 32 i (by omega), st_k (by omega), List.getD_eq_getElem?_getD]
          by_cases e : i = out.length
          · subst e; rw [st_e, List.getElem?_append_right (Nat.le_refl _), Nat.sub_self]; rfl
          · rw [st_j e, List.getElem?_append_left (by omega), ← List.getD_eq_getElem?_getD]; exact h.2.2.2.2.2.2.2.1 i (by omega)
        · rw [List.length_append, List.length_singleton]; show out.length + 1 ≤ tkE B tl q; omega
      have no : ∃ τ, (bnV (g_X4_refuse F N ln σ) fun s_1 => some s_1) = some τ ∧ frP pxS σ τ ∧ ddX (tkB B tl q) τ := by
        obtain ⟨τ, e1, f1, d1⟩ := iv_ref (F := F) (N := N) (ln := ln) h
        rw [e1, bnV_s]
        exact ⟨τ, rfl, f1, d1⟩
      rw [h6, li_2, ite_eq (by omega) (by omega)]
      by_cases w2 : tkT B tl q = 2
      · rw [if_pos w2, if_pos w2, h.2.2.2.2.2.1 w2]
        exact one _ (by omega)
      · rw [if_neg w2, if_neg w2, li_1006, ite_lt (by omega) (by omega)]
        by_cases w6 : tkT B tl q < 1006
        · rw [if_pos w6, if_pos w6, li_45, ite_eq (by omega) (by omega), li_40, ite_eq (by omega) (by omega), li_5, ite_le (by omega) (by omega)]
          by_cases w45 : tkT B tl q = 45
          · rw [if_pos w45]
            by_cases h5 : o < 5
            · rw [if_neg (show ¬ (5 : Int) ≤ (o : Int) by omega), if_pos (show tkT B tl q = 45 ∧ o < 5 from ⟨w45, h5⟩), show (-7 : Int32) = iI (-7) from rfl, li_1, iI_add, show (o : Int) + 1 = ((o + 1 : Nat) : Int) by omega]
              exact xr_op (d := d) (sub := 6) (o := o + 1) (σ := σ) (q1 := q) (out := out) (cs := []) (c := -7) (K := fun s => some s) (f := fun q2 c2 => .inr (q2, c2 ++ [-7])) hF hs (by omega) (by omega) (by omega) (fun q' o' s' i' => ih 6 (o + 1) q' o' s' (by omega) (by omega) (by omega) i') (by rw [List.append_nil]; exact h) (by omega) (fun x τ f1 b1 b2 iv => ⟨τ, rfl, f1, iv⟩) (fun a τ _ dd => ⟨τ, rfl, frP_r _ τ, dd⟩)
            · rw [if_pos (show (5 : Int) ≤ (o : Int) by omega), if_neg (show ¬ tkT B tl q = 40 by omega), if_neg (show ¬ (tkT B tl q = 45 ∧ o < 5) from fun w => h5 w.2), if_neg (show ¬ (tkT B tl q = 40 ∧ o < 5) from fun w => h5 w.2)]
              exact no
          · rw [if_neg w45, if_neg (show ¬ (tkT B tl q = 45 ∧ o < 5) from fun w => w45 w.1)]
            by_cases w40 : tkT B tl q = 40
            · rw [if_pos w40, ite_le (by omega) (by omega)]
              by_cases h5 : o < 5
              · rw [if_neg (show ¬ (5 : Int) ≤ (o : Int) by omega), if_pos (show tkT B tl q = 40 ∧ o < 5 from ⟨w40, h5⟩), li_1, iI_add, show (o : Int) + 1 = ((o + 1 : Nat) : Int) by omega]
                obtain ⟨σ1, e1, f1, i1⟩ := iv_adv (F := F) (N := N) (ln := ln) hF h
                rw [e1, bnV_s]
                show xrP B tl σ out (bnV (g_rd F N ln d 0 (iI ((o + 1 : Nat) : Int)) σ1) fun s_3 => bnV (g_X4_demand F N ln 41 s_3) fun s_5 => some s_5) _
                have r := ih 0 (o + 1) _ out σ1 (by omega) (by omega) (by omega) i1
                cases hr : rdZ (tkT B tl) (tkN B tl) (tkB B tl) (tkE B tl) d 0 (o + 1) (tkE B tl q) with
                | inl a =>
                  rw [hr] at r
                  obtain ⟨σ2, e2, f2, d2⟩ := r
                  obtain ⟨σ3, e3, f3, d3⟩ := dd_dem (F := F) (N := N) (ln := ln) d2 (w := 41) (by omega)
                  rw [e2, bnV_s, li_41, e3, bnV_s]
                  exact ⟨σ3, rfl, frP_t f1 (frP_t f2 f3), d3⟩
                | inr x =>
                  rw [hr] at r
                  obtain ⟨σ2, e2, f2, i2⟩ := r
                  rw [e2, bnV_s, bnR_r, li_41]
                  rcases iv_dem (F := F) (N := N) (ln := ln) hF i2 (w := 41) (by omega) with ⟨w, σ3, e3, f3, i3⟩ | ⟨w, σ3, e3, f3, d3⟩
                  · rw [if_pos w, e3, bnV_s]
                    exact ⟨σ3, rfl, frP_t f1 (frP_t f2 f3), i3⟩
                  · rw [if_neg w, e3, bnV_s]
                    exact ⟨σ3, rfl, frP_t f1 (frP_t f2 f3), d3⟩
              · rw [if_pos (show (5 : Int) ≤ (o : Int) by omega), if_neg (show ¬ (tkT B tl q = 40 ∧ o < 5) from fun w => h5 w.2)]
                exact no
            · rw [if_neg w40, if_neg (show ¬ (tkT B tl q = 40 ∧ o < 5) from fun w => w40 w.1)]
              exact no
        · rw [if_neg w6, if_neg w6, li_n1, iI_sub, iI_sub]
          exact one _ (by omega)
end
