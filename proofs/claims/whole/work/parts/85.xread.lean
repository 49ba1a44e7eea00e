/-! the class reads down from the whole -/
theorem tk_s {B : Nat → Int} {tl : Nat} (h1 : tl ≤ 160) (hB : ∀ i, i < tl → 0 ≤ B i ∧ B i ≤ 255) : scnr (tkT B tl) (tkN B tl) (tkE B tl) tl := by
  refine ⟨h1, fun q hq => ⟨(tkE_b hq).2.1, (tkE_b hq).2.2⟩, fun q hq h2 => ?_, fun q hq => ?_⟩
  · have hb := tkB_b (B := B) hq
    unfold tkT tkX at h2
    unfold tkN tkX
    generalize tkB B tl q = p at *
    by_cases c1 : tl ≤ p
    · rw [if_pos c1] at h2; exact absurd h2 (by show ¬ (0 : Int) = 2; omega)
    · rw [if_neg c1] at h2 ⊢
      by_cases c2 : leS (B p) = true
      · rw [if_pos c2] at h2
        have h3 : (if wdT B p (spS leS B (tl - p) p) = 12 then (1 : Int) else 1000 + ((wdT B p (spS leS B (tl - p) p) : Nat) : Int)) = 2 := h2
        split at h3 <;> omega
      · rw [if_neg c2] at h2 ⊢
        by_cases c3 : diS (B p) = true
        · rw [if_pos c3] at h2 ⊢
          have h3 : (if 4 < spS diS B (tl - p) p - p then (1 : Int) else 2) = 2 := h2
          by_cases c4 : 4 < spS diS B (tl - p) p - p
          · rw [if_pos c4] at h3; omega
          · have sb := spS_b diS B (tl - p) p
            have nb := nvS_b (B := B) (p := p) (spS diS B (tl - p) p - p) (fun i hi => spS_in diS B (tl - p) p (p + i) (by omega) (by omega))
            have h5 : (10 : Int) ^ (spS diS B (tl - p) p - p) ≤ 10000 := by
              rcases (show spS diS B (tl - p) p - p = 0 ∨ spS diS B (tl - p) p - p = 1 ∨ spS diS B (tl - p) p - p = 2 ∨ spS diS B (tl - p) p - p = 3 ∨ spS diS B (tl - p) p - p = 4 by omega) with z | z | z | z | z <;> rw [z] <;> decide
            show 0 ≤ nvS B p (spS diS B (tl - p) p - p) ∧ nvS B p (spS diS B (tl - p) p - p) ≤ 9999
            omega
        · rw [if_neg c3] at h2
          have h3 : (if siS (B p) = true then B p else 1) = 2 := h2
          by_cases c4 : siS (B p) = true
          · rw [if_pos c4] at h3
            have := of_decide_eq_true c4
            omega
          · rw [if_neg c4] at h3; omega
  · have hb := tkB_b (B := B) hq
    unfold tkT tkX
    generalize tkB B tl q = p at *
    by_cases c1 : tl ≤ p
    · rw [if_pos c1]; show (0 : Int) < 1012; omega
    · rw [if_neg c1]
      have bb := hB p (by omega)
      by_cases c2 : leS (B p) = true
      · rw [if_pos c2]
        have fb := fwS_b (okW B p (spS leS B (tl - p) p)) 12 0
        show (if wdT B p (spS leS B (tl - p) p) = 12 then (1 : Int) else 1000 + ((wdT B p (spS leS B (tl - p) p) : Nat) : Int)) < 1012
        split
        · omega
        · rename_i z
          unfold wdT at z ⊢
          omega
      · rw [if_neg c2]
        by_cases c3 : diS (B p) = true
        · rw [if_pos c3]
          show (if 4 < spS diS B (tl - p) p - p then (1 : Int) else 2) < 1012
          split <;> omega
        · rw [if_neg c3]
          show (if siS (B p) = true then B p else 1) < 1012
          split <;> omega
theorem opn_r : ∀ o, opnS (List.replicate o 0) = o ∧ hdR (List.replicate o 0) = 0
  | 0 => ⟨rfl, rfl⟩
  | o + 1 => by
    rw [List.replicate_succ]
    refine ⟨?_, rfl⟩
    rw [opnS, (opn_r o).1, if_pos (Or.inl rfl)]
theorem rd_b {t n : Nat → Int} {g e : Nat → Nat} {tl : Nat} (hs : scnr t n e tl) {d tag o q : Nat} (h1 : tag ≤ 6) (h2 : o ≤ 5) (h3 : 7 * (5 - o) + (7 - tag) ≤ d) (hq : q ≤ tl) {x : Nat × List Int} (hx : rdZ t n g e d tag o q = .inr x) : q < x.1 ∧ x.1 ≤ tl ∧ x.2.length + q ≤ x.1 ∧ wfp x.2 := by
  have r := rs_all hs (g := g) d tag o q (List.replicate o 0) [] (tl + 1) (decide (tag ≤ 2)) h1 h2 h3 (opn_r o).1 hq (by omega) (by have := (opn_r o).2; exact ⟨fun _ => by omega, fun _ => by omega, fun _ => by omega, fun _ => by omega, fun _ => by omega⟩) (fun w => decide_eq_true w) (fun w => Or.inl (decide_eq_false (by omega)))
  rw [hx] at r
  exact r.1
def pxS (a j : Nat) : Prop := (a = 30 ∧ 4 ≤ j) ∨ a = 32
def ivX (B : Nat → Int) (tl q : Nat) (out : List Int) (σ : Sg) : Prop := tpX B tl σ ∧ σ 30 9 = -1 ∧ σ 30 5 = iI ((tkE B tl q : Nat) : Int) ∧ σ 30 6 = iI (tkT B tl q) ∧ σ 30 7 = iI ((tkB B tl q : Nat) : Int) ∧ (tkT B tl q = 2 → σ 30 8 = iI (tkN B tl q)) ∧ σ 30 4 = iI ((out.length : Nat) : Int) ∧ (∀ i, i < out.length → σ 32 i = iI (out.getD i 0)) ∧ out.length ≤ q ∧ q ≤ tl
def ddX (f : Nat) (σ : Sg) : Prop := f ≤ 160 ∧ σ 30 9 = iI (f : Int) ∧ σ 30 6 = 1 ∧ ∃ u : Nat, u ≤ 160 ∧ σ 30 4 = iI (u : Int)
def xrP (B : Nat → Int) (tl : Nat) (σ : Sg) (out : List Int) (v : Option Sg) : Rs → Prop
  | .inl f => ∃ τ, v = some τ ∧ frP pxS σ τ ∧ ddX f τ
  | .inr x => ∃ τ, v = some τ ∧ frP pxS σ τ ∧ ivX B tl x.1 (out ++ x.2) τ
theorem tk_p {B : Nat → Int} {tl : Nat} (hB : ∀ i, i < tl → 0 ≤ B i ∧ B i ≤ 255) {q : Nat} (hq : q ≤ tl) : 0 ≤ tkT B tl q ∧ tkT B tl q < 1012 := by
  have hb := tkB_b (B := B) hq
  unfold tkT tkX
  generalize tkB B tl q = p at *
  by_cases c1 : tl ≤ p
  · rw [if_pos c1]; show 0 ≤ (0 : Int) ∧ (0 : Int) < 1012; omega
  · rw [if_neg c1]
    have bb := hB p (by omega)
    by_cases c2 : leS (B p) = true
    · rw [if_pos c2]
      have fb := fwS_b (okW B p (spS leS B (tl - p) p)) 12 0
      show 0 ≤ (if wdT B p (spS leS B (tl - p) p) = 12 then (1 : Int) else 1000 + ((wdT B p (spS leS B (tl - p) p) : Nat) : Int)) ∧ (if wdT B p (spS leS B (tl - p) p) = 12 then (1 : Int) else 1000 + ((wdT B p (spS leS B (tl - p) p) : Nat) : Int)) < 1012
      split
      · omega
      · rename_i z
        unfold wdT at z ⊢
        omega
    · rw [if_neg c2]
      by_cases c3 : diS (B p) = true
      · rw [if_pos c3]
        show 0 ≤ (if 4 < spS diS B (tl - p) p - p then (1 : Int) else 2) ∧ (if 4 < spS diS B (tl - p) p - p then (1 : Int) else 2) < 1012
        split <;> omega
      · rw [if_neg c3]
        show 0 ≤ (if siS (B p) = true then B p else 1) ∧ (if siS (B p) = true then B p else 1) < 1012
        split <;> omega
theorem ivX_p {B : Nat → Int} {tl q : Nat} {out : List Int} {σ : Sg} (h : ivX B tl q out σ) : 0 ≤ tkT B tl q ∧ tkT B tl q < 1012 := tk_p (fun i hi => (h.1.2.2 i hi).1) h.2.2.2.2.2.2.2.2.2
theorem iv_adv {F N : Nat} {ln : Nat → Nat} (hF : 300 ≤ F) {B : Nat → Int} {tl q : Nat} {out : List Int} {σ : Sg} (h : ivX B tl q out σ) : ∃ τ, g_X4_advance F N ln σ = some τ ∧ frP pxS σ τ ∧ ivX B tl (tkE B tl q) out τ := by
  obtain ⟨h1, h2, h3, h4, h5, h6, h7, h8, h9, h10⟩ := h
  have eb := tkE_b (B := B) h10
  obtain ⟨τ, e, f, q5, q6, q7, q8⟩ := x_adv (F := F) (N := N) (ln := ln) hF eb.2.1 h1 h2 h3
  refine ⟨τ, e, frP_w f (fun a j w => Or.inl (by omega)), tpX_of h1 f (fun a j w => by omega), by rw [f 30 9 (by omega)]; exact h2, q5, q6, q7, q8, by rw [f 30 4 (by omega)]; exact h7, fun i hi => by rw [f 32 i (by omega)]; exact h8 i hi, by omega, eb.2.1⟩
theorem x_write {F N : Nat} {ln : Nat → Nat} {σ : Sg} {u : Nat} (hu : u < 160) (h : σ 30 4 = iI (u : Int)) (c : Int32) : g_X4_write F N ln c σ = some (st (st σ 32 u c) 30 4 (iI ((u + 1 : Nat) : Int))) := by
  unfold g_X4_write
  rw [h, ofN_i, ite_le (by omega) (by omega), if_neg (by omega), wrA_i (by omega), wrF_i, st_k (by omega), h, li_1, iI_add, Int.toNat_natCast]
  rfl
theorem iv_write {F N : Nat} {ln : Nat → Nat} {B : Nat → Int} {tl q : Nat} {out : List Int} {σ : Sg} (h : ivX B tl q out σ) (hl : out.length < q) (c : Int) : ∃ τ, g_X4_write F N ln (iI c) σ = some τ ∧ frP pxS σ τ ∧ ivX B tl q (out ++ [c]) τ := by
  obtain ⟨h1, h2, h3, h4, h5, h6, h7, h8, h9, h10⟩ := h
  have t1 := h1.1
  have fr : frP pxS σ (st (st σ 32 out.length (iI c)) 30 4 (iI ((out.length + 1 : Nat) : Int))) := frP_s (frP_s (frP_r _ σ) (Or.inr rfl)) (Or.inl ⟨rfl, by omega⟩)
  refine ⟨_, x_write (by omega) h7 _, fr, tpX_of h1 (P := fun a j => a = 32 ∨ (a = 30 ∧ j = 4)) (frP_s (frP_s (frP_r _ σ) (Or.inl rfl)) (Or.inr ⟨rfl, rfl⟩)) (fun a j w => by omega), ?_, ?_, ?_, ?_, fun w => ?_, ?_, fun i hi => ?_, ?_, h10⟩
  · rw [st_j (by omega), st_k (by omega)]; exact h2
  · rw [st_j (by omega), st_k (by omega)]; exact h3
  · rw [st_j (by omega), st_k (by omega)]; exact h4
  · rw [st_j (by omega), st_k (by omega)]; exact h5
  · rw [st_j (by omega), st_k (by omega)]; exact h6 w
  · rw [st_e, List.length_append, List.length_singleton]
  · rw [List.length_append, List.length_singleton] at hi
    rw [st_k (by omega), List.getD_eq_getElem?_getD]
    by_cases e : i = out.length
    · subst e; rw [st_e, List.getElem?_append_right (Nat.le_refl _), Nat.sub_self]; rfl
    · rw [st_j e, List.getElem?_append_left (by omega), ← List.getD_eq_getElem?_getD]; exact h8 i (by omega)
  · rw [List.length_append, List.length_singleton]; omega
theorem iv_ref {F N : Nat} {ln : Nat → Nat} {B : Nat → Int} {tl q : Nat} {out : List Int} {σ : Sg} (h : ivX B tl q out σ) : ∃ τ, g_X4_refuse F N ln σ = some τ ∧ frP pxS σ τ ∧ ddX (tkB B tl q) τ := by
  obtain ⟨h1, h2, h3, h4, h5, h6, h7, h8, h9, h10⟩ := h
  have tb := tkB_b (B := B) h10
  have t1 := h1.1
  unfold g_X4_refuse
  rw [h2, if_pos rfl, wrF_i, wrF_i, h5]
  exact ⟨_, rfl, frP_s (frP_s (frP_r _ σ) (Or.inl ⟨rfl, by omega⟩)) (Or.inl ⟨rfl, by omega⟩), by omega, by rw [st_j (by omega), st_e], by rw [st_e], out.length, by omega, by rw [st_j (by omega), st_j (by omega)]; exact h7⟩
theorem dd_9 {f : Nat} {σ : Sg} (h : ddX f σ) : ¬ σ 30 9 = -1 := by
  rw [h.2.1, li_n1, iI_eq (by have := h.1; omega) (by omega)]; omega
theorem dd_ref {F N : Nat} {ln : Nat → Nat} {f : Nat} {σ : Sg} (h : ddX f σ) : ∃ τ, g_X4_refuse F N ln σ = some τ ∧ frP pxS σ τ ∧ ddX f τ := by
  obtain ⟨h1, h2, h3, u, hu, h4⟩ := id h
  unfold g_X4_refuse
  rw [if_neg (dd_9 h), wrF_i]
  exact ⟨_, rfl, frP_s (frP_r _ σ) (Or.inl ⟨rfl, by omega⟩), h1, by rw [st_j (by omega)]; exact h2, st_e, u, hu, by rw [st_j (by omega)]; exact h4⟩
theorem dd_adv {F N : Nat} {ln : Nat → Nat} {f : Nat} {σ : Sg} (h : ddX f σ) : g_X4_advance F N ln σ = some σ := by
  unfold g_X4_advance
  rw [if_neg (dd_9 h)]
theorem dd_write {F N : Nat} {ln : Nat → Nat} {f : Nat} {σ : Sg} (h : ddX f σ) (c : Int32) : ∃ τ, g_X4_write F N ln c σ = some τ ∧ frP pxS σ τ ∧ ddX f τ := by
  obtain ⟨h1, h2, h3, u, hu, h4⟩ := id h
  by_cases q : u < 160
  · exact ⟨_, x_write q h4 c, frP_s (frP_s (frP_r _ σ) (Or.inr rfl)) (Or.inl ⟨rfl, by omega⟩), h1, by rw [st_j (by omega), st_k (by omega)]; exact h2, by rw [st_j (by omega), st_k (by omega)]; exact h3, u + 1, by omega, st_e⟩
  · unfold g_X4_write
    rw [h4, ofN_i, ite_le (by omega) (by omega), if_pos (by omega)]
    exact ⟨σ, rfl, frP_r _ σ, h⟩
theorem dd_dem {F N : Nat} {ln : Nat → Nat} {f : Nat} {σ : Sg} (h : ddX f σ) {w : Int} (hw : 2 ≤ w ∧ w < 2000) : ∃ τ, g_X4_demand F N ln (iI w) σ = some τ ∧ frP pxS σ τ ∧ ddX f τ := by
  obtain ⟨τ, e, f1, d⟩ := dd_ref (F := F) (N := N) (ln := ln) h
  unfold g_X4_demand
  rw [h.2.2.1, if_neg (by rw [li_1, iI_eq (by omega) (by omega)]; omega), e, bnV_s]
  exact ⟨τ, rfl, f1, d⟩
theorem iv_dem {F N : Nat} {ln : Nat → Nat} (hF : 300 ≤ F) {B : Nat → Int} {tl q : Nat} {out : List Int} {σ : Sg} (h : ivX B tl q out σ) {w : Int} (hw : 0 ≤ w ∧ w < 2000) : (tkT B tl q = w ∧ ∃ τ, g_X4_demand F N ln (iI w) σ = some τ ∧ frP pxS σ τ ∧ ivX B tl (tkE B tl q) out τ) ∨ (tkT B tl q ≠ w ∧ ∃ τ, g_X4_demand F N ln (iI w) σ = some τ ∧ frP pxS σ τ ∧ ddX (tkB B tl q) τ) := by
  have p := ivX_p h
  unfold g_X4_demand
  rw [h.2.2.2.1, ite_eq (by omega) (by omega)]
  by_cases e : tkT B tl q = w
  · obtain ⟨τ, e1, f1, d⟩ := iv_adv (F := F) (N := N) (ln := ln) hF h
    rw [if_pos e, e1, bnV_s]
    exact Or.inl ⟨e, τ, rfl, f1, d⟩
  · obtain ⟨τ, e1, f1, d⟩ := iv_ref (F := F) (N := N) (ln := ln) h
    rw [if_neg e, e1, bnV_s]
    exact Or.inr ⟨e, τ, rfl, f1, d⟩
theorem g_rd0 {F N : Nat} {ln : Nat → Nat} {d : Nat} {a : Int32} {σ : Sg} : g_rd F N ln (d + 1) 0 a σ = bnV (g_rd F N ln d 1 a σ) fun s => g_X4_readEither_l7 F N ln (fun t_ a_ σ_ => g_rd F N ln d t_ a_ σ_) a F 0 s := by rw [g_rd, if_pos rfl]; rfl
theorem g_rd1 {F N : Nat} {ln : Nat → Nat} {d : Nat} {a : Int32} {σ : Sg} : g_rd F N ln (d + 1) 1 a σ = bnV (g_rd F N ln d 2 a σ) fun s => g_X4_readBoth_l7 F N ln (fun t_ a_ σ_ => g_rd F N ln d t_ a_ σ_) a F 0 s := by rw [g_rd, if_neg (by omega), if_pos rfl]; rfl
theorem g_rd2 {F N : Nat} {ln : Nat → Nat} {d : Nat} {a : Int32} {σ : Sg} : g_rd F N ln (d + 1) 2 a σ = if (σ 30 6) = 1005 then (if a < 5 then (bnV (g_X4_advance F N ln σ) fun s_1 => bnV (g_rd F N ln d 2 (a + 1) s_1) fun s_3 => bnV (g_X4_write F N ln (-8) s_3) fun s_5 => some s_5) else (bnV (g_X4_refuse F N ln σ) fun s_7 => some s_7)) else (bnV (g_rd F N ln d 3 a σ) fun s_9 => some s_9) := by rw [g_rd, if_neg (by omega), if_neg (by omega), if_pos rfl]; rfl
theorem g_rd3 {F N : Nat} {ln : Nat → Nat} {d : Nat} {a : Int32} {σ : Sg} : g_rd F N ln (d + 1) 3 a σ = bnV (g_rd F N ln d 4 a σ) fun s_1 => if (s_1 30 6) = 60 then (g_X4_readComparison_b23 F N ln (fun t_ a_ σ_ => g_rd F N ln d t_ a_ σ_) a s_1) else (if (s_1 30 6) = 61 then (g_X4_readComparison_b23 F N ln (fun t_ a_ σ_ => g_rd F N ln d t_ a_ σ_) a s_1) else (some s_1)) := by rw [g_rd, if_neg (by omega), if_neg (by omega), if_neg (by omega), if_pos rfl]; rfl
theorem g_rd4 {F N : Nat} {ln : Nat → Nat} {d : Nat} {a : Int32} {σ : Sg} : g_rd F N ln (d + 1) 4 a σ = bnV (g_rd F N ln d 5 a σ) fun s => g_X4_readSum_l7 F N ln (fun t_ a_ σ_ => g_rd F N ln d t_ a_ σ_) a F 0 s := by rw [g_rd, if_neg (by omega), if_neg (by omega), if_neg (by omega), if_neg (by omega), if_pos rfl]; rfl
theorem g_rd5 {F N : Nat} {ln : Nat → Nat} {d : Nat} {a : Int32} {σ : Sg} : g_rd F N ln (d + 1) 5 a σ = bnV (g_rd F N ln d 6 a σ) fun s => g_X4_readTerm_l7 F N ln (fun t_ a_ σ_ => g_rd F N ln d t_ a_ σ_) a F 0 s := by rw [g_rd, if_neg (by omega), if_neg (by omega), if_neg (by omega), if_neg (by omega), if_neg (by omega), if_pos rfl]; rfl
theorem g_rd6 {F N : Nat} {ln : Nat → Nat} {d : Nat} {a : Int32} {σ : Sg} : g_rd F N ln (d + 1) 6 a σ = g_X4_readOne F N ln (fun t_ a_ σ_ => g_rd F N ln d t_ a_ σ_) a σ := by rw [g_rd, if_neg (by omega), if_neg (by omega), if_neg (by omega), if_neg (by omega), if_neg (by omega), if_neg (by omega), if_pos rfl]
theorem dd_6 {f : Nat} {σ : Sg} (h : ddX f σ) {w : Int} (hw : 2 ≤ w ∧ w < 2000) : ¬ σ 30 6 = iI w := by
  rw [h.2.2.1, li_1, iI_eq (by omega) (by omega)]; omega
/-- behind a fault nothing changes it -/
theorem dd_rd {F N : Nat} {ln : Nat → Nat} (hF : 1 ≤ F) {f : Nat} : ∀ (d tag : Nat) (a : Int32) (σ : Sg), tag ≤ 6 → 7 - tag ≤ d → ddX f σ → ∃ τ, g_rd F N ln d tag a σ = some τ ∧ frP pxS σ τ ∧ ddX f τ := by
  intro d
  induction d with
  | zero => intro tag a σ h1 h2; omega
  | succ d ih =>
    intro tag a σ h1 h2 h
    obtain ⟨g, rfl⟩ : ∃ q, F = q + 1 := ⟨F - 1, by omega⟩
    rcases (show tag = 0 ∨ tag = 1 ∨ tag = 2 ∨ tag = 3 ∨ tag = 4 ∨ tag = 5 ∨ tag = 6 by omega) with rfl | rfl | rfl | rfl | rfl | rfl | rfl
    · obtain ⟨τ, e, f1, d1⟩ := ih 1 a σ (by omega) (by omega) h
      refine ⟨τ, ?_, f1, d1⟩
      rw [g_rd0, e, bnV_s, g_X4_readEither_l7, if_neg (by decide), li_1003, if_neg (dd_6 d1 (by omega))]
    · obtain ⟨τ, e, f1, d1⟩ := ih 2 a σ (by omega) (by omega) h
      refine ⟨τ, ?_, f1, d1⟩
      rw [g_rd1, e, bnV_s, g_X4_readBoth_l7, if_neg (by decide), li_1004, if_neg (dd_6 d1 (by omega))]
    · obtain ⟨τ, e, f1, d1⟩ := ih 3 a σ (by omega) (by omega) h
      refine ⟨τ, ?_, f1, d1⟩
      rw [g_rd2, li_1005, if_neg (dd_6 h (by omega)), e, bnV_s]
    · obtain ⟨τ, e, f1, d1⟩ := ih 4 a σ (by omega) (by omega) h
      refine ⟨τ, ?_, f1, d1⟩
      rw [g_rd3, e, bnV_s, li_60, if_neg (dd_6 d1 (by omega)), li_61, if_neg (dd_6 d1 (by omega))]
    · obtain ⟨τ, e, f1, d1⟩ := ih 5 a σ (by omega) (by omega) h
      refine ⟨τ, ?_, f1, d1⟩
      rw [g_rd4, e, bnV_s, g_X4_readSum_l7, if_neg (by decide), li_43, if_neg (dd_6 d1 (by omega)), li_45, if_neg (dd_6 d1 (by omega))]
    · obtain ⟨τ, e, f1, d1⟩ := ih 6 a σ (by omega) (by omega) h
      refine ⟨τ, ?_, f1, d1⟩
      rw [g_rd5, e, bnV_s, g_X4_readTerm_l7, if_neg (by decide), li_42, if_neg (dd_6 d1 (by omega))]
    · obtain ⟨τ, e, f1, d1⟩ := dd_ref (F := g + 1) (N := N) (ln := ln) h
      refine ⟨τ, ?_, f1, d1⟩
      rw [g_rd6]
      unfold g_X4_readOne g_X4_readOne_b88 g_X4_readOne_b122
      rw [li_2, if_neg (dd_6 h (by omega)), if_pos (by rw [h.2.2.1]; decide), li_45, if_neg (dd_6 h (by omega)), li_40, if_neg (dd_6 h (by omega)), e, bnV_s]
