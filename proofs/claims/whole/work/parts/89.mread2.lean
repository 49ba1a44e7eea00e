def pmS (T a j : Nat) : Prop := (a = 0 ∧ 19 ≤ j ∧ j ≤ 27) ∨ a = 14 ∨ (a = 5 ∧ 200 * T ≤ j ∧ j < 200 * T + 200)
theorem pm_n {T : Nat} {σ τ : Sg} (h : frP (pnS T) σ τ) : frP (pmS T) σ τ := frP_w h (fun a j w => by unfold pnS at w; unfold pmS; omega)
theorem un_len (r : Nat) : ∀ S out : List Int, (unS r S out).2.length + (unS r S out).1.length = out.length + S.length
  | [], out => rfl
  | s :: S, out => by
    unfold unS
    by_cases h : r ≤ rkS s
    · rw [if_pos h, un_len r S (out ++ [s]), List.length_append, List.length_singleton, List.length_cons]; omega
    · rw [if_neg h]
theorem tk_r {B : Nat → Int} {tl : Nat} (hB : ∀ i, i < tl → 0 ≤ B i ∧ B i ≤ 255) {q : Nat} (hq : q ≤ tl) : (0 ≤ tkT B tl q ∧ tkT B tl q ≤ 2) ∨ (40 ≤ tkT B tl q ∧ tkT B tl q ≤ 61) ∨ (1000 ≤ tkT B tl q ∧ tkT B tl q < 1012) := by
  have hb := tkB_b (B := B) hq
  unfold tkT tkX
  generalize tkB B tl q = p at *
  by_cases c1 : tl ≤ p
  · rw [if_pos c1]; exact Or.inl ⟨by show 0 ≤ (0 : Int); omega, by show (0 : Int) ≤ 2; omega⟩
  · rw [if_neg c1]
    have bb := hB p (by omega)
    by_cases c2 : leS (B p) = true
    · rw [if_pos c2]
      have fb := fwS_b (okW B p (spS leS B (tl - p) p)) 12 0
      show (0 ≤ (if wdT B p (spS leS B (tl - p) p) = 12 then (1 : Int) else 1000 + ((wdT B p (spS leS B (tl - p) p) : Nat) : Int)) ∧ (if wdT B p (spS leS B (tl - p) p) = 12 then (1 : Int) else 1000 + ((wdT B p (spS leS B (tl - p) p) : Nat) : Int)) ≤ 2) ∨ _ ∨ (1000 ≤ (if wdT B p (spS leS B (tl - p) p) = 12 then (1 : Int) else 1000 + ((wdT B p (spS leS B (tl - p) p) : Nat) : Int)) ∧ (if wdT B p (spS leS B (tl - p) p) = 12 then (1 : Int) else 1000 + ((wdT B p (spS leS B (tl - p) p) : Nat) : Int)) < 1012)
      split
      · omega
      · rename_i z
        unfold wdT at z ⊢
        exact Or.inr (Or.inr (by omega))
    · rw [if_neg c2]
      by_cases c3 : diS (B p) = true
      · rw [if_pos c3]
        refine Or.inl ?_
        show 0 ≤ (if 4 < spS diS B (tl - p) p - p then (1 : Int) else 2) ∧ (if 4 < spS diS B (tl - p) p - p then (1 : Int) else 2) ≤ 2
        split <;> omega
      · rw [if_neg c3]
        show (0 ≤ (if siS (B p) = true then B p else 1) ∧ (if siS (B p) = true then B p else 1) ≤ 2) ∨ (40 ≤ (if siS (B p) = true then B p else 1) ∧ (if siS (B p) = true then B p else 1) ≤ 61) ∨ _
        by_cases c4 : siS (B p) = true
        · rw [if_pos c4]
          have := of_decide_eq_true c4
          exact Or.inr (Or.inl (by omega))
        · rw [if_neg c4]; exact Or.inl (by omega)
def tkR (t : Int) : Prop := (0 ≤ t ∧ t ≤ 2) ∨ (40 ≤ t ∧ t ≤ 61) ∨ (1000 ≤ t ∧ t < 1012)
theorem mt_b {t : Int} (h : tkR t) : -1 ≤ mtS t ∧ mtS t ≤ 61 := by
  unfold tkR at h; unfold mtS
  repeat' split
  all_goals omega
theorem mt_q {t : Int} (h : tkR t) : (mtS t = 1 ↔ t = 2) ∧ (mtS t = 2 ↔ 1006 ≤ t) ∧ (mtS t = 6 ↔ t = 1005) ∧ (mtS t = 45 ↔ t = 45) ∧ (mtS t = 40 ↔ t = 40) ∧ (mtS t = 59 ↔ t = 59) ∧ (mtS t = 41 ↔ t = 41) ∧ (mtS t = 0 ↔ t = 0) ∧ (mtS t = 3 ↔ 1000 ≤ t ∧ t < 1003) ∧ (mtS t = 4 ↔ t = 1003) ∧ (mtS t = 5 ↔ t = 1004) ∧ (mtS t = 60 ↔ t = 60) ∧ (mtS t = 61 ↔ t = 61) ∧ (mtS t = 43 ↔ t = 43) ∧ (mtS t = 42 ↔ t = 42) := by
  unfold tkR at h; unfold mtS
  by_cases c0 : t = 0
  · rw [if_pos c0]; omega
  rw [if_neg c0]
  by_cases c1 : t = 1
  · rw [if_pos c1]; omega
  rw [if_neg c1]
  by_cases c2 : t = 2
  · rw [if_pos c2]; omega
  rw [if_neg c2]
  by_cases c3 : t < 1000
  · rw [if_pos c3]; omega
  rw [if_neg c3]
  by_cases c4 : t < 1003
  · rw [if_pos c4]; omega
  rw [if_neg c4]
  by_cases c5 : t < 1006
  · rw [if_pos c5]; omega
  rw [if_neg c5]; omega
theorem m_sign {F : Nat} {t : Int} (h : tkR t) {σ : Sg} (h0 : σ 0 21 = iI (mtS t)) : g_X7_signOf F σ = some (σ, iI (if sgS t = 0 then -1 else encM (sgS t))) := by
  obtain ⟨_, _, _, q45, _, _, _, _, _, q4, q5, q60, q61, q43, q42⟩ := mt_q h
  have b := mt_b h
  unfold g_X7_signOf sgS
  rw [h0, li_4, li_5, li_60, li_61, li_43, li_45, li_42, ite_eq (by omega) (by omega), ite_eq (by omega) (by omega), ite_eq (by omega) (by omega), ite_eq (by omega) (by omega), ite_eq (by omega) (by omega), ite_eq (by omega) (by omega), ite_eq (by omega) (by omega)]
  by_cases c1 : t = 1003
  · rw [if_pos (q4.mpr c1), if_pos c1]; rfl
  rw [if_neg (fun w => c1 (q4.mp w)), if_neg c1]
  by_cases c2 : t = 1004
  · rw [if_pos (q5.mpr c2), if_pos c2]; rfl
  rw [if_neg (fun w => c2 (q5.mp w)), if_neg c2]
  by_cases c3 : t = 60
  · rw [if_pos (q60.mpr c3), if_pos c3]; rfl
  rw [if_neg (fun w => c3 (q60.mp w)), if_neg c3]
  by_cases c4 : t = 61
  · rw [if_pos (q61.mpr c4), if_pos c4]; rfl
  rw [if_neg (fun w => c4 (q61.mp w)), if_neg c4]
  by_cases c5 : t = 43
  · rw [if_pos (q43.mpr c5), if_pos c5]; rfl
  rw [if_neg (fun w => c5 (q43.mp w)), if_neg c5]
  by_cases c6 : t = 45
  · rw [if_pos (q45.mpr c6), if_pos c6]; rfl
  rw [if_neg (fun w => c6 (q45.mp w)), if_neg c6]
  by_cases c7 : t = 42
  · rw [if_pos (q42.mpr c7), if_pos c7]; rfl
  rw [if_neg (fun w => c7 (q42.mp w)), if_neg c7, if_pos rfl]; rfl
theorem sg_b {t : Int} (h : sgS t ≠ 0) : -15 ≤ sgS t ∧ sgS t ≤ -9 := by
  unfold sgS at h ⊢
  repeat' split
  all_goals first | omega | (exfalso; apply h; simp [*])
section
variable {F : Nat} {B : Nat → Int} {tl T : Nat}
theorem m_unw1 {q r : Nat} (hF : 300 ≤ F) (hr : 1 ≤ r ∧ r ≤ 7) {S out : List Int} {σ : Sg} (h : ivM B tl T q S out σ) : ∃ τ, g_X7_unwinds F (iI (r : Int)) σ = some τ ∧ frP (pnS T) σ τ ∧ ivM B tl T q (unS r S out).1 (unS r S out).2 τ := by
  have := h.2.2.2.2.2.2.2.2
  have := h.1.1
  exact m_unw hr S out F σ (by omega) h
theorem m_betw {q : Nat} (hF : 300 ≤ F) {S out : List Int} {σ : Sg} (h : ivM B tl T q S out σ) {c : Int} (hc : -15 ≤ c ∧ c ≤ -9) (hl : out.length + S.length + 1 ≤ q) : ((rkS c = 4 ∧ hdR (unS 5 S out).1 = 4) ∧ ∃ τ, g_X7_between F (iI (encM c)) σ = some (τ, 0) ∧ frP (pnS T) σ τ) ∨ (¬ (rkS c = 4 ∧ hdR (unS 5 S out).1 = 4) ∧ ∃ τ, g_X7_between F (iI (encM c)) σ = some (τ, 1) ∧ frP (pnS T) σ τ ∧ ivM B tl T q (c :: (unS (if rkS c = 4 then 5 else rkS c) S out).1) (unS (if rkS c = 4 then 5 else rkS c) S out).2 τ) := by
  have ee : encH c = encM c := if_neg (by omega)
  have rk : ∀ σ, g_X7_rank F (iI (encM c)) σ = some (σ, iI ((rkS c : Nat) : Int)) := fun σ => by rw [← ee]; exact (m_rank (Or.inr (by omega))).2
  have rb : 1 ≤ rkS c ∧ rkS c ≤ 6 := by
    unfold rkS
    repeat' split
    all_goals omega
  have t1 := h.1.1
  have hq := h.2.2.2.2.2.2.2.2
  have b17 : ∀ (r : Nat), 1 ≤ r ∧ r ≤ 7 → (rkS c = 4 → r = 5) → (rkS c ≠ 4 → r = rkS c) → ((rkS c = 4 ∧ hdR (unS 5 S out).1 = 4) ∧ ∃ τ, g_X7_between_b17 F (iI (encM c)) (iI (r : Int)) σ = some (τ, 0) ∧ frP (pnS T) σ τ) ∨ (¬ (rkS c = 4 ∧ hdR (unS 5 S out).1 = 4) ∧ ∃ τ, g_X7_between_b17 F (iI (encM c)) (iI (r : Int)) σ = some (τ, 1) ∧ frP (pnS T) σ τ ∧ ivM B tl T q (c :: (unS r S out).1) (unS r S out).2 τ) := by
    intro r hr r4 r5
    obtain ⟨σ1, e1, f1, i1⟩ := m_unw1 hF hr h
    have ul := un_len r S out
    have hl1 := i1.2.2.2.2.2.2.2.2
    unfold g_X7_between_b17 g_X7_between_b55
    rw [e1, bnV_s, rk, bnI_s, li_4, ite_eq (by omega) (by omega)]
    have put : ∃ τ, (bnV (g_X7_holds F (iI (encM c)) σ1) fun s_1 => some (s_1, (1 : Int32))) = some (τ, 1) ∧ frP (pnS T) σ τ ∧ ivM B tl T q (c :: (unS r S out).1) (unS r S out).2 τ := by
      obtain ⟨σ2, e2, f2, i2⟩ := m_holds (F := F) i1 hc (by omega)
      rw [e2, bnV_s]
      exact ⟨σ2, rfl, frP_t f1 f2, i2⟩
    by_cases k4 : rkS c = 4
    · rw [if_pos (by omega), i1.2.2.2.1, li_0, ite_le (by omega) (by omega)]
      have r5 := r4 k4
      subst r5
      cases hS : (unS 5 S out).1 with
      | nil =>
        rw [if_pos (by simp)]
        rw [hS] at put
        exact Or.inr ⟨fun w => absurd w.2 (by show ¬ (0 : Nat) = 4; omega), put⟩
      | cons s S1 =>
        rw [hS] at put
        have i5 := i1.2.2.2.2.1
        rw [hS] at i5
        rw [hS, List.length_cons] at hl1 ul
        rw [List.length_cons, if_neg (by omega), li_1, iI_sub, rdA_i (by omega), show (((S1.length + 1 : Nat) : Int) - 1).toNat = S1.length by omega, i5.1, (m_rank (F := F) (σ := σ1) i5.2.1).2, bnI_s, ite_eq (by have := (m_rank (F := F) (σ := σ1) i5.2.1).1; omega) (by omega)]
        by_cases w : rkS s = 4
        · rw [if_pos (by omega)]
          exact Or.inl ⟨⟨k4, w⟩, σ1, rfl, f1⟩
        · rw [if_neg (by omega)]
          exact Or.inr ⟨fun z => w z.2, put⟩
    · rw [if_neg (by omega)]
      exact Or.inr ⟨fun z => k4 z.1, put⟩
  unfold g_X7_between
  rw [rk, bnI_s, li_4, ite_eq (by omega) (by omega)]
  by_cases k4 : rkS c = 4
  · rw [if_pos (by omega), if_pos k4]
    exact b17 5 (by omega) (fun _ => rfl) (fun w => absurd k4 w)
  · rw [if_neg (by omega), if_neg k4, rk, bnI_s]
    exact b17 (rkS c) (by omega) (fun w => absurd w k4) (fun _ => rfl)
theorem iv_next {q : Nat} (hF : 300 ≤ F) {S out : List Int} {σ : Sg} (h : ivM B tl T q S out σ) : ∃ τ, g_X7_next F σ = some τ ∧ frP (pmS T) σ τ ∧ ivM B tl T (tkE B tl q) S out τ ∧ τ 0 20 = iI ((tkB B tl q : Nat) : Int) ∧ τ 0 21 = iI (mtS (tkT B tl q)) ∧ (tkT B tl q = 2 → τ 0 22 = iI (tkN B tl q)) ∧ (1000 ≤ tkT B tl q → tkT B tl q < 1003 → τ 0 22 = iI (tkT B tl q - 1000)) ∧ (1006 ≤ tkT B tl q → τ 0 22 = iI (tkT B tl q - 1006)) := by
  obtain ⟨h1, ⟨h2, h2'⟩, h3, h4, h5, h6, h7, h8, h9, h10⟩ := h
  obtain ⟨τ, e, f, r1, r2, r3, r4, r5, r6⟩ := m_next hF h10 h1 h3
  have eb := tkE_b (B := B) h10
  exact ⟨τ, e, frP_w f (fun a j w => Or.inl (by omega)), ⟨tpM_of h1 f (fun a j w => by omega), ⟨by rw [f 0 10 (by omega)]; exact h2, h2'⟩, r1, by rw [f 0 25 (by omega)]; exact h4, stkH_of S (fun j _ => f 14 j (by omega)) h5, by rw [f 0 26 (by omega)]; exact h6, by rw [f 0 27 (by omega)]; exact h7, fun i hi => by rw [f 5 _ (by omega)]; exact h8 i hi, by omega, eb.2.1⟩, r2, r3, r4, r5, r6⟩
def syP (B : Nat → Int) (tl T : Nat) (σ : Sg) (v : Option (Sg × Int32)) : Rs → Prop
  | .inl f => ∃ τ, v = some (τ, 0) ∧ frP (pmS T) σ τ ∧ τ 0 20 = iI (f : Int)
  | .inr x => ∃ τ, v = some (τ, 1) ∧ frP (pmS T) σ τ ∧ ivM B tl T x.1 [] x.2 τ
theorem sy_t {σ σ1 : Sg} {v : Option (Sg × Int32)} {r : Rs} (f : frP (pmS T) σ σ1) (h : syP B tl T σ1 v r) : syP B tl T σ v r := by
  cases r with
  | inl a => obtain ⟨τ, e, f2, d⟩ := h; exact ⟨τ, e, frP_t f f2, d⟩
  | inr x => obtain ⟨τ, e, f2, d⟩ := h; exact ⟨τ, e, frP_t f f2, d⟩
theorem m_sy (hF : 300 ≤ F) : ∀ (n : Nat) (w mn : Bool) (S out : List Int) (q : Nat) (σ : Sg), tl < n + q → ivM B tl T q S out σ → syP B tl T σ (g_X7_eRead_l14 F n (if w = true then 1 else 0) (if mn = true then 1 else 0) σ) (sy (tkT B tl) (tkN B tl) (tkB B tl) (tkE B tl) n w mn S out q) := by
  intro n
  induction n with
  | zero => intro w mn S out q σ h1 h; have := h.2.2.2.2.2.2.2.2.2; omega
  | succ n ih =>
    intro w mn S out q σ hn h
    have hq := h.2.2.2.2.2.2.2.2
    have tr : tkR (tkT B tl q) := tk_r (fun i hi => (h.1.2.2.1 i hi).1) hq.2
    obtain ⟨p1, p2, p6, p45, p40, p59, p41, p0, _, _, _, _, _, _, _⟩ := mt_q tr
    have mb := mt_b tr
    have eb := tkE_b (B := B) hq.2
    obtain ⟨σ1, e1, f1, i1, r1, r2, r3, _, r5⟩ := iv_next (F := F) hF h
    rw [g_X7_eRead_l14, e1, bnV_s, sy]
    cases w with
    | true =>
      rw [if_pos rfl, if_neg (show ¬ (1 : Int32) = 0 by decide), if_pos rfl, r2, show (1 : Int32) = iI 1 from rfl, li_2, li_6, ite_eq (by omega) (by omega), ite_eq (by omega) (by omega), ite_eq (by omega) (by omega)]
      have one : ∀ c : Int, (0 ≤ c ∨ -6 ≤ c) → tkT B tl q ≠ 0 → syP B tl T σ (g_X7_eRead_b61 F (fun v1_ v2_ σ_ => g_X7_eRead_l14 F n v1_ v2_ σ_) (if mn = true then 1 else 0) (iI (encM c)) σ1) (sy (tkT B tl) (tkN B tl) (tkB B tl) (tkE B tl) n false mn (unS 7 S (out ++ [c])).1 (unS 7 S (out ++ [c])).2 (tkE B tl q)) := by
        intro c hc h0
        have ek := eb.2.2 h0
        obtain ⟨σ2, e2, f2, i2⟩ := m_puts (F := F) (q2 := tkE B tl q) i1 (c := c) (by omega) rfl
        obtain ⟨σ3, e3, f3, i3⟩ := m_unw1 (F := F) (r := 7) hF (by omega) i2
        unfold g_X7_eRead_b61
        rw [e2, bnV_s, show (7 : Int32) = iI ((7 : Nat) : Int) from rfl, e3, bnV_s]
        exact sy_t (frP_t f1 (frP_t (pm_n f2) (pm_n f3))) (ih false mn _ _ _ σ3 (by omega) i3)
      have fail : syP B tl T σ (some (σ1, 0)) (.inl (tkB B tl q)) := ⟨σ1, rfl, f1, r1⟩
      have opn : ∀ (c : Int) (m2 : Bool), (c = 0 ∨ c = -7 ∨ c = -8) → tkT B tl q ≠ 0 → syP B tl T σ (bnI (g_X7_opensOne F (iI (encH c)) σ1) fun s_3 x_4 => if x_4 = 0 then some (s_3, 0) else g_X7_eRead_l14 F n 1 (if m2 = true then 1 else 0) s_3) (if opnS S = 5 then .inl (tkB B tl q) else sy (tkT B tl) (tkN B tl) (tkB B tl) (tkE B tl) n true m2 (c :: S) out (tkE B tl q)) := by
        intro c m2 hc h0
        have ek := eb.2.2 h0
        rcases m_opens (F := F) i1 hc (by omega) with ⟨w5, e2⟩ | ⟨w5, σ2, e2, f2, i2⟩
        · rw [e2, bnI_s, if_pos rfl, if_pos w5]; exact fail
        · rw [e2, bnI_s, if_neg (by decide), if_neg w5]
          exact sy_t (frP_t f1 (pm_n f2)) (ih true m2 _ _ _ σ2 (by omega) i2)
      unfold g_X7_eRead_b38
      rw [r2, show (1 : Int32) = iI 1 from rfl, ite_eq (by omega) (by omega)]
      by_cases c2 : tkT B tl q = 2
      · rw [if_pos (p1.mpr c2), if_pos (p1.mpr c2), if_pos c2, r3 c2, li_100000, iI_add]
        have nb := (tk_s h.1.1 (fun i hi => (h.1.2.2.1 i hi).1)).2.2.1 q hq.2 c2
        have en : encM (tkN B tl q) = 100000 + tkN B tl q := if_pos nb.1
        rw [← en]
        exact one _ (Or.inl nb.1) (by omega)
      · rw [if_neg (fun z => c2 (p1.mp z)), if_neg (fun z => c2 (p1.mp z)), if_neg c2]
        by_cases c6 : 1006 ≤ tkT B tl q
        · rw [if_pos (p2.mpr c6), if_pos c6, r5 c6]
          have en : encM (-1 - (tkT B tl q - 1006)) = tkT B tl q - 1006 := by
            unfold tkR at tr
            unfold encM; rw [if_neg (by omega), if_pos (by omega)]; omega
          have o := one (-1 - (tkT B tl q - 1006)) (by unfold tkR at tr; omega) (by omega)
          rw [en] at o
          exact o
        · rw [if_neg (fun z => c6 (p2.mp z)), if_neg c6]
          have rest : syP B tl T σ (g_X7_eRead_b99 F (fun v1_ v2_ σ_ => g_X7_eRead_l14 F n v1_ v2_ σ_) 1 σ1) (if tkT B tl q = 45 then (if opnS S = 5 then .inl (tkB B tl q) else sy (tkT B tl) (tkN B tl) (tkB B tl) (tkE B tl) n true false (-7 :: S) out (tkE B tl q)) else if tkT B tl q = 40 then (if opnS S = 5 then .inl (tkB B tl q) else sy (tkT B tl) (tkN B tl) (tkB B tl) (tkE B tl) n true true (0 :: S) out (tkE B tl q)) else .inl (tkB B tl q)) := by
            unfold g_X7_eRead_b99
            rw [r2, li_45, li_40, ite_eq (by omega) (by omega), ite_eq (by omega) (by omega)]
            by_cases c45 : tkT B tl q = 45
            · rw [if_pos (p45.mpr c45), if_pos c45]
              exact opn (-7) false (by omega) (by omega)
            · rw [if_neg (fun z => c45 (p45.mp z)), if_neg c45]
              by_cases c40 : tkT B tl q = 40
              · rw [if_pos (p40.mpr c40), if_pos c40]
                exact opn 0 true (by omega) (by omega)
              · rw [if_neg (fun z => c40 (p40.mp z)), if_neg c40]; exact fail
          by_cases c5 : tkT B tl q = 1005
          · rw [if_pos (p6.mpr c5)]
            cases mn with
            | true =>
              rw [if_pos rfl, if_neg (show ¬ iI 1 = 0 by decide), if_pos (show tkT B tl q = 1005 ∧ true = true from ⟨c5, rfl⟩)]
              exact opn (-8) true (by omega) (by omega)
            | false =>
              rw [if_neg (show ¬ false = true by decide), if_pos (show (0 : Int32) = 0 from rfl), if_neg (show ¬ (tkT B tl q = 1005 ∧ false = true) from fun z => absurd z.2 (by decide))]
              exact rest
          · rw [if_neg (fun z => c5 (p6.mp z)), if_neg (show ¬ (tkT B tl q = 1005 ∧ mn = true) from fun z => c5 z.1)]
            exact rest
    | false =>
      rw [if_neg (show ¬ false = true by decide), if_pos (show (0 : Int32) = 0 from rfl), if_neg (show ¬ false = true by decide), r2, li_59, li_41, ite_eq (by omega) (by omega), ite_eq (by omega) (by omega)]
      have e7 : ∀ r : Nat, (iI (r : Int)) = iI ((r : Nat) : Int) := fun _ => rfl
      by_cases c59 : tkT B tl q = 59
      · obtain ⟨σ2, e2, f2, i2⟩ := m_unw1 (F := F) (r := 1) hF (by omega) i1
        have l2 := i2.2.2.2.1
        have l3 := i2.2.2.2.2.2.2.2.2
        have t1 := h.1.1
        rw [if_pos (p59.mpr c59), if_pos c59, show (1 : Int32) = iI ((1 : Nat) : Int) from rfl, e2, bnV_s, l2, li_0, ite_eq (by omega) (by omega)]
        by_cases z : (unS 1 S out).1 = []
        · rw [z] at i2
          rw [if_pos (by rw [z]; rfl), if_pos z]
          exact ⟨σ2, rfl, frP_t f1 (pm_n f2), i2⟩
        · rw [if_neg (fun w => z (List.eq_nil_of_length_eq_zero (by omega))), if_neg z]
          exact ⟨σ2, rfl, frP_t f1 (pm_n f2), by rw [f2 0 20 (by unfold pnS; omega)]; exact r1⟩
      · rw [if_neg (fun z => c59 (p59.mp z)), if_neg c59]
        by_cases c41 : tkT B tl q = 41
        · obtain ⟨σ2, e2, f2, i2⟩ := m_unw1 (F := F) (r := 1) hF (by omega) i1
          have l2 := i2.2.2.2.1
          have l3 := i2.2.2.2.2.2.2.2.2
          have t1 := h.1.1
          have ek := eb.2.2 (by omega)
          rw [if_pos (p41.mpr c41), if_pos c41, show (1 : Int32) = iI ((1 : Nat) : Int) from rfl, e2, bnV_s, l2, li_0, ite_eq (by omega) (by omega), clsS]
          cases hZ : (unS 1 S out).1 with
          | nil =>
            rw [if_pos (by rfl)]
            exact ⟨σ2, rfl, frP_t f1 (pm_n f2), by rw [f2 0 20 (by unfold pnS; omega)]; exact r1⟩
          | cons s S0 =>
            rw [hZ] at i2 l2 l3
            rw [List.length_cons] at l2 l3 ⊢
            obtain ⟨h1, ⟨h2, h2'⟩, h3, h4, ⟨h5, h5', h5''⟩, h6, h7, h8, h9, h10⟩ := id i2
            have s0 : s = 0 := by
              have hh : ∀ (S out : List Int), stkH σ1 S → ∀ s S0, (unS 1 S out).1 = s :: S0 → s = 0 := by
                intro S
                induction S with
                | nil => intro out _ s S0 e; cases e
                | cons a S ihS =>
                  intro out hst s S0 e
                  unfold unS at e
                  by_cases z : 1 ≤ rkS a
                  · rw [if_pos z] at e; exact ihS _ hst.2.2 s S0 e
                  · rw [if_neg z] at e
                    obtain ⟨rfl, _⟩ := List.cons.inj e
                    rcases hst.2.1 with z0 | z0
                    · exact z0
                    · exfalso; apply z
                      unfold rkS
                      repeat' split
                      all_goals omega
              exact hh S out i1.2.2.2.2.1 s S0 hZ
            subst s0
            have fr : frP (pnS T) σ2 (st (st σ2 0 25 (iI ((S0.length : Nat) : Int))) 0 26 (iI ((opnS S0 : Nat) : Int))) := frP_s (frP_s (frP_r _ σ2) (Or.inl ⟨rfl, by omega, by omega⟩)) (Or.inl ⟨rfl, by omega, by omega⟩)
            have t0 : ∀ a j, ¬ (a = 0 ∧ (j = 25 ∨ j = 26)) → (st (st σ2 0 25 (iI ((S0.length : Nat) : Int))) 0 26 (iI ((opnS S0 : Nat) : Int))) a j = σ2 a j := by
              intro a j hj
              by_cases e : a = 0
              · subst e; rw [st_j (fun q => hj ⟨rfl, Or.inr q⟩), st_j (fun q => hj ⟨rfl, Or.inl q⟩)]
              · rw [st_k e, st_k e]
            have iv : ivM B tl T (tkE B tl q) S0 (unS 1 S out).2 (st (st σ2 0 25 (iI ((S0.length : Nat) : Int))) 0 26 (iI ((opnS S0 : Nat) : Int))) := ⟨tpM_of h1 fr (fun a j w => by unfold pnS at w; omega), ⟨by rw [t0 0 10 (by omega)]; exact h2, h2'⟩, by rw [t0 0 19 (by omega)]; exact h3, by rw [st_j (by omega), st_e], stkH_of S0 (fun j _ => t0 14 j (by omega)) h5'', st_e, by rw [t0 0 27 (by omega)]; exact h7, fun i hi => by rw [t0 5 _ (by omega)]; exact h8 i hi, by omega, h10⟩
            obtain ⟨σ3, e3, f3, i3⟩ := m_unw1 (F := F) (r := 7) hF (by omega) iv
            have en : ((opnS (0 :: S0) : Nat) : Int) - ((1 : Nat) : Int) = ((opnS S0 : Nat) : Int) := by rw [opnS, if_pos (Or.inl rfl)]; omega
            rw [if_neg (by omega), wrF_i, iI_sub, show ((S0.length + 1 : Nat) : Int) - ((1 : Nat) : Int) = ((S0.length : Nat) : Int) by omega, wrF_i, st_j (show (26 : Nat) ≠ 25 by omega), h6, iI_sub, en, show (7 : Int32) = iI ((7 : Nat) : Int) from rfl, e3, bnV_s]
            exact sy_t (frP_t f1 (frP_t (pm_n f2) (frP_t (pm_n fr) (pm_n f3)))) (ih false mn _ _ _ σ3 (by omega) i3)
        · rw [if_neg (fun z => c41 (p41.mp z)), if_neg c41, m_sign tr r2, bnI_s]
          by_cases cs : sgS (tkT B tl q) = 0
          · rw [if_pos cs, if_pos cs, if_pos (by rfl)]
            exact ⟨σ1, rfl, f1, r1⟩
          · have sb := sg_b cs
            have h0 : tkT B tl q ≠ 0 := fun z => cs (by rw [z]; decide)
            have ek := eb.2.2 h0
            have xb := encM_b (c := sgS (tkT B tl q)) (by omega)
            have x12 : 12 < encM (sgS (tkT B tl q)) ↔ ¬ rkS (sgS (tkT B tl q)) ≤ 2 := by
              generalize sgS (tkT B tl q) = c at *
              rcases (show c = -15 ∨ c = -14 ∨ c = -13 ∨ c = -12 ∨ c = -11 ∨ c = -10 ∨ c = -9 by omega) with rfl | rfl | rfl | rfl | rfl | rfl | rfl <;> decide
            rw [if_neg cs, if_neg cs, li_n1, ite_eq (by omega) (by omega), if_neg (by omega)]
            rcases m_betw (F := F) hF i1 sb (by omega) with ⟨z, σ2, e2, f2⟩ | ⟨z, σ2, e2, f2, i2⟩
            · rw [e2, bnI_s, if_pos rfl, if_pos z]
              exact ⟨σ2, rfl, frP_t f1 (pm_n f2), by rw [f2 0 20 (by unfold pnS; omega)]; exact r1⟩
            · rw [e2, bnI_s, if_neg (by decide), if_neg z, li_12, ite_lt (by omega) (by omega)]
              unfold g_X7_eRead_b262
              have go := ih true (decide (rkS (sgS (tkT B tl q)) ≤ 2)) _ _ _ σ2 (by omega) i2
              by_cases k2 : rkS (sgS (tkT B tl q)) ≤ 2
              · rw [if_neg (fun w => x12.mp w k2)]
                rw [decide_eq_true k2] at go ⊢
                exact sy_t (frP_t f1 (pm_n f2)) go
              · rw [if_pos (x12.mpr k2)]
                rw [decide_eq_false k2] at go ⊢
                exact sy_t (frP_t f1 (pm_n f2)) go
end
