/-! what holds of both objects between two calls -/
def RelC (C : CD) (lw : Nat) (cd : Nat → Nat → List Int) (N : Nat) (ln : Nat → Nat) (x m : Sg) : Prop :=
  okC C ∧ (C 0 1 ≤ 999 ∧ C 0 4 = -1) ∧ (lw < N ∧ N ≤ 6) ∧ courtR C x 1 ∧ x 1 3 = iI (lw : Int) ∧ courtM C m ∧ m 0 11 = iI (lw : Int) ∧ x 0 8 = iI (N : Int) ∧ m 0 10 = iI (N : Int) ∧ ∀ t, t < N → txR ln x m t (cd t)
def RelT (x m : Sg) : Prop := ∃ tl : Nat, tl ≤ 160 ∧ x 30 1 = iI (tl : Int) ∧ m 0 7 = iI (tl : Int) ∧ ∀ i, i < tl → ∃ b : Int, (0 ≤ b ∧ b ≤ 255) ∧ x 31 i = iI b ∧ m 4 i = iI b
def RelI (C : CD) (N : Nat) (x m : Sg) : Prop := (x 0 3 = iI 0 ∧ m 0 12 = iI 0) ∨ (x 0 3 = iI 1 ∧ m 0 12 = iI 1 ∧ ∃ (D : CD) (lw : Nat), okC D ∧ (D 0 1 ≤ 999 ∧ D 0 4 = -1) ∧ lw < N ∧ D 0 0 ≤ C 0 0 ∧ (∀ p, p < cN D → D 1 p = C 1 p ∧ D 2 p = C 2 p) ∧ courtR D x 11 ∧ x 11 3 = iI (lw : Int) ∧ (m 8 0 = iI (D 0 0) ∧ m 8 1 = iI (D 0 1) ∧ m 8 2 = iI (D 0 2) ∧ m 8 3 = iI (lw : Int)) ∧ ∀ p, p < cN D → m 7 (2 * p) = iI (D 3 p) ∧ m 7 (2 * p + 1) = iI (D 4 p))
def RelS (x m : Sg) : Prop := ∀ s, s < 4 → ∃ so sz : Int, (-1 ≤ so ∧ so ≤ 2) ∧ (0 ≤ sz ∧ sz ≤ 40) ∧ (x (36 + 2 * s) 0 = iI so ∧ m 9 s = iI so) ∧ (x (36 + 2 * s) 1 = iI sz ∧ m 10 s = iI sz) ∧ ∀ i, i < 40 → x (37 + 2 * s) i = m 11 (40 * s + i)
def wdL : List Int := [99, 111, 111, 108, 115, 32, 32, 32, 119, 97, 105, 116, 115, 32, 32, 32, 108, 105, 107, 101, 115, 32, 32, 32, 104, 101, 97, 116, 32, 32, 32, 32, 109, 105, 110, 117, 116, 101, 32, 32, 100, 111, 119, 110, 32, 32, 32, 32, 114, 97, 110, 107, 32, 32, 32, 32, 109, 111, 111, 100, 32, 32, 32, 32, 109, 111, 114, 101, 32, 32, 32, 32, 111, 114, 32, 32, 32, 32, 32, 32, 97, 110, 100, 32, 32, 32, 32, 32, 110, 111, 116, 32, 32, 32, 32, 32]
def RelW (m : Sg) : Prop := ∀ i, i < 96 → m 13 i = iI (wdL.getD i 0)
def Rel (N : Nat) (ln : Nat → Nat) (x m : Sg) : Prop := ∃ (C : CD) (lw : Nat) (cd : Nat → Nat → List Int), RelC C lw cd N ln x m ∧ RelT x m ∧ RelI C N x m ∧ RelS x m ∧ RelW m
/-- both answer alike, and the same holds of both again -/
def Go {α : Type} (N : Nat) (ln : Nat → Nat) (ox om : Option (Sg × α)) : Prop := ∃ x' m' r, ox = some (x', r) ∧ om = some (m', r) ∧ Rel N ln x' m'
/-- what stays -/
def frX (x x' : Sg) : Prop := (∀ a, (a ≤ 5 ∨ (11 ≤ a ∧ a ≤ 15) ∨ (26 ≤ a ∧ a ≤ 28) ∨ a = 31 ∨ 36 ≤ a) → x' a = x a) ∧ x' 30 1 = x 30 1
def frY (m m' : Sg) : Prop := (∀ a j, 0 < a → a < 14 → m' a j = m a j) ∧ ∀ j, j < 19 → m' 0 j = m 0 j
theorem frX_r (x : Sg) : frX x x := ⟨fun _ _ => rfl, rfl⟩
theorem frY_r (m : Sg) : frY m m := ⟨fun _ _ _ _ => rfl, fun _ _ => rfl⟩
theorem frX_t {x y z : Sg} (h : frX x y) (h2 : frX y z) : frX x z := ⟨fun a ha => (h2.1 a ha).trans (h.1 a ha), h2.2.trans h.2⟩
theorem frY_t {x y z : Sg} (h : frY x y) (h2 : frY y z) : frY x z := ⟨fun a j h0 h1 => (h2.1 a j h0 h1).trans (h.1 a j h0 h1), fun j h1 => (h2.2 j h1).trans (h.2 j h1)⟩
theorem frY_m {m m' : Sg} (h : frM m m') : frY m m' := ⟨fun a j h0 h1 => by rw [h.1 a h0 (by omega)], fun j h1 => h.2 j (by omega)⟩
theorem frX_s {x x' : Sg} (h : ∀ a, a < 16 ∨ 24 < a → x' a = x a) : frX x x' := ⟨fun a ha => h a (by omega), by rw [h 30 (by omega)]⟩
theorem RelC_of {C : CD} {lw : Nat} {cd : Nat → Nat → List Int} {N : Nat} {ln : Nat → Nat} {x m x' m' : Sg} (h : RelC C lw cd N ln x m) (hx : frX x x') (hm : frY m m') : RelC C lw cd N ln x' m' := by
  obtain ⟨h1, h2, h3, h4, h5, h6, h7, h8, h9, h10⟩ := h
  refine ⟨h1, h2, h3, courtR_of h4 (fun a ha hb => hx.1 a (by omega)), by rw [hx.1 1 (by omega)]; exact h5, ?_, by rw [hm.2 11 (by omega)]; exact h7, by rw [hx.1 0 (by omega)]; exact h8, by rw [hm.2 10 (by omega)]; exact h9, fun t ht => ?_⟩
  · obtain ⟨c0, c1, c2, c3⟩ := h6
    refine ⟨by rw [hm.2 0 (by omega)]; exact c0, by rw [hm.2 4 (by omega)]; exact c1, by rw [hm.2 5 (by omega)]; exact c2, fun p hp => ?_⟩
    rw [hm.1 1 p (by omega) (by omega), hm.1 2 p (by omega) (by omega), hm.1 3 _ (by omega) (by omega), hm.1 3 _ (by omega) (by omega)]
    exact c3 p hp
  · have q : (26 ≤ tc t + 1 ∧ tc t + 1 ≤ 28 ∨ 44 ≤ tc t + 1) ∧ (26 ≤ tc t + 2 ∧ tc t + 2 ≤ 28 ∨ 44 ≤ tc t + 2) := by
      rcases Nat.eq_zero_or_pos t with rfl | h0
      · decide
      · rw [tc_s h0]; omega
    exact txR_of (h10 t ht) rfl (hx.1 _ (by omega)) (hx.1 _ (by omega)) (fun j _ => hm.1 5 _ (by omega) (by omega)) (fun j _ => hm.1 6 _ (by omega) (by omega))
/-- what stays where the court changes -/
def fcX (x x' : Sg) : Prop := (∀ a, (a = 0 ∨ (11 ≤ a ∧ a ≤ 15) ∨ (26 ≤ a ∧ a ≤ 28) ∨ a = 31 ∨ 36 ≤ a) → x' a = x a) ∧ x' 30 1 = x 30 1
def fcY (m m' : Sg) : Prop := (∀ a j, 3 < a → a < 14 → m' a j = m a j) ∧ ∀ j, j < 19 → j ≠ 0 → j ≠ 4 → j ≠ 5 → j ≠ 11 → m' 0 j = m 0 j
theorem fcX_f {x x' : Sg} (h : frX x x') : fcX x x' := ⟨fun a ha => h.1 a (by omega), h.2⟩
theorem fcY_f {m m' : Sg} (h : frY m m') : fcY m m' := ⟨fun a j h1 h2 => h.1 a j (by omega) h2, fun j hj _ _ _ _ => h.2 j hj⟩
theorem RelT_of {x m x' m' : Sg} (h : RelT x m) (hx : fcX x x') (hm : fcY m m') : RelT x' m' := by
  obtain ⟨tl, h1, h2, h3, h4⟩ := h
  refine ⟨tl, h1, by rw [hx.2]; exact h2, by rw [hm.2 7 (by omega) (by omega) (by omega) (by omega) (by omega)]; exact h3, fun i hi => ?_⟩
  rw [hx.1 31 (by omega), hm.1 4 i (by omega) (by omega)]
  exact h4 i hi
theorem RelI_of {C C' : CD} {N : Nat} {x m x' m' : Sg} (h : RelI C N x m) (hx : fcX x x') (hm : fcY m m') (hc : C 0 0 ≤ C' 0 0 ∧ ∀ p, p < cN C → C' 1 p = C 1 p ∧ C' 2 p = C 2 p) : RelI C' N x' m' := by
  unfold RelI
  rw [hx.1 0 (by omega), hm.2 12 (by omega) (by omega) (by omega) (by omega) (by omega)]
  rcases h with h | ⟨h1, h2, D, lw, d1, d2, d3, d4, d5, d6, d7, d8, d9⟩
  · exact Or.inl h
  · refine Or.inr ⟨h1, h2, D, lw, d1, d2, d3, by omega, fun p hp => by rw [(hc.2 p (by unfold cN at hp ⊢; omega)).1, (hc.2 p (by unfold cN at hp ⊢; omega)).2]; exact d5 p hp, courtR_of d6 (fun a ha hb => hx.1 a (by omega)), by rw [hx.1 11 (by omega)]; exact d7, ?_, fun p hp => ?_⟩
    · rw [hm.1 8 _ (by omega) (by omega), hm.1 8 _ (by omega) (by omega), hm.1 8 _ (by omega) (by omega), hm.1 8 _ (by omega) (by omega)]; exact d8
    · rw [hm.1 7 _ (by omega) (by omega), hm.1 7 _ (by omega) (by omega)]; exact d9 p hp
theorem RelS_of {x m x' m' : Sg} (h : RelS x m) (hx : fcX x x') (hm : fcY m m') : RelS x' m' := by
  intro s hs
  obtain ⟨so, sz, h1, h2, h3, h4, h5⟩ := h s hs
  refine ⟨so, sz, h1, h2, ?_, ?_, fun i hi => ?_⟩
  · rw [hx.1 _ (by omega), hm.1 9 _ (by omega) (by omega)]; exact h3
  · rw [hx.1 _ (by omega), hm.1 10 _ (by omega) (by omega)]; exact h4
  · rw [hx.1 _ (by omega), hm.1 11 _ (by omega) (by omega)]; exact h5 i hi
theorem RelW_of {m m' : Sg} (h : RelW m) (hm : fcY m m') : RelW m' := fun i hi => by rw [hm.1 13 _ (by omega) (by omega)]; exact h i hi
theorem Rel_of {N : Nat} {ln : Nat → Nat} {x m x' m' : Sg} (h : Rel N ln x m) (hx : frX x x') (hm : frY m m') : Rel N ln x' m' := by
  obtain ⟨C, lw, cd, h1, h2, h3, h4, h5⟩ := h
  exact ⟨C, lw, cd, RelC_of h1 hx hm, RelT_of h2 (fcX_f hx) (fcY_f hm), RelI_of h3 (fcX_f hx) (fcY_f hm) ⟨Int.le_refl _, fun _ _ => ⟨rfl, rfl⟩⟩, RelS_of h4 (fcX_f hx) (fcY_f hm), RelW_of h5 (fcY_f hm)⟩
theorem Rel_c {C : CD} {lw : Nat} {cd : Nat → Nat → List Int} {N : Nat} {ln : Nat → Nat} {x m x' m' : Sg} (h : RelC C lw cd N ln x m) (hT : RelT x m) (hI : RelI C N x m) (hS : RelS x m) (hW : RelW m) {C' : CD} {lw' : Nat} (hx : fcX x x') (hm : fcY m m') (h1 : okC C') (h2 : C' 0 1 ≤ 999 ∧ C' 0 4 = -1) (h3 : lw' < N) (h4 : courtR C' x' 1) (h5 : x' 1 3 = iI (lw' : Int)) (h6 : courtM C' m') (h7 : m' 0 11 = iI (lw' : Int)) (hc : C 0 0 ≤ C' 0 0 ∧ ∀ p, p < cN C → C' 1 p = C 1 p ∧ C' 2 p = C 2 p) : Rel N ln x' m' := by
  refine ⟨C', lw', cd, ⟨h1, h2, ⟨h3, h.2.2.1.2⟩, h4, h5, h6, h7, by rw [hx.1 0 (by omega)]; exact h.2.2.2.2.2.2.2.1, by rw [hm.2 10 (by omega) (by omega) (by omega) (by omega) (by omega)]; exact h.2.2.2.2.2.2.2.2.1, fun t ht => ?_⟩, RelT_of hT hx hm, RelI_of hI hx hm hc, RelS_of hS hx hm, RelW_of hW hm⟩
  have q : (26 ≤ tc t + 1 ∧ tc t + 1 ≤ 28 ∨ 44 ≤ tc t + 1) ∧ (26 ≤ tc t + 2 ∧ tc t + 2 ≤ 28 ∨ 44 ≤ tc t + 2) := by
    rcases Nat.eq_zero_or_pos t with rfl | h0
    · decide
    · rw [tc_s h0]; omega
  exact txR_of (h.2.2.2.2.2.2.2.2.2 t ht) rfl (hx.1 _ (by omega)) (hx.1 _ (by omega)) (fun j _ => hm.1 5 _ (by omega) (by omega)) (fun j _ => hm.1 6 _ (by omega) (by omega))
theorem go_v {α : Type} {N : Nat} {ln : Nat → Nat} {x m : Sg} {r r' : α} (h : Rel N ln x m) (e : r = r') : Go N ln (some (x, r)) (some (m, r')) := ⟨x, m, r, rfl, by rw [e], h⟩
theorem go_w {α : Type} {N : Nat} {ln : Nat → Nat} {x m : Sg} {r r' : α} (e : r = r') (h : Rel N ln x m) : Go N ln (some (x, r)) (some (m, r')) := ⟨x, m, r, rfl, by rw [e], h⟩
theorem x_in {F N : Nat} {ln : Nat → Nat} {a lo hi : Int32} {σ : Sg} : g_X6_isWithin F N ln a lo hi σ = some (σ, if lo ≤ a ∧ a ≤ hi then 1 else 0) := by
  unfold g_X6_isWithin
  by_cases h1 : a < lo
  · rw [if_pos h1, if_neg (fun h => Int32.not_lt.mpr h.1 h1)]
  · rw [if_neg h1]
    by_cases h2 : hi < a
    · rw [if_pos h2, if_neg (fun h => Int32.not_lt.mpr h.2 h2)]
    · rw [if_neg h2, if_pos ⟨Int32.not_lt.mp h1, Int32.not_lt.mp h2⟩]
theorem y_in {F : Nat} {a lo hi : Int32} {σ : Sg} : g_X7_in F a lo hi σ = some (σ, if lo ≤ a ∧ a ≤ hi then 1 else 0) := by
  unfold g_X7_in
  by_cases h1 : a < lo
  · rw [if_pos h1, if_neg (fun h => Int32.not_lt.mpr h.1 h1)]
  · rw [if_neg h1]
    by_cases h2 : hi < a
    · rw [if_pos h2, if_neg (fun h => Int32.not_lt.mpr h.2 h2)]
    · rw [if_neg h2, if_pos ⟨Int32.not_lt.mp h1, Int32.not_lt.mp h2⟩]
theorem in_i {lo hi a : Int} (ha : -2147483648 ≤ a ∧ a < 2147483648) (hl : -2147483648 ≤ lo ∧ lo < 2147483648) (hh : -2147483648 ≤ hi ∧ hi < 2147483648) (h : iI lo ≤ iI a ∧ iI a ≤ iI hi) : lo ≤ a ∧ a ≤ hi := by
  rw [iI_le hl ha, iI_le ha hh] at h; exact h
theorem go_0 {α : Type} {N : Nat} {ln : Nat → Nat} {x m : Sg} {r : α} (h : Rel N ln x m) : Go N ln (some (x, r)) (some (m, r)) := ⟨x, m, r, rfl, rfl, h⟩
theorem go_f {α : Type} {N : Nat} {ln : Nat → Nat} {x m x' m' : Sg} {r : α} (h : Rel N ln x m) (hx : frX x x') (hm : frY m m') : Go N ln (some (x', r)) (some (m', r)) := ⟨x', m', r, rfl, rfl, Rel_of h hx hm⟩
theorem go_if {α : Type} {N : Nat} {ln : Nat → Nat} {P Q : Prop} [Decidable P] [Decidable Q] {a b c d : Option (Sg × α)} (h : P ↔ Q) (h1 : P → Go N ln a c) (h2 : ¬ P → Go N ln b d) : Go N ln (if P then a else b) (if Q then c else d) := by
  by_cases hp : P
  · rw [if_pos hp, if_pos (h.mp hp)]; exact h1 hp
  · rw [if_neg hp, if_neg (fun q => hp (h.mpr q))]; exact h2 hp
theorem ite_lt {a b : Int} (ha : -2147483648 ≤ a ∧ a < 2147483648) (hb : -2147483648 ≤ b ∧ b < 2147483648) {α : Type} {A B : α} : (if iI a < iI b then A else B) = if a < b then A else B := by
  by_cases h : a < b
  · rw [if_pos h, if_pos (by rw [iI_lt ha hb]; exact h)]
  · rw [if_neg h, if_neg (by rw [iI_lt ha hb]; exact h)]
theorem ite_le {a b : Int} (ha : -2147483648 ≤ a ∧ a < 2147483648) (hb : -2147483648 ≤ b ∧ b < 2147483648) {α : Type} {A B : α} : (if iI a ≤ iI b then A else B) = if a ≤ b then A else B := by
  by_cases h : a ≤ b
  · rw [if_pos h, if_pos (by rw [iI_le ha hb]; exact h)]
  · rw [if_neg h, if_neg (by rw [iI_le ha hb]; exact h)]
theorem ite_eq {a b : Int} (ha : -2147483648 ≤ a ∧ a < 2147483648) (hb : -2147483648 ≤ b ∧ b < 2147483648) {α : Type} {A B : α} : (if iI a = iI b then A else B) = if a = b then A else B := by
  by_cases h : a = b
  · rw [if_pos h, if_pos (by rw [iI_eq ha hb]; exact h)]
  · rw [if_neg h, if_neg (by rw [iI_eq ha hb]; exact h)]
theorem li_n1 : (-1 : Int32) = iI (-1) := rfl
theorem if01 {P : Prop} [Decidable P] {α : Type} {A B : α} : (if (if P then (1 : Int32) else 0) = 0 then A else B) = if P then B else A := by
  by_cases h : P
  · rw [if_pos h, if_pos h, if_neg (by decide)]
  · rw [if_neg h, if_neg h, if_pos rfl]
theorem retZ_if {P : Prop} [Decidable P] {σ : Sg} : retZ σ (if P then 1 else 0) = some (σ, if P then 1 else 0) := by
  by_cases h : P
  · rw [if_pos h]; rfl
  · rw [if_neg h]; rfl
/-! who is there, which sheet -/
theorem x_there {F N : Nat} {ln : Nat → Nat} {C : CD} (hC : okC C) {σ : Sg} (h : σ 1 0 = iI (C 0 0)) {p : Int} (hp : -2147483648 ≤ p ∧ p < 2147483648) : g_X6_isThere F N ln (iI p) σ = some (σ, if 0 ≤ p ∧ p < C 0 0 then 1 else 0) := by
  have := hC.1
  rw [g_X6_isThere, h, li_0, li_1, iI_sub, x_within hp (by omega) (by omega), bnI_s, retZ_if]
  congr 3
  exact propext ⟨fun h => by omega, fun h => by omega⟩
theorem m_one {F : Nat} {C : CD} (hC : okC C) {σ : Sg} (h : σ 0 0 = iI (C 0 0)) {p : Int} (hp : -2147483648 ≤ p ∧ p < 2147483648) : g_X7_isOne F (iI p) σ = some (σ, if 0 ≤ p ∧ p < C 0 0 then 1 else 0) := by
  have := hC.1
  rw [g_X7_isOne, h, li_0, li_1, iI_sub, m_in hp (by omega) (by omega), bnI_s, retZ_if]
  congr 3
  exact propext ⟨fun h => by omega, fun h => by omega⟩
theorem x_sheet {F N : Nat} {ln : Nat → Nat} {σ : Sg} {s : Int} (hp : -2147483648 ≤ s ∧ s < 2147483648) : g_X6_isSheet F N ln (iI s) σ = some (σ, if 0 ≤ s ∧ s ≤ 3 then 1 else 0) := by
  rw [g_X6_isSheet, li_0, li_3, x_within hp (by omega) (by omega), bnI_s, retZ_if]; rfl
theorem x_sort {F N : Nat} {ln : Nat → Nat} {σ : Sg} {s : Int} (hp : -2147483648 ≤ s ∧ s < 2147483648) : g_X6_isSort F N ln (iI s) σ = some (σ, if 0 ≤ s ∧ s ≤ 2 then 1 else 0) := by
  rw [g_X6_isSort, li_0, li_2, x_within hp (by omega) (by omega), bnI_s, retZ_if]; rfl
theorem x_byte {F N : Nat} {ln : Nat → Nat} {σ : Sg} {s : Int} (hp : -2147483648 ≤ s ∧ s < 2147483648) : g_X6_isByte F N ln (iI s) σ = some (σ, if 0 ≤ s ∧ s ≤ 255 then 1 else 0) := by
  rw [g_X6_isByte, li_0, li_255, x_within hp (by omega) (by omega), bnI_s, retZ_if]; rfl
theorem m_byte {F : Nat} {σ : Sg} {s : Int} (hp : -2147483648 ≤ s ∧ s < 2147483648) : g_X7_isByte F (iI s) σ = some (σ, if 0 ≤ s ∧ s ≤ 255 then 1 else 0) := by
  rw [g_X7_isByte, li_0, li_255, m_in hp (by omega) (by omega), bnI_s, retZ_if]; rfl
theorem rdS_i {α : Type} {s : Int} {f : Nat → Option α} (h : 0 ≤ s ∧ s ≤ 3) : rdS (iI s) f = f (36 + 2 * s.toNat) := by
  rw [rdS, iI_cl (by omega), if_neg]
  rw [li_0, iI_lt (by omega) (by omega)]; omega
theorem x_missing {F N : Nat} {ln : Nat → Nat} {k : Nat} {σ : Sg} {so : Int} (h : σ k 0 = iI so) (hb : -1 ≤ so ∧ so ≤ 2) : g_X3_isMissing F N ln k σ = some (σ, if so = -1 then 1 else 0) := by
  rw [g_X3_isMissing, h, li_n1, ite_eq (by omega) (by omega)]
  split <;> rfl
theorem x_place {F N : Nat} {ln : Nat → Nat} {k : Nat} {σ : Sg} {sz : Int} (h : σ k 1 = iI sz) (hb : 0 ≤ sz ∧ sz ≤ 40) {i : Int} (hi : -2147483648 ≤ i ∧ i < 2147483648) : g_X3_hasPlace F N ln k (iI i) σ = some (σ, if 0 ≤ i ∧ i < sz then 1 else 0) := by
  rw [g_X3_hasPlace, h, li_0, ite_lt hi (by omega), ite_le (by omega) hi]
  by_cases h1 : i < 0
  · rw [if_pos h1, if_neg (by omega)]
  · rw [if_neg h1]
    by_cases h2 : sz ≤ i
    · rw [if_pos h2, if_neg (by omega)]
    · rw [if_neg h2, if_pos (by omega)]
theorem x_places {F N : Nat} {ln : Nat → Nat} {k : Nat} {σ : Sg} {sz : Int} (h : σ k 1 = iI sz) (hb : 0 ≤ sz ∧ sz ≤ 40) {i n : Int} (hi : -2147483648 ≤ i ∧ i < 2147483648) (hn : -2147483648 ≤ n ∧ n < 2147483648) : g_X3_hasPlaces F N ln k (iI i) (iI n) σ = some (σ, if 0 ≤ i ∧ 0 ≤ n ∧ i ≤ sz ∧ n ≤ sz - i then 1 else 0) := by
  rw [g_X3_hasPlaces, h, li_0, ite_lt hi (by omega), ite_lt hn (by omega), ite_lt (by omega) hi]
  by_cases h1 : i < 0
  · rw [if_pos h1, if_neg (by omega)]
  · rw [if_neg h1]
    by_cases h2 : n < 0
    · rw [if_pos h2, if_neg (by omega)]
    · rw [if_neg h2]
      by_cases h3 : sz < i
      · rw [if_pos h3, if_neg (by omega)]
      · rw [if_neg h3, iI_sub, ite_lt (by omega) hn]
        by_cases h4 : sz - i < n
        · rw [if_pos h4, if_neg (by omega)]
        · rw [if_neg h4, if_pos (by omega)]
