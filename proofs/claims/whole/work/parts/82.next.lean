/-! the reference reads on -/
def piS (w : Nat) : Nat := if w < 3 then w else if w < 6 then w + 6 else if w < 12 then w - 3 else 12
/-- a token as the reference has it, its number -/
def mtS (t : Int) : Int := if t = 0 then 0 else if t = 1 then -1 else if t = 2 then 1 else if t < 1000 then t else if t < 1003 then 3 else if t < 1006 then t - 999 else 2
def mvS (t n : Int) : Int := if t < 1000 then n else if t < 1003 then t - 1000 else t - 1006
theorem wdD : ∀ w, w < 12 → ∀ v, v < 12 → w ≠ v → ∃ i, i < 6 ∧ wdC.getD (6 * w + i) 0 ≠ wdC.getD (6 * v + i) 0 := by decide +kernel
theorem wd8 : ∀ w, w < 12 → (∀ i, i < 6 → wdL.getD (8 * piS w + i) 0 = wdC.getD (6 * w + i) 0) ∧ wdL.getD (8 * piS w + 6) 0 = 32 ∧ wdL.getD (8 * piS w + 7) 0 = 32 := by decide +kernel
theorem wdb : ∀ k, k < 96 → 0 ≤ wdL.getD k 0 ∧ wdL.getD k 0 ≤ 255 := by decide +kernel
theorem piI : ∀ k, k < 12 → ∃ w, w < 12 ∧ piS w = k := by decide +kernel
def eq8 (B : Nat → Int) (p e w : Nat) : Nat → Nat → Bool
  | 0, _ => true
  | k + 1, i => decide (wdL.getD (8 * w + i) 0 = chW B p e i) && eq8 B p e w k (i + 1)
theorem eq8_t {B : Nat → Int} {p e w : Nat} : ∀ (k i : Nat), eq8 B p e w k i = true ↔ ∀ j, i ≤ j → j < i + k → wdL.getD (8 * w + j) 0 = chW B p e j
  | 0, i => ⟨fun _ j h1 h2 => by omega, fun _ => rfl⟩
  | k + 1, i => by
    rw [eq8, Bool.and_eq_true, eq8_t k (i + 1), decide_eq_true_iff]
    refine ⟨fun h j h1 h2 => ?_, fun h => ⟨h i (Nat.le_refl _) (by omega), fun j h1 h2 => h j (by omega) (by omega)⟩⟩
    by_cases q : j = i
    · rw [q]; exact h.1
    · exact h.2 j (by omega) (by omega)
def ok8 (B : Nat → Int) (p e w : Nat) : Bool := decide (e - p ≤ 8) && eq8 B p e w 8 0
theorem ok_8 {B : Nat → Int} {p e w : Nat} (hw : w < 12) (hL : ∀ i, p ≤ i → i < e → leS (B i) = true) : ok8 B p e (piS w) = okW B p e w := by
  have w8 := wd8 w hw
  rw [Bool.eq_iff_iff]
  unfold ok8 okW
  rw [Bool.and_eq_true, Bool.and_eq_true, eq8_t, eqW_t, decide_eq_true_iff, decide_eq_true_iff]
  constructor
  · rintro ⟨h1, h2⟩
    have h6 := h2 6 (by omega) (by omega)
    rw [w8.2.1] at h6
    have hl : e - p ≤ 6 := by
      rcases Nat.lt_or_ge (p + 6) e with q | q
      · unfold chW at h6
        rw [if_pos q] at h6
        have := of_decide_eq_true (hL (p + 6) (by omega) q)
        omega
      · omega
    exact ⟨hl, fun j j1 j2 => by rw [← w8.1 j (by omega)]; exact (h2 j j1 (by omega)).symm⟩
  · rintro ⟨h1, h2⟩
    refine ⟨by omega, fun j j1 j2 => ?_⟩
    by_cases q : j < 6
    · rw [w8.1 j q]; exact (h2 j j1 (by omega)).symm
    · have : chW B p e j = 32 := by unfold chW; rw [if_neg (by omega)]
      rw [this]
      rcases (show j = 6 ∨ j = 7 by omega) with q | q
      · rw [q]; exact w8.2.1
      · rw [q]; exact w8.2.2
theorem okW_u {B : Nat → Int} {p e w v : Nat} (hw : w < 12) (hv : v < 12) (h1 : okW B p e w = true) (h2 : okW B p e v = true) : w = v := by
  rcases Nat.decEq w v with q | q
  · exfalso
    obtain ⟨i, hi, hne⟩ := wdD w hw v hv q
    unfold okW at h1 h2
    rw [Bool.and_eq_true, eqW_t] at h1 h2
    exact hne ((h1.2 i (by omega) (by omega)).symm.trans (h2.2 i (by omega) (by omega)))
  · exact q
theorem fwS_f (ok : Nat → Bool) : ∀ k w v, w ≤ v → v < w + k → ok v = true → (∀ i, w ≤ i → i < v → ok i = false) → fwS ok k w = v
  | 0, w, v, h1, h2, _, _ => by omega
  | k + 1, w, v, h1, h2, h3, h4 => by
    unfold fwS
    by_cases q : w = v
    · rw [q, if_pos h3]
    · rw [if_neg (by rw [h4 w (Nat.le_refl _) (by omega)]; decide)]
      exact fwS_f ok k (w + 1) v (by omega) (by omega) h3 (fun i i1 i2 => h4 i (by omega) i2)
theorem fwS_0 (ok : Nat → Bool) : ∀ k w, (∀ i, w ≤ i → i < w + k → ok i = false) → fwS ok k w = w + k
  | 0, w, _ => rfl
  | k + 1, w, h => by
    unfold fwS
    rw [if_neg (by rw [h w (Nat.le_refl _) (by omega)]; decide), fwS_0 ok k (w + 1) (fun i i1 i2 => h i (by omega) (by omega))]
    omega
theorem piS_b {w : Nat} (h : w < 12) : piS w < 12 := by unfold piS; split <;> (try split) <;> (try split) <;> omega
theorem piS_j {w v : Nat} (h : w < 12) (h2 : v < 12) (e : piS w = piS v) : w = v := by
  unfold piS at e
  split at e <;> split at e <;> (try split at e) <;> (try split at e) <;> (try split at e) <;> omega
theorem fw_8 {B : Nat → Int} {p e : Nat} (hL : ∀ i, p ≤ i → i < e → leS (B i) = true) : fwS (ok8 B p e) 12 0 = piS (wdT B p e) := by
  have b := fwS_b (okW B p e) 12 0
  unfold wdT
  by_cases h : fwS (okW B p e) 12 0 = 12
  · rw [h]
    have n := fwS_n (okW B p e) 12 0 (by omega)
    rw [fwS_0 (ok8 B p e) 12 0 (fun i _ i2 => by
      obtain ⟨w, hw, e1⟩ := piI i (by omega)
      rw [← e1, ok_8 hw hL]; exact n w (by omega) (by omega))]
    rfl
  · have hw : fwS (okW B p e) 12 0 < 12 := by omega
    have ho := b.2.2 (by omega)
    refine fwS_f (ok8 B p e) 12 0 _ (by omega) (by have := piS_b hw; omega) (by rw [ok_8 hw hL]; exact ho) (fun i _ i2 => ?_)
    have i3 := piS_b hw
    obtain ⟨v, hv, e1⟩ := piI i (by omega)
    rw [← e1, ok_8 hv hL]
    cases q : okW B p e v with
    | false => rfl
    | true =>
      have := okW_u hv hw q ho
      rw [this] at e1; omega
theorem m_word1 {F : Nat} {B : Nat → Int} {tl p e w : Nat} (hw : w < 12) (hpe : p ≤ e) (he : e ≤ tl) {K : Int32 → Sg → Option (Sg × Int32)} {σ : Sg} (ht : tpM B tl σ) : ∀ (k i n : Nat), i + k = 8 → k < n → g_X7_wordFrom_l26 F K (iI (p : Int)) (iI (e : Int)) (iI (w : Int)) n 1 (iI (i : Int)) σ = if eq8 B p e w k i = true then some (σ, iI (w : Int)) else K (iI (w : Int) + 1) σ := by
  intro k
  induction k with
  | zero =>
    intro i n hi hn
    obtain ⟨n, rfl⟩ : ∃ q, n = q + 1 := ⟨n - 1, by omega⟩
    rw [g_X7_wordFrom_l26, if_pos (by rw [li_8, iI_le (by omega) (by omega)]; omega), eq8, if_pos rfl]
    unfold g_X7_wordFrom_b88
    rw [if_neg (by decide)]
  | succ k ih =>
    intro i n hi hn
    obtain ⟨n, rfl⟩ : ∃ q, n = q + 1 := ⟨n - 1, by omega⟩
    obtain ⟨t1, t2, t3, t4⟩ := id ht
    have cb : 0 ≤ chW B p e i ∧ chW B p e i ≤ 255 := by
      unfold chW; split
      · rename_i h; exact (t3 _ (by omega)).1
      · omega
    have dc := wdb (8 * w + i) (by omega)
    have key : g_X7_wordFrom_b72 F K (fun v4_ v5_ σ_ => g_X7_wordFrom_l26 F K (iI (p : Int)) (iI (e : Int)) (iI (w : Int)) n v4_ v5_ σ_) (iI (p : Int)) (iI (e : Int)) (iI (w : Int)) (iI (i : Int)) (iI (chW B p e i)) (iI (wdL.getD (8 * w + i) 0)) σ = if eq8 B p e w (k + 1) i = true then some (σ, iI (w : Int)) else K (iI (w : Int) + 1) σ := by
      unfold g_X7_wordFrom_b72 g_X7_wordFrom_b80
      rw [ite_eq (by omega) (by omega), eq8]
      by_cases h : wdL.getD (8 * w + i) 0 = chW B p e i
      · rw [if_pos h, decide_eq_true h, Bool.true_and, show iI (i : Int) + 1 = iI ((i + 1 : Nat) : Int) by rw [li_1, iI_add]; rfl]
        exact ih (i + 1) n (by omega) (by omega)
      · rw [if_neg h, decide_eq_false h, Bool.false_and, if_neg (by decide)]
        obtain ⟨n, rfl⟩ : ∃ q, n = q + 1 := ⟨n - 1, by omega⟩
        show g_X7_wordFrom_l26 F K (iI (p : Int)) (iI (e : Int)) (iI (w : Int)) (n + 1) 0 (iI (i : Int) + 1) σ = _
        have z : ∀ (A B : Option (Sg × Int32)), (if (0 : Int32) = 0 then A else B) = A := fun A B => if_pos rfl
        rw [g_X7_wordFrom_l26]
        unfold g_X7_wordFrom_b88
        rw [z, z, ite_self]
    rw [g_X7_wordFrom_l26, if_neg (by rw [li_8, iI_le (by omega) (by omega)]; omega), if_neg (by decide), li_8, iI_mul, iI_add, iI_add, rdA_i (by omega), show (8 * (w : Int) + (i : Int)).toNat = 8 * w + i by omega, t4 _ (by omega), ite_le (by omega) (by omega), ← key]
    unfold chW
    by_cases h : p + i < e
    · rw [if_neg (by omega), rdA_i (by omega), if_pos h, show ((p : Int) + (i : Int)).toNat = p + i by omega, (t3 _ (by omega)).2]
    · rw [if_pos (by omega), if_neg h]; rfl
theorem m_words {F : Nat} (hF : 100 ≤ F) {B : Nat → Int} {tl p e : Nat} (hpe : p ≤ e) (he : e ≤ tl) {σ : Sg} (ht : tpM B tl σ) : ∀ (k w n : Nat), w + k = 12 → k < n → g_X7_wordFrom_l2 F (iI (p : Int)) (iI (e : Int)) n (iI (w : Int)) σ = some (σ, iI ((fwS (ok8 B p e) k w : Nat) : Int)) := by
  intro k
  induction k with
  | zero =>
    intro w n hw hn
    obtain ⟨n, rfl⟩ : ∃ q, n = q + 1 := ⟨n - 1, by omega⟩
    rw [g_X7_wordFrom_l2, if_pos (by rw [li_12, iI_le (by omega) (by omega)]; omega), fwS, show w = 12 by omega]; rfl
  | succ k ih =>
    intro w n hw hn
    obtain ⟨n, rfl⟩ : ∃ q, n = q + 1 := ⟨n - 1, by omega⟩
    have t1 := ht.1
    have nx := ih (w + 1) n (by omega) (by omega)
    have e1 : iI (w : Int) + 1 = iI ((w + 1 : Nat) : Int) := by rw [li_1, iI_add]; rfl
    rw [g_X7_wordFrom_l2, if_neg (by rw [li_12, iI_le (by omega) (by omega)]; omega), iI_sub, li_8, ite_lt (by omega) (by omega), fwS]
    unfold g_X7_wordFrom_b21
    by_cases h : e - p ≤ 8
    · have o : ok8 B p e w = eq8 B p e w 8 0 := by unfold ok8; rw [decide_eq_true h, Bool.true_and]
      rw [if_neg (by omega), o, show (0 : Int32) = iI ((0 : Nat) : Int) from rfl, m_word1 (by omega) hpe he ht 8 0 F (by omega) (by omega), e1, nx]
      by_cases h2 : eq8 B p e w 8 0 = true
      · rw [if_pos h2, if_pos h2]
      · rw [if_neg h2, if_neg h2]
    · have o : ok8 B p e w = false := by unfold ok8; rw [decide_eq_false h, Bool.false_and]
      rw [if_pos (by omega), o, if_neg (by decide)]
      obtain ⟨g, hg⟩ : ∃ q, F = q + 1 := ⟨F - 1, by omega⟩
      have : ∀ g, g_X7_wordFrom_l26 F (fun v3_ σ_ => g_X7_wordFrom_l2 F (iI (p : Int)) (iI (e : Int)) n v3_ σ_) (iI (p : Int)) (iI (e : Int)) (iI (w : Int)) (g + 1) 0 0 σ = g_X7_wordFrom_l2 F (iI (p : Int)) (iI (e : Int)) n (iI (w : Int) + 1) σ := fun g => by
        rw [g_X7_wordFrom_l26, if_neg (by decide), if_pos rfl]
        unfold g_X7_wordFrom_b88
        rw [if_pos rfl]
      have h1 := this g
      rw [← hg] at h1
      rw [h1, e1]
      exact nx
