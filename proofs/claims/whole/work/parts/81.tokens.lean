/-! the tokens of a tape -/
def spS (P : Int → Bool) (B : Nat → Int) : Nat → Nat → Nat
  | 0, p => p
  | k + 1, p => if P (B p) = true then spS P B k (p + 1) else p
def blS (v : Int) : Bool := decide (v = 32 ∨ v = 10)
def leS (v : Int) : Bool := decide (97 ≤ v ∧ v ≤ 122)
def diS (v : Int) : Bool := decide (48 ≤ v ∧ v ≤ 57)
def siS (v : Int) : Bool := decide (v = 40 ∨ v = 41 ∨ v = 59 ∨ v = 43 ∨ v = 45 ∨ v = 42 ∨ v = 60 ∨ v = 61)
theorem spS_b (P : Int → Bool) (B : Nat → Int) : ∀ k p, p ≤ spS P B k p ∧ spS P B k p ≤ p + k
  | 0, p => by unfold spS; omega
  | k + 1, p => by
    have := spS_b P B k (p + 1)
    unfold spS; split <;> omega
theorem spS_in (P : Int → Bool) (B : Nat → Int) : ∀ k p i, p ≤ i → i < spS P B k p → P (B i) = true
  | 0, p, i, h1, h2 => by unfold spS at h2; omega
  | k + 1, p, i, h1, h2 => by
    unfold spS at h2
    by_cases h : P (B p) = true
    · rw [if_pos h] at h2
      by_cases e : i = p
      · rw [e]; exact h
      · exact spS_in P B k (p + 1) i (by omega) h2
    · rw [if_neg h] at h2; omega
def wdC : List Int := [99, 111, 111, 108, 115, 32, 119, 97, 105, 116, 115, 32, 108, 105, 107, 101, 115, 32, 111, 114, 32, 32, 32, 32, 97, 110, 100, 32, 32, 32, 110, 111, 116, 32, 32, 32, 104, 101, 97, 116, 32, 32, 109, 105, 110, 117, 116, 101, 100, 111, 119, 110, 32, 32, 114, 97, 110, 107, 32, 32, 109, 111, 111, 100, 32, 32, 109, 111, 114, 101, 32, 32]
def chW (B : Nat → Int) (p e i : Nat) : Int := if p + i < e then B (p + i) else 32
def eqW (B : Nat → Int) (p e w : Nat) : Nat → Nat → Bool
  | 0, _ => true
  | k + 1, i => decide (chW B p e i = wdC.getD (6 * w + i) 0) && eqW B p e w k (i + 1)
theorem eqW_t {B : Nat → Int} {p e w : Nat} : ∀ (k i : Nat), eqW B p e w k i = true ↔ ∀ j, i ≤ j → j < i + k → chW B p e j = wdC.getD (6 * w + j) 0
  | 0, i => ⟨fun _ j h1 h2 => by omega, fun _ => rfl⟩
  | k + 1, i => by
    rw [eqW, Bool.and_eq_true, eqW_t k (i + 1), decide_eq_true_iff]
    refine ⟨fun h j h1 h2 => ?_, fun h => ⟨h i (Nat.le_refl _) (by omega), fun j h1 h2 => h j (by omega) (by omega)⟩⟩
    by_cases q : j = i
    · rw [q]; exact h.1
    · exact h.2 j (by omega) (by omega)
def okW (B : Nat → Int) (p e w : Nat) : Bool := decide (e - p ≤ 6) && eqW B p e w 6 0
def fwS (ok : Nat → Bool) : Nat → Nat → Nat
  | 0, w => w
  | k + 1, w => if ok w = true then w else fwS ok k (w + 1)
def wdT (B : Nat → Int) (p e : Nat) : Nat := fwS (okW B p e) 12 0
def nvS (B : Nat → Int) (p : Nat) : Nat → Int
  | 0 => 0
  | c + 1 => 10 * nvS B p c + B (p + c) - 48
def tkB (B : Nat → Int) (tl q : Nat) : Nat := spS blS B (tl - q) q
def tkX (B : Nat → Int) (tl p : Nat) : Int × Int × Nat := if tl ≤ p then (0, 0, tl) else if leS (B p) = true then (if wdT B p (spS leS B (tl - p) p) = 12 then 1 else 1000 + ((wdT B p (spS leS B (tl - p) p) : Nat) : Int), 0, spS leS B (tl - p) p) else if diS (B p) = true then (if 4 < spS diS B (tl - p) p - p then 1 else 2, nvS B p (spS diS B (tl - p) p - p), spS diS B (tl - p) p) else (if siS (B p) = true then B p else 1, 0, p + 1)
def tkT (B : Nat → Int) (tl q : Nat) : Int := (tkX B tl (tkB B tl q)).1
def tkN (B : Nat → Int) (tl q : Nat) : Int := (tkX B tl (tkB B tl q)).2.1
def tkE (B : Nat → Int) (tl q : Nat) : Nat := (tkX B tl (tkB B tl q)).2.2
theorem fwS_b (ok : Nat → Bool) : ∀ k w, w ≤ fwS ok k w ∧ fwS ok k w ≤ w + k ∧ (fwS ok k w < w + k → ok (fwS ok k w) = true)
  | 0, w => by unfold fwS; omega
  | k + 1, w => by
    have ih := fwS_b ok k (w + 1)
    unfold fwS
    by_cases h : ok w = true
    · rw [if_pos h]; exact ⟨Nat.le_refl _, by omega, fun _ => h⟩
    · rw [if_neg h]; exact ⟨by omega, by omega, fun q => ih.2.2 (by omega)⟩
theorem fwS_n (ok : Nat → Bool) : ∀ k w, fwS ok k w = w + k → ∀ i, w ≤ i → i < w + k → ok i = false
  | 0, w, _, i, h1, h2 => by omega
  | k + 1, w, h, i, h1, h2 => by
    unfold fwS at h
    by_cases q : ok w = true
    · rw [if_pos q] at h; omega
    · rw [if_neg q] at h
      by_cases e : i = w
      · rw [e]; simpa using q
      · exact fwS_n ok k (w + 1) (by omega) i (by omega) (by omega)
/-- the tape as the class has it -/
def tpX (B : Nat → Int) (tl : Nat) (σ : Sg) : Prop := tl ≤ 160 ∧ σ 30 1 = iI (tl : Int) ∧ ∀ i, i < tl → (0 ≤ B i ∧ B i ≤ 255) ∧ σ 31 i = iI (B i)
/-- the tape as the reference has it -/
def tpM (B : Nat → Int) (tl : Nat) (σ : Sg) : Prop := tl ≤ 160 ∧ σ 0 7 = iI (tl : Int) ∧ (∀ i, i < tl → (0 ≤ B i ∧ B i ≤ 255) ∧ σ 4 i = iI (B i)) ∧ RelW σ
def frP (P : Nat → Nat → Prop) (σ τ : Sg) : Prop := ∀ a j, ¬ P a j → τ a j = σ a j
theorem frP_r (P : Nat → Nat → Prop) (σ : Sg) : frP P σ σ := fun _ _ _ => rfl
theorem frP_t {P : Nat → Nat → Prop} {σ τ υ : Sg} (h : frP P σ τ) (h2 : frP P τ υ) : frP P σ υ := fun a j q => (h2 a j q).trans (h a j q)
theorem frP_w {P Q : Nat → Nat → Prop} {σ τ : Sg} (h : frP P σ τ) (h2 : ∀ a j, P a j → Q a j) : frP Q σ τ := fun a j q => h a j (fun w => q (h2 a j w))
theorem frP_s {P : Nat → Nat → Prop} {σ τ : Sg} {a j : Nat} {v : Int32} (h : frP P σ τ) (hp : P a j) : frP P σ (st τ a j v) := by
  intro b i q
  by_cases e : b = a
  · subst e
    by_cases e2 : i = j
    · subst e2; exact absurd hp q
    · rw [st_j e2]; exact h _ _ q
  · rw [st_k e]; exact h _ _ q
theorem tpX_of {B : Nat → Int} {tl : Nat} {P : Nat → Nat → Prop} {σ τ : Sg} (h : tpX B tl σ) (f : frP P σ τ) (hp : ∀ a j, P a j → a ≠ 31 ∧ (a = 30 → j ≠ 1)) : tpX B tl τ := by
  refine ⟨h.1, ?_, fun i hi => ⟨(h.2.2 i hi).1, ?_⟩⟩
  · rw [f 30 1 (fun q => (hp _ _ q).2 rfl rfl)]; exact h.2.1
  · rw [f 31 i (fun q => (hp _ _ q).1 rfl)]; exact (h.2.2 i hi).2
theorem tpM_of {B : Nat → Int} {tl : Nat} {P : Nat → Nat → Prop} {σ τ : Sg} (h : tpM B tl σ) (f : frP P σ τ) (hp : ∀ a j, P a j → a ≠ 4 ∧ a ≠ 13 ∧ (a = 0 → j ≠ 7)) : tpM B tl τ := by
  refine ⟨h.1, ?_, fun i hi => ⟨(h.2.2.1 i hi).1, ?_⟩, fun i hi => ?_⟩
  · rw [f 0 7 (fun q => (hp _ _ q).2.2 rfl rfl)]; exact h.2.1
  · rw [f 4 i (fun q => (hp _ _ q).1 rfl)]; exact (h.2.2.1 i hi).2
  · rw [f 13 i (fun q => (hp _ _ q).2.1 rfl)]; exact h.2.2.2 i hi
theorem x_isB {F N : Nat} {ln : Nat → Nat} {v : Int} (h : 0 ≤ v ∧ v ≤ 255) {σ : Sg} : g_X4_isBlank F N ln (iI v) σ = some (σ, if blS v = true then 1 else 0) := by
  unfold g_X4_isBlank g_X4_isBlank_b12 blS
  rw [li_32, li_10, ite_eq (by omega) (by omega), ite_eq (by omega) (by omega)]
  by_cases h1 : v = 32
  · rw [if_pos h1, if_pos (by simp [h1])]
  · rw [if_neg h1]
    by_cases h2 : v = 10
    · rw [if_pos h2, if_pos (by simp [h2])]
    · rw [if_neg h2, if_neg (by simp [h1, h2])]
theorem x_isL {F N : Nat} {ln : Nat → Nat} {v : Int} (h : 0 ≤ v ∧ v ≤ 255) {σ : Sg} : g_X4_isLetter F N ln (iI v) σ = some (σ, if leS v = true then 1 else 0) := by
  unfold g_X4_isLetter leS
  rw [li_97, li_122, ite_lt (by omega) (by omega), ite_lt (by omega) (by omega)]
  by_cases h1 : v < 97
  · rw [if_pos h1, if_neg (by simp; omega)]
  · rw [if_neg h1]
    by_cases h2 : 122 < v
    · rw [if_pos h2, if_neg (by simp; omega)]
    · rw [if_neg h2, if_pos (by simp; omega)]
theorem x_isD {F N : Nat} {ln : Nat → Nat} {v : Int} (h : 0 ≤ v ∧ v ≤ 255) {σ : Sg} : g_X4_isDigit F N ln (iI v) σ = some (σ, if diS v = true then 1 else 0) := by
  unfold g_X4_isDigit diS
  rw [li_48, li_57, ite_lt (by omega) (by omega), ite_lt (by omega) (by omega)]
  by_cases h1 : v < 48
  · rw [if_pos h1, if_neg (by simp; omega)]
  · rw [if_neg h1]
    by_cases h2 : 57 < v
    · rw [if_pos h2, if_neg (by simp; omega)]
    · rw [if_neg h2, if_pos (by simp; omega)]
theorem sig : ∀ v, v < 256 → (ixI 1 (UInt32.toInt32 (Int32.toUInt32 (iI ((v : Nat) : Int)) % 65536)) < 0 ↔ siS ((v : Nat) : Int) = false) := by decide +kernel
theorem x_isS {F N : Nat} {ln : Nat → Nat} {v : Int} (h : 0 ≤ v ∧ v ≤ 255) {σ : Sg} : g_X4_isSign F N ln (iI v) σ = some (σ, if siS v = true then 1 else 0) := by
  obtain ⟨n, rfl⟩ : ∃ n : Nat, v = n := ⟨v.toNat, by omega⟩
  unfold g_X4_isSign
  have s := sig n (by omega)
  by_cases h1 : siS ((n : Nat) : Int) = true
  · rw [if_pos h1, if_neg (fun q => by rw [s.mp q] at h1; cases h1)]
  · rw [if_neg h1, if_pos (s.mpr (by simpa using h1))]
theorem x_l9 {F N : Nat} {ln : Nat → Nat} {B : Nat → Int} {tl : Nat} : ∀ (k p n : Nat) (σ : Sg), p + k = tl → k < n → tpX B tl σ → σ 30 5 = iI (p : Int) → ∃ τ, g_X4_advance_l9 F N ln n σ = g_X4_advance_b48 F N ln τ ∧ τ 30 5 = iI ((spS blS B k p : Nat) : Int) ∧ frP (fun a j => a = 30 ∧ j = 5) σ τ := by
  intro k
  induction k with
  | zero =>
    intro p n σ hp hn ht hq
    obtain ⟨n, rfl⟩ : ∃ q, n = q + 1 := ⟨n - 1, by omega⟩
    obtain ⟨t1, t2, t3⟩ := id ht
    rw [g_X4_advance_l9, t2, hq, if_pos (by rw [iI_le (by omega) (by omega)]; omega)]
    exact ⟨σ, rfl, hq, frP_r _ σ⟩
  | succ k ih =>
    intro p n σ hp hn ht hq
    obtain ⟨n, rfl⟩ : ∃ q, n = q + 1 := ⟨n - 1, by omega⟩
    obtain ⟨t1, t2, t3⟩ := id ht
    have b := t3 p (by omega)
    rw [g_X4_advance_l9, t2, hq, if_neg (by rw [iI_le (by omega) (by omega)]; omega), rdA_i (by omega), Int.toNat_natCast, b.2, x_isB b.1, bnI_s, if01, spS]
    by_cases h : blS (B p) = true
    · rw [if_pos h, if_pos h, wrF_i, hq, li_1, iI_add]
      have fr : frP (fun a j => a = 30 ∧ j = 5) σ (st σ 30 5 (iI ((p : Int) + 1))) := frP_s (frP_r _ σ) ⟨rfl, rfl⟩
      obtain ⟨τ, e1, e2, e3⟩ := ih (p + 1) n (st σ 30 5 (iI ((p : Int) + 1))) (by omega) (by omega) (tpX_of ht fr (fun a j q => by omega)) st_e
      exact ⟨τ, e1, e2, frP_t fr e3⟩
    · rw [if_neg h, if_neg h]
      exact ⟨σ, rfl, hq, frP_r _ σ⟩
theorem x_l90 {F N : Nat} {ln : Nat → Nat} {B : Nat → Int} {tl : Nat} : ∀ (k p n : Nat) (σ : Sg), p + k = tl → k < n → tpX B tl σ → σ 30 5 = iI (p : Int) → ∃ τ, g_X4_advance_l90 F N ln n σ = g_X4_advance_b129 F N ln τ ∧ τ 30 5 = iI ((spS leS B k p : Nat) : Int) ∧ frP (fun a j => a = 30 ∧ j = 5) σ τ := by
  intro k
  induction k with
  | zero =>
    intro p n σ hp hn ht hq
    obtain ⟨n, rfl⟩ : ∃ q, n = q + 1 := ⟨n - 1, by omega⟩
    obtain ⟨t1, t2, t3⟩ := id ht
    rw [g_X4_advance_l90, t2, hq, if_pos (by rw [iI_le (by omega) (by omega)]; omega)]
    exact ⟨σ, rfl, hq, frP_r _ σ⟩
  | succ k ih =>
    intro p n σ hp hn ht hq
    obtain ⟨n, rfl⟩ : ∃ q, n = q + 1 := ⟨n - 1, by omega⟩
    obtain ⟨t1, t2, t3⟩ := id ht
    have b := t3 p (by omega)
    rw [g_X4_advance_l90, t2, hq, if_neg (by rw [iI_le (by omega) (by omega)]; omega), rdA_i (by omega), Int.toNat_natCast, b.2, x_isL b.1, bnI_s, if01, spS]
    by_cases h : leS (B p) = true
    · rw [if_pos h, if_pos h, wrF_i, hq, li_1, iI_add]
      have fr : frP (fun a j => a = 30 ∧ j = 5) σ (st σ 30 5 (iI ((p : Int) + 1))) := frP_s (frP_r _ σ) ⟨rfl, rfl⟩
      obtain ⟨τ, e1, e2, e3⟩ := ih (p + 1) n (st σ 30 5 (iI ((p : Int) + 1))) (by omega) (by omega) (tpX_of ht fr (fun a j q => by omega)) st_e
      exact ⟨τ, e1, e2, frP_t fr e3⟩
    · rw [if_neg h, if_neg h]
      exact ⟨σ, rfl, hq, frP_r _ σ⟩
theorem x_l163 {F N : Nat} {ln : Nat → Nat} {B : Nat → Int} {tl : Nat} : ∀ (k p n : Nat) (σ : Sg), p + k = tl → k < n → tpX B tl σ → σ 30 5 = iI (p : Int) → ∃ τ, g_X4_advance_l163 F N ln n σ = g_X4_advance_b202 F N ln τ ∧ τ 30 5 = iI ((spS diS B k p : Nat) : Int) ∧ frP (fun a j => a = 30 ∧ j = 5) σ τ := by
  intro k
  induction k with
  | zero =>
    intro p n σ hp hn ht hq
    obtain ⟨n, rfl⟩ : ∃ q, n = q + 1 := ⟨n - 1, by omega⟩
    obtain ⟨t1, t2, t3⟩ := id ht
    rw [g_X4_advance_l163, t2, hq, if_pos (by rw [iI_le (by omega) (by omega)]; omega)]
    exact ⟨σ, rfl, hq, frP_r _ σ⟩
  | succ k ih =>
    intro p n σ hp hn ht hq
    obtain ⟨n, rfl⟩ : ∃ q, n = q + 1 := ⟨n - 1, by omega⟩
    obtain ⟨t1, t2, t3⟩ := id ht
    have b := t3 p (by omega)
    rw [g_X4_advance_l163, t2, hq, if_neg (by rw [iI_le (by omega) (by omega)]; omega), rdA_i (by omega), Int.toNat_natCast, b.2, x_isD b.1, bnI_s, if01, spS]
    by_cases h : diS (B p) = true
    · rw [if_pos h, if_pos h, wrF_i, hq, li_1, iI_add]
      have fr : frP (fun a j => a = 30 ∧ j = 5) σ (st σ 30 5 (iI ((p : Int) + 1))) := frP_s (frP_r _ σ) ⟨rfl, rfl⟩
      obtain ⟨τ, e1, e2, e3⟩ := ih (p + 1) n (st σ 30 5 (iI ((p : Int) + 1))) (by omega) (by omega) (tpX_of ht fr (fun a j q => by omega)) st_e
      exact ⟨τ, e1, e2, frP_t fr e3⟩
    · rw [if_neg h, if_neg h]
      exact ⟨σ, rfl, hq, frP_r _ σ⟩
theorem chC : ∀ k, k < 72 → chS 0 k = iI (wdC.getD k 0) ∧ (0 ≤ wdC.getD k 0 ∧ wdC.getD k 0 ≤ 255) := by decide +kernel
theorem chA_i {α : Type} {k : Nat} (h : k < 72) {f : Int32 → Option α} : chA 0 (iI (k : Int)) f = f (iI (wdC.getD k 0)) := by
  have e : lenS.getD 0 0 = 72 := rfl
  rw [chA, iI_cl (by omega), e, Int.toNat_natCast, if_neg, (chC k h).1]
  rw [li_0, iI_lt (by omega) (by omega)]; omega
theorem chW_b {B : Nat → Int} {tl p e : Nat} {σ : Sg} (ht : tpX B tl σ) (he : e ≤ tl) (i : Nat) : 0 ≤ chW B p e i ∧ chW B p e i ≤ 255 := by
  unfold chW; split
  · rename_i h; exact (ht.2.2 _ (by omega)).1
  · omega
theorem x_word1 {F N : Nat} {ln : Nat → Nat} {B : Nat → Int} {tl p e w : Nat} (hw : w < 12) (hpe : p ≤ e) (he : e ≤ tl) {σ : Sg} (ht : tpX B tl σ) : ∀ (k i n : Nat), i + k = 6 → k < n → g_X4_isWord_l13 F N ln (iI (w : Int)) (iI (p : Int)) (iI (e : Int)) n (iI (i : Int)) σ = some (σ, if eqW B p e w k i = true then 1 else 0) := by
  intro k
  induction k with
  | zero =>
    intro i n hi hn
    obtain ⟨n, rfl⟩ : ∃ q, n = q + 1 := ⟨n - 1, by omega⟩
    rw [g_X4_isWord_l13, if_pos (by rw [li_6, iI_le (by omega) (by omega)]; omega), eqW, if_pos rfl]
  | succ k ih =>
    intro i n hi hn
    obtain ⟨n, rfl⟩ : ∃ q, n = q + 1 := ⟨n - 1, by omega⟩
    have t1 := ht.1
    have cb := chW_b (p := p) ht he i
    have dc := (chC (6 * w + i) (by omega)).2
    have key : g_X4_isWord_b42 F N ln (fun v4_ σ_ => g_X4_isWord_l13 F N ln (iI (w : Int)) (iI (p : Int)) (iI (e : Int)) n v4_ σ_) (iI (w : Int)) (iI (p : Int)) (iI (e : Int)) (iI (i : Int)) (iI (chW B p e i)) σ = some (σ, if eqW B p e w (k + 1) i = true then 1 else 0) := by
      unfold g_X4_isWord_b42
      rw [li_6, iI_mul, iI_add, show 6 * (w : Int) + (i : Int) = ((6 * w + i : Nat) : Int) by omega, chA_i (by omega), ite_eq (by omega) (by omega), eqW]
      by_cases h : chW B p e i = wdC.getD (6 * w + i) 0
      · rw [if_pos h, li_1, iI_add, show (i : Int) + 1 = ((i + 1 : Nat) : Int) by omega, decide_eq_true h, Bool.true_and]; exact ih (i + 1) n (by omega) (by omega)
      · rw [if_neg h, decide_eq_false h, Bool.false_and, if_neg (by decide)]
    rw [g_X4_isWord_l13, if_neg (by rw [li_6, iI_le (by omega) (by omega)]; omega), iI_add, ite_le (by omega) (by omega), ← key]
    unfold chW
    by_cases h : p + i < e
    · rw [if_neg (by omega), rdA_i (by omega), if_pos h, show ((p : Int) + (i : Int)).toNat = p + i by omega, (ht.2.2 _ (by omega)).2]
    · rw [if_pos (by omega), if_neg h]; rfl
theorem x_word {F N : Nat} {ln : Nat → Nat} (hF : 100 ≤ F) {B : Nat → Int} {tl p e w : Nat} (hw : w < 12) (hpe : p ≤ e) (he : e ≤ tl) {σ : Sg} (ht : tpX B tl σ) : g_X4_isWord F N ln (iI (w : Int)) (iI (p : Int)) (iI (e : Int)) σ = some (σ, if okW B p e w = true then 1 else 0) := by
  have t1 := ht.1
  unfold g_X4_isWord okW
  rw [iI_sub, li_6, ite_le (by omega) (by omega)]
  by_cases h : e - p ≤ 6
  · have := x_word1 (F := F) (N := N) (ln := ln) (p := p) hw hpe he ht 6 0 F (by omega) (by omega)
    rw [if_pos (by omega), decide_eq_true h, Bool.true_and]
    exact this
  · rw [if_neg (by omega), decide_eq_false h, Bool.false_and, if_neg (by decide)]
theorem x_words {F N : Nat} {ln : Nat → Nat} (hF : 100 ≤ F) {B : Nat → Int} {tl p e : Nat} (hpe : p ≤ e) (he : e ≤ tl) {σ : Sg} (ht : tpX B tl σ) : ∀ (k w n : Nat), w + k = 12 → k < n → g_X4_wordFrom_l2 F N ln (iI (p : Int)) (iI (e : Int)) n (iI (w : Int)) σ = some (σ, iI (if fwS (okW B p e) k w = 12 then 1 else 1000 + ((fwS (okW B p e) k w : Nat) : Int))) := by
  intro k
  induction k with
  | zero =>
    intro w n hw hn
    obtain ⟨n, rfl⟩ : ∃ q, n = q + 1 := ⟨n - 1, by omega⟩
    rw [g_X4_wordFrom_l2, if_pos (by rw [li_12, iI_le (by omega) (by omega)]; omega), fwS, if_pos (by omega)]; rfl
  | succ k ih =>
    intro w n hw hn
    obtain ⟨n, rfl⟩ : ∃ q, n = q + 1 := ⟨n - 1, by omega⟩
    rw [g_X4_wordFrom_l2, if_neg (by rw [li_12, iI_le (by omega) (by omega)]; omega), x_word hF (by omega) hpe he ht, bnI_s, if01, fwS]
    by_cases h : okW B p e w = true
    · rw [if_pos h, if_pos h, if_neg (by omega), li_1000, iI_add]
    · rw [if_neg h, if_neg h, li_1, iI_add, show (w : Int) + 1 = ((w + 1 : Nat) : Int) by omega]
      exact ih (w + 1) n (by omega) (by omega)
theorem nvS_b {B : Nat → Int} {p : Nat} : ∀ c, (∀ i, i < c → diS (B (p + i)) = true) → 0 ≤ nvS B p c ∧ nvS B p c + 1 ≤ 10 ^ c
  | 0, _ => by unfold nvS; omega
  | c + 1, h => by
    have ih := nvS_b c (fun i hi => h i (by omega))
    have d := of_decide_eq_true (h c (by omega))
    unfold nvS
    rw [Int.pow_succ]
    omega
theorem x_nums {F N : Nat} {ln : Nat → Nat} {B : Nat → Int} {tl p : Nat} : ∀ (k c n : Nat) (σ : Sg), p + c + k ≤ tl → k < n → tpX B tl σ → σ 30 8 = iI (nvS B p c) → ∃ τ, g_X4_numberFrom_l16 F N ln (iI ((p + c + k : Nat) : Int)) n (iI ((p + c : Nat) : Int)) σ = some (τ, 2) ∧ τ 30 8 = iI (nvS B p (c + k)) ∧ frP (fun a j => a = 30 ∧ j = 8) σ τ := by
  intro k
  induction k with
  | zero =>
    intro c n σ hp hn ht hq
    obtain ⟨n, rfl⟩ : ∃ q, n = q + 1 := ⟨n - 1, by omega⟩
    have t1 := ht.1
    rw [g_X4_numberFrom_l16, if_pos (by rw [iI_le (by omega) (by omega)]; omega)]
    exact ⟨σ, rfl, hq, frP_r _ σ⟩
  | succ k ih =>
    intro c n σ hp hn ht hq
    obtain ⟨n, rfl⟩ : ∃ q, n = q + 1 := ⟨n - 1, by omega⟩
    obtain ⟨t1, t2, t3⟩ := id ht
    have b := t3 (p + c) (by omega)
    have fr : frP (fun a j => a = 30 ∧ j = 8) σ (st σ 30 8 (iI (nvS B p (c + 1)))) := frP_s (frP_r _ σ) ⟨rfl, rfl⟩
    obtain ⟨τ, e1, e2, e3⟩ := ih (c + 1) n (st σ 30 8 (iI (nvS B p (c + 1)))) (by omega) (by omega) (tpX_of ht fr (fun a j q => by omega)) st_e
    refine ⟨τ, ?_, by rw [show c + (k + 1) = c + 1 + k by omega]; exact e2, frP_t fr e3⟩
    rw [g_X4_numberFrom_l16, if_neg (by rw [iI_le (by omega) (by omega)]; omega), rdA_i (by omega), Int.toNat_natCast, b.2, wrF_i, hq, li_10, iI_mul, iI_add, li_48, iI_sub, li_1, iI_add, show ((p + c : Nat) : Int) + 1 = ((p + (c + 1) : Nat) : Int) by omega, show p + c + (k + 1) = p + (c + 1) + k by omega]
    exact e1
theorem tkB_b {B : Nat → Int} {tl q : Nat} (h : q ≤ tl) : q ≤ tkB B tl q ∧ tkB B tl q ≤ tl := by
  have := spS_b blS B (tl - q) q
  unfold tkB; omega
theorem tkE_b {B : Nat → Int} {tl q : Nat} (h : q ≤ tl) : q ≤ tkE B tl q ∧ tkE B tl q ≤ tl ∧ (tkT B tl q ≠ 0 → q < tkE B tl q) := by
  have hb := tkB_b (B := B) h
  unfold tkE tkT tkX
  by_cases h1 : tl ≤ tkB B tl q
  · rw [if_pos h1]; exact ⟨h, Nat.le_refl _, fun w => absurd rfl w⟩
  · rw [if_neg h1]
    have grow : ∀ P : Int → Bool, P (B (tkB B tl q)) = true → tkB B tl q < spS P B (tl - tkB B tl q) (tkB B tl q) ∧ spS P B (tl - tkB B tl q) (tkB B tl q) ≤ tl := by
      intro P hP
      obtain ⟨k, hk⟩ : ∃ k, tl - tkB B tl q = k + 1 := ⟨tl - tkB B tl q - 1, by omega⟩
      rw [hk, spS, if_pos hP]
      have := spS_b P B k (tkB B tl q + 1)
      omega
    by_cases h2 : leS (B (tkB B tl q)) = true
    · rw [if_pos h2]
      have := grow _ h2
      exact ⟨by show q ≤ spS leS B (tl - tkB B tl q) (tkB B tl q); omega, this.2, fun _ => by show q < spS leS B (tl - tkB B tl q) (tkB B tl q); omega⟩
    · rw [if_neg h2]
      by_cases h3 : diS (B (tkB B tl q)) = true
      · rw [if_pos h3]
        have := grow _ h3
        exact ⟨by show q ≤ spS diS B (tl - tkB B tl q) (tkB B tl q); omega, this.2, fun _ => by show q < spS diS B (tl - tkB B tl q) (tkB B tl q); omega⟩
      · rw [if_neg h3]
        exact ⟨by show q ≤ tkB B tl q + 1; omega, by show tkB B tl q + 1 ≤ tl; omega, fun _ => by show q < tkB B tl q + 1; omega⟩
/-- the class reads on -/
theorem x_adv {F N : Nat} {ln : Nat → Nat} (hF : 300 ≤ F) {B : Nat → Int} {tl q : Nat} (hq : q ≤ tl) {σ : Sg} (ht : tpX B tl σ) (h9 : σ 30 9 = -1) (h5 : σ 30 5 = iI (q : Int)) : ∃ τ, g_X4_advance F N ln σ = some τ ∧ frP (fun a j => a = 30 ∧ (j = 5 ∨ j = 6 ∨ j = 7 ∨ j = 8)) σ τ ∧ τ 30 5 = iI ((tkE B tl q : Nat) : Int) ∧ τ 30 6 = iI (tkT B tl q) ∧ τ 30 7 = iI ((tkB B tl q : Nat) : Int) ∧ (tkT B tl q = 2 → τ 30 8 = iI (tkN B tl q)) := by
  have hb := tkB_b (B := B) hq
  obtain ⟨σ1, e1, p1, f1⟩ := x_l9 (F := F) (N := N) (ln := ln) (tl - q) q F σ (by omega) (by have := ht.1; omega) ht h5
  have f1' : frP (fun a j => a = 30 ∧ (j = 5 ∨ j = 6 ∨ j = 7 ∨ j = 8)) σ σ1 := frP_w f1 (fun a j w => by omega)
  have hE : spS blS B (tl - q) q = tkB B tl q := rfl
  rw [hE] at p1
  unfold g_X4_advance
  rw [h9, if_pos rfl, e1]
  unfold g_X4_advance_b48 tkE tkT tkN tkX
  generalize tkB B tl q = p at *
  have f2 : frP (fun a j => a = 30 ∧ (j = 5 ∨ j = 6 ∨ j = 7 ∨ j = 8)) σ (st σ1 30 7 (iI (p : Int))) := frP_s f1' ⟨rfl, Or.inr (Or.inr (Or.inl rfl))⟩
  have t2 := tpX_of ht f2 (fun a j w => by omega)
  obtain ⟨a1, a2, a3⟩ := id t2
  rw [wrF_i, p1, a2, st_j (show (5 : Nat) ≠ 7 by omega), p1, ite_lt (by omega) (by omega)]
  by_cases h1 : tl ≤ p
  · rw [if_neg (by omega), if_pos h1, wrF_i]
    have : p = tl := by omega
    subst this
    refine ⟨_, rfl, frP_s f2 ⟨rfl, Or.inr (Or.inl rfl)⟩, ?_, st_e, ?_, fun w => ?_⟩
    · rw [st_j (by omega), st_j (by omega)]; exact p1
    · rw [st_j (by omega), st_e]
    · exact absurd w (by show ¬ (0 : Int) = 2; omega)
  · rw [if_pos (by omega), if_neg h1, rdA_i (by omega), Int.toNat_natCast]
    have b := a3 p (by omega)
    have p2 : (st σ1 30 7 (iI (p : Int))) 30 5 = iI (p : Int) := by rw [st_j (by omega)]; exact p1
    rw [b.2, x_isL b.1, bnI_s, if01]
    by_cases h2 : leS (B p) = true
    · rw [if_pos h2, if_pos h2]
      obtain ⟨σ3, e3, p3, f3⟩ := x_l90 (F := F) (N := N) (ln := ln) (B := B) (tl - p) p F _ (by omega) (by omega) t2 p2
      have f3' := frP_t f2 (frP_w f3 (Q := fun a j => a = 30 ∧ (j = 5 ∨ j = 6 ∨ j = 7 ∨ j = 8)) (fun a j w => by omega))
      have t3 := tpX_of ht f3' (fun a j w => by omega)
      have q7 : σ3 30 7 = iI (p : Int) := by rw [f3 30 7 (by omega), st_e]
      have sb := spS_b leS B (tl - p) p
      have xw := x_words (F := F) (N := N) (ln := ln) (by omega) (p := p) (e := spS leS B (tl - p) p) (by omega) (by omega) t3 12 0 F (by omega) (by omega)
      rw [e3]
      unfold g_X4_advance_b129 g_X4_wordFrom
      rw [q7, p3, show (0 : Int32) = iI ((0 : Nat) : Int) from rfl, xw, bnI_s, wrF_i]
      refine ⟨_, rfl, frP_s f3' ⟨rfl, Or.inr (Or.inl rfl)⟩, ?_, st_e, ?_, fun w => ?_⟩
      · rw [st_j (by omega)]; exact p3
      · rw [st_j (by omega)]; exact q7
      · have w2 : (if wdT B p (spS leS B (tl - p) p) = 12 then (1 : Int) else 1000 + ((wdT B p (spS leS B (tl - p) p) : Nat) : Int)) = 2 := w
        split at w2 <;> omega
    · rw [if_neg h2, if_neg h2, p2, rdA_i (by omega), Int.toNat_natCast, b.2, x_isD b.1, bnI_s, if01]
      by_cases h3 : diS (B p) = true
      · rw [if_pos h3, if_pos h3]
        obtain ⟨σ3, e3, p3, f3⟩ := x_l163 (F := F) (N := N) (ln := ln) (B := B) (tl - p) p F _ (by omega) (by omega) t2 p2
        have f3' := frP_t f2 (frP_w f3 (Q := fun a j => a = 30 ∧ (j = 5 ∨ j = 6 ∨ j = 7 ∨ j = 8)) (fun a j w => by omega))
        have t3 := tpX_of ht f3' (fun a j w => by omega)
        have q7 : σ3 30 7 = iI (p : Int) := by rw [f3 30 7 (by omega), st_e]
        have sb := spS_b diS B (tl - p) p
        rw [e3]
        unfold g_X4_advance_b202 g_X4_numberFrom
        rw [q7, p3, iI_sub, li_4, ite_le (by omega) (by omega)]
        by_cases h4 : 4 < spS diS B (tl - p) p - p
        · rw [if_neg (by omega), bnI_s, wrF_i, if_pos h4]
          refine ⟨_, rfl, frP_s f3' ⟨rfl, Or.inr (Or.inl rfl)⟩, ?_, st_e, ?_, fun w => ?_⟩
          · rw [st_j (by omega)]; exact p3
          · rw [st_j (by omega)]; exact q7
          · exact absurd w (by show ¬ (1 : Int) = 2; omega)
        · rw [if_pos (by omega), if_neg h4, wrF_i]
          have f4 := frP_s f3' (v := iI (nvS B p 0)) (a := 30) (j := 8) ⟨rfl, Or.inr (Or.inr (Or.inr rfl))⟩
          obtain ⟨σ5, e5, v5, f5⟩ := x_nums (F := F) (N := N) (ln := ln) (B := B) (tl := tl) (p := p) (spS diS B (tl - p) p - p) 0 F (st σ3 30 8 (iI (nvS B p 0))) (by omega) (by omega) (tpX_of ht f4 (fun a j w => by omega)) st_e
          rw [show p + 0 + (spS diS B (tl - p) p - p) = spS diS B (tl - p) p by omega, Nat.add_zero] at e5
          rw [Nat.zero_add] at v5
          have e6 : g_X4_numberFrom_l16 F N ln (iI ((spS diS B (tl - p) p : Nat) : Int)) F (iI (p : Int)) (st σ3 30 8 0) = some (σ5, 2) := e5
          rw [e6, bnI_s, wrF_i]
          have f5' := frP_t f4 (frP_w f5 (Q := fun a j => a = 30 ∧ (j = 5 ∨ j = 6 ∨ j = 7 ∨ j = 8)) (fun a j w => by omega))
          refine ⟨_, rfl, frP_s f5' ⟨rfl, Or.inr (Or.inl rfl)⟩, ?_, st_e, ?_, fun _ => ?_⟩
          · rw [st_j (by omega), f5 30 5 (by omega), st_j (by omega)]; exact p3
          · rw [st_j (by omega), f5 30 7 (by omega), st_j (by omega)]; exact q7
          · rw [st_j (by omega)]; exact v5
      · rw [if_neg h3, if_neg h3, p2, rdA_i (by omega), Int.toNat_natCast, b.2, x_isS b.1, bnI_s, if01]
        have fin : ∀ u : Int, u ≠ 2 → ∃ τ, g_X4_advance_b250 F N ln (iI u) (st σ1 30 7 (iI (p : Int))) = some τ ∧ frP (fun a j => a = 30 ∧ (j = 5 ∨ j = 6 ∨ j = 7 ∨ j = 8)) σ τ ∧ τ 30 5 = iI ((p + 1 : Nat) : Int) ∧ τ 30 6 = iI u ∧ τ 30 7 = iI (p : Int) ∧ (u = 2 → τ 30 8 = iI 0) := by
          intro u hu
          unfold g_X4_advance_b250
          rw [wrF_i, wrF_i, st_j (show (5 : Nat) ≠ 6 by omega), p2, li_1, iI_add]
          refine ⟨_, rfl, frP_s (frP_s f2 ⟨rfl, Or.inr (Or.inl rfl)⟩) ⟨rfl, Or.inl rfl⟩, by rw [st_e]; rfl, by rw [st_j (by omega), st_e], by rw [st_j (by omega), st_j (by omega), st_e], fun w => absurd w hu⟩
        by_cases h4 : siS (B p) = true
        · rw [if_pos h4, p2, rdA_i (by omega), Int.toNat_natCast, b.2, if_pos h4]
          have s4 := of_decide_eq_true h4
          exact fin (B p) (by omega)
        · rw [if_neg h4, if_neg h4]
          exact fin 1 (by omega)
