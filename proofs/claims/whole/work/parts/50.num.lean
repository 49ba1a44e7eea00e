/-! numbers: an int as the whole number that it stands for -/
def iI (z : Int) : Int32 := Int32.ofInt z
def inR (z : Int) : Prop := -2147483648 ≤ z ∧ z < 2147483648
theorem iI_toInt {z : Int} (h : -2147483648 ≤ z ∧ z < 2147483648) : (iI z).toInt = z := Int32.toInt_ofInt_of_le (by omega) (by omega)
theorem iI_of (x : Int32) : iI x.toInt = x := Int32.ofInt_toInt x
theorem iI_ex (x : Int32) : ∃ z : Int, (-2147483648 ≤ z ∧ z < 2147483648) ∧ x = iI z := ⟨x.toInt, ⟨by have := x.minValue_le_toInt; simpa using this, by have := x.toInt_lt; simpa using this⟩, (iI_of x).symm⟩
theorem iI_add (a b : Int) : iI a + iI b = iI (a + b) := (Int32.ofInt_add a b).symm
theorem iI_sub (a b : Int) : iI a - iI b = iI (a - b) := (Int32.ofInt_sub a b).symm
theorem iI_mul (a b : Int) : iI a * iI b = iI (a * b) := (Int32.ofInt_mul a b).symm
theorem iI_neg (a : Int) : -iI a = iI (-a) := (Int32.ofInt_neg a).symm
theorem iI_nI (n : Nat) : nI n = iI (n : Int) := (Int32.ofInt_eq_ofNat).symm
theorem iI_lt {a b : Int} (ha : -2147483648 ≤ a ∧ a < 2147483648) (hb : -2147483648 ≤ b ∧ b < 2147483648) : (iI a < iI b) = (a < b) := by rw [Int32.lt_iff_toInt_lt, iI_toInt ha, iI_toInt hb]
theorem iI_le {a b : Int} (ha : -2147483648 ≤ a ∧ a < 2147483648) (hb : -2147483648 ≤ b ∧ b < 2147483648) : (iI a ≤ iI b) = (a ≤ b) := by rw [Int32.le_iff_toInt_le, iI_toInt ha, iI_toInt hb]
theorem iI_eq {a b : Int} (ha : -2147483648 ≤ a ∧ a < 2147483648) (hb : -2147483648 ≤ b ∧ b < 2147483648) : (iI a = iI b) = (a = b) := by rw [← Int32.toInt_inj, iI_toInt ha, iI_toInt hb]
theorem iI_cl {z : Int} (h : -2147483648 ≤ z ∧ z < 2147483648) : (iI z).toNatClampNeg = z.toNat := Int32.toNatClampNeg_ofInt_of_le (by omega) (by omega)
theorem iI_div {a b : Int} (ha : 0 ≤ a ∧ a < 2147483648) (hb : 0 < b ∧ b < 2147483648) : iI a / iI b = iI (a / b) := by
  apply Int32.toInt_inj.mp
  rw [Int32.toInt_div_of_ne_left _ _ (by intro h; have := congrArg Int32.toInt h; rw [iI_toInt (by omega)] at this; simp at this; omega), iI_toInt (by omega), iI_toInt (by omega), Int.tdiv_eq_ediv_of_nonneg ha.1, iI_toInt]
  have h1 : 0 ≤ a / b := Int.ediv_nonneg ha.1 (by omega)
  have h2 : a / b ≤ a := Int.ediv_le_self _ ha.1
  omega
theorem iI_64 {a : Int} (ha : -2147483648 ≤ a ∧ a < 2147483648) : (iI a).toInt64 = Int64.ofInt a := Int32.toInt64_ofInt (by simpa using ha.1) (by have h1 : Int32.maxValue.toInt = 2147483647 := rfl; omega)
theorem li_0 : (0 : Int32) = iI 0 := rfl
theorem li_1 : (1 : Int32) = iI 1 := rfl
theorem li_2 : (2 : Int32) = iI 2 := rfl
theorem li_3 : (3 : Int32) = iI 3 := rfl
theorem li_4 : (4 : Int32) = iI 4 := rfl
theorem li_5 : (5 : Int32) = iI 5 := rfl
theorem li_6 : (6 : Int32) = iI 6 := rfl
theorem li_7 : (7 : Int32) = iI 7 := rfl
theorem li_8 : (8 : Int32) = iI 8 := rfl
theorem li_9 : (9 : Int32) = iI 9 := rfl
theorem li_10 : (10 : Int32) = iI 10 := rfl
theorem li_11 : (11 : Int32) = iI 11 := rfl
theorem li_12 : (12 : Int32) = iI 12 := rfl
theorem li_13 : (13 : Int32) = iI 13 := rfl
theorem li_14 : (14 : Int32) = iI 14 := rfl
theorem li_15 : (15 : Int32) = iI 15 := rfl
theorem li_16 : (16 : Int32) = iI 16 := rfl
theorem li_17 : (17 : Int32) = iI 17 := rfl
theorem li_18 : (18 : Int32) = iI 18 := rfl
theorem li_19 : (19 : Int32) = iI 19 := rfl
theorem li_20 : (20 : Int32) = iI 20 := rfl
theorem li_21 : (21 : Int32) = iI 21 := rfl
theorem li_22 : (22 : Int32) = iI 22 := rfl
theorem li_23 : (23 : Int32) = iI 23 := rfl
theorem li_24 : (24 : Int32) = iI 24 := rfl
theorem li_25 : (25 : Int32) = iI 25 := rfl
theorem li_26 : (26 : Int32) = iI 26 := rfl
theorem li_27 : (27 : Int32) = iI 27 := rfl
theorem li_28 : (28 : Int32) = iI 28 := rfl
theorem li_29 : (29 : Int32) = iI 29 := rfl
theorem li_30 : (30 : Int32) = iI 30 := rfl
theorem li_31 : (31 : Int32) = iI 31 := rfl
theorem li_32 : (32 : Int32) = iI 32 := rfl
theorem li_36 : (36 : Int32) = iI 36 := rfl
theorem li_39 : (39 : Int32) = iI 39 := rfl
theorem li_40 : (40 : Int32) = iI 40 := rfl
theorem li_41 : (41 : Int32) = iI 41 := rfl
theorem li_42 : (42 : Int32) = iI 42 := rfl
theorem li_43 : (43 : Int32) = iI 43 := rfl
theorem li_45 : (45 : Int32) = iI 45 := rfl
theorem li_47 : (47 : Int32) = iI 47 := rfl
theorem li_48 : (48 : Int32) = iI 48 := rfl
theorem li_50 : (50 : Int32) = iI 50 := rfl
theorem li_55 : (55 : Int32) = iI 55 := rfl
theorem li_57 : (57 : Int32) = iI 57 := rfl
theorem li_59 : (59 : Int32) = iI 59 := rfl
theorem li_60 : (60 : Int32) = iI 60 := rfl
theorem li_61 : (61 : Int32) = iI 61 := rfl
theorem li_90 : (90 : Int32) = iI 90 := rfl
theorem li_97 : (97 : Int32) = iI 97 := rfl
theorem li_99 : (99 : Int32) = iI 99 := rfl
theorem li_100 : (100 : Int32) = iI 100 := rfl
theorem li_122 : (122 : Int32) = iI 122 := rfl
theorem li_127 : (127 : Int32) = iI 127 := rfl
theorem li_159 : (159 : Int32) = iI 159 := rfl
theorem li_160 : (160 : Int32) = iI 160 := rfl
theorem li_199 : (199 : Int32) = iI 199 := rfl
theorem li_200 : (200 : Int32) = iI 200 := rfl
theorem li_255 : (255 : Int32) = iI 255 := rfl
theorem li_499 : (499 : Int32) = iI 499 := rfl
theorem li_500 : (500 : Int32) = iI 500 := rfl
theorem li_720 : (720 : Int32) = iI 720 := rfl
theorem li_999 : (999 : Int32) = iI 999 := rfl
theorem li_1000 : (1000 : Int32) = iI 1000 := rfl
theorem li_1001 : (1001 : Int32) = iI 1001 := rfl
theorem li_1002 : (1002 : Int32) = iI 1002 := rfl
theorem li_1003 : (1003 : Int32) = iI 1003 := rfl
theorem li_1004 : (1004 : Int32) = iI 1004 := rfl
theorem li_1005 : (1005 : Int32) = iI 1005 := rfl
theorem li_1006 : (1006 : Int32) = iI 1006 := rfl
theorem li_5000 : (5000 : Int32) = iI 5000 := rfl
theorem li_6000 : (6000 : Int32) = iI 6000 := rfl
theorem li_7000 : (7000 : Int32) = iI 7000 := rfl
theorem li_9999 : (9999 : Int32) = iI 9999 := rfl
theorem li_48271 : (48271 : Int32) = iI 48271 := rfl
theorem li_99999 : (99999 : Int32) = iI 99999 := rfl
theorem li_100000 : (100000 : Int32) = iI 100000 := rfl
theorem li_1000000 : (1000000 : Int32) = iI 1000000 := rfl
theorem rdA_i {α : Type} {n : Nat} {σ : Sg} {k : Nat} {z : Int} {f : Int32 → Option α} (h : 0 ≤ z ∧ z < n ∧ n ≤ 100000) : rdA n σ k (iI z) f = f (σ k z.toNat) := by
  rw [rdA, iI_cl (by omega), if_neg]
  rw [li_0, iI_lt (by omega) (by omega)]; omega
theorem wrA_i {α : Type} {n : Nat} {σ : Sg} {k : Nat} {z : Int} {v : Int32} {f : Sg → Option α} (h : 0 ≤ z ∧ z < n ∧ n ≤ 100000) : wrA n σ k (iI z) v f = f (st σ k z.toNat v) := by
  rw [wrA, iI_cl (by omega), if_neg]
  rw [li_0, iI_lt (by omega) (by omega)]; omega
theorem wrF_i {α : Type} {σ : Sg} {k j : Nat} {v : Int32} {f : Sg → Option α} : wrF σ k j v f = f (st σ k j v) := rfl
theorem divI_i {α : Type} {a b : Int} {f : Int32 → Option α} (h : (0 ≤ a ∧ a < 2147483648) ∧ 0 < b ∧ b < 2147483648) : divI (iI a) (iI b) f = f (iI (a / b)) := by
  rw [divI, if_neg, iI_div h.1 h.2]
  rw [li_0, iI_eq (by omega) (by omega)]; omega
theorem remI_i {α : Type} {a b : Int} {f : Int32 → Option α} (h : (0 ≤ a ∧ a < 2147483648) ∧ 0 < b ∧ b < 2147483648) : remI (iI a) (iI b) f = f (iI (a % b)) := by
  rw [remI, if_neg, iI_div h.1 h.2, iI_mul, iI_sub]
  · congr 2
    have := Int.emod_add_mul_ediv a b
    rw [Int.mul_comm] at this
    omega
  · rw [li_0, iI_eq (by omega) (by omega)]; omega
theorem bnI_s {α : Type} {σ : Sg} {x : Int32} {f : Sg → Int32 → Option α} : bnI (some (σ, x)) f = f σ x := rfl
theorem bnL_s {α : Type} {σ : Sg} {x : Int64} {f : Sg → Int64 → Option α} : bnL (some (σ, x)) f = f σ x := rfl
theorem bnV_s {α : Type} {σ : Sg} {f : Sg → Option α} : bnV (some σ) f = f σ := rfl
theorem bnT_s {α : Type} {N : Nat} {σ : Sg} {x : Nat} {f : Sg → Nat → Option α} (h : x < N) : bnT N (some (σ, x)) f = f σ x := by rw [bnT]; exact if_pos h
theorem retZ_i0 {σ : Sg} : retZ σ 0 = some (σ, 0) := rfl
theorem retZ_i1 {σ : Sg} : retZ σ 1 = some (σ, 1) := rfl
theorem mxI_i {a b : Int} (ha : -2147483648 ≤ a ∧ a < 2147483648) (hb : -2147483648 ≤ b ∧ b < 2147483648) : mxI (iI a) (iI b) = iI (if a < b then b else a) := by
  simp only [mxI, iI_lt ha hb]; split <;> rfl
theorem mnI_i {a b : Int} (ha : -2147483648 ≤ a ∧ a < 2147483648) (hb : -2147483648 ≤ b ∧ b < 2147483648) : mnI (iI a) (iI b) = iI (if b < a then b else a) := by
  simp only [mnI, iI_lt hb ha]; split <;> rfl
theorem abI_i {a : Int} (ha : -2147483648 ≤ a ∧ a < 2147483648) : abI (iI a) = iI (if 0 ≤ a then a else -a) := by
  have h0 : -2147483648 ≤ (0:Int) ∧ (0:Int) < 2147483648 := by omega
  simp only [abI, li_0, iI_le h0 ha, iI_sub, Int.zero_sub]; split <;> rfl
theorem st_e {σ : Sg} {k j : Nat} {v : Int32} : st σ k j v k j = v := by simp [st]
theorem st_k {σ : Sg} {k j a b : Nat} {v : Int32} (h : a ≠ k) : st σ k j v a b = σ a b := by simp [st, h]
theorem st_j {σ : Sg} {k j a b : Nat} {v : Int32} (h : b ≠ j) : st σ k j v a b = σ a b := by simp [st, h]
theorem st_v {σ : Sg} {k j a b : Nat} {v : Int32} : st σ k j v a b = if a = k ∧ b = j then v else σ a b := by
  unfold st; split <;> rename_i h1
  · split <;> rename_i h2
    · rw [if_pos ⟨h1, h2⟩]
    · rw [if_neg (fun h => h2 h.2)]
  · rw [if_neg (fun h => h1 h.1)]
/-! loops that count up, that go on till their end -/
theorem loop_up {S R : Type} (g : Nat → Nat → S → R) (I : Nat → S → Prop) (b : Nat) (hs : ∀ n i s, i < b → I i s → ∃ s', g (n + 1) i s = g n (i + 1) s' ∧ I (i + 1) s') : ∀ (d i : Nat) (s : S) (n : Nat), i + d = b → I i s → d ≤ n → ∃ s', g n i s = g (n - d) b s' ∧ I b s' := by
  intro d
  induction d with
  | zero => intro i s n h hI _; exact ⟨s, by rw [Nat.sub_zero, ← h, Nat.add_zero], by rw [← h, Nat.add_zero]; exact hI⟩
  | succ d ih =>
    intro i s n h hI hn
    obtain ⟨m, rfl⟩ : ∃ m, n = m + 1 := ⟨n - 1, by omega⟩
    obtain ⟨s1, e1, h1⟩ := hs m i s (by omega) hI
    obtain ⟨s2, e2, h2⟩ := ih (i + 1) s1 m (by omega) h1 (by omega)
    exact ⟨s2, by rw [e1, e2, Nat.add_sub_add_right], h2⟩
