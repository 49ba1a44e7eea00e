/-! all orders: the class goes from each to the next greater one, the reference picks them out of all numbers -/
def swL (ds : List Nat) (i j : Nat) : List Nat := (ds.set i (ds.getD j 0)).set j (ds.getD i 0)
def lfS (ds : List Nat) : Nat → Nat
  | 0 => 0
  | k + 1 => if ds.getD (k + 1) 0 < ds.getD k 0 then lfS ds k else k + 1
def rgS (ds : List Nat) (l : Nat) : Nat → Nat
  | 0 => l + 1
  | d + 1 => if ds.getD (l + 1 + (d + 1)) 0 < ds.getD l 0 then rgS ds l d else l + 1 + (d + 1)
def rvS : Nat → List Nat → Nat → Nat → List Nat
  | 0, ds, _, _ => ds
  | f + 1, ds, i, j => if j ≤ i then ds else rvS f (swL ds i j) (i + 1) (j - 1)
def nxS (n : Nat) (ds : List Nat) : Option (List Nat) := if lfS ds (n - 1) = 0 then none else some (rvS 6 (swL ds (lfS ds (n - 1) - 1) (rgS ds (lfS ds (n - 1) - 1) (n - 1 - lfS ds (n - 1)))) (lfS ds (n - 1)) (n - 1))
def orbL (n : Nat) : Nat → List Nat → List (List Nat)
  | 0, _ => []
  | f + 1, ds => ds :: (match nxS n ds with | none => [] | some e => orbL n f e)
def id6 : List Nat := [0, 1, 2, 3, 4, 5]
def dgL (n : Nat) : Nat → Nat → List Nat → List Nat
  | 0, _, acc => acc
  | k + 1, l, acc => dgL n k (l / n) (l % n :: acc)
def seN (n : Nat) : Nat → Nat → Nat → Nat
  | 0, _, s => s
  | k + 1, l, s => seN n k (Nat.div l n) (Nat.lor s (Nat.shiftLeft 1 (Nat.mod l n)))
def scN (n hi : Nat) : Nat → List Nat
  | 0 => []
  | k + 1 => match Nat.beq (seN n n (Nat.sub hi (k + 1)) 0) (2 ^ n - 1) with | true => Nat.sub hi (k + 1) :: scN n hi k | false => scN n hi k
def dgs (n a : Nat) : List Nat := dgL n n a [] ++ id6.drop n
def hIS (ds : List Nat) : Nat → Nat
  | 0 => 0
  | i + 1 => 10 * hIS ds i + ds.getD i 0 + 1
def vTS : List Nat → Nat × Nat
  | [] => (1, 0)
  | p :: t => ((vTS t).1 * 10, (vTS t).2 + (vTS t).1 * (p + 1))
def chP (n : Nat) (ds : List Nat) : Bool := Nat.beq ds.length 6 && Nat.beq (hIS ds n) (vTS (ds.take n)).2 && (List.range n).all (fun i => Nat.blt ((ds.take n).getD i 0) n && Nat.beq ((ds.take n).idxOf ((ds.take n).getD i 0)) i && Nat.beq ((ds.take n).getD i 0) (ds.getD i 0) && Nat.blt ((ds.take n).idxOf i) n && Nat.beq ((ds.take n).getD ((ds.take n).idxOf i) 0) i) && ds.all (fun p => Nat.blt p 6)
theorem sc_1 : (scN 1 1 1).map (dgs 1) = orbL 1 720 id6 := by decide +kernel
theorem sc_2 : (scN 2 4 4).map (dgs 2) = orbL 2 720 id6 := by decide +kernel
theorem sc_3 : (scN 3 27 27).map (dgs 3) = orbL 3 720 id6 := by decide +kernel
theorem sc_4 : (scN 4 256 256).map (dgs 4) = orbL 4 720 id6 := by decide +kernel
theorem sc_5 : (scN 5 3125 3125).map (dgs 5) = orbL 5 720 id6 := by decide +kernel
theorem sc_60 : (scN 6 7776 7776).map (dgs 6) = (orbL 6 720 id6).take 120 := by decide +kernel
theorem sc_61 : (scN 6 15552 7776).map (dgs 6) = ((orbL 6 720 id6).drop 120).take 120 := by decide +kernel
theorem sc_62 : (scN 6 23328 7776).map (dgs 6) = ((orbL 6 720 id6).drop 240).take 120 := by decide +kernel
theorem sc_63 : (scN 6 31104 7776).map (dgs 6) = ((orbL 6 720 id6).drop 360).take 120 := by decide +kernel
theorem sc_64 : (scN 6 38880 7776).map (dgs 6) = ((orbL 6 720 id6).drop 480).take 120 := by decide +kernel
theorem sc_65 : (scN 6 46656 7776).map (dgs 6) = ((orbL 6 720 id6).drop 600) := by decide +kernel
theorem sc_app (n hi : Nat) (k2 : Nat) : ∀ k1, k1 + k2 ≤ hi → scN n hi (k1 + k2) = scN n (hi - k2) k1 ++ scN n hi k2
  | 0, _ => by rw [Nat.zero_add]; rfl
  | k1 + 1, h => by
    have e : Nat.sub (hi - k2) (k1 + 1) = Nat.sub hi (k1 + k2 + 1) := by show hi - k2 - (k1 + 1) = hi - (k1 + k2 + 1); omega
    rw [show k1 + 1 + k2 = k1 + k2 + 1 by omega, scN, scN, e, sc_app n hi k2 k1 (by omega)]
    cases Nat.beq (seN n n (Nat.sub hi (k1 + k2 + 1)) 0) (2 ^ n - 1) <;> rfl
theorem sc_6 : (scN 6 46656 46656).map (dgs 6) = orbL 6 720 id6 := by
  have h5 := sc_app 6 46656 7776 38880 (by omega)
  have h4 := sc_app 6 38880 7776 31104 (by omega)
  have h3 := sc_app 6 31104 7776 23328 (by omega)
  have h2 := sc_app 6 23328 7776 15552 (by omega)
  have h1 := sc_app 6 15552 7776 7776 (by omega)
  simp only [Nat.reduceAdd, Nat.reduceSub] at h1 h2 h3 h4 h5
  rw [h5, h4, h3, h2, h1]
  simp only [List.map_append]
  rw [sc_60, sc_61, sc_62, sc_63, sc_64, sc_65]
  have t : ∀ (l : List (List Nat)) (a b : Nat), a + 120 = b → l.take a ++ (l.drop a).take 120 = l.take b := by
    intro l a b h
    subst h
    exact List.take_add.symm
  rw [t _ 120 240 rfl, t _ 240 360 rfl, t _ 360 480 rfl, t _ 480 600 rfl, List.take_append_drop]
theorem ch_1 : (orbL 1 720 id6).all (chP 1) = true := by decide +kernel
theorem ch_2 : (orbL 2 720 id6).all (chP 2) = true := by decide +kernel
theorem ch_3 : (orbL 3 720 id6).all (chP 3) = true := by decide +kernel
theorem ch_4 : (orbL 4 720 id6).all (chP 4) = true := by decide +kernel
theorem ch_5 : (orbL 5 720 id6).all (chP 5) = true := by decide +kernel
theorem ch_6 : (orbL 6 720 id6).all (chP 6) = true := by decide +kernel
theorem sc_all {n : Nat} (h : 1 ≤ n ∧ n ≤ 6) : (scN n (n ^ n) (n ^ n)).map (dgs n) = orbL n 720 id6 := by
  rcases (show n = 1 ∨ n = 2 ∨ n = 3 ∨ n = 4 ∨ n = 5 ∨ n = 6 by omega) with rfl | rfl | rfl | rfl | rfl | rfl
  · exact sc_1
  · exact sc_2
  · exact sc_3
  · exact sc_4
  · exact sc_5
  · exact sc_6
theorem ch_0 : chP 0 id6 = true := by decide +kernel
theorem ch_all {n : Nat} (h : n ≤ 6) : ∀ ds, ds ∈ orbL n 720 id6 → chP n ds = true := by
  rcases (show n = 0 ∨ n = 1 ∨ n = 2 ∨ n = 3 ∨ n = 4 ∨ n = 5 ∨ n = 6 by omega) with rfl | rfl | rfl | rfl | rfl | rfl | rfl
  · intro ds hd
    have : ds = id6 := by
      have e : orbL 0 720 id6 = [id6] := by rw [orbL]; rfl
      rw [e] at hd; exact List.mem_singleton.mp hd
    rw [this]; exact ch_0
  · exact List.all_eq_true.mp ch_1
  · exact List.all_eq_true.mp ch_2
  · exact List.all_eq_true.mp ch_3
  · exact List.all_eq_true.mp ch_4
  · exact List.all_eq_true.mp ch_5
  · exact List.all_eq_true.mp ch_6
theorem chP_e {n : Nat} {ds : List Nat} (h : chP n ds = true) : ds.length = 6 ∧ hIS ds n = (vTS (ds.take n)).2 ∧ (∀ i, i < n → (ds.take n).getD i 0 < n ∧ (ds.take n).idxOf ((ds.take n).getD i 0) = i ∧ (ds.take n).getD i 0 = ds.getD i 0 ∧ (ds.take n).idxOf i < n ∧ (ds.take n).getD ((ds.take n).idxOf i) 0 = i) ∧ ∀ p, p ∈ ds → p < 6 := by
  unfold chP at h
  rw [Bool.and_eq_true, Bool.and_eq_true, Bool.and_eq_true] at h
  obtain ⟨⟨⟨h1, h2⟩, h3⟩, h4⟩ := h
  refine ⟨Nat.eq_of_beq_eq_true h1, Nat.eq_of_beq_eq_true h2, fun i hi => ?_, fun p hp => ?_⟩
  · have := List.all_eq_true.mp h3 i (List.mem_range.mpr hi)
    rw [Bool.and_eq_true, Bool.and_eq_true, Bool.and_eq_true, Bool.and_eq_true] at this
    obtain ⟨⟨⟨⟨a, b⟩, c⟩, d⟩, e⟩ := this
    exact ⟨Nat.le_of_ble_eq_true a, Nat.eq_of_beq_eq_true b, Nat.eq_of_beq_eq_true c, Nat.le_of_ble_eq_true d, Nat.eq_of_beq_eq_true e⟩
  · exact Nat.le_of_ble_eq_true (List.all_eq_true.mp h4 p hp)
/-- the row of the turns -/
def T35 (ds : List Nat) (x : Sg) : Prop := ds.length = 6 ∧ ∀ i, i < 6 → ds.getD i 0 < 6 ∧ x 35 i = iI (ds.getD i 0 : Nat)
theorem gD_set (l : List Nat) (a v k : Nat) (h : a < l.length) : (l.set a v).getD k 0 = if k = a then v else l.getD k 0 := by
  rw [List.getD_eq_getElem?_getD, List.getD_eq_getElem?_getD, List.getElem?_set]
  by_cases e : a = k
  · rw [if_pos e, if_pos e.symm, if_pos h]; rfl
  · rw [if_neg e, if_neg (fun q => e q.symm)]
theorem T_sw {ds : List Nat} {x : Sg} (h : T35 ds x) {i j : Nat} (hi : i < 6) (hj : j < 6) : T35 (swL ds i j) (st (st x 35 i (iI (ds.getD j 0 : Nat))) 35 j (iI (ds.getD i 0 : Nat))) := by
  obtain ⟨h1, h2⟩ := h
  refine ⟨by unfold swL; rw [List.length_set, List.length_set]; exact h1, fun k hk => ?_⟩
  unfold swL
  rw [gD_set _ _ _ _ (by rw [List.length_set, h1]; exact hj), gD_set _ _ _ _ (by rw [h1]; exact hi)]
  by_cases e1 : k = j
  · rw [if_pos e1, e1, st_e]; exact ⟨(h2 i hi).1, rfl⟩
  · rw [if_neg e1, st_j e1]
    by_cases e2 : k = i
    · rw [if_pos e2, e2, st_e]; exact ⟨(h2 j hj).1, rfl⟩
    · rw [if_neg e2, st_j e2]; exact h2 k hk
theorem x_chg {F N : Nat} {ln : Nat → Nat} {ds : List Nat} {x : Sg} (h : T35 ds x) {i j : Nat} (hi : i < 6) (hj : j < 6) : ∃ x', g_X6_changeTurns F N ln (iI (i : Int)) (iI (j : Int)) x = some x' ∧ T35 (swL ds i j) x' ∧ ∀ a, a ≠ 35 → x' a = x a := by
  unfold g_X6_changeTurns
  rw [rdA_i (by omega), rdA_i (by omega), wrA_i (by omega), wrA_i (by omega), Int.toNat_natCast, Int.toNat_natCast, (h.2 i hi).2, (h.2 j hj).2]
  exact ⟨_, rfl, T_sw h hi hj, fun a ha => by rw [st_ne _ _ _ ha, st_ne _ _ _ ha]⟩
theorem x_rev {F N : Nat} {ln : Nat → Nat} : ∀ (f i j g : Nat) (ds : List Nat) (x : Sg), j < 6 → i + f ≤ 100 → j + 1 ≤ i + 2 * f → f < g → T35 ds x → ∃ x', g_X6_turnOn_l93 F N ln g (iI (i : Int)) (iI (j : Int)) x = some (x', 1) ∧ T35 (rvS f ds i j) x' ∧ ∀ a, a ≠ 35 → x' a = x a := by
  intro f
  induction f with
  | zero =>
    intro i j g ds x hj hi hf hg hT
    obtain ⟨g, rfl⟩ : ∃ q, g = q + 1 := ⟨g - 1, by omega⟩
    rw [g_X6_turnOn_l93, if_pos (by rw [iI_le (by omega) (by omega)]; omega)]
    exact ⟨x, rfl, hT, fun _ _ => rfl⟩
  | succ f ih =>
    intro i j g ds x hj hi hf hg hT
    obtain ⟨g, rfl⟩ : ∃ q, g = q + 1 := ⟨g - 1, by omega⟩
    by_cases h : j ≤ i
    · rw [g_X6_turnOn_l93, if_pos (by rw [iI_le (by omega) (by omega)]; omega), rvS, if_pos h]
      exact ⟨x, rfl, hT, fun _ _ => rfl⟩
    · obtain ⟨x1, e1, t1, f1⟩ := x_chg (F := F) (N := N) (ln := ln) hT (i := i) (j := j) (by omega) (by omega)
      obtain ⟨x2, e2, t2, f2⟩ := ih (i + 1) (j - 1) g (swL ds i j) x1 (by omega) (by omega) (by omega) (by omega) t1
      rw [show ((i + 1 : Nat) : Int) = (i : Int) + 1 by omega, show ((j - 1 : Nat) : Int) = (j : Int) + -1 by omega] at e2
      rw [g_X6_turnOn_l93, if_neg (by rw [iI_le (by omega) (by omega)]; omega), rvS, if_neg h, e1, bnV_s, li_n1, iI_add, li_1, iI_add]
      exact ⟨x2, e2, t2, fun a ha => (f2 a ha).trans (f1 a ha)⟩
