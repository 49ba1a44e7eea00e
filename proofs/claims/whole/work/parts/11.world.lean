def lay0 : List (Option Nat) := [none, none]
def lay1 : List (Option Nat) := [none, none, none, none, none, some 1, some 2, some 3, some 4]
def lay2 : List (Option Nat) := [some 1, some 2, some 3, some 4, some 5, some 6, some 7, some 8, none, none, none]
def lay3 : List (Option Nat) := [none, none, some 1]
def lay4 : List (Option Nat) := [some 1, none, some 2, some 3, none, none, none, none, none, none]
def lay5 : List (Option Nat) := [some 1, some 2]
def lay6 : List (Option Nat) := [some 1, some 6, some 11, none, some 16, some 25, some 26, some 29, none, some 30, some 34, some 35]
def lay7 : List (Option Nat) := [none, some 1, some 2, some 3, none, none, some 4, none, some 5, some 6, none, none, none, some 7, some 8, some 9, some 10, some 11, some 12, none, none, none, none, some 13, some 14, none, none, none, some 15, some 16, some 17, some 18, some 19, some 20, some 21, some 22, none, none, none, none, none, some 23, none]
def isCt (k : Nat) : Prop := k = 1 ∨ k = 6 ∨ k = 11
def isSh (k : Nat) : Prop := k = 36 ∨ k = 38 ∨ k = 40 ∨ k = 42
theorem isCt_1 : isCt 1 := Or.inl rfl
theorem isCt_6 : isCt 6 := Or.inr (Or.inl rfl)
theorem isCt_11 : isCt 11 := Or.inr (Or.inr rfl)
/-- the cell of text t -/
def tc (t : Nat) : Nat := if t = 0 then 26 else 41 + 3 * t
theorem tc_s {t : Nat} (h : 0 < t) : tc t = 41 + 3 * t := if_neg (by omega)
def kdYl (cT cS : ClassId) (NA NS : Nat) (ln : Nat → Nat) : List Kd := [.inr (.inl (6, lay6)), .inr (.inl (1, lay1)), .inl 6, .inl 6, .inl 6, .inl 6, .inr (.inl (1, lay1)), .inl 6, .inl 6, .inl 6, .inl 6, .inr (.inl (1, lay1)), .inl 6, .inl 6, .inl 6, .inl 6, .inr (.inl (2, lay2)), .inl 6, .inl 6, .inl 6, .inl 6, .inl 6, .inl 6, .inl 6, .inl 160, .inr (.inl (0, lay0)), .inr (.inl (5, lay5)), .inl (ln 0), .inl 3, .inr (.inr (cT, 6, fun j => if j < NA then some (tc j) else none)), .inr (.inl (4, lay4)), .inl 160, .inl 160, .inl 3, .inr (.inr (cS, 4, fun j => if j < NS then some (36 + 2 * j) else none)), .inl 6, .inr (.inl (3, lay3)), .inl 40, .inr (.inl (3, lay3)), .inl 40, .inr (.inl (3, lay3)), .inl 40, .inr (.inl (3, lay3)), .inl 40]
/-- kinds of the cells of a class with all that it holds: NA texts in its row, NS sheets in theirs -/
def kdY (cT cS : ClassId) (NA NS : Nat) (ln : Nat → Nat) (k : Nat) : Kd := if 44 ≤ k then (if (k - 44) % 3 = 0 then .inr (.inl (5, lay5)) else if (k - 44) % 3 = 1 then .inl (ln ((k - 41) / 3)) else .inl 3) else (kdYl cT cS NA NS ln).getD k (.inl 0)
def isX (G : GW) (N : Nat) (ln : Nat → Nat) (cT cS : ClassId) : Prop := gKd G = kdY cT cS N 4 ln ∧ gN G = 41 + 3 * N ∧ 0 < N ∧ N ≤ 6 ∧ gTys G = [(gI G, FieldType.int), (cT, .object "SoupByRank$Text"), (cS, .object "SoupByRank$Sheet")]
section WX
variable {G : GW} {N : Nat} {ln : Nat → Nat} {cT cS : ClassId}
theorem isX_pos (hG : isX G N ln cT cS) : 0 < N := hG.2.2.1
theorem tyT (hG : isX G N ln cT cS) : (gTys G)[1]? = some (cT, .object "SoupByRank$Text") := by rw [hG.2.2.2.2]; rfl
theorem tyS (hG : isX G N ln cT cS) : (gTys G)[2]? = some (cS, .object "SoupByRank$Sheet") := by rw [hG.2.2.2.2]; rfl
theorem kX_0 (hG : isX G N ln cT cS) : gKd G 0 = .inr (.inl (6, lay6)) ∧ 0 < gN G := ⟨by rw [hG.1]; rfl, by have := isX_pos hG; rw [hG.2.1]; omega⟩
theorem kX_1 (hG : isX G N ln cT cS) : gKd G 1 = .inr (.inl (1, lay1)) ∧ 1 < gN G := ⟨by rw [hG.1]; rfl, by have := isX_pos hG; rw [hG.2.1]; omega⟩
theorem kX_2 (hG : isX G N ln cT cS) : gKd G 2 = .inl 6 ∧ 2 < gN G := ⟨by rw [hG.1]; rfl, by have := isX_pos hG; rw [hG.2.1]; omega⟩
theorem kX_3 (hG : isX G N ln cT cS) : gKd G 3 = .inl 6 ∧ 3 < gN G := ⟨by rw [hG.1]; rfl, by have := isX_pos hG; rw [hG.2.1]; omega⟩
theorem kX_4 (hG : isX G N ln cT cS) : gKd G 4 = .inl 6 ∧ 4 < gN G := ⟨by rw [hG.1]; rfl, by have := isX_pos hG; rw [hG.2.1]; omega⟩
theorem kX_5 (hG : isX G N ln cT cS) : gKd G 5 = .inl 6 ∧ 5 < gN G := ⟨by rw [hG.1]; rfl, by have := isX_pos hG; rw [hG.2.1]; omega⟩
theorem kX_6 (hG : isX G N ln cT cS) : gKd G 6 = .inr (.inl (1, lay1)) ∧ 6 < gN G := ⟨by rw [hG.1]; rfl, by have := isX_pos hG; rw [hG.2.1]; omega⟩
theorem kX_7 (hG : isX G N ln cT cS) : gKd G 7 = .inl 6 ∧ 7 < gN G := ⟨by rw [hG.1]; rfl, by have := isX_pos hG; rw [hG.2.1]; omega⟩
theorem kX_8 (hG : isX G N ln cT cS) : gKd G 8 = .inl 6 ∧ 8 < gN G := ⟨by rw [hG.1]; rfl, by have := isX_pos hG; rw [hG.2.1]; omega⟩
theorem kX_9 (hG : isX G N ln cT cS) : gKd G 9 = .inl 6 ∧ 9 < gN G := ⟨by rw [hG.1]; rfl, by have := isX_pos hG; rw [hG.2.1]; omega⟩
theorem kX_10 (hG : isX G N ln cT cS) : gKd G 10 = .inl 6 ∧ 10 < gN G := ⟨by rw [hG.1]; rfl, by have := isX_pos hG; rw [hG.2.1]; omega⟩
theorem kX_11 (hG : isX G N ln cT cS) : gKd G 11 = .inr (.inl (1, lay1)) ∧ 11 < gN G := ⟨by rw [hG.1]; rfl, by have := isX_pos hG; rw [hG.2.1]; omega⟩
theorem kX_12 (hG : isX G N ln cT cS) : gKd G 12 = .inl 6 ∧ 12 < gN G := ⟨by rw [hG.1]; rfl, by have := isX_pos hG; rw [hG.2.1]; omega⟩
theorem kX_13 (hG : isX G N ln cT cS) : gKd G 13 = .inl 6 ∧ 13 < gN G := ⟨by rw [hG.1]; rfl, by have := isX_pos hG; rw [hG.2.1]; omega⟩
theorem kX_14 (hG : isX G N ln cT cS) : gKd G 14 = .inl 6 ∧ 14 < gN G := ⟨by rw [hG.1]; rfl, by have := isX_pos hG; rw [hG.2.1]; omega⟩
theorem kX_15 (hG : isX G N ln cT cS) : gKd G 15 = .inl 6 ∧ 15 < gN G := ⟨by rw [hG.1]; rfl, by have := isX_pos hG; rw [hG.2.1]; omega⟩
theorem kX_16 (hG : isX G N ln cT cS) : gKd G 16 = .inr (.inl (2, lay2)) ∧ 16 < gN G := ⟨by rw [hG.1]; rfl, by have := isX_pos hG; rw [hG.2.1]; omega⟩
theorem kX_17 (hG : isX G N ln cT cS) : gKd G 17 = .inl 6 ∧ 17 < gN G := ⟨by rw [hG.1]; rfl, by have := isX_pos hG; rw [hG.2.1]; omega⟩
theorem kX_18 (hG : isX G N ln cT cS) : gKd G 18 = .inl 6 ∧ 18 < gN G := ⟨by rw [hG.1]; rfl, by have := isX_pos hG; rw [hG.2.1]; omega⟩
theorem kX_19 (hG : isX G N ln cT cS) : gKd G 19 = .inl 6 ∧ 19 < gN G := ⟨by rw [hG.1]; rfl, by have := isX_pos hG; rw [hG.2.1]; omega⟩
theorem kX_20 (hG : isX G N ln cT cS) : gKd G 20 = .inl 6 ∧ 20 < gN G := ⟨by rw [hG.1]; rfl, by have := isX_pos hG; rw [hG.2.1]; omega⟩
theorem kX_21 (hG : isX G N ln cT cS) : gKd G 21 = .inl 6 ∧ 21 < gN G := ⟨by rw [hG.1]; rfl, by have := isX_pos hG; rw [hG.2.1]; omega⟩
theorem kX_22 (hG : isX G N ln cT cS) : gKd G 22 = .inl 6 ∧ 22 < gN G := ⟨by rw [hG.1]; rfl, by have := isX_pos hG; rw [hG.2.1]; omega⟩
theorem kX_23 (hG : isX G N ln cT cS) : gKd G 23 = .inl 6 ∧ 23 < gN G := ⟨by rw [hG.1]; rfl, by have := isX_pos hG; rw [hG.2.1]; omega⟩
theorem kX_24 (hG : isX G N ln cT cS) : gKd G 24 = .inl 160 ∧ 24 < gN G := ⟨by rw [hG.1]; rfl, by have := isX_pos hG; rw [hG.2.1]; omega⟩
theorem kX_25 (hG : isX G N ln cT cS) : gKd G 25 = .inr (.inl (0, lay0)) ∧ 25 < gN G := ⟨by rw [hG.1]; rfl, by have := isX_pos hG; rw [hG.2.1]; omega⟩
theorem kX_29 (hG : isX G N ln cT cS) : gKd G 29 = .inr (.inr (cT, 6, fun j => if j < N then some (tc j) else none)) ∧ 29 < gN G := ⟨by rw [hG.1]; rfl, by have := isX_pos hG; rw [hG.2.1]; omega⟩
theorem kX_30 (hG : isX G N ln cT cS) : gKd G 30 = .inr (.inl (4, lay4)) ∧ 30 < gN G := ⟨by rw [hG.1]; rfl, by have := isX_pos hG; rw [hG.2.1]; omega⟩
theorem kX_31 (hG : isX G N ln cT cS) : gKd G 31 = .inl 160 ∧ 31 < gN G := ⟨by rw [hG.1]; rfl, by have := isX_pos hG; rw [hG.2.1]; omega⟩
theorem kX_32 (hG : isX G N ln cT cS) : gKd G 32 = .inl 160 ∧ 32 < gN G := ⟨by rw [hG.1]; rfl, by have := isX_pos hG; rw [hG.2.1]; omega⟩
theorem kX_33 (hG : isX G N ln cT cS) : gKd G 33 = .inl 3 ∧ 33 < gN G := ⟨by rw [hG.1]; rfl, by have := isX_pos hG; rw [hG.2.1]; omega⟩
theorem kX_34 (hG : isX G N ln cT cS) : gKd G 34 = .inr (.inr (cS, 4, fun j => if j < 4 then some (36 + 2 * j) else none)) ∧ 34 < gN G := ⟨by rw [hG.1]; rfl, by have := isX_pos hG; rw [hG.2.1]; omega⟩
theorem kX_35 (hG : isX G N ln cT cS) : gKd G 35 = .inl 6 ∧ 35 < gN G := ⟨by rw [hG.1]; rfl, by have := isX_pos hG; rw [hG.2.1]; omega⟩
theorem kX_36 (hG : isX G N ln cT cS) : gKd G 36 = .inr (.inl (3, lay3)) ∧ 36 < gN G := ⟨by rw [hG.1]; rfl, by have := isX_pos hG; rw [hG.2.1]; omega⟩
theorem kX_37 (hG : isX G N ln cT cS) : gKd G 37 = .inl 40 ∧ 37 < gN G := ⟨by rw [hG.1]; rfl, by have := isX_pos hG; rw [hG.2.1]; omega⟩
theorem kX_38 (hG : isX G N ln cT cS) : gKd G 38 = .inr (.inl (3, lay3)) ∧ 38 < gN G := ⟨by rw [hG.1]; rfl, by have := isX_pos hG; rw [hG.2.1]; omega⟩
theorem kX_39 (hG : isX G N ln cT cS) : gKd G 39 = .inl 40 ∧ 39 < gN G := ⟨by rw [hG.1]; rfl, by have := isX_pos hG; rw [hG.2.1]; omega⟩
theorem kX_40 (hG : isX G N ln cT cS) : gKd G 40 = .inr (.inl (3, lay3)) ∧ 40 < gN G := ⟨by rw [hG.1]; rfl, by have := isX_pos hG; rw [hG.2.1]; omega⟩
theorem kX_41 (hG : isX G N ln cT cS) : gKd G 41 = .inl 40 ∧ 41 < gN G := ⟨by rw [hG.1]; rfl, by have := isX_pos hG; rw [hG.2.1]; omega⟩
theorem kX_42 (hG : isX G N ln cT cS) : gKd G 42 = .inr (.inl (3, lay3)) ∧ 42 < gN G := ⟨by rw [hG.1]; rfl, by have := isX_pos hG; rw [hG.2.1]; omega⟩
theorem kX_43 (hG : isX G N ln cT cS) : gKd G 43 = .inl 40 ∧ 43 < gN G := ⟨by rw [hG.1]; rfl, by have := isX_pos hG; rw [hG.2.1]; omega⟩
theorem kC0 {k : Nat} (hG : isX G N ln cT cS) (h : isCt k) : gKd G k = .inr (.inl (1, lay1)) ∧ k < gN G := by rcases h with rfl | rfl | rfl <;> exact ⟨by rw [hG.1]; rfl, by have := isX_pos hG; rw [hG.2.1]; omega⟩
theorem kC1 {k : Nat} (hG : isX G N ln cT cS) (h : isCt k) : gKd G (k + 1) = .inl 6 ∧ k + 1 < gN G := by rcases h with rfl | rfl | rfl <;> exact ⟨by rw [hG.1]; rfl, by have := isX_pos hG; rw [hG.2.1]; omega⟩
theorem kC2 {k : Nat} (hG : isX G N ln cT cS) (h : isCt k) : gKd G (k + 2) = .inl 6 ∧ k + 2 < gN G := by rcases h with rfl | rfl | rfl <;> exact ⟨by rw [hG.1]; rfl, by have := isX_pos hG; rw [hG.2.1]; omega⟩
theorem kC3 {k : Nat} (hG : isX G N ln cT cS) (h : isCt k) : gKd G (k + 3) = .inl 6 ∧ k + 3 < gN G := by rcases h with rfl | rfl | rfl <;> exact ⟨by rw [hG.1]; rfl, by have := isX_pos hG; rw [hG.2.1]; omega⟩
theorem kC4 {k : Nat} (hG : isX G N ln cT cS) (h : isCt k) : gKd G (k + 4) = .inl 6 ∧ k + 4 < gN G := by rcases h with rfl | rfl | rfl <;> exact ⟨by rw [hG.1]; rfl, by have := isX_pos hG; rw [hG.2.1]; omega⟩
theorem kS0 {k : Nat} (hG : isX G N ln cT cS) (h : isSh k) : gKd G k = .inr (.inl (3, lay3)) ∧ k < gN G := by rcases h with rfl | rfl | rfl | rfl <;> exact ⟨by rw [hG.1]; rfl, by have := isX_pos hG; rw [hG.2.1]; omega⟩
theorem kS1 {k : Nat} (hG : isX G N ln cT cS) (h : isSh k) : gKd G (k + 1) = .inl 40 ∧ k + 1 < gN G := by rcases h with rfl | rfl | rfl | rfl <;> exact ⟨by rw [hG.1]; rfl, by have := isX_pos hG; rw [hG.2.1]; omega⟩
theorem tc_lt {t M : Nat} (h : t < M) : tc t + 2 < 41 + 3 * M := by
  rcases Nat.eq_zero_or_pos t with rfl | h0
  · show 26 + 2 < _; omega
  · rw [tc_s h0]; omega
theorem kT0 {t : Nat} (hG : isX G N ln cT cS) (h : t < N) : gKd G (tc t) = .inr (.inl (5, lay5)) ∧ tc t < gN G := by
  have hl := tc_lt h
  refine ⟨?_, by rw [hG.2.1]; omega⟩
  rcases Nat.eq_zero_or_pos t with rfl | h0
  · rw [hG.1]; rfl
  · rw [tc_s h0, hG.1, kdY, if_pos (by omega), if_pos (by omega)]
theorem kT1 {t : Nat} (hG : isX G N ln cT cS) (h : t < N) : gKd G ((tc t) + 1) = .inl (ln t) ∧ (tc t) + 1 < gN G := by
  have hl := tc_lt h
  refine ⟨?_, by rw [hG.2.1]; omega⟩
  rcases Nat.eq_zero_or_pos t with rfl | h0
  · rw [hG.1]; rfl
  · rw [tc_s h0, hG.1, kdY, if_pos (by omega), if_neg (by omega), if_pos (by omega), show (41 + 3 * t + 1 - 41) / 3 = t by omega]
theorem kT2 {t : Nat} (hG : isX G N ln cT cS) (h : t < N) : gKd G ((tc t) + 2) = .inl 3 ∧ (tc t) + 2 < gN G := by
  have hl := tc_lt h
  refine ⟨?_, by rw [hG.2.1]; omega⟩
  rcases Nat.eq_zero_or_pos t with rfl | h0
  · rw [hG.1]; rfl
  · rw [tc_s h0, hG.1, kdY, if_pos (by omega), if_neg (by omega), if_neg (by omega)]
end WX
def kdMl : List Kd := [.inr (.inl (7, lay7)), .inl 6, .inl 6, .inl 12, .inl 160, .inl 1200, .inl 24, .inl 12, .inl 4, .inl 4, .inl 4, .inl 160, .inl 30, .inl 96, .inl 200, .inl 200, .inl 6, .inl 6, .inl 6, .inl 6, .inl 6, .inl 6, .inl 6, .inl 13]
def isM (G : GW) : Prop := gKd G = (fun k => kdMl.getD k (.inl 0)) ∧ gN G = 24 ∧ gTys G = [(gI G, FieldType.int)]
theorem kM_0 {G : GW} (hG : isM G) : gKd G 0 = .inr (.inl (7, lay7)) ∧ 0 < gN G := ⟨by rw [hG.1]; rfl, by rw [hG.2.1]; omega⟩
theorem kM_1 {G : GW} (hG : isM G) : gKd G 1 = .inl 6 ∧ 1 < gN G := ⟨by rw [hG.1]; rfl, by rw [hG.2.1]; omega⟩
theorem kM_2 {G : GW} (hG : isM G) : gKd G 2 = .inl 6 ∧ 2 < gN G := ⟨by rw [hG.1]; rfl, by rw [hG.2.1]; omega⟩
theorem kM_3 {G : GW} (hG : isM G) : gKd G 3 = .inl 12 ∧ 3 < gN G := ⟨by rw [hG.1]; rfl, by rw [hG.2.1]; omega⟩
theorem kM_4 {G : GW} (hG : isM G) : gKd G 4 = .inl 160 ∧ 4 < gN G := ⟨by rw [hG.1]; rfl, by rw [hG.2.1]; omega⟩
theorem kM_5 {G : GW} (hG : isM G) : gKd G 5 = .inl 1200 ∧ 5 < gN G := ⟨by rw [hG.1]; rfl, by rw [hG.2.1]; omega⟩
theorem kM_6 {G : GW} (hG : isM G) : gKd G 6 = .inl 24 ∧ 6 < gN G := ⟨by rw [hG.1]; rfl, by rw [hG.2.1]; omega⟩
theorem kM_7 {G : GW} (hG : isM G) : gKd G 7 = .inl 12 ∧ 7 < gN G := ⟨by rw [hG.1]; rfl, by rw [hG.2.1]; omega⟩
theorem kM_8 {G : GW} (hG : isM G) : gKd G 8 = .inl 4 ∧ 8 < gN G := ⟨by rw [hG.1]; rfl, by rw [hG.2.1]; omega⟩
theorem kM_9 {G : GW} (hG : isM G) : gKd G 9 = .inl 4 ∧ 9 < gN G := ⟨by rw [hG.1]; rfl, by rw [hG.2.1]; omega⟩
theorem kM_10 {G : GW} (hG : isM G) : gKd G 10 = .inl 4 ∧ 10 < gN G := ⟨by rw [hG.1]; rfl, by rw [hG.2.1]; omega⟩
theorem kM_11 {G : GW} (hG : isM G) : gKd G 11 = .inl 160 ∧ 11 < gN G := ⟨by rw [hG.1]; rfl, by rw [hG.2.1]; omega⟩
theorem kM_12 {G : GW} (hG : isM G) : gKd G 12 = .inl 30 ∧ 12 < gN G := ⟨by rw [hG.1]; rfl, by rw [hG.2.1]; omega⟩
theorem kM_13 {G : GW} (hG : isM G) : gKd G 13 = .inl 96 ∧ 13 < gN G := ⟨by rw [hG.1]; rfl, by rw [hG.2.1]; omega⟩
theorem kM_14 {G : GW} (hG : isM G) : gKd G 14 = .inl 200 ∧ 14 < gN G := ⟨by rw [hG.1]; rfl, by rw [hG.2.1]; omega⟩
theorem kM_15 {G : GW} (hG : isM G) : gKd G 15 = .inl 200 ∧ 15 < gN G := ⟨by rw [hG.1]; rfl, by rw [hG.2.1]; omega⟩
theorem kM_16 {G : GW} (hG : isM G) : gKd G 16 = .inl 6 ∧ 16 < gN G := ⟨by rw [hG.1]; rfl, by rw [hG.2.1]; omega⟩
theorem kM_17 {G : GW} (hG : isM G) : gKd G 17 = .inl 6 ∧ 17 < gN G := ⟨by rw [hG.1]; rfl, by rw [hG.2.1]; omega⟩
theorem kM_18 {G : GW} (hG : isM G) : gKd G 18 = .inl 6 ∧ 18 < gN G := ⟨by rw [hG.1]; rfl, by rw [hG.2.1]; omega⟩
theorem kM_19 {G : GW} (hG : isM G) : gKd G 19 = .inl 6 ∧ 19 < gN G := ⟨by rw [hG.1]; rfl, by rw [hG.2.1]; omega⟩
theorem kM_20 {G : GW} (hG : isM G) : gKd G 20 = .inl 6 ∧ 20 < gN G := ⟨by rw [hG.1]; rfl, by rw [hG.2.1]; omega⟩
theorem kM_21 {G : GW} (hG : isM G) : gKd G 21 = .inl 6 ∧ 21 < gN G := ⟨by rw [hG.1]; rfl, by rw [hG.2.1]; omega⟩
theorem kM_22 {G : GW} (hG : isM G) : gKd G 22 = .inl 6 ∧ 22 < gN G := ⟨by rw [hG.1]; rfl, by rw [hG.2.1]; omega⟩
theorem kM_23 {G : GW} (hG : isM G) : gKd G 23 = .inl 13 ∧ 23 < gN G := ⟨by rw [hG.1]; rfl, by rw [hG.2.1]; omega⟩
def mxI (x y : Int32) : Int32 := if x < y then y else x
def mnI (x y : Int32) : Int32 := if y < x then y else x
def abI (x : Int32) : Int32 := if 0 ≤ x then x else 0 - x
def rdS {α : Type} (i : Int32) (f : Nat → Option α) : Option α := if i < 0 ∨ 4 ≤ i.toNatClampNeg then none else f (36 + 2 * i.toNatClampNeg)
def rdT {α : Type} (N : Nat) (i : Int32) (f : Nat → Option α) : Option α := if (i < 0 ∨ 6 ≤ i.toNatClampNeg) ∨ N ≤ i.toNatClampNeg then none else f i.toNatClampNeg
def bnI {α : Type} (o : Option (Sg × Int32)) (f : Sg → Int32 → Option α) : Option α := match o with | some q => f q.1 q.2 | none => none
def bnL {α : Type} (o : Option (Sg × Int64)) (f : Sg → Int64 → Option α) : Option α := match o with | some q => f q.1 q.2 | none => none
def bnV {α : Type} (o : Option Sg) (f : Sg → Option α) : Option α := match o with | some q => f q | none => none
def bnT {α : Type} (N : Nat) (o : Option (Sg × Nat)) (f : Sg → Nat → Option α) : Option α := match o with | some q => if q.2 < N then f q.1 q.2 else none | none => none
theorem getD_mem {α : Type} (l : List α) (k : Nat) (d : α) (h : k < l.length) : l.getD k d ∈ l := by
  rw [List.getD_eq_getElem?_getD, List.getElem?_eq_getElem h]
  exact List.getElem_mem h
/-- the sign at a place of a constant -/
def chS (i : Nat) (k : Nat) : Int32 := (bytS.getD i []).getD k 0
def chA {α : Type} (i : Nat) (k : Int32) (f : Int32 → Option α) : Option α := if k < 0 ∨ lenS.getD i 0 ≤ k.toNatClampNeg then none else f (chS i k.toNatClampNeg)
/-- the first place from k on where a sign stands in a constant (of those that are left), else -1 -/
def ixF (i : Nat) (ch : Int32) : Nat → Nat → Int32
  | 0, _ => -1
  | d + 1, k => if chS i k = ch then nI k else ixF i ch d (k + 1)
def ixI (i : Nat) (ch : Int32) : Int32 := if ch < 0 ∨ 255 < ch then -1 else ixF i ch.toInt8.toInt32 (lenS.getD i 0) 0
theorem chA_e {α : Type} {i : Nat} {k : Int32} {f : Int32 → Option α} {r : α} (h : chA i k f = some r) : ∃ x, (vp_in k (lenS.getD i 0) ∧ chS i k.toNatClampNeg = x) ∧ f x = some r := by
  unfold chA at h; split at h
  · cases h
  · rename_i h1; exact ⟨_, ⟨h1, rfl⟩, h⟩
def cpS (σ : Sg) (k1 : Nat) (i : Int32) (k2 : Nat) (j n : Int32) : Sg := fun a b => if a = k2 then va_cpy (σ k1) (σ k2) i.toNatClampNeg j.toNatClampNeg n.toNatClampNeg b else σ a b
def cpA {α : Type} (n1 n2 : Nat) (σ : Sg) (k1 : Nat) (i : Int32) (k2 : Nat) (j n : Int32) (f : Sg → Option α) : Option α := if (¬ i < 0 ∧ ¬ j < 0 ∧ ¬ n < 0) ∧ i.toNatClampNeg + n.toNatClampNeg ≤ n1 ∧ j.toNatClampNeg + n.toNatClampNeg ≤ n2 then f (cpS σ k1 i k2 j n) else none
theorem no_e {α : Type} {P : Prop} {r : α} (h : (none : Option α) = some r) : P := by cases h
theorem rdS_e {α : Type} {i : Int32} {f : Nat → Option α} {r : α} (h : rdS i f = some r) : vp_in i 4 ∧ ∃ k, (if i.toNatClampNeg < 4 then some (36 + 2 * i.toNatClampNeg) else none) = some k ∧ isSh k ∧ f k = some r := by
  unfold rdS at h; split at h
  · cases h
  · rename_i h1
    have h2 : i.toNatClampNeg < 4 := by
      rcases Nat.lt_or_ge i.toNatClampNeg 4 with q | q
      · exact q
      · exact absurd (Or.inr q) h1
    refine ⟨h1, _, if_pos h2, ?_, h⟩
    unfold isSh; omega
theorem rdT_e {α : Type} {N : Nat} {i : Int32} {f : Nat → Option α} {r : α} (h : rdT N i f = some r) : vp_in i 6 ∧ ∃ t, t < N ∧ (if i.toNatClampNeg < N then some (tc i.toNatClampNeg) else none) = some (tc t) ∧ f t = some r := by
  unfold rdT at h; split at h
  · cases h
  · rename_i h1
    have h2 : i.toNatClampNeg < N := by
      rcases Nat.lt_or_ge i.toNatClampNeg N with q | q
      · exact q
      · exact absurd (Or.inr q) h1
    exact ⟨fun q => h1 (Or.inl q), _, h2, if_pos h2, h⟩
theorem bnI_e {α : Type} {o : Option (Sg × Int32)} {f : Sg → Int32 → Option α} {r : α} (h : bnI o f = some r) : ∃ σ x, o = some (σ, x) ∧ f σ x = some r := by
  unfold bnI at h; split at h
  · exact ⟨_, _, rfl, h⟩
  · cases h
theorem bnL_e {α : Type} {o : Option (Sg × Int64)} {f : Sg → Int64 → Option α} {r : α} (h : bnL o f = some r) : ∃ σ x, o = some (σ, x) ∧ f σ x = some r := by
  unfold bnL at h; split at h
  · exact ⟨_, _, rfl, h⟩
  · cases h
theorem bnV_e {α : Type} {o : Option Sg} {f : Sg → Option α} {r : α} (h : bnV o f = some r) : ∃ σ, o = some σ ∧ f σ = some r := by
  unfold bnV at h; split at h
  · exact ⟨_, rfl, h⟩
  · cases h
theorem bnT_e {α : Type} {N : Nat} {o : Option (Sg × Nat)} {f : Sg → Nat → Option α} {r : α} (h : bnT N o f = some r) : ∃ σ x, x < N ∧ o = some (σ, x) ∧ f σ x = some r := by
  unfold bnT at h; split at h
  · split at h
    · rename_i h1; exact ⟨_, _, h1, rfl, h⟩
    · cases h
  · cases h
theorem cpA_e {α : Type} {n1 n2 : Nat} {σ : Sg} {k1 : Nat} {i : Int32} {k2 : Nat} {j n : Int32} {f : Sg → Option α} {r : α} (h : cpA n1 n2 σ k1 i k2 j n f = some r) : ((¬ i < 0 ∧ ¬ j < 0 ∧ ¬ n < 0) ∧ i.toNatClampNeg + n.toNatClampNeg ≤ n1 ∧ j.toNatClampNeg + n.toNatClampNeg ≤ n2) ∧ ∃ x, cpS σ k1 i k2 j n = x ∧ f x = some r := by
  unfold cpA at h; split at h
  · rename_i h1; exact ⟨h1, _, rfl, h⟩
  · cases h
theorem tb_out {lo hi : Int} {x : Int32} (h : ∀ n : Int, lo ≤ n → n ≤ hi → ¬ x.toInt = n) : x.toInt < lo ∨ hi < x.toInt := by
  rcases Int.lt_or_le x.toInt lo with q | q
  · exact Or.inl q
  · rcases Int.lt_or_le hi x.toInt with q2 | q2
    · exact Or.inr q2
    · exact absurd rfl (h x.toInt q q2)
section RW2
variable {p : Program} {l : Launch} {e : Env} {R : Room} {s : State} {m : MethodId} {args : Array Value} {below : List Frame} {meth : Method} {c : Code} {H : Heap} {locs : List Loc} {cells slots : Nat} {Q : State → Prop}
variable {cc : ByteArray} {pc nL : Nat} {ls : Array Slot} {rest : List Value} {G : GW} {A : Nat → Prop} {H0 : Heap} {σ : Sg} {Ts : List Cond} {own : String} {σ' : Sg}
theorem r_areti {v r : Nat} {C : String} (S : CallFix p m c cc nL s args Ts own) (hr : meth.sig.returnType = some (.object C)) (hlk : meth.locks = false) (hS0 : ∀ q ∈ locs, A q.base) (hw : XD G A s.heap σ H locs) (hg : some (σ, v) = some (σ', r)) (hdg : decode cc pc = .ok (.areturn, 1)) : W p l e R s m args below meth c H locs cells slots (MQ below (QcR G A σ' (tc r)) args s cells slots A) (F0 m pc ls [.ref (gAd G (tc v))]) := by
  obtain ⟨rfl, rfl⟩ := Prod.mk.inj (Option.some.inj hg)
  exact W.aret S.1 S.2.1 hr (Or.inl ⟨C, rfl⟩) (Or.inr ⟨_, rfl⟩) (fun t ht hW => ⟨⟨(), _, rfl, trivial, rfl, by show va_P _ _ _ _; rw [ht]; exact hw.1⟩, hw.2.2.F ht⟩) hS0 hdg hlk
theorem r_acopy (S : CallFix p m c cc nL s args Ts own) (hK : gK G A s s.heap) (hw : XD G A H0 σ H locs) {k1 k2 n1 n2 : Nat} (hk1 : gKd G k1 = .inl n1) (hn1 : k1 < gN G) (hk2 : gKd G k2 = .inl n2) (hn2 : k2 < gN G) {index : Nat} (hlink : (Cond.methodLink own index arraycopyName).before args s = true) (hnat : (Cond.native arraycopyName).before args s = true) (hstat : (Cond.static arraycopyName).before args s = true) (hini : (Cond.initialized "java/lang/System").before args s = true) (hsz : ls.size = nL) (hfr : 1 ≤ R.frames) (hlo : (rest.map fun v => v.category).sum + (nativeFrameWords "java/lang/System" "arraycopy" 5 + 11) ≤ R.locals)
    {i j n : Int32} (h : (¬ i < 0 ∧ ¬ j < 0 ∧ ¬ n < 0) ∧ i.toNatClampNeg + n.toNatClampNeg ≤ n1 ∧ j.toNatClampNeg + n.toNatClampNeg ≤ n2) (hσ : cpS σ k1 i k2 j n = σ') (hdg : decode cc pc = .ok (.invokestatic index, 3))
    (kk : ∀ (H1 : Heap) (locs1 : List Loc), XD G A H0 σ' H1 locs1 → W p l e R s m args below meth c H1 locs1 cells slots Q (F0 m (pc + 3) ls rest)) : W p l e R s m args below meth c H locs cells slots Q (F0 m pc ls (.int n :: .int j :: .ref (gAd G k2) :: .int i :: .ref (gAd G k1) :: rest)) := by
  subst hσ
  refine va_copyi (ty := .int) S.1 S.2.1 (S.2.2.1.trans hsz.symm) S.2.2.2.1 hlink hnat hstat hini hK.1 hw.1 hw.2.1 hw.2.2 k1 k2 0 0 (f := σ k1) (g := σ k2) (by rw [wld_get σ hn1, wcell, hk1]) (by rw [wld_get σ hn2, wcell, hk2]) hK.2.1 hK.2.1 rfl h.1.1 h.1.2.1 h.1.2.2 h.2.1 h.2.2 (fun _ _ => rfl) hfr hlo hdg (fun H1 locs1 hP hD hS => ?_)
  have hz : (wld G σ).set k2 (gAd G k2, .inl (gI G, n2, .inl (va_cpy (σ k1) (σ k2) i.toNatClampNeg j.toNatClampNeg n.toNatClampNeg))) = wld G (cpS σ k1 i k2 j n) := by
    apply List.ext_getElem?
    intro a
    by_cases ha : k2 = a
    · subst ha
      rw [List.getElem?_set_self (by rw [wld_len]; exact hn2), wld_get _ hn2, wcell, hk2]
      have : cpS σ k1 i k2 j n k2 = va_cpy (σ k1) (σ k2) i.toNatClampNeg j.toNatClampNeg n.toNatClampNeg := by funext b; simp [cpS]
      rw [this]
    · rw [List.getElem?_set_ne ha]
      by_cases hi : a < gN G
      · have : cpS σ k1 i k2 j n a = σ a := by funext b; simp [cpS, Ne.symm ha]
        rw [wld_get _ hi, wld_get _ hi, this]
      · rw [List.getElem?_eq_none (by rw [wld_len]; omega), List.getElem?_eq_none (by rw [wld_len]; omega)]
  rw [hz] at hP hD
  exact kk H1 locs1 ⟨hP, hD, hS⟩
end RW2
