/-! text() makes cells: what is written becomes a text of the row -/
def upN (ln : Nat → Nat) (N n' : Nat) : Nat → Nat := fun t => if t = N then n' else ln t
def adX (ad : Nat → Nat) (N q q1 q2 : Nat) : Nat → Nat := fun k => if k = 41 + 3 * N then q else if k = 42 + 3 * N then q1 else if k = 43 + 3 * N then q2 else ad k
def growX (G : GW) (N n' : Nat) (ln : Nat → Nat) (cT cS : ClassId) (q q1 q2 : Nat) : GW := (gD G, adX (gAd G) N q q1 q2, kdY cT cS (N + 1) 4 (upN ln N n'), 44 + 3 * N, gI G, gTys G, gSK G, gSV G)
def tx1 (N n' : Nat) (σ : Sg) : Sg := fun k j => if k = 42 + 3 * N then va_cpy (σ 32) (fun _ => 0) 0 0 n' j else if k = 43 + 3 * N then va_cpy (σ 33) (fun _ => 0) 0 0 3 j else σ k j
theorem growX_is {G : GW} {N n' : Nat} {ln : Nat → Nat} {cT cS : ClassId} (hG : isX G N ln cT cS) (hN : N < 6) (q q1 q2 : Nat) : isX (growX G N n' ln cT cS q q1 q2) (N + 1) (upN ln N n') cT cS :=
  ⟨rfl, by show 44 + 3 * N = 41 + 3 * (N + 1); omega, by omega, by omega, hG.2.2.2.2⟩
def okR (kd : Kd) (k n : Nat) : Prop := match kd with
  | .inl _ => True
  | .inr (.inl q) => ∀ o, some o ∈ q.2 → k + o < n
  | .inr (.inr q) => ∀ j o, q.2.2 j = some o → o < n
theorem layV_ad (ad ad' : Nat → Nat) (k : Nat) (f : Nat → Int32) : ∀ (lay : List (Option Nat)) (j : Nat), (∀ o, some o ∈ lay → ad (k + o) = ad' (k + o)) → layV ad k f j lay = layV ad' k f j lay
  | [], j, h => rfl
  | none :: r, j, h => by
    show _ :: _ = _ :: _
    rw [layV_ad ad ad' k f r (j + 1) (fun o ho => h o (List.mem_cons_of_mem _ ho))]
  | some o :: r, j, h => by
    show Value.ref (ad (k + o)) :: _ = Value.ref (ad' (k + o)) :: _
    rw [layV_ad ad ad' k f r (j + 1) (fun o ho => h o (List.mem_cons_of_mem _ ho)), h o List.mem_cons_self]
theorem wcell_cg {G G' : GW} {k n : Nat} (f : Nat → Int32) (hk : gKd G' k = gKd G k) (hI : gI G' = gI G) (hok : okR (gKd G k) k n) (had : ∀ i, i < n → gAd G' i = gAd G i) : wcell G' k f = wcell G k f := by
  unfold wcell
  rw [hk, hI]
  revert hok
  generalize gKd G k = kd
  intro hok
  rcases kd with a | a | a
  · rfl
  · show Sum.inr (a.1, layV (gAd G') k f 0 a.2) = Sum.inr (a.1, layV (gAd G) k f 0 a.2)
    rw [layV_ad (gAd G') (gAd G) k f a.2 0 (fun o ho => had _ (hok o ho))]
  · show Sum.inl (a.1, a.2.1, _) = Sum.inl (a.1, a.2.1, _)
    have : (fun j => (a.2.2 j).map (gAd G')) = (fun j => (a.2.2 j).map (gAd G)) := by
      funext j
      cases e : a.2.2 j with
      | none => rfl
      | some o => exact congrArg some (had o (hok j o e))
    rw [this]
theorem okX {N : Nat} {ln : Nat → Nat} (cT cS : ClassId) (hN : 0 < N) : ∀ k, k < 41 + 3 * N → okR (kdY cT cS N 4 ln k) k (41 + 3 * N) := by
  intro k hk
  by_cases h : 44 ≤ k
  · unfold kdY
    rw [if_pos h]
    by_cases h0 : (k - 44) % 3 = 0
    · rw [if_pos h0]
      intro o ho
      have : o ≤ 2 := by
        have hb : ∀ x ∈ lay5, ∀ o, x = some o → o ≤ 2 := by
          intro x hx o ho
          simp only [lay5, List.mem_cons, List.not_mem_nil, or_false] at hx
          rcases hx with rfl | rfl <;> cases ho <;> omega
        exact hb _ ho _ rfl
      omega
    · rw [if_neg h0]
      by_cases h1 : (k - 44) % 3 = 1
      · rw [if_pos h1]; trivial
      · rw [if_neg h1]; trivial
  · unfold kdY
    rw [if_neg h]
    have hb : ∀ (lay : List (Option Nat)), (∀ x ∈ lay, x.getD 0 ≤ 43 - k) → okR (.inr (.inl (0, lay))) k (41 + 3 * N) := by
      intro lay hl o ho
      have := hl _ ho
      simp only [Option.getD_some] at this
      omega
    rcases k with _ | k; · exact hb lay6 (by decide)
    rcases k with _ | k; · exact hb lay1 (by decide)
    iterate 4 (rcases k with _ | k; · trivial)
    rcases k with _ | k; · exact hb lay1 (by decide)
    iterate 4 (rcases k with _ | k; · trivial)
    rcases k with _ | k; · exact hb lay1 (by decide)
    iterate 4 (rcases k with _ | k; · trivial)
    rcases k with _ | k; · exact hb lay2 (by decide)
    iterate 8 (rcases k with _ | k; · trivial)
    rcases k with _ | k; · exact hb lay0 (by decide)
    rcases k with _ | k; · exact hb lay5 (by decide)
    iterate 2 (rcases k with _ | k; · trivial)
    rcases k with _ | k
    · intro j o ho
      have ho : (if j < N then some (tc j) else none) = some o := ho
      by_cases hj : j < N
      · rw [if_pos hj] at ho
        cases ho
        have := tc_lt hj
        omega
      · rw [if_neg hj] at ho
        cases ho
    rcases k with _ | k; · exact hb lay4 (by decide)
    iterate 3 (rcases k with _ | k; · trivial)
    rcases k with _ | k
    · intro j o ho
      have ho : (if j < 4 then some (36 + 2 * j) else none) = some o := ho
      by_cases hj : j < 4
      · rw [if_pos hj] at ho
        cases ho
        omega
      · rw [if_neg hj] at ho
        cases ho
    rcases k with _ | k; · trivial
    rcases k with _ | k; · exact hb lay3 (by decide)
    rcases k with _ | k; · trivial
    rcases k with _ | k; · exact hb lay3 (by decide)
    rcases k with _ | k; · trivial
    rcases k with _ | k; · exact hb lay3 (by decide)
    rcases k with _ | k; · trivial
    rcases k with _ | k; · exact hb lay3 (by decide)
    rcases k with _ | k; · trivial
    omega
theorem kdY_gr {N n' : Nat} {ln : Nat → Nat} (cT cS : ClassId) (hN : 0 < N) {k : Nat} (hk : k < 41 + 3 * N) (h29 : k ≠ 29) : kdY cT cS (N + 1) 4 (upN ln N n') k = kdY cT cS N 4 ln k := by
  unfold kdY
  by_cases h : 44 ≤ k
  · rw [if_pos h, if_pos h]
    have : upN ln N n' ((k - 41) / 3) = ln ((k - 41) / 3) := if_neg (by omega)
    rw [this]
  · rw [if_neg h, if_neg h]
    unfold kdYl
    have : upN ln N n' 0 = ln 0 := if_neg (by omega)
    rw [this]
    iterate 44 (rcases k with _ | k; · first | rfl | exact absurd rfl h29)
    omega
abbrev tl3 (G : GW) (n' : Nat) (σ : Sg) (q q1 q2 : Nat) : va_W := [(q, .inr (5, [.ref q1, .ref q2])), (q1, .inl (gI G, n', .inl (va_cpy (σ 32) (fun _ => 0) 0 0 n'))), (q2, .inl (gI G, 3, .inl (va_cpy (σ 33) (fun _ => 0) 0 0 3)))]
theorem fold_text {G : GW} {N n' : Nat} {ln : Nat → Nat} {cT cS : ClassId} (hG : isX G N ln cT cS) (σ : Sg) (q q1 q2 : Nat) :
    (wld G σ ++ tl3 G n' σ q q1 q2).set 29 (gAd G 29, .inl (cT, 6, .inr (.inr (.inr (.inr (va_up (fun j => (if j < N then some (tc j) else none).map (gAd G)) N (some q))))))) = wld (growX G N n' ln cT cS q q1 q2) (tx1 N n' σ) := by
  have hN : gN G = 41 + 3 * N := hG.2.1
  have hp := isX_pos hG
  have hg : gN (growX G N n' ln cT cS q q1 q2) = 44 + 3 * N := rfl
  have hI : gI (growX G N n' ln cT cS q q1 q2) = gI G := rfl
  have hlen : (wld G σ).length = 41 + 3 * N := by rw [wld_len, hN]
  have had : ∀ i, i < 41 + 3 * N → gAd (growX G N n' ln cT cS q q1 q2) i = gAd G i := by
    intro i hi
    show adX (gAd G) N q q1 q2 i = _
    unfold adX
    rw [if_neg (by omega), if_neg (by omega), if_neg (by omega)]
  have ha0 : gAd (growX G N n' ln cT cS q q1 q2) (41 + 3 * N) = q := if_pos rfl
  have ha1 : gAd (growX G N n' ln cT cS q q1 q2) (42 + 3 * N) = q1 := by
    show adX (gAd G) N q q1 q2 _ = _
    unfold adX
    rw [if_neg (by omega), if_pos rfl]
  have ha2 : gAd (growX G N n' ln cT cS q q1 q2) (43 + 3 * N) = q2 := by
    show adX (gAd G) N q q1 q2 _ = _
    unfold adX
    rw [if_neg (by omega), if_neg (by omega), if_pos rfl]
  apply List.ext_getElem?
  intro a
  by_cases h29 : a = 29
  · subst h29
    rw [List.getElem?_set_self (by rw [List.length_append, hlen]; omega), wld_get _ (by rw [hg]; omega), had 29 (by omega)]
    show some (gAd G 29, _) = some (gAd G 29, wcell (growX G N n' ln cT cS q q1 q2) 29 _)
    unfold wcell
    have hk : gKd (growX G N n' ln cT cS q q1 q2) 29 = .inr (.inr (cT, 6, fun j => if j < N + 1 then some (tc j) else none)) := rfl
    rw [hk]
    have : va_up (fun j => (if j < N then some (tc j) else none).map (gAd G)) N (some q) = fun j => (if j < N + 1 then some (tc j) else none).map (gAd (growX G N n' ln cT cS q q1 q2)) := by
      funext j
      by_cases hj : j = N
      · subst hj
        rw [va_up_self, if_pos (by omega), tc_s hp]
        show some q = some (gAd (growX G j n' ln cT cS q q1 q2) (41 + 3 * j))
        rw [ha0]
      · rw [va_up_ne _ _ hj]
        by_cases hl : j < N
        · rw [if_pos hl, if_pos (by omega)]
          have := tc_lt hl
          show some (gAd G (tc j)) = some (gAd (growX G N n' ln cT cS q q1 q2) (tc j))
          rw [had _ (by omega)]
        · rw [if_neg hl, if_neg (by omega)]; rfl
    rw [this]
  · rw [List.getElem?_set_ne (fun h => h29 h.symm)]
    by_cases hl : a < 41 + 3 * N
    · rw [List.getElem?_append_left (by rw [hlen]; exact hl), wld_get _ (by rw [hN]; exact hl), wld_get _ (by rw [hg]; omega), had a hl]
      have ht : tx1 N n' σ a = σ a := by
        funext j
        unfold tx1
        rw [if_neg (by omega), if_neg (by omega)]
      have hkk : gKd (growX G N n' ln cT cS q q1 q2) a = gKd G a := by
        rw [hG.1]
        exact kdY_gr cT cS hp hl h29
      rw [ht, wcell_cg (n := 41 + 3 * N) _ hkk hI (by rw [hG.1]; exact okX cT cS hp a hl) had]
    · rw [List.getElem?_append_right (by rw [hlen]; omega), hlen]
      by_cases h0 : a = 41 + 3 * N
      · subst h0
        rw [Nat.sub_self, wld_get _ (by rw [hg]; omega), ha0]
        unfold wcell
        have hk : gKd (growX G N n' ln cT cS q q1 q2) (41 + 3 * N) = .inr (.inl (5, lay5)) := by
          show kdY cT cS (N + 1) 4 _ _ = _
          unfold kdY
          rw [if_pos (by omega), if_pos (by omega)]
        rw [hk]
        show _ = some (q, Sum.inr (5, [Value.ref (gAd (growX G N n' ln cT cS q q1 q2) (41 + 3 * N + 1)), Value.ref (gAd (growX G N n' ln cT cS q q1 q2) (41 + 3 * N + 2))]))
        rw [show 41 + 3 * N + 1 = 42 + 3 * N by omega, show 41 + 3 * N + 2 = 43 + 3 * N by omega, ha1, ha2]
        rfl
      · by_cases h1 : a = 42 + 3 * N
        · subst h1
          rw [show 42 + 3 * N - (41 + 3 * N) = 1 by omega, wld_get _ (by rw [hg]; omega), ha1]
          unfold wcell
          have hk : gKd (growX G N n' ln cT cS q q1 q2) (42 + 3 * N) = .inl n' := by
            show kdY cT cS (N + 1) 4 _ _ = _
            unfold kdY
            rw [if_pos (by omega), if_neg (by omega), if_pos (by omega), show (42 + 3 * N - 41) / 3 = N by omega]
            show Sum.inl (upN ln N n' N) = _
            unfold upN
            rw [if_pos rfl]
          have ht : tx1 N n' σ (42 + 3 * N) = va_cpy (σ 32) (fun _ => 0) 0 0 n' := by
            funext j
            unfold tx1
            rw [if_pos rfl]
          rw [hk, ht]
          rfl
        · by_cases h2 : a = 43 + 3 * N
          · subst h2
            rw [show 43 + 3 * N - (41 + 3 * N) = 2 by omega, wld_get _ (by rw [hg]; omega), ha2]
            unfold wcell
            have hk : gKd (growX G N n' ln cT cS q q1 q2) (43 + 3 * N) = .inl 3 := by
              show kdY cT cS (N + 1) 4 _ _ = _
              unfold kdY
              rw [if_pos (by omega), if_neg (by omega), if_neg (by omega)]
            have ht : tx1 N n' σ (43 + 3 * N) = va_cpy (σ 33) (fun _ => 0) 0 0 3 := by
              funext j
              unfold tx1
              rw [if_neg (by omega), if_pos rfl]
            rw [hk, ht]
            rfl
          · rw [List.getElem?_eq_none (by show 3 ≤ _; omega), List.getElem?_eq_none (by rw [wld_len, hg]; omega)]
