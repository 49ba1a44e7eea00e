/-! texts: codes behind each other, what is joined ahead of what joins it -/
def jnS (c : Int) (a b : Int32) : Int32 := if c = -15 then (if a = 0 ∧ b = 0 then 0 else 1) else if c = -14 then (if a = 0 ∨ b = 0 then 0 else 1) else if c = -13 then (if a = b then 1 else 0) else if c = -12 then (if a < b then 1 else 0) else if c = -11 then a - b else if c = -10 then a + b else a * b
def ev1 (nm : Nat → Int32) (c : Int) (s : List Int32) : List Int32 := if 0 ≤ c then iI c :: s else if -6 ≤ c then nm (-1 - c).toNat :: s else match s with
  | [] => []
  | a :: t => if c = -7 then -a :: t else if c = -8 then (if a = 0 then 1 else 0) :: t else match t with
    | [] => [a]
    | b :: u => jnS c b a :: u
def evl (nm : Nat → Int32) : List Int → List Int32 → List Int32
  | [], s => s
  | c :: cs, s => evl nm cs (ev1 nm c s)
def dp1 (c : Int) (d : Nat) : Option Nat := if -6 ≤ c then some (d + 1) else if -8 ≤ c then (if 1 ≤ d then some d else none) else if 2 ≤ d then some (d - 1) else none
def dep : List Int → Nat → Option Nat
  | [], d => some d
  | c :: cs, d => (dp1 c d).bind (dep cs)
def wfp (cs : List Int) : Prop := (∀ c, c ∈ cs → -15 ≤ c ∧ c ≤ 9999) ∧ ∀ d, dep cs d = some (d + 1)
def Tof (c : Nat → List Int) : TX := fun part nm => (evl nm (c part) []).headD 0
theorem evl_c {f g : Nat → Int32} (h : ∀ i, i < 6 → f i = g i) : ∀ (cs : List Int) (s : List Int32), evl f cs s = evl g cs s
  | [], s => rfl
  | c :: cs, s => by
    rw [evl, evl, evl_c h cs]
    congr 1
    unfold ev1
    split
    · rfl
    · split
      · rw [h _ (by omega)]
      · rfl
theorem Tof_c (c : Nat → List Int) : congT (Tof c) := fun part f g h => by unfold Tof; rw [evl_c h]
theorem ofN_i (n : Nat) : Int32.ofNat n = iI (n : Int) := iI_nI n
/-- a stack, its top first, in the places of a row -/
def stk (σ : Sg) (k : Nat) : List Int32 → Prop
  | [] => True
  | v :: t => σ k t.length = v ∧ stk σ k t
theorem stk_up {σ : Sg} {k : Nat} {j : Nat} {v : Int32} : ∀ (s : List Int32), s.length ≤ j → stk σ k s → stk (st σ k j v) k s
  | [], _, _ => trivial
  | w :: t, hj, h => ⟨by rw [st_j (by simp at hj; omega)]; exact h.1, stk_up t (by simp at hj; omega) h.2⟩
theorem x_joined {F N : Nat} {ln : Nat → Nat} {c : Int} (hc : -15 ≤ c ∧ c ≤ -9) {a b : Int32} {σ : Sg} : g_X5_joined F N ln (iI c) a b σ = some (σ, jnS c a b) := by
  unfold g_X5_joined g_X5_joined_b100 jnS
  have h1 := Int32.not_le (n := b) (m := a)
  rcases (show c = -15 ∨ c = -14 ∨ c = -13 ∨ c = -12 ∨ c = -11 ∨ c = -10 ∨ c = -9 by omega) with rfl | rfl | rfl | rfl | rfl | rfl | rfl <;> simp (disch := omega) only [li_15, li_14, li_13, li_12, li_11, li_10, li_9, iI_neg, iI_eq] <;> simp
  · by_cases h1 : a = 0 <;> by_cases h2 : b = 0 <;> simp [h1, h2]
  · by_cases h1 : a = 0 <;> by_cases h2 : b = 0 <;> simp [h1, h2]
  · by_cases h1 : a = b <;> simp [h1]
  · by_cases h2 : b ≤ a
    · rw [if_pos h2, if_neg (Int32.not_lt.mpr h2)]
    · rw [if_neg h2, if_pos (Int32.not_le.mp h2)]
def encM (c : Int) : Int := if 0 ≤ c then 100000 + c else if -6 ≤ c then -1 - c else if c = -7 then 19 else if c = -8 then 13 else if c = -9 then 18 else if c = -10 then 16 else if c = -11 then 17 else if c = -12 then 14 else if c = -13 then 15 else if c = -14 then 12 else 11
theorem m_two {F : Nat} {c : Int} (hc : -15 ≤ c ∧ c ≤ -9) {a b : Int32} {σ : Sg} : g_X7_two F (iI (encM c)) a b σ = some (σ, jnS c a b) := by
  unfold g_X7_two g_X7_two_b52 jnS encM
  rcases (show c = -15 ∨ c = -14 ∨ c = -13 ∨ c = -12 ∨ c = -11 ∨ c = -10 ∨ c = -9 by omega) with rfl | rfl | rfl | rfl | rfl | rfl | rfl <;> simp <;> simp (disch := omega) only [li_15, li_14, li_13, li_12, li_11, li_10, li_9, li_16, li_17, li_18, iI_neg, iI_eq] <;> simp
  · by_cases h1 : a = 0 <;> by_cases h2 : b = 0 <;> simp [h1, h2]
  · by_cases h1 : a = 0 <;> by_cases h2 : b = 0 <;> simp [h1, h2]
  · by_cases h1 : a = b <;> simp [h1]
  · by_cases h2 : b ≤ a
    · rw [if_pos h2, if_neg (Int32.not_lt.mpr h2)]
    · rw [if_neg h2, if_pos (Int32.not_le.mp h2)]
theorem dep_1 {c : Int} {cs : List Int} {d r : Nat} (h : dep (c :: cs) d = some r) : ∃ e, dp1 c d = some e ∧ dep cs e = some r := Option.bind_eq_some_iff.mp h
theorem x_valueL {F N : Nat} {ln : Nat → Nat} {t part e : Nat} (hp : part < 3) (he : e ≤ ln t) (hl : ln t ≤ 160) : ∀ (cs : List Int) (i : Nat) (s : List Int32) (σ : Sg) (n : Nat), cs.length < n → i + cs.length = e → s.length ≤ i → σ (tc t + 2) part = iI (e : Int) → (∀ j, j < cs.length → σ (tc t + 1) (i + j) = iI (cs.getD j 0)) → (∀ c, c ∈ cs → -15 ≤ c ∧ c ≤ 9999) → dep cs s.length = some 1 → stk σ 24 s →
    ∃ σ', g_X5_value_l36 F N ln t (iI (part : Int)) n (iI (s.length : Int)) (iI (i : Int)) σ = some (σ', (evl (σ 23) cs s).headD 0) ∧ ∀ a, a ≠ 24 → σ' a = σ a := by
  have ht : tc t + 2 ≠ 24 ∧ tc t + 1 ≠ 24 ∧ tc t + 2 ≠ 23 := by
    rcases Nat.eq_zero_or_pos t with rfl | h0
    · decide
    · rw [tc_s h0]; omega
  intro cs
  induction cs with
  | nil =>
    intro i s σ n hn hi hs hend _ _ hd hst
    obtain ⟨n, rfl⟩ : ∃ q, n = q + 1 := ⟨n - 1, by omega⟩
    rw [g_X5_value_l36, rdA_i (by omega), Int.toNat_natCast, hend, if_pos (by rw [iI_le (by omega) (by omega)]; simp at hi; omega)]
    unfold g_X5_value_b195
    have h1 : s.length = 1 := by simpa [dep] using hd
    obtain ⟨v, rfl⟩ : ∃ v, s = [v] := List.length_eq_one_iff.mp h1
    rw [if_neg (show ¬ iI (([v] : List Int32).length : Int) ≤ 0 from by rw [List.length_singleton]; decide), li_0, rdA_i (by omega)]
    refine ⟨σ, ?_, fun _ _ => rfl⟩
    have : σ 24 0 = v := hst.1
    show some (σ, σ 24 0) = _
    rw [this]; rfl
  | cons c cs ih =>
    intro i s σ n hn hi hs hend hcs hok hd hst
    obtain ⟨n, rfl⟩ : ∃ q, n = q + 1 := ⟨n - 1, by omega⟩
    rw [List.length_cons] at hi hn
    obtain ⟨d1, hd1, hd2⟩ := dep_1 hd
    have hc0 : σ (tc t + 1) i = iI c := by simpa using hcs 0 (by simp)
    have hcb := hok c List.mem_cons_self
    rw [g_X5_value_l36, rdA_i (by omega), Int.toNat_natCast, hend, if_neg (by rw [iI_le (by omega) (by omega)]; omega), ofN_i, if_neg (by rw [iI_le (by omega) (by omega)]; omega), rdA_i (by omega), Int.toNat_natCast, hc0]
    unfold g_X5_value_b155 g_X5_value_b99 g_X5_value_b189
    -- one step more
    have step : ∀ (s' : List Int32) (σ1 : Sg), (∀ a, a ≠ 24 → σ1 a = σ a) → stk σ1 24 s' → s' = ev1 (σ 23) c s → s'.length = d1 → ∃ σ', g_X5_value_l36 F N ln t (iI (part : Int)) n (iI (s'.length : Int)) (iI ((i : Int) + 1)) σ1 = some (σ', (evl (σ 23) (c :: cs) s).headD 0) ∧ ∀ a, a ≠ 24 → σ' a = σ a := by
      intro s' σ1 h1 h2 h3 h4
      have hs1 : s'.length ≤ i + 1 := by
        rw [h4]
        unfold dp1 at hd1
        split at hd1
        · have := Option.some.inj hd1; omega
        · split at hd1
          · split at hd1
            · have := Option.some.inj hd1; omega
            · cases hd1
          · split at hd1
            · have := Option.some.inj hd1; omega
            · cases hd1
      obtain ⟨σ', e', f'⟩ := ih (i + 1) s' σ1 n (by omega) (by omega) hs1 (by rw [h1 _ ht.1]; exact hend) (fun j hj => by rw [h1 _ ht.2.1]; have h9 := hcs (j + 1) (by simp; omega); rw [List.getD_cons_succ] at h9; rw [← h9]; congr 1; omega) (fun c hc => hok c (List.mem_cons_of_mem _ hc)) (by rw [h4]; exact hd2) h2
      refine ⟨σ', ?_, fun a ha => (f' a ha).trans (h1 a ha)⟩
      have e1 : ((i + 1 : Nat) : Int) = (i : Int) + 1 := by omega
      rw [e1, h1 23 (by omega)] at e'
      rw [e', h3]
      rfl
    by_cases c6 : -6 ≤ c
    · have hdd : d1 = s.length + 1 := by unfold dp1 at hd1; rw [if_pos c6] at hd1; exact (Option.some.inj hd1).symm
      rw [if_neg (by rw [li_6, iI_neg, iI_lt (by omega) (by omega)]; omega), ofN_i, if_neg (by rw [iI_le (by omega) (by omega)]; omega)]
      by_cases c0 : 0 ≤ c
      · rw [if_neg (by rw [li_0, iI_lt (by omega) (by omega)]; omega), wrA_i (by omega), li_1, iI_add, iI_add, Int.toNat_natCast]
        have := step (iI c :: s) (st σ 24 s.length (iI c)) (fun a ha => st_ne _ _ _ ha) ⟨st_e, stk_up s (Nat.le_refl _) hst⟩ (by unfold ev1; rw [if_pos c0]) (by rw [hdd]; rfl)
        rw [List.length_cons, show ((s.length + 1 : Nat) : Int) = (s.length : Int) + 1 by omega] at this
        exact this
      · rw [if_pos (by rw [li_0, iI_lt (by omega) (by omega)]; omega), li_1, iI_neg, iI_sub, rdA_i (by omega), wrA_i (by omega), iI_add, iI_add, Int.toNat_natCast]
        have := step (σ 23 (-1 - c).toNat :: s) (st σ 24 s.length (σ 23 (-1 - c).toNat)) (fun a ha => st_ne _ _ _ ha) ⟨st_e, stk_up s (Nat.le_refl _) hst⟩ (by unfold ev1; rw [if_neg c0, if_pos c6]) (by rw [hdd]; rfl)
        rw [List.length_cons, show ((s.length + 1 : Nat) : Int) = (s.length : Int) + 1 by omega] at this
        exact this
    · rw [if_pos (by rw [li_6, iI_neg, iI_lt (by omega) (by omega)]; omega)]
      by_cases c8 : -8 ≤ c
      · have hdd : 1 ≤ s.length ∧ d1 = s.length := by
          unfold dp1 at hd1; rw [if_neg c6, if_pos c8] at hd1
          split at hd1
          · rename_i h; exact ⟨h, (Option.some.inj hd1).symm⟩
          · cases hd1
        obtain ⟨v, u, rfl⟩ : ∃ v u, s = v :: u := by
          cases s with
          | nil => simp at hdd
          | cons v u => exact ⟨v, u, rfl⟩
        have hv : σ 24 u.length = v := hst.1
        have hL : ((v :: u).length : Int) = (u.length : Int) + 1 := by simp
        have hLn : (v :: u).length = u.length + 1 := rfl
        rw [hL, if_neg (by rw [li_8, iI_neg, iI_lt (by omega) (by omega)]; omega), if_neg (by rw [li_1, iI_lt (by omega) (by omega)]; omega)]
        have hi1 : iI ((u.length : Int) + 1) - 1 = iI (u.length : Int) := by rw [li_1, iI_sub]; congr 1; omega
        have hst1 : ∀ w, stk (st σ 24 u.length w) 24 (w :: u) := fun w => ⟨st_e, stk_up u (Nat.le_refl _) hst.2⟩
        rw [hi1, rdA_i (by omega), rdA_i (by omega), Int.toNat_natCast, hv, li_1, iI_add]
        by_cases c7 : c = -7
        · rw [if_pos (by rw [c7]; rfl), wrA_i (by omega), Int.toNat_natCast]
          have := step (-v :: u) _ (fun a ha => st_ne _ _ _ ha) (hst1 (-v)) (by unfold ev1; rw [if_neg (by omega), if_neg c6]; simp [c7]) (by rw [hdd.2]; rfl)
          rw [List.length_cons, show ((u.length + 1 : Nat) : Int) = (u.length : Int) + 1 by omega] at this
          exact this
        · rw [if_neg (by rw [li_7, iI_neg, iI_eq (by omega) (by omega)]; exact c7), wrA_i (by omega), wrA_i (by omega), Int.toNat_natCast]
          by_cases hv0 : v = 0
          · rw [if_pos hv0]
            have := step (1 :: u) _ (fun a ha => st_ne _ _ _ ha) (hst1 1) (by unfold ev1; rw [if_neg (by omega), if_neg c6]; simp [show c = -8 by omega, hv0]) (by rw [hdd.2]; rfl)
            rw [List.length_cons, show ((u.length + 1 : Nat) : Int) = (u.length : Int) + 1 by omega] at this
            exact this
          · rw [if_neg hv0]
            have := step (0 :: u) _ (fun a ha => st_ne _ _ _ ha) (hst1 0) (by unfold ev1; rw [if_neg (by omega), if_neg c6]; simp [show c = -8 by omega, hv0]) (by rw [hdd.2]; rfl)
            rw [List.length_cons, show ((u.length + 1 : Nat) : Int) = (u.length : Int) + 1 by omega] at this
            exact this
      · have hdd : 2 ≤ s.length ∧ d1 = s.length - 1 := by
          unfold dp1 at hd1; rw [if_neg c6, if_neg c8] at hd1
          split at hd1
          · rename_i h; exact ⟨h, (Option.some.inj hd1).symm⟩
          · cases hd1
        obtain ⟨v, w, u, rfl⟩ : ∃ v w u, s = v :: w :: u := by
          cases s with
          | nil => simp at hdd
          | cons v s => cases s with
            | nil => simp at hdd
            | cons w u => exact ⟨v, w, u, rfl⟩
        have hv : σ 24 (u.length + 1) = v := hst.1
        have hw : σ 24 u.length = w := hst.2.1
        have hL : ((v :: w :: u).length : Int) = (u.length : Int) + 2 := by simp; omega
        have hLn : (v :: w :: u).length = u.length + 2 := rfl
        rw [hL, if_pos (by rw [li_8, iI_neg, iI_lt (by omega) (by omega)]; omega), if_neg (by rw [li_2, iI_lt (by omega) (by omega)]; omega)]
        have hi1 : iI ((u.length : Int) + 2) + (-1) = iI ((u.length : Int) + 1) := by rw [li_1, iI_neg, iI_add]; congr 1; omega
        have hi2 : iI ((u.length : Int) + 1) - 1 = iI (u.length : Int) := by rw [li_1, iI_sub]; congr 1; omega
        rw [hi1, hi2, rdA_i (by omega), rdA_i (by omega), Int.toNat_natCast, show ((u.length : Int) + 1).toNat = u.length + 1 by omega, hv, hw, x_joined (by omega), bnI_s, wrA_i (by omega), Int.toNat_natCast, li_1, iI_add]
        have := step (jnS c w v :: u) (st σ 24 u.length (jnS c w v)) (fun a ha => st_ne _ _ _ ha) ⟨st_e, stk_up u (Nat.le_refl _) hst.2.2⟩ (by
          unfold ev1; rw [if_neg (by omega), if_neg c6]
          have h7 : ¬ c = -7 := by omega
          have h8 : ¬ c = -8 := by omega
          simp [h7, h8]) (by rw [hdd.2]; rfl)
        rw [List.length_cons, show ((u.length + 1 : Nat) : Int) = (u.length : Int) + 1 by omega] at this
        exact this
