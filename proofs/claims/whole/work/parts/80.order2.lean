theorem seb : ∀ s, s < 64 → ∀ p, p < 6 → (iI ((s : Nat) : Int) ||| (iI 1 <<< (iI ((p : Nat) : Int) &&& 31))) = iI ((Nat.lor s (Nat.shiftLeft 1 p) : Nat) : Int) ∧ Nat.lor s (Nat.shiftLeft 1 p) < 64 := by decide +kernel
theorem seF : ∀ n, n < 7 → (iI 1 <<< (iI ((n : Nat) : Int) &&& 31)) - iI 1 = iI ((2 ^ n - 1 : Nat) : Int) ∧ 2 ^ n - 1 < 64 := by decide +kernel
theorem idx_c (q p : Nat) (acc : List Nat) : (q :: acc).idxOf p = if q = p then 0 else acc.idxOf p + 1 := by
  rw [List.idxOf_cons]
  by_cases h : q = p
  · subst h; simp
  · rw [if_neg h]
    have : (q == p) = false := by simpa using h
    rw [this]; rfl
theorem m_ordersL {F : Nat} {n : Nat} (hn : 1 ≤ n ∧ n ≤ 6) {m0 : Sg} (h0 : m0 0 0 = iI (n : Int)) : ∀ (k l s : Nat) (acc : List Nat) (m : Sg) (f : Nat), k ≤ n → k < f → l ≤ 50000 → s < 64 → acc.length + k = n → (∀ a j, ¬ (a = 0 ∧ j = 42) → ¬ (a = 3 ∧ ∃ p, p < n ∧ j = 2 * p) → m a j = m0 a j) → m 0 42 = iI (((vTS acc).2 : Nat) : Int) → (∀ p, p ∈ acc → m 3 (2 * p) = iI ((n : Int) - ((k + acc.idxOf p : Nat) : Int))) →
    ∃ m', g_X7_orders_l20 F f (iI (l : Int)) (iI (s : Int)) (iI (((vTS acc).1 : Nat) : Int)) (iI ((k : Int) - 1)) m = some (m', if Nat.beq (seN n k l s) (2 ^ n - 1) = true then 1 else 0) ∧ (∀ a j, ¬ (a = 0 ∧ j = 42) → ¬ (a = 3 ∧ ∃ p, p < n ∧ j = 2 * p) → m' a j = m0 a j) ∧ m' 0 42 = iI (((vTS (dgL n k l acc)).2 : Nat) : Int) ∧ (dgL n k l acc).length = n ∧ ∀ p, p ∈ dgL n k l acc → m' 3 (2 * p) = iI ((n : Int) - (((dgL n k l acc).idxOf p : Nat) : Int)) := by
  intro k
  induction k with
  | zero =>
    intro l s acc m f hk hf hl hs ha hm hd hr
    obtain ⟨f, rfl⟩ : ∃ q, f = q + 1 := ⟨f - 1, by omega⟩
    have sf := seF n (by omega)
    refine ⟨m, ?_, hm, hd, by rw [dgL]; omega, fun p hp => by have := hr p hp; rw [Nat.zero_add] at this; exact this⟩
    rw [g_X7_orders_l20, if_pos (by decide), hm 0 0 (by omega) (by omega), h0, show (1 : Int32) = iI 1 from rfl, sf.1, ite_eq (by omega) (by omega), seN]
    by_cases h : s = 2 ^ n - 1
    · rw [if_pos (by omega), if_pos (by rw [h]; exact Nat.beq_refl _)]
    · rw [if_neg (by omega), if_neg (fun q => h (Nat.eq_of_beq_eq_true q))]
  | succ k ih =>
    intro l s acc m f hk hf hl hs ha hm hd hr
    obtain ⟨f, rfl⟩ : ∃ q, f = q + 1 := ⟨f - 1, by omega⟩
    have hp : l % n < n := Nat.mod_lt _ (by omega)
    have hl2 : l / n ≤ l := Nat.div_le_self _ _
    have sb := seb s hs (l % n) (by omega)
    have e1 : (l : Int) % (n : Int) = ((l % n : Nat) : Int) := rfl
    have e2 : (l : Int) / (n : Int) = ((l / n : Nat) : Int) := rfl
    have w : ∀ σ, g_X7_within F (iI ((l % n : Nat) : Int)) 0 5 σ = some (σ, iI ((l % n : Nat) : Int)) := fun σ => by
      have := m_within (F := F) (a := ((l % n : Nat) : Int)) (b := 0) (c := 5) (σ := σ) (by omega) (by omega) (by omega)
      rw [if_pos (by omega), if_pos (by omega)] at this
      exact this
    have c0 := hm 0 0 (by omega) (by omega)
    obtain ⟨m', q1, q2, q3, q4, q5⟩ := ih (l / n) (Nat.lor s (Nat.shiftLeft 1 (l % n))) (l % n :: acc) (st (st m 3 (2 * (l % n)) (iI ((n : Int) - (k : Int)))) 0 42 (iI (((vTS (l % n :: acc)).2 : Nat) : Int))) f (by omega) (by omega) (by omega) sb.2 (by rw [List.length_cons]; omega) (fun a j h1 h2 => by
      have n2 : ¬ (a = 3 ∧ j = 2 * (l % n)) := fun q => h2 ⟨q.1, _, hp, q.2⟩
      by_cases ha0 : a = 0
      · subst ha0
        rw [st_j (fun q => h1 ⟨rfl, q⟩), st_k (by omega)]; exact hm _ _ h1 h2
      · rw [st_k ha0]
        by_cases ha3 : a = 3
        · subst ha3
          rw [st_j (fun q => n2 ⟨rfl, q⟩)]; exact hm _ _ h1 h2
        · rw [st_k ha3]; exact hm _ _ h1 h2) st_e (fun p hpm => by
      rw [st_k (by omega), idx_c]
      by_cases e : l % n = p
      · rw [if_pos e, e, st_e, Nat.add_zero]
      · rw [if_neg e, st_j (by omega)]
        rcases List.mem_cons.mp hpm with q | q
        · exact absurd q.symm e
        · rw [hr p q]; congr 2; omega)
    refine ⟨m', ?_, q2, q3, q4, q5⟩
    rw [g_X7_orders_l20, if_neg (by rw [li_0, iI_lt (by omega) (by omega)]; omega), c0, h0, remI_i (by omega), e1, w, bnI_s, c0, h0, divI_i (by omega), e2, li_2, iI_mul, wrA_i (by omega), wrF_i, st_k (show (0 : Nat) ≠ 3 by omega), hd, li_n1, show (1 : Int32) = iI 1 from rfl, li_10, sb.1]
    simp only [iI_add, iI_mul, iI_sub]
    rw [show (2 * ((l % n : Nat) : Int)).toNat = 2 * (l % n) by omega, show (n : Int) - (((k + 1 : Nat) : Int) - 1) = (n : Int) - (k : Int) by omega, show (((k + 1 : Nat) : Int) - 1 + -1) = (k : Int) - 1 by omega]
    have v1 : ((vTS acc).1 : Int) * 10 = (((vTS (l % n :: acc)).1 : Nat) : Int) := by rw [vTS]; omega
    have v2 : ((vTS acc).2 : Int) + ((vTS acc).1 : Int) * (((l % n : Nat) : Int) + 1) = (((vTS (l % n :: acc)).2 : Nat) : Int) := by
      rw [vTS]
      show _ = (((vTS acc).2 + (vTS acc).1 * (l % n + 1) : Nat) : Int)
      rw [Int.natCast_add, Int.natCast_mul]; rfl
    rw [v1, v2]
    exact q1
theorem m_orders {F : Nat} (hF : 100 ≤ F) {n : Nat} (hn : 1 ≤ n ∧ n ≤ 6) {m : Sg} (h0 : m 0 0 = iI (n : Int)) {a : Nat} (ha : a ≤ 50000) : ∃ m', g_X7_orders F (iI (a : Int)) m = some (m', if Nat.beq (seN n n a 0) (2 ^ n - 1) = true then 1 else 0) ∧ (∀ b j, ¬ (b = 0 ∧ j = 42) → ¬ (b = 3 ∧ ∃ p, p < n ∧ j = 2 * p) → m' b j = m b j) ∧ m' 0 42 = iI (((vTS (dgL n n a [])).2 : Nat) : Int) ∧ (dgL n n a []).length = n ∧ ∀ p, p ∈ dgL n n a [] → m' 3 (2 * p) = iI ((n : Int) - (((dgL n n a []).idxOf p : Nat) : Int)) := by
  obtain ⟨m', e, q⟩ := m_ordersL (F := F) hn h0 n a 0 [] (st m 0 42 0) F (by omega) (by omega) ha (by omega) (by simp) (fun b j h1 h2 => by
    by_cases hb : b = 0
    · subst hb; rw [st_j (fun q => h1 ⟨rfl, q⟩)]
    · rw [st_k hb]) st_e (fun p hp => absurd hp (by simp))
  refine ⟨m', ?_, q⟩
  unfold g_X7_orders
  rw [wrF_i, st_j (by omega), h0, show (1 : Int32) = iI 1 from rfl, iI_sub]
  exact e
theorem hIS_c {ds : List Nat} : ∀ (n : Nat), (∀ i, i < n → ds.getD i 0 < 6) → hIS ds n + 1 ≤ 10 ^ n
  | 0, _ => by unfold hIS; omega
  | n + 1, h => by
    have ih := hIS_c n (fun i hi => h i (by omega))
    have := h n (by omega)
    rw [hIS, Nat.pow_succ]; omega
theorem hIS_b {ds : List Nat} (n : Nat) (hn : n ≤ 6) (h : ∀ i, i < n → ds.getD i 0 < 6) : hIS ds n ≤ 1000000 := by
  have h1 := hIS_c n h
  have h2 : 10 ^ n ≤ 10 ^ 6 := Nat.pow_le_pow_right (by omega) hn
  omega
theorem m_ordL {F N : Nat} {ln : Nat → Nat} {C : CD} {lw : Nat} {cd : Nat → Nat → List Int} {x0 m0 : Sg} (hC : RelC C lw cd N ln x0 m0) (hF : 300 ≤ F) (a : Int32) (hn1 : 1 ≤ cN C) {NN : Nat} (hN : NN ≤ 50000) : ∀ (k : Nat) (m : Sg) (s : Int × Int) (f : Nat), k ≤ NN → k < f → (∀ e, e ∈ (scN (cN C) NN k).map (dgs (cN C)) → chP (cN C) e = true) → (-1 ≤ s.1 ∧ s.1 ≤ 1000000) → (-1000 ≤ s.2 ∧ s.2 ≤ 1000000) → frT m0 m → m 0 4 = m0 0 4 → (∀ j, (∀ p, p < cN C → j ≠ 2 * p) → m 3 j = m0 3 j) →
    ∃ m', g_X7_order_l58 F a (iI (NN : Int)) f (iI s.1) (iI s.2) (iI ((NN : Int) - (k : Int))) m = some (m', if a = 0 then iI (((scN (cN C) NN k).map (dgs (cN C))).foldl (oMS C (Tof (cd lw))) s).1 else iI (((scN (cN C) NN k).map (dgs (cN C))).foldl (oMS C (Tof (cd lw))) s).2) ∧ frY m0 m' := by
  obtain ⟨h1, h2, h3, h4, h5, h6, h7, h8, h9, h10⟩ := id hC
  have hn := okC_n h1
  intro k
  induction k with
  | zero =>
    intro m s f hk hf hc b1 b2 fT f4 fr
    obtain ⟨f, rfl⟩ : ∃ q, f = q + 1 := ⟨f - 1, by omega⟩
    obtain ⟨m', e, fY, _⟩ := frT_l (F := F) (by omega) fT
    refine ⟨m', ?_, fY⟩
    rw [g_X7_order_l58, if_pos (by rw [iI_le (by omega) (by omega)]; omega), e, bnV_s]
    show _ = some (m', if a = 0 then iI s.1 else iI s.2)
    split <;> rfl
  | succ k ih =>
    intro m s f hk hf hc b1 b2 fT f4 fr
    obtain ⟨f, rfl⟩ : ∃ q, f = q + 1 := ⟨f - 1, by omega⟩
    have ea : ((NN : Int) - ((k + 1 : Nat) : Int)) = ((Nat.sub NN (k + 1) : Nat) : Int) := by show _ = ((NN - (k + 1) : Nat) : Int); omega
    have eb : ((Nat.sub NN (k + 1) : Nat) : Int) + 1 = (NN : Int) - (k : Int) := by show ((NN - (k + 1) : Nat) : Int) + 1 = _; omega
    have ha : Nat.sub NN (k + 1) ≤ 50000 := by show NN - (k + 1) ≤ 50000; omega
    have c00 : m 0 0 = iI ((cN C : Nat) : Int) := by rw [fT.2.2.1 0 (by omega) (by omega), h6.1, hn.1]
    obtain ⟨m1, q1, q2, q3, q4, q5⟩ := m_orders (F := F) (by omega) (n := cN C) (by omega) c00 ha
    have q2a : ∀ b j, b ≠ 0 → b ≠ 3 → m1 b j = m b j := fun b j hb hb3 => q2 b j (fun q => hb q.1) (fun q => hb3 q.1)
    have fT1 : frT m0 m1 := by
      obtain ⟨t1, t2, t3, t4, t5⟩ := fT
      exact ⟨fun b j g0 g14 g3 => by rw [q2a b j (by omega) g3]; exact t1 b j g0 g14 g3, fun j hj => by rw [q2 3 j (by omega) (fun ⟨_, p, hp, e⟩ => by omega)]; exact t2 j hj, fun j hj h4 => by rw [q2 0 j (by omega) (by omega)]; exact t3 j hj h4, fun j hj => by rw [q2a 23 j (by omega) (by omega)]; exact t4 j hj, by rw [q2a 23 12 (by omega) (by omega)]; exact t5⟩
    have f41 : m1 0 4 = m0 0 4 := by rw [q2 0 4 (by omega) (by omega)]; exact f4
    have fr1 : ∀ j, (∀ p, p < cN C → j ≠ 2 * p) → m1 3 j = m0 3 j := fun j hj => by rw [q2 3 j (by omega) (fun ⟨_, p, hp, e⟩ => hj p hp e)]; exact fr j hj
    rw [ea]
    by_cases hb : Nat.beq (seN (cN C) (cN C) (Nat.sub NN (k + 1)) 0) (2 ^ cN C - 1) = true
    · have es : scN (cN C) NN (k + 1) = Nat.sub NN (k + 1) :: scN (cN C) NN k := by rw [scN, hb]
      rw [es, List.map_cons] at hc
      rw [es, List.map_cons, List.foldl_cons]
      have hcd := hc _ List.mem_cons_self
      obtain ⟨k1, k2, k3, k4⟩ := chP_e hcd
      have tk : (dgs (cN C) (Nat.sub NN (k + 1))).take (cN C) = dgL (cN C) (cN C) (Nat.sub NN (k + 1)) [] := by
        unfold dgs
        exact List.take_left' q4
      have cm : courtM (rkC C (cN C) (dgs (cN C) (Nat.sub NN (k + 1)))) m1 := by
        refine ⟨by rw [q2 0 0 (by omega) (by omega), rkC_a (by omega), c00, hn.1], by rw [f41, rkC_a (by omega)]; exact h6.2.1, by rw [fT1.2.2.1 5 (by omega) (by omega), rkC_a (by omega)]; exact h6.2.2.1, fun p hp => ?_⟩
        rw [rkC_n] at hp
        obtain ⟨e1, e2, e3, e4⟩ := h6.2.2.2 p hp
        have a4 := (k3 p hp).2.2.2
        rw [tk] at a4
        have hmem : p ∈ dgL (cN C) (cN C) (Nat.sub NN (k + 1)) [] := by
          have l1 : (dgL (cN C) (cN C) (Nat.sub NN (k + 1)) []).idxOf p < (dgL (cN C) (cN C) (Nat.sub NN (k + 1)) []).length := by rw [q4]; exact a4.1
          have l2 := a4.2
          rw [List.getD_eq_getElem?_getD, List.getElem?_eq_getElem l1] at l2
          have l3 := List.getElem_mem l1
          rw [show (dgL (cN C) (cN C) (Nat.sub NN (k + 1)) [])[(dgL (cN C) (cN C) (Nat.sub NN (k + 1)) []).idxOf p] = p from l2] at l3
          exact l3
        rw [rkC_a (by omega), rkC_a (by omega), rkC_3 hp, rkC_a (by omega), tk, fT1.1 1 p (by omega) (by omega) (by omega), fT1.1 2 p (by omega) (by omega) (by omega), q5 p hmem, fr1 (2 * p + 1) (fun q _ => by omega)]
        exact ⟨e1, e2, rfl, e4⟩
      obtain ⟨m2, em2, fm2, r2⟩ := m_now hC hF (rkC_ok h1 (ds := dgs (cN C) (Nat.sub NN (k + 1)))) (by rw [rkC_a (by omega)]; exact h2.2) h3.1 (m1 := m1) (fun j => fT1.1 5 j (by omega) (by omega) (by omega)) (fun j => fT1.1 6 j (by omega) (by omega) (by omega)) cm (by rw [fT1.2.2.1 11 (by omega) (by omega)]; exact h7)
      have bf := evn_b (rkC_ok h1 (ds := dgs (cN C) (Nat.sub NN (k + 1)))) (Tof (cd lw))
      have hd : m2 0 42 = iI ((hIS (dgs (cN C) (Nat.sub NN (k + 1))) (cN C) : Nat) : Int) := by rw [fm2.2 42 (by omega), q3, k2, tk]
      have fT2 : frT m0 m2 := frT_m fT1 (fun a g0 g1 _ => fm2.1 a g0 g1) (fun j _ => by rw [fm2.1 3 (by omega) (by omega)]) (fun j hj _ => fm2.2 j hj)
      have bh : hIS (dgs (cN C) (Nat.sub NN (k + 1))) (cN C) ≤ 1000000 := hIS_b (cN C) hn.2 (fun i hi => by have := k3 i hi; omega)
      have bo : (-1 ≤ (oMS C (Tof (cd lw)) s (dgs (cN C) (Nat.sub NN (k + 1)))).1 ∧ (oMS C (Tof (cd lw)) s (dgs (cN C) (Nat.sub NN (k + 1)))).1 ≤ 1000000) ∧ (-1000 ≤ (oMS C (Tof (cd lw)) s (dgs (cN C) (Nat.sub NN (k + 1)))).2 ∧ (oMS C (Tof (cd lw)) s (dgs (cN C) (Nat.sub NN (k + 1)))).2 ≤ 1000000) := by
        unfold oMS; split
        · simp only []; omega
        · exact ⟨b1, b2⟩
      obtain ⟨m3, e3, fY⟩ := ih m2 (oMS C (Tof (cd lw)) s (dgs (cN C) (Nat.sub NN (k + 1)))) f (by omega) (by omega) (fun e he => hc e (List.mem_cons_of_mem _ he)) bo.1 bo.2 fT2 (by rw [fm2.2 4 (by omega)]; exact f41) (fun j hj => by rw [fm2.1 3 (by omega) (by omega)]; exact fr1 j hj)
      refine ⟨m3, ?_, fY⟩
      rw [← e3, g_X7_order_l58, if_neg (by rw [iI_le (by omega) (by omega)]; omega), q1, if_pos hb, bnI_s, if_neg (by decide), em2, bnI_s, li_n1, ite_eq (by omega) (by omega), ite_le (by omega) (by omega)]
      unfold g_X7_order_b91 g_X7_order_b96 g_X7_order_b111 g_X7_order_b124 g_X7_order_b126 oMS
      rw [hd, show (1 : Int32) = iI 1 from rfl, iI_add, eb]
      by_cases w1 : s.1 = -1
      · rw [if_pos w1, if_pos (Or.inl w1), if_neg (by decide), if_neg (by decide)]
      · rw [if_neg w1]
        by_cases w2 : evn (rkC C (cN C) (dgs (cN C) (Nat.sub NN (k + 1)))) (Tof (cd lw)) 0 0 < s.2
        · rw [if_neg (by omega), if_pos (Or.inr w2), if_neg (by decide), if_neg (by decide)]
        · rw [if_pos (by omega), if_pos rfl, if_pos rfl, if_neg (fun q : _ ∨ _ => q.elim w1 w2)]
    · have es : scN (cN C) NN (k + 1) = scN (cN C) NN k := by
        rw [scN]
        have : Nat.beq (seN (cN C) (cN C) (Nat.sub NN (k + 1)) 0) (2 ^ cN C - 1) = false := by
          cases hq : Nat.beq (seN (cN C) (cN C) (Nat.sub NN (k + 1)) 0) (2 ^ cN C - 1) with
          | true => exact absurd hq hb
          | false => rfl
        rw [this]
      rw [es] at hc ⊢
      obtain ⟨m3, e3, fY⟩ := ih m1 s f (by omega) (by omega) hc b1 b2 fT1 f41 fr1
      refine ⟨m3, ?_, fY⟩
      rw [← e3, g_X7_order_l58, if_neg (by rw [iI_le (by omega) (by omega)]; omega), q1, if_neg hb, bnI_s, if_pos rfl]
      unfold g_X7_order_b126
      rw [show (1 : Int32) = iI 1 from rfl, iI_add, eb]
theorem m_nums {F : Nat} (a : Int32) {n : Nat} (hn : n ≤ 6) {m : Sg} (h0 : m 0 0 = iI (n : Int)) : ∀ (k i : Nat) (f : Nat), i + k = n → k < f → g_X7_order_l25 F a f (iI ((n ^ i : Nat) : Int)) (iI (i : Int)) m = bnV (g_X7_keeps F m) fun s_1 => g_X7_order_l58 F a (iI ((n ^ n : Nat) : Int)) F (-1) 0 0 s_1 := by
  intro k
  induction k with
  | zero =>
    intro i f hi hf
    obtain ⟨f, rfl⟩ : ∃ q, f = q + 1 := ⟨f - 1, by omega⟩
    have : i = n := by omega
    subst this
    rw [g_X7_order_l25, h0, if_pos (by rw [iI_le (by omega) (by omega)]; omega)]
  | succ k ih =>
    intro i f hi hf
    obtain ⟨f, rfl⟩ : ∃ q, f = q + 1 := ⟨f - 1, by omega⟩
    rw [g_X7_order_l25, h0, if_neg (by rw [iI_le (by omega) (by omega)]; omega), iI_mul, li_1, iI_add]
    have e1 : ((n ^ i : Nat) : Int) * (n : Int) = ((n ^ (i + 1) : Nat) : Int) := by rw [Nat.pow_succ, Int.natCast_mul]
    rw [e1, show (i : Int) + 1 = ((i + 1 : Nat) : Int) by omega]
    exact ih (i + 1) f (by omega) (by omega)
theorem id6_g : ∀ i, i < 6 → id6.getD i 0 = i := by decide
theorem x_ids {F N : Nat} {ln : Nat → Nat} (hF : 100 ≤ F) (a : Int32) (x : Sg) : ∃ x', g_X6_order_l25 F N ln a F 0 x = (bnV (g_X0_begin F N ln 0 1000000 x') fun s_1 => g_X6_order_l59 F N ln a F 0 s_1) ∧ T35 id6 x' ∧ ∀ b, b ≠ 35 → x' b = x b := by
  obtain ⟨x', e, i1, i2⟩ := loop_up (fun n i s => g_X6_order_l25 F N ln a n (iI (i : Int)) s) (fun i s => (∀ b, b ≠ 35 → s b = x b) ∧ ∀ j, j < i → s 35 j = iI (j : Int)) 6 (by
    intro n i y hi ⟨i1, i2⟩
    rw [g_X6_order_l25, show Int32.ofNat 6 = iI 6 from rfl, if_neg (by rw [iI_le (by omega) (by omega)]; omega), wrA_i (by omega), li_1, iI_add, Int.toNat_natCast]
    refine ⟨_, by rw [show ((i + 1 : Nat) : Int) = (i : Int) + 1 by omega], fun b hb => by rw [st_ne _ _ _ hb]; exact i1 b hb, fun j hj => ?_⟩
    by_cases h : j = i
    · subst h; rw [st_e]
    · rw [st_j h]; exact i2 j (by omega)) 6 0 x F rfl ⟨fun _ _ => rfl, fun _ h => absurd h (by omega)⟩ (by omega)
  obtain ⟨q, hq⟩ : ∃ q, F - 6 = q + 1 := ⟨F - 7, by omega⟩
  refine ⟨x', ?_, ⟨rfl, fun i hi => ?_⟩, i1⟩
  · refine e.trans ?_
    simp only [hq]
    rw [g_X6_order_l25, if_pos (by decide)]
  · rw [id6_g i hi]; exact ⟨hi, i2 i hi⟩
theorem evn_z {C : CD} (h : okC C) {T : TX} (hz : cN C = 0) : evn C T 0 0 = 0 := by
  have l := stdS_len C
  obtain ⟨b, hb, h1, h2, h3, h4, h5⟩ := evn_ok h T
  omega
theorem k_order {F N : Nat} {ln : Nat → Nat} (hF : 60000 ≤ F) {x m : Sg} (h : Rel N ln x m) (a : Int32) : Go N ln (g_X6_order F N ln a x) (g_X7_order F a m) := by
  obtain ⟨C, lw, cd, hC, hT, hI, hS, hW⟩ := id h
  obtain ⟨h1, h2, h3, h4, h5, h6, h7, h8, h9, h10⟩ := id hC
  have hn := okC_n h1
  unfold g_X6_order g_X7_order
  rw [x_in, y_in, bnI_s, bnI_s, if01, if01]
  refine go_if Iff.rfl (fun _ => ?_) fun _ => go_0 h
  obtain ⟨x1, ex, fx, cx, lx⟩ := x_take (F := F) (N := N) (ln := ln) (by omega) (k := 6) (k2 := 1) (Or.inr (Or.inl rfl)) (Or.inl rfl) (by omega) x
  have hx1 : frX x x1 := ⟨fun a ha => fx a (by omega), by rw [fx 30 (by omega)]⟩
  obtain ⟨x2, ex2, t2, f2⟩ := x_ids (F := F) (N := N) (ln := ln) (by omega) a x1
  obtain ⟨x3, ex3, f3, b0, b1⟩ := x_bgn (F := F) (N := N) (ln := ln) (σ := x2) (a := 0) (b := 1000000)
  have hx3 : frX x x3 := frX_t hx1 (frX_t ⟨fun a ha => f2 a (by omega), by rw [f2 30 (by omega)]⟩ (frX_25 f3))
  have c3 : courtR C x3 6 := courtR_of (cx C h1 h4) (fun a _ _ => by rw [f3 a (by omega), f2 a (by omega)])
  obtain ⟨x4, ex4, hx4⟩ := x_ordL (F := F) hC (by omega) a 720 id6 x3 (0, 1000000) C F 0 (by omega) (by omega) ⟨t2.1, fun i hi => by rw [f3 35 (by omega)]; exact t2.2 i hi⟩ (ch_all hn.2) (by simp only []; omega) (fun _ _ _ => rfl) c3 (by rw [f3 6 (by omega), f2 6 (by omega)]; exact lx.trans h5) hx3 b0 b1
  rw [ex, bnV_s, ex2, ex3, bnV_s]
  have ex5 : g_X6_order_l59 F N ln a F 0 x3 = _ := ex4
  rw [ex5, h6.1, ite_eq0 (by omega)]
  by_cases z : C 0 0 = 0
  · rw [if_pos z]
    have zn : cN C = 0 := by omega
    have bf := evn_b (rkC_ok h1 (ds := id6)) (Tof (cd lw))
    have e0 : evn (rkC C (cN C) id6) (Tof (cd lw)) 0 0 = 0 := evn_z (rkC_ok h1) (by rw [rkC_n]; exact zn)
    have eL : (orbL (cN C) 720 id6).foldl (oFS C (Tof (cd lw))) (0, 1000000) = (0, 0) := by
      rw [show orbL (cN C) 720 id6 = [id6] by rw [zn, orbL]; rfl, List.foldl_cons, List.foldl_nil]
      unfold oFS wgS
      rw [e0, if_pos (by show (0 : Int) < 1000000; omega), zn]; rfl
    rw [eL]
    refine go_x h hx4 (frY_r m) ?_
    split <;> rfl
  · rw [if_neg z]
    obtain ⟨m1, em, fT, f1⟩ := frT_k (F := F) (by omega) m
    have nb : cN C ^ cN C ≤ 50000 := by
      rcases (show cN C = 1 ∨ cN C = 2 ∨ cN C = 3 ∨ cN C = 4 ∨ cN C = 5 ∨ cN C = 6 by omega) with q | q | q | q | q | q <;> rw [q] <;> decide
    obtain ⟨m2, em2, hy⟩ := m_ordL (F := F) hC (by omega) a (by omega) nb (cN C ^ cN C) m1 (-1, 0) F (by omega) (by omega) (by rw [sc_all (by omega)]; exact ch_all hn.2) (by simp only []; omega) (by simp only []; omega) fT (by rw [f1 0 (by omega)]) (fun j _ => by rw [f1 3 (by omega)])
    have e1 : g_X7_order_l25 F a F 1 0 m = g_X7_order_l25 F a F (iI ((cN C ^ 0 : Nat) : Int)) (iI ((0 : Nat) : Int)) m := rfl
    rw [e1, m_nums (F := F) a hn.2 (by rw [h6.1, hn.1]) (cN C) 0 F (by omega) (by omega), em, bnV_s]
    rw [show ((cN C ^ cN C : Nat) : Int) - ((cN C ^ cN C : Nat) : Int) = 0 by omega] at em2
    have em3 : g_X7_order_l58 F a (iI ((cN C ^ cN C : Nat) : Int)) F (-1) 0 0 m1 = _ := em2
    rw [em3, sc_all (by omega)]
    have eq : (orbL (cN C) 720 id6).foldl (oFS C (Tof (cd lw))) (0, 1000000) = (orbL (cN C) 720 id6).foldl (oMS C (Tof (cd lw))) (-1, 0) := by
      rw [orbL]; exact oFM h1 _ _ _
    rw [eq]
    exact go_x h hx4 hy rfl
