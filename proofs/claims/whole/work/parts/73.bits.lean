/-! what is tried and laid back -/
def frZ (P : Nat → Nat → Prop) (m s : Sg) : Prop := ∀ a j, a < 14 → (a = 0 → j < 19) → ¬ P a j → s a j = m a j
theorem frZ_r (P : Nat → Nat → Prop) (m : Sg) : frZ P m m := fun _ _ _ _ _ => rfl
theorem frZ_m {P : Nat → Nat → Prop} {m s s' : Sg} (h : frZ P m s) (f : frM s s') : frZ P m s' := by
  intro a j ha h0 hp
  by_cases e : a = 0
  · subst e; rw [f.2 j (by have := h0 rfl; omega)]; exact h 0 j ha h0 hp
  · rw [f.1 a (by omega) (by omega)]; exact h a j ha h0 hp
theorem frZ_s {P : Nat → Nat → Prop} {m s : Sg} {k j : Nat} {v : Int32} (h : frZ P m s) (hp : P k j) : frZ P m (st s k j v) := by
  intro a b ha h0 hq
  by_cases e : a = k ∧ b = j
  · exact absurd (by rw [e.1, e.2]; exact hp) hq
  · by_cases e1 : a = k
    · rw [st_j (fun e2 => e ⟨e1, e2⟩)]; exact h a b ha h0 hq
    · rw [st_k e1]; exact h a b ha h0 hq
theorem frZ_y {P : Nat → Nat → Prop} {m s : Sg} (h : frZ P m s) (hp : ∀ a j, P a j → s a j = m a j) : frY m s := by
  refine ⟨fun a j h0 h14 => ?_, fun j hj => ?_⟩
  · by_cases e : P a j
    · exact hp a j e
    · exact h a j h14 (fun e => by omega) e
  · by_cases e : P 0 j
    · exact hp 0 j e
    · exact h 0 j (by omega) (fun _ => hj) e
theorem up_id {C : CD} {a b : Nat} : upI C a b (C a b) = C := by
  funext x y
  by_cases h : x = a
  · by_cases h2 : y = b
    · rw [h, h2, up_e]
    · rw [up_j h2]
  · rw [up_k h]
theorem up_up {C : CD} {a b : Nat} {u v : Int} : upI (upI C a b u) a b v = upI C a b v := by
  funext x y
  by_cases h : x = a
  · by_cases h2 : y = b
    · rw [h, h2, up_e, up_e]
    · rw [up_j h2, up_j h2, up_j h2]
  · rw [up_k h, up_k h, up_k h]
theorem up_cm {C : CD} {a b c d : Nat} {u v : Int} (h : a ≠ c) : upI (upI C a b u) c d v = upI (upI C c d v) a b u := by
  funext x y
  unfold upI
  split <;> (try split) <;> (try split) <;> (try split) <;> first | rfl | omega
/-- the numbers by which it is as told, as bits -/
def btS (f : Nat → Int) : Nat → Int32
  | 0 => iI 0
  | i + 1 => if f i = -1 then btS f i ||| (iI 1 <<< (iI (i : Int) &&& 31)) else btS f i
/-- how many, the least: up, and down -/
def cU (f : Nat → Int) : Nat → Int
  | 0 => 0
  | i + 1 => if f i = -1 then cU f i + 1 else cU f i
def lU (f : Nat → Int) : Nat → Int
  | 0 => -1
  | i + 1 => if f i = -1 ∧ lU f i = -1 then i else lU f i
def lD (f : Nat → Int) : Nat → Nat → Int
  | _, 0 => -1
  | i, d + 1 => if f i = -1 then i else lD f (i + 1) d
theorem lU_D (f : Nat → Int) : ∀ d i, (if lU f i = -1 then lD f i d else lU f i) = lU f (i + d)
  | 0, i => by
    rw [lD, Nat.add_zero]; split
    · rename_i h; exact h.symm
    · rfl
  | d + 1, i => by
    have := lU_D f d (i + 1)
    rw [show i + (d + 1) = i + 1 + d by omega, ← this, lD]
    by_cases h1 : lU f i = -1
    · by_cases h2 : f i = -1
      · have e : lU f (i + 1) = i := by rw [lU, if_pos ⟨h2, h1⟩]
        rw [if_pos h1, if_pos h2, e, if_neg (by omega)]
      · have e : lU f (i + 1) = -1 := by rw [lU, if_neg (fun q => h2 q.1), h1]
        rw [if_pos h1, if_neg h2, e, if_pos rfl]
    · have e : lU f (i + 1) = lU f i := by rw [lU, if_neg (fun q => h1 q.2)]
      rw [if_neg h1, e, if_neg h1]
theorem lU_b (f : Nat → Int) : ∀ i, -1 ≤ lU f i ∧ lU f i < i
  | 0 => by unfold lU; omega
  | i + 1 => by
    have := lU_b f i
    unfold lU; split <;> omega
theorem cU_b (f : Nat → Int) : ∀ i, 0 ≤ cU f i ∧ cU f i ≤ i
  | 0 => by unfold cU; omega
  | i + 1 => by
    have := cU_b f i
    unfold cU; split <;> omega
theorem fo_e {z : Int} (h : -1 ≤ z ∧ z ≤ 6) {α : Type} {A B : α} : (if iI z = -1 then A else B) = if z = -1 then A else B := ite_eq (b := -1) (by omega) (by omega)
/-- where what is told of both is: s, n, and what the sheet says -/
theorem k_kinds {F N : Nat} {ln : Nat → Nat} (hF : 300 ≤ F) {x m : Sg} (h : Rel N ln x m) (a b c : Int32) : Go N ln (g_X6_kinds F N ln a b c x) (g_X7_kinds F a b c m) := by
  obtain ⟨C, lw, cd, hC, hT, hI, hS, hW⟩ := id h
  obtain ⟨h1, h2, h3, h4, h5, h6, h7, h8, h9, h10⟩ := id hC
  obtain ⟨za, ha, rfl⟩ := iI_ex a
  obtain ⟨zb, hb, rfl⟩ := iI_ex b
  obtain ⟨zc, hc, rfl⟩ := iI_ex c
  have hn := okC_n h1
  obtain ⟨r, q, hr, hq, e1, e2, n1, n2⟩ := ref_o (F := F) (N := N) (ln := ln) h1 hS h4.1 h6.1 ha hb hc
  unfold g_X6_kinds g_X7_kinds
  rw [e1, e2, bnI_s, bnI_s, li_0, ite_le (a := 0) (b := r) (by omega) (by omega), ite_eq (a := q) (b := 0) (by omega) (by omega)]
  by_cases q0 : q = 0
  · obtain ⟨n3, n4, t, n, rfl, ht, hn6, g1, g2, g3⟩ := n2 q0
    rw [if_pos q0, show g_X7_in F (iI zc) (iI 0) 1 m = _ from m_in (b := 0) (c := 1) hc (by omega) (by omega), bnI_s]
    by_cases w : 0 ≤ zc ∧ zc ≤ 1
    · rw [if_pos w] at n3
      obtain ⟨p, rfl⟩ : ∃ n : Nat, zb = n := ⟨zb.toNat, by omega⟩
      have hp : p < cN C := by omega
      obtain ⟨r1, r2, r3, r4⟩ := h6.2.2.2 p hp
      rw [if_pos w, if_neg (show ¬ (1 : Int32) = iI 0 by decide), if_pos (by omega), rdA_i (by omega), rdA_i (by omega), Int.toNat_natCast, r1, r2]
      obtain ⟨x1, ex, fx, cx, lx⟩ := x_take (F := F) (N := N) (ln := ln) (by omega) (k := 6) (k2 := 1) (Or.inr (Or.inl rfl)) (Or.inl rfl) (by omega) x
      rw [ex, bnV_s]
      have hx1 : frX x x1 := ⟨fun a ha => fx a (by omega), by rw [fx 30 (by omega)]⟩
      have key : ∀ (rw mo : Nat) (hw : (zc = 0 ∧ rw = 1 ∧ mo = 5) ∨ (zc = 1 ∧ rw = 2 ∧ mo = 9)), Go N ln (g_X6_kinds_l69 F N ln (iI (t : Int)) (iI (p : Int)) (6 + rw) (iI (mo : Int)) F (iI 0) (iI 0) x1) (g_X7_kinds_l50 F (iI (t : Int)) (iI (p : Int)) (iI zc) (iI (C 1 p)) (iI (C 2 p)) F (iI 0) (iI 0) m) := by
        intro rw mo hw
        have hok : ∀ v : Nat, v ≤ mo → okC (upI C rw p (v : Int)) := fun v hv => okC_r h1 (by omega)
        have hcn : ∀ v : Int, upI C rw p v 0 0 = C 0 0 ∧ upI C rw p v 0 4 = -1 := fun v => by rw [up_k (by omega), up_k (by omega)]; exact ⟨rfl, h2.2⟩
        obtain ⟨⟨acc, x2⟩, ex2, ha2, hx2⟩ := loop_up (S := Int32 × Sg) (fun n i v => g_X6_kinds_l69 F N ln (iI (t : Int)) (iI (p : Int)) (6 + rw) (iI (mo : Int)) n v.1 (iI (i : Int)) v.2) (fun i v => v.1 = btS (fun v => fiS (x (37 + 2 * t)) n (upI C rw p (v : Int)) (cd lw)) i ∧ frX x v.2 ∧ (∃ z, courtR (upI C rw p z) v.2 6) ∧ v.2 6 3 = iI (lw : Int)) (mo + 1) (by
          intro f i ⟨acc, y⟩ hi ⟨i1, i2, ⟨z, i3⟩, i4⟩
          simp only [] at i1 i2 i3 i4 ⊢
          have i5 := courtR_r (Or.inr (Or.inl rfl)) i3 (r := rw) (p := p) (by omega) (v := (i : Int))
          rw [up_up] at i5
          have hfr : frX x (st y (6 + rw) p (iI (i : Int))) := frX_t i2 ⟨fun a ha => st_ne _ _ _ (by omega), st_k (by omega)⟩
          obtain ⟨y1, ey, fy⟩ := x_fo hC hF (Or.inr (Or.inl rfl)) (hok i (by omega)) h3.1 (fcX_f hfr) i5 (by rw [st_k (by omega)]; exact i4) (by rw [(hcn _).1]; exact hn6) g1
          rw [g_X6_kinds_l69, if_neg (by rw [iI_lt (by omega) (by omega)]; omega), wrA_i (by omega), rdS_i (by omega), Int.toNat_natCast, Int.toNat_natCast, ey, bnI_s, fo_e (fiS_b (by omega))]
          unfold g_X6_kinds_b109
          refine ⟨(btS (fun v => fiS (x (37 + 2 * t)) n (upI C rw p (v : Int)) (cd lw)) (i + 1), y1), ?_, rfl, frX_t hfr (frX_s fy), ⟨i, courtR_of i5 (fun a _ _ => fy a (by omega))⟩, by show y1 6 3 = _; rw [fy 6 (by omega), st_k (by omega)]; exact i4⟩
          rw [btS, li_1, iI_add, show (i : Int) + 1 = ((i + 1 : Nat) : Int) by omega, i1]
          by_cases hf : fiS (x (37 + 2 * t)) n (upI C rw p (i : Int)) (cd lw) = -1
          · rw [if_pos hf, if_pos hf]
          · rw [if_neg hf, if_neg hf]) (mo + 1) 0 (iI 0, x1) F (by omega) ⟨rfl, hx1, ⟨C rw p, by rw [up_id]; exact cx C h1 h4⟩, lx.trans h5⟩ (by omega)
        obtain ⟨w1, hw1⟩ : ∃ q, F - (mo + 1) = q + 1 := ⟨F - (mo + 1) - 1, by omega⟩
        have ex3 : g_X6_kinds_l69 F N ln (iI (t : Int)) (iI (p : Int)) (6 + rw) (iI (mo : Int)) F (iI 0) (iI 0) x1 = some (x2, acc) := by
          refine ex2.trans ?_
          simp only [hw1]
          rw [g_X6_kinds_l69, if_pos (by rw [iI_lt (by omega) (by omega)]; omega)]
        have hP : ∀ a b, upI (upI C 1 p a) 2 p b 0 0 = C 0 0 ∧ upI (upI C 1 p a) 2 p b 0 4 = -1 := fun a b => by rw [up_k (by omega), up_k (by omega), up_k (by omega), up_k (by omega)]; exact ⟨rfl, h2.2⟩
        obtain ⟨⟨acc', m2⟩, em2, ha2', hm2⟩ := loop_up (S := Int32 × Sg) (fun n i v => g_X7_kinds_l50 F (iI (t : Int)) (iI (p : Int)) (iI zc) (iI (C 1 p)) (iI (C 2 p)) n v.1 (iI (i : Int)) v.2) (fun i v => v.1 = btS (fun v => fiS (x (37 + 2 * t)) n (upI C rw p (v : Int)) (cd lw)) i ∧ frZ (fun a j => (a = 1 ∨ a = 2) ∧ j = p) m v.2 ∧ ∃ a b, courtM (upI (upI C 1 p a) 2 p b) v.2) (mo + 1) (by
          intro f i ⟨acc, y⟩ hi ⟨i1, i2, a, b, i3⟩
          simp only [] at i1 i2 i3 ⊢
          have step : ∀ u v : Int, upI (upI C 1 p u) 2 p v = upI C rw p (i : Int) → ∃ y1, g_X7_unlike F (iI (t : Int)) (st (st y 1 p (iI u)) 2 p (iI v)) = some (y1, iI (fiS (x (37 + 2 * t)) n (upI C rw p (i : Int)) (cd lw))) ∧ frZ (fun a j => (a = 1 ∨ a = 2) ∧ j = p) m y1 ∧ ∃ a b, courtM (upI (upI C 1 p a) 2 p b) y1 := by
            intro u v huv
            have c1 := courtM_r1 (courtM_r1 i3 (r := 1) (p := p) (by omega) (v := u)) (r := 2) (p := p) (by omega) (v := v)
            have c2 : upI (upI (upI (upI C 1 p a) 2 p b) 1 p u) 2 p v = upI (upI C 1 p u) 2 p v := by
              rw [up_cm (by omega), up_up, up_cm (by omega), up_up]
            rw [c2, huv] at c1
            have z1 : frZ (fun a j => (a = 1 ∨ a = 2) ∧ j = p) m (st (st y 1 p (iI u)) 2 p (iI v)) := frZ_s (frZ_s i2 ⟨Or.inl rfl, rfl⟩) ⟨Or.inr rfl, rfl⟩
            obtain ⟨y1, e, f⟩ := m_fo hC hF (hok i (by omega)) (hcn _).2 h3.1 (fun j => z1 5 j (by omega) (by omega) (by omega)) (fun j => z1 6 j (by omega) (by omega) (by omega)) c1 (by rw [z1 0 11 (by omega) (by omega) (by omega)]; exact h7) ht (by rw [(hcn _).1]; exact hn6) (by rw [z1 10 t (by omega) (by omega) (by omega)]; exact g2) (w := x (37 + 2 * t)) (fun j hj => by rw [z1 11 _ (by omega) (by omega) (by omega)]; exact g3 j hj)
            exact ⟨y1, e, frZ_m z1 f, u, v, by rw [huv]; exact courtM_of c1 f⟩
          have hb1 := (h1.2.2.2.2 p hp)
          have fin : ∀ (y1 : Sg), frZ (fun a j => (a = 1 ∨ a = 2) ∧ j = p) m y1 → (∃ a b, courtM (upI (upI C 1 p a) 2 p b) y1) → ∃ s' : Int32 × Sg, (if fiS (x (37 + 2 * t)) n (upI C rw p (i : Int)) (cd lw) = -1 then g_X7_kinds_l50 F (iI (t : Int)) (iI (p : Int)) (iI zc) (iI (C 1 p)) (iI (C 2 p)) f (acc ||| ((1 : Int32) <<< (iI (i : Int) &&& 31))) (iI (i : Int) + 1) y1 else g_X7_kinds_l50 F (iI (t : Int)) (iI (p : Int)) (iI zc) (iI (C 1 p)) (iI (C 2 p)) f (acc ||| 0) (iI (i : Int) + 1) y1) = g_X7_kinds_l50 F (iI (t : Int)) (iI (p : Int)) (iI zc) (iI (C 1 p)) (iI (C 2 p)) f s'.1 (iI ((i + 1 : Nat) : Int)) s'.2 ∧ s'.1 = btS (fun v => fiS (x (37 + 2 * t)) n (upI C rw p (v : Int)) (cd lw)) (i + 1) ∧ frZ (fun a j => (a = 1 ∨ a = 2) ∧ j = p) m s'.2 ∧ ∃ a b, courtM (upI (upI C 1 p a) 2 p b) s'.2 := by
            intro y1 z1 z2
            refine ⟨(btS (fun v => fiS (x (37 + 2 * t)) n (upI C rw p (v : Int)) (cd lw)) (i + 1), y1), ?_, rfl, z1, z2⟩
            rw [btS, li_1, iI_add, show (i : Int) + 1 = ((i + 1 : Nat) : Int) by omega, i1]
            by_cases hf : fiS (x (37 + 2 * t)) n (upI C rw p (i : Int)) (cd lw) = -1
            · rw [if_pos hf, if_pos hf]
            · rw [if_neg hf, if_neg hf, Int32.or_zero]
          rcases hw with ⟨rfl, rfl, rfl⟩ | ⟨rfl, rfl, rfl⟩
          · obtain ⟨y1, e, z1, z2⟩ := step (i : Int) (C 2 p) (by rw [up_cm (by omega), up_id])
            rw [g_X7_kinds_l50]
            unfold g_X7_kinds_b63 g_X7_kinds_b82 g_X7_kinds_b100 g_X7_kinds_b120
            rw [if_pos (show iI 0 = 0 from rfl), if_neg (by rw [li_6, iI_le (by omega) (by omega)]; omega), if_pos (show iI 0 = 0 from rfl), wrA_i (by omega), if_neg (by decide), wrA_i (by omega), Int.toNat_natCast, e, bnI_s, fo_e (fiS_b (by omega))]
            exact fin y1 z1 z2
          · obtain ⟨y1, e, z1, z2⟩ := step (C 1 p) (i : Int) (by rw [up_id])
            rw [g_X7_kinds_l50]
            unfold g_X7_kinds_b63 g_X7_kinds_b82 g_X7_kinds_b100 g_X7_kinds_b120
            rw [if_neg (show ¬ iI 1 = 0 by decide), if_neg (by rw [li_10, iI_le (by omega) (by omega)]; omega), if_neg (show ¬ iI 1 = 0 by decide), wrA_i (by omega), if_pos (show iI 1 = 1 from rfl), wrA_i (by omega), Int.toNat_natCast, e, bnI_s, fo_e (fiS_b (by omega))]
            exact fin y1 z1 z2) (mo + 1) 0 (iI 0, m) F (by omega) ⟨rfl, frZ_r _ m, C 1 p, C 2 p, by rw [up_id, up_id]; exact h6⟩ (by omega)
        have em3 : g_X7_kinds_l50 F (iI (t : Int)) (iI (p : Int)) (iI zc) (iI (C 1 p)) (iI (C 2 p)) F (iI 0) (iI 0) m = some (st (st m2 1 p (iI (C 1 p))) 2 p (iI (C 2 p)), acc') := by
          refine em2.trans ?_
          simp only [hw1]
          unfold g_X7_kinds_l50 g_X7_kinds_b63
          rcases hw with ⟨rfl, rfl, rfl⟩ | ⟨rfl, rfl, rfl⟩
          · rw [if_pos (show iI 0 = 0 from rfl), if_pos (by decide), wrA_i (by omega), wrA_i (by omega), Int.toNat_natCast]
          · rw [if_neg (show ¬ iI 1 = 0 by decide), if_pos (by decide), wrA_i (by omega), wrA_i (by omega), Int.toNat_natCast]
        simp only [] at ha2 ha2' hx2 hm2
        rw [ex3, em3]
        refine go_x h hx2.1 (frZ_y (frZ_s (frZ_s hm2.1 ⟨Or.inl rfl, rfl⟩) ⟨Or.inr rfl, rfl⟩) ?_) (ha2.trans ha2'.symm)
        rintro a j ⟨rfl | rfl, rfl⟩
        · rw [st_k (by omega), st_e, r1]
        · rw [st_e, r2]
      rcases (show zc = 0 ∨ zc = 1 by omega) with rfl | rfl
      · rw [if_pos rfl]
        unfold g_X6_kinds_b49 g_X6_kinds_b61
        rw [if_pos (show iI 0 = 0 from rfl)]
        exact key 1 5 (by omega)
      · rw [if_neg (by decide)]
        unfold g_X6_kinds_b49 g_X6_kinds_b61
        rw [if_neg (show ¬ iI 1 = 0 by decide)]
        exact key 2 9 (by omega)
    · rw [if_neg w] at n3
      rw [if_neg w, if_pos (show (0 : Int32) = iI 0 from rfl), if_neg (by omega), n3]; exact go_0 h
  · have := n1 q0
    rw [if_neg q0, if_neg (by omega), this]; exact go_0 h
