/-! what a supper is: over whole numbers -/
abbrev CD : Type := Nat → Nat → Int
abbrev TX : Type := Nat → (Nat → Int32) → Int32
def upI (E : CD) (a b : Nat) (v : Int) : CD := fun x y => if x = a then (if y = b then v else E x y) else E x y
theorem up_e {E : CD} {a b : Nat} {v : Int} : upI E a b v a b = v := by simp [upI]
theorem up_k {E : CD} {a b x y : Nat} {v : Int} (h : x ≠ a) : upI E a b v x y = E x y := by simp [upI, h]
theorem up_j {E : CD} {a b x y : Nat} {v : Int} (h : y ≠ b) : upI E a b v x y = E x y := by simp [upI, h]
def nms (h m d r o q : Int) : Nat → Int32 := fun i => if i = 0 then iI h else if i = 1 then iI m else if i = 2 then iI d else if i = 3 then iI r else if i = 4 then iI o else iI q
def clS (hi z : Int) : Int := if z < 0 then 0 else if hi < z then hi else z
def sayS (T : TX) (part : Nat) (h m d r o q : Int) : Int := clS (if part = 1 then 20 else 99) (T part (nms h m d r o q)).toInt
def likeS (kd mo s : Int) : Int := if kd = 2 ∨ kd = 4 then (if s - mo < 0 then 0 else s - mo) else if kd = 3 then 99 - s else s
def earlS (mo s h : Int) : Int := if 60 < h then s + mo else s
def waitS (kd mo s h su : Int) : Int := if kd = 1 then earlS mo s h else if kd = 3 then earlS mo s h / 2 else if kd = 4 then (if su % 4 = 0 then mo else s) else if kd = 5 then 0 else s
def chapS (off : Int) : Int := if off < 0 then (-off) / 2 else off
def mindS (kd mo off : Int) : Int := if kd = 1 ∨ kd = 3 then (if 0 < off then 2 * off else -off) else if kd = 2 then chapS off else if kd = 4 then (if chapS off - mo < 0 then 0 else chapS off - mo) else if kd = 5 then -mo else (if 0 ≤ off then off else -off)
def congT (T : TX) : Prop := ∀ part f g, (∀ i, i < 6 → f i = g i) → T part f = T part g
theorem clS_b {hi z : Int} (h : 0 ≤ hi) : 0 ≤ clS hi z ∧ clS hi z ≤ hi := by unfold clS; split <;> (try split) <;> omega
theorem sayS_b (T : TX) (part : Nat) (h m d r o q : Int) : 0 ≤ sayS T part h m d r o q ∧ sayS T part h m d r o q ≤ 99 := by
  unfold sayS
  by_cases h1 : part = 1
  · rw [if_pos h1]; have := clS_b (hi := 20) (z := (T part (nms h m d r o q)).toInt) (by decide); omega
  · rw [if_neg h1]; exact clS_b (by decide)
theorem sayS_b1 (T : TX) (h m d r o q : Int) : 0 ≤ sayS T 1 h m d r o q ∧ sayS T 1 h m d r o q ≤ 20 := by
  unfold sayS; exact clS_b (by decide)
/-! who begins when: ranks are a strict order -/
def cN (C : CD) : Nat := (C 0 0).toNat
def betS (C : CD) (q p : Nat) : Bool := decide (C 3 p < C 3 q ∨ (C 3 p = C 3 q ∧ q < p))
def stdS (C : CD) : List Nat := (List.range (cN C)).filter (fun p => decide ((p : Int) ≠ C 0 4))
def downS (C : CD) (p : Nat) : Nat := (stdS C).countP (fun q => betS C q p)
def atS (C : CD) (d : Nat) : Nat := ((stdS C).find? (fun p => downS C p == d)).getD 0
theorem rank_le (b : Nat → Nat → Bool) : ∀ (L : List Nat) (p a : Nat), (∀ q, q ∈ L → b q p = true → b q a = true) → L.countP (fun q => b q p) ≤ L.countP (fun q => b q a) := by
  intro L p a h
  exact List.countP_mono_left (fun q hq hb => h q hq hb)
theorem rank_lt (b : Nat → Nat → Bool) (irr : ∀ x, b x x = false) (tr : ∀ x y z, b x y = true → b y z = true → b x z = true) : ∀ (L : List Nat) (p a : Nat), p ∈ L → b p a = true → L.countP (fun q => b q p) < L.countP (fun q => b q a) := by
  intro L
  induction L with
  | nil => intro p a h; cases h
  | cons x t ih =>
    intro p a hp hb
    rw [List.countP_cons, List.countP_cons]
    rcases List.mem_cons.mp hp with rfl | hp
    · have h1 := rank_le b t p a (fun q _ h => tr q p a h hb)
      rw [irr, hb]
      simp
      omega
    · have h1 := ih p a hp hb
      by_cases h2 : b x p = true
      · rw [h2, tr x p a h2 hb]; simp; omega
      · have h3 : b x p = false := by simpa using h2
        rw [h3]
        by_cases h4 : b x a = true
        · rw [h4]; simp; omega
        · have h5 : b x a = false := by simpa using h4
          rw [h5]; simp; omega
theorem rank_ex (b : Nat → Nat → Bool) (irr : ∀ x, b x x = false) (tr : ∀ x y z, b x y = true → b y z = true → b x z = true) (tot : ∀ x y, x ≠ y → b x y = true ∨ b y x = true) : ∀ (L : List Nat), L.Nodup → ∀ d, d < L.length → ∃ p, p ∈ L ∧ L.countP (fun q => b q p) = d := by
  intro L
  induction L with
  | nil => intro _ d h; simp at h
  | cons a t ih =>
    intro hn d hd
    have hat : a ∉ t := (List.nodup_cons.mp hn).1
    have ih := ih (List.nodup_cons.mp hn).2
    have hle : t.countP (fun q => b q a) ≤ t.length := List.countP_le_length
    rw [List.length_cons] at hd
    have key : ∀ p, p ∈ t → (b p a = true ↔ t.countP (fun q => b q p) < t.countP (fun q => b q a)) := by
      intro p hp
      refine ⟨fun h => rank_lt b irr tr t p a hp h, fun h => ?_⟩
      rcases tot p a (fun e => hat (e ▸ hp)) with h1 | h1
      · exact h1
      · have := rank_le b t a p (fun q _ hq => tr q a p hq h1)
        omega
    have anti : ∀ p, p ∈ t → b p a = true → b a p = false := by
      intro p hp h
      by_cases h1 : b a p = true
      · have := tr a p a h1 h; rw [irr] at this; cases this
      · simpa using h1
    rcases Nat.lt_trichotomy d (t.countP (fun q => b q a)) with h | h | h
    · obtain ⟨p, hp, e⟩ := ih d (by omega)
      refine ⟨p, List.mem_cons_of_mem _ hp, ?_⟩
      rw [List.countP_cons, anti p hp ((key p hp).mpr (by omega)), e]
      simp
    · refine ⟨a, List.mem_cons_self, ?_⟩
      rw [List.countP_cons, irr, ← h]
      simp
    · obtain ⟨p, hp, e⟩ := ih (d - 1) (by omega)
      refine ⟨p, List.mem_cons_of_mem _ hp, ?_⟩
      have hna : ¬ b p a = true := fun h1 => by have := (key p hp).mp h1; omega
      have hb : b a p = true := by
        rcases tot p a (fun e => hat (e ▸ hp)) with h1 | h1
        · exact absurd h1 hna
        · exact h1
      rw [List.countP_cons, hb, e]
      simp
      omega
theorem betS_irr (C : CD) (x : Nat) : betS C x x = false := by simp [betS]
theorem betS_tr (C : CD) (x y z : Nat) (h1 : betS C x y = true) (h2 : betS C y z = true) : betS C x z = true := by
  simp only [betS, decide_eq_true_eq] at h1 h2 ⊢; omega
theorem betS_tot (C : CD) (x y : Nat) (h : x ≠ y) : betS C x y = true ∨ betS C y x = true := by
  simp only [betS, decide_eq_true_eq]; omega
theorem stdS_nd (C : CD) : (stdS C).Nodup := List.Pairwise.filter _ List.nodup_range
theorem stdS_mem {C : CD} {p : Nat} : p ∈ stdS C ↔ p < cN C ∧ (p : Int) ≠ C 0 4 := by simp [stdS]
theorem stdS_len (C : CD) : (stdS C).length ≤ cN C := by
  unfold stdS
  have := List.length_filter_le (fun p : Nat => decide ((p : Int) ≠ C 0 4)) (List.range (cN C))
  rw [List.length_range] at this
  exact this
theorem downS_lt {C : CD} {p : Nat} (h : p ∈ stdS C) : downS C p < (stdS C).length := by
  unfold downS
  have h1 : (stdS C).countP (fun q => betS C q p) ≤ (stdS C).length := List.countP_le_length
  rcases Nat.lt_or_ge ((stdS C).countP (fun q => betS C q p)) (stdS C).length with h2 | h2
  · exact h2
  · have h3 := List.countP_eq_length.mp (Nat.le_antisymm h1 h2) p h
    rw [betS_irr] at h3; cases h3
theorem downS_inj {C : CD} {p q : Nat} (hp : p ∈ stdS C) (hq : q ∈ stdS C) (h : downS C p = downS C q) : p = q := by
  by_cases e : p = q
  · exact e
  · rcases betS_tot C p q e with h1 | h1
    · have := rank_lt (betS C) (betS_irr C) (betS_tr C) (stdS C) p q hp h1
      unfold downS at h; omega
    · have := rank_lt (betS C) (betS_irr C) (betS_tr C) (stdS C) q p hq h1
      unfold downS at h; omega
theorem atS_ok {C : CD} {d : Nat} (h : d < (stdS C).length) : atS C d ∈ stdS C ∧ downS C (atS C d) = d := by
  obtain ⟨p, hp, e⟩ := rank_ex (betS C) (betS_irr C) (betS_tr C) (betS_tot C) (stdS C) (stdS_nd C) d h
  unfold atS
  cases hf : (stdS C).find? (fun p => downS C p == d) with
  | none =>
    have := List.find?_eq_none.mp hf p hp
    simp [downS, e] at this
  | some q =>
    have h1 := List.find?_some hf
    have h2 := List.mem_of_find?_eq_some hf
    simp at h1
    exact ⟨h2, h1⟩
theorem atS_down {C : CD} {p : Nat} (h : p ∈ stdS C) : atS C (downS C p) = p := by
  have h1 := atS_ok (downS_lt h)
  exact downS_inj h1.1 h h1.2
/-! the supper itself -/
def offS (C : CD) (T : TX) (p : Nat) (d m h : Int) : Int := h - likeS (C 1 p) (C 2 p) (sayS T 2 h m d (C 3 p) (C 4 p) (C 2 p))
def minS (C : CD) (T : TX) (p : Nat) (d m h : Int) : Int := mindS (C 1 p) (C 2 p) (offS C T p d m h)
def waiS (C : CD) (T : TX) (p : Nat) (d m h : Int) : Int := waitS (C 1 p) (C 2 p) (sayS T 1 h m d (C 3 p) (C 4 p) (C 2 p)) h (C 0 1)
def evB (C : CD) (T : TX) (p : Nat) (d m h : Int) (E : CD) : CD := upI (upI (upI (upI (upI (upI (upI (upI (upI E 1 p m) 2 p h) 3 p (offS C T p d m h)) 4 p (minS C T p d m h)) 0 0 (E 0 0 + minS C T p d m h)) 0 1 p) 0 2 m) 0 3 (E 0 3 + h)) 0 4 (E 0 4 + 1)
def coolS (T : TX) (d : Int) : Nat → Int → Int → Int
  | 0, _, h => h
  | w + 1, m, h => coolS T d w (m + 1) (if h - sayS T 0 h m d 0 0 0 < 0 then 0 else h - sayS T 0 h m d 0 0 0)
def evs (C : CD) (T : TX) : Nat → Nat → Int → Int → CD → CD
  | 0, _, _, _, E => E
  | r + 1, d, m, h, E => if 60 < m then E else evs C T r (d + 1) (m + waiS C T (atS C d) d m h) (coolS T d (waiS C T (atS C d) d m h).toNat m h) (evB C T (atS C d) d m h E)
def ev0 : CD := fun a b => if a = 0 then (if b = 1 ∨ b = 2 then -1 else 0) else if a = 1 ∨ a = 2 then -1 else -6000
def evn (C : CD) (T : TX) : CD := evs C T (stdS C).length 0 0 (C 0 2) ev0
/-- what is as it can be of a court -/
def okC (C : CD) : Prop := (0 ≤ C 0 0 ∧ C 0 0 ≤ 6) ∧ (0 ≤ C 0 1 ∧ C 0 1 ≤ 2000) ∧ (0 ≤ C 0 2 ∧ C 0 2 ≤ 99) ∧ (-1 ≤ C 0 4 ∧ C 0 4 ≤ 5) ∧ ∀ p, p < cN C → (0 ≤ C 1 p ∧ C 1 p ≤ 5) ∧ (0 ≤ C 2 p ∧ C 2 p ≤ 9) ∧ (0 ≤ C 3 p ∧ C 3 p ≤ 99) ∧ (0 ≤ C 4 p ∧ C 4 p ≤ 999)
theorem likeS_b {kd mo s : Int} (hs : 0 ≤ s ∧ s ≤ 99) (hm : 0 ≤ mo ∧ mo ≤ 9) : 0 ≤ likeS kd mo s ∧ likeS kd mo s ≤ 99 := by
  unfold likeS; split <;> (try split) <;> omega
theorem chapS_b {o : Int} (h : -99 ≤ o ∧ o ≤ 99) : 0 ≤ chapS o ∧ chapS o ≤ 99 := by
  unfold chapS; split <;> omega
theorem mindS_b {kd mo o : Int} (h : -99 ≤ o ∧ o ≤ 99) (hm : 0 ≤ mo ∧ mo ≤ 9) : -9 ≤ mindS kd mo o ∧ mindS kd mo o ≤ 198 := by
  have := chapS_b h
  unfold mindS; split <;> (try split) <;> (try split) <;> (try split) <;> (try split) <;> omega
theorem waitS_b {kd mo s h su : Int} (hs : 0 ≤ s ∧ s ≤ 20) (hm : 0 ≤ mo ∧ mo ≤ 9) : 0 ≤ waitS kd mo s h su ∧ waitS kd mo s h su ≤ 29 := by
  have : 0 ≤ earlS mo s h ∧ earlS mo s h ≤ 29 := by unfold earlS; split <;> omega
  unfold waitS; split <;> (try split) <;> (try split) <;> (try split) <;> (try split) <;> omega
theorem coolS_b (T : TX) (d : Int) : ∀ (w : Nat) (m h : Int), 0 ≤ h ∧ h ≤ 99 → 0 ≤ coolS T d w m h ∧ coolS T d w m h ≤ 99
  | 0, _, _, hb => hb
  | w + 1, m, h, hb => by
    have := sayS_b T 0 h m d 0 0 0
    refine coolS_b T d w (m + 1) _ ?_
    split <;> omega
