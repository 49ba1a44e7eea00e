/-! two ways to read: down from the whole, and by signs held back -/
abbrev Rs : Type := Nat ⊕ (Nat × List Int)
def bnR (r : Rs) (f : Nat → List Int → Rs) : Rs := match r with | .inl a => .inl a | .inr x => f x.1 x.2
theorem bnR_l {a : Nat} {f : Nat → List Int → Rs} : bnR (.inl a) f = .inl a := rfl
theorem bnR_r {x : Nat × List Int} {f : Nat → List Int → Rs} : bnR (.inr x) f = f x.1 x.2 := rfl
def opE (v : Int) : Int := if v = 1003 then -15 else 0
def opB (v : Int) : Int := if v = 1004 then -14 else 0
def opC (v : Int) : Int := if v = 60 then -12 else if v = 61 then -13 else 0
def opA (v : Int) : Int := if v = 43 then -10 else if v = 45 then -11 else 0
def opM (v : Int) : Int := if v = 42 then -9 else 0
def sgS (v : Int) : Int := if v = 1003 then -15 else if v = 1004 then -14 else if v = 60 then -12 else if v = 61 then -13 else if v = 43 then -10 else if v = 45 then -11 else if v = 42 then -9 else 0
def rdL (t : Nat → Int) (e : Nat → Nat) (R : Nat → Nat → Nat → Rs) (sub : Nat) (op : Int → Int) (o : Nat) : Nat → Nat → List Int → Rs
  | 0, q, cs => .inr (q, cs)
  | k + 1, q, cs => if op (t q) = 0 then .inr (q, cs) else bnR (R sub o (e q)) fun q2 c2 => rdL t e R sub op o k q2 (cs ++ c2 ++ [op (t q)])
def rdO (t n : Nat → Int) (g e : Nat → Nat) (R : Nat → Nat → Nat → Rs) (o q : Nat) : Rs := if t q = 2 then .inr (e q, [n q]) else if t q < 1006 then (if t q = 45 ∧ o < 5 then (bnR (R 6 (o + 1) (e q)) fun q2 c2 => .inr (q2, c2 ++ [-7])) else if t q = 40 ∧ o < 5 then (bnR (R 0 (o + 1) (e q)) fun q2 c2 => if t q2 = 41 then .inr (e q2, c2) else .inl (g q2)) else .inl (g q)) else .inr (e q, [-1 - (t q - 1006)])
def rdZ (t n : Nat → Int) (g e : Nat → Nat) : Nat → Nat → Nat → Nat → Rs
  | 0, _, _, _ => .inl 0
  | d + 1, tag, o, q => if tag = 0 then (bnR (rdZ t n g e d 1 o q) fun q1 c1 => rdL t e (fun a b c => rdZ t n g e d a b c) 1 opE o 160 q1 c1) else if tag = 1 then (bnR (rdZ t n g e d 2 o q) fun q1 c1 => rdL t e (fun a b c => rdZ t n g e d a b c) 2 opB o 160 q1 c1) else if tag = 2 then (if t q = 1005 then (if o < 5 then (bnR (rdZ t n g e d 2 (o + 1) (e q)) fun q1 c1 => .inr (q1, c1 ++ [-8])) else .inl (g q)) else rdZ t n g e d 3 o q) else if tag = 3 then (bnR (rdZ t n g e d 4 o q) fun q1 c1 => if opC (t q1) = 0 then .inr (q1, c1) else bnR (rdZ t n g e d 4 o (e q1)) fun q2 c2 => .inr (q2, c1 ++ c2 ++ [opC (t q1)])) else if tag = 4 then (bnR (rdZ t n g e d 5 o q) fun q1 c1 => rdL t e (fun a b c => rdZ t n g e d a b c) 5 opA o 160 q1 c1) else if tag = 5 then (bnR (rdZ t n g e d 6 o q) fun q1 c1 => rdL t e (fun a b c => rdZ t n g e d a b c) 6 opM o 160 q1 c1) else rdO t n g e (fun a b c => rdZ t n g e d a b c) o q
def rkS (c : Int) : Nat := if c = 0 then 0 else if c = -15 then 1 else if c = -14 then 2 else if c = -8 then 3 else if c = -12 ∨ c = -13 then 4 else if c = -10 ∨ c = -11 then 5 else if c = -9 then 6 else 7
def hdR : List Int → Nat
  | [] => 0
  | s :: _ => rkS s
theorem hdR_c {s : Int} {S : List Int} : hdR (s :: S) = rkS s := rfl
def unS (r : Nat) : List Int → List Int → List Int × List Int
  | [], out => ([], out)
  | s :: S, out => if r ≤ rkS s then unS r S (out ++ [s]) else (s :: S, out)
def opnS : List Int → Nat
  | [] => 0
  | s :: S => opnS S + (if s = 0 ∨ s = -7 ∨ s = -8 then 1 else 0)
def clsS (t : Nat → Int) (g : Nat → Nat) (R : List Int → List Int → Rs) (q : Nat) (Z : List Int × List Int) : Rs := match Z.1 with | [] => .inl (g q) | _ :: S0 => R (unS 7 S0 Z.2).1 (unS 7 S0 Z.2).2
def sy (t n : Nat → Int) (g e : Nat → Nat) : Nat → Bool → Bool → List Int → List Int → Nat → Rs
  | 0, _, _, _, _, _ => .inl 0
  | k + 1, w, mn, S, out, q => if w = true then (if t q = 2 then sy t n g e k false mn (unS 7 S (out ++ [n q])).1 (unS 7 S (out ++ [n q])).2 (e q) else if 1006 ≤ t q then sy t n g e k false mn (unS 7 S (out ++ [-1 - (t q - 1006)])).1 (unS 7 S (out ++ [-1 - (t q - 1006)])).2 (e q) else if t q = 1005 ∧ mn = true then (if opnS S = 5 then .inl (g q) else sy t n g e k true mn (-8 :: S) out (e q)) else if t q = 45 then (if opnS S = 5 then .inl (g q) else sy t n g e k true false (-7 :: S) out (e q)) else if t q = 40 then (if opnS S = 5 then .inl (g q) else sy t n g e k true true (0 :: S) out (e q)) else .inl (g q)) else if t q = 59 then (if (unS 1 S out).1 = [] then .inr (e q, (unS 1 S out).2) else .inl (g q)) else if t q = 41 then clsS t g (fun S2 o2 => sy t n g e k false mn S2 o2 (e q)) q (unS 1 S out) else if sgS (t q) = 0 then .inl (g q) else if rkS (sgS (t q)) = 4 ∧ hdR (unS 5 S out).1 = 4 then .inl (g q) else sy t n g e k true (decide (rkS (sgS (t q)) ≤ 2)) (sgS (t q) :: (unS (if rkS (sgS (t q)) = 4 then 5 else rkS (sgS (t q))) S out).1) (unS (if rkS (sgS (t q)) = 4 then 5 else rkS (sgS (t q))) S out).2 (e q)
theorem un_id {r : Nat} {S out : List Int} (h : hdR S < r) : unS r S out = (S, out) := by
  cases S with
  | nil => rfl
  | cons s S => rw [hdR_c] at h; unfold unS; rw [if_neg (by omega)]
theorem un_pop {r : Nat} {s : Int} {S out : List Int} (h : r ≤ rkS s) : unS r (s :: S) out = unS r S (out ++ [s]) := by
  rw [unS, if_pos h]
theorem un_un {r r2 : Nat} (h : r ≤ r2) : ∀ (S out : List Int), unS r (unS r2 S out).1 (unS r2 S out).2 = unS r S out
  | [], out => rfl
  | s :: S, out => by
    by_cases q : r2 ≤ rkS s
    · rw [un_pop q, un_un h S (out ++ [s]), un_pop (Nat.le_trans h q)]
    · rw [un_id (r := r2) (by rw [hdR_c]; omega)]
theorem un_to {r r2 : Nat} (h : r ≤ r2) {Z W : List Int × List Int} (e : unS r2 Z.1 Z.2 = unS r2 W.1 W.2) : unS r Z.1 Z.2 = unS r W.1 W.2 := by
  rw [← un_un h Z.1 Z.2, e, un_un h]
/-- what must stand on top as a part begins -/
def preS (tag : Nat) (S : List Int) : Prop := (tag = 0 → hdR S < 1) ∧ (tag = 1 → hdR S < 2) ∧ (tag = 2 ∨ tag = 3 → hdR S < 4) ∧ (tag = 4 → hdR S < 5) ∧ (tag = 5 → hdR S < 6)
/-- what can't follow -/
def folS (t : Nat → Int) (tag q : Nat) (Z : List Int × List Int) : Prop := (tag ≤ 5 → t q ≠ 42) ∧ (tag ≤ 4 → t q ≠ 43 ∧ t q ≠ 45) ∧ (tag ≤ 3 → t q = 60 ∨ t q = 61 → hdR (unS 5 Z.1 Z.2).1 = 4) ∧ (tag ≤ 1 → t q ≠ 1004) ∧ (tag = 0 → t q ≠ 1003)
def rsP (t n : Nat → Int) (g e : Nat → Nat) (tl tag q : Nat) (S out : List Int) (v : Rs) : Rs → Prop
  | .inl f => v = .inl f
  | .inr x => (q < x.1 ∧ x.1 ≤ tl ∧ x.2.length + q ≤ x.1 ∧ wfp x.2) ∧ ∃ (Z : List Int × List Int) (k : Nat) (mn : Bool), v = sy t n g e k false mn Z.1 Z.2 x.1 ∧ tl < k + x.1 ∧ unS (tag + 1) Z.1 Z.2 = unS (tag + 1) S (out ++ x.2) ∧ folS t tag x.1 Z
theorem dep_a : ∀ (a b : List Int) (d : Nat), dep (a ++ b) d = (dep a d).bind (dep b)
  | [], b, d => rfl
  | c :: a, b, d => by
    show ((dp1 c d).bind (dep (a ++ b))) = ((dp1 c d).bind (dep a)).bind (dep b)
    cases dp1 c d with
    | none => rfl
    | some d1 => exact dep_a a b d1
theorem wf_1 {c : Int} (h : -6 ≤ c ∧ c ≤ 9999) : wfp [c] := by
  refine ⟨fun x hx => ?_, fun d => ?_⟩
  · rw [List.mem_singleton.mp hx]; omega
  · show (dp1 c d).bind (dep []) = _
    unfold dp1; rw [if_pos h.1]; rfl
theorem wf_u {cs : List Int} (h : wfp cs) {c : Int} (hc : c = -7 ∨ c = -8) : wfp (cs ++ [c]) := by
  refine ⟨fun x hx => ?_, fun d => ?_⟩
  · rcases List.mem_append.mp hx with q | q
    · exact h.1 x q
    · rw [List.mem_singleton.mp q]; omega
  · rw [dep_a, h.2 d]
    show (dp1 c (d + 1)).bind (dep []) = _
    unfold dp1; rw [if_neg (by omega), if_pos (by omega), if_pos (by omega)]; rfl
theorem wf_b {a b : List Int} (h : wfp a) (h2 : wfp b) {c : Int} (hc : -15 ≤ c ∧ c ≤ -9) : wfp (a ++ b ++ [c]) := by
  refine ⟨fun x hx => ?_, fun d => ?_⟩
  · rcases List.mem_append.mp hx with q | q
    · rcases List.mem_append.mp q with q | q
      · exact h.1 x q
      · exact h2.1 x q
    · rw [List.mem_singleton.mp q]; omega
  · rw [dep_a, dep_a, h.2 d]
    show ((dep b (d + 1)).bind (dep [c])) = _
    rw [h2.2 (d + 1)]
    show (dp1 c (d + 1 + 1)).bind (dep []) = _
    unfold dp1; rw [if_neg (by omega), if_neg (by omega), if_pos (by omega)]; rfl
/-- a scanner: its tokens, their numbers, where they begin, where they end -/
def scnr (t n : Nat → Int) (e : Nat → Nat) (tl : Nat) : Prop := tl ≤ 160 ∧ (∀ q, q ≤ tl → e q ≤ tl ∧ (t q ≠ 0 → q < e q)) ∧ (∀ q, q ≤ tl → t q = 2 → 0 ≤ n q ∧ n q ≤ 9999) ∧ ∀ q, q ≤ tl → t q < 1012
theorem sg_E {v : Int} (h : opE v ≠ 0) : sgS v = opE v ∧ v ≠ 59 ∧ v ≠ 41 ∧ v ≠ 0 ∧ rkS (opE v) = 1 ∧ -15 ≤ opE v ∧ opE v ≤ -9 := by
  have : v = 1003 := by
    unfold opE at h; split at h
    · assumption
    · exact absurd rfl h
  subst this; decide
theorem sg_B {v : Int} (h : opB v ≠ 0) : sgS v = opB v ∧ v ≠ 59 ∧ v ≠ 41 ∧ v ≠ 0 ∧ rkS (opB v) = 2 ∧ -15 ≤ opB v ∧ opB v ≤ -9 := by
  have : v = 1004 := by
    unfold opB at h; split at h
    · assumption
    · exact absurd rfl h
  subst this; decide
theorem sg_C {v : Int} (h : opC v ≠ 0) : sgS v = opC v ∧ v ≠ 59 ∧ v ≠ 41 ∧ v ≠ 0 ∧ rkS (opC v) = 4 ∧ -15 ≤ opC v ∧ opC v ≤ -9 := by
  have : v = 60 ∨ v = 61 := by
    unfold opC at h; split at h
    · left; assumption
    · split at h
      · right; assumption
      · exact absurd rfl h
  rcases this with rfl | rfl <;> decide
theorem sg_A {v : Int} (h : opA v ≠ 0) : sgS v = opA v ∧ v ≠ 59 ∧ v ≠ 41 ∧ v ≠ 0 ∧ rkS (opA v) = 5 ∧ -15 ≤ opA v ∧ opA v ≤ -9 := by
  have : v = 43 ∨ v = 45 := by
    unfold opA at h; split at h
    · left; assumption
    · split at h
      · right; assumption
      · exact absurd rfl h
  rcases this with rfl | rfl <;> decide
theorem sg_M {v : Int} (h : opM v ≠ 0) : sgS v = opM v ∧ v ≠ 59 ∧ v ≠ 41 ∧ v ≠ 0 ∧ rkS (opM v) = 6 ∧ -15 ≤ opM v ∧ opM v ≤ -9 := by
  have : v = 42 := by
    unfold opM at h; split at h
    · assumption
    · exact absurd rfl h
  subst this; decide
theorem op_n {S : List Int} {c : Int} (h : -15 ≤ c ∧ c ≤ -9) : opnS (c :: S) = opnS S := by
  unfold opnS; rw [if_neg (by omega)]
  cases S <;> rfl
section
variable {t n : Nat → Int} {g e : Nat → Nat} {tl : Nat}
theorem rs_L (hs : scnr t n e tl) {d o sub : Nat} {op : Int → Int} {S out : List Int} {q0 : Nat} (hop : ∀ v, op v ≠ 0 → sgS v = op v ∧ v ≠ 59 ∧ v ≠ 41 ∧ v ≠ 0 ∧ rkS (op v) = sub ∧ -15 ≤ op v ∧ op v ≤ -9) (hfol : ∀ q Z, op (t q) = 0 → folS t sub q Z → folS t (sub - 1) q Z) (h4 : 1 ≤ sub ∧ sub ≠ 4) (ho : opnS S = o) (hS : hdR S < sub) (hpre : ∀ c : Int, rkS c = sub → preS sub (c :: S))
    (IH : ∀ (q : Nat) (S out : List Int) (k : Nat) (mn : Bool), opnS S = o → q ≤ tl → tl < k + q → preS sub S → (sub ≤ 2 → mn = true) → (3 ≤ sub → mn = false ∨ t q ≠ 1005) → rsP t n g e tl sub q S out (sy t n g e k true mn S out q) (rdZ t n g e d sub o q)) {v : Rs} : ∀ (kl q1 : Nat) (cs : List Int) (Z : List Int × List Int) (k : Nat) (mn : Bool), tl < kl + q1 → (q0 < q1 ∧ q1 ≤ tl ∧ cs.length + q0 ≤ q1 ∧ wfp cs) → v = sy t n g e k false mn Z.1 Z.2 q1 → tl < k + q1 → unS sub Z.1 Z.2 = (S, out ++ cs) → folS t sub q1 Z → rsP t n g e tl (sub - 1) q0 S out v (rdL t e (fun a b c => rdZ t n g e d a b c) sub op o kl q1 cs) := by
  intro kl
  induction kl with
  | zero => intro q1 cs Z k mn h1 h2 _ _ _ _; omega
  | succ kl ih =>
    intro q1 cs Z k mn hk hq hv hkq hZ hf
    rw [rdL]
    by_cases h0 : op (t q1) = 0
    · rw [if_pos h0]
      refine ⟨hq, Z, k, mn, hv, hkq, ?_, hfol q1 Z h0 hf⟩
      rw [show sub - 1 + 1 = sub by omega, hZ, un_id hS]
    · rw [if_neg h0]
      obtain ⟨k1, k2, k3, k4, k5, k6⟩ := hop _ h0
      have eb := hs.2.1 q1 hq.2.1
      have ek := eb.2 k4
      obtain ⟨k, rfl⟩ : ∃ j, k = j + 1 := ⟨k - 1, by omega⟩
      have hv2 : v = sy t n g e k true (decide (sub ≤ 2)) (op (t q1) :: S) (out ++ cs) (e q1) := by
        rw [hv, sy, if_neg (by decide), if_neg k2, if_neg k3, if_neg (by rw [k1]; exact h0), k1, k5, if_neg (fun q => h4.2 q.1), if_neg h4.2, hZ]
      have r := IH (e q1) (op (t q1) :: S) (out ++ cs) k (decide (sub ≤ 2)) (by rw [op_n k6]; exact ho) eb.1 (by omega) (hpre _ k5) (fun q => decide_eq_true q) (fun q => Or.inl (decide_eq_false (by omega)))
      rw [← hv2] at r
      cases hr : rdZ t n g e d sub o (e q1) with
      | inl f =>
        rw [hr] at r
        exact r
      | inr x =>
        rw [hr] at r
        obtain ⟨⟨b1, b2, b3, b4⟩, Z', k', mn', r1, r2, r3, r4⟩ := r
        refine ih x.1 (cs ++ x.2 ++ [op (t q1)]) Z' k' mn' (by omega) ⟨by omega, b2, by rw [List.length_append, List.length_append, List.length_singleton]; omega, wf_b hq.2.2.2 b4 k6⟩ r1 r2 ?_ r4
        have u := un_to (r := sub) (r2 := sub + 1) (by omega) (Z := Z') (W := (op (t q1) :: S, out ++ cs ++ x.2)) r3
        rw [u]
        show unS sub (op (t q1) :: S) (out ++ cs ++ x.2) = _
        rw [un_pop (by omega), un_id hS]
        simp only [List.append_assoc]
theorem rs_all (hs : scnr t n e tl) : ∀ (d tag o q : Nat) (S out : List Int) (k : Nat) (mn : Bool), tag ≤ 6 → o ≤ 5 → 7 * (5 - o) + (7 - tag) ≤ d → opnS S = o → q ≤ tl → tl < k + q → preS tag S → (tag ≤ 2 → mn = true) → (3 ≤ tag → mn = false ∨ t q ≠ 1005) → rsP t n g e tl tag q S out (sy t n g e k true mn S out q) (rdZ t n g e d tag o q) := by
  intro d
  induction d with
  | zero => intro tag o q S out k mn h1 h2 h3; omega
  | succ d ih =>
    intro tag o q S out k mn ht ho hd hS hq hk hp hm hn
    have loop : ∀ (sub : Nat) (op : Int → Int), sub = tag + 1 → (∀ v, op v ≠ 0 → sgS v = op v ∧ v ≠ 59 ∧ v ≠ 41 ∧ v ≠ 0 ∧ rkS (op v) = sub ∧ -15 ≤ op v ∧ op v ≤ -9) → (∀ q Z, op (t q) = 0 → folS t sub q Z → folS t (sub - 1) q Z) → sub ≤ 6 → sub ≠ 4 → hdR S < sub → preS sub S → (∀ c : Int, rkS c = sub → preS sub (c :: S)) → (sub ≤ 2 → mn = true) → (3 ≤ sub → mn = false ∨ t q ≠ 1005) → rsP t n g e tl tag q S out (sy t n g e k true mn S out q) (bnR (rdZ t n g e d sub o q) fun q1 c1 => rdL t e (fun a b c => rdZ t n g e d a b c) sub op o 160 q1 c1) := by
      intro sub op es hop hfol h6 h4 hhd hps hpc hm2 hn2
      have r := ih sub o q S out k mn h6 ho (by omega) hS hq hk hps hm2 hn2
      cases hr : rdZ t n g e d sub o q with
      | inl f => rw [hr] at r; exact r
      | inr x =>
        rw [hr] at r
        obtain ⟨⟨b1, b2, b3, b4⟩, Z', k', mn', r1, r2, r3, r4⟩ := r
        rw [bnR_r]
        have u := un_to (r := sub) (r2 := sub + 1) (by omega) (Z := Z') (W := (S, out ++ x.2)) r3
        have u2 : unS sub S (out ++ x.2) = (S, out ++ x.2) := un_id hhd
        have fin := rs_L (g := g) hs hop hfol ⟨by omega, h4⟩ hS hhd hpc (fun q' S' o' k' mn' a1 a2 a3 a4 a5 a6 => ih sub o q' S' o' k' mn' h6 ho (by omega) a1 a2 a3 a4 a5 a6) 160 x.1 x.2 Z' k' mn' (by have := hs.1; omega) ⟨b1, b2, b3, b4⟩ r1 r2 (u.trans u2) r4
        rw [show sub - 1 = tag by omega] at fin
        exact fin
    rw [rdZ]
    rcases (show tag = 0 ∨ tag = 1 ∨ tag = 2 ∨ tag = 3 ∨ tag = 4 ∨ tag = 5 ∨ tag = 6 by omega) with rfl | rfl | rfl | rfl | rfl | rfl | rfl
    · rw [if_pos rfl]
      have h := hp.1 rfl
      refine loop 1 opE rfl (fun v hv => sg_E hv) (fun q Z h0 hf => ⟨fun _ => hf.1 (by omega), fun _ => hf.2.1 (by omega), fun _ => hf.2.2.1 (by omega), fun _ => hf.2.2.2.1 (by omega), fun _ w => ?_⟩) (by omega) (by omega) h ⟨fun w => by omega, fun _ => by omega, fun w => by omega, fun w => by omega, fun w => by omega⟩ (fun c hc => ⟨fun w => by omega, fun _ => by rw [hdR_c]; omega, fun w => by omega, fun w => by omega, fun w => by omega⟩) (fun _ => hm (by omega)) (fun w => by omega)
      rw [w] at h0; exact absurd h0 (by decide)
    · rw [if_neg (by omega), if_pos rfl]
      have h := hp.2.1 rfl
      refine loop 2 opB rfl (fun v hv => sg_B hv) (fun q Z h0 hf => ⟨fun _ => hf.1 (by omega), fun _ => hf.2.1 (by omega), fun _ => hf.2.2.1 (by omega), fun _ w => ?_, fun w => by omega⟩) (by omega) (by omega) h ⟨fun w => by omega, fun w => by omega, fun _ => by omega, fun w => by omega, fun w => by omega⟩ (fun c hc => ⟨fun w => by omega, fun w => by omega, fun _ => by rw [hdR_c]; omega, fun w => by omega, fun w => by omega⟩) (fun _ => hm (by omega)) (fun w => by omega)
      rw [w] at h0; exact absurd h0 (by decide)
    · rw [if_neg (by omega), if_neg (by omega), if_pos rfl]
      have h := hp.2.2.1 (Or.inl rfl)
      have hm := hm (by omega)
      subst hm
      by_cases h5 : t q = 1005
      · rw [if_pos h5]
        obtain ⟨k, rfl⟩ : ∃ j, k = j + 1 := ⟨k - 1, by omega⟩
        have eb := hs.2.1 q hq
        have ek := eb.2 (by omega)
        have st : sy t n g e (k + 1) true true S out q = if opnS S = 5 then .inl (g q) else sy t n g e k true true (-8 :: S) out (e q) := by
          rw [sy, if_pos rfl, if_neg (by omega), if_neg (by omega), if_pos ⟨h5, rfl⟩]
        rw [st, hS]
        by_cases ho5 : o < 5
        · rw [if_pos ho5, if_neg (by omega)]
          have r := ih 2 (o + 1) (e q) (-8 :: S) out k true (by omega) (by omega) (by omega) (by rw [opnS, hS]; rfl) eb.1 (by omega) ⟨fun w => by omega, fun w => by omega, fun _ => by show 3 < 4; omega, fun w => by omega, fun w => by omega⟩ (fun _ => rfl) (fun w => by omega)
          cases hr : rdZ t n g e d 2 (o + 1) (e q) with
          | inl f => rw [hr] at r; exact r
          | inr x =>
            rw [hr] at r
            obtain ⟨⟨b1, b2, b3, b4⟩, Z', k', mn', r1, r2, r3, r4⟩ := r
            rw [bnR_r]
            refine ⟨⟨by show q < x.1; omega, b2, by show (x.2 ++ [-8]).length + q ≤ x.1; rw [List.length_append, List.length_singleton]; omega, wf_u b4 (Or.inr rfl)⟩, Z', k', mn', r1, r2, ?_, r4⟩
            rw [r3, un_pop (by decide), List.append_assoc]
        · rw [if_neg ho5, if_pos (by omega)]; rfl
      · rw [if_neg h5]
        have r := ih 3 o q S out k true (by omega) ho (by omega) hS hq hk ⟨fun w => by omega, fun w => by omega, fun _ => h, fun w => by omega, fun w => by omega⟩ (fun _ => rfl) (fun _ => Or.inr h5)
        cases hr : rdZ t n g e d 3 o q with
        | inl f => rw [hr] at r; exact r
        | inr x =>
          rw [hr] at r
          obtain ⟨b, Z', k', mn', r1, r2, r3, r4⟩ := r
          exact ⟨b, Z', k', mn', r1, r2, un_to (r := 3) (r2 := 4) (by omega) (Z := Z') (W := (S, out ++ x.2)) r3, ⟨fun _ => r4.1 (by omega), fun _ => r4.2.1 (by omega), fun _ => r4.2.2.1 (by omega), fun w => by omega, fun w => by omega⟩⟩
    · rw [if_neg (by omega), if_neg (by omega), if_neg (by omega), if_pos rfl]
      have h := hp.2.2.1 (Or.inr rfl)
      have r := ih 4 o q S out k mn (by omega) ho (by omega) hS hq hk ⟨fun w => by omega, fun w => by omega, fun w => by omega, fun _ => by omega, fun w => by omega⟩ (fun w => by omega) (fun _ => hn (by omega))
      cases hr : rdZ t n g e d 4 o q with
      | inl f => rw [hr] at r; exact r
      | inr x =>
        rw [hr] at r
        obtain ⟨⟨b1, b2, b3, b4⟩, Z', k', mn', r1, r2, r3, r4⟩ := r
        rw [bnR_r]
        have u2 : unS 5 S (out ++ x.2) = (S, out ++ x.2) := un_id (by omega)
        by_cases h0 : opC (t x.1) = 0
        · rw [if_pos h0]
          refine ⟨⟨b1, b2, b3, b4⟩, Z', k', mn', r1, r2, un_to (r := 4) (r2 := 5) (by omega) (Z := Z') (W := (S, out ++ x.2)) r3, ⟨fun _ => r4.1 (by omega), fun _ => r4.2.1 (by omega), fun _ w => ?_, fun w => by omega, fun w => by omega⟩⟩
          rcases w with w | w <;> (rw [w] at h0; exact absurd h0 (by decide))
        · rw [if_neg h0]
          obtain ⟨k1, k2, k3, k4, k5, k6⟩ := sg_C h0
          have eb := hs.2.1 x.1 b2
          have ek := eb.2 k4
          obtain ⟨k', rfl⟩ : ∃ j, k' = j + 1 := ⟨k' - 1, by omega⟩
          have hv2 : sy t n g e k true mn S out q = sy t n g e k' true false (opC (t x.1) :: S) (out ++ x.2) (e x.1) := by
            rw [r1, sy, if_neg (by decide), if_neg k2, if_neg k3, if_neg (by rw [k1]; exact h0), k1, k5, if_pos rfl, r3, u2, if_neg (fun q : _ ∧ _ => absurd q.2 (by show ¬ hdR S = 4; omega)), show decide ((4 : Nat) ≤ 2) = false from rfl]
          have r' := ih 4 o (e x.1) (opC (t x.1) :: S) (out ++ x.2) k' false (by omega) ho (by omega) (by rw [op_n k6]; exact hS) eb.1 (by omega) ⟨fun w => by omega, fun w => by omega, fun w => by omega, fun _ => by rw [hdR_c]; omega, fun w => by omega⟩ (fun w => by omega) (fun _ => Or.inl rfl)
          rw [← hv2] at r'
          cases hr2 : rdZ t n g e d 4 o (e x.1) with
          | inl f => rw [hr2] at r'; exact r'
          | inr y =>
            rw [hr2] at r'
            obtain ⟨⟨c1, c2, c3, c4⟩, Y, ky, my, s1, s2, s3, s4⟩ := r'
            rw [bnR_r]
            have w5 : unS 5 Y.1 Y.2 = (opC (t x.1) :: S, out ++ x.2 ++ y.2) := by
              rw [s3, un_id (by rw [hdR_c]; omega)]
            refine ⟨⟨by show q < y.1; omega, c2, by show (x.2 ++ y.2 ++ [opC (t x.1)]).length + q ≤ y.1; rw [List.length_append, List.length_append, List.length_singleton]; omega, wf_b b4 c4 k6⟩, Y, ky, my, s1, s2, ?_, ⟨fun _ => s4.1 (by omega), fun _ => s4.2.1 (by omega), fun _ _ => by rw [w5]; exact k5, fun w => by omega, fun w => by omega⟩⟩
            have u := un_to (r := 4) (r2 := 5) (by omega) (Z := Y) (W := (opC (t x.1) :: S, out ++ x.2 ++ y.2)) s3
            rw [u]
            show unS 4 (opC (t x.1) :: S) (out ++ x.2 ++ y.2) = _
            rw [un_pop (by omega)]
            simp only [List.append_assoc]
    · rw [if_neg (by omega), if_neg (by omega), if_neg (by omega), if_neg (by omega), if_pos rfl]
      have h := hp.2.2.2.1 rfl
      refine loop 5 opA rfl (fun v hv => sg_A hv) (fun q Z h0 hf => ⟨fun _ => hf.1 (by omega), fun _ => ⟨fun w => ?_, fun w => ?_⟩, fun w => by omega, fun w => by omega, fun w => by omega⟩) (by omega) (by omega) h ⟨fun w => by omega, fun w => by omega, fun w => by omega, fun w => by omega, fun _ => by omega⟩ (fun c hc => ⟨fun w => by omega, fun w => by omega, fun w => by omega, fun w => by omega, fun _ => by rw [hdR_c]; omega⟩) (fun w => by omega) (fun _ => hn (by omega))
      · rw [w] at h0; exact absurd h0 (by decide)
      · rw [w] at h0; exact absurd h0 (by decide)
    · rw [if_neg (by omega), if_neg (by omega), if_neg (by omega), if_neg (by omega), if_neg (by omega), if_pos rfl]
      have h := hp.2.2.2.2 rfl
      refine loop 6 opM rfl (fun v hv => sg_M hv) (fun q Z h0 hf => ⟨fun _ w => ?_, fun w => by omega, fun w => by omega, fun w => by omega, fun w => by omega⟩) (by omega) (by omega) h ⟨fun w => by omega, fun w => by omega, fun w => by omega, fun w => by omega, fun w => by omega⟩ (fun c hc => ⟨fun w => by omega, fun w => by omega, fun w => by omega, fun w => by omega, fun w => by omega⟩) (fun w => by omega) (fun _ => hn (by omega))
      rw [w] at h0; exact absurd h0 (by decide)
    · rw [if_neg (by omega), if_neg (by omega), if_neg (by omega), if_neg (by omega), if_neg (by omega), if_neg (by omega), rdO]
      obtain ⟨k, rfl⟩ : ∃ j, k = j + 1 := ⟨k - 1, by omega⟩
      have eb := hs.2.1 q hq
      have f6 : ∀ q Z, folS t 6 q Z := fun q Z => ⟨fun w => by omega, fun w => by omega, fun w => by omega, fun w => by omega, fun w => by omega⟩
      have one : ∀ c : Int, (-6 ≤ c ∧ c ≤ 9999) → t q ≠ 0 → rsP t n g e tl 6 q S out (sy t n g e k false mn (unS 7 S (out ++ [c])).1 (unS 7 S (out ++ [c])).2 (e q)) (.inr (e q, [c])) := by
        intro c hc h0
        have ek := eb.2 h0
        exact ⟨⟨ek, eb.1, by show 1 + q ≤ e q; omega, wf_1 hc⟩, unS 7 S (out ++ [c]), k, mn, rfl, by show tl < k + e q; omega, un_un (Nat.le_refl _) S _, f6 _ _⟩
      by_cases h2 : t q = 2
      · rw [if_pos h2, sy, if_pos rfl, if_pos h2]
        have := hs.2.2.1 q hq h2
        exact one (n q) (by omega) (by omega)
      · rw [if_neg h2]
        by_cases h6 : t q < 1006
        · rw [if_pos h6, sy, if_pos rfl, if_neg h2, if_neg (by omega), if_neg (fun w => by rcases hn (by omega) with z | z; rw [z] at w; exact absurd w.2 (by decide); exact z w.1), hS]
          by_cases h45 : t q = 45
          · have ek := eb.2 (by omega)
            rw [if_pos h45]
            by_cases ho5 : o < 5
            · rw [if_pos (show t q = 45 ∧ o < 5 from ⟨h45, ho5⟩), if_neg (by omega)]
              have r := ih 6 (o + 1) (e q) (-7 :: S) out k false (by omega) (by omega) (by omega) (by rw [opnS, hS]; rfl) eb.1 (by omega) ⟨fun w => by omega, fun w => by omega, fun w => by omega, fun w => by omega, fun w => by omega⟩ (fun w => by omega) (fun _ => Or.inl rfl)
              cases hr : rdZ t n g e d 6 (o + 1) (e q) with
              | inl f => rw [hr] at r; exact r
              | inr x =>
                rw [hr] at r
                obtain ⟨⟨b1, b2, b3, b4⟩, Z', k', mn', r1, r2, r3, r4⟩ := r
                rw [bnR_r]
                refine ⟨⟨by show q < x.1; omega, b2, by show (x.2 ++ [-7]).length + q ≤ x.1; rw [List.length_append, List.length_singleton]; omega, wf_u b4 (Or.inl rfl)⟩, Z', k', mn', r1, r2, ?_, f6 _ _⟩
                rw [r3, un_pop (by decide), List.append_assoc]
            · rw [if_neg (fun w : t q = 45 ∧ o < 5 => ho5 w.2), if_neg (fun w : t q = 40 ∧ o < 5 => by omega), if_pos (show o = 5 by omega)]; rfl
          · rw [if_neg h45, if_neg (fun w : t q = 45 ∧ o < 5 => h45 w.1)]
            by_cases h40 : t q = 40
            · have ek := eb.2 (by omega)
              rw [if_pos h40]
              by_cases ho5 : o < 5
              · rw [if_pos (show t q = 40 ∧ o < 5 from ⟨h40, ho5⟩), if_neg (by omega)]
                have r := ih 0 (o + 1) (e q) (0 :: S) out k true (by omega) (by omega) (by omega) (by rw [opnS, hS]; rfl) eb.1 (by omega) ⟨fun _ => by show 0 < 1; omega, fun w => by omega, fun w => by omega, fun w => by omega, fun w => by omega⟩ (fun _ => rfl) (fun w => by omega)
                cases hr : rdZ t n g e d 0 (o + 1) (e q) with
                | inl f => rw [hr] at r; exact r
                | inr x =>
                  rw [hr] at r
                  obtain ⟨⟨b1, b2, b3, b4⟩, Z', k', mn', r1, r2, r3, r4⟩ := r
                  rw [bnR_r, r1]
                  have u1 : unS 1 Z'.1 Z'.2 = (0 :: S, out ++ x.2) := by rw [r3, un_id (by show 0 < 0 + 1; omega)]
                  obtain ⟨k', rfl⟩ : ∃ j, k' = j + 1 := ⟨k' - 1, by omega⟩
                  have eb2 := hs.2.1 x.1 b2
                  by_cases h41 : t x.1 = 41
                  · have ek2 := eb2.2 (by omega)
                    rw [if_pos h41, sy, if_neg (by decide), if_neg (by omega), if_pos h41, u1]
                    exact ⟨⟨by show q < e x.1; omega, eb2.1, by show x.2.length + q ≤ e x.1; omega, b4⟩, unS 7 S (out ++ x.2), k', mn', rfl, by show tl < k' + e x.1; omega, un_un (Nat.le_refl _) S _, f6 _ _⟩
                  · rw [if_neg h41, sy, if_neg (by decide), if_neg h41, u1]
                    show (if t x.1 = 59 then (if (0 :: S : List Int) = [] then .inr (e x.1, out ++ x.2) else .inl (g x.1)) else _) = Sum.inl (g x.1)
                    by_cases h59 : t x.1 = 59
                    · rw [if_pos h59, if_neg (by simp)]
                    · rw [if_neg h59]
                      by_cases hsg : sgS (t x.1) = 0
                      · rw [if_pos hsg]
                      · rw [if_neg hsg]
                        have v1 := r4.1 (by omega)
                        have v2 := r4.2.1 (by omega)
                        have v3 := r4.2.2.2.1 (by omega)
                        have v4 := r4.2.2.2.2 rfl
                        have v6 : t x.1 = 60 ∨ t x.1 = 61 := by
                          unfold sgS at hsg
                          rw [if_neg v4, if_neg v3, if_neg v2.1, if_neg v2.2, if_neg v1] at hsg
                          by_cases z : t x.1 = 60
                          · exact Or.inl z
                          · rw [if_neg z] at hsg
                            by_cases z2 : t x.1 = 61
                            · exact Or.inr z2
                            · rw [if_neg z2] at hsg; exact absurd rfl hsg
                        have v7 := r4.2.2.1 (by omega) v6
                        rw [if_pos ⟨by rcases v6 with z | z <;> rw [z] <;> decide, v7⟩]
              · rw [if_neg (fun w : t q = 40 ∧ o < 5 => ho5 w.2), if_pos (show o = 5 by omega)]; rfl
            · rw [if_neg h40, if_neg (fun w : t q = 40 ∧ o < 5 => h40 w.1)]; rfl
        · rw [if_neg h6, sy, if_pos rfl, if_neg h2, if_pos (by omega)]
          have := hs.2.2.2 q hq
          exact one (-1 - (t q - 1006)) (by omega) (by omega)
end
