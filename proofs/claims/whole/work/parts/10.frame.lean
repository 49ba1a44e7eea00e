/-! THE FRAME OF ALL WALKS: a world is numbered cells; what they hold is one function of cell and place -/
abbrev Sg : Type := Nat → Nat → Int32
abbrev Kd : Type := Nat ⊕ ((Nat × List (Option Nat)) ⊕ (ClassId × Nat × (Nat → Option Nat)))
abbrev GW : Type := va_G × (Nat → Nat) × (Nat → Kd) × Nat × ClassId × List (ClassId × FieldType) × (Nat → Nat) × (Nat → Nat)
def gD (G : GW) : va_G := G.1
def gAd (G : GW) : Nat → Nat := G.2.1
def gKd (G : GW) : Nat → Kd := G.2.2.1
def gN (G : GW) : Nat := G.2.2.2.1
def gI (G : GW) : ClassId := G.2.2.2.2.1
def gTys (G : GW) : List (ClassId × FieldType) := G.2.2.2.2.2.1
def gSK (G : GW) : Nat → Nat := G.2.2.2.2.2.2.1
def gSV (G : GW) : Nat → Nat := G.2.2.2.2.2.2.2
def st (σ : Sg) (k j : Nat) (v : Int32) : Sg := fun a b => if a = k then (if b = j then v else σ a b) else σ a b
theorem st_row (σ : Sg) (k j : Nat) (v : Int32) : st σ k j v k = upd (σ k) j v := by funext b; simp [st, upd]
theorem st_ne (σ : Sg) {k a : Nat} (j : Nat) (v : Int32) (h : a ≠ k) : st σ k j v a = σ a := by funext b; simp [st, h]
def layV (ad : Nat → Nat) (k : Nat) (f : Nat → Int32) : Nat → List (Option Nat) → List Value
  | _, [] => []
  | j, none :: t => .int (f j) :: layV ad k f (j + 1) t
  | j, some o :: t => .ref (ad (k + o)) :: layV ad k f (j + 1) t
theorem layV_len (ad : Nat → Nat) (k : Nat) (f : Nat → Int32) : ∀ (lay : List (Option Nat)) (j : Nat), (layV ad k f j lay).length = lay.length
  | [], _ => rfl
  | none :: t, j => by simp [layV, layV_len ad k f t]
  | some o :: t, j => by simp [layV, layV_len ad k f t]
theorem layV_congr (ad : Nat → Nat) (k : Nat) {f g : Nat → Int32} : ∀ (lay : List (Option Nat)) (j : Nat), (∀ i, j ≤ i → f i = g i) → layV ad k f j lay = layV ad k g j lay
  | [], _, _ => rfl
  | none :: t, j, h => by rw [layV, layV, h j (Nat.le_refl j), layV_congr ad k t (j + 1) (fun i hi => h i (by omega))]
  | some o :: t, j, h => by rw [layV, layV, layV_congr ad k t (j + 1) (fun i hi => h i (by omega))]
theorem layV_i (ad : Nat → Nat) (k : Nat) (f : Nat → Int32) : ∀ (lay : List (Option Nat)) (j0 j : Nat), lay[j]? = some none → (layV ad k f j0 lay)[j]? = some (.int (f (j0 + j)))
  | [], _, _, h => by simp at h
  | none :: t, j0, 0, _ => rfl
  | some o :: t, j0, 0, h => by simp at h
  | none :: t, j0, j + 1, h => by
    have := layV_i ad k f t (j0 + 1) j (by simpa using h)
    rw [layV, List.getElem?_cons_succ, this, Nat.add_right_comm, Nat.add_assoc]
  | some o :: t, j0, j + 1, h => by
    have := layV_i ad k f t (j0 + 1) j (by simpa using h)
    rw [layV, List.getElem?_cons_succ, this, Nat.add_right_comm, Nat.add_assoc]
theorem layV_r (ad : Nat → Nat) (k : Nat) (f : Nat → Int32) {o : Nat} : ∀ (lay : List (Option Nat)) (j0 j : Nat), lay[j]? = some (some o) → (layV ad k f j0 lay)[j]? = some (.ref (ad (k + o)))
  | [], _, _, h => by simp at h
  | none :: t, j0, 0, h => by simp at h
  | some o2 :: t, j0, 0, h => by simp at h; subst h; rfl
  | none :: t, j0, j + 1, h => by rw [layV, List.getElem?_cons_succ]; exact layV_r ad k f t (j0 + 1) j (by simpa using h)
  | some o2 :: t, j0, j + 1, h => by rw [layV, List.getElem?_cons_succ]; exact layV_r ad k f t (j0 + 1) j (by simpa using h)
theorem layV_set (ad : Nat → Nat) (k : Nat) (f : Nat → Int32) (v : Int32) : ∀ (lay : List (Option Nat)) (j0 j : Nat), lay[j]? = some none → (layV ad k f j0 lay).set j (.int v) = layV ad k (upd f (j0 + j) v) j0 lay
  | [], _, _, h => by simp at h
  | none :: t, j0, 0, _ => by
    rw [layV, layV, List.set_cons_zero]
    rw [layV_congr ad k (f := f) (g := upd f (j0 + 0) v) t (j0 + 1) (fun i hi => by simp [upd]; intro h; omega)]
    simp [upd]
  | some o :: t, j0, 0, h => by simp at h
  | none :: t, j0, j + 1, h => by
    rw [layV, layV, List.set_cons_succ, layV_set ad k f v t (j0 + 1) j (by simpa using h), show j0 + 1 + j = j0 + (j + 1) by omega]
    congr 1
    simp [upd]
  | some o :: t, j0, j + 1, h => by
    rw [layV, layV, List.set_cons_succ, layV_set ad k f v t (j0 + 1) j (by simpa using h), show j0 + 1 + j = j0 + (j + 1) by omega]
def wcell (G : GW) (k : Nat) (f : Nat → Int32) : va_E := match gKd G k with
  | .inl n => .inl (gI G, n, .inl f)
  | .inr (.inl q) => .inr (q.1, layV (gAd G) k f 0 q.2)
  | .inr (.inr q) => .inl (q.1, q.2.1, .inr (.inr (.inr (.inr (fun j => (q.2.2 j).map (gAd G))))))
def wld (G : GW) (σ : Sg) : va_W := (List.range (gN G)).map fun k => (gAd G k, wcell G k (σ k))
theorem wld_len (G : GW) (σ : Sg) : (wld G σ).length = gN G := by simp [wld]
theorem wld_get {G : GW} {k : Nat} (σ : Sg) (h : k < gN G) : (wld G σ)[k]? = some (gAd G k, wcell G k (σ k)) := by simp [wld, h]
theorem wld_inv {G : GW} {k : Nat} {σ : Sg} {q : Nat × va_E} (h : (wld G σ)[k]? = some q) : k < gN G ∧ q = (gAd G k, wcell G k (σ k)) := by
  have hk : k < gN G := by rw [← wld_len G σ]; exact (List.getElem?_eq_some_iff.mp h).1
  rw [wld_get σ hk] at h
  exact ⟨hk, (Option.some.inj h).symm⟩
theorem wld_set {G : GW} (σ : Sg) (k j : Nat) (v : Int32) : (wld G σ).set k (gAd G k, wcell G k (upd (σ k) j v)) = wld G (st σ k j v) := by
  apply List.ext_getElem?
  intro i
  by_cases hik : k = i
  · subst hik
    by_cases hk : k < gN G
    · rw [List.getElem?_set_self (by rw [wld_len]; exact hk), wld_get _ hk, st_row]
    · rw [List.getElem?_eq_none (by rw [List.length_set, wld_len]; omega), List.getElem?_eq_none (by rw [wld_len]; omega)]
  · rw [List.getElem?_set_ne hik]
    by_cases hi : i < gN G
    · rw [wld_get _ hi, wld_get _ hi, st_ne σ j v (fun h => hik h.symm)]
    · rw [List.getElem?_eq_none (by rw [wld_len]; omega), List.getElem?_eq_none (by rw [wld_len]; omega)]
def gA (G : GW) (sz : Nat) : Nat → Prop := fun q => (∃ k, k < gN G ∧ q = gAd G k) ∨ sz ≤ q
theorem wld_D {G : GW} {σ σ' : Sg} {A B : Nat → Prop} (h : va_D A (wld G σ)) (hB : ∀ k, k < gN G → A (gAd G k) → B (gAd G k)) : va_D B (wld G σ') := by
  refine ⟨fun i j p q hi hj hpq => ?_, fun k q hk => ?_⟩
  · obtain ⟨hi1, rfl⟩ := wld_inv hi
    obtain ⟨hj1, rfl⟩ := wld_inv hj
    exact h.1 i j _ _ (wld_get σ hi1) (wld_get σ hj1) hpq
  · obtain ⟨hk1, rfl⟩ := wld_inv hk
    exact hB k hk1 (h.2 k _ (wld_get σ hk1))
def nestFs : List (String × Nat × String × String × String × String) := [
  ("SoupByRank", 71, "SoupByRank$Court", "many", "I", "SoupByRank"),
  ("SoupByRank$Evening", 75, "SoupByRank$Court", "many", "I", "SoupByRank"),
  ("SoupByRank", 74, "SoupByRank$Court", "supper", "I", "SoupByRank"),
  ("SoupByRank$Evening", 98, "SoupByRank$Court", "supper", "I", "SoupByRank"),
  ("SoupByRank$Evening", 49, "SoupByRank$Court", "heat", "I", "SoupByRank"),
  ("SoupByRank", 77, "SoupByRank$Court", "heat", "I", "SoupByRank"),
  ("SoupByRank", 80, "SoupByRank$Court", "law", "I", "SoupByRank"),
  ("SoupByRank$Evening", 78, "SoupByRank$Court", "away", "I", "SoupByRank"),
  ("SoupByRank", 205, "SoupByRank$Court", "away", "I", "SoupByRank"),
  ("SoupByRank$Evening", 85, "SoupByRank$Court", "kinds", "[I", "SoupByRank"),
  ("SoupByRank", 135, "SoupByRank$Court", "kinds", "[I", "SoupByRank"),
  ("SoupByRank$Evening", 88, "SoupByRank$Court", "mores", "[I", "SoupByRank"),
  ("SoupByRank", 138, "SoupByRank$Court", "mores", "[I", "SoupByRank"),
  ("SoupByRank$Evening", 105, "SoupByRank$Court", "ranks", "[I", "SoupByRank"),
  ("SoupByRank", 129, "SoupByRank$Court", "ranks", "[I", "SoupByRank"),
  ("SoupByRank$Evening", 108, "SoupByRank$Court", "moods", "[I", "SoupByRank"),
  ("SoupByRank", 132, "SoupByRank$Court", "moods", "[I", "SoupByRank"),
  ("SoupByRank", 145, "SoupByRank$Evening", "down", "[I", "SoupByRank"),
  ("SoupByRank", 148, "SoupByRank$Evening", "begins", "[I", "SoupByRank"),
  ("SoupByRank", 151, "SoupByRank$Evening", "gets", "[I", "SoupByRank"),
  ("SoupByRank", 157, "SoupByRank$Evening", "off", "[I", "SoupByRank"),
  ("SoupByRank", 160, "SoupByRank$Evening", "minds", "[I", "SoupByRank"),
  ("SoupByRank", 218, "SoupByRank$Evening", "begun", "I", "SoupByRank"),
  ("SoupByRank", 169, "SoupByRank$Evening", "together", "I", "SoupByRank"),
  ("SoupByRank", 83, "SoupByRank$Tape", "size", "I", "SoupByRank"),
  ("SoupByRank", 263, "SoupByRank$Sheet", "sort", "I", "SoupByRank"),
  ("SoupByRank", 285, "SoupByRank$Sheet", "size", "I", "SoupByRank"),
  ("SoupByRank", 269, "SoupByRank$Sheet", "cells", "[I", "SoupByRank")]
def nestMs : List (String × Nat × MethodName × String) := [
  ("SoupByRank", 9, ⟨"SoupByRank$Court", "<init>", "()V"⟩, "SoupByRank"),
  ("SoupByRank", 24, ⟨"SoupByRank$Evening", "<init>", "()V"⟩, "SoupByRank"),
  ("SoupByRank", 31, ⟨"SoupByRank$Best", "<init>", "()V"⟩, "SoupByRank"),
  ("SoupByRank", 55, ⟨"SoupByRank$Tape", "<init>", "()V"⟩, "SoupByRank"),
  ("SoupByRank", 70, ⟨"SoupByRank$Sheet", "<init>", "()V"⟩, "SoupByRank"),
  ("SoupByRank$Evening", 91, ⟨"SoupByRank", "liking", "(III)I"⟩, "SoupByRank"),
  ("SoupByRank$Evening", 95, ⟨"SoupByRank", "minding", "(III)I"⟩, "SoupByRank"),
  ("SoupByRank$Evening", 101, ⟨"SoupByRank", "waiting", "(IIIII)I"⟩, "SoupByRank")]
def lenS : List Nat := [72, 8]
def bytS : List (List Int32) := [[99, 111, 111, 108, 115, 32, 119, 97, 105, 116, 115, 32, 108, 105, 107, 101, 115, 32, 111, 114, 32, 32, 32, 32, 97, 110, 100, 32, 32, 32, 110, 111, 116, 32, 32, 32, 104, 101, 97, 116, 32, 32, 109, 105, 110, 117, 116, 101, 100, 111, 119, 110, 32, 32, 114, 97, 110, 107, 32, 32, 109, 111, 111, 100, 32, 32, 109, 111, 114, 101, 32, 32], [40, 41, 59, 43, 45, 42, 60, 61]]
/-- what holds of the machine's tables all along: classes, array classes, nest links, String constants, statics -/
def gK (G : GW) (A : Nat → Prop) (U : State) (H : Heap) : Prop := va_K (gD G) vwCl (gTys G) U ∧ (gTys G)[0]? = some (gI G, FieldType.int) ∧ (∀ q ∈ nestFs, va_Nw (.fieldLinkNest q.1 q.2.1 q.2.2.1 q.2.2.2.1 q.2.2.2.2.1 q.2.2.2.2.2) U) ∧ (∀ q ∈ nestMs, va_Nw (.methodLinkNest q.1 q.2.1 q.2.2.1 q.2.2.2) U) ∧
  vk_S 2 lenS bytS (gSK G) (gSV G) A U H ∧ vk_R RX4 124 "cools waits likes or    and   not   heat  minutedown  rank  mood  more  " (gSK G 0) U ∧ vk_R RX4 132 "();+-*<=" (gSK G 1) U ∧ va_Z "java/lang/String" "COMPACT_STRINGS" "Z" (.int 1) A U H ∧ va_Zq "jdk/internal/util/Preconditions" "SIOOBE_FORMATTER" "Ljava/util/function/BiFunction;" A U H
theorem gK_mv {G : GW} {A : Nat → Prop} {u U : State} {H : Heap} (hal : u.vm.Alike U.vm) (hF : ∀ q ∈ nestFs, va_Nw (.fieldLinkNest q.1 q.2.1 q.2.2.1 q.2.2.2.1 q.2.2.2.2.1 q.2.2.2.2.2) U) (hM : ∀ q ∈ nestMs, va_Nw (.methodLinkNest q.1 q.2.1 q.2.2.1 q.2.2.2) U) (h0 : vk_R RX4 124 "cools waits likes or    and   not   heat  minutedown  rank  mood  more  " (gSK G 0) U) (h1 : vk_R RX4 132 "();+-*<=" (gSK G 1) U) (h : gK G A u H) : gK G A U H :=
  ⟨va_K.moved hal h.1, h.2.1, hF, hM, h.2.2.2.2.1.moved hal, h0, h1, h.2.2.2.2.2.2.2.1.moved hal, h.2.2.2.2.2.2.2.2.moved hal⟩
theorem gK_warm {G : GW} {A : Nat → Prop} {s U : State} {H : Heap} (hW : s.WarmedH U.vm) (h : gK G A s H) : gK G A U H :=
  gK_mv hW.alike (fun q hq => va_Nw.warmF hW (h.2.2.1 q hq)) (fun q hq => va_Nw.warmM hW (h.2.2.2.1 q hq)) (vk_R.warm hW h.2.2.2.2.2.1) (vk_R.warm hW h.2.2.2.2.2.2.1) h
theorem gK_blind {G : GW} {A : Nat → Prop} {U : State} {H : Heap} (g : JFrame) (mk : MethodId) (a : Array Value) (h : gK G A U H) : gK G A (U.calling g mk a) H :=
  gK_mv (u := U) (U := U.calling g mk a) (Vm.Alike.refl U.vm) (fun q hq => va_Nw.same rfl rfl (h.2.2.1 q hq)) (fun q hq => va_Nw.same rfl rfl (h.2.2.2.1 q hq)) (vk_R.same (u := U) rfl h.2.2.2.2.2.1) (vk_R.same (u := U) rfl h.2.2.2.2.2.2.1) h
theorem gK_kept {G : GW} {A : Nat → Prop} {U : State} {H H1 : Heap} (h : gK G A U H) (hq : ∀ a : Nat, a < H.size → ¬ A a → H1[a]? = H[a]?) : gK G A U H1 :=
  ⟨h.1, h.2.1, h.2.2.1, h.2.2.2.1, h.2.2.2.2.1.kept hq, h.2.2.2.2.2.1, h.2.2.2.2.2.2.1, h.2.2.2.2.2.2.2.1.kept hq, h.2.2.2.2.2.2.2.2.kept hq⟩
theorem gK_narrow {G : GW} {A B : Nat → Prop} {U : State} {H : Heap} (h : gK G A U H) (hq : ∀ q : Nat, B q → A q) : gK G B U H :=
  ⟨h.1, h.2.1, h.2.2.1, h.2.2.2.1, h.2.2.2.2.1.narrow hq, h.2.2.2.2.2.1, h.2.2.2.2.2.2.1, h.2.2.2.2.2.2.2.1.narrow hq, h.2.2.2.2.2.2.2.2.narrow hq⟩
/-- the world in a walk -/
def XD (G : GW) (A : Nat → Prop) (H0 : Heap) (σ : Sg) (H : Heap) (locs : List Loc) : Prop := va_P (gD G) vwCl (wld G σ) H ∧ va_D A (wld G σ) ∧ va_S A H0 H locs
/-- a method's start -/
def PX (G : GW) (σ : Sg) (sz : Nat) (U : State) : Prop := U.heap.size = sz ∧ va_P (gD G) vwCl (wld G σ) U.heap ∧ va_D (fun _ => True) (wld G σ) ∧ gK G (gA G sz) U U.heap
def EX (G : GW) (σ : Sg) (t : State) : Prop := va_P (gD G) vwCl (wld G σ) t.heap
abbrev QcI (G : GW) (A : Nat → Prop) (σ : Sg) (r : Int32) : Array Value → State → Outcome → State → Prop := va_Qi (fun (x : Int32) (_ : Unit) => x = r) (fun _ t => EX G σ t) A
abbrev QcL (G : GW) (A : Nat → Prop) (σ : Sg) (r : Int64) : Array Value → State → Outcome → State → Prop := va_Ql (fun (x : Int64) (_ : Unit) => x = r) (fun _ t => EX G σ t) A
abbrev QcV (G : GW) (A : Nat → Prop) (σ : Sg) : Array Value → State → Outcome → State → Prop := va_Qv (fun (_ : Unit) => True) (fun _ t => EX G σ t) A
abbrev QcR (G : GW) (A : Nat → Prop) (σ : Sg) (r : Nat) : Array Value → State → Outcome → State → Prop := va_Qr (fun (_ : Unit) => True) (fun _ a t => a = gAd G r ∧ EX G σ t) A
theorem PX_blind {G : GW} {σ : Sg} {sz : Nat} {As : List Value} : FrameBlind (va_Pc As (PX G σ sz)) := fun _ _ g mk q => ⟨q.1, q.2.1, q.2.2.1, q.2.2.2.1, gK_blind g mk _ q.2.2.2.2⟩
theorem XD_A {G : GW} {A : Nat → Prop} {H0 : Heap} {σ : Sg} {H : Heap} {locs : List Loc} (hw : XD G A H0 σ H locs) (hA : ∀ q, H0.size ≤ q → A q) : ∀ q, gA G H.size q → A q := by
  intro q h
  rcases h with ⟨k, hk, rfl⟩ | h
  · exact hw.2.1.2 k _ (wld_get σ hk)
  · exact hA q (Nat.le_trans hw.2.2.1 h)
theorem PX_of {G : GW} {A : Nat → Prop} {s U : State} {σ : Sg} {H : Heap} {locs : List Loc} (hw : XD G A s.heap σ H locs) (hA : ∀ q, s.heap.size ≤ q → A q) (hK : gK G A s s.heap) (hU : U.heap = H) (hW : s.WarmedH U.vm) : PX G σ H.size U := by
  refine ⟨by rw [hU], by rw [hU]; exact hw.1, wld_D hw.2.1 (fun _ _ _ => trivial), ?_⟩
  rw [hU]
  exact gK_narrow (gK_warm hW (gK_kept hK hw.2.2.2.1)) (XD_A hw hA)
/-- the body of a method out of its contract's start -/
theorem metX {l : Launch} {y : MethodName} {ws ws' : List Cond} {rm : Room} {G : GW} {σ : Sg} {sz : Nat} {As : List Value} {Qc : Array Value → State → Outcome → State → Prop} {mc ms : Nat} {cc : ByteArray} {maxL : Nat} {ret : Option FieldType}
    (hy : plainName y.cls = true) (hw : ws = Cond.code y cc maxL ret :: ws') (hl : (lg_sl As).length ≤ maxL)
    (body : ∀ (p : Program) (e : Env) (s : State) (m : MethodId) (args : Array Value) (below : List Frame) (meth : Method) (c : Code) (ls : Array Slot), CallFix p m c cc maxL s args ws y.cls → meth.sig.returnType = ret → meth.locks = false → s.heap.size = sz → (∀ q, s.heap.size ≤ q → gA G sz q) → gK G (gA G sz) s s.heap → XD G (gA G sz) s.heap σ s.heap [] → lv_has ls maxL (lv_args 0 As) → (meth.name = y.name) →
      W p l e (headSpec ws rm).room s m args below meth c s.heap [] 0 0 (MQ below Qc args s mc ms (gA G sz)) (F0 m 0 ls [])) : Met l y ws rm (va_Pc As (PX G σ sz)) Qc mc ms (gA G sz) := by
  refine Met.ofW hy hw ?_
  intro p e s m args below meth c s₁ B hml hv
  obtain ⟨rfl, hsz, hP, hD0, hK⟩ := hv
  have hl2 := lv_entry As (n := maxL) hl
  rw [lg_entry_eq]
  refine body p e s m _ below meth c _ ⟨B.exec, B.bytes, hml, findClass_of_methodNamed B.named, atoms_spec (ws := ws) B.pre⟩ B.returns B.notSynchronized hsz (fun q h => Or.inr (by rw [← hsz]; exact h)) hK ⟨hP, wld_D hD0 (fun k hk _ => Or.inl ⟨k, hk, rfl⟩), va_S.rf⟩ hl2 ((name_of_methodNamed B.named B.method).1)
/-! what the models are made of -/
def rdA {α : Type} (n : Nat) (σ : Sg) (k : Nat) (i : Int32) (f : Int32 → Option α) : Option α := if i < 0 ∨ n ≤ i.toNatClampNeg then none else f (σ k i.toNatClampNeg)
def wrA {α : Type} (n : Nat) (σ : Sg) (k : Nat) (i v : Int32) (f : Sg → Option α) : Option α := if i < 0 ∨ n ≤ i.toNatClampNeg then none else f (st σ k i.toNatClampNeg v)
def wrF {α : Type} (σ : Sg) (k j : Nat) (v : Int32) (f : Sg → Option α) : Option α := f (st σ k j v)
def divI {α : Type} (x y : Int32) (f : Int32 → Option α) : Option α := if y = 0 then none else f (x / y)
def remI {α : Type} (x y : Int32) (f : Int32 → Option α) : Option α := if y = 0 then none else f (x - x / y * y)
def divL {α : Type} (x y : Int64) (f : Int64 → Option α) : Option α := if y = 0 then none else f (x / y)
def remL {α : Type} (x y : Int64) (f : Int64 → Option α) : Option α := if y = 0 then none else f (x - x / y * y)
def retZ (σ : Sg) (v : Int32) : Option (Sg × Int32) := if v = 0 ∨ v = 1 then some (σ, v) else none
theorem rdA_e {α : Type} {n : Nat} {σ : Sg} {k : Nat} {i : Int32} {f : Int32 → Option α} {r : α} (h : rdA n σ k i f = some r) : vp_in i n ∧ ∃ x, σ k i.toNatClampNeg = x ∧ f x = some r := by
  unfold rdA at h; split at h
  · cases h
  · rename_i h1; exact ⟨h1, _, rfl, h⟩
theorem wrA_e {α : Type} {n : Nat} {σ : Sg} {k : Nat} {i v : Int32} {f : Sg → Option α} {r : α} (h : wrA n σ k i v f = some r) : vp_in i n ∧ ∃ x, st σ k i.toNatClampNeg v = x ∧ f x = some r := by
  unfold wrA at h; split at h
  · cases h
  · rename_i h1; exact ⟨h1, _, rfl, h⟩
theorem wrF_e {α : Type} {σ : Sg} {k j : Nat} {v : Int32} {f : Sg → Option α} {r : α} (h : wrF σ k j v f = some r) : ∃ x, st σ k j v = x ∧ f x = some r := ⟨_, rfl, h⟩
theorem divI_e {α : Type} {x y : Int32} {f : Int32 → Option α} {r : α} (h : divI x y f = some r) : ¬ y = 0 ∧ f (x / y) = some r := by
  unfold divI at h; split at h
  · cases h
  · rename_i h1; exact ⟨h1, h⟩
theorem remI_e {α : Type} {x y : Int32} {f : Int32 → Option α} {r : α} (h : remI x y f = some r) : ¬ y = 0 ∧ f (x - x / y * y) = some r := by
  unfold remI at h; split at h
  · cases h
  · rename_i h1; exact ⟨h1, h⟩
theorem divL_e {α : Type} {x y : Int64} {f : Int64 → Option α} {r : α} (h : divL x y f = some r) : ¬ y = 0 ∧ f (x / y) = some r := by
  unfold divL at h; split at h
  · cases h
  · rename_i h1; exact ⟨h1, h⟩
theorem remL_e {α : Type} {x y : Int64} {f : Int64 → Option α} {r : α} (h : remL x y f = some r) : ¬ y = 0 ∧ f (x - x / y * y) = some r := by
  unfold remL at h; split at h
  · cases h
  · rename_i h1; exact ⟨h1, h⟩
theorem retZ_e {σ : Sg} {v : Int32} {r : Sg × Int32} (h : retZ σ v = some r) : (v = 0 ∨ v = 1) ∧ some (σ, v) = some r := by
  unfold retZ at h; split at h
  · rename_i h1; exact ⟨h1, h⟩
  · cases h
theorem it_p {α : Type} {c : Prop} {_ : Decidable c} {a b r : α} (h : (if c then a else b) = r) (hc : c) : a = r := by rw [if_pos hc] at h; exact h
theorem it_n {α : Type} {c : Prop} {_ : Decidable c} {a b r : α} (h : (if c then a else b) = r) (hc : ¬ c) : b = r := by rw [if_neg hc] at h; exact h
theorem bi_e {α β : Type} {o : Option α} {f : α → Option β} {r : β} (h : o.bind f = some r) : ∃ q, o = some q ∧ f q = some r := Option.bind_eq_some_iff.mp h
/-! the rows -/
section RW
variable {p : Program} {l : Launch} {e : Env} {R : Room} {s : State} {m : MethodId} {args : Array Value} {below : List Frame} {meth : Method} {c : Code} {H : Heap} {locs : List Loc} {cells slots : Nat} {Q : State → Prop}
variable {cc : ByteArray} {pc nL : Nat} {ls : Array Slot} {rest : List Value} {G : GW} {A : Nat → Prop} {H0 : Heap} {σ : Sg} {Ts : List Cond} {own : String}
theorem r_get (S : CallFix p m c cc nL s args Ts own) (hK : gK G A s s.heap) (hw : XD G A H0 σ H locs) {k ci N : Nat} {lay : List (Option Nat)} {C : String} {T : u_T} (hk : gKd G k = .inr (.inl (ci, lay))) (hn : k < gN G) (hc : vwCl[ci]? = some (C, T, N)) (hin : ∀ w ∈ u_ws C T N, w ∈ Ts) (j : Nat) (hj : j < N) (hl : lay[j]? = some none) {index : Nat} (hlink : (Cond.fieldLink own index C (T j).2.1 (T j).2.2.1).before args s = true) (hs : (T j).1 = C) (hdg : decode cc pc = .ok (.getfield index, 3))
    (kk : W p l e R s m args below meth c H locs cells slots Q (F0 m (pc + 3) ls (.int (σ k j) :: rest))) : W p l e R s m args below meth c H locs cells slots Q (F0 m pc ls (.ref (gAd G k) :: rest)) := by
  refine va_get (v := .int (σ k j)) S.1 S.2.1 S.2.2.2.2 hin S.2.2.2.1 hK.1 hw.1 k (ci := ci) (fs := layV (gAd G) k (σ k) 0 lay) ?_ hc j hj hlink (fun x hx => by rw [hs] at hx; exact hx) ?_ hdg kk
  · rw [wld_get σ hn, wcell, hk]
  · have := layV_i (gAd G) k (σ k) lay 0 j hl
    rw [Nat.zero_add] at this
    exact this
theorem r_getr (S : CallFix p m c cc nL s args Ts own) (hK : gK G A s s.heap) (hw : XD G A H0 σ H locs) {k ci N : Nat} {lay : List (Option Nat)} {C : String} {T : u_T} (hk : gKd G k = .inr (.inl (ci, lay))) (hn : k < gN G) (hc : vwCl[ci]? = some (C, T, N)) (hin : ∀ w ∈ u_ws C T N, w ∈ Ts) (j : Nat) (hj : j < N) {o k' : Nat} (hl : lay[j]? = some (some o)) (ke : k + o = k') {index : Nat} (hlink : (Cond.fieldLink own index C (T j).2.1 (T j).2.2.1).before args s = true) (hs : (T j).1 = C) (hdg : decode cc pc = .ok (.getfield index, 3))
    (kk : W p l e R s m args below meth c H locs cells slots Q (F0 m (pc + 3) ls (.ref (gAd G k') :: rest))) : W p l e R s m args below meth c H locs cells slots Q (F0 m pc ls (.ref (gAd G k) :: rest)) := by
  subst ke
  refine va_get (v := .ref (gAd G (k + o))) S.1 S.2.1 S.2.2.2.2 hin S.2.2.2.1 hK.1 hw.1 k (ci := ci) (fs := layV (gAd G) k (σ k) 0 lay) ?_ hc j hj hlink (fun x hx => by rw [hs] at hx; exact hx) ?_ hdg kk
  · rw [wld_get σ hn, wcell, hk]
  · exact layV_r (gAd G) k (σ k) lay 0 j hl
theorem r_getN (S : CallFix p m c cc nL s args Ts own) (hK : gK G A s s.heap) (hw : XD G A H0 σ H locs) {k ci N : Nat} {lay : List (Option Nat)} {C host : String} {T : u_T} (hk : gKd G k = .inr (.inl (ci, lay))) (hn : k < gN G) (hc : vwCl[ci]? = some (C, T, N)) (hin : ∀ w ∈ u_ws C T N, w ∈ Ts) (j : Nat) (hj : j < N) (hl : lay[j]? = some none) {index : Nat} (hm : (own, index, C, (T j).2.1, (T j).2.2.1, host) ∈ nestFs) (hs : (T j).1 = C) (hdg : decode cc pc = .ok (.getfield index, 3))
    (kk : W p l e R s m args below meth c H locs cells slots Q (F0 m (pc + 3) ls (.int (σ k j) :: rest))) : W p l e R s m args below meth c H locs cells slots Q (F0 m pc ls (.ref (gAd G k) :: rest)) := by
  refine va_getN (v := .int (σ k j)) S.1 S.2.1 S.2.2.2.2 hin S.2.2.2.1 hK.1 hw.1 k (ci := ci) (fs := layV (gAd G) k (σ k) 0 lay) ?_ hc j hj (va_Nw.use rfl (hK.2.2.1 _ hm)) (fun x hx => by rw [hs] at hx; exact hx) ?_ hdg kk
  · rw [wld_get σ hn, wcell, hk]
  · have := layV_i (gAd G) k (σ k) lay 0 j hl
    rw [Nat.zero_add] at this
    exact this
theorem r_getrN (S : CallFix p m c cc nL s args Ts own) (hK : gK G A s s.heap) (hw : XD G A H0 σ H locs) {k ci N : Nat} {lay : List (Option Nat)} {C host : String} {T : u_T} (hk : gKd G k = .inr (.inl (ci, lay))) (hn : k < gN G) (hc : vwCl[ci]? = some (C, T, N)) (hin : ∀ w ∈ u_ws C T N, w ∈ Ts) (j : Nat) (hj : j < N) {o k' : Nat} (hl : lay[j]? = some (some o)) (ke : k + o = k') {index : Nat} (hm : (own, index, C, (T j).2.1, (T j).2.2.1, host) ∈ nestFs) (hs : (T j).1 = C) (hdg : decode cc pc = .ok (.getfield index, 3))
    (kk : W p l e R s m args below meth c H locs cells slots Q (F0 m (pc + 3) ls (.ref (gAd G k') :: rest))) : W p l e R s m args below meth c H locs cells slots Q (F0 m pc ls (.ref (gAd G k) :: rest)) := by
  subst ke
  refine va_getN (v := .ref (gAd G (k + o))) S.1 S.2.1 S.2.2.2.2 hin S.2.2.2.1 hK.1 hw.1 k (ci := ci) (fs := layV (gAd G) k (σ k) 0 lay) ?_ hc j hj (va_Nw.use rfl (hK.2.2.1 _ hm)) (fun x hx => by rw [hs] at hx; exact hx) ?_ hdg kk
  · rw [wld_get σ hn, wcell, hk]
  · exact layV_r (gAd G) k (σ k) lay 0 j hl
theorem XD_put {k ci : Nat} {lay : List (Option Nat)} {j : Nat} {v : Int32} {σ' : Sg} (hk : gKd G k = .inr (.inl (ci, lay))) (hl : lay[j]? = some none) (e : st σ k j v = σ') : (wld G σ).set k (gAd G k, .inr (ci, (layV (gAd G) k (σ k) 0 lay).set j (.int v))) = wld G σ' := by
  subst e
  rw [← wld_set, wcell, hk, layV_set (gAd G) k (σ k) v lay 0 j hl, Nat.zero_add]
theorem r_put (S : CallFix p m c cc nL s args Ts own) (hK : gK G A s s.heap) (hw : XD G A H0 σ H locs) {k ci N : Nat} {lay : List (Option Nat)} {C : String} {T : u_T} {tyf : Nat → FieldType} (hk : gKd G k = .inr (.inl (ci, lay))) (hn : k < gN G) (hc : vwCl[ci]? = some (C, T, N)) (hin : ∀ w ∈ u_ws C T N, w ∈ Ts) (hty : ∀ k, k < N → parseFieldDescriptor (T k).2.2.1 = some (tyf k)) (hnm : ∀ a, a < N → ∀ b, b < N → a ≠ b → (T a).2.1 ≠ (T b).2.1) (j : Nat) (hj : j < N) (hl : lay[j]? = some none) (hf : (T j).2.2.2 = false) {v : Int32} (hnr : narrow (tyf j) (.int v) = .int v) (hft : fits (tyf j) (.int v) = true) {index : Nat} (hlink : (Cond.fieldLink own index C (T j).2.1 (T j).2.2.1).before args s = true) (hs : (T j).1 = C) {σ' : Sg} (hσ : st σ k j v = σ') (hdg : decode cc pc = .ok (.putfield index, 3))
    (kk : ∀ (H1 : Heap) (locs1 : List Loc), XD G A H0 σ' H1 locs1 → W p l e R s m args below meth c H1 locs1 cells slots Q (F0 m (pc + 3) ls rest)) : W p l e R s m args below meth c H locs cells slots Q (F0 m pc ls (.int v :: .ref (gAd G k) :: rest)) := by
  refine va_put (v := .int v) (ty := tyf j) S.1 S.2.1 S.2.2.2.2 hin tyf hty hnm S.2.2.2.1 hK.1 hw.1 hw.2.1 hw.2.2 k (ci := ci) (fs := layV (gAd G) k (σ k) 0 lay) (by rw [wld_get σ hn, wcell, hk]) hc j hj hlink (fun x hx => by rw [hs] at hx; exact hx) hf (hty j hj) hnr hft (by rw [layV_len]; exact (List.getElem?_eq_some_iff.mp hl).1) hdg (fun H1 locs1 hP hD hS => ?_)
  rw [XD_put hk hl hσ] at hP hD
  exact kk H1 locs1 ⟨hP, hD, hS⟩
theorem r_putN (S : CallFix p m c cc nL s args Ts own) (hK : gK G A s s.heap) (hw : XD G A H0 σ H locs) {k ci N : Nat} {lay : List (Option Nat)} {C host : String} {T : u_T} {tyf : Nat → FieldType} (hk : gKd G k = .inr (.inl (ci, lay))) (hn : k < gN G) (hc : vwCl[ci]? = some (C, T, N)) (hin : ∀ w ∈ u_ws C T N, w ∈ Ts) (hty : ∀ k, k < N → parseFieldDescriptor (T k).2.2.1 = some (tyf k)) (hnm : ∀ a, a < N → ∀ b, b < N → a ≠ b → (T a).2.1 ≠ (T b).2.1) (j : Nat) (hj : j < N) (hl : lay[j]? = some none) (hf : (T j).2.2.2 = false) {v : Int32} (hnr : narrow (tyf j) (.int v) = .int v) (hft : fits (tyf j) (.int v) = true) {index : Nat} (hm : (own, index, C, (T j).2.1, (T j).2.2.1, host) ∈ nestFs) (hs : (T j).1 = C) {σ' : Sg} (hσ : st σ k j v = σ') (hdg : decode cc pc = .ok (.putfield index, 3))
    (kk : ∀ (H1 : Heap) (locs1 : List Loc), XD G A H0 σ' H1 locs1 → W p l e R s m args below meth c H1 locs1 cells slots Q (F0 m (pc + 3) ls rest)) : W p l e R s m args below meth c H locs cells slots Q (F0 m pc ls (.int v :: .ref (gAd G k) :: rest)) := by
  refine va_putN (v := .int v) (ty := tyf j) S.1 S.2.1 S.2.2.2.2 hin tyf hty hnm S.2.2.2.1 hK.1 hw.1 hw.2.1 hw.2.2 k (ci := ci) (fs := layV (gAd G) k (σ k) 0 lay) (by rw [wld_get σ hn, wcell, hk]) hc j hj (va_Nw.use rfl (hK.2.2.1 _ hm)) (fun x hx => by rw [hs] at hx; exact hx) hf (hty j hj) hnr hft (by rw [layV_len]; exact (List.getElem?_eq_some_iff.mp hl).1) hdg (fun H1 locs1 hP hD hS => ?_)
  rw [XD_put hk hl hσ] at hP hD
  exact kk H1 locs1 ⟨hP, hD, hS⟩
theorem r_iald (S : CallFix p m c cc nL s args Ts own) (hK : gK G A s s.heap) (hw : XD G A H0 σ H locs) {k n : Nat} (hk : gKd G k = .inl n) (hn : k < gN G) {i x : Int32} (hin : vp_in i n) (hx : σ k i.toNatClampNeg = x) (hdg : decode cc pc = .ok (.iaload, 1))
    (kk : W p l e R s m args below meth c H locs cells slots Q (F0 m (pc + 1) ls (.int x :: rest))) : W p l e R s m args below meth c H locs cells slots Q (F0 m pc ls (.int i :: .ref (gAd G k) :: rest)) := by
  subst hx
  exact va_iald S.1 S.2.1 hK.1 hw.1 k 0 (f := σ k) (by rw [wld_get σ hn, wcell, hk]) hK.2.1 hin hdg kk
theorem r_iast (S : CallFix p m c cc nL s args Ts own) (hK : gK G A s s.heap) (hw : XD G A H0 σ H locs) {k n : Nat} (hk : gKd G k = .inl n) (hn : k < gN G) {i x : Int32} {σ' : Sg} (hin : vp_in i n) (hσ : st σ k i.toNatClampNeg x = σ') (hdg : decode cc pc = .ok (.iastore, 1))
    (kk : ∀ (H1 : Heap) (locs1 : List Loc), XD G A H0 σ' H1 locs1 → W p l e R s m args below meth c H1 locs1 cells slots Q (F0 m (pc + 1) ls rest)) : W p l e R s m args below meth c H locs cells slots Q (F0 m pc ls (.int x :: .int i :: .ref (gAd G k) :: rest)) := by
  subst hσ
  refine va_iast S.1 S.2.1 hK.1 hw.1 hw.2.1 hw.2.2 k 0 (n := n) (f := σ k) (by rw [wld_get σ hn, wcell, hk]) hK.2.1 hin hdg (fun H1 locs1 hP hD hS => ?_)
  have hz : (wld G σ).set k (gAd G k, .inl (gI G, n, .inl (upd (σ k) i.toNatClampNeg x))) = wld G (st σ k i.toNatClampNeg x) := by
    rw [← wld_set, wcell, hk]
  rw [hz] at hP hD
  exact kk H1 locs1 ⟨hP, hD, hS⟩
theorem r_alen (S : CallFix p m c cc nL s args Ts own) (hK : gK G A s s.heap) (hw : XD G A H0 σ H locs) {k n : Nat} (hk : gKd G k = .inl n) (hn : k < gN G) (hdg : decode cc pc = .ok (.arraylength, 1))
    (kk : W p l e R s m args below meth c H locs cells slots Q (F0 m (pc + 1) ls (.int (Int32.ofNat n) :: rest))) : W p l e R s m args below meth c H locs cells slots Q (F0 m pc ls (.ref (gAd G k) :: rest)) :=
  va_alen S.1 S.2.1 hK.1 hw.1 k 0 (x := (n, .inl (σ k))) (by rw [wld_get σ hn, wcell, hk]) hK.2.1 rfl hdg kk
theorem r_aald (S : CallFix p m c cc nL s args Ts own) (hK : gK G A s s.heap) (hw : XD G A H0 σ H locs) {k n t0 : Nat} {ca : ClassId} {C : String} {r : Nat → Option Nat} (hk : gKd G k = .inr (.inr (ca, n, r))) (hn : k < gN G) (ht : (gTys G)[t0]? = some (ca, .object C)) {i : Int32} {q : Nat} (hin : vp_in i n) (hr : r i.toNatClampNeg = some q) (hdg : decode cc pc = .ok (.aaload, 1))
    (kk : W p l e R s m args below meth c H locs cells slots Q (F0 m (pc + 1) ls (.ref (gAd G q) :: rest))) : W p l e R s m args below meth c H locs cells slots Q (F0 m pc ls (.int i :: .ref (gAd G k) :: rest)) := by
  refine va_aldq S.1 S.2.1 hK.1 hw.1 k t0 (f := fun j => (r j).map (gAd G)) (by rw [wld_get σ hn, wcell, hk]) ht hin hdg ?_
  simp only [hr, Option.map_some, va_rf]
  exact kk
theorem r_recv (hK : gK G A s s.heap) (hw : XD G A H0 σ H locs) {k ci N : Nat} {lay : List (Option Nat)} {C : String} {T : u_T} (hk : gKd G k = .inr (.inl (ci, lay))) (hn : k < gN G) (hc : vwCl[ci]? = some (C, T, N)) : ∃ cell : Cell, H[gAd G k]? = some cell ∧ cell.vm.isStatics = false ∧ s.vm.findClass C = some cell.cls :=
  va_recv hK.1 hw.1 hc (q0 := k) (ci := ci) (fs := layV (gAd G) k (σ k) 0 lay) (by rw [wld_get σ hn, wcell, hk])
theorem XD_ret {σ' : Sg} {H1 : Heap} {locs1 : List Loc} {t : State} (hw : XD G A H0 σ H locs) (ht : t.heap = H1) (hB : EX G σ' t) (hS : va_S A H0 H1 locs1) : XD G A H0 σ' H1 locs1 := ⟨by rw [← ht]; exact hB, wld_D hw.2.1 (fun _ _ h => h), hS⟩
variable {y : MethodName} {bytes : ByteArray} {maxL n index : Nat} {ret : Option FieldType} {ws : List Cond} {rm : Room} {As : List Value} {C : String} {b : Nat} {σ' : Sg}
theorem r_iV {r : Int32} (S : CallFix p m c cc nL s args Ts own) (hA : ∀ q, s.heap.size ≤ q → A q) (hK : gK G A s s.heap) (hw : XD G A s.heap σ H locs) (hM : Met l y ws rm (va_Pc (.ref b :: As) (PX G σ H.size)) (QcI G (gA G H.size) σ' r) 0 0 (gA G H.size)) (cw : CallW R s args own C index y bytes maxL ret ws rm 0 0 n) (hv : ∃ cell : Cell, H[b]? = some cell ∧ cell.vm.isStatics = false ∧ s.vm.findClass C = some cell.cls) (hn : As.length = n) (hsize : ls.size = nL) (hstk : (rest.map fun v => v.category).sum ≤ 8) (hdg : decode cc pc = .ok (.invokevirtual index, 3)) (hf : cells ≤ R.cells ∧ slots ≤ R.slots) {stk : List Value} (hstack : stk = As.reverse ++ .ref b :: rest)
    (kk : ∀ (H1 : Heap) (locs1 : List Loc), XD G A s.heap σ' H1 locs1 → W p l e R s m args below meth c H1 locs1 cells slots Q (F0 m (pc + 3) ls (.int r :: rest))) : W p l e R s m args below meth c H locs cells slots Q (F0 m pc ls stk) := by
  refine va_calli (va_runV (As := As) (rest := rest) (g := F0 m pc ls stk) S hM cw ⟨PX_blind, hv, fun U hU hW => ⟨rfl, PX_of hw hA hK hU hW⟩⟩ rfl hn hsize hstack (lv_room (pc := pc) (ls := ls) (rest := stk) hstk) hdg hf) hw.2.2 (fun q _ h => XD_A hw hA q h) (XD_A hw hA) (fun x u t H1 locs1 ht hvm hx hB hsz hkp hS => ?_)
  subst hx
  exact kk H1 locs1 (XD_ret hw ht hB hS)
theorem r_lV {r : Int64} (S : CallFix p m c cc nL s args Ts own) (hA : ∀ q, s.heap.size ≤ q → A q) (hK : gK G A s s.heap) (hw : XD G A s.heap σ H locs) (hM : Met l y ws rm (va_Pc (.ref b :: As) (PX G σ H.size)) (QcL G (gA G H.size) σ' r) 0 0 (gA G H.size)) (cw : CallW R s args own C index y bytes maxL ret ws rm 0 0 n) (hv : ∃ cell : Cell, H[b]? = some cell ∧ cell.vm.isStatics = false ∧ s.vm.findClass C = some cell.cls) (hn : As.length = n) (hsize : ls.size = nL) (hstk : (rest.map fun v => v.category).sum ≤ 8) (hdg : decode cc pc = .ok (.invokevirtual index, 3)) (hf : cells ≤ R.cells ∧ slots ≤ R.slots) {stk : List Value} (hstack : stk = As.reverse ++ .ref b :: rest)
    (kk : ∀ (H1 : Heap) (locs1 : List Loc), XD G A s.heap σ' H1 locs1 → W p l e R s m args below meth c H1 locs1 cells slots Q (F0 m (pc + 3) ls (.long r :: rest))) : W p l e R s m args below meth c H locs cells slots Q (F0 m pc ls stk) := by
  refine va_calll (va_runV (As := As) (rest := rest) (g := F0 m pc ls stk) S hM cw ⟨PX_blind, hv, fun U hU hW => ⟨rfl, PX_of hw hA hK hU hW⟩⟩ rfl hn hsize hstack (lv_room (pc := pc) (ls := ls) (rest := stk) hstk) hdg hf) hw.2.2 (fun q _ h => XD_A hw hA q h) (XD_A hw hA) (fun x u t H1 locs1 ht hvm hx hB hsz hkp hS => ?_)
  subst hx
  exact kk H1 locs1 (XD_ret hw ht hB hS)
theorem r_vV (S : CallFix p m c cc nL s args Ts own) (hA : ∀ q, s.heap.size ≤ q → A q) (hK : gK G A s s.heap) (hw : XD G A s.heap σ H locs) (hM : Met l y ws rm (va_Pc (.ref b :: As) (PX G σ H.size)) (QcV G (gA G H.size) σ') 0 0 (gA G H.size)) (cw : CallW R s args own C index y bytes maxL ret ws rm 0 0 n) (hv : ∃ cell : Cell, H[b]? = some cell ∧ cell.vm.isStatics = false ∧ s.vm.findClass C = some cell.cls) (hn : As.length = n) (hsize : ls.size = nL) (hstk : (rest.map fun v => v.category).sum ≤ 8) (hdg : decode cc pc = .ok (.invokevirtual index, 3)) (hf : cells ≤ R.cells ∧ slots ≤ R.slots) {stk : List Value} (hstack : stk = As.reverse ++ .ref b :: rest)
    (kk : ∀ (H1 : Heap) (locs1 : List Loc), XD G A s.heap σ' H1 locs1 → W p l e R s m args below meth c H1 locs1 cells slots Q (F0 m (pc + 3) ls rest)) : W p l e R s m args below meth c H locs cells slots Q (F0 m pc ls stk) := by
  refine va_callv (va_runV (As := As) (rest := rest) (g := F0 m pc ls stk) S hM cw ⟨PX_blind, hv, fun U hU hW => ⟨rfl, PX_of hw hA hK hU hW⟩⟩ rfl hn hsize hstack (lv_room (pc := pc) (ls := ls) (rest := stk) hstk) hdg hf) hw.2.2 (fun q _ h => XD_A hw hA q h) (XD_A hw hA) (fun u t H1 locs1 ht hvm hx hB hsz hkp hS => ?_)
  exact kk H1 locs1 (XD_ret hw ht hB hS)
theorem r_rV {r : Nat} (S : CallFix p m c cc nL s args Ts own) (hA : ∀ q, s.heap.size ≤ q → A q) (hK : gK G A s s.heap) (hw : XD G A s.heap σ H locs) (hM : Met l y ws rm (va_Pc (.ref b :: As) (PX G σ H.size)) (QcR G (gA G H.size) σ' r) 0 0 (gA G H.size)) (cw : CallW R s args own C index y bytes maxL ret ws rm 0 0 n) (hv : ∃ cell : Cell, H[b]? = some cell ∧ cell.vm.isStatics = false ∧ s.vm.findClass C = some cell.cls) (hn : As.length = n) (hsize : ls.size = nL) (hstk : (rest.map fun v => v.category).sum ≤ 8) (hdg : decode cc pc = .ok (.invokevirtual index, 3)) (hf : cells ≤ R.cells ∧ slots ≤ R.slots) {stk : List Value} (hstack : stk = As.reverse ++ .ref b :: rest)
    (kk : ∀ (H1 : Heap) (locs1 : List Loc), XD G A s.heap σ' H1 locs1 → W p l e R s m args below meth c H1 locs1 cells slots Q (F0 m (pc + 3) ls (.ref (gAd G r) :: rest))) : W p l e R s m args below meth c H locs cells slots Q (F0 m pc ls stk) := by
  refine va_callr (va_runV (As := As) (rest := rest) (g := F0 m pc ls stk) S hM cw ⟨PX_blind, hv, fun U hU hW => ⟨rfl, PX_of hw hA hK hU hW⟩⟩ rfl hn hsize hstack (lv_room (pc := pc) (ls := ls) (rest := stk) hstk) hdg hf) hw.2.2 (fun q _ h => XD_A hw hA q h) (XD_A hw hA) (fun u ra t H1 locs1 ht hvm hx hB hsz hkp hS => ?_)
  rw [hB.1]
  exact kk H1 locs1 (XD_ret hw ht hB.2 hS)
theorem r_iS {r : Int32} (S : CallFix p m c cc nL s args Ts own) (hA : ∀ q, s.heap.size ≤ q → A q) (hK : gK G A s s.heap) (hw : XD G A s.heap σ H locs) (hM : Met l y ws rm (va_Pc As (PX G σ H.size)) (QcI G (gA G H.size) σ' r) 0 0 (gA G H.size)) (cw : CallB R s args own index y bytes maxL ret ws rm 0 0 n ∧ (Cond.static y).before args s = true) (hn : As.length = n) (hsize : ls.size = nL) (hstk : (rest.map fun v => v.category).sum ≤ 8) (hdg : decode cc pc = .ok (.invokestatic index, 3)) (hf : cells ≤ R.cells ∧ slots ≤ R.slots) {stk : List Value} (hstack : stk = As.reverse ++ rest)
    (kk : ∀ (H1 : Heap) (locs1 : List Loc), XD G A s.heap σ' H1 locs1 → W p l e R s m args below meth c H1 locs1 cells slots Q (F0 m (pc + 3) ls (.int r :: rest))) : W p l e R s m args below meth c H locs cells slots Q (F0 m pc ls stk) := by
  refine va_calli (va_runS (As := As) (rest := rest) (g := F0 m pc ls stk) S hM cw ⟨PX_blind, fun U hU hW => ⟨rfl, PX_of hw hA hK hU hW⟩⟩ rfl hn hsize hstack (lv_room (pc := pc) (ls := ls) (rest := stk) hstk) hdg hf) hw.2.2 (fun q _ h => XD_A hw hA q h) (XD_A hw hA) (fun x u t H1 locs1 ht hvm hx hB hsz hkp hS => ?_)
  subst hx
  exact kk H1 locs1 (XD_ret hw ht hB hS)
theorem r_lS {r : Int64} (S : CallFix p m c cc nL s args Ts own) (hA : ∀ q, s.heap.size ≤ q → A q) (hK : gK G A s s.heap) (hw : XD G A s.heap σ H locs) (hM : Met l y ws rm (va_Pc As (PX G σ H.size)) (QcL G (gA G H.size) σ' r) 0 0 (gA G H.size)) (cw : CallB R s args own index y bytes maxL ret ws rm 0 0 n ∧ (Cond.static y).before args s = true) (hn : As.length = n) (hsize : ls.size = nL) (hstk : (rest.map fun v => v.category).sum ≤ 8) (hdg : decode cc pc = .ok (.invokestatic index, 3)) (hf : cells ≤ R.cells ∧ slots ≤ R.slots) {stk : List Value} (hstack : stk = As.reverse ++ rest)
    (kk : ∀ (H1 : Heap) (locs1 : List Loc), XD G A s.heap σ' H1 locs1 → W p l e R s m args below meth c H1 locs1 cells slots Q (F0 m (pc + 3) ls (.long r :: rest))) : W p l e R s m args below meth c H locs cells slots Q (F0 m pc ls stk) := by
  refine va_calll (va_runS (As := As) (rest := rest) (g := F0 m pc ls stk) S hM cw ⟨PX_blind, fun U hU hW => ⟨rfl, PX_of hw hA hK hU hW⟩⟩ rfl hn hsize hstack (lv_room (pc := pc) (ls := ls) (rest := stk) hstk) hdg hf) hw.2.2 (fun q _ h => XD_A hw hA q h) (XD_A hw hA) (fun x u t H1 locs1 ht hvm hx hB hsz hkp hS => ?_)
  subst hx
  exact kk H1 locs1 (XD_ret hw ht hB hS)
theorem r_vS (S : CallFix p m c cc nL s args Ts own) (hA : ∀ q, s.heap.size ≤ q → A q) (hK : gK G A s s.heap) (hw : XD G A s.heap σ H locs) (hM : Met l y ws rm (va_Pc As (PX G σ H.size)) (QcV G (gA G H.size) σ') 0 0 (gA G H.size)) (cw : CallB R s args own index y bytes maxL ret ws rm 0 0 n ∧ (Cond.static y).before args s = true) (hn : As.length = n) (hsize : ls.size = nL) (hstk : (rest.map fun v => v.category).sum ≤ 8) (hdg : decode cc pc = .ok (.invokestatic index, 3)) (hf : cells ≤ R.cells ∧ slots ≤ R.slots) {stk : List Value} (hstack : stk = As.reverse ++ rest)
    (kk : ∀ (H1 : Heap) (locs1 : List Loc), XD G A s.heap σ' H1 locs1 → W p l e R s m args below meth c H1 locs1 cells slots Q (F0 m (pc + 3) ls rest)) : W p l e R s m args below meth c H locs cells slots Q (F0 m pc ls stk) := by
  refine va_callv (va_runS (As := As) (rest := rest) (g := F0 m pc ls stk) S hM cw ⟨PX_blind, fun U hU hW => ⟨rfl, PX_of hw hA hK hU hW⟩⟩ rfl hn hsize hstack (lv_room (pc := pc) (ls := ls) (rest := stk) hstk) hdg hf) hw.2.2 (fun q _ h => XD_A hw hA q h) (XD_A hw hA) (fun u t H1 locs1 ht hvm hx hB hsz hkp hS => ?_)
  exact kk H1 locs1 (XD_ret hw ht hB hS)
theorem r_iSN {r : Int32} {host : String} (S : CallFix p m c cc nL s args Ts own) (hA : ∀ q, s.heap.size ≤ q → A q) (hK : gK G A s s.heap) (hw : XD G A s.heap σ H locs) (hM : Met l y ws rm (va_Pc As (PX G σ H.size)) (QcI G (gA G H.size) σ' r) 0 0 (gA G H.size)) (cw : va_CN R s args own index y host bytes maxL ret ws rm 0 0 n ∧ (Cond.static y).before args s = true ∧ True) (hn : As.length = n) (hsize : ls.size = nL) (hstk : (rest.map fun v => v.category).sum ≤ 8) (hdg : decode cc pc = .ok (.invokestatic index, 3)) (hf : cells ≤ R.cells ∧ slots ≤ R.slots) {stk : List Value} (hstack : stk = As.reverse ++ rest)
    (kk : ∀ (H1 : Heap) (locs1 : List Loc), XD G A s.heap σ' H1 locs1 → W p l e R s m args below meth c H1 locs1 cells slots Q (F0 m (pc + 3) ls (.int r :: rest))) : W p l e R s m args below meth c H locs cells slots Q (F0 m pc ls stk) := by
  refine va_calli (va_runSN (As := As) (rest := rest) (g := F0 m pc ls stk) S hM cw ⟨PX_blind, fun U hU hW => ⟨rfl, PX_of hw hA hK hU hW⟩⟩ rfl hn hsize hstack (lv_room (pc := pc) (ls := ls) (rest := stk) hstk) hdg hf) hw.2.2 (fun q _ h => XD_A hw hA q h) (XD_A hw hA) (fun x u t H1 locs1 ht hvm hx hB hsz hkp hS => ?_)
  subst hx
  exact kk H1 locs1 (XD_ret hw ht hB hS)
theorem nestM_use (hK : gK G A s s.heap) {host : String} (hm : (own, index, y, host) ∈ nestMs) : va_Nw (.methodLinkNest own index y host) s := hK.2.2.2.1 _ hm
/-! ends -/
theorem r_ireti {r v : Int32} (S : CallFix p m c cc nL s args Ts own) (hr : meth.sig.returnType = some .int) (hlk : meth.locks = false) (hS0 : ∀ q ∈ locs, A q.base) (hw : XD G A s.heap σ H locs) (hg : some (σ, v) = some (σ', r)) (hdg : decode cc pc = .ok (.ireturn, 1)) : W p l e R s m args below meth c H locs cells slots (MQ below (QcI G A σ' r) args s cells slots A) (F0 m pc ls [.int v]) := by
  obtain ⟨rfl, rfl⟩ := Prod.mk.inj (Option.some.inj hg)
  exact W.iret S.1 S.2.1 hr (fun t ht hW => ⟨⟨v, (), rfl, rfl, by show va_P _ _ _ _; rw [ht]; exact hw.1⟩, hw.2.2.F ht⟩) hS0 hdg hlk
theorem r_iretz {r v : Int32} {ty : FieldType} (S : CallFix p m c cc nL s args Ts own) (hr : meth.sig.returnType = some ty) (hn : narrow ty (.int v) = .int v) (hlk : meth.locks = false) (hS0 : ∀ q ∈ locs, A q.base) (hw : XD G A s.heap σ H locs) (hg : some (σ, v) = some (σ', r)) (hdg : decode cc pc = .ok (.ireturn, 1)) : W p l e R s m args below meth c H locs cells slots (MQ below (QcI G A σ' r) args s cells slots A) (F0 m pc ls [.int v]) := by
  obtain ⟨rfl, rfl⟩ := Prod.mk.inj (Option.some.inj hg)
  exact W.zret S.1 S.2.1 hr hn (fun t ht hW => ⟨⟨v, (), rfl, rfl, by show va_P _ _ _ _; rw [ht]; exact hw.1⟩, hw.2.2.F ht⟩) hS0 hdg hlk
theorem r_lreti {r v : Int64} (S : CallFix p m c cc nL s args Ts own) (hr : meth.sig.returnType = some .long) (hlk : meth.locks = false) (hS0 : ∀ q ∈ locs, A q.base) (hw : XD G A s.heap σ H locs) (hg : some (σ, v) = some (σ', r)) (hdg : decode cc pc = .ok (.lreturn, 1)) : W p l e R s m args below meth c H locs cells slots (MQ below (QcL G A σ' r) args s cells slots A) (F0 m pc ls [.long v]) := by
  obtain ⟨rfl, rfl⟩ := Prod.mk.inj (Option.some.inj hg)
  exact W.lret S.1 S.2.1 hr (fun t ht hW => ⟨⟨v, (), rfl, rfl, by show va_P _ _ _ _; rw [ht]; exact hw.1⟩, hw.2.2.F ht⟩) hS0 hdg hlk
theorem r_vreti (S : CallFix p m c cc nL s args Ts own) (hr : meth.sig.returnType = none) (hlk : meth.locks = false) (hS0 : ∀ q ∈ locs, A q.base) (hw : XD G A s.heap σ H locs) (hg : some σ = some σ') (hdg : decode cc pc = .ok (.return_, 1)) : W p l e R s m args below meth c H locs cells slots (MQ below (QcV G A σ') args s cells slots A) (F0 m pc ls []) := by
  obtain rfl := Option.some.inj hg
  exact W.vret S.1 S.2.1 hr (fun t ht hW => ⟨⟨(), rfl, trivial, by show va_P _ _ _ _; rw [ht]; exact hw.1⟩, hw.2.2.F ht⟩) hS0 hdg hlk
end RW
