/-! HOW THE ABSTRACT STORE STANDS IN THE MACHINE's HEAP -/
/-- a run's surroundings: the heap's size at the law's entry, where the things that were there lie, classes and slots, array classes, the heap at the entry, the script -/
abbrev EP : Type := Nat × (Nat → Nat) × va_G × (Nat → ClassId) × Heap × Nat × (Nat → Int)
abbrev eN (E : EP) : Nat := E.1
abbrev eX (E : EP) : Nat → Nat := E.2.1
abbrev eD (E : EP) : va_G := E.2.2.1
abbrev eA (E : EP) : Nat → ClassId := E.2.2.2.1
abbrev eH (E : EP) : Heap := E.2.2.2.2.1
abbrev eL (E : EP) : Nat := E.2.2.2.2.2.1
abbrev eS (E : EP) : Nat → Int := E.2.2.2.2.2.2
def adr (E : EP) (a : Nat) : Nat := if a < 64 then eX E a else eN E + (a - 64)
def rf (E : EP) (x : Option Nat) : Option Nat := x.map (adr E)
def rel (E : EP) (v : AV) : Value := match v with
  | .inl x => .int (i3 x)
  | .inr (.inl x) => .long (i6 x)
  | .inr (.inr x) => va_rf (rf E x)
def okv (v : AV) : Prop := match v with
  | .inl x => okI x
  | .inr (.inl x) => okJ x
  | .inr (.inr _) => True
def nv (ty : Nat) (x : Int) : Value := if ty = 3 then .long (i6 x) else .int (i3 x)
def okn (ty : Nat) (x : Int) : Prop := if ty = 0 then okI x else if ty = 1 then -128 ≤ x ∧ x ≤ 127 else if ty = 2 then x = 0 ∨ x = 1 else okJ x
def TYS (ty : Nat) : FieldType := match ty with
  | 0 => .int
  | 1 => .byte
  | 2 => .boolean
  | 3 => .long
  | 4 => .object "HuntHouse$Riddle"
  | 5 => .object "HuntHouse$Team"
  | 6 => .object "HuntHouse$Code"
  | 7 => .object "HuntHouseModel$Riddle"
  | 8 => .object "HuntHouseModel$Team"
  | 9 => .object "HuntHouseModel$Act"
  | 10 => .object "java/lang/Object"
  | _ => .array .long
def cellAt (E : EP) (a : Nat) (c : AC) (H : Heap) : Prop := match c with
  | .inl (ci, fs) => (ci = 99 ∧ fs = [] ∧ ∃ cell, H[adr E a]? = some cell ∧ cell.vm = .none ∧ cell.cls = eA E 12) ∨ (ci < 99 ∧ (∀ v ∈ fs, okv v) ∧ (∃ r, CLS[ci]? = some r ∧ fs.length = r.2.2) ∧ va_at (eD E) CLS (adr E a, .inr (ci, fs.map (rel E))) H)
  | .inr (.inl (ty, n, f)) => ty < 4 ∧ n ≤ 1000000 ∧ (∀ k, k < n → okn ty (f k)) ∧ H[adr E a]? = some (arrV (eA E ty) n (fun j => nv ty (f j)))
  | .inr (.inr (ty, n, f)) => (4 ≤ ty ∧ ty < 12) ∧ n ≤ 1000000 ∧ H[adr E a]? = some (arrV (eA E ty) n (fun j => va_rf (rf E (f j))))
/-- the heap holds the store -/
def HS (E : EP) (σ : ST) (H : Heap) : Prop := 64 ≤ σ.2.1 ∧ H.size = eN E + (σ.2.1 - 64) ∧ (∀ q, q < eN E → H[q]? = (eH E)[q]?) ∧ (∀ a, 64 ≤ a → a < σ.2.1 → cellAt E a (σ.1 a) H) ∧ (∀ a, σ.2.1 ≤ a → σ.1 a = DEAD) ∧ (∀ a, 1 < a → a < 64 → σ.1 a = DEAD) ∧ σ.1 0 = .inr (.inl (100, eL E, eS E)) ∧ σ.1 1 = .inr (.inr (101, 0, fun _ => none))
/-- the locals -/
def LR (E : EP) (L : LO) (ls : Array Slot) : Prop := ls.size = L.length ∧ lv_wf ls ∧ (∀ (i : Nat) (v : AV), L[i]? = some (some v) → ls[i]? = some (.val (rel E v)) ∧ okv v)
def okS (st : List AV) : Prop := ∀ v ∈ st, okv v
/-- what the tables say -/
def KT (E : EP) (U : State) : Prop := (∀ (c : Nat) (q : vw_C), CLS[c]? = some q → u_Kn U q.1 q.2.1 q.2.2 ((eD E).1 c) ((eD E).2 c)) ∧ (∀ i, i < 12 → ArrOfT U (eA E i) (TYS i) ∧ va_RA U (eA E i) (TYS i)) ∧ (∃ kA : Class, U.vm.classes[eA E 11]? = some kA ∧ kA.kind = .array (eA E 3) (.array .long)) ∧ U.vm.findClass "java/util/NoSuchElementException" = some (eA E 12)
theorem KT.moved {E : EP} {u U : State} (hvm : u.vm.Alike U.vm) (h : KT E u) : KT E U := by
  refine ⟨fun c q hq => u_Kn_moved hvm (h.1 c q hq), fun i hi => ⟨arrOfT_moved hvm (h.2.1 i hi).1, (h.2.1 i hi).2.moved hvm⟩, ?_⟩
  refine ⟨?_, by rw [hvm.findClass]; exact h.2.2.2⟩
  obtain ⟨kA, h1, h2⟩ := h.2.2.1
  obtain ⟨k1, hk1, he⟩ := hvm.2.2 _ _ h1
  exact ⟨k1, hk1, by rw [he]; exact h2⟩
theorem KT.K {E : EP} {U : State} (h : KT E U) : va_K (eD E) CLS [] U := ⟨h.1, fun k q hq => by simp at hq⟩
theorem rel_cat (E : EP) (v : AV) : (rel E v).category = if isLg v then 2 else 1 := by
  rcases v with x | x | x | x <;> rfl
theorem okS_cons {v : AV} {st : List AV} (h : okS (v :: st)) : okv v ∧ okS st := ⟨h v List.mem_cons_self, fun w hw => h w (List.mem_cons_of_mem _ hw)⟩
theorem okS_push {v : AV} {st : List AV} (h1 : okv v) (h2 : okS st) : okS (v :: st) := fun w hw => (List.mem_cons.mp hw).elim (fun e => e ▸ h1) (h2 w)
theorem adr_hi {E : EP} {a : Nat} (h : 64 ≤ a) : adr E a = eN E + (a - 64) := by
  unfold adr
  rw [if_neg (by omega)]
theorem adr_ge {E : EP} {a : Nat} (h : 64 ≤ a) : eN E ≤ adr E a := by rw [adr_hi h]; omega
theorem adr_inj {E : EP} {a b : Nat} (ha : 64 ≤ a) (hb : 64 ≤ b) (h : adr E a = adr E b) : a = b := by
  rw [adr_hi ha, adr_hi hb] at h
  omega
theorem cellAt.kept {E : EP} {a : Nat} {c : AC} {H H1 : Heap} (h : cellAt E a c H) (hq : H1[adr E a]? = H[adr E a]?) : cellAt E a c H1 := by
  rcases c with ⟨ci, fs⟩ | ⟨ty, n, f⟩ | ⟨ty, n, f⟩
  · rcases h with ⟨h1, h2, cell, h3⟩ | ⟨h1, h2, h3, h4⟩
    · exact Or.inl ⟨h1, h2, cell, hq.trans h3.1, h3.2⟩
    · exact Or.inr ⟨h1, h2, h3, h4.kept hq⟩
  · exact ⟨h.1, h.2.1, h.2.2.1, hq.trans h.2.2.2⟩
  · exact ⟨h.1, h.2.1, hq.trans h.2.2⟩
theorem cellAt.lt {E : EP} {a : Nat} {c : AC} {H : Heap} (h : cellAt E a c H) : adr E a < H.size := by
  rcases c with ⟨ci, fs⟩ | ⟨ty, n, f⟩ | ⟨ty, n, f⟩
  · rcases h with ⟨h1, h2, cell, h3⟩ | ⟨h1, h2, h3, h4⟩
    · exact (Array.getElem?_eq_some_iff.mp h3.1).1
    · exact h4.lt
  · exact (Array.getElem?_eq_some_iff.mp h.2.2.2).1
  · exact (Array.getElem?_eq_some_iff.mp h.2.2).1
/-- a cell that isn't dead lies in the heap, or is one of the two that were there -/
theorem HS.at {E : EP} {σ : ST} {H : Heap} (h : HS E σ H) {a : Nat} (ha : σ.1 a ≠ DEAD) (h0 : a ≠ 0) (h1 : a ≠ 1) : 64 ≤ a ∧ a < σ.2.1 ∧ cellAt E a (σ.1 a) H := by
  obtain ⟨k1, k2, k3, k4, k5, k6, k7, k8⟩ := h
  have g1 : a < σ.2.1 := Nat.not_le.mp fun q => ha (k5 a q)
  have g2 : 64 ≤ a := Nat.not_lt.mp fun q => ha (k6 a (by omega) q)
  exact ⟨g2, g1, k4 a g2 g1⟩
theorem HS.obj {E : EP} {σ : ST} {H : Heap} (h : HS E σ H) {a ci : Nat} {fs : List AV} (ha : σ.1 a = .inl (ci, fs)) (hc : ci ≠ 1000) : 64 ≤ a ∧ a < σ.2.1 ∧ cellAt E a (.inl (ci, fs)) H := by
  have h0 : a ≠ 0 := fun e => by rw [e, h.2.2.2.2.2.2.1] at ha; cases ha
  have h1 : a ≠ 1 := fun e => by rw [e, h.2.2.2.2.2.2.2] at ha; cases ha
  have := h.at (a := a) (by rw [ha]; intro e; cases e; exact hc rfl) h0 h1
  rw [ha] at this
  exact this
theorem HS.num {E : EP} {σ : ST} {H : Heap} (h : HS E σ H) {a ty n : Nat} {f : Nat → Int} (ha : σ.1 a = .inr (.inl (ty, n, f))) (hc : ty ≠ 100) : 64 ≤ a ∧ a < σ.2.1 ∧ cellAt E a (.inr (.inl (ty, n, f))) H := by
  have h0 : a ≠ 0 := fun e => by rw [e, h.2.2.2.2.2.2.1] at ha; cases ha; exact hc rfl
  have h1 : a ≠ 1 := fun e => by rw [e, h.2.2.2.2.2.2.2] at ha; cases ha
  have := h.at (a := a) (by rw [ha]; intro e; cases e) h0 h1
  rw [ha] at this
  exact this
theorem HS.rfs {E : EP} {σ : ST} {H : Heap} (h : HS E σ H) {a ty n : Nat} {f : Nat → Option Nat} (ha : σ.1 a = .inr (.inr (ty, n, f))) (hc : ty ≠ 101) : 64 ≤ a ∧ a < σ.2.1 ∧ cellAt E a (.inr (.inr (ty, n, f))) H := by
  have h0 : a ≠ 0 := fun e => by rw [e, h.2.2.2.2.2.2.1] at ha; cases ha
  have h1 : a ≠ 1 := fun e => by rw [e, h.2.2.2.2.2.2.2] at ha; cases ha; exact hc rfl
  have := h.at (a := a) (by rw [ha]; intro e; cases e) h0 h1
  rw [ha] at this
  exact this
/-- a cell of the store is written -/
theorem HS.set {E : EP} {σ : ST} {H H1 : Heap} (h : HS E σ H) {a : Nat} {c : AC} (ha : 64 ≤ a) (hl : a < σ.2.1) (hz : H1.size = H.size) (ho : ∀ q, q ≠ adr E a → H1[q]? = H[q]?) (hc : cellAt E a c H1) : HS E (sU σ a c) H1 := by
  obtain ⟨k1, k2, k3, k4, k5, k6, k7, k8⟩ := h
  have hg := adr_ge (E := E) ha
  refine ⟨k1, hz.trans k2, fun q hq => (ho q (by omega)).trans (k3 q hq), fun b hb hb2 => ?_, fun b hb => ?_, fun b hb hb2 => ?_, ?_, ?_⟩
  · show cellAt E b (if b = a then c else σ.1 b) H1
    by_cases e : b = a
    · rw [if_pos e, e]; exact hc
    · rw [if_neg e]
      exact (k4 b hb hb2).kept (ho _ fun q => e (adr_inj hb ha q))
  · show (if b = a then c else σ.1 b) = DEAD
    have hb' : σ.2.1 ≤ b := hb
    rw [if_neg (by omega)]; exact k5 b hb
  · show (if b = a then c else σ.1 b) = DEAD
    rw [if_neg (by omega)]; exact k6 b hb hb2
  · show (if 0 = a then c else σ.1 0) = _
    rw [if_neg (by omega)]; exact k7
  · show (if 1 = a then c else σ.1 1) = _
    rw [if_neg (by omega)]; exact k8
/-- a cell comes -/
theorem HS.new {E : EP} {σ : ST} {H H1 : Heap} (h : HS E σ H) {c : AC} {k : Nat} (hz : H1.size = H.size + 1) (ho : ∀ q, q < H.size → H1[q]? = H[q]?) (hc : cellAt E σ.2.1 c H1) : HS E (sN σ c k) H1 := by
  obtain ⟨k1, k2, k3, k4, k5, k6, k7, k8⟩ := h
  refine ⟨Nat.le_succ_of_le k1, ?_, fun q hq => (ho q (by omega)).trans (k3 q hq), fun b hb hb2 => ?_, fun b hb => ?_, fun b hb hb2 => ?_, ?_, ?_⟩
  · show H1.size = eN E + (σ.2.1 + 1 - 64)
    omega
  · show cellAt E b (if b = σ.2.1 then c else σ.1 b) H1
    have hb2' : b < σ.2.1 + 1 := hb2
    by_cases e : b = σ.2.1
    · rw [if_pos e, e]; exact hc
    · rw [if_neg e]
      have h4 := k4 b hb (by omega)
      exact h4.kept (ho _ h4.lt)
  · show (if b = σ.2.1 then c else σ.1 b) = DEAD
    have hb' : σ.2.1 + 1 ≤ b := hb
    rw [if_neg (by omega)]; exact k5 b (by omega)
  · show (if b = σ.2.1 then c else σ.1 b) = DEAD
    rw [if_neg (by omega)]; exact k6 b hb hb2
  · show (if 0 = σ.2.1 then c else σ.1 0) = _
    rw [if_neg (by omega)]; exact k7
  · show (if 1 = σ.2.1 then c else σ.1 1) = _
    rw [if_neg (by omega)]; exact k8
theorem HS.nxt {E : EP} {σ : ST} {H : Heap} (h : HS E σ H) : adr E σ.2.1 = H.size := by
  rw [adr_hi h.1, h.2.1]
