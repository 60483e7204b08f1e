/-! THE SECOND LAYER: the store by places. ints and longs, references, shapes ((1, class, 0) an object, (2, type, length) an array of numbers, (3, type, length) of references), the next address, slots -/
abbrev SH : Type := Nat × Nat × Nat
abbrev T2 : Type := (Nat → Nat → Int) × (Nat → Nat → Option Nat) × (Nat → SH) × Nat × Nat
def tI (τ : T2) : Nat → Nat → Int := τ.1
def tP (τ : T2) : Nat → Nat → Option Nat := τ.2.1
def tS (τ : T2) : Nat → SH := τ.2.2.1
def tN (τ : T2) : Nat := τ.2.2.2.1
def tZ (τ : T2) : Nat := τ.2.2.2.2
/-- a field's value by its kind -/
def fv (kd : Nat) (x : Int) (q : Option Nat) : AV := if kd = 3 then .inr (.inl x) else if kd = 4 then .inr (.inr q) else .inl x
def mkF : List Nat → Nat → (Nat → Int) → (Nat → Option Nat) → List AV
  | [], _, _, _ => []
  | kd :: r, k, i, p => fv kd (i k) (p k) :: mkF r (k + 1) i p
def mkC (s : SH) (i : Nat → Int) (p : Nat → Option Nat) : AC := match s with
  | (1, ci, _) => .inl (ci, mkF (FKs.getD ci []) 0 i p)
  | (2, ty, n) => .inr (.inl (ty, n, i))
  | (3, ty, n) => .inr (.inr (ty, n, p))
  | _ => DEAD
def toST (τ : T2) : ST := (fun a => mkC (tS τ a) (tI τ a) (tP τ a), tN τ, tZ τ)
/-- one place written; a row written; a cell that comes -/
def up {α : Type} (f : Nat → Nat → α) (a k : Nat) (x : α) : Nat → Nat → α := fun b j => if b = a ∧ j = k then x else f b j
def rw2 {α : Type} (f : Nat → Nat → α) (a : Nat) (g : Nat → α) : Nat → Nat → α := fun b j => if b = a then g j else f b j
def uI (τ : T2) (a k : Nat) (x : Int) : T2 := (up (tI τ) a k x, tP τ, tS τ, tN τ, tZ τ)
def uP (τ : T2) (a k : Nat) (x : Option Nat) : T2 := (tI τ, up (tP τ) a k x, tS τ, tN τ, tZ τ)
def rI (τ : T2) (a : Nat) (g : Nat → Int) : T2 := (rw2 (tI τ) a g, tP τ, tS τ, tN τ, tZ τ)
def rP (τ : T2) (a : Nat) (g : Nat → Option Nat) : T2 := (tI τ, rw2 (tP τ) a g, tS τ, tN τ, tZ τ)
def nC (τ : T2) (s : SH) (k : Nat) : T2 := (rw2 (tI τ) (tN τ) (fun _ => 0), rw2 (tP τ) (tN τ) (fun _ => none), (fun b => if b = tN τ then s else tS τ b), tN τ + 1, tZ τ + k)
theorem mkF_at : ∀ (ks : List Nat) (j k : Nat) (i : Nat → Int) (p : Nat → Option Nat), (mkF ks j i p)[k]? = (ks[k]?).map fun kd => fv kd (i (j + k)) (p (j + k))
  | [], _, _, _, _ => by simp [mkF]
  | kd :: r, j, 0, i, p => by simp [mkF]
  | kd :: r, j, k + 1, i, p => by
    simp only [mkF, List.getElem?_cons_succ]
    rw [mkF_at r (j + 1) k i p, show j + 1 + k = j + (k + 1) by omega]
theorem mkF_len : ∀ (ks : List Nat) (j : Nat) (i : Nat → Int) (p : Nat → Option Nat), (mkF ks j i p).length = ks.length
  | [], _, _, _ => rfl
  | kd :: r, j, i, p => by simp [mkF, mkF_len r]
/-- a field of numbers is written -/
theorem mkF_i {ks : List Nat} {k kd : Nat} {i : Nat → Int} {p : Nat → Option Nat} {x : Int} (h : ks[k]? = some kd) (h4 : kd ≠ 4) : mkF ks 0 (aU i k x) p = (mkF ks 0 i p).set k (fv kd x none) := by
  apply List.ext_getElem?
  intro j
  rw [List.getElem?_set, mkF_at, mkF_at, mkF_len, Nat.zero_add]
  by_cases e : k = j
  · subst e
    have hl : k < ks.length := (List.getElem?_eq_some_iff.mp h).1
    rw [if_pos rfl, if_pos hl, h]
    simp [fv, aU, h4]
  · rw [if_neg e]
    have e2 : aU i k x j = i j := if_neg (fun z => e z.symm)
    rw [e2]
theorem mkF_p {ks : List Nat} {k : Nat} {i : Nat → Int} {p : Nat → Option Nat} {x : Option Nat} (h : ks[k]? = some 4) : mkF ks 0 i (aU p k x) = (mkF ks 0 i p).set k (.inr (.inr x)) := by
  apply List.ext_getElem?
  intro j
  rw [List.getElem?_set, mkF_at, mkF_at, mkF_len, Nat.zero_add]
  by_cases e : k = j
  · subst e
    have hl : k < ks.length := (List.getElem?_eq_some_iff.mp h).1
    rw [if_pos rfl, if_pos hl, h]
    simp [fv, aU]
  · rw [if_neg e]
    have e2 : aU p k x j = p j := if_neg (fun z => e z.symm)
    rw [e2]
theorem up_row {α : Type} (f : Nat → Nat → α) (a k : Nat) (x : α) : up f a k x a = aU (f a) k x := by
  funext j
  unfold up aU
  by_cases h : j = k
  · rw [if_pos ⟨rfl, h⟩, if_pos h]
  · rw [if_neg (fun z => h z.2), if_neg h]
theorem up_oth {α : Type} (f : Nat → Nat → α) {a b : Nat} (k : Nat) (x : α) (h : b ≠ a) : up f a k x b = f b := by
  funext j
  exact if_neg (fun z => h z.1)
theorem rw2_row {α : Type} (f : Nat → Nat → α) (a : Nat) (g : Nat → α) : rw2 f a g a = g := by
  funext j
  exact if_pos rfl
theorem rw2_oth {α : Type} (f : Nat → Nat → α) {a b : Nat} (g : Nat → α) (h : b ≠ a) : rw2 f a g b = f b := by
  funext j
  exact if_neg h
theorem toST_ext {σ : ST} {τ : T2} (h : ∀ a, σ.1 a = mkC (tS τ a) (tI τ a) (tP τ a)) (h1 : σ.2.1 = tN τ) (h2 : σ.2.2 = tZ τ) : toST τ = σ := by
  obtain ⟨f, n, k⟩ := σ
  unfold toST
  rw [show f = fun a => mkC (tS τ a) (tI τ a) (tP τ a) from funext h]
  have h1 : n = tN τ := h1
  have h2 : k = tZ τ := h2
  rw [h1, h2]
theorem toST_at (τ : T2) (a : Nat) : (toST τ).1 a = mkC (tS τ a) (tI τ a) (tP τ a) := rfl
theorem toST_uI {τ : T2} {a k : Nat} {x : Int} : toST (uI τ a k x) = sU (toST τ) a (mkC (tS τ a) (aU (tI τ a) k x) (tP τ a)) := by
  refine toST_ext (fun b => ?_) rfl rfl
  show (if b = a then _ else mkC (tS τ b) (tI τ b) (tP τ b)) = mkC (tS τ b) (up (tI τ) a k x b) (tP τ b)
  by_cases h : b = a
  · subst h
    rw [if_pos rfl, up_row]
  · rw [if_neg h, up_oth _ _ _ h]
theorem toST_uP {τ : T2} {a k : Nat} {x : Option Nat} : toST (uP τ a k x) = sU (toST τ) a (mkC (tS τ a) (tI τ a) (aU (tP τ a) k x)) := by
  refine toST_ext (fun b => ?_) rfl rfl
  show (if b = a then _ else mkC (tS τ b) (tI τ b) (tP τ b)) = mkC (tS τ b) (tI τ b) (up (tP τ) a k x b)
  by_cases h : b = a
  · subst h
    rw [if_pos rfl, up_row]
  · rw [if_neg h, up_oth _ _ _ h]
theorem toST_rI {τ : T2} {a : Nat} {g : Nat → Int} : toST (rI τ a g) = sU (toST τ) a (mkC (tS τ a) g (tP τ a)) := by
  refine toST_ext (fun b => ?_) rfl rfl
  show (if b = a then _ else mkC (tS τ b) (tI τ b) (tP τ b)) = mkC (tS τ b) (rw2 (tI τ) a g b) (tP τ b)
  by_cases h : b = a
  · subst h
    rw [if_pos rfl, rw2_row]
  · rw [if_neg h, rw2_oth _ _ h]
theorem toST_rP {τ : T2} {a : Nat} {g : Nat → Option Nat} : toST (rP τ a g) = sU (toST τ) a (mkC (tS τ a) (tI τ a) g) := by
  refine toST_ext (fun b => ?_) rfl rfl
  show (if b = a then _ else mkC (tS τ b) (tI τ b) (tP τ b)) = mkC (tS τ b) (tI τ b) (rw2 (tP τ) a g b)
  by_cases h : b = a
  · subst h
    rw [if_pos rfl, rw2_row]
  · rw [if_neg h, rw2_oth _ _ h]
theorem toST_nC {τ : T2} {s : SH} {k : Nat} : toST (nC τ s k) = sN (toST τ) (mkC s (fun _ => 0) (fun _ => none)) k := by
  refine toST_ext (fun b => ?_) rfl rfl
  show (if b = tN τ then _ else mkC (tS τ b) (tI τ b) (tP τ b)) = mkC (if b = tN τ then s else tS τ b) (rw2 (tI τ) (tN τ) (fun _ => 0) b) (rw2 (tP τ) (tN τ) (fun _ => none) b)
  by_cases h : b = tN τ
  · subst h
    rw [if_pos rfl, if_pos rfl, rw2_row, rw2_row]
  · rw [if_neg h, if_neg h, rw2_oth _ _ h, rw2_oth _ _ h]
/-- from here the method comes to an end that is as told -/
def G (d mi pc : Nat) (L : LO) (st : List AV) (τ : T2) (Q : RS → T2 → Prop) : Prop := ∃ n r τ1, run n d mi pc L st (toST τ) = some (r, toST τ1) ∧ Q r τ1
section GG
variable {d mi pc pc1 len : Nat} {L L1 : LO} {st st1 : List AV} {τ τ1 : T2} {Q Q1 : RS → T2 → Prop}
theorem G_mono (h : G d mi pc L st τ Q) (hq : ∀ r τ1, Q r τ1 → Q1 r τ1) : G d mi pc L st τ Q1 := by
  obtain ⟨n, r, τ1, h1, h2⟩ := h
  exact ⟨n, r, τ1, h1, hq r τ1 h2⟩
theorem G_deep {d1 : Nat} (h : G d mi pc L st τ Q) (hd : d ≤ d1) : G d1 mi pc L st τ Q := by
  obtain ⟨n, r, τ1, h1, h2⟩ := h
  exact ⟨n, r, τ1, run_le n (Nat.le_refl n) hd h1, h2⟩
theorem g_st {i : ClassFile.Instr} (hc : CD mi pc = some (i, len)) (hs : stepI mi pc i len L st (toST τ) = some (.inl ((pc1, L1, st1), toST τ1))) (k : G d mi pc1 L1 st1 τ1 Q) : G d mi pc L st τ Q := by
  obtain ⟨n, r, τ2, h1, h2⟩ := k
  refine ⟨n + 1, r, τ2, ?_, h2⟩
  simp only [run]
  rw [show step mi pc L st (toST τ) = some (.inl ((pc1, L1, st1), toST τ1)) by unfold step; rw [hc]; exact hs]
  exact h1
theorem g_ret {i : ClassFile.Instr} {v : Option AV} (hc : CD mi pc = some (i, len)) (hs : stepI mi pc i len L st (toST τ) = some (.inr (.inr (.inl v, toST τ)))) (k : Q (.inl v) τ) : G d mi pc L st τ Q := by
  refine ⟨1, .inl v, τ, ?_, k⟩
  simp only [run]
  rw [show step mi pc L st (toST τ) = some (.inr (.inr (.inl v, toST τ))) by unfold step; rw [hc]; exact hs]
/-- branches -/
theorem g_br1 {c : ClassFile.Cond} {o : Int} {x : Int} {t : Nat} (hc : CD mi pc = some (.ifCond c o, 3)) (ht : tgt pc o = some t) (kt : cmpI c x 0 = true → G d mi t L st τ Q) (kf : cmpI c x 0 = false → G d mi (pc + 3) L st τ Q) : G d mi pc L (.inl x :: st) τ Q := by
  cases h : cmpI c x 0 with
  | true => exact g_st hc (by show br (pc + 3) (tgt pc o) L st (toST τ) (cmpI c x 0) = _; rw [ht, h]; rfl) (kt h)
  | false => exact g_st hc (by show br (pc + 3) (tgt pc o) L st (toST τ) (cmpI c x 0) = _; rw [ht, h]; rfl) (kf h)
theorem g_br2 {c : ClassFile.Cond} {o : Int} {x y : Int} {t : Nat} (hc : CD mi pc = some (.if_icmp c o, 3)) (ht : tgt pc o = some t) (kt : cmpI c x y = true → G d mi t L st τ Q) (kf : cmpI c x y = false → G d mi (pc + 3) L st τ Q) : G d mi pc L (.inl y :: .inl x :: st) τ Q := by
  cases h : cmpI c x y with
  | true => exact g_st hc (by show br (pc + 3) (tgt pc o) L st (toST τ) (cmpI c x y) = _; rw [ht, h]; rfl) (kt h)
  | false => exact g_st hc (by show br (pc + 3) (tgt pc o) L st (toST τ) (cmpI c x y) = _; rw [ht, h]; rfl) (kf h)
theorem g_nul {o : Int} {x : Option Nat} {t : Nat} (hc : CD mi pc = some (.ifnull o, 3)) (ht : tgt pc o = some t) (kt : x = none → G d mi t L st τ Q) (kf : ∀ a, x = some a → G d mi (pc + 3) L st τ Q) : G d mi pc L (.inr (.inr x) :: st) τ Q := by
  cases x with
  | none => exact g_st hc (by show br (pc + 3) (tgt pc o) L st (toST τ) true = _; rw [ht]; rfl) (kt rfl)
  | some a => exact g_st hc (by show br (pc + 3) (tgt pc o) L st (toST τ) false = _; rw [ht]; rfl) (kf a rfl)
theorem g_nnl {o : Int} {x : Option Nat} {t : Nat} (hc : CD mi pc = some (.ifnonnull o, 3)) (ht : tgt pc o = some t) (kt : ∀ a, x = some a → G d mi t L st τ Q) (kf : x = none → G d mi (pc + 3) L st τ Q) : G d mi pc L (.inr (.inr x) :: st) τ Q := by
  cases x with
  | none => exact g_st hc (by show br (pc + 3) (tgt pc o) L st (toST τ) false = _; rw [ht]; rfl) (kf rfl)
  | some a => exact g_st hc (by show br (pc + 3) (tgt pc o) L st (toST τ) true = _; rw [ht]; rfl) (kt a rfl)
/-- fields -/
def gfC (mi ix ci k kd : Nat) : Bool := match FL mi ix with
  | some (k1, cis, _) => Nat.beq k1 k && cis.elem ci && (match (FKs.getD ci [])[k]? with
    | some q => Nat.beq q kd
    | none => false)
  | none => false
theorem gfC_at {mi ix ci k kd : Nat} (h : gfC mi ix ci k kd = true) : ∃ cis tag, FL mi ix = some (k, cis, tag) ∧ ci ∈ cis ∧ (FKs.getD ci [])[k]? = some kd := by
  unfold gfC at h
  split at h
  · rename_i k1 cis tag hf
    simp only [Bool.and_eq_true] at h
    obtain ⟨⟨h1, h2⟩, h3⟩ := h
    rw [Nat.beq_eq] at h1
    subst h1
    split at h3
    · rename_i q hq
      rw [Nat.beq_eq] at h3
      subst h3
      exact ⟨cis, tag, hf, List.elem_iff.mp h2, hq⟩
    · cases h3
  · cases h
theorem mkC_o {ci z : Nat} {i : Nat → Int} {p : Nat → Option Nat} : mkC (1, ci, z) i p = .inl (ci, mkF (FKs.getD ci []) 0 i p) := rfl
theorem g_get {ix ci k kd z a : Nat} (hc : CD mi pc = some (.getfield ix, 3)) (hf : gfC mi ix ci k kd = true) (hs : tS τ a = (1, ci, z)) (kk : G d mi (pc + 3) L (fv kd (tI τ a k) (tP τ a k) :: st) τ Q) : G d mi pc L (.inr (.inr (some a)) :: st) τ Q := by
  obtain ⟨cis, tag, h1, h2, h3⟩ := gfC_at hf
  refine g_st hc ?_ kk
  show (match FL mi ix with | some (k, cis, _) => gs (pc + 3) L (toST τ) (gfd k cis (.inr (.inr (some a)) :: st) (toST τ)) | none => none) = _
  rw [h1]
  show gs (pc + 3) L (toST τ) (match (toST τ).1 a with | .inl (ci, fs) => if ci ∈ cis then match fs[k]? with | some v => some (v :: st) | none => none else none | _ => none) = _
  rw [toST_at, hs, mkC_o]
  show gs (pc + 3) L (toST τ) (if ci ∈ cis then match (mkF (FKs.getD ci []) 0 (tI τ a) (tP τ a))[k]? with | some v => some (v :: st) | none => none else none) = _
  rw [if_pos h2, mkF_at, h3, Nat.zero_add]
  rfl
theorem g_putI {ix ci k kd z a : Nat} {v : AV} {x : Int} (hc : CD mi pc = some (.putfield ix, 3)) (hf : gfC mi ix ci k kd = true) (h4 : kd ≠ 4) (hv : fv kd x none = v) (hok : okF kd v = true) (hs : tS τ a = (1, ci, z)) (kk : G d mi (pc + 3) L st (uI τ a k x) Q) : G d mi pc L (v :: .inr (.inr (some a)) :: st) τ Q := by
  obtain ⟨cis, tag, h1, h2, h3⟩ := gfC_at hf
  refine g_st hc ?_ kk
  show (match FL mi ix with | some (k, cis, _) => pfd (pc + 3) L k cis (v :: .inr (.inr (some a)) :: st) (toST τ) | none => none) = _
  rw [h1]
  have hl : k < (FKs.getD ci []).length := (List.getElem?_eq_some_iff.mp h3).1
  show (match (toST τ).1 a with | .inl (ci, fs) => if ci ∈ cis ∧ k < fs.length ∧ okF ((FKs.getD ci []).getD k 9) v = true then some (.inl ((pc + 3, L, st), sU (toST τ) a (.inl (ci, fs.set k v)))) else none | _ => none : Option SO) = _
  rw [toST_at, hs, mkC_o]
  show (if ci ∈ cis ∧ k < (mkF (FKs.getD ci []) 0 (tI τ a) (tP τ a)).length ∧ okF ((FKs.getD ci []).getD k 9) v = true then _ else none) = _
  rw [if_pos ⟨h2, by rw [mkF_len]; exact hl, by rw [List.getD_eq_getElem?_getD, h3]; exact hok⟩, toST_uI, hs, mkC_o, mkF_i h3 h4, hv]
theorem g_putP {ix ci k z a : Nat} {x : Option Nat} (hc : CD mi pc = some (.putfield ix, 3)) (hf : gfC mi ix ci k 4 = true) (hs : tS τ a = (1, ci, z)) (kk : G d mi (pc + 3) L st (uP τ a k x) Q) : G d mi pc L (.inr (.inr x) :: .inr (.inr (some a)) :: st) τ Q := by
  obtain ⟨cis, tag, h1, h2, h3⟩ := gfC_at hf
  refine g_st hc ?_ kk
  show (match FL mi ix with | some (k, cis, _) => pfd (pc + 3) L k cis (.inr (.inr x) :: .inr (.inr (some a)) :: st) (toST τ) | none => none) = _
  rw [h1]
  have hl : k < (FKs.getD ci []).length := (List.getElem?_eq_some_iff.mp h3).1
  show (match (toST τ).1 a with | .inl (ci, fs) => if ci ∈ cis ∧ k < fs.length ∧ okF ((FKs.getD ci []).getD k 9) (.inr (.inr x)) = true then some (.inl ((pc + 3, L, st), sU (toST τ) a (.inl (ci, fs.set k (.inr (.inr x)))))) else none | _ => none : Option SO) = _
  rw [toST_at, hs, mkC_o]
  show (if ci ∈ cis ∧ k < (mkF (FKs.getD ci []) 0 (tI τ a) (tP τ a)).length ∧ okF ((FKs.getD ci []).getD k 9) (.inr (.inr x)) = true then _ else none) = _
  rw [if_pos ⟨h2, by rw [mkF_len]; exact hl, by rw [List.getD_eq_getElem?_getD, h3]; rfl⟩, toST_uP, hs, mkC_o, mkF_p h3]
/-- arrays -/
theorem g_al2 {a ty n : Nat} (hc : CD mi pc = some (.arraylength, 1)) (hs : tS τ a = (2, ty, n)) (kk : G d mi (pc + 1) L (.inl (n : Int) :: st) τ Q) : G d mi pc L (.inr (.inr (some a)) :: st) τ Q := by
  refine g_st hc ?_ kk
  show gs (pc + 1) L (toST τ) (match (toST τ).1 a with | .inr (.inl (_, n, _)) => some (.inl (n : Int) :: st) | .inr (.inr (_, n, _)) => some (.inl (n : Int) :: st) | _ => none) = _
  rw [toST_at, hs]
  rfl
theorem g_al3 {a ty n : Nat} (hc : CD mi pc = some (.arraylength, 1)) (hs : tS τ a = (3, ty, n)) (kk : G d mi (pc + 1) L (.inl (n : Int) :: st) τ Q) : G d mi pc L (.inr (.inr (some a)) :: st) τ Q := by
  refine g_st hc ?_ kk
  show gs (pc + 1) L (toST τ) (match (toST τ).1 a with | .inr (.inl (_, n, _)) => some (.inl (n : Int) :: st) | .inr (.inr (_, n, _)) => some (.inl (n : Int) :: st) | _ => none) = _
  rw [toST_at, hs]
  rfl
theorem ald_at {a ty n : Nat} {i : Int} {tys : List Nat} (hs : tS τ a = (2, ty, n)) (ht : ty ∈ tys) (h0 : 0 ≤ i) (h1 : i < n) : ald tys (.inl i :: .inr (.inr (some a)) :: st) (toST τ) = some (.inl (tI τ a i.toNat) :: st) := by
  show (match (toST τ).1 a with | .inr (.inl (ty, n, f)) => if ty ∈ tys ∧ 0 ≤ i ∧ i < n then some (.inl (f i.toNat) :: st) else none | _ => none : Option (List AV)) = _
  rw [toST_at, hs]
  exact if_pos ⟨ht, h0, h1⟩
theorem g_iald {a ty n : Nat} {i : Int} (hc : CD mi pc = some (.iaload, 1)) (hs : tS τ a = (2, ty, n)) (ht : ty ∈ [0, 100]) (h0 : 0 ≤ i) (h1 : i < n) (kk : G d mi (pc + 1) L (.inl (tI τ a i.toNat) :: st) τ Q) : G d mi pc L (.inl i :: .inr (.inr (some a)) :: st) τ Q := by
  refine g_st hc ?_ kk
  show gs (pc + 1) L (toST τ) (ald [0, 100] _ _) = _
  rw [ald_at hs ht h0 h1]
  rfl
theorem g_bald {a ty n : Nat} {i : Int} (hc : CD mi pc = some (.baload, 1)) (hs : tS τ a = (2, ty, n)) (ht : ty ∈ [1, 2]) (h0 : 0 ≤ i) (h1 : i < n) (kk : G d mi (pc + 1) L (.inl (tI τ a i.toNat) :: st) τ Q) : G d mi pc L (.inl i :: .inr (.inr (some a)) :: st) τ Q := by
  refine g_st hc ?_ kk
  show gs (pc + 1) L (toST τ) (ald [1, 2] _ _) = _
  rw [ald_at hs ht h0 h1]
  rfl
theorem g_lald {a n : Nat} {i : Int} (hc : CD mi pc = some (.laload, 1)) (hs : tS τ a = (2, 3, n)) (h0 : 0 ≤ i) (h1 : i < n) (kk : G d mi (pc + 1) L (.inr (.inl (tI τ a i.toNat)) :: st) τ Q) : G d mi pc L (.inl i :: .inr (.inr (some a)) :: st) τ Q := by
  refine g_st hc ?_ kk
  show gs (pc + 1) L (toST τ) (match (toST τ).1 a with | .inr (.inl (ty, n, f)) => if ty = 3 ∧ 0 ≤ i ∧ i < n then some (.inr (.inl (f i.toNat)) :: st) else none | _ => none) = _
  rw [toST_at, hs]
  show gs (pc + 1) L (toST τ) (if 3 = 3 ∧ 0 ≤ i ∧ i < n then _ else none) = _
  rw [if_pos ⟨rfl, h0, h1⟩]
  rfl
theorem g_aald {a ty n : Nat} {i : Int} (hc : CD mi pc = some (.aaload, 1)) (hs : tS τ a = (3, ty, n)) (ht : ty < 100) (h0 : 0 ≤ i) (h1 : i < n) (kk : G d mi (pc + 1) L (.inr (.inr (tP τ a i.toNat)) :: st) τ Q) : G d mi pc L (.inl i :: .inr (.inr (some a)) :: st) τ Q := by
  refine g_st hc ?_ kk
  show gs (pc + 1) L (toST τ) (match (toST τ).1 a with | .inr (.inr (ty, n, f)) => if ty < 100 ∧ 0 ≤ i ∧ i < n then some (.inr (.inr (f i.toNat)) :: st) else none | _ => none) = _
  rw [toST_at, hs]
  show gs (pc + 1) L (toST τ) (if ty < 100 ∧ 0 ≤ i ∧ i < n then _ else none) = _
  rw [if_pos ⟨ht, h0, h1⟩]
  rfl
theorem g_iast {a n : Nat} {i x : Int} (hc : CD mi pc = some (.iastore, 1)) (hs : tS τ a = (2, 0, n)) (h0 : 0 ≤ i) (h1 : i < n) (kk : G d mi (pc + 1) L st (uI τ a i.toNat x) Q) : G d mi pc L (.inl x :: .inl i :: .inr (.inr (some a)) :: st) τ Q := by
  refine g_st hc ?_ kk
  show (match (toST τ).1 a with | .inr (.inl (ty, n, f)) => if ty = 0 ∧ 0 ≤ i ∧ i < n then some (.inl ((pc + 1, L, st), sU (toST τ) a (.inr (.inl (ty, n, aU f i.toNat x))))) else none | _ => none : Option SO) = _
  rw [toST_at, hs]
  show (if 0 = 0 ∧ 0 ≤ i ∧ i < n then _ else none) = _
  rw [if_pos ⟨rfl, h0, h1⟩, toST_uI, hs]
  rfl
theorem g_bast {a n : Nat} {i x : Int} (hc : CD mi pc = some (.bastore, 1)) (hs : tS τ a = (2, 1, n)) (h0 : 0 ≤ i) (h1 : i < n) (kk : G d mi (pc + 1) L st (uI τ a i.toNat (zbyt x)) Q) : G d mi pc L (.inl x :: .inl i :: .inr (.inr (some a)) :: st) τ Q := by
  refine g_st hc ?_ kk
  show (match (toST τ).1 a with | .inr (.inl (ty, n, f)) => if (ty = 1 ∨ (ty = 2 ∧ (x = 0 ∨ x = 1))) ∧ 0 ≤ i ∧ i < n then some (.inl ((pc + 1, L, st), sU (toST τ) a (.inr (.inl (ty, n, aU f i.toNat (if ty = 1 then zbyt x else x)))))) else none | _ => none : Option SO) = _
  rw [toST_at, hs]
  show (if (1 = 1 ∨ (1 = 2 ∧ (x = 0 ∨ x = 1))) ∧ 0 ≤ i ∧ i < n then _ else none) = _
  rw [if_pos ⟨Or.inl rfl, h0, h1⟩, toST_uI, hs]
  rfl
theorem g_zast {a n : Nat} {i x : Int} (hc : CD mi pc = some (.bastore, 1)) (hs : tS τ a = (2, 2, n)) (hx : x = 0 ∨ x = 1) (h0 : 0 ≤ i) (h1 : i < n) (kk : G d mi (pc + 1) L st (uI τ a i.toNat x) Q) : G d mi pc L (.inl x :: .inl i :: .inr (.inr (some a)) :: st) τ Q := by
  refine g_st hc ?_ kk
  show (match (toST τ).1 a with | .inr (.inl (ty, n, f)) => if (ty = 1 ∨ (ty = 2 ∧ (x = 0 ∨ x = 1))) ∧ 0 ≤ i ∧ i < n then some (.inl ((pc + 1, L, st), sU (toST τ) a (.inr (.inl (ty, n, aU f i.toNat (if ty = 1 then zbyt x else x)))))) else none | _ => none : Option SO) = _
  rw [toST_at, hs]
  show (if (2 = 1 ∨ (2 = 2 ∧ (x = 0 ∨ x = 1))) ∧ 0 ≤ i ∧ i < n then _ else none) = _
  rw [if_pos ⟨Or.inr ⟨rfl, hx⟩, h0, h1⟩, toST_uI, hs]
  rfl
theorem g_last {a n : Nat} {i x : Int} (hc : CD mi pc = some (.lastore, 1)) (hs : tS τ a = (2, 3, n)) (h0 : 0 ≤ i) (h1 : i < n) (kk : G d mi (pc + 1) L st (uI τ a i.toNat x) Q) : G d mi pc L (.inr (.inl x) :: .inl i :: .inr (.inr (some a)) :: st) τ Q := by
  refine g_st hc ?_ kk
  show (match (toST τ).1 a with | .inr (.inl (ty, n, f)) => if ty = 3 ∧ 0 ≤ i ∧ i < n then some (.inl ((pc + 1, L, st), sU (toST τ) a (.inr (.inl (ty, n, aU f i.toNat x))))) else none | _ => none : Option SO) = _
  rw [toST_at, hs]
  show (if 3 = 3 ∧ 0 ≤ i ∧ i < n then _ else none) = _
  rw [if_pos ⟨rfl, h0, h1⟩, toST_uI, hs]
  rfl
/-- may the thing of this shape stand in an array of references of a type? -/
def okEs (ty : Nat) (s : SH) : Bool := okE ty (mkC s (fun _ => 0) (fun _ => none))
theorem okE_es {ty : Nat} {s : SH} {i : Nat → Int} {p : Nat → Option Nat} (h : okEs ty s = true) : okE ty (mkC s i p) = true := by
  unfold okEs at h
  obtain ⟨tg, ci, n⟩ := s
  match tg, h with
  | 0, h => exact h
  | 1, h => exact h
  | 2, h => exact h
  | 3, h => exact h
  | _ + 4, h => exact h
theorem g_aast {a ty n q : Nat} {i : Int} (hc : CD mi pc = some (.aastore, 1)) (hs : tS τ a = (3, ty, n)) (ht : ty < 100) (h0 : 0 ≤ i) (h1 : i < n) (he : okEs ty (tS τ q) = true) (kk : G d mi (pc + 1) L st (uP τ a i.toNat (some q)) Q) : G d mi pc L (.inr (.inr (some q)) :: .inl i :: .inr (.inr (some a)) :: st) τ Q := by
  refine g_st hc ?_ kk
  show (match (toST τ).1 a with | .inr (.inr (ty, n, f)) => if ty < 100 ∧ 0 ≤ i ∧ i < n ∧ okEo ty (some q) (toST τ) = true then some (.inl ((pc + 1, L, st), sU (toST τ) a (.inr (.inr (ty, n, aU f i.toNat (some q)))))) else none | _ => none : Option SO) = _
  rw [toST_at, hs]
  show (if ty < 100 ∧ 0 ≤ i ∧ i < n ∧ okEo ty (some q) (toST τ) = true then _ else none) = _
  rw [if_pos ⟨ht, h0, h1, okE_es he⟩, toST_uP, hs]
  rfl
theorem g_aastN {a ty n : Nat} {i : Int} (hc : CD mi pc = some (.aastore, 1)) (hs : tS τ a = (3, ty, n)) (ht : ty < 11) (h0 : 0 ≤ i) (h1 : i < n) (kk : G d mi (pc + 1) L st (uP τ a i.toNat none) Q) : G d mi pc L (.inr (.inr none) :: .inl i :: .inr (.inr (some a)) :: st) τ Q := by
  refine g_st hc ?_ kk
  show (match (toST τ).1 a with | .inr (.inr (ty, n, f)) => if ty < 100 ∧ 0 ≤ i ∧ i < n ∧ okEo ty none (toST τ) = true then some (.inl ((pc + 1, L, st), sU (toST τ) a (.inr (.inr (ty, n, aU f i.toNat none))))) else none | _ => none : Option SO) = _
  rw [toST_at, hs]
  show (if ty < 100 ∧ 0 ≤ i ∧ i < n ∧ okEo ty none (toST τ) = true then _ else none) = _
  rw [if_pos ⟨by omega, h0, h1, Nat.ble_eq_true_of_le ht⟩, toST_uP, hs]
  rfl
/-- things that come -/
theorem g_newa {t : ClassFile.ArrayType} {ty : Nat} {n : Int} (hc : CD mi pc = some (.newarray t, 2)) (ht : aty t = some ty) (h0 : 0 ≤ n) (h1 : n ≤ 1000000) (kk : G d mi (pc + 2) L (.inr (.inr (some (tN τ))) :: st) (nC τ (2, ty, n.toNat) n.toNat) Q) : G d mi pc L (.inl n :: st) τ Q := by
  refine g_st hc ?_ kk
  show nwa (pc + 2) L (aty t) (.inl n :: st) (toST τ) = _
  rw [ht, toST_nC]
  show (if 0 ≤ n ∧ n ≤ 1000000 then _ else none) = _
  rw [if_pos ⟨h0, h1⟩]
  rfl
theorem g_newq {ix ty : Nat} {n : Int} (hc : CD mi pc = some (.anewarray ix, 3)) (ht : AT mi ix = some ty) (h0 : 0 ≤ n) (h1 : n ≤ 1000000) (kk : G d mi (pc + 3) L (.inr (.inr (some (tN τ))) :: st) (nC τ (3, ty, n.toNat) n.toNat) Q) : G d mi pc L (.inl n :: st) τ Q := by
  refine g_st hc ?_ kk
  show nwq (pc + 3) L (AT mi ix) (.inl n :: st) (toST τ) = _
  rw [ht, toST_nC]
  show (if 0 ≤ n ∧ n ≤ 1000000 then _ else none) = _
  rw [if_pos ⟨h0, h1⟩]
  rfl
theorem DF_mk : (DFs.zipIdx.all fun x => decide (x.1 = mkF (FKs.getD x.2 []) 0 (fun _ => 0) (fun _ => none))) = true := by decide +kernel
theorem g_new {ix ci : Nat} (hc : CD mi pc = some (.new ix, 3)) (hn : NW mi ix = some ci) (h99 : ci ≠ 99) (hl : ci < DFs.length) (kk : G d mi (pc + 3) L (.inr (.inr (some (tN τ))) :: st) (nC τ (1, ci, 0) (FKs.getD ci []).length) Q) : G d mi pc L st τ Q := by
  refine g_st hc ?_ kk
  show nwo (pc + 3) L (NW mi ix) st (toST τ) = _
  have hd : DFs[ci]? = some (DFs[ci]) := List.getElem?_eq_getElem hl
  have h9 := List.all_eq_true.mp DF_mk (DFs[ci], ci) (by rw [List.mem_zipIdx_iff_getElem?]; exact hd)
  rw [decide_eq_true_eq] at h9
  dsimp only at h9
  rw [hn, toST_nC]
  show (if ci = 99 then _ else match DFs[ci]? with | some fs => some (.inl ((pc + 3, L, .inr (.inr (some (tN τ))) :: st), sN (toST τ) (.inl (ci, fs)) fs.length)) | none => none : Option SO) = _
  rw [if_neg h99, hd]
  show (some (Sum.inl ((pc + 3, L, _ :: st), sN (toST τ) (.inl (ci, DFs[ci])) (DFs[ci]).length)) : Option SO) = _
  rw [h9, mkF_len]
  rfl
/-- calls -/
def KC (d mi pc pc1 : Nat) (L : LO) (st : List AV) (Q : RS → T2 → Prop) : RS → T2 → Prop := fun r τ => match r with
  | .inl v => G d mi pc1 L (v.toList ++ st) τ Q
  | .inr a => (XO mi pc a (toST τ) = some none ∧ Q (.inr a) τ) ∨ ∃ h, XO mi pc a (toST τ) = some (some h) ∧ G d mi h L [.inr (.inr (some a))] τ Q
theorem g_call {i : ClassFile.Instr} {ix cm na rc kd : Nat} (hc : CD mi pc = some (i, len)) (hi : stepI mi pc i len L st (toST τ) = cal (pc + len) L i (ML mi ix) st (toST τ)) (hml : ML mi ix = some (cm, na, rc, kd)) (hcm : cm < 1000) (hna : na ≤ st.length) (hk : kdOf i kd = true) (hok : okC kd rc (st.take na).reverse (toST τ) = true) (hw : (Nat.ble (wt (st.drop na)) 8 && (Nat.ble 1000 cm || Nat.ble (iA (st.take na).reverse).length (MX cm))) = true) (hd : 1 ≤ d)
    (kk : G (d - 1) cm 0 (iL (MX cm) (st.take na).reverse) [] τ (KC d mi pc (pc + len) L (st.drop na) Q)) : G d mi pc L st τ Q := by
  obtain ⟨n1, r, τ1, h1, h2⟩ := kk
  obtain ⟨d1, rfl⟩ : ∃ d1, d = d1 + 1 := ⟨d - 1, by omega⟩
  have hst : step mi pc L st (toST τ) = some (.inr (.inl (cm, (st.take na).reverse, (pc + len, L, st.drop na)))) := by
    unfold step
    rw [hc]
    show stepI mi pc i len L st (toST τ) = _
    rw [hi, hml]
    exact if_pos ⟨hna, hk, hok, hw⟩
  have h1 : run n1 d1 cm 0 (iL (MX cm) (st.take na).reverse) [] (toST τ) = some (r, toST τ1) := h1
  cases r with
  | inl v =>
    obtain ⟨n2, r2, τ2, h3, h4⟩ : G (d1 + 1) mi (pc + len) L (v.toList ++ st.drop na) τ1 Q := h2
    refine ⟨n1 + n2 + 1, r2, τ2, ?_, h4⟩
    simp only [run]
    rw [hst]
    simp only [if_pos hcm]
    rw [run_le n1 (show n1 ≤ n1 + n2 by omega) (Nat.le_refl _) h1]
    exact run_le n2 (by omega) (Nat.le_refl _) h3
  | inr a =>
    have h2 : (XO mi pc a (toST τ1) = some none ∧ Q (.inr a) τ1) ∨ ∃ h, XO mi pc a (toST τ1) = some (some h) ∧ G (d1 + 1) mi h L [.inr (.inr (some a))] τ1 Q := h2
    rcases h2 with ⟨h3, h4⟩ | ⟨h9, h3, n2, r2, τ2, h5, h4⟩
    · refine ⟨n1 + 1, .inr a, τ1, ?_, h4⟩
      simp only [run]
      rw [hst]
      simp only [if_pos hcm]
      rw [h1]
      simp only [h3]
    · refine ⟨n1 + n2 + 1, r2, τ2, ?_, h4⟩
      simp only [run]
      rw [hst]
      simp only [if_pos hcm]
      rw [run_le n1 (show n1 ≤ n1 + n2 by omega) (Nat.le_refl _) h1]
      simp only [h3]
      exact run_le n2 (by omega) (Nat.le_refl _) h5
theorem kc_prop {ix a : Nat} (hc : CD mi pc = some (.invokevirtual ix, 3)) (hh : HD mi pc = none) (h : Q (.inr a) τ) : KC d mi pc pc1 L st Q (.inr a) τ := by
  refine Or.inl ⟨?_, h⟩
  unfold XO HX
  rw [hc, hh]
theorem HX_at {a h ci z : Nat} (hh : HD mi pc = some (h, ci)) (hs : tS τ a = (1, ci, z)) : HX mi pc a (toST τ) = some (some h) := by
  unfold HX
  rw [hh]
  show (match (toST τ).1 a with | .inl (cj, _) => if cj = ci then some (some h) else none | _ => none) = _
  rw [toST_at, hs, mkC_o]
  exact if_pos rfl
theorem kc_hand {ix a h ci z : Nat} (hc : CD mi pc = some (.invokevirtual ix, 3)) (hh : HD mi pc = some (h, ci)) (hs : tS τ a = (1, ci, z)) (k : G d mi h L [.inr (.inr (some a))] τ Q) : KC d mi pc pc1 L st Q (.inr a) τ := by
  refine Or.inr ⟨h, ?_, k⟩
  unfold XO
  rw [hc]
  exact HX_at hh hs
/-- a throw: it goes on to the caller, or is caught in the method -/
theorem g_thr {a z : Nat} {rest : List AV} (hc : CD mi pc = some (.athrow, 1)) (hs : tS τ a = (1, 18, z)) (hh : HD mi pc = none) (hd : 16 ≤ d) (hw : Nat.ble (wt rest) 7 = true) (k : Q (.inr a) τ) : G d mi pc L (.inr (.inr (some a)) :: rest) τ Q := by
  refine ⟨1, .inr a, τ, ?_, k⟩
  have hw := Nat.le_of_ble_eq_true hw
  have hst : step mi pc L (.inr (.inr (some a)) :: rest) (toST τ) = some (.inr (.inr (.inr a, toST τ))) := by
    unfold step
    rw [hc]
    show (match (toST τ).1 a with | .inl (18, _) => some (.inr (.inr (.inr a, toST τ))) | _ => none : Option SO) = _
    rw [toST_at, hs, mkC_o]
    rfl
  simp only [run]
  rw [hst]
  have e0 : ¬ (d < 16 ∨ 8 < wt (.inr (.inr (some a)) :: rest)) := by
    show ¬ (d < 16 ∨ 8 < 1 + wt rest)
    omega
  have e1 : HX mi pc a (toST τ) = some none := by
    unfold HX
    rw [hh]
  simp only [if_neg e0, e1]
theorem g_thi {a z h ci : Nat} {rest : List AV} (hc : CD mi pc = some (.athrow, 1)) (hs : tS τ a = (1, 18, z)) (hh : HD mi pc = some (h, 18)) (hd : 16 ≤ d) (hw : Nat.ble (wt rest) 7 = true) (k : G d mi h L [.inr (.inr (some a))] τ Q) : G d mi pc L (.inr (.inr (some a)) :: rest) τ Q := by
  obtain ⟨n2, r2, τ2, h3, h4⟩ := k
  refine ⟨n2 + 1, r2, τ2, ?_, h4⟩
  have hw := Nat.le_of_ble_eq_true hw
  have hst : step mi pc L (.inr (.inr (some a)) :: rest) (toST τ) = some (.inr (.inr (.inr a, toST τ))) := by
    unfold step
    rw [hc]
    show (match (toST τ).1 a with | .inl (18, _) => some (.inr (.inr (.inr a, toST τ))) | _ => none : Option SO) = _
    rw [toST_at, hs, mkC_o]
    rfl
  simp only [run]
  rw [hst]
  have e0 : ¬ (d < 16 ∨ 8 < wt (.inr (.inr (some a)) :: rest)) := by
    show ¬ (d < 16 ∨ 8 < 1 + wt rest)
    omega
  simp only [if_neg e0, HX_at hh hs]
  exact h3
/-- ends -/
theorem g_iret {x : Int} (hc : CD mi pc = some (.ireturn, 1)) (hr : RT mi = 0) (k : Q (.inl (some (.inl x))) τ) : G d mi pc L [.inl x] τ Q := by
  refine g_ret hc ?_ k
  show ret1 (RT mi) [.inl x] (toST τ) = _
  rw [hr]
  rfl
theorem g_zret {x : Int} (hc : CD mi pc = some (.ireturn, 1)) (hr : RT mi = 2) (hx : x = 0 ∨ x = 1) (k : Q (.inl (some (.inl x))) τ) : G d mi pc L [.inl x] τ Q := by
  refine g_ret hc ?_ k
  show ret1 (RT mi) [.inl x] (toST τ) = _
  rw [hr]
  rcases hx with rfl | rfl <;> rfl
theorem g_lret {x : Int} (hc : CD mi pc = some (.lreturn, 1)) (hr : RT mi = 3) (k : Q (.inl (some (.inr (.inl x)))) τ) : G d mi pc L [.inr (.inl x)] τ Q := by
  refine g_ret hc ?_ k
  show ret1 (RT mi) [.inr (.inl x)] (toST τ) = _
  rw [hr]
  rfl
theorem g_aret {x : Option Nat} (hc : CD mi pc = some (.areturn, 1)) (hr : RT mi = 4) (k : Q (.inl (some (.inr (.inr x)))) τ) : G d mi pc L [.inr (.inr x)] τ Q := by
  refine g_ret hc ?_ k
  show ret1 (RT mi) [.inr (.inr x)] (toST τ) = _
  rw [hr]
  rfl
theorem g_vret (hc : CD mi pc = some (.return_, 1)) (hr : RT mi = 9) (k : Q (.inl none) τ) : G d mi pc L [] τ Q := by
  refine g_ret hc ?_ k
  show (if RT mi = 9 then some (.inr (.inr (.inl none, toST τ))) else none : Option SO) = _
  rw [if_pos hr]
end GG
