/-! THE STATE: what has changed; what rules, forms and workings do; the core, and how both sides hold it -/
/-- only places of P, and new cells, have changed -/
def OC (P : Nat → Nat → Prop) (τ τ1 : T2) : Prop := tN τ ≤ tN τ1 ∧ tZ τ ≤ tZ τ1 ∧ (∀ a, a < tN τ → tS τ1 a = tS τ a) ∧ ∀ a k, a < tN τ → ¬ P a k → tI τ1 a k = tI τ a k ∧ tP τ1 a k = tP τ a k
section OCS
variable {P P1 : Nat → Nat → Prop} {τ τ1 τ2 : T2}
theorem OC.rf : OC P τ τ := ⟨Nat.le_refl _, Nat.le_refl _, fun _ _ => rfl, fun _ _ _ _ => ⟨rfl, rfl⟩⟩
theorem OC.tr (h : OC P τ τ1) (h1 : OC P τ1 τ2) : OC P τ τ2 := by
  obtain ⟨a1, a2, a3, a4⟩ := h
  obtain ⟨b1, b2, b3, b4⟩ := h1
  refine ⟨by omega, by omega, fun a ha => (b3 a (by omega)).trans (a3 a ha), fun a k ha hn => ?_⟩
  obtain ⟨c1, c2⟩ := a4 a k ha hn
  obtain ⟨d1, d2⟩ := b4 a k (by omega) hn
  exact ⟨d1.trans c1, d2.trans c2⟩
theorem OC.mo (h : OC P τ τ1) (hp : ∀ a k, P a k → P1 a k) : OC P1 τ τ1 := ⟨h.1, h.2.1, h.2.2.1, fun a k ha hn => h.2.2.2 a k ha fun z => hn (hp a k z)⟩
theorem OC.j {a k : Nat} {x : Int} (h : OC P τ τ1) (h1 : P a k) : OC P τ (uI τ1 a k x) := by
  refine h.tr ⟨Nat.le_refl _, Nat.le_refl _, fun _ _ => rfl, fun b j _ hn => ⟨?_, rfl⟩⟩
  rw [tI_uI, if_neg (fun e => hn (by rw [e.1, e.2]; exact h1))]
theorem OC.q {a k : Nat} {x : Option Nat} (h : OC P τ τ1) (h1 : P a k) : OC P τ (uP τ1 a k x) := by
  refine h.tr ⟨Nat.le_refl _, Nat.le_refl _, fun _ _ => rfl, fun b j _ hn => ⟨rfl, ?_⟩⟩
  rw [tP_uP, if_neg (fun e => hn (by rw [e.1, e.2]; exact h1))]
theorem OC.r {a : Nat} {g : Nat → Int} (h : OC P τ τ1) (h1 : ∀ k, P a k) : OC P τ (rI τ1 a g) := by
  refine h.tr ⟨Nat.le_refl _, Nat.le_refl _, fun _ _ => rfl, fun b j _ hn => ⟨?_, rfl⟩⟩
  exact congrFun (rw2_oth (tI τ1) g (fun e => hn (by rw [e]; exact h1 j))) j
theorem OC.n {s : SH} {k : Nat} (h : OC P τ τ1) : OC P τ (nC τ1 s k) := h.tr ⟨Nat.le_succ _, Nat.le_add_right _ _, fun b hb => if_neg (by omega), fun b j hb _ => ⟨congrFun (rw2_oth (tI τ1) (fun _ => 0) (show b ≠ tN τ1 by omega)) j, congrFun (rw2_oth (tP τ1) (fun _ => none) (show b ≠ tN τ1 by omega)) j⟩⟩
theorem OC.jn {a k : Nat} {x : Int} (h : OC P τ τ1) (h1 : tN τ ≤ a) : OC P τ (uI τ1 a k x) := by
  obtain ⟨a1, a2, a3, a4⟩ := h
  refine ⟨a1, a2, a3, fun b j hb hn => ⟨?_, (a4 b j hb hn).2⟩⟩
  rw [tI_uI, if_neg (by omega)]
  exact (a4 b j hb hn).1
theorem OC.qn {a k : Nat} {x : Option Nat} (h : OC P τ τ1) (h1 : tN τ ≤ a) : OC P τ (uP τ1 a k x) := by
  obtain ⟨a1, a2, a3, a4⟩ := h
  refine ⟨a1, a2, a3, fun b j hb hn => ⟨(a4 b j hb hn).1, ?_⟩⟩
  rw [tP_uP, if_neg (by omega)]
  exact (a4 b j hb hn).2
theorem OC.rn {a : Nat} {g : Nat → Int} (h : OC P τ τ1) (h1 : tN τ ≤ a) : OC P τ (rI τ1 a g) := by
  obtain ⟨a1, a2, a3, a4⟩ := h
  exact ⟨a1, a2, a3, fun b j hb hn => ⟨(congrFun (rw2_oth (tI τ1) g (show b ≠ a by omega)) j).trans (a4 b j hb hn).1, (a4 b j hb hn).2⟩⟩
theorem OC.kp {lo hi : Nat} (h : OC P τ τ1) (hp : ∀ a k, P a k → lo ≤ a ∧ a < hi) : Kp lo hi τ τ1 := by
  refine ⟨h.1, h.2.1, h.2.2.1, fun a ha hn => ⟨?_, ?_⟩⟩
  · funext k; exact (h.2.2.2 a k ha fun z => hn (hp a k z)).1
  · funext k; exact (h.2.2.2 a k ha fun z => hn (hp a k z)).2
theorem OC_kp {lo hi : Nat} (h : Kp lo hi τ τ1) : OC (fun a _ => lo ≤ a ∧ a < hi) τ τ1 := ⟨h.1, h.2.1, h.2.2.1, fun a k ha hn => ⟨congrFun (h.2.2.2 a ha hn).1 k, congrFun (h.2.2.2 a ha hn).2 k⟩⟩
/-- the fixed things, where no fixed reference is in P -/
theorem OC.fx (F : FX2 τ) (h : OC P τ τ1) (hp : ∀ a k, P a k → PTI a k = none) : FX2 τ1 := by
  refine ⟨Nat.le_trans F.1 h.1, fun a h1 h2 => (h.2.2.1 a (by have := F.1; omega)).trans (F.2.1 a h1 h2), fun a k q hq => ?_⟩
  have h9 := (PTF_v (PTI_PTF hq)).2.2.2
  rw [(h.2.2.2 a k (by have := F.1; omega) (fun z => by rw [hp a k z] at hq; cases hq)).2]
  exact F.2.2 a k q hq
end OCS
/-- what was made stays -/
def Fr (τ τ1 : T2) : Prop := tN τ ≤ tN τ1 ∧ ∀ a, 473 ≤ a → a < tN τ → tS τ1 a = tS τ a ∧ tI τ1 a = tI τ a ∧ tP τ1 a = tP τ a
theorem Fr.rf {τ : T2} : Fr τ τ := ⟨Nat.le_refl _, fun _ _ _ => ⟨rfl, rfl, rfl⟩⟩
theorem Fr.tr {τ τ1 τ2 : T2} (h : Fr τ τ1) (h1 : Fr τ1 τ2) : Fr τ τ2 := ⟨Nat.le_trans h.1 h1.1, fun a h2 h3 => ⟨(h1.2 a h2 (Nat.lt_of_lt_of_le h3 h.1)).1.trans (h.2 a h2 h3).1, (h1.2 a h2 (Nat.lt_of_lt_of_le h3 h.1)).2.1.trans (h.2 a h2 h3).2.1, (h1.2 a h2 (Nat.lt_of_lt_of_le h3 h.1)).2.2.trans (h.2 a h2 h3).2.2⟩⟩
theorem OC.fr {P : Nat → Nat → Prop} {τ τ1 : T2} (h : OC P τ τ1) (hp : ∀ a k, P a k → a < 473) : Fr τ τ1 := ⟨h.1, fun a h1 h2 => ⟨h.2.2.1 a h2, funext fun k => (h.2.2.2 a k h2 fun z => by have := hp a k z; omega).1, funext fun k => (h.2.2.2 a k h2 fun z => by have := hp a k z; omega).2⟩⟩
def bi (b : Bool) : Int := if b then 1 else 0
abbrev RSm : Type := (Nat → Bool) → Int → (Nat → Nat → Bool) → Bool
abbrev FSm : Type := List Int → Bool
abbrev WSm : Type := (Nat → List Int) → Int → Option (List Int)
/-- a list stands in a row -/
def Ls (τ : T2) (a : Nat) (l : List Int) : Prop := ∀ j, j < l.length → tI τ a j = l.getD j 0
/-- a text that the class has read -/
def CoA (τ : T2) (q : Nat) : Prop := 473 ≤ q ∧ q < tN τ ∧ tS τ q = (1, 3, 0)
theorem CoA.fr {τ τ1 : T2} {q : Nat} (h : CoA τ q) (f : Fr τ τ1) : CoA τ1 q := ⟨h.1, Nat.lt_of_lt_of_le h.2.1 f.1, (f.2 q h.1 h.2.1).1.trans h.2.2⟩
/-- what a text that was read does, on both sides -/
def RuC (τ : T2) (q : Nat) (f : RSm) : Prop := CoA τ q ∧ ∀ (τ1 : T2) (d : Nat) (Q : RS → T2 → Prop) (s : Nat → Bool) (m : Int) (rd : Nat → Nat → Bool), 30 ≤ d → Fr τ τ1 → FX2 τ1 → (∀ a, a < 6 → tI τ1 67 a = ((enc (rd a) 20 : Nat) : Int)) → Q (.inl (some (AI (bi (f s m rd))))) τ1 → G d 57 0 [vR q, vI ((enc s 20 : Nat) : Int), vI m, vR 67, none, none, none, none, none, none, none, none] [] τ1 Q
def RuM (τ : T2) (q : Nat) (f : RSm) : Prop := ∀ (τ1 : T2) (d : Nat) (Q : RS → T2 → Prop) (s : Nat → Bool) (m : Int) (n : Nat) (rd : Nat → Nat → Bool), 30 ≤ d → Fr τ τ1 → FX2 τ1 → tI τ1 220 4 = (n : Int) → n ≤ 20 → (∀ a k, rd a k = decide (k < n ∧ tI τ1 (336 + 4 * k) 1 = (a : Int))) → (∀ τ2, OC (fun a _ => a = 227) τ1 τ2 → tN τ2 = tN τ1 → tZ τ2 = tZ τ1 → Q (.inl (some (AI (bi (f s m rd))))) τ2) → G d 187 18 [vR 220, none, vI ((enc s 20 : Nat) : Int), vI m, vR q, none, none] [] τ1 Q
/-- what was heard -/
def HdC (τ : T2) (l : List Int) : Prop := tI τ 76 1 = (l.length : Int) ∧ l.length ≤ 300 ∧ Ls τ 77 l
def HdM (τ : T2) (l : List Int) : Prop := tI τ 220 28 = (l.length : Int) ∧ l.length ≤ 300 ∧ Ls τ 228 l
def FoC (τ : T2) (q : Nat) (f : FSm) : Prop := CoA τ q ∧ ∀ (τ1 : T2) (d : Nat) (Q : RS → T2 → Prop) (l : List Int), 30 ≤ d → Fr τ τ1 → FX2 τ1 → HdC τ1 l → (∀ τ2, OC (fun a _ => a = 78) τ1 τ2 → tN τ2 = tN τ1 → tZ τ2 = tZ τ1 → Q (.inl (some (AI (bi (f l))))) τ2) → G d 19 0 [vR 76, vR q, none, none, none] [] τ1 Q
def FoM (τ : T2) (q : Nat) (f : FSm) : Prop := ∀ (τ1 : T2) (d : Nat) (Q : RS → T2 → Prop) (r : Nat) (l : List Int), 60 ≤ d → Fr τ τ1 → FX2 τ1 → r < 20 → tP τ1 (336 + 4 * r) 10 = some q → HdM τ1 l → (∀ x ∈ l, 97 ≤ x ∧ x ≤ 122) → (∀ τ2, OC (fun _ _ => False) τ1 τ2 → tN τ2 ≤ tN τ1 + 1160 → tZ τ2 ≤ tZ τ1 + 12400 → Q (.inl (some (AI (bi (f l))))) τ2) → G d 197 67 [vR 220, vR (336 + 4 * r), none, none] [] τ1 Q
/-- answers below a riddle -/
def AnL (A : Nat → List Int) (n : Nat) : Prop := n ≤ 20 ∧ ∀ r, r < n → 1 ≤ (A r).length ∧ (A r).length ≤ 12 ∧ ∀ x ∈ A r, 97 ≤ x ∧ x ≤ 122
def AnC (τ : T2) (A : Nat → List Int) (n : Nat) : Prop := ∀ r, r < n → tI τ (92 + 4 * r) 3 = ((A r).length : Int) ∧ Ls τ (93 + 4 * r) (A r)
def AnM (τ : T2) (A : Nat → List Int) (n : Nat) : Prop := ∀ r, r < n → tI τ (336 + 4 * r) 2 = ((A r).length : Int) ∧ Ls τ (337 + 4 * r) (A r)
def WoC (τ : T2) (n : Nat) (q : Nat) (f : WSm) : Prop := CoA τ q ∧ ∀ (τ1 : T2) (d : Nat) (Q : RS → T2 → Prop) (w : Nat) (A : Nat → List Int) (u : Int), 30 ≤ d → Fr τ τ1 → FX2 τ1 → (w = 80 ∨ w = 82) → AnL A n → AnC τ1 A n → okI u → (∀ τ2, OC (fun a k => (a = w ∧ k = 1) ∨ a = w + 1) τ1 τ2 → tN τ2 = tN τ1 → tZ τ2 = tZ τ1 → f A u = none → Q (.inl (some (AI 0))) τ2) → (∀ τ2 l, OC (fun a k => (a = w ∧ k = 1) ∨ a = w + 1) τ1 τ2 → tN τ2 = tN τ1 → tZ τ2 = tZ τ1 → f A u = some l → l.length ≤ 24 → tI τ2 w 1 = (l.length : Int) → Ls τ2 (w + 1) l → Q (.inl (some (AI 1))) τ2) → G d 40 0 [vR w, vR q, vR 66, vI u, none, none] [] τ1 Q
def MaM (a k : Nat) : Prop := a = 231 ∨ (a = 220 ∧ k = 32)
def WoM (τ : T2) (n : Nat) (q : Nat) (f : WSm) : Prop := ∀ (τ1 : T2) (d : Nat) (Q : RS → T2 → Prop) (A : Nat → List Int) (u : Int), 30 ≤ d → Fr τ τ1 → FX2 τ1 → AnL A n → AnM τ1 A n → okI u → (∀ τ2, OC MaM τ1 τ2 → tN τ2 = tN τ1 → tZ τ2 = tZ τ1 → f A u = none → Q (.inl (some (AI 0))) τ2) → (∀ τ2 l, OC MaM τ1 τ2 → tN τ2 = tN τ1 → tZ τ2 = tZ τ1 → f A u = some l → l.length ≤ 24 → tI τ2 220 32 = (l.length : Int) → Ls τ2 231 l → Q (.inl (some (AI 1))) τ2) → G d 203 0 [vR 220, vR q, vI u, none, none, none, none] [] τ1 Q
section MO
variable {τ τ1 : T2} {q n : Nat}
theorem RuC.fr {f : RSm} (h : RuC τ q f) (e : Fr τ τ1) : RuC τ1 q f := ⟨h.1.fr e, fun τ2 d Q s m rd hd e2 => h.2 τ2 d Q s m rd hd (e.tr e2)⟩
theorem RuM.fr {f : RSm} (h : RuM τ q f) (e : Fr τ τ1) : RuM τ1 q f := fun τ2 d Q s m n rd hd e2 => h τ2 d Q s m n rd hd (e.tr e2)
theorem FoC.fr {f : FSm} (h : FoC τ q f) (e : Fr τ τ1) : FoC τ1 q f := ⟨h.1.fr e, fun τ2 d Q l hd e2 => h.2 τ2 d Q l hd (e.tr e2)⟩
theorem FoM.fr {f : FSm} (h : FoM τ q f) (e : Fr τ τ1) : FoM τ1 q f := fun τ2 d Q r l hd e2 => h τ2 d Q r l hd (e.tr e2)
theorem WoC.fr {f : WSm} (h : WoC τ n q f) (e : Fr τ τ1) : WoC τ1 n q f := ⟨h.1.fr e, fun τ2 d Q w A u hd e2 => h.2 τ2 d Q w A u hd (e.tr e2)⟩
theorem WoM.fr {f : WSm} (h : WoM τ n q f) (e : Fr τ τ1) : WoM τ1 n q f := fun τ2 d Q A u hd e2 => h τ2 d Q A u hd (e.tr e2)
end MO
/-- a reference and what stands behind it -/
def OkO {α : Type} (p : Option Nat) (o : Option α) (R : Nat → α → Prop) : Prop := (o = none ∧ p = none) ∨ ∃ q f, p = some q ∧ o = some f ∧ R q f
theorem OkO.mo {α : Type} {p : Option Nat} {o : Option α} {R R1 : Nat → α → Prop} (h : OkO p o R) (hr : ∀ q f, R q f → R1 q f) : OkO p o R1 := by
  rcases h with h | ⟨q, f, h1, h2, h3⟩
  · exact Or.inl h
  · exact Or.inr ⟨q, f, h1, h2, hr q f h3⟩
/-- the core: how many (riddles, teams, words); numbers by group, which one, place; rules, forms, workings; what was bought -/
abbrev CO : Type := (Nat → Nat) × (Nat → Nat → Nat → Int) × (Nat → Option RSm) × (Nat → Option FSm) × (Nat → Option WSm) × (Nat → List (Int × Int))
def cn (c : CO) : Nat → Nat := c.1
def cD (c : CO) : Nat → Nat → Nat → Int := c.2.1
def cR (c : CO) : Nat → Option RSm := c.2.2.1
def cF (c : CO) : Nat → Option FSm := c.2.2.2.1
def cW (c : CO) : Nat → Option WSm := c.2.2.2.2.1
def cP (c : CO) : Nat → List (Int × Int) := c.2.2.2.2.2
def ud (D : Nat → Nat → Nat → Int) (g i k : Nat) (x : Int) : Nat → Nat → Nat → Int := fun g1 i1 k1 => if g1 = g ∧ i1 = i ∧ k1 = k then x else D g1 i1 k1
def uf {α : Type} (f : Nat → α) (i : Nat) (x : α) : Nat → α := fun j => if j = i then x else f j
def rdm (c : CO) (a k : Nat) : Bool := decide (k < cn c 0 ∧ cD c 1 k 1 = (a : Int))
/-- the letters of an answer, of a word -/
def ltr (c : CO) (r : Nat) : List Int := (List.range (cD c 1 r 2).toNat).map (cD c 2 r)
def wdl (c : CO) (w : Nat) : List Int := (List.range (cD c 12 w 0).toNat).map (cD c 11 w)
/-- the numbers that are spoken of -/
def ok (c : CO) (g i k : Nat) : Prop := (g = 0 ∧ i = 0 ∧ k = 0) ∨ (g = 1 ∧ i < cn c 0 ∧ k < 6) ∨ (g = 2 ∧ i < cn c 0 ∧ (k : Int) < cD c 1 i 2) ∨ ((g = 3 ∨ g = 4) ∧ i < cn c 0 ∧ (k : Int) < cD c 1 i 5) ∨ (g = 5 ∧ i < cn c 1 ∧ k < 2) ∨ ((g = 6 ∨ g = 7 ∨ g = 8 ∨ g = 9) ∧ i < cn c 1 ∧ k < 20) ∨ (g = 10 ∧ i < cn c 1 ∧ k < 60 ∧ ((k % 3 : Nat) : Int) < cD c 8 i (k / 3)) ∨ (g = 11 ∧ i < cn c 2 ∧ (k : Int) < cD c 12 i 0) ∨ (g = 12 ∧ i < cn c 2 ∧ k = 0)
/-- their bounds -/
def vd (g i k : Nat) : Prop := (g = 0 ∧ i = 0 ∧ k = 0) ∨ (g = 1 ∧ i < 20 ∧ k < 6) ∨ (g = 2 ∧ i < 20 ∧ k < 12) ∨ ((g = 3 ∨ g = 4) ∧ i < 20 ∧ k < 3) ∨ (g = 5 ∧ i < 8 ∧ k < 2) ∨ ((g = 6 ∨ g = 7 ∨ g = 8 ∨ g = 9) ∧ i < 8 ∧ k < 20) ∨ (g = 10 ∧ i < 8 ∧ k < 60) ∨ (g = 11 ∧ i < 40 ∧ k < 12) ∨ (g = 12 ∧ i < 40 ∧ k = 0)
/-- where they stand: the class, the model -/
def aC (g i : Nat) : Nat := if g = 0 then 64 else if g ≤ 4 then 91 + g + 4 * i else if g ≤ 10 then 167 + g + 6 * i else if g = 11 then 71 else 72
def kC (g i k : Nat) : Nat := if g = 0 then 9 else if g = 1 then (if k < 2 then k else k + 1) else if g ≤ 10 then k else if g = 11 then 12 * i + k else i
def aM (g i : Nat) : Nat := if g = 0 then 220 else if g ≤ 4 then 335 + g + 4 * i else 411 + g + 7 * i
def kM (g k : Nat) : Nat := if g = 0 then 7 else k
theorem aC_c (g i : Nat) : (g = 0 ∧ aC g i = 64) ∨ (1 ≤ g ∧ g ≤ 4 ∧ aC g i = 91 + g + 4 * i) ∨ (5 ≤ g ∧ g ≤ 10 ∧ aC g i = 167 + g + 6 * i) ∨ (g = 11 ∧ aC g i = 71) ∨ (12 ≤ g ∧ aC g i = 72) := by
  unfold aC
  by_cases h0 : g = 0
  · rw [if_pos h0]; omega
  · rw [if_neg h0]
    by_cases h1 : g ≤ 4
    · rw [if_pos h1]; omega
    · rw [if_neg h1]
      by_cases h2 : g ≤ 10
      · rw [if_pos h2]; omega
      · rw [if_neg h2]
        by_cases h3 : g = 11
        · rw [if_pos h3]; omega
        · rw [if_neg h3]; omega
theorem kC_c (g i k : Nat) : (g = 0 ∧ kC g i k = 9) ∨ (g = 1 ∧ k < 2 ∧ kC g i k = k) ∨ (g = 1 ∧ 2 ≤ k ∧ kC g i k = k + 1) ∨ (2 ≤ g ∧ g ≤ 10 ∧ kC g i k = k) ∨ (g = 11 ∧ kC g i k = 12 * i + k) ∨ (12 ≤ g ∧ kC g i k = i) := by
  unfold kC
  by_cases h0 : g = 0
  · rw [if_pos h0]; omega
  · rw [if_neg h0]
    by_cases h1 : g = 1
    · rw [if_pos h1]
      by_cases h5 : k < 2
      · rw [if_pos h5]; omega
      · rw [if_neg h5]; omega
    · rw [if_neg h1]
      by_cases h2 : g ≤ 10
      · rw [if_pos h2]; omega
      · rw [if_neg h2]
        by_cases h3 : g = 11
        · rw [if_pos h3]; omega
        · rw [if_neg h3]; omega
theorem aM_c (g i : Nat) : (g = 0 ∧ aM g i = 220) ∨ (1 ≤ g ∧ g ≤ 4 ∧ aM g i = 335 + g + 4 * i) ∨ (5 ≤ g ∧ aM g i = 411 + g + 7 * i) := by
  unfold aM
  by_cases h0 : g = 0
  · rw [if_pos h0]; omega
  · rw [if_neg h0]
    by_cases h1 : g ≤ 4
    · rw [if_pos h1]; omega
    · rw [if_neg h1]; omega
theorem kM_c (g k : Nat) : (g = 0 ∧ kM g k = 7) ∨ (1 ≤ g ∧ kM g k = k) := by
  unfold kM
  by_cases h0 : g = 0
  · rw [if_pos h0]; omega
  · rw [if_neg h0]; omega
theorem inj_C {g i k g1 i1 k1 : Nat} (h : vd g i k) (h1 : vd g1 i1 k1) (e : aC g i = aC g1 i1) (e1 : kC g i k = kC g1 i1 k1) : g1 = g ∧ i1 = i ∧ k1 = k := by
  have a1 := aC_c g i
  have a2 := aC_c g1 i1
  have b1 := kC_c g i k
  have b2 := kC_c g1 i1 k1
  rw [← e] at a2
  rw [← e1] at b2
  generalize aC g i = a at a1 a2
  generalize kC g i k = b at b1 b2
  unfold vd at h h1
  have hg : g1 = g := by
    clear b1 b2
    rcases a1 with a1 | a1 | a1 | a1 | a1 <;> rcases a2 with a2 | a2 | a2 | a2 | a2 <;> omega
  subst hg
  have hi : g1 ≤ 10 → i1 = i := fun z => by
    clear b1 b2
    rcases a1 with a1 | a1 | a1 | a1 | a1 <;> omega
  rcases b1 with b1 | b1 | b1 | b1 | b1 | b1 <;> omega
theorem inj_M {g i k g1 i1 k1 : Nat} (h : vd g i k) (h1 : vd g1 i1 k1) (h9 : g ≤ 9) (h91 : g1 ≤ 9) (e : aM g i = aM g1 i1) (e1 : kM g k = kM g1 k1) : g1 = g ∧ i1 = i ∧ k1 = k := by
  have a1 := aM_c g i
  have a2 := aM_c g1 i1
  have b1 := kM_c g k
  have b2 := kM_c g1 k1
  rw [← e] at a2
  rw [← e1] at b2
  generalize aM g i = a at a1 a2
  generalize kM g k = b at b1 b2
  unfold vd at h h1
  have hg : g1 = g := by
    clear b1 b2
    rcases a1 with a1 | a1 | a1 <;> rcases a2 with a2 | a2 | a2 <;> omega
  subst hg
  have hi : i1 = i := by
    clear b1 b2
    rcases a1 with a1 | a1 | a1 <;> omega
  rcases b1 with b1 | b1 <;> omega
/-- numbers stand: where R says -/
def IC (τ : T2) (R : Nat → Nat → Nat → Prop) (D : Nat → Nat → Nat → Int) : Prop := ∀ g i k, R g i k → vd g i k ∧ tI τ (aC g i) (kC g i k) = D g i k
def IM (τ : T2) (R : Nat → Nat → Nat → Prop) (D : Nat → Nat → Nat → Int) : Prop := ∀ g i k, R g i k → vd g i k ∧ (g ≤ 9 → tI τ (aM g i) (kM g k) = D g i k)
section IN
variable {τ τ1 : T2} {R R1 : Nat → Nat → Nat → Prop} {D D1 : Nat → Nat → Nat → Int}
theorem IC.mo (h : IC τ R D) (hr : ∀ g i k, R1 g i k → R g i k ∧ D1 g i k = D g i k) : IC τ R1 D1 := fun g i k z => by
  obtain ⟨a, b⟩ := hr g i k z
  rw [b]; exact h g i k a
theorem IM.mo (h : IM τ R D) (hr : ∀ g i k, R1 g i k → R g i k ∧ D1 g i k = D g i k) : IM τ R1 D1 := fun g i k z => by
  obtain ⟨a, b⟩ := hr g i k z
  rw [b]; exact h g i k a
theorem IC.j (h : IC τ R D) {g i k : Nat} (hv : vd g i k) {x : Int} : IC (uI τ (aC g i) (kC g i k) x) (fun g1 i1 k1 => R g1 i1 k1 ∨ (g1 = g ∧ i1 = i ∧ k1 = k)) (ud D g i k x) := by
  intro g1 i1 k1 hr
  by_cases e : g1 = g ∧ i1 = i ∧ k1 = k
  · obtain ⟨e1, e2, e3⟩ := e
    subst e1 e2 e3
    refine ⟨hv, ?_⟩
    rw [tI_uI, if_pos ⟨rfl, rfl⟩]
    unfold ud
    rw [if_pos ⟨rfl, rfl, rfl⟩]
  · rcases hr with hr | hr
    · obtain ⟨h1, h2⟩ := h g1 i1 k1 hr
      refine ⟨h1, ?_⟩
      rw [tI_uI, if_neg (fun z => e (inj_C hv h1 z.1.symm z.2.symm))]
      unfold ud
      rw [if_neg e]
      exact h2
    · exact absurd hr e
theorem IM.j (h : IM τ R D) {g i k : Nat} (hv : vd g i k) (h9 : g ≤ 9) {x : Int} : IM (uI τ (aM g i) (kM g k) x) (fun g1 i1 k1 => R g1 i1 k1 ∨ (g1 = g ∧ i1 = i ∧ k1 = k)) (ud D g i k x) := by
  intro g1 i1 k1 hr
  by_cases e : g1 = g ∧ i1 = i ∧ k1 = k
  · obtain ⟨e1, e2, e3⟩ := e
    subst e1 e2 e3
    refine ⟨hv, fun _ => ?_⟩
    rw [tI_uI, if_pos ⟨rfl, rfl⟩]
    unfold ud
    rw [if_pos ⟨rfl, rfl, rfl⟩]
  · rcases hr with hr | hr
    · obtain ⟨h1, h2⟩ := h g1 i1 k1 hr
      refine ⟨h1, fun h91 => ?_⟩
      rw [tI_uI, if_neg (fun z => e (inj_M hv h1 h9 h91 z.1.symm z.2.symm))]
      unfold ud
      rw [if_neg e]
      exact h2 h91
    · exact absurd hr e
/-- numbers that a side doesn't hold at single places: the list of what was bought, and words of the model -/
theorem IM.k (h : IM τ R D) {g i k : Nat} (hv : vd g i k) (h9 : 9 < g) {x : Int} : IM τ (fun g1 i1 k1 => R g1 i1 k1 ∨ (g1 = g ∧ i1 = i ∧ k1 = k)) (ud D g i k x) := by
  intro g1 i1 k1 hr
  by_cases e : g1 = g ∧ i1 = i ∧ k1 = k
  · refine ⟨by rw [e.1, e.2.1, e.2.2]; exact hv, fun z => by omega⟩
  · rcases hr with hr | hr
    · obtain ⟨h1, h2⟩ := h g1 i1 k1 hr
      refine ⟨h1, fun z => ?_⟩
      unfold ud
      rw [if_neg e]
      exact h2 z
    · exact absurd hr e
/-- places that the core holds -/
def DC (a k : Nat) : Prop := (a = 64 ∧ (k = 3 ∨ k = 6 ∨ k = 9)) ∨ a = 67 ∨ (70 ≤ a ∧ a ≤ 72) ∨ (92 ≤ a ∧ a < 220)
def DM (a k : Nat) : Prop := (a = 220 ∧ (4 ≤ k ∧ k ≤ 7)) ∨ a = 223 ∨ (336 ≤ a ∧ a < 472)
theorem vd_C {g i k : Nat} (h : vd g i k) : DC (aC g i) (kC g i k) ∧ 64 ≤ aC g i ∧ aC g i < 220 := by
  have a1 := aC_c g i
  have b1 := kC_c g i k
  unfold vd at h
  unfold DC
  omega
theorem vd_M {g i k : Nat} (h : vd g i k) (h9 : g ≤ 9) : DM (aM g i) (kM g k) ∧ 220 ≤ aM g i ∧ aM g i < 472 := by
  have a1 := aM_c g i
  have b1 := kM_c g k
  unfold vd at h
  unfold DM
  omega
theorem IC.oc (h : IC τ R D) {P : Nat → Nat → Prop} (hN : 473 ≤ tN τ) (o : OC P τ τ1) (hp : ∀ a k, P a k → ¬ DC a k) : IC τ1 R D := fun g i k z => by
  obtain ⟨h1, h2⟩ := h g i k z
  obtain ⟨h3, h4, h5⟩ := vd_C h1
  exact ⟨h1, by rw [(o.2.2.2 _ _ (by omega) (fun z => hp _ _ z h3)).1]; exact h2⟩
theorem IM.oc (h : IM τ R D) {P : Nat → Nat → Prop} (hN : 473 ≤ tN τ) (o : OC P τ τ1) (hp : ∀ a k, P a k → ¬ DM a k) : IM τ1 R D := fun g i k z => by
  obtain ⟨h1, h2⟩ := h g i k z
  refine ⟨h1, fun h9 => ?_⟩
  obtain ⟨h3, h4, h5⟩ := vd_M h1 h9
  rw [(o.2.2.2 _ _ (by omega) (fun z => hp _ _ z h3)).1]
  exact h2 h9
end IN
