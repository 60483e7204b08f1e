/-! FORMS read by the model: parts -/
def PFM (a k : Nat) : Prop := (a = 220 ∧ ((17 ≤ k ∧ k ≤ 23) ∨ k = 26)) ∨ (a = 225 ∧ (k = 6 ∨ k = 7))
def PMf (τ : T2) (f : Nat → Int) (n a c dp : Nat) : Prop := PMb τ f n a ∧ tI τ 220 26 = (c : Int) ∧ c ≤ 40 ∧ tI τ 220 23 = (dp : Int) ∧ tS τ 1 = (3, 101, 0)
def Rg (lo hi a : Nat) : Prop := lo ≤ a ∧ a < hi
theorem PtM.w {R : Nat → Prop} {τ : T2} {D p w w1 : Nat} {g : FTr} (h : PtM R τ D p g w) (hw : w ≤ w1) : PtM R τ D p g w1 := ⟨h.1, h.2.1, fun τ1 d Q fr l S hd K F H hl hS k => h.2.2 τ1 d Q fr l S hd K F H hl hS (fun τ2 r o F2 n2 z2 => k τ2 r o F2 (by omega) (by omega))⟩
/-- how reading fails, and how it ends -/
def FlN (res : PFR) (n a KN KZ : Nat) (τ : T2) (Q : RS → T2 → Prop) : Prop := ∀ e τ1, res = .inl e → OC PFM τ τ1 → FX2 τ1 → 2 * tN τ1 ≤ 2 * tN τ + 7 * (n - a) + KN → tZ τ1 ≤ tZ τ + 24 * (n - a) + KZ → tI τ1 225 6 = e.1 → tI τ1 225 7 = (e.2 : Int) → Q (.inr 225) τ1
def SpP (p : Nat → Nat → PFR) (f : Nat → Int) (n D DE KN dp : Nat) : Prop := ∀ (d : Nat) (τ : T2) (Q : RS → T2 → Prop) (a c : Nat), D ≤ d → PMf τ f n a c dp → FlN (p a c) n a KN 9 τ Q → (∀ g a1 c1 τ1 r, p a c = .inr (g, a1, c1) → OC PFM τ τ1 → PMf τ1 f n a1 c1 dp → a < a1 → c < c1 → 2 * tN τ1 + 2 ≤ 2 * tN τ + 7 * (a1 - a) → tZ τ1 + 12 ≤ tZ τ + 24 * (a1 - a) → PtM (Rg (tN τ) (tN τ1)) τ1 DE r g (a1 - a) → Q (.inl (some (AR r))) τ1) → G d 190 0 [vR 220, none, none] [] τ Q
def SpE (p : Nat → Nat → PFR) (f : Nat → Int) (n D DE KN dp : Nat) : Prop := ∀ (d : Nat) (τ : T2) (Q : RS → T2 → Prop) (a c : Nat), D ≤ d → PMf τ f n a c dp → FlN (p a c) n a KN 16 τ Q → (∀ g a1 c1 τ1 r, p a c = .inr (g, a1, c1) → OC PFM τ τ1 → PMf τ1 f n a1 c1 dp → a < a1 → c < c1 → 2 * tN τ1 ≤ 2 * tN τ + 7 * (a1 - a) + 8 → tZ τ1 ≤ tZ τ + 24 * (a1 - a) + 19 → tN τ ≤ r → r < tN τ1 → EiM (Rg (tN τ) (tN τ1)) τ1 DE r g (a1 - a) → Q (.inl (some (AR r))) τ1) → G d 189 0 [vR 220, none, none, none, none] [] τ Q
section RMF
variable {f : Nat → Int} {n : Nat}
theorem PMf.oc {τ τ1 : T2} {P : Nat → Nat → Prop} {a c dp : Nat} (h : PMf τ f n a c dp) (F1 : FX2 τ1) (o : OC P τ τ1) (hp : ∀ b k, P b k → ¬ (b = 226 ∨ (b = 220 ∧ ((16 ≤ k ∧ k ≤ 23) ∨ k = 26)))) : PMf τ1 f n a c dp := by
  have N := h.1.1.1
  refine ⟨h.1.oc F1 o (fun b k z y => hp b k z (by omega)), ?_, h.2.2.1, ?_, ?_⟩
  · rw [(o.2.2.2 220 26 (by omega) (fun z => hp 220 26 z (by omega))).1]; exact h.2.1
  · rw [(o.2.2.2 220 23 (by omega) (fun z => hp 220 23 z (by omega))).1]; exact h.2.2.2.1
  · rw [o.2.2.1 1 (by omega)]; exact h.2.2.2.2
theorem PMf.nx {τ τ1 : T2} {a a1 c dp : Nat} (h : PMf τ f n a c dp) (o : OC NXM τ τ1) (h1 : PMb τ1 f n a1) : PMf τ1 f n a1 c dp := by
  have N := h.1.1.1
  refine ⟨h1, ?_, h.2.2.1, ?_, ?_⟩
  · rw [(o.2.2.2 220 26 (by omega) (by unfold NXM; omega)).1]; exact h.2.1
  · rw [(o.2.2.2 220 23 (by omega) (by unfold NXM; omega)).1]; exact h.2.2.2.1
  · rw [o.2.2.1 1 (by omega)]; exact h.2.2.2.2
theorem PMf.c {τ : T2} {a c dp c1 : Nat} (h : PMf τ f n a c dp) (hc : c1 ≤ 40) : PMf (uI τ 220 26 (c1 : Int)) f n a c1 dp := by
  refine ⟨h.1.oc h.1.1.j (OC.j (P := fun b k => b = 220 ∧ k = 26) OC.rf ⟨rfl, rfl⟩) (fun b k z => by omega), ?_, hc, ?_, h.2.2.2.2⟩
  · rw [tI_uI, if_pos ⟨rfl, rfl⟩]
  · rw [tI_uI, if_neg (by omega)]; exact h.2.2.2.1
theorem PMf.d {τ : T2} {a c dp d1 : Nat} (h : PMf τ f n a c dp) : PMf (uI τ 220 23 (d1 : Int)) f n a c d1 := by
  refine ⟨h.1.oc h.1.1.j (OC.j (P := fun b k => b = 220 ∧ k = 23) OC.rf ⟨rfl, rfl⟩) (fun b k z => by omega), ?_, h.2.2.1, ?_, h.2.2.2.2⟩
  · rw [tI_uI, if_neg (by omega)]; exact h.2.1
  · rw [tI_uI, if_pos ⟨rfl, rfl⟩]
theorem okWd_tk {a : Nat} (h : tkS f n a = 2) : okWd (tkW f n a) := by
  have hl : (tkW f n a).length = tkT f n a - tkF f n a := by unfold tkW; simp
  refine ⟨?_, fun q hq => ?_⟩
  · rw [hl]
    unfold tkS at h
    split at h
    · split at h
      · split at h
        · omega
        · cases h
      · split at h
        · split at h <;> cases h
        · split at h <;> cases h
    · cases h
  · rw [hl] at hq
    rw [Nat.zero_add]
    have e : byt (tkW f n a) q = f (tkF f n a + q) := by unfold tkW; exact byt_rng _ hq
    rw [e]
    exact tk_l h q hq
theorem tk_end {a : Nat} (h : n ≤ a) (h1 : a ≤ n) : tkS f n a = 0 := (tkT_E (f := f) (n := n) (a := a) (by have := (tkF_le (f := f) h1).1; omega)).2
/-- a new part -/
theorem m149 {d : Nat} {τ : T2} {Q : RS → T2 → Prop} {p : Nat} (F : FX2 τ) (hp : 473 ≤ p) (hn : tN τ = p + 1) (sp : tS τ p = (1, 14, 0)) (zi : ∀ k, tI τ p k = 0) (zp : ∀ k, tP τ p k = none) (hd : 17 ≤ d) (k : ∀ τ1, OC (fun a k => a = p) τ τ1 → FX2 τ1 → tN τ1 = p + 2 → tZ τ1 = tZ τ + 4 → tS τ1 p = (1, 14, 0) → tS τ1 (p + 1) = (2, 3, 4) → (∀ k, tI τ1 p k = 0) → tP τ1 p 1 = none → tP τ1 p 2 = some (p + 1) → Q (.inl none) τ1) : G d 149 0 [vR p] [] τ Q := by
  refine t149_0 hd ?_
  rw [hn]
  have o1 : OC (fun a k => a = p) τ (nC τ (2, 3, 4) 4) := OC.rf.n
  have e1 : tS (nC τ (2, 3, 4) 4) p = (1, 14, 0) := by rw [nCS, if_neg (by omega)]; exact sp
  have e2 : tS (nC τ (2, 3, 4) 4) (p + 1) = (2, 3, 4) := by rw [nCS, if_pos (by omega)]
  refine t149_8 (s0 := some (p + 1)) e1 (k _ (o1.q rfl) (F.n.q (PTI_n hp)) (by show tN τ + 1 = _; omega) rfl e1 e2 (fun k => ?_) ?_ ?_)
  · rw [tI_uP]
    show rw2 (tI τ) (tN τ) (fun _ => 0) p k = 0
    rw [rw2_oth _ _ (by omega)]; exact zi k
  · rw [tP_uP, if_neg (by omega)]
    show rw2 (tP τ) (tN τ) (fun _ => none) p 1 = none
    rw [rw2_oth _ _ (by omega)]; exact zp 1
  · rw [tP_uP, if_pos ⟨rfl, rfl⟩]
end RMF
