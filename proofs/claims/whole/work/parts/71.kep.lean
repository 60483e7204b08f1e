/-! WHAT STAYS: cells that a call leaves alone; the fixed shapes and references -/
theorem tI_uI (τ : T2) (a k : Nat) (x : Int) (b j : Nat) : tI (uI τ a k x) b j = if b = a ∧ j = k then x else tI τ b j := rfl
theorem tI_uP (τ : T2) (a k : Nat) (x : Option Nat) : tI (uP τ a k x) = tI τ := rfl
theorem tP_uI (τ : T2) (a k : Nat) (x : Int) : tP (uI τ a k x) = tP τ := rfl
theorem tP_uP (τ : T2) (a k : Nat) (x : Option Nat) (b j : Nat) : tP (uP τ a k x) b j = if b = a ∧ j = k then x else tP τ b j := rfl
theorem tS_uI (τ : T2) (a k : Nat) (x : Int) : tS (uI τ a k x) = tS τ := rfl
theorem tS_uP (τ : T2) (a k : Nat) (x : Option Nat) : tS (uP τ a k x) = tS τ := rfl
theorem tN_uI (τ : T2) (a k : Nat) (x : Int) : tN (uI τ a k x) = tN τ := rfl
theorem tN_uP (τ : T2) (a k : Nat) (x : Option Nat) : tN (uP τ a k x) = tN τ := rfl
theorem tZ_uI (τ : T2) (a k : Nat) (x : Int) : tZ (uI τ a k x) = tZ τ := rfl
theorem tZ_uP (τ : T2) (a k : Nat) (x : Option Nat) : tZ (uP τ a k x) = tZ τ := rfl
/-- only cells from lo to hi, and new ones, have changed -/
def Kp (lo hi : Nat) (τ τ1 : T2) : Prop := tN τ ≤ tN τ1 ∧ tZ τ ≤ tZ τ1 ∧ (∀ a, a < tN τ → tS τ1 a = tS τ a) ∧ ∀ a, a < tN τ → ¬ (lo ≤ a ∧ a < hi) → tI τ1 a = tI τ a ∧ tP τ1 a = tP τ a
section KP
variable {lo hi : Nat} {τ τ1 τ2 : T2}
theorem Kp.rf : Kp lo hi τ τ := ⟨Nat.le_refl _, Nat.le_refl _, fun _ _ => rfl, fun _ _ _ => ⟨rfl, rfl⟩⟩
theorem Kp.tr (h : Kp lo hi τ τ1) (h1 : Kp lo hi τ1 τ2) : Kp lo hi τ τ2 := by
  obtain ⟨a1, a2, a3, a4⟩ := h
  obtain ⟨b1, b2, b3, b4⟩ := h1
  refine ⟨by omega, by omega, fun a ha => (b3 a (by omega)).trans (a3 a ha), fun a ha hn => ?_⟩
  obtain ⟨c1, c2⟩ := a4 a ha hn
  obtain ⟨d1, d2⟩ := b4 a (by omega) hn
  exact ⟨d1.trans c1, d2.trans c2⟩
theorem Kp.j {a k : Nat} {x : Int} (h : Kp lo hi τ τ1) (h1 : lo ≤ a) (h2 : a < hi) : Kp lo hi τ (uI τ1 a k x) := h.tr ⟨Nat.le_refl _, Nat.le_refl _, fun _ _ => rfl, fun b _ hn => ⟨up_oth _ _ _ (fun e => hn ⟨by omega, by omega⟩), rfl⟩⟩
theorem Kp.q {a k : Nat} {x : Option Nat} (h : Kp lo hi τ τ1) (h1 : lo ≤ a) (h2 : a < hi) : Kp lo hi τ (uP τ1 a k x) := h.tr ⟨Nat.le_refl _, Nat.le_refl _, fun _ _ => rfl, fun b _ hn => ⟨rfl, up_oth _ _ _ (fun e => hn ⟨by omega, by omega⟩)⟩⟩
theorem Kp.r {a : Nat} {g : Nat → Int} (h : Kp lo hi τ τ1) (h1 : lo ≤ a) (h2 : a < hi) : Kp lo hi τ (rI τ1 a g) := h.tr ⟨Nat.le_refl _, Nat.le_refl _, fun _ _ => rfl, fun b _ hn => ⟨rw2_oth _ _ (fun e => hn ⟨by omega, by omega⟩), rfl⟩⟩
theorem Kp.n {s : SH} {k : Nat} (h : Kp lo hi τ τ1) : Kp lo hi τ (nC τ1 s k) := h.tr ⟨Nat.le_succ _, Nat.le_add_right _ _, fun b hb => if_neg (by omega), fun b hb _ => ⟨rw2_oth _ _ (by omega), rw2_oth _ _ (by omega)⟩⟩
/-- a new cell is written -/
theorem Kp.jn {a k : Nat} {x : Int} (h : Kp lo hi τ τ1) (h1 : tN τ ≤ a) : Kp lo hi τ (uI τ1 a k x) := by
  obtain ⟨a1, a2, a3, a4⟩ := h
  exact ⟨a1, a2, a3, fun b hb hn => ⟨(up_oth (tI τ1) k x (show b ≠ a by omega)).trans (a4 b hb hn).1, (a4 b hb hn).2⟩⟩
theorem Kp.qn {a k : Nat} {x : Option Nat} (h : Kp lo hi τ τ1) (h1 : tN τ ≤ a) : Kp lo hi τ (uP τ1 a k x) := by
  obtain ⟨a1, a2, a3, a4⟩ := h
  exact ⟨a1, a2, a3, fun b hb hn => ⟨(a4 b hb hn).1, (up_oth (tP τ1) k x (show b ≠ a by omega)).trans (a4 b hb hn).2⟩⟩
theorem Kp.rn {a : Nat} {g : Nat → Int} (h : Kp lo hi τ τ1) (h1 : tN τ ≤ a) : Kp lo hi τ (rI τ1 a g) := by
  obtain ⟨a1, a2, a3, a4⟩ := h
  exact ⟨a1, a2, a3, fun b hb hn => ⟨(rw2_oth (tI τ1) g (show b ≠ a by omega)).trans (a4 b hb hn).1, (a4 b hb hn).2⟩⟩
end KP
/-- the references that never change -/
def PTI (a k : Nat) : Option Nat := if (a = 64 ∧ (k = 12 ∨ k = 13)) ∨ (a = 73 ∧ k = 0) ∨ a = 224 then none else PTF a k
def FX2 (τ : T2) : Prop := 473 ≤ tN τ ∧ (∀ a, 64 ≤ a → a < 473 → tS τ a = SHF a) ∧ (∀ a k q, PTI a k = some q → tP τ a k = some q)
section FX2
variable {τ τ1 : T2}
theorem FX2.sh (F : FX2 τ) {a : Nat} {s : SH} (h : SHF a = s) (h1 : 64 ≤ a) (h2 : a < 473) : tS τ a = s := by rw [← h]; exact F.2.1 a h1 h2
theorem FX2.p (F : FX2 τ) {a k q : Nat} (h : PTI a k = some q) : tP τ a k = some q := F.2.2 a k q h
theorem FX2.j (F : FX2 τ) {a k : Nat} {x : Int} : FX2 (uI τ a k x) := F
theorem FX2.r (F : FX2 τ) {a : Nat} {g : Nat → Int} : FX2 (rI τ a g) := F
theorem FX2.q (F : FX2 τ) {a k : Nat} {x : Option Nat} (h : PTI a k = none) : FX2 (uP τ a k x) := by
  refine ⟨F.1, F.2.1, fun b j q hq => ?_⟩
  show (if b = a ∧ j = k then x else tP τ b j) = some q
  rw [if_neg (fun e => by rw [e.1, e.2, h] at hq; cases hq)]
  exact F.2.2 b j q hq
theorem PTI_PTF {a k q : Nat} (h : PTI a k = some q) : PTF a k = some q := by
  unfold PTI at h
  split at h
  · cases h
  · exact h
theorem FX2.n (F : FX2 τ) {s : SH} {k : Nat} : FX2 (nC τ s k) := by
  refine ⟨Nat.le_succ_of_le F.1, fun a h1 h2 => ?_, fun a j q hq => ?_⟩
  · show (if a = tN τ then s else tS τ a) = _
    rw [if_neg (by have := F.1; omega)]; exact F.2.1 a h1 h2
  · have h9 := (PTF_v (PTI_PTF hq)).2.2.2
    show rw2 (tP τ) (tN τ) (fun _ => none) a j = some q
    rw [rw2_oth _ _ (by have := F.1; omega)]
    exact F.2.2 a j q hq
/-- by what a call left alone -/
theorem FX2.kp {lo hi : Nat} (F : FX2 τ) (h : Kp lo hi τ τ1) (hp : ∀ a k q, lo ≤ a → a < hi → PTI a k = some q → tP τ1 a k = some q) : FX2 τ1 := by
  refine ⟨Nat.le_trans F.1 h.1, fun a h1 h2 => (h.2.2.1 a (by have := F.1; omega)).trans (F.2.1 a h1 h2), fun a k q hq => ?_⟩
  by_cases e : lo ≤ a ∧ a < hi
  · exact hp a k q e.1 e.2 hq
  · have h9 := (PTF_v (PTI_PTF hq)).2.2.2
    rw [(h.2.2.2 a (by have := F.1; omega) e).2]
    exact F.2.2 a k q hq
end FX2
theorem FX2_of {L : Nat} {f : Nat → Int} {τ : T2} (B : BLDX L f 473 [] τ) : FX2 τ := ⟨by rw [B.1]; exact Nat.le_refl _, B.2.2.2.1, fun a k q hq => B.2.2.2.2.2.1 a k q (PTI_PTF hq) (PTF_v (PTI_PTF hq)).2.2.1 (by simp)⟩
/-- places that depend on a number -/
theorem shR (r : Nat) (h : r < 20) : SHF (92 + 4 * r) = (1, 6, 0) ∧ SHF (93 + 4 * r) = (2, 1, 12) ∧ SHF (94 + 4 * r) = (2, 0, 3) ∧ SHF (95 + 4 * r) = (2, 0, 3) := (show ∀ r : Nat, r < 20 → (SHF (92 + 4 * r) = (1, 6, 0) ∧ SHF (93 + 4 * r) = (2, 1, 12) ∧ SHF (94 + 4 * r) = (2, 0, 3) ∧ SHF (95 + 4 * r) = (2, 0, 3)) by decide +kernel) r h
theorem ptR (r : Nat) (h : r < 20) : PTI 66 r = some (92 + 4 * r) ∧ PTI (92 + 4 * r) 2 = some (93 + 4 * r) ∧ PTI (92 + 4 * r) 7 = some (94 + 4 * r) ∧ PTI (92 + 4 * r) 8 = some (95 + 4 * r) := (show ∀ r : Nat, r < 20 → (PTI 66 r = some (92 + 4 * r) ∧ PTI (92 + 4 * r) 2 = some (93 + 4 * r) ∧ PTI (92 + 4 * r) 7 = some (94 + 4 * r) ∧ PTI (92 + 4 * r) 8 = some (95 + 4 * r)) by decide +kernel) r h
theorem shM (r : Nat) (h : r < 20) : SHF (336 + 4 * r) = (1, 15, 0) ∧ SHF (337 + 4 * r) = (2, 1, 12) ∧ SHF (338 + 4 * r) = (2, 0, 3) ∧ SHF (339 + 4 * r) = (2, 0, 3) := (show ∀ r : Nat, r < 20 → (SHF (336 + 4 * r) = (1, 15, 0) ∧ SHF (337 + 4 * r) = (2, 1, 12) ∧ SHF (338 + 4 * r) = (2, 0, 3) ∧ SHF (339 + 4 * r) = (2, 0, 3)) by decide +kernel) r h
theorem ptM (r : Nat) (h : r < 20) : PTI 221 r = some (336 + 4 * r) ∧ PTI (336 + 4 * r) 6 = some (337 + 4 * r) ∧ PTI (336 + 4 * r) 7 = some (338 + 4 * r) ∧ PTI (336 + 4 * r) 8 = some (339 + 4 * r) := (show ∀ r : Nat, r < 20 → (PTI 221 r = some (336 + 4 * r) ∧ PTI (336 + 4 * r) 6 = some (337 + 4 * r) ∧ PTI (336 + 4 * r) 7 = some (338 + 4 * r) ∧ PTI (336 + 4 * r) 8 = some (339 + 4 * r)) by decide +kernel) r h
theorem shT (t : Nat) (h : t < 8) : SHF (172 + 6 * t) = (1, 8, 0) ∧ SHF (173 + 6 * t) = (2, 0, 20) ∧ SHF (174 + 6 * t) = (2, 0, 20) ∧ SHF (175 + 6 * t) = (2, 0, 20) ∧ SHF (176 + 6 * t) = (2, 0, 20) ∧ SHF (177 + 6 * t) = (2, 0, 60) := (show ∀ t : Nat, t < 8 → (SHF (172 + 6 * t) = (1, 8, 0) ∧ SHF (173 + 6 * t) = (2, 0, 20) ∧ SHF (174 + 6 * t) = (2, 0, 20) ∧ SHF (175 + 6 * t) = (2, 0, 20) ∧ SHF (176 + 6 * t) = (2, 0, 20) ∧ SHF (177 + 6 * t) = (2, 0, 60)) by decide +kernel) t h
theorem ptT (t : Nat) (h : t < 8) : PTI 68 t = some (172 + 6 * t) ∧ PTI (172 + 6 * t) 2 = some (173 + 6 * t) ∧ PTI (172 + 6 * t) 3 = some (174 + 6 * t) ∧ PTI (172 + 6 * t) 4 = some (175 + 6 * t) ∧ PTI (172 + 6 * t) 5 = some (176 + 6 * t) ∧ PTI (172 + 6 * t) 6 = some (177 + 6 * t) := (show ∀ t : Nat, t < 8 → (PTI 68 t = some (172 + 6 * t) ∧ PTI (172 + 6 * t) 2 = some (173 + 6 * t) ∧ PTI (172 + 6 * t) 3 = some (174 + 6 * t) ∧ PTI (172 + 6 * t) 4 = some (175 + 6 * t) ∧ PTI (172 + 6 * t) 5 = some (176 + 6 * t) ∧ PTI (172 + 6 * t) 6 = some (177 + 6 * t)) by decide +kernel) t h
theorem shU (t : Nat) (h : t < 8) : SHF (416 + 7 * t) = (1, 19, 0) ∧ SHF (417 + 7 * t) = (2, 0, 20) ∧ SHF (418 + 7 * t) = (2, 0, 20) ∧ SHF (419 + 7 * t) = (2, 0, 20) ∧ SHF (420 + 7 * t) = (2, 0, 20) ∧ SHF (421 + 7 * t) = (2, 0, 60) ∧ SHF (422 + 7 * t) = (2, 0, 60) := (show ∀ t : Nat, t < 8 → (SHF (416 + 7 * t) = (1, 19, 0) ∧ SHF (417 + 7 * t) = (2, 0, 20) ∧ SHF (418 + 7 * t) = (2, 0, 20) ∧ SHF (419 + 7 * t) = (2, 0, 20) ∧ SHF (420 + 7 * t) = (2, 0, 20) ∧ SHF (421 + 7 * t) = (2, 0, 60) ∧ SHF (422 + 7 * t) = (2, 0, 60)) by decide +kernel) t h
theorem ptU (t : Nat) (h : t < 8) : PTI 222 t = some (416 + 7 * t) ∧ PTI (416 + 7 * t) 3 = some (417 + 7 * t) ∧ PTI (416 + 7 * t) 4 = some (418 + 7 * t) ∧ PTI (416 + 7 * t) 5 = some (419 + 7 * t) ∧ PTI (416 + 7 * t) 6 = some (420 + 7 * t) ∧ PTI (416 + 7 * t) 7 = some (421 + 7 * t) ∧ PTI (416 + 7 * t) 8 = some (422 + 7 * t) := (show ∀ t : Nat, t < 8 → (PTI 222 t = some (416 + 7 * t) ∧ PTI (416 + 7 * t) 3 = some (417 + 7 * t) ∧ PTI (416 + 7 * t) 4 = some (418 + 7 * t) ∧ PTI (416 + 7 * t) 5 = some (419 + 7 * t) ∧ PTI (416 + 7 * t) 6 = some (420 + 7 * t) ∧ PTI (416 + 7 * t) 7 = some (421 + 7 * t) ∧ PTI (416 + 7 * t) 8 = some (422 + 7 * t)) by decide +kernel) t h
def b2i (p : Prop) [Decidable p] : Int := if p then 1 else 0
theorem b2i_t {p : Prop} [Decidable p] (h : p) : b2i p = 1 := if_pos h
theorem b2i_f {p : Prop} [Decidable p] (h : ¬ p) : b2i p = 0 := if_neg h
