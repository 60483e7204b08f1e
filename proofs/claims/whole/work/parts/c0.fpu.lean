/-! FORMS, purely: reading; sets of places; code that walks -/
abbrev BSet : Type := Nat → Bool
abbrev FTr : Type := List Int → BSet → BSet
abbrev PFR : Type := (Int × Nat) ⊕ (FTr × Nat × Nat)
abbrev MSt : Type := Nat → BSet
def wS (w : List Int) : FTr := fun l S e => decide (w.length ≤ e ∧ e ≤ l.length ∧ ∀ i, i < w.length → byt l (e - w.length + i) = byt w i) && S (e - w.length)
def myF (g : FTr) : FTr := fun l S e => S e || g l S e
def sqF (g h : FTr) : FTr := fun l S => h l (g l S)
def orF (g h : FTr) : FTr := fun l S e => g l S e || h l S e
def nnF : FTr := fun _ _ _ => false
def jnM (M : MSt) (r : Nat) (S : BSet) : MSt := fun q => if q = r then (fun e => M r e || S e) else M q
theorem jnM_a {M : MSt} {r : Nat} {S : BSet} {e : Nat} : jnM M r S r e = (M r e || S e) := by unfold jnM; rw [if_pos rfl]
theorem jnM_o {M : MSt} {r q : Nat} {S : BSet} (h : q ≠ r) : jnM M r S q = M q := if_neg h
/-- words in any order -/
def bgI (W : Nat → List Int) (l : List Int) (s : Nat) : Nat → Nat → MSt → MSt
  | 0, _, E => E
  | j + 1, i, E => bgI W l s j (i + 1) (if s / 2 ^ i % 2 = 0 then jnM E (s + 2 ^ i) (wS (W i) l (E s)) else E)
def bgO (W : Nat → List Int) (l : List Int) (k : Nat) : Nat → Nat → MSt → MSt
  | 0, _, E => E
  | j + 1, s, E => bgO W l k j (s + 1) (bgI W l s k 0 E)
def bg0 (S : BSet) : MSt := fun r => if r = 0 then S else fun _ => false
def bgF (W : Nat → List Int) (k : Nat) : FTr := fun l S => bgO W l k (2 ^ k - 1) 0 (bg0 S) (2 ^ k - 1)
theorem bgI_cg {W W1 : Nat → List Int} {l : List Int} {s : Nat} : ∀ (j i : Nat) (E : MSt), (∀ x, i ≤ x → x < i + j → W x = W1 x) → bgI W l s j i E = bgI W1 l s j i E
  | 0, _, _, _ => rfl
  | j + 1, i, E, h => by
    simp only [bgI]
    rw [h i (Nat.le_refl _) (by omega)]
    exact bgI_cg j (i + 1) _ (fun x h1 h2 => h x (by omega) (by omega))
theorem bgO_cg {W W1 : Nat → List Int} {l : List Int} {k : Nat} (h : ∀ x, x < k → W x = W1 x) : ∀ (j s : Nat) (E : MSt), bgO W l k j s E = bgO W1 l k j s E
  | 0, _, _ => rfl
  | j + 1, s, E => by
    simp only [bgO]
    rw [bgI_cg k 0 E (fun x _ h2 => h x (by omega))]
    exact bgO_cg h j (s + 1) _
theorem bgF_cg {W W1 : Nat → List Int} {k : Nat} (h : ∀ x, x < k → W x = W1 x) : bgF W k = bgF W1 k := by
  funext l S
  unfold bgF
  rw [bgO_cg h]
/-- reading -/
def fWd (f : Nat → Int) (n a c : Nat) : PFR := if tkS f n a = 2 then (if c < 40 then (if isS f n (tkT f n a) 63 = true then .inr (myF (wS (tkW f n a)), tkT f n (tkT f n a), c + 1) else .inr (wS (tkW f n a), tkT f n a, c + 1)) else .inl (4, tkF f n a)) else .inl (1, tkF f n a)
def fBe (f : Nat → Int) (n : Nat) (W : List (List Int)) (a c : Nat) : PFR := if isS f n a 93 = true then .inr (bgF (fun i => W.getD i []) W.length, tkT f n a, c) else .inl (1, tkF f n a)
def fBl (f : Nat → Int) (n : Nat) : Nat → List (List Int) → Nat → Nat → PFR
  | 0, W, a, c => if tkS f n a = 2 then .inl (4, tkF f n a) else fBe f n W a c
  | j + 1, W, a, c => if tkS f n a = 2 then (if c < 40 then fBl f n j (W ++ [tkW f n a]) (tkT f n a) (c + 1) else .inl (4, tkF f n a)) else fBe f n W a c
def fBag (f : Nat → Int) (n a c : Nat) : PFR := if tkS f n (tkT f n a) = 2 then fBl f n 4 [] (tkT f n a) c else .inl (1, tkF f n (tkT f n a))
def fNe (f : Nat → Int) (n : Nat) (g : FTr) (a c : Nat) : PFR := if isS f n a 41 = true then (if isS f n (tkT f n a) 63 = true then .inr (myF g, tkT f n (tkT f n a), c) else .inr (g, tkT f n a, c)) else .inl (1, tkF f n a)
def fNs (nst : Option (Nat → Nat → PFR)) (f : Nat → Int) (n a c : Nat) : PFR := match nst with
  | none => .inl (4, tkF f n a)
  | some p => match p (tkT f n a) c with
    | .inl e => .inl e
    | .inr (g, a2, c2) => fNe f n g a2 c2
def fPt (nst : Option (Nat → Nat → PFR)) (f : Nat → Int) (n a c : Nat) : PFR := if isS f n a 40 = true then fNs nst f n a c else if isS f n a 91 = true then fBag f n a c else fWd f n a c
def fBeg (f : Nat → Int) (n a : Nat) : Bool := decide (tkS f n a = 2) || (isS f n a 40 || isS f n a 91)
def fRl (p : Nat → Nat → PFR) (f : Nat → Int) (n : Nat) : Nat → FTr → Nat → Nat → PFR
  | 0, g, a, c => .inr (g, a, c)
  | j + 1, g, a, c => if fBeg f n a = true then (match p a c with
    | .inl e => .inl e
    | .inr (g2, a2, c2) => fRl p f n j (sqF g g2) a2 c2) else .inr (g, a, c)
def fRow (p : Nat → Nat → PFR) (f : Nat → Int) (n a c : Nat) : PFR := match p a c with
  | .inl e => .inl e
  | .inr (g, a1, c1) => fRl p f n 300 g a1 c1
def fEl (p : Nat → Nat → PFR) (f : Nat → Int) (n : Nat) : Nat → FTr → Nat → Nat → PFR
  | 0, g, a, c => .inr (g, a, c)
  | j + 1, g, a, c => if isS f n a 47 = true then (match p (tkT f n a) c with
    | .inl e => .inl e
    | .inr (g2, a2, c2) => fEl p f n j (orF g g2) a2 c2) else .inr (g, a, c)
def fEit (p : Nat → Nat → PFR) (f : Nat → Int) (n a c : Nat) : PFR := match p a c with
  | .inl e => .inl e
  | .inr (g, a1, c1) => fEl p f n 300 g a1 c1
def fFor (f : Nat → Int) (n : Nat) : Nat → Nat → Nat → PFR
  | 0 => fEit (fRow (fPt none f n) f n) f n
  | k + 1 => fEit (fRow (fPt (some (fFor f n k)) f n) f n) f n
def pForm (f : Nat → Int) (n : Nat) : (Int × Nat) ⊕ FTr := match fFor f n 8 0 0 with
  | .inl e => .inl e
  | .inr (g, a, _) => if tkS f n a = 0 then .inr g else .inl (1, tkF f n a)
def frm (g : FTr) : FSm := fun l => g l (fun k => decide (k = 0)) l.length
/-- code -/
def sbW (t : Nat → Int) (x y : Int) : List Int := (List.range (y.toNat - x.toNat)).map fun j => t (x.toNat + j)
def bgC (o t : Nat → Int) (r : Nat) : Nat → List Int := fun i => sbW t (o (3 * (r + 1 + i) + 1)) (o (3 * (r + 1 + i) + 2))
def stF (o t : Nat → Int) (l : List Int) (r : Nat) (M : MSt) : Nat × MSt := if o (3 * r) = 1 then (r + 1, jnM M (r + 1) (wS (sbW t (o (3 * r + 1)) (o (3 * r + 2))) l (M r))) else if o (3 * r) = 2 then (r + 1, jnM (jnM M (r + 1) (wS (sbW t (o (3 * r + 1)) (o (3 * r + 2))) l (M r))) (r + 1) (M r)) else if o (3 * r) = 4 then (r + 1, jnM (jnM M (r + 1) (M r)) ((o (3 * r + 1)).toNat / 3) (M r)) else if o (3 * r) = 5 then (r + 1, jnM M ((o (3 * r + 1)).toNat / 3) (M r)) else (r + 1 + (o (3 * r + 1)).toNat, jnM M (r + 1 + (o (3 * r + 1)).toNat) (bgF (bgC o t r) (o (3 * r + 1)).toNat l (M r)))
def okX (o : Nat → Int) (n r : Nat) : Prop := 0 ≤ o (3 * r + 1) ∧ o (3 * r + 1) ≤ o (3 * r + 2) ∧ o (3 * r + 2) ≤ (n : Int)
def okFm (o : Nat → Int) (n r : Nat) : Prop := ((o (3 * r) = 1 ∨ o (3 * r) = 2) ∧ okX o n r) ∨ ((o (3 * r) = 4 ∨ o (3 * r) = 5) ∧ 3 * ((r : Int) + 1) ≤ o (3 * r + 1) ∧ o (3 * r + 1) ≤ 1200) ∨ (o (3 * r) = 3 ∧ (1 ≤ o (3 * r + 1) ∧ o (3 * r + 1) ≤ 4) ∧ ∀ i, i < (o (3 * r + 1)).toNat → okX o n (r + 1 + i))
def FRc (o t : Nat → Int) (n : Nat) (l : List Int) : Nat → Nat → MSt → Nat → MSt → Prop
  | 0, r, M, b, M1 => r = b ∧ M = M1
  | k + 1, r, M, b, M1 => okFm o n r ∧ (stF o t l r M).1 ≤ b ∧ FRc o t n l k (stF o t l r M).1 (stF o t l r M).2 b M1
section FRC
variable {o o1 t : Nat → Int} {n : Nat} {l : List Int}
theorem stF_lt {r : Nat} {M : MSt} : r < (stF o t l r M).1 := by
  unfold stF
  split
  · exact Nat.lt_succ_self r
  · split
    · exact Nat.lt_succ_self r
    · split
      · exact Nat.lt_succ_self r
      · split
        · exact Nat.lt_succ_self r
        · show r < r + 1 + _; omega
theorem FRc.le : ∀ (k : Nat) {r b : Nat} {M M1 : MSt}, FRc o t n l k r M b M1 → r + k ≤ b
  | 0, r, b, M, M1, h => by have := h.1; omega
  | k + 1, r, b, M, M1, h => by
    have h1 := FRc.le k h.2.2
    have h2 := stF_lt (o := o) (t := t) (l := l) (r := r) (M := M)
    omega
theorem FRc.cat : ∀ (k : Nat) {k2 r m b : Nat} {M M1 M2 : MSt}, FRc o t n l k r M m M1 → FRc o t n l k2 m M1 b M2 → FRc o t n l (k + k2) r M b M2
  | 0, k2, r, m, b, M, M1, M2, h, h2 => by
    obtain ⟨e1, e2⟩ := h
    subst e1 e2
    rw [Nat.zero_add]; exact h2
  | k + 1, k2, r, m, b, M, M1, M2, h, h2 => by
    obtain ⟨x1, x2, x3⟩ := h
    have := FRc.le k2 h2
    rw [show k + 1 + k2 = (k + k2) + 1 by omega]
    exact ⟨x1, by omega, FRc.cat k x3 h2⟩
theorem okX.fr {r b : Nat} (h : okX o n r) (hb : r < b) (he : ∀ i, 3 * r ≤ i → i < 3 * b → o1 i = o i) : okX o1 n r := by
  unfold okX
  rw [he (3 * r + 1) (by omega) (by omega), he (3 * r + 2) (by omega) (by omega)]
  exact h
theorem FRc.fr : ∀ (k : Nat) {r b : Nat} {M M1 : MSt}, FRc o t n l k r M b M1 → (∀ i, 3 * r ≤ i → i < 3 * b → o1 i = o i) → FRc o1 t n l k r M b M1
  | 0, _, _, _, _, h, _ => h
  | k + 1, r, b, M, M1, h, he => by
    obtain ⟨h1, h2, h3⟩ := h
    have lt := stF_lt (o := o) (t := t) (l := l) (r := r) (M := M)
    have e0 := he (3 * r) (by omega) (by omega)
    have e1 := he (3 * r + 1) (by omega) (by omega)
    have e2 := he (3 * r + 2) (by omega) (by omega)
    have hk : (¬ o (3 * r) = 1) → (¬ o (3 * r) = 2) → (¬ o (3 * r) = 4) → (¬ o (3 * r) = 5) → r + 1 + (o (3 * r + 1)).toNat ≤ b := fun y1 y2 y4 y5 => by
      unfold stF at h2
      rw [if_neg y1, if_neg y2, if_neg y4, if_neg y5] at h2
      exact h2
    have en : stF o1 t l r M = stF o t l r M := by
      by_cases y1 : o (3 * r) = 1
      · unfold stF; rw [e0, e1, e2, if_pos y1, if_pos y1]
      by_cases y2 : o (3 * r) = 2
      · unfold stF; rw [e0, e1, e2, if_neg y1, if_neg y1, if_pos y2, if_pos y2]
      by_cases y4 : o (3 * r) = 4
      · unfold stF; rw [e0, e1, e2, if_neg y1, if_neg y1, if_neg y2, if_neg y2, if_pos y4, if_pos y4]
      by_cases y5 : o (3 * r) = 5
      · unfold stF; rw [e0, e1, e2, if_neg y1, if_neg y1, if_neg y2, if_neg y2, if_neg y4, if_neg y4, if_pos y5, if_pos y5]
      have hb := hk y1 y2 y4 y5
      have ec : bgF (bgC o1 t r) (o (3 * r + 1)).toNat = bgF (bgC o t r) (o (3 * r + 1)).toNat := bgF_cg (fun x hx => by
        unfold bgC
        rw [he (3 * (r + 1 + x) + 1) (by omega) (by omega), he (3 * (r + 1 + x) + 2) (by omega) (by omega)])
      unfold stF
      rw [e0, e1, e2, if_neg y1, if_neg y1, if_neg y2, if_neg y2, if_neg y4, if_neg y4, if_neg y5, if_neg y5, ec]
    refine ⟨?_, by rw [en]; exact h2, by rw [en]; exact FRc.fr k h3 (fun i hi hb => he i (by omega) hb)⟩
    unfold okFm
    rw [e0, e1]
    rcases h1 with ⟨y, z⟩ | z | ⟨y, z1, z2⟩
    · exact Or.inl ⟨y, z.fr (b := b) (by omega) (fun i p q => he i p q)⟩
    · exact Or.inr (Or.inl z)
    · have hb := hk (by omega) (by omega) (by omega) (by omega)
      exact Or.inr (Or.inr ⟨y, z1, fun i hi => (z2 i hi).fr (b := b) (by omega) (fun j p q => he j (by omega) q)⟩)
theorem FR1 {r b : Nat} {M M1 : MSt} (hk : okFm o n r) (e : stF o t l r M = (b, M1)) : FRc o t n l 1 r M b M1 := ⟨hk, by rw [e]; exact Nat.le_refl _, by rw [e], by rw [e]⟩
end FRC
/-- a piece of code that leads from a set of places to another -/
def SgF (o t : Nat → Int) (n a b : Nat) (g : FTr) : Prop := a < b ∧ ∀ (l : List Int) (M : MSt), (∀ r, a < r → r < b → ∀ e, M r e = false) → ∃ k M1, FRc o t n l k a M b M1 ∧ (∀ e, M1 b e = (M b e || g l (M a) e)) ∧ ∀ r, r ≤ a ∨ b < r → M1 r = M r
section SGF
variable {o o1 t : Nat → Int} {n a b m : Nat} {g h : FTr}
theorem SgF.fr (hg : SgF o t n a b g) (he : ∀ i, 3 * a ≤ i → i < 3 * b → o1 i = o i) : SgF o1 t n a b g := ⟨hg.1, fun l M hM => by
  obtain ⟨k, M1, h1, h2⟩ := hg.2 l M hM
  exact ⟨k, M1, FRc.fr k h1 he, h2⟩⟩
theorem SgF_w (h0 : o (3 * a) = 1) (hx : okX o n a) : SgF o t n a (a + 1) (wS (sbW t (o (3 * a + 1)) (o (3 * a + 2)))) := ⟨Nat.lt_succ_self a, fun l M _ => ⟨1, _, FR1 (Or.inl ⟨Or.inl h0, hx⟩) (by unfold stF; rw [if_pos h0]), fun e => jnM_a, fun r hr => jnM_o (by omega)⟩⟩
theorem SgF_m (h0 : o (3 * a) = 2) (hx : okX o n a) : SgF o t n a (a + 1) (myF (wS (sbW t (o (3 * a + 1)) (o (3 * a + 2))))) := ⟨Nat.lt_succ_self a, fun l M _ => ⟨1, _, FR1 (Or.inl ⟨Or.inr h0, hx⟩) (by unfold stF; rw [if_neg (by rw [h0]; decide), if_pos h0]), fun e => by
  rw [jnM_a, jnM_a]
  unfold myF
  cases M (a + 1) e <;> cases M a e <;> cases wS (sbW t (o (3 * a + 1)) (o (3 * a + 2))) l (M a) e <;> rfl, fun r hr => by rw [jnM_o (by omega), jnM_o (by omega)]⟩⟩
theorem SgF_b {k : Nat} (h0 : o (3 * a) = 3) (h1 : o (3 * a + 1) = (k : Int)) (hk : 1 ≤ k ∧ k ≤ 4) (hx : ∀ i, i < k → okX o n (a + 1 + i)) {W : Nat → List Int} (hW : ∀ i, i < k → bgC o t a i = W i) : SgF o t n a (a + 1 + k) (bgF W k) := ⟨by omega, fun l M _ => ⟨1, jnM M (a + 1 + k) (bgF W k l (M a)), FR1 (Or.inr (Or.inr ⟨h0, by omega, fun i hi => hx i (by omega)⟩)) (by
  unfold stF
  rw [if_neg (by rw [h0]; decide), if_neg (by rw [h0]; decide), if_neg (by rw [h0]; decide), if_neg (by rw [h0]; decide), h1, Int.toNat_natCast, bgF_cg hW]), fun e => jnM_a, fun r hr => jnM_o (by omega)⟩⟩
theorem SgF_s (h1 : SgF o t n a m g) (h2 : SgF o t n m b h) : SgF o t n a b (sqF g h) := ⟨by have := h1.1; have := h2.1; omega, fun l M hM => by
  have l1 := h1.1
  have l2 := h2.1
  obtain ⟨k1, M1, r1, v1, w1⟩ := h1.2 l M (fun r x y => hM r x (by omega))
  obtain ⟨k2, M2, r2, v2, w2⟩ := h2.2 l M1 (fun r x y e => by rw [w1 r (Or.inr x)]; exact hM r (by omega) y e)
  have em : M1 m = g l (M a) := funext fun e => by rw [v1 e, hM m l1 l2 e]; rfl
  refine ⟨k1 + k2, M2, FRc.cat k1 r1 r2, fun e => ?_, fun r hr => ?_⟩
  · rw [v2 e, w1 b (Or.inr l2), em]
    rfl
  · rw [w2 r (by omega), w1 r (by omega)]⟩
/-- a fork: on to the next, and to another -/
theorem fkS {l : List Int} {M : MSt} {q : Nat} (h0 : o (3 * a) = 4) (h1 : o (3 * a + 1) = ((3 * q : Nat) : Int)) : stF o t l a M = (a + 1, jnM (jnM M (a + 1) (M a)) q (M a)) := by
  unfold stF
  rw [if_neg (by rw [h0]; decide), if_neg (by rw [h0]; decide), if_pos h0, h1, Int.toNat_natCast, Nat.mul_div_cancel_left q (by decide)]
theorem fkO {q : Nat} (h0 : o (3 * a) = 4 ∨ o (3 * a) = 5) (h1 : o (3 * a + 1) = ((3 * q : Nat) : Int)) (hq : a < q) (h4 : q ≤ 400) : okFm o n a := Or.inr (Or.inl ⟨h0, by omega, by omega⟩)
theorem SgF_n (h0 : o (3 * a) = 4) (h1 : o (3 * a + 1) = ((3 * (a + 1) : Nat) : Int)) (hs : SgF o t n (a + 1) b g) (hb : b ≤ 400) : SgF o t n a b g := ⟨by have := hs.1; omega, fun l M hM => by
  have l1 := hs.1
  have em : jnM (jnM M (a + 1) (M a)) (a + 1) (M a) (a + 1) = M a := funext fun e => by
    rw [jnM_a, jnM_a, hM (a + 1) (by omega) l1 e]
    cases M a e <;> rfl
  have eo : ∀ r, r ≠ a + 1 → jnM (jnM M (a + 1) (M a)) (a + 1) (M a) r = M r := fun r hr => by rw [jnM_o hr, jnM_o hr]
  obtain ⟨k, M1, r1, v1, w1⟩ := hs.2 l (jnM (jnM M (a + 1) (M a)) (a + 1) (M a)) (fun r x y e => by rw [eo r (by omega)]; exact hM r (by omega) y e)
  refine ⟨1 + k, M1, FRc.cat 1 (FR1 (fkO (Or.inl h0) h1 (by omega) (by omega)) (fkS h0 h1)) r1, fun e => ?_, fun r hr => ?_⟩
  · rw [v1 e, em, eo b (by omega)]
  · rw [w1 r (by omega), eo r (by omega)]⟩
theorem SgF_q (h0 : o (3 * a) = 4) (h1 : o (3 * a + 1) = ((3 * b : Nat) : Int)) (hs : SgF o t n (a + 1) b g) (hb : b ≤ 400) : SgF o t n a b (myF g) := ⟨by have := hs.1; omega, fun l M hM => by
  have l1 := hs.1
  have em : jnM (jnM M (a + 1) (M a)) b (M a) (a + 1) = M a := funext fun e => by
    rw [jnM_o (by omega), jnM_a, hM (a + 1) (by omega) l1 e]
    rfl
  have eb : ∀ e, jnM (jnM M (a + 1) (M a)) b (M a) b e = (M b e || M a e) := fun e => by rw [jnM_a, jnM_o (by omega)]
  have eo : ∀ r, r ≠ a + 1 → r ≠ b → jnM (jnM M (a + 1) (M a)) b (M a) r = M r := fun r hr hq => by rw [jnM_o hq, jnM_o hr]
  obtain ⟨k, M1, r1, v1, w1⟩ := hs.2 l (jnM (jnM M (a + 1) (M a)) b (M a)) (fun r x y e => by rw [eo r (by omega) (by omega)]; exact hM r (by omega) y e)
  refine ⟨1 + k, M1, FRc.cat 1 (FR1 (fkO (Or.inl h0) h1 (by omega) hb) (fkS h0 h1)) r1, fun e => ?_, fun r hr => ?_⟩
  · rw [v1 e, em, eb e]
    unfold myF
    rw [Bool.or_assoc]
  · rw [w1 r (by omega), eo r (by omega) (by omega)]⟩
/-- rows ahead, their jumps not aimed yet -/
def PrF (o t : Nat → Int) (n : Nat) (J : List Nat) (a f : Nat) (g : FTr) : Prop := a ≤ f ∧ ∀ (o1 : Nat → Int) (e : Nat), f < e → e ≤ 400 → (∀ i, 3 * a ≤ i → i < 3 * f → (∀ j ∈ J, i ≠ j + 1) → o1 i = o i) → (∀ j ∈ J, o1 (j + 1) = ((3 * e : Nat) : Int)) → ∀ (l : List Int) (M : MSt), (∀ r, a < r → r < e → ∀ x, M r x = false) → ∃ k M1, FRc o1 t n l k a M f M1 ∧ (∀ x, M1 f x = M a x) ∧ (∀ x, M1 e x = (M e x || g l (M a) x)) ∧ ∀ r, r ≤ a ∨ (f < r ∧ r ≠ e) → M1 r = M r
theorem PrF_0 : PrF o t n [] a a nnF := ⟨Nat.le_refl _, fun o1 e he _ _ _ l M _ => ⟨0, M, ⟨rfl, rfl⟩, fun _ => rfl, fun x => by
  show M e x = (M e x || false)
  cases M e x <;> rfl, fun _ _ => rfl⟩⟩
theorem PrF.fr {J : List Nat} {f : Nat} (hp : PrF o t n J a f g) (he : ∀ i, 3 * a ≤ i → i < 3 * f → o1 i = o i) : PrF o1 t n J a f g := ⟨hp.1, fun o2 e h1 h2 h3 h4 => hp.2 o2 e h1 h2 (fun i x y z => (h3 i x y z).trans (he i x y)) h4⟩
/-- the last row so far: its fork, its code -/
theorem PrF_r {J : List Nat} {f q e : Nat} (hp : PrF o t n J a f g) (hq : f < q) (hfm : m ≤ e) (hqe : q ≤ e) (he4 : e ≤ 400) (hqm : q = f + 1 ∨ m < q) (hO : ∀ i, 3 * a ≤ i → i < 3 * f → (∀ j ∈ J, i ≠ j + 1) → o1 i = o i) (hJ : ∀ j ∈ J, o1 (j + 1) = ((3 * e : Nat) : Int)) (h0 : o1 (3 * f) = 4) (h1 : o1 (3 * f + 1) = ((3 * q : Nat) : Int)) (hs : SgF o1 t n (f + 1) m h) (l : List Int) (M : MSt) (hM : ∀ r, a < r → r < e → ∀ x, M r x = false) : ∃ k M1, FRc o1 t n l k a M m M1 ∧ (∀ x, m ≠ e → M1 m x = h l (M a) x) ∧ (m < q → q ≠ e → ∀ x, M1 q x = M a x) ∧ (m = e → q = f + 1 → ∀ x, M1 e x = (M e x || (g l (M a) x || h l (M a) x))) ∧ (m ≠ e → q ≠ e → ∀ x, M1 e x = (M e x || g l (M a) x)) ∧ ∀ r, r ≤ a ∨ (m < r ∧ r ≠ q ∧ r ≠ e) → M1 r = M r := by
  have l1 := hs.1
  have ha := hp.1
  obtain ⟨k1, M1, r1, v1, u1, w1⟩ := hp.2 o1 e (by omega) he4 hO hJ l M hM
  have ef : M1 f = M a := funext v1
  have e1 : M1 (f + 1) = M (f + 1) := w1 (f + 1) (by omega)
  have s2 : stF o1 t l f M1 = (f + 1, jnM (jnM M1 (f + 1) (M a)) q (M a)) := by rw [fkS h0 h1, ef]
  have em : jnM (jnM M1 (f + 1) (M a)) q (M a) (f + 1) = M a := funext fun x => by
    by_cases y : q = f + 1
    · rw [y, jnM_a, jnM_a, e1, hM (f + 1) (by omega) (by omega) x]
      cases M a x <;> rfl
    · rw [jnM_o (fun z => y z.symm), jnM_a, e1, hM (f + 1) (by omega) (by omega) x]
      rfl
  have eo : ∀ r, r ≠ f + 1 → r ≠ q → jnM (jnM M1 (f + 1) (M a)) q (M a) r = M1 r := fun r x y => by rw [jnM_o y, jnM_o x]
  obtain ⟨k2, M2, r2, v2, w2⟩ := hs.2 l (jnM (jnM M1 (f + 1) (M a)) q (M a)) (fun r x y z => by rw [eo r (by omega) (by omega), w1 r (by omega)]; exact hM r (by omega) (by omega) z)
  refine ⟨k1 + (1 + k2), M2, FRc.cat k1 r1 (FRc.cat 1 (FR1 (fkO (Or.inl h0) h1 hq (by omega)) s2) r2), fun x hme => ?_, fun hm hqe2 x => ?_, fun hme hq1 x => ?_, fun hme hqe2 x => ?_, fun r hr => ?_⟩
  · rw [v2 x, em, eo m (by omega) (by omega), w1 m (by omega), hM m (by omega) (by omega) x]
    rfl
  · rw [w2 q (by omega), jnM_a, jnM_o (by omega), w1 q (by omega), hM q (by omega) (by omega) x]
    rfl
  · subst hme
    rw [v2 x, em, eo m (by omega) (by omega), u1 x, Bool.or_assoc]
  · rw [w2 e (by omega), eo e (by omega) (fun z => hqe2 z.symm)]
    exact u1 x
  · rw [w2 r (by omega), eo r (by omega) (by omega), w1 r (by omega)]
theorem PrF_s {J : List Nat} {f : Nat} (hp : PrF o t n J a f g) (hj : JOk (3 * a) J (3 * f)) (h0 : o (3 * f) = 4) (h1 : o (3 * f + 1) = ((3 * (m + 1) : Nat) : Int)) (hs : SgF o t n (f + 1) m h) (h5 : o (3 * m) = 5) : PrF o t n (3 * m :: J) a (m + 1) (orF g h) := by
  have l1 := hs.1
  have ha := hp.1
  have lt := JOk.lt J hj
  refine ⟨by omega, fun o1 e he he4 hO hJ l M hM => ?_⟩
  have nj : ∀ i, i ≠ 3 * m + 1 → 3 * f ≤ i → ∀ j ∈ 3 * m :: J, i ≠ j + 1 := fun i h1 h2 j hj2 => by
    rcases List.mem_cons.mp hj2 with y | y
    · rw [y]; exact h1
    · have := lt j y; omega
  obtain ⟨k, M1, r1, v1, v2, -, v4, w1⟩ := PrF_r (o1 := o1) (e := e) (q := m + 1) hp (by omega) (by omega) (by omega) he4 (by omega) (fun i x y z => hO i x (by omega) (fun j hj2 => by
    rcases List.mem_cons.mp hj2 with q | q
    · omega
    · exact z j q)) (fun j hj2 => hJ j (List.mem_cons_of_mem _ hj2)) (by rw [hO (3 * f) (by omega) (by omega) (nj _ (by omega) (by omega))]; exact h0) (by rw [hO (3 * f + 1) (by omega) (by omega) (nj _ (by omega) (by omega))]; exact h1) (hs.fr (fun i x y => hO i (by omega) (by omega) (nj i (by omega) (by omega)))) l M hM
  have em : M1 m = h l (M a) := funext fun x => v1 x (by omega)
  have o5 : o1 (3 * m) = 5 := by rw [hO (3 * m) (by omega) (by omega) (nj _ (by omega) (by omega))]; exact h5
  have oe : o1 (3 * m + 1) = ((3 * e : Nat) : Int) := hJ (3 * m) (by simp)
  have s3 : stF o1 t l m M1 = (m + 1, jnM M1 e (h l (M a))) := by
    unfold stF
    rw [if_neg (by rw [o5]; decide), if_neg (by rw [o5]; decide), if_neg (by rw [o5]; decide), if_pos o5, oe, Int.toNat_natCast, Nat.mul_div_cancel_left e (by decide), em]
  refine ⟨k + 1, jnM M1 e (h l (M a)), FRc.cat k r1 (FR1 (fkO (Or.inr o5) oe (by omega) he4) s3), fun x => ?_, fun x => ?_, fun r hr => ?_⟩
  · rw [jnM_o (by omega)]
    exact v2 (by omega) (by omega) x
  · rw [jnM_a, v4 (by omega) (by omega) x, Bool.or_assoc]
    rfl
  · rw [jnM_o (by omega), w1 r (by omega)]
theorem PrF_f {J : List Nat} {f e : Nat} (hp : PrF o t n J a f g) (he4 : e ≤ 400) (hO : ∀ i, 3 * a ≤ i → i < 3 * f → (∀ j ∈ J, i ≠ j + 1) → o1 i = o i) (hJ : ∀ j ∈ J, o1 (j + 1) = ((3 * e : Nat) : Int)) (h0 : o1 (3 * f) = 4) (h1 : o1 (3 * f + 1) = ((3 * (f + 1) : Nat) : Int)) (hs : SgF o1 t n (f + 1) e h) : SgF o1 t n a e (orF g h) := by
  have l1 := hs.1
  have ha := hp.1
  refine ⟨by omega, fun l M hM => ?_⟩
  obtain ⟨k, M1, r1, -, -, v3, -, w1⟩ := PrF_r (o1 := o1) (e := e) (q := f + 1) (m := e) hp (by omega) (Nat.le_refl _) (by omega) he4 (Or.inl rfl) hO hJ h0 h1 hs l M hM
  exact ⟨k, M1, r1, fun x => v3 rfl rfl x, fun r hr => w1 r (by omega)⟩
end SGF
theorem orF_nn {g : FTr} : orF nnF g = g := by
  funext l S e
  exact Bool.false_or _
theorem sbW_tk {f : Nat → Int} {n a : Nat} : sbW f (tkF f n a : Int) (tkT f n a : Int) = tkW f n a := by
  unfold sbW tkW
  rw [Int.toNat_natCast, Int.toNat_natCast]
