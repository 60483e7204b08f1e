/-! TOKENS, purely; the class's reader of them -/
def isB (x : Int) : Bool := decide (x = 32)
def isL (x : Int) : Bool := decide (97 ≤ x ∧ x ≤ 122)
def isD (x : Int) : Bool := decide (48 ≤ x ∧ x ≤ 57)
def isG (x : Int) : Bool := decide (x = 40 ∨ x = 41 ∨ x = 91 ∨ x = 93 ∨ x = 47 ∨ x = 63 ∨ x = 59 ∨ x = 44)
def spn (p : Int → Bool) (f : Nat → Int) (n : Nat) : Nat → Nat → Nat
  | 0, k => k
  | j + 1, k => if k < n ∧ p (f k) = true then spn p f n j (k + 1) else k
/-- the first place from k on that isn't such -/
def spp (p : Int → Bool) (f : Nat → Int) (n k : Nat) : Nat := spn p f n (n - k) k
section SPP
variable {p : Int → Bool} {f g : Nat → Int} {n k : Nat}
theorem spp_y (h : k < n) (hp : p (f k) = true) : spp p f n k = spp p f n (k + 1) := by
  unfold spp
  rw [show n - k = (n - (k + 1)) + 1 by omega]
  show (if k < n ∧ p (f k) = true then spn p f n (n - (k + 1)) (k + 1) else k) = _
  rw [if_pos ⟨h, hp⟩]
theorem spp_n (h : ¬ (k < n ∧ p (f k) = true)) : spp p f n k = k := by
  unfold spp
  cases e : n - k with
  | zero => rfl
  | succ j =>
    show (if k < n ∧ p (f k) = true then spn p f n j (k + 1) else k) = _
    rw [if_neg h]
theorem spp_b : ∀ (j k : Nat), n - k ≤ j → k ≤ spp p f n k ∧ (k ≤ n → spp p f n k ≤ n) ∧ (∀ i, k ≤ i → i < spp p f n k → p (f i) = true) ∧ (spp p f n k < n → p (f (spp p f n k)) = false) := by
  intro j
  induction j with
  | zero =>
    intro k hk
    rw [spp_n (by omega)]
    exact ⟨Nat.le_refl _, fun h => h, fun i h1 h2 => by omega, fun h => by omega⟩
  | succ j ih =>
    intro k hk
    by_cases h : k < n ∧ p (f k) = true
    · rw [spp_y h.1 h.2]
      obtain ⟨a1, a2, a3, a4⟩ := ih (k + 1) (by omega)
      refine ⟨by omega, fun _ => a2 (by omega), fun i h1 h2 => ?_, a4⟩
      by_cases e : i = k
      · rw [e]; exact h.2
      · exact a3 i (by omega) h2
    · rw [spp_n h]
      refine ⟨Nat.le_refl _, fun h => h, fun i h1 h2 => by omega, fun h1 => ?_⟩
      cases e : p (f k) with
      | false => rfl
      | true => exact absurd ⟨h1, e⟩ h
theorem spp_ge : k ≤ spp p f n k := (spp_b (n - k) k (Nat.le_refl _)).1
theorem spp_le (h : k ≤ n) : spp p f n k ≤ n := (spp_b (n - k) k (Nat.le_refl _)).2.1 h
theorem spp_in {i : Nat} (h1 : k ≤ i) (h2 : i < spp p f n k) : p (f i) = true := (spp_b (n - k) k (Nat.le_refl _)).2.2.1 i h1 h2
theorem spp_out (h : spp p f n k < n) : p (f (spp p f n k)) = false := (spp_b (n - k) k (Nat.le_refl _)).2.2.2 h
end SPP
/-- the token from a place on: where it begins, what it is (0 the end, 1 none, 2 a word, 3 a number, 4 a sign), where it ends -/
def tkF (f : Nat → Int) (n a : Nat) : Nat := spp isB f n a
def tkT (f : Nat → Int) (n a : Nat) : Nat := if tkF f n a < n then (if isL (f (tkF f n a)) then spp isL f n (tkF f n a) else if isD (f (tkF f n a)) then spp isD f n (tkF f n a) else tkF f n a + 1) else tkF f n a
def tkS (f : Nat → Int) (n a : Nat) : Nat := if tkF f n a < n then (if isL (f (tkF f n a)) then (if tkT f n a - tkF f n a ≤ 12 then 2 else 1) else if isD (f (tkF f n a)) then (if tkT f n a - tkF f n a ≤ 3 then 3 else 1) else if isG (f (tkF f n a)) then 4 else 1) else 0
/-- a number: the digits from a place on, so many -/
def nvl (f : Nat → Int) (a : Nat) : Nat → Int
  | 0 => 0
  | j + 1 => 10 * nvl f a j + (f (a + j) - 48)
def tkN (f : Nat → Int) (n a : Nat) : Int := nvl f (tkF f n a) (tkT f n a - tkF f n a)
/-- the letters of a word -/
def tkW (f : Nat → Int) (n a : Nat) : List Int := (List.range (tkT f n a - tkF f n a)).map fun j => f (tkF f n a + j)
theorem isL_t {x : Int} (h : 97 ≤ x) (h1 : x ≤ 122) : isL x = true := decide_eq_true ⟨h, h1⟩
theorem isL_f {x : Int} (h : x < 97 ∨ 122 < x) : isL x = false := decide_eq_false (by omega)
theorem isD_t {x : Int} (h : 48 ≤ x) (h1 : x ≤ 57) : isD x = true := decide_eq_true ⟨h, h1⟩
theorem isD_f {x : Int} (h : x < 48 ∨ 57 < x) : isD x = false := decide_eq_false (by omega)
theorem isB_t {x : Int} (h : x = 32) : isB x = true := decide_eq_true h
theorem isB_f {x : Int} (h : ¬ x = 32) : isB x = false := decide_eq_false h
theorem isL_i {x : Int} (h : isL x = true) : 97 ≤ x ∧ x ≤ 122 := of_decide_eq_true h
theorem isD_i {x : Int} (h : isD x = true) : 48 ≤ x ∧ x ≤ 57 := of_decide_eq_true h
theorem isL_j {x : Int} (h : isL x = false) : ¬ (97 ≤ x ∧ x ≤ 122) := of_decide_eq_false h
theorem isD_j {x : Int} (h : isD x = false) : ¬ (48 ≤ x ∧ x ≤ 57) := of_decide_eq_false h
theorem nvl_b {f : Nat → Int} {a : Nat} : ∀ j, (∀ i, i < j → isD (f (a + i)) = true) → 0 ≤ nvl f a j ∧ (j ≤ 1 → nvl f a j ≤ 9) ∧ (j ≤ 2 → nvl f a j ≤ 99) ∧ (j ≤ 3 → nvl f a j ≤ 999)
  | 0, _ => by simp [nvl]
  | j + 1, h => by
    have h1 := nvl_b j (fun i hi => h i (by omega))
    have h2 := isD_i (h j (by omega))
    simp only [nvl]
    refine ⟨by omega, fun q => ?_, fun q => ?_, fun q => ?_⟩
    · have : j = 0 := by omega
      subst this
      simp only [nvl]
      simp only [nvl] at h1
      omega
    · have := h1.2.1 (by omega); omega
    · have := h1.2.2.1 (by omega); omega
section TK
variable {f : Nat → Int} {n a : Nat}
theorem tkF_le (h : a ≤ n) : a ≤ tkF f n a ∧ tkF f n a ≤ n := ⟨spp_ge, spp_le h⟩
theorem tkT_L (h : tkF f n a < n) (h1 : isL (f (tkF f n a)) = true) : tkT f n a = spp isL f n (tkF f n a) ∧ tkF f n a < tkT f n a ∧ tkT f n a ≤ n ∧ (tkS f n a = 2 ∨ tkS f n a = 1) ∧ (tkS f n a = 2 ↔ tkT f n a - tkF f n a ≤ 12) := by
  have e : tkT f n a = spp isL f n (tkF f n a) := by unfold tkT; rw [if_pos h, if_pos h1]
  have g : tkF f n a < spp isL f n (tkF f n a) := by
    rw [spp_y h h1]
    have := spp_ge (p := isL) (f := f) (n := n) (k := tkF f n a + 1)
    omega
  have s : tkS f n a = if tkT f n a - tkF f n a ≤ 12 then 2 else 1 := by unfold tkS; rw [if_pos h, if_pos h1]
  refine ⟨e, by rw [e]; exact g, by rw [e]; exact spp_le (by omega), ?_, ?_⟩
  · rw [s]; split <;> omega
  · rw [s]; split <;> omega
theorem tkT_D (h : tkF f n a < n) (h0 : isL (f (tkF f n a)) = false) (h1 : isD (f (tkF f n a)) = true) : tkT f n a = spp isD f n (tkF f n a) ∧ tkF f n a < tkT f n a ∧ tkT f n a ≤ n ∧ (tkS f n a = 3 ∨ tkS f n a = 1) ∧ (tkS f n a = 3 ↔ tkT f n a - tkF f n a ≤ 3) := by
  have e : tkT f n a = spp isD f n (tkF f n a) := by unfold tkT; rw [if_pos h, if_neg (by rw [h0]; decide), if_pos h1]
  have g : tkF f n a < spp isD f n (tkF f n a) := by
    rw [spp_y h h1]
    have := spp_ge (p := isD) (f := f) (n := n) (k := tkF f n a + 1)
    omega
  have s : tkS f n a = if tkT f n a - tkF f n a ≤ 3 then 3 else 1 := by unfold tkS; rw [if_pos h, if_neg (by rw [h0]; decide), if_pos h1]
  refine ⟨e, by rw [e]; exact g, by rw [e]; exact spp_le (by omega), ?_, ?_⟩
  · rw [s]; split <;> omega
  · rw [s]; split <;> omega
theorem tkT_G (h : tkF f n a < n) (h0 : isL (f (tkF f n a)) = false) (h1 : isD (f (tkF f n a)) = false) : tkT f n a = tkF f n a + 1 ∧ tkS f n a = if isG (f (tkF f n a)) then 4 else 1 := by
  refine ⟨?_, ?_⟩
  · unfold tkT; rw [if_pos h, if_neg (by rw [h0]; decide), if_neg (by rw [h1]; decide)]
  · unfold tkS; rw [if_pos h, if_neg (by rw [h0]; decide), if_neg (by rw [h1]; decide)]
theorem tkT_E (h : ¬ tkF f n a < n) : tkT f n a = tkF f n a ∧ tkS f n a = 0 := by
  refine ⟨?_, ?_⟩
  · unfold tkT; rw [if_neg h]
  · unfold tkS; rw [if_neg h]
theorem tkT_le (h : a ≤ n) : tkF f n a ≤ tkT f n a ∧ tkT f n a ≤ n := by
  have h1 := tkF_le (f := f) h
  by_cases q : tkF f n a < n
  · cases e : isL (f (tkF f n a)) with
    | true => have := tkT_L q e; omega
    | false =>
      cases e1 : isD (f (tkF f n a)) with
      | true => have := tkT_D q e e1; omega
      | false => have := (tkT_G q e e1).1; omega
  · have := (tkT_E q).1; omega
end TK
/-- the class's tokens: the text, and the token from a place on -/
def TxC (τ : T2) (f : Nat → Int) (n : Nat) : Prop := tP τ 73 0 = some 65 ∧ tI τ 73 1 = (n : Int) ∧ n ≤ 300 ∧ ∀ k, k < n → tI τ 65 k = f k
def TkC (τ : T2) (f : Nat → Int) (n a : Nat) : Prop := tI τ 73 4 = (tkF f n a : Int) ∧ tI τ 73 5 = (tkT f n a : Int) ∧ (tkS f n a = 0 → tI τ 73 2 = 0) ∧ (tkS f n a = 1 → tI τ 73 2 = 1 ∨ (tI τ 73 2 = 4 ∧ isG (tI τ 73 3) = false)) ∧ (tkS f n a = 2 → tI τ 73 2 = 2) ∧ (tkS f n a = 3 → tI τ 73 2 = 3 ∧ tI τ 73 3 = tkN f n a) ∧ (tkS f n a = 4 → tI τ 73 2 = 4 ∧ tI τ 73 3 = f (tkF f n a))
def NXC (a k : Nat) : Prop := a = 73 ∧ (k = 2 ∨ k = 3 ∨ k = 4 ∨ k = 5)
theorem TxC.oc {τ τ1 : T2} {f : Nat → Int} {n : Nat} {P : Nat → Nat → Prop} (h : TxC τ f n) (F : FX2 τ) (o : OC P τ τ1) (hp : ∀ a k, P a k → ¬ ((a = 73 ∧ (k = 0 ∨ k = 1)) ∨ a = 65)) : TxC τ1 f n := by
  have N := F.1
  exact ⟨by rw [(o.2.2.2 73 0 (by omega) (fun z => hp _ _ z (by omega))).2]; exact h.1, by rw [(o.2.2.2 73 1 (by omega) (fun z => hp _ _ z (by omega))).1]; exact h.2.1, h.2.2.1, fun k hk => by rw [(o.2.2.2 65 k (by omega) (fun z => hp _ _ z (by omega))).1]; exact h.2.2.2 k hk⟩
theorem TkC.oc {τ τ1 : T2} {f : Nat → Int} {n a : Nat} {P : Nat → Nat → Prop} (h : TkC τ f n a) (F : FX2 τ) (o : OC P τ τ1) (hp : ∀ a k, P a k → ¬ NXC a k) : TkC τ1 f n a := by
  have N := F.1
  have sm : ∀ k, (k = 2 ∨ k = 3 ∨ k = 4 ∨ k = 5) → tI τ1 73 k = tI τ 73 k := fun k hk => (o.2.2.2 73 k (by omega) (fun z => hp _ _ z ⟨rfl, hk⟩)).1
  unfold TkC
  rw [sm 2 (by omega), sm 3 (by omega), sm 4 (by omega), sm 5 (by omega)]
  exact h
theorem c69 {d : Nat} {τ : T2} {Q : RS → T2 → Prop} {x : Int} (h1 : isL x = true → Q (.inl (some (AI 2))) τ) (h2 : isL x = false → isD x = true → Q (.inl (some (AI 3))) τ) (h3 : isL x = false → isD x = false → Q (.inl (some (AI 4))) τ) : G d 69 0 [vI x] [] τ Q :=
  t69_0 (fun a b => h3 (isL_f (by omega)) (isD_f (by omega))) (fun a b c => h3 (isL_f (by omega)) (isD_f (by omega))) (fun a b c => h2 (isL_f (by omega)) (isD_t b c)) (fun a b c => h3 (isL_f (by omega)) (isD_f (by omega))) (fun a b c e => h3 (isL_f (by omega)) (isD_f (by omega))) (fun a b c e => h2 (isL_f (by omega)) (isD_t c e)) (fun a b => h1 (isL_t a b))
/-- next of the class -/
theorem c68 {d : Nat} {τ : T2} {Q : RS → T2 → Prop} {f : Nat → Int} {n a : Nat} (F : FX2 τ) (X : TxC τ f n) (ha : tI τ 73 5 = (a : Int)) (hn : a ≤ n) (hd : 1 ≤ d) (k : ∀ τ1, OC NXC τ τ1 → FX2 τ1 → tN τ1 = tN τ → tZ τ1 = tZ τ → tP τ1 = tP τ → TkC τ1 f n a → Q (.inl none) τ1) : G d 68 0 [vR 73, none, none, none] [] τ Q := by
  have s73 : ∀ τ : T2, FX2 τ → tS τ 73 = (1, 9, 0) := fun τ F => F.sh rfl (by omega) (by omega)
  have s65 : ∀ τ : T2, FX2 τ → tS τ 65 = (2, 1, 300) := fun τ F => F.sh rfl (by omega) (by omega)
  have pj : ∀ k, (k = 2 ∨ k = 3 ∨ k = 4 ∨ k = 5) → NXC 73 k := fun k h => ⟨rfl, h⟩
  obtain ⟨X1, X2, X3, X4⟩ := X
  refine t68_0 (s73 τ F) ?_
  rw [ha]
  -- behind blanks: at the token
  have tok : ∀ p : Nat, p = tkF f n a → p < n → G (d - 1) 69 0 [vI (f p)] [] (uI τ 73 4 (p : Int)) (KC d 68 60 63 [vR 73, vI (p : Int), none, none] [] Q) := by
    intro p hp hpn
    have o1 : OC NXC τ (uI τ 73 4 (p : Int)) := OC.rf.j (pj 4 (by omega))
    have F1 : FX2 (uI τ 73 4 (p : Int)) := F.j
    have e4 : tI (uI τ 73 4 (p : Int)) 73 4 = (p : Int) := by rw [tI_uI, if_pos ⟨rfl, rfl⟩]
    have e1 : tI (uI τ 73 4 (p : Int)) 73 1 = (n : Int) := by rw [tI_uI, if_neg (by decide)]; exact X2
    have e6 : ∀ i, i < n → tI (uI τ 73 4 (p : Int)) 65 i = f i := fun i hi => by rw [tI_uI, if_neg (by omega)]; exact X4 i hi
    have eP : tP (uI τ 73 4 (p : Int)) = tP τ := rfl
    have eN : tN (uI τ 73 4 (p : Int)) = tN τ := rfl
    have eZ : tZ (uI τ 73 4 (p : Int)) = tZ τ := rfl
    generalize uI τ 73 4 (p : Int) = τ1 at o1 F1 e4 e1 e6 eP eN eZ
    have pX : ∀ τ2 : T2, tP τ2 = tP τ1 → tP τ2 73 0 = some 65 := fun τ2 h => by rw [h, eP]; exact X1
    -- the loop over letters or digits
    have lp : ∀ (pr : Int → Bool) (sk : Int) (mx : Nat), ((sk = 2 ∧ pr = isL ∧ mx = 12) ∨ (sk = 3 ∧ pr = isD ∧ mx = 3)) → isL (f p) = decide (sk = 2) → pr (f p) = true → ∀ (j q : Nat) (τ2 : T2), n - q ≤ j → p ≤ q → q ≤ n → (∀ i, p ≤ i → i < q → pr (f i) = true) → OC NXC τ τ2 → FX2 τ2 → tN τ2 = tN τ → tZ τ2 = tZ τ → tP τ2 = tP τ → tI τ2 73 4 = (p : Int) → tI τ2 73 1 = (n : Int) → (∀ i, i < n → tI τ2 65 i = f i) → (sk = 3 → q - p ≤ 3 → tI τ2 73 3 = nvl f p (q - p)) → G d 68 97 [vR 73, vI (q : Int), vI sk, none] [] τ2 Q := by
      intro pr sk mx hsk hL hpr j
      -- the end of the token
      have fin : ∀ (q : Nat) (τ2 : T2), p ≤ q → q ≤ n → spp pr f n p = q → OC NXC τ τ2 → FX2 τ2 → tN τ2 = tN τ → tZ τ2 = tZ τ → tP τ2 = tP τ → tI τ2 73 4 = (p : Int) → (sk = 3 → q - p ≤ 3 → tI τ2 73 3 = nvl f p (q - p)) → ((mx < q - p → Q (.inl none) (uI (uI τ2 73 5 (q : Int)) 73 2 1)) ∧ (q - p ≤ mx → Q (.inl none) (uI (uI τ2 73 5 (q : Int)) 73 2 sk))) ∧ wr (tI (uI τ2 73 5 (q : Int)) 73 5 - tI (uI τ2 73 5 (q : Int)) 73 4) = ((q - p : Nat) : Int) := by
        intro q τ2 h1 h2 h3 o F2 n2 z2 p2 f2 v2
        have et : tkT f n a = q ∧ (mx < q - p → tkS f n a = 1) ∧ (q - p ≤ mx → (tkS f n a : Int) = sk) := by
          rcases hsk with ⟨q1, q2, q3⟩ | ⟨q1, q2, q3⟩
          · subst q1 q2 q3
            have := tkT_L (f := f) (n := n) (a := a) (by omega) (by rw [← hp, hL]; rfl)
            rw [← hp, h3] at this
            refine ⟨this.1, fun z => ?_, fun z => ?_⟩
            · rcases this.2.2.2.1 with y | y
              · have := this.2.2.2.2.mp y; omega
              · exact y
            · rw [this.2.2.2.2.mpr (by omega)]; rfl
          · subst q1 q2 q3
            have := tkT_D (f := f) (n := n) (a := a) (by omega) (by rw [← hp, hL]; rfl) (by rw [← hp]; exact hpr)
            rw [← hp, h3] at this
            refine ⟨this.1, fun z => ?_, fun z => ?_⟩
            · rcases this.2.2.2.1 with y | y
              · have := this.2.2.2.2.mp y; omega
              · exact y
            · rw [this.2.2.2.2.mpr (by omega)]; rfl
        obtain ⟨et1, et2, et3⟩ := et
        have g : ∀ (x : Int) (i : Nat), i ≠ 5 → i ≠ 2 → tI (uI (uI τ2 73 5 (q : Int)) 73 2 x) 73 i = tI τ2 73 i := fun x i h1 h2 => by rw [tI_uI, if_neg (by omega), tI_uI, if_neg (by omega)]
        have g5 : ∀ (x : Int), tI (uI (uI τ2 73 5 (q : Int)) 73 2 x) 73 5 = (q : Int) := fun x => by rw [tI_uI, if_neg (by omega), tI_uI, if_pos ⟨rfl, rfl⟩]
        have g2 : ∀ (x : Int), tI (uI (uI τ2 73 5 (q : Int)) 73 2 x) 73 2 = x := fun x => by rw [tI_uI, if_pos ⟨rfl, rfl⟩]
        refine ⟨⟨fun h => ?_, fun h => ?_⟩, ?_⟩
        · have s1 := et2 h
          refine k _ ((o.j (pj 5 (by omega))).j (pj 2 (by omega))) F2.j.j n2 z2 p2 ⟨by rw [g _ 4 (by decide) (by decide), ← hp]; exact f2, by rw [g5, et1], fun z => by omega, fun _ => Or.inl (g2 1), fun z => by omega, fun z => by omega, fun z => by omega⟩
        · have s1 := et3 h
          refine k _ ((o.j (pj 5 (by omega))).j (pj 2 (by omega))) F2.j.j n2 z2 p2 ⟨by rw [g _ 4 (by decide) (by decide), ← hp]; exact f2, by rw [g5, et1], fun z => by omega, fun z => by omega, fun z => by rw [g2]; omega, fun z => ⟨by rw [g2]; omega, ?_⟩, fun z => by omega⟩
          rw [g _ 3 (by decide) (by decide), v2 (by omega) (by omega)]
          unfold tkN
          rw [et1, ← hp]
        · rw [tI_uI, if_pos ⟨rfl, rfl⟩, tI_uI, if_neg (by decide), f2, wr_id (by unfold okI; omega)]
          omega
      induction j with
      | zero =>
        intro q τ2 hj h1 h2 h3 o F2 n2 z2 p2 f2 l2 t2 v2
        have hq : q = n := by omega
        have es : spp pr f n p = q := by
          have hb := spp_b (p := pr) (f := f) (n := n) (n - p) p (Nat.le_refl _)
          by_cases e : spp pr f n p < n
          · have := hb.2.2.2 e
            rw [h3 _ hb.1 (by omega)] at this
            cases this
          · have := hb.2.1 (by omega); omega
        obtain ⟨⟨y1, y2⟩, y3⟩ := fin q τ2 h1 h2 es o F2 n2 z2 p2 f2 v2
        refine t68_97 (q6 := 65) (n8 := 300) hd (s73 _ F2) (pX τ2 (by rw [p2, eP])) (s65 _ F2) (fun c => by rw [l2] at c; omega) (fun _ c1 c2 => ?_) (fun _ c1 c2 => ?_) (fun _ c1 c2 => ?_) (fun _ c1 c2 => ?_) (fun c => by rw [l2] at c; omega)
        · rw [y3] at c2; exact y1 (by omega)
        · rw [y3] at c2; exact y2 (by omega)
        · rw [y3] at c2; exact y1 (by omega)
        · rw [y3] at c2; exact y2 (by omega)
      | succ j ih =>
        intro q τ2 hj h1 h2 h3 o F2 n2 z2 p2 f2 l2 t2 v2
        by_cases hq : q < n
        · have tq := t2 q hq
          have go : pr (f q) = true → G d 68 114 [vR 73, vI (q : Int), vI sk, none] [AI sk] τ2 Q := fun hpq => by
            refine t68_114 (q6 := 65) (n8 := 300) (s73 _ F2) (pX τ2 (by rw [p2, eP])) (s65 _ F2) (fun _ => by omega) (fun c => absurd rfl c) (fun c => absurd rfl c) (fun c => absurd rfl c) (fun c => absurd rfl c) (fun _ => ?_)
            rw [wr_nat (by omega)]
            refine ih (q + 1) _ (by omega) (by omega) (by omega) (fun i i1 i2 => ?_) (o.j (pj 3 (by omega))) F2.j n2 z2 p2 ?_ ?_ ?_ (fun s3 hs => ?_)
            · by_cases e : i = q
              · rw [e]; exact hpq
              · exact h3 i i1 (by omega)
            · rw [tI_uI, if_neg (by decide)]; exact f2
            · rw [tI_uI, if_neg (by decide)]; exact l2
            · intro i hi; rw [tI_uI, if_neg (by omega)]; exact t2 i hi
            · rw [tI_uI, if_pos ⟨rfl, rfl⟩, Int.toNat_natCast, tq, v2 s3 (by omega)]
              obtain ⟨q1, q2, q3⟩ : sk = 3 ∧ pr = isD ∧ mx = 3 := by
                rcases hsk with h | h
                · exact absurd (h.1.symm.trans s3) (by decide)
                · exact h
              subst q2
              have hb := nvl_b (f := f) (a := p) (q - p) (fun i hi => h3 (p + i) (by omega) (by omega))
              have hb2 := hb.2.2.1 (by omega)
              have hd1 := isD_i hpq
              rw [wr_id (x := nvl f p (q - p) * 10) (by unfold okI; omega), wr_id (x := nvl f p (q - p) * 10 + f q) (by unfold okI; omega), wr_id (by unfold okI; omega), show q + 1 - p = (q - p) + 1 by omega]
              simp only [nvl]
              rw [show p + (q - p) = q by omega]
              omega
          have ends : pr (f q) = false → ∀ y : Int, y ≠ sk → G d 68 114 [vR 73, vI (q : Int), vI sk, none] [AI y] τ2 Q := fun hpq y hy => by
            have es : spp pr f n p = q := by
              have hb := spp_b (p := pr) (f := f) (n := n) (n - p) p (Nat.le_refl _)
              have b1 : ¬ (q < spp pr f n p) := fun e => by
                have := hb.2.2.1 q h1 e
                rw [hpq] at this; cases this
              by_cases e : spp pr f n p < q
              · have := hb.2.2.2 (by omega)
                rw [h3 _ hb.1 e] at this
                cases this
              · omega
            obtain ⟨⟨y1, y2⟩, y3⟩ := fin q τ2 h1 h2 es o F2 n2 z2 p2 f2 v2
            refine t68_114 (q6 := 65) (n8 := 300) (s73 _ F2) (pX τ2 (by rw [p2, eP])) (s65 _ F2) (fun c => absurd c hy) (fun _ c1 c2 => ?_) (fun _ c1 c2 => ?_) (fun _ c1 c2 => ?_) (fun _ c1 c2 => ?_) (fun c => absurd c hy)
            · rw [y3] at c2; exact y1 (by omega)
            · rw [y3] at c2; exact y2 (by omega)
            · rw [y3] at c2; exact y1 (by omega)
            · rw [y3] at c2; exact y2 (by omega)
          refine t68_97 (q6 := 65) (n8 := 300) hd (s73 _ F2) (pX τ2 (by rw [p2, eP])) (s65 _ F2) (fun c => by omega) (fun c => by rw [l2] at c; omega) (fun c => by rw [l2] at c; omega) (fun c => by rw [l2] at c; omega) (fun c => by rw [l2] at c; omega) (fun _ => ?_)
          rw [Int.toNat_natCast, tq]
          rcases hsk with ⟨q1, q2, q3⟩ | ⟨q1, q2, q3⟩
          · subst q1 q2 q3
            exact c69 (fun e => go e) (fun e _ => ends e 3 (by decide)) (fun e _ => ends e 4 (by decide))
          · subst q1 q2 q3
            refine c69 (fun e => ends ?_ 2 (by decide)) (fun _ e => go e) (fun _ e => ends e 4 (by decide))
            exact isD_f (by have := isL_i e; omega)
        · exact ih q τ2 (by omega) h1 h2 h3 o F2 n2 z2 p2 f2 l2 t2 v2
    -- letters, digits, others
    have st3 : OC NXC τ (uI τ1 73 3 0) := o1.j (pj 3 (by omega))
    have g3 : ∀ i, i ≠ 3 → tI (uI τ1 73 3 0) 73 i = tI τ1 73 i := fun i hi => by rw [tI_uI, if_neg (by omega)]
    refine c69 (fun e => ?_) (fun e e2 => ?_) (fun e e2 => ?_)
    · refine t68_63 (q3 := 65) (n5 := 300) (s73 _ F1) (pX _ rfl) (s65 _ F1) (fun c => absurd c (by decide)) (fun _ => ?_) (fun c => absurd c (by decide))
      exact lp isL 2 12 (Or.inl ⟨rfl, rfl, rfl⟩) (by rw [e]; rfl) e (n - p) p _ (Nat.le_refl _) (Nat.le_refl _) (by omega) (fun i i1 i2 => by omega) st3 F1.j eN eZ eP (by rw [g3 4 (by decide)]; exact e4) (by rw [g3 1 (by decide)]; exact e1) (fun i hi => by rw [tI_uI, if_neg (by omega)]; exact e6 i hi) (fun z => absurd z (by decide))
    · refine t68_63 (q3 := 65) (n5 := 300) (s73 _ F1) (pX _ rfl) (s65 _ F1) (fun c => absurd c (by decide)) (fun _ => ?_) (fun c => absurd c (by decide))
      exact lp isD 3 3 (Or.inr ⟨rfl, rfl, rfl⟩) (by rw [e]; rfl) e2 (n - p) p _ (Nat.le_refl _) (Nat.le_refl _) (by omega) (fun i i1 i2 => by omega) st3 F1.j eN eZ eP (by rw [g3 4 (by decide)]; exact e4) (by rw [g3 1 (by decide)]; exact e1) (fun i hi => by rw [tI_uI, if_neg (by omega)]; exact e6 i hi) (fun _ _ => by rw [tI_uI, if_pos ⟨rfl, rfl⟩, Nat.sub_self]; rfl)
    · refine t68_63 (q3 := 65) (n5 := 300) (s73 _ F1) (pX _ rfl) (s65 _ F1) (fun _ => by omega) (fun c => absurd rfl c) (fun _ => ?_)
      rw [wr_nat (by omega), Int.toNat_natCast, e6 p hpn]
      obtain ⟨t1, t2⟩ := tkT_G (f := f) (n := n) (a := a) (by omega) (by rw [← hp]; exact e) (by rw [← hp]; exact e2)
      rw [← hp] at t1 t2
      have q2 : tI (uI (uI (uI τ1 73 3 (f p)) 73 5 ((p + 1 : Nat) : Int)) 73 2 4) 73 2 = 4 := by rw [tI_uI, if_pos ⟨rfl, rfl⟩]
      have q3 : tI (uI (uI (uI τ1 73 3 (f p)) 73 5 ((p + 1 : Nat) : Int)) 73 2 4) 73 3 = f p := by rw [tI_uI, if_neg (by decide), tI_uI, if_neg (by decide), tI_uI, if_pos ⟨rfl, rfl⟩]
      have q4 : tI (uI (uI (uI τ1 73 3 (f p)) 73 5 ((p + 1 : Nat) : Int)) 73 2 4) 73 4 = (p : Int) := by rw [tI_uI, if_neg (by decide), tI_uI, if_neg (by decide), tI_uI, if_neg (by decide)]; exact e4
      have q5 : tI (uI (uI (uI τ1 73 3 (f p)) 73 5 ((p + 1 : Nat) : Int)) 73 2 4) 73 5 = ((p + 1 : Nat) : Int) := by rw [tI_uI, if_neg (by decide), tI_uI, if_pos ⟨rfl, rfl⟩]
      cases hg : isG (f p) with
      | true =>
        rw [hg] at t2
        have t2 : tkS f n a = 4 := t2
        exact k _ (((o1.j (pj 3 (by omega))).j (pj 5 (by omega))).j (pj 2 (by omega))) F1.j.j.j eN eZ eP ⟨q4.trans (by rw [hp]), by rw [q5, t1], fun z => by omega, fun z => by omega, fun z => by omega, fun z => by omega, fun _ => ⟨q2, q3.trans (by rw [hp])⟩⟩
      | false =>
        rw [hg] at t2
        have t2 : tkS f n a = 1 := t2
        exact k _ (((o1.j (pj 3 (by omega))).j (pj 5 (by omega))).j (pj 2 (by omega))) F1.j.j.j eN eZ eP ⟨q4.trans (by rw [hp]), by rw [q5, t1], fun z => by omega, fun _ => Or.inr ⟨q2, by rw [q3]; exact hg⟩, fun z => by omega, fun z => by omega, fun z => by omega⟩
  -- blanks
  have bl : ∀ (j p : Nat), n - p ≤ j → a ≤ p → p ≤ n → tkF f n a = spp isB f n p → G d 68 5 [vR 73, vI (p : Int), none, none] [] τ Q := by
    intro j
    induction j with
    | zero =>
      intro p hj h1 h2 h3
      have hp : p = n := by omega
      have e3 : tkF f n a = p := by rw [h3]; exact spp_n (by omega)
      have g1 : tI (uI τ 73 4 (p : Int)) 73 1 = (n : Int) := by rw [tI_uI, if_neg (by decide)]; exact X2
      refine t68_5 (q4 := 65) (n6 := 300) hd (s73 τ F) X1 (s65 τ F) (fun _ c => by rw [g1] at c; omega) (fun c => by rw [X2] at c; omega) (fun _ c => by rw [g1] at c; omega) (fun _ _ => ?_) (fun c => by rw [X2] at c; omega) (fun c => by rw [X2] at c; omega) (fun c => by rw [X2] at c; omega)
      obtain ⟨t1, t2⟩ := tkT_E (f := f) (n := n) (a := a) (by omega)
      refine k _ (((OC.rf.j (pj 4 (by omega))).j (pj 5 (by omega))).j (pj 2 (by omega))) F.j.j.j rfl rfl rfl ⟨?_, ?_, fun _ => ?_, fun z => by omega, fun z => by omega, fun z => by omega, fun z => by omega⟩
      · rw [tI_uI, if_neg (by decide), tI_uI, if_neg (by decide), tI_uI, if_pos ⟨rfl, rfl⟩, e3]
      · rw [tI_uI, if_neg (by decide), tI_uI, if_pos ⟨rfl, rfl⟩, t1, e3]
      · rw [tI_uI, if_pos ⟨rfl, rfl⟩]
    | succ j ih =>
      intro p hj h1 h2 h3
      by_cases hp : p < n
      · have g1 : tI (uI τ 73 4 (p : Int)) 73 1 = (n : Int) := by rw [tI_uI, if_neg (by decide)]; exact X2
        have tp := X4 p hp
        refine t68_5 (q4 := 65) (n6 := 300) hd (s73 τ F) X1 (s65 τ F) (fun c => by rw [X2] at c; omega) (fun c => by omega) (fun c => by rw [X2] at c; omega) (fun c => by rw [X2] at c; omega) (fun _ c _ => ?_) (fun _ _ c => by rw [g1] at c; omega) (fun _ c => ?_)
        · rw [Int.toNat_natCast, tp] at c
          rw [Int.toNat_natCast, show tI (uI τ 73 4 (p : Int)) 65 p = f p by rw [tI_uI, if_neg (by omega)]; exact tp]
          exact tok p (by rw [h3, spp_n (fun z => by rw [isB_f c] at z; exact absurd z.2 (by decide))]) hp
        · rw [Int.toNat_natCast, tp] at c
          rw [wr_nat (by omega)]
          exact ih (p + 1) (by omega) (by omega) (by omega) (by rw [h3, spp_y hp (isB_t c)])
      · exact ih p (by omega) h1 h2 h3
  exact bl (n - a) a (Nat.le_refl _) (Nat.le_refl _) hn rfl
