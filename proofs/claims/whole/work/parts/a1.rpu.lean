/-! RULES, purely: reading; code that jumps; rows of a pile -/
abbrev PRR : Type := (Int × Nat) ⊕ (RSm × Nat × Nat)
/-- a number -/
def pNum (f : Nat → Int) (n a : Nat) (lo hi fb : Int) : (Int × Nat) ⊕ (Int × Nat) := if tkS f n a = 3 then (if lo ≤ tkN f n a ∧ tkN f n a ≤ hi then .inr (tkN f n a, tkT f n a) else .inl (fb, tkF f n a)) else .inl (1, tkF f n a)
def wdOr : List Nat := [111, 114]
def wdAnd : List Nat := [97, 110, 100]
def wdNot : List Nat := [110, 111, 116]
def wdSol : List Nat := [115, 111, 108, 118, 101, 100]
def wdRid : List Nat := [114, 105, 100, 100, 108, 101]
def wdRnd : List Nat := [114, 111, 117, 110, 100]
def wdMin : List Nat := [109, 105, 110, 117, 116, 101]
def fkd (f : Nat → Int) (n a : Nat) : Nat := if isW f n a wdSol = true then 1 else if isW f n a wdRid = true then 2 else if isW f n a wdRnd = true then 3 else if isW f n a wdMin = true then 4 else 0
/-- what a fact says: its sign (1 solved, 2 riddle, 3 round, 4 minute), numbers -/
def fct (k : Int) (v g : Int) : RSm := fun s m rd => if k = 2 then s v.toNat else if k = 3 then decide (v ≤ ((cnt (fun i => s i && rd g.toNat i) 20 : Nat) : Int)) else if k = 4 then decide (v ≤ m) else decide (v ≤ ((cnt s 20 : Nat) : Int))
def pFact (f : Nat → Int) (n R a c : Nat) : PRR := if fkd f n a = 0 then .inl (1, tkF f n a) else if c < 30 then (if fkd f n a = 3 then (match pNum f n (tkT f n a) 0 5 3 with
  | .inl e => .inl e
  | .inr (g, a2) => match pNum f n a2 0 20 3 with
    | .inl e => .inl e
    | .inr (v, a3) => .inr (fct 3 v g, a3, c + 1)) else (match pNum f n (tkT f n a) 0 (if fkd f n a = 2 then (R : Int) - 1 else if fkd f n a = 4 then 9999 else 20) (if fkd f n a = 2 then 2 else 3) with
    | .inl e => .inl e
    | .inr (v, a3) => .inr (fct (fkd f n a : Int) v 0, a3, c + 1))) else .inl (4, tkF f n a)
def pNot (f : Nat → Int) (n : Nat) : Nat → Nat → (Int × Nat) ⊕ (Nat × Nat)
  | 0, a => if isW f n a wdNot = true then .inl (4, tkF f n a) else .inr (0, a)
  | j + 1, a => if isW f n a wdNot = true then (match pNot f n j (tkT f n a) with
    | .inl e => .inl e
    | .inr (m, a1) => .inr (m + 1, a1)) else .inr (0, a)
def ngt (m : Nat) (g : RSm) : RSm := fun s mi rd => if m % 2 = 1 then !(g s mi rd) else g s mi rd
def pNst (nst : Option (Nat → Nat → PRR)) (f : Nat → Int) (n a c : Nat) : PRR := match nst with
  | none => .inl (4, tkF f n a)
  | some p => match p (tkT f n a) c with
    | .inl e => .inl e
    | .inr (g, a2, c2) => if isS f n a2 41 = true then .inr (g, tkT f n a2, c2) else .inl (1, tkF f n a2)
def pIn (nst : Option (Nat → Nat → PRR)) (f : Nat → Int) (n R a c : Nat) : PRR := if isS f n a 40 = true then pNst nst f n a c else pFact f n R a c
def pOne (nst : Option (Nat → Nat → PRR)) (f : Nat → Int) (n R a c : Nat) : PRR := match pNot f n 8 a with
  | .inl e => .inl e
  | .inr (m, a1) => match pIn nst f n R a1 c with
    | .inl e => .inl e
    | .inr (g, a2, c2) => .inr (ngt m g, a2, c2)
/-- one behind another, parted by a word -/
def cmb (o : Bool) (g h : RSm) : RSm := fun s m rd => if o = true then (g s m rd || h s m rd) else (g s m rd && h s m rd)
def pLop (p : Nat → Nat → PRR) (w : List Nat) (o : Bool) (f : Nat → Int) (n : Nat) : Nat → RSm → Nat → Nat → PRR
  | 0, g, a, c => .inr (g, a, c)
  | j + 1, g, a, c => if isW f n a w = true then (match p (tkT f n a) c with
    | .inl e => .inl e
    | .inr (g2, a2, c2) => pLop p w o f n j (cmb o g g2) a2 c2) else .inr (g, a, c)
def pLst (p : Nat → Nat → PRR) (w : List Nat) (o : Bool) (f : Nat → Int) (n a c : Nat) : PRR := match p a c with
  | .inl e => .inl e
  | .inr (g, a1, c1) => pLop p w o f n 300 g a1 c1
def pAll (nst : Option (Nat → Nat → PRR)) (f : Nat → Int) (n R : Nat) : Nat → Nat → PRR := pLst (pOne nst f n R) wdAnd false f n
def pAny (nst : Option (Nat → Nat → PRR)) (f : Nat → Int) (n R : Nat) : Nat → Nat → PRR := pLst (pAll nst f n R) wdOr true f n
def pRul (f : Nat → Int) (n R : Nat) : Nat → Nat → Nat → PRR
  | 0 => pAny none f n R
  | k + 1 => pAny (some (pRul f n R k)) f n R
def pRule (f : Nat → Int) (n R : Nat) : (Int × Nat) ⊕ RSm := match pRul f n R 8 0 0 with
  | .inl e => .inl e
  | .inr (g, a, _) => if tkS f n a = 0 then .inr g else .inl (1, tkF f n a)
/-- code that jumps: one step -/
def nxR (o : Nat → Int) (s : Nat → Bool) (m : Int) (rd : Nat → Nat → Bool) (a : Nat) (t : Bool) : Nat × Bool := if o a = 5 then (a + 3, !t) else if o a = 6 then (if t = true then (o (a + 1)).toNat else a + 3, t) else if o a = 7 then (if t = true then a + 3 else (o (a + 1)).toNat, t) else (a + 3, fct (o a) (o (a + 1)) (o (a + 2)) s m rd)
/-- numbers of an instruction that may be -/
def okU (o : Nat → Int) (a : Nat) : Prop := (o a = 2 → 0 ≤ o (a + 1) ∧ o (a + 1) < 20) ∧ (o a = 3 → 0 ≤ o (a + 2) ∧ o (a + 2) < 6)
def RcR (o : Nat → Int) (s : Nat → Bool) (m : Int) (rd : Nat → Nat → Bool) : Nat → Nat → Bool → Nat → Bool → Prop
  | 0, a, t, b, u => a = b ∧ t = u
  | k + 1, a, t, b, u => a + 3 ≤ b ∧ a + 3 ≤ (nxR o s m rd a t).1 ∧ okU o a ∧ RcR o s m rd k (nxR o s m rd a t).1 (nxR o s m rd a t).2 b u
section RCR
variable {o o1 : Nat → Int} {s : Nat → Bool} {m : Int} {rd : Nat → Nat → Bool}
theorem RcR.le : ∀ (k : Nat) {a b : Nat} {t u : Bool}, RcR o s m rd k a t b u → a + 3 * k ≤ b
  | 0, a, b, t, u, h => by have := h.1; omega
  | k + 1, a, b, t, u, h => by
    have h1 := RcR.le k h.2.2.2
    have h2 := h.2.1
    omega
theorem RcR.fr : ∀ (k : Nat) {a b : Nat} {t u : Bool}, RcR o s m rd k a t b u → (∀ i, a ≤ i → i < b → o1 i = o i) → RcR o1 s m rd k a t b u
  | 0, _, _, _, _, h, _ => h
  | k + 1, a, b, t, u, h, he => by
    obtain ⟨h1, h2, h3, h4⟩ := h
    have e0 := he a (by omega) (by omega)
    have e1 := he (a + 1) (by omega) (by omega)
    have e2 := he (a + 2) (by omega) (by omega)
    have en : nxR o1 s m rd a t = nxR o s m rd a t := by unfold nxR; rw [e0, e1, e2]
    refine ⟨h1, by rw [en]; exact h2, by unfold okU; rw [e0, e1, e2]; exact h3, ?_⟩
    rw [en]
    exact RcR.fr k h4 (fun i hi hb => he i (by omega) hb)
theorem RcR.cat : ∀ (k : Nat) {k2 a b c : Nat} {t u v : Bool}, RcR o s m rd k a t b u → RcR o s m rd k2 b u c v → RcR o s m rd (k + k2) a t c v
  | 0, k2, a, b, c, t, u, v, h, h2 => by
    obtain ⟨e1, e2⟩ := h
    subst e1 e2
    rw [Nat.zero_add]; exact h2
  | k + 1, k2, a, b, c, t, u, v, h, h2 => by
    obtain ⟨x1, x2, x3, x4⟩ := h
    have := RcR.le k2 h2
    rw [show k + 1 + k2 = (k + k2) + 1 by omega]
    exact ⟨by omega, x2, x3, RcR.cat k x4 h2⟩
end RCR
/-- a piece of code that sets the truth -/
def SgR (o : Nat → Int) (a b : Nat) (g : RSm) : Prop := a ≤ b ∧ ∀ s m rd t, ∃ k, RcR o s m rd k a t b (g s m rd)
theorem SgR.fr {o o1 : Nat → Int} {a b : Nat} {g : RSm} (h : SgR o a b g) (he : ∀ i, a ≤ i → i < b → o1 i = o i) : SgR o1 a b g := ⟨h.1, fun s m rd t => by
  obtain ⟨k, h1⟩ := h.2 s m rd t
  exact ⟨k, RcR.fr k h1 he⟩⟩
/-- the same with jumps that aren't aimed yet -/
def SgJ (o : Nat → Int) (J : List Nat) (a b : Nat) (p : Bool) (g : RSm) : Prop := a ≤ b ∧ ∀ (o1 : Nat → Int) (e : Nat), b ≤ e → (∀ i, a ≤ i → i < b → (∀ j ∈ J, i ≠ j + 1) → o1 i = o i) → (∀ j ∈ J, o1 (j + 1) = (e : Int)) → ∀ s m rd t, ∃ k, RcR o1 s m rd k a t b (g s m rd) ∨ (g s m rd = p ∧ RcR o1 s m rd k a t e p)
/-- places of jumps, the latest first -/
def JOk (lo : Nat) : List Nat → Nat → Prop
  | [], _ => True
  | j :: J, b => lo ≤ j ∧ j + 3 ≤ b ∧ JOk lo J j
def ChL (o : Nat → Int) : List Nat → Int → Prop
  | [], h => h = -1
  | j :: J, h => h = (j : Int) ∧ ChL o J (o (j + 1))
theorem JOk.lt {lo : Nat} : ∀ (J : List Nat) {b : Nat}, JOk lo J b → ∀ j ∈ J, lo ≤ j ∧ j + 3 ≤ b
  | [], _, _, j, hj => absurd hj (by simp)
  | i :: J, b, h, j, hj => by
    rcases List.mem_cons.mp hj with e | e
    · rw [e]; exact ⟨h.1, h.2.1⟩
    · have h1 := JOk.lt J h.2.2 j e
      have h2 := h.2.1
      omega
theorem JOk.mo {lo : Nat} : ∀ (J : List Nat) {b b1 : Nat}, JOk lo J b → b ≤ b1 → JOk lo J b1
  | [], _, _, _, _ => trivial
  | _ :: _, _, _, h, h1 => ⟨h.1, Nat.le_trans h.2.1 h1, h.2.2⟩
theorem JOk.len {lo : Nat} : ∀ (J : List Nat) {b : Nat}, JOk lo J b → 3 * J.length ≤ b
  | [], b, _ => by simp
  | j :: J, b, h => by
    have h1 := JOk.len J h.2.2
    have h2 := h.2.1
    simp only [List.length_cons]
    omega
theorem ChL.fr {o o1 : Nat → Int} {lo : Nat} : ∀ (J : List Nat) {h : Int} {b : Nat}, ChL o J h → JOk lo J b → (∀ i, lo ≤ i → i < b → o1 i = o i) → ChL o1 J h
  | [], _, _, hc, _, _ => hc
  | j :: J, h, b, hc, hj, he => ⟨hc.1, by
    have h1 := hj.1
    have h2 := hj.2.1
    rw [he (j + 1) (by omega) (by omega)]
    exact ChL.fr J hc.2 hj.2.2 (fun i hi hb => he i hi (by omega))⟩
theorem SgJ_0 {o : Nat → Int} {a b : Nat} {p : Bool} {g : RSm} (h : SgR o a b g) : SgJ o [] a b p g := ⟨h.1, fun o1 e _ he _ s m rd t => by
  obtain ⟨k, h1⟩ := h.2 s m rd t
  exact ⟨k, Or.inl (RcR.fr k h1 (fun i h2 h3 => he i h2 h3 (by simp)))⟩⟩
theorem SgJ.fr {o o1 : Nat → Int} {J : List Nat} {a b : Nat} {p : Bool} {g : RSm} (h : SgJ o J a b p g) (he : ∀ i, a ≤ i → i < b → o1 i = o i) : SgJ o1 J a b p g := ⟨h.1, fun o2 e hb h1 h2 => h.2 o2 e hb (fun i x y z => (h1 i x y z).trans (he i x y)) h2⟩
theorem SgJ_s {o : Nat → Int} {J : List Nat} {a b c : Nat} {p : Bool} {g h : RSm} (hg : SgJ o J a b p g) (hj : JOk a J b) (ho : o b = if p = true then 6 else 7) (hh : SgR o (b + 3) c h) : SgJ o (b :: J) a c p (cmb p g h) := by
  have hc := hh.1
  refine ⟨by have := hg.1; omega, fun o1 e he h1 h2 s m rd t => ?_⟩
  have hab := hg.1
  have lt := JOk.lt J hj
  have ob : o1 b = if p = true then 6 else 7 := by
    rw [← ho]
    refine h1 b hab (by omega) (fun j hj2 => ?_)
    rcases List.mem_cons.mp hj2 with q | q
    · omega
    · have := lt j q; omega
  have oj : o1 (b + 1) = (e : Int) := h2 b (by simp)
  have nb : nxR o1 s m rd b p = (e, p) := by
    unfold nxR
    cases p with
    | true => rw [ob, oj]; rfl
    | false => rw [ob, oj]; rfl
  have nn : nxR o1 s m rd b (!p) = (b + 3, !p) := by
    unfold nxR
    cases p with
    | true => rw [ob]; rfl
    | false => rw [ob]; rfl
  have okb : okU o1 b := by
    unfold okU
    rw [ob]
    cases p with
    | true => exact ⟨fun z => absurd z (by decide), fun z => absurd z (by decide)⟩
    | false => exact ⟨fun z => absurd z (by decide), fun z => absurd z (by decide)⟩
  have cp : g s m rd = p → cmb p g h s m rd = p := fun z => by
    unfold cmb
    rw [z]
    cases p <;> rfl
  have cn : g s m rd = !p → cmb p g h s m rd = h s m rd := fun z => by
    unfold cmb
    rw [z]
    cases p <;> rfl
  obtain ⟨k, hk⟩ := hg.2 o1 e (by omega) (fun i x y z => h1 i x (by omega) (fun j hj2 => by
    rcases List.mem_cons.mp hj2 with q | q
    · omega
    · exact z j q)) (fun j hj2 => h2 j (List.mem_cons_of_mem _ hj2)) s m rd t
  rcases hk with hk | ⟨hk1, hk2⟩
  · by_cases hp : g s m rd = p
    · rw [hp] at hk
      refine ⟨k + 1, Or.inr ⟨cp hp, RcR.cat k hk ?_⟩⟩
      refine ⟨by omega, ?_, okb, ?_⟩
      · rw [nb]; show b + 3 ≤ e; omega
      · rw [nb]; exact ⟨rfl, rfl⟩
    · have hp : g s m rd = !p := by
        cases hg2 : g s m rd <;> cases p <;> simp_all
      rw [hp] at hk
      have hh2 := hh.fr (o1 := o1) (fun i x y => h1 i (by omega) y (fun j hj2 => by
        rcases List.mem_cons.mp hj2 with q | q
        · omega
        · have := lt j q; omega))
      obtain ⟨k2, hk2⟩ := hh2.2 s m rd (!p)
      refine ⟨k + (1 + k2), Or.inl (RcR.cat k hk ?_)⟩
      rw [show 1 + k2 = k2 + 1 by omega]
      refine ⟨hc, ?_, okb, ?_⟩
      · rw [nn]; exact Nat.le_refl _
      · rw [nn, cn hp]; exact hk2
  · exact ⟨k, Or.inr ⟨cp hk1, hk2⟩⟩
theorem SgJ_f {o o1 : Nat → Int} {J : List Nat} {a b : Nat} {p : Bool} {g : RSm} (h : SgJ o J a b p g) (h1 : ∀ i, a ≤ i → i < b → (∀ j ∈ J, i ≠ j + 1) → o1 i = o i) (h2 : ∀ j ∈ J, o1 (j + 1) = (b : Int)) : SgR o1 a b g := ⟨h.1, fun s m rd t => by
  obtain ⟨k, hk⟩ := h.2 o1 b (Nat.le_refl _) h1 h2 s m rd t
  rcases hk with hk | ⟨hk1, hk2⟩
  · exact ⟨k, hk⟩
  · rw [hk1]; exact ⟨k, hk2⟩⟩
/-- facts and nots -/
theorem SgR_f {o : Nat → Int} {a : Nat} {k v g : Int} (h0 : o a = k) (h1 : o (a + 1) = v) (h2 : o (a + 2) = g) (hk : 1 ≤ k ∧ k ≤ 4) (hv : k = 2 → 0 ≤ v ∧ v < 20) (hg : k = 3 → 0 ≤ g ∧ g < 6) : SgR o a (a + 3) (fct k v g) := ⟨by omega, fun s m rd t => by
  have e : nxR o s m rd a t = (a + 3, fct k v g s m rd) := by
    unfold nxR
    rw [h0, h1, h2, if_neg (by omega), if_neg (by omega), if_neg (by omega)]
  refine ⟨1, Nat.le_refl _, by rw [e]; exact Nat.le_refl _, ?_, ?_⟩
  · unfold okU; rw [h0, h1, h2]; exact ⟨hv, hg⟩
  · rw [e]; exact ⟨rfl, rfl⟩⟩
theorem SgR_n {o : Nat → Int} {a b m : Nat} {g : RSm} (h : SgR o a b g) (h0 : o b = 5) (hm : m % 2 = 1) : SgR o a (b + 3) (ngt m g) := ⟨by have := h.1; omega, fun s mi rd t => by
  obtain ⟨k, hk⟩ := h.2 s mi rd t
  have e : nxR o s mi rd b (g s mi rd) = (b + 3, !(g s mi rd)) := by
    unfold nxR
    rw [h0]
    rfl
  refine ⟨k + 1, RcR.cat k hk ?_⟩
  refine ⟨Nat.le_refl _, by rw [e]; exact Nat.le_refl _, ?_, ?_⟩
  · unfold okU; rw [h0]; exact ⟨fun z => absurd z (by decide), fun z => absurd z (by decide)⟩
  · rw [e]
    refine ⟨rfl, ?_⟩
    unfold ngt
    rw [if_pos hm]⟩
theorem ngt_e {m : Nat} {g : RSm} (hm : ¬ m % 2 = 1) : ngt m g = g := by
  funext s mi rd
  unfold ngt
  rw [if_neg hm]
/-- rows of a pile: sign, numbers -/
abbrev RWS : Type := (Nat → Int) × (Nat → Int) × (Nat → Int)
def stR (w : RWS) (s : Nat → Bool) (m : Int) (rd : Nat → Nat → Bool) (k : Nat) (l : List Bool) : Option (List Bool) := if w.1 k = 4 then (match l with
  | b :: r => some ((!b) :: r)
  | [] => none) else if w.1 k = 5 then (match l with
  | b :: c :: r => some ((c && b) :: r)
  | _ => none) else if w.1 k = 6 then (match l with
  | b :: c :: r => some ((c || b) :: r)
  | _ => none) else some ((if w.1 k = 2 then fct 3 (w.2.2 k) (w.2.1 k) s m rd else fct (w.1 k + 1) (w.2.1 k) 0 s m rd) :: l)
def okM (w : RWS) (k : Nat) : Prop := 0 ≤ w.1 k ∧ w.1 k ≤ 6 ∧ (w.1 k = 1 → 0 ≤ w.2.1 k ∧ w.2.1 k < 20) ∧ (w.1 k = 2 → 0 ≤ w.2.1 k ∧ w.2.1 k < 6)
def stN (w : RWS) (s : Nat → Bool) (m : Int) (rd : Nat → Nat → Bool) : Nat → Nat → List Bool → Option (List Bool)
  | 0, _, l => some l
  | j + 1, k, l => match stR w s m rd k l with
    | none => none
    | some l1 => stN w s m rd j (k + 1) l1
def PfM (w : RWS) (a b : Nat) (g : RSm) : Prop := a ≤ b ∧ (∀ k, a ≤ k → k < b → okM w k) ∧ ∀ s m rd l, stN w s m rd (b - a) a l = some (g s m rd :: l)
theorem stN_cat {w : RWS} {s : Nat → Bool} {m : Int} {rd : Nat → Nat → Bool} : ∀ (i j k : Nat) (l l1 : List Bool), stN w s m rd i k l = some l1 → stN w s m rd (i + j) k l = stN w s m rd j (k + i) l1
  | 0, j, k, l, l1, h => by
    have h : l = l1 := Option.some.inj h
    rw [h, Nat.zero_add, Nat.add_zero]
  | i + 1, j, k, l, l1, h => by
    rw [show i + 1 + j = (i + j) + 1 by omega]
    simp only [stN] at h ⊢
    cases hr : stR w s m rd k l with
    | none => rw [hr] at h; cases h
    | some l2 =>
      rw [hr] at h
      have h : stN w s m rd i (k + 1) l2 = some l1 := h
      show stN w s m rd (i + j) (k + 1) l2 = _
      rw [stN_cat i j (k + 1) l2 l1 h, show k + 1 + i = k + (i + 1) by omega]
theorem stN_fr {w w1 : RWS} {s : Nat → Bool} {m : Int} {rd : Nat → Nat → Bool} : ∀ (j k : Nat) (l : List Bool), (∀ i, k ≤ i → i < k + j → w1.1 i = w.1 i ∧ w1.2.1 i = w.2.1 i ∧ w1.2.2 i = w.2.2 i) → stN w1 s m rd j k l = stN w s m rd j k l
  | 0, _, _, _ => rfl
  | j + 1, k, l, h => by
    obtain ⟨e1, e2, e3⟩ := h k (by omega) (by omega)
    simp only [stN]
    have e : stR w1 s m rd k l = stR w s m rd k l := by unfold stR; rw [e1, e2, e3]
    rw [e]
    cases stR w s m rd k l with
    | none => rfl
    | some l1 => exact stN_fr j (k + 1) l1 (fun i h1 h2 => h i (by omega) (by omega))
theorem PfM.fr {w w1 : RWS} {a b : Nat} {g : RSm} (h : PfM w a b g) (he : ∀ i, a ≤ i → i < b → w1.1 i = w.1 i ∧ w1.2.1 i = w.2.1 i ∧ w1.2.2 i = w.2.2 i) : PfM w1 a b g := by
  obtain ⟨h0, h1, h2⟩ := h
  refine ⟨h0, fun k k1 k2 => ?_, fun s m rd l => ?_⟩
  · obtain ⟨e1, e2, e3⟩ := he k k1 k2
    unfold okM
    rw [e1, e2]
    exact h1 k k1 k2
  · rw [stN_fr (b - a) a l (fun i i1 i2 => he i i1 (by omega))]
    exact h2 s m rd l
theorem PfM_f {w : RWS} {a : Nat} {k v g : Int} (h0 : w.1 a = k - 1) (hk : 1 ≤ k ∧ k ≤ 4) (h3 : k = 3 → w.2.1 a = g ∧ w.2.2 a = v ∧ 0 ≤ g ∧ g < 6) (h1 : k ≠ 3 → w.2.1 a = v ∧ g = 0) (h2 : k = 2 → 0 ≤ v ∧ v < 20) : PfM w a (a + 1) (fct k v g) := by
  refine ⟨by omega, fun i i1 i2 => ?_, fun s m rd l => ?_⟩
  · have e : i = a := by omega
    subst e
    unfold okM
    rw [h0]
    refine ⟨by omega, by omega, fun z => ?_, fun z => ?_⟩
    · rw [(h1 (by omega)).1]; exact h2 (by omega)
    · rw [(h3 (by omega)).1]; exact (h3 (by omega)).2.2
  · rw [show a + 1 - a = 1 by omega]
    simp only [stN]
    have e : stR w s m rd a l = some (fct k v g s m rd :: l) := by
      unfold stR
      rw [h0, if_neg (by omega), if_neg (by omega), if_neg (by omega)]
      by_cases e3 : k = 3
      · rw [if_pos (by omega), (h3 e3).1, (h3 e3).2.1, e3]
      · rw [if_neg (by omega), (h1 e3).1, (h1 e3).2, show k - 1 + 1 = k by omega]
    rw [e]
theorem PfM_n {w : RWS} {a b m : Nat} {g : RSm} (h : PfM w a b g) (h0 : w.1 b = 4) (hm : m % 2 = 1) : PfM w a (b + 1) (ngt m g) := by
  obtain ⟨h1, h2, h3⟩ := h
  refine ⟨by omega, fun k k1 k2 => ?_, fun s mi rd l => ?_⟩
  · by_cases e : k = b
    · subst e
      unfold okM
      rw [h0]
      exact ⟨by decide, by decide, fun z => absurd z (by decide), fun z => absurd z (by decide)⟩
    · exact h2 k k1 (by omega)
  · rw [show b + 1 - a = (b - a) + 1 by omega, stN_cat _ 1 a l _ (h3 s mi rd l), show a + (b - a) = b by omega]
    simp only [stN]
    have e : stR w s mi rd b (g s mi rd :: l) = some (ngt m g s mi rd :: l) := by
      unfold stR ngt
      rw [if_pos h0, if_pos hm]
    rw [e]
theorem PfM_c {w : RWS} {a b c : Nat} {p : Bool} {g h : RSm} (hg : PfM w a b g) (hh : PfM w b c h) (h0 : w.1 c = if p = true then 6 else 5) : PfM w a (c + 1) (cmb p g h) := by
  obtain ⟨g1, g2, g3⟩ := hg
  obtain ⟨i1, i2, i3⟩ := hh
  refine ⟨by omega, fun k k1 k2 => ?_, fun s mi rd l => ?_⟩
  · by_cases e : k = c
    · subst e
      unfold okM
      rw [h0]
      cases p with
      | true => exact ⟨by decide, by decide, fun z => absurd z (by decide), fun z => absurd z (by decide)⟩
      | false => exact ⟨by decide, by decide, fun z => absurd z (by decide), fun z => absurd z (by decide)⟩
    · by_cases e2 : k < b
      · exact g2 k k1 e2
      · exact i2 k (by omega) (by omega)
  · rw [show c + 1 - a = (b - a) + ((c - b) + 1) by omega, stN_cat _ _ a l _ (g3 s mi rd l), show a + (b - a) = b by omega, stN_cat _ 1 b _ _ (i3 s mi rd _), show b + (c - b) = c by omega]
    simp only [stN]
    have e : stR w s mi rd c (h s mi rd :: g s mi rd :: l) = some (cmb p g h s mi rd :: l) := by
      unfold stR cmb
      rw [h0]
      cases p <;> rfl
    rw [e]
