/-! FORMS: what they do, model: sets and words -/
def SetG (g : Nat → Int) (S : BSet) : Prop := ∀ e, S e = sB5 g 0 e
def SetM (τ : T2) (a : Nat) (S : BSet) : Prop := 473 ≤ a ∧ a < tN τ ∧ tS τ a = (2, 3, 5) ∧ SetG (tI τ a) S
theorem SetG.cg {g : Nat → Int} {S S1 : BSet} (h : SetG g S) (e : ∀ x, S1 x = S x) : SetG g S1 := fun x => (e x).trans (h x)
theorem SetG_0 {g : Nat → Int} (h : ∀ j, j < 5 → g j = 0) : SetG g (fun _ => false) := fun e => by
  unfold sB5
  by_cases h3 : e < 320
  · rw [Nat.zero_add, h _ (by omega), lb_0, Bool.and_false]
  · rw [decide_eq_false h3]
    rfl
section MSW
variable {d : Nat} {τ : T2} {Q : RS → T2 → Prop} {l : List Int}
theorem rJ_r {b j : Nat} {g : Nat → Int} : tI (rI τ b g) b j = g j := congrFun (rw2_row (tI τ) b g) j
theorem rJ_f {b : Nat} {g : Nat → Int} : tI (rI τ b g) b = g := rw2_row (tI τ) b g
theorem rJ_o {a b j : Nat} {g : Nat → Int} (h : a ≠ b) : tI (rI τ b g) a j = tI τ a j := congrFun (rw2_oth (tI τ) g h) j
theorem rJ_of {a b : Nat} {g : Nat → Int} (h : a ≠ b) : tI (rI τ b g) a = tI τ a := rw2_oth (tI τ) g h
theorem rJ_u {b j : Nat} {g : Nat → Int} {x : Int} : uI (rI τ b g) b j x = rI τ b (aU g j x) := by
  have e : up (rw2 (tI τ) b g) b j x = rw2 (tI τ) b (aU g j x) := by
    funext p q
    show (if p = b ∧ q = j then x else (if p = b then g q else tI τ p q)) = (if p = b then aU g j x q else tI τ p q)
    unfold aU
    by_cases h1 : p = b
    · rw [if_pos h1, if_pos h1]
      by_cases h2 : q = j
      · rw [if_pos ⟨h1, h2⟩, if_pos h2]
      · rw [if_neg (fun z => h2 z.2), if_neg h2]
    · rw [if_neg (fun z => h1 z.1), if_neg h1, if_neg h1]
  show (up (rw2 (tI τ) b g) b j x, _) = _
  rw [e]
  rfl
theorem rJ_id {b : Nat} : rI τ b (tI τ b) = τ := by
  have e : rw2 (tI τ) b (tI τ b) = tI τ := by
    funext p q
    show (if p = b then tI τ b q else tI τ p q) = _
    by_cases h1 : p = b
    · rw [if_pos h1, h1]
    · rw [if_neg h1]
  show (rw2 (tI τ) b (tI τ b), _) = _
  rw [e]
  rfl
/-- has -/
theorem m192 {a x : Nat} {S : BSet} (sa : tS τ a = (2, 3, 5)) (hS : SetG (tI τ a) S) (hx : x ≤ 300) (k : Q (.inl (some (AI (bi (S x))))) τ) : G d 192 0 [vR a, vI (x : Int)] [] τ Q := by
  have ei : zshr (x : Int) 6 = ((x / 64 : Nat) : Int) := zshr6 (by omega)
  have bt := bit_s (v := tI τ a (x / 64)) (k := x % 64) (by omega)
  have ev : S x = lb (tI τ a (x / 64)) (x % 64) := by
    rw [hS x]
    unfold sB5
    rw [decide_eq_true (show x < 320 by omega), Bool.true_and, Nat.zero_add]
  rw [ev] at k
  refine t192_0 (n1 := 5) sa (by rw [ei]; omega) (fun q => ?_) (fun q => ?_)
  · rw [ei, Int.toNat_natCast, zand63 (by omega), bt] at q
    rw [show lb (tI τ a (x / 64)) (x % 64) = false from Bool.eq_false_iff.mpr q] at k
    exact k
  · rw [ei, Int.toNat_natCast, zand63 (by omega), bt] at q
    rw [q] at k
    exact k
/-- put -/
theorem m193 {b x : Nat} {g : Nat → Int} {T : BSet} (sb : tS τ b = (2, 3, 5)) (hT : SetG g T) (hx : x ≤ 300) (k : ∀ g1, SetG g1 (fun e => T e || decide (e = x)) → Q (.inl none) (rI τ b g1)) : G d 193 0 [vR b, vI (x : Int)] [] (rI τ b g) Q := by
  have ei : zshr (x : Int) 6 = ((x / 64 : Nat) : Int) := zshr6 (by omega)
  refine t193_0 (n1 := 5) (show tS τ b = _ from sb) (by rw [ei]; omega) ?_
  rw [ei, Int.toNat_natCast, zand63 (by omega), rJ_r, rJ_u]
  refine k _ (fun e => ?_)
  have := sB5_put (g := g) (b := 0) (x := x) (e := e) (by omega)
  rw [Nat.zero_add] at this
  rw [this, ← hT e]
/-- a word -/
def okWd (w : List Int) : Prop := w.length ≤ 12 ∧ ∀ q, q < w.length → isL (byt w (0 + q)) = true
theorem wen_w (w : List Int) : wen w = wvl (byt w) 0 w.length := by
  have h := wen_wvl (f := byt w) (a := 0) w.length
  rw [← h]
  congr 1
  apply List.ext_getElem
  · simp
  · intro i h1 h2
    simp only [byt, List.getElem_map, List.getElem_range, Nat.zero_add, List.getD_eq_getElem?_getD]
    rw [List.getElem?_eq_getElem h1]
    rfl
theorem lcm_le {x : Int} : lcm x 0 ≤ 0 ↔ x ≤ 0 := by
  unfold lcm
  split
  · constructor <;> intro <;> omega
  · split <;> constructor <;> intro <;> omega
theorem lcm_pos {x : Int} : 0 < lcm x 0 ↔ 0 < x := by
  unfold lcm
  split
  · constructor <;> intro <;> omega
  · split <;> constructor <;> intro <;> omega
/-- endOf -/
theorem m191 (F : FX2 τ) (H : HdM τ l) (hl : ∀ x ∈ l, 97 ≤ x ∧ x ≤ 122) {w : List Int} (hw : okWd w) {p : Nat} (hp : p ≤ 300) (k1 : p + w.length ≤ l.length → (∀ i, i < w.length → byt l (p + i) = byt w i) → Q (.inl (some (AI ((p + w.length : Nat) : Int)))) τ) (k0 : ¬ (p + w.length ≤ l.length ∧ ∀ i, i < w.length → byt l (p + i) = byt w i) → Q (.inl (some (AI (-1)))) τ) : G d 191 0 [vR 220, vJ (wen w), none, vI (p : Int), none, none, none] [] τ Q := by
  obtain ⟨H1, H2, H3⟩ := H
  obtain ⟨w12, hw⟩ := hw
  have s0 : tS τ 220 = (1, 21, 0) := F.sh rfl (by omega) (by omega)
  have bl : ∀ i, i < l.length → 97 ≤ byt l i ∧ byt l i ≤ 122 := fun i hi => by
    unfold byt
    rw [List.getD_eq_getElem?_getD, List.getElem?_eq_getElem hi]
    exact hl _ (List.getElem_mem hi)
  have bw : ∀ i, i < w.length → 97 ≤ byt w i ∧ byt w i ≤ 122 := fun i hi => by
    have := isL_i (hw i hi)
    rw [Nat.zero_add] at this
    exact this
  have lp2 : p + w.length ≤ l.length → ∀ (j i : Nat), i + j = w.length → (∀ x, x < i → byt l (p + x) = byt w x) → G d 191 44 [vR 220, vJ (wen w), none, vI (p : Int), vI (w.length : Int), vI 1, vI (i : Int)] [] τ Q := by
    intro hle j
    induction j with
    | zero =>
      intro i hi hx
      refine t191_44 (q6 := 228) (n8 := 300) s0 (F.p rfl) (F.sh rfl (by omega) (by omega)) (fun c => by omega) (fun _ c => absurd c (by decide)) (fun _ _ => ?_) (fun c => by omega) (fun c => by omega) (fun c => by omega) (fun c => by omega)
      have e : wr ((p : Int) + (w.length : Int)) = ((p + w.length : Nat) : Int) := wr_a w.length (by omega)
      rw [e]
      exact k1 hle (fun x hx2 => hx x (by clear e; omega))
    | succ j ih =>
      intro i hi hx
      have e : wr ((p : Int) + (i : Int)) = ((p + i : Nat) : Int) := wr_a i (by omega)
      have nx : wr ((i : Int) + 1) = ((i + 1 : Nat) : Int) := wr_nat (by clear e; omega)
      have hiw : i < w.length := by clear e nx; omega
      have hil : p + i < l.length := by clear e nx; omega
      have eg : tI τ 228 (p + i) = byt l (p + i) := H3 _ hil
      have ed : land (lshr (wen w) (wr (5 * wr (wr ((w.length : Int) - 1) - (i : Int))))) 31 = byt w i - 96 := by
        rw [wen_w]
        have := wld (f := byt w) (p := 0) w12 hw hiw
        rw [Nat.zero_add] at this
        exact this
      have cm := wr3 (bl _ hil) (bw i hiw)
      refine t191_44 (q6 := 228) (n8 := 300) s0 (F.p rfl) (F.sh rfl (by omega) (by omega)) (fun _ _ => by rw [e]; clear e nx ed cm; omega) (fun c => by clear e nx ed cm; omega) (fun c => by clear e nx ed cm; omega) (fun _ c => absurd c (by decide)) (fun _ c => absurd c (by decide)) (fun _ _ c => ?_) (fun _ _ c => ?_)
      · rw [e, Int.toNat_natCast, eg, ed, cm] at c
        rw [nx]
        clear e nx ed cm
        have no : ¬ (p + w.length ≤ l.length ∧ ∀ i, i < w.length → byt l (p + i) = byt w i) := fun z => c (z.2 i hiw)
        -- the flag is down: it ends
        refine t191_44 (q6 := 228) (n8 := 300) s0 (F.p rfl) (F.sh rfl (by omega) (by omega)) (fun _ c => absurd rfl c) (fun _ _ => k0 no) (fun _ c => absurd rfl c) (fun _ _ _ => k0 no) (fun _ _ c => absurd rfl c) (fun _ c => absurd rfl c) (fun _ c => absurd rfl c)
      · rw [e, Int.toNat_natCast, eg, ed, cm] at c
        rw [nx]
        clear e nx ed cm
        refine ih (i + 1) (by omega) (fun x hx2 => ?_)
        by_cases y : x = i
        · rw [y]; exact c
        · exact hx x (by omega)
  have lp1 : ∀ (j i : Nat), i + j = w.length → G d 191 6 [vR 220, vJ (wen w), none, vI (p : Int), vI (i : Int), vJ (wvl (byt w) 0 j), none] [] τ Q := by
    intro j
    induction j with
    | zero =>
      intro i hi
      have hi : i = w.length := hi
      subst hi
      have e : wr ((p : Int) + (w.length : Int)) = ((p + w.length : Nat) : Int) := wr_a w.length (by omega)
      refine t191_6 s0 (fun _ c => ?_) (fun _ c => ?_) (fun c => ?_)
      · rw [e, H1] at c
        clear e
        exact lp2 (by omega) w.length 0 (by omega) (fun x hx => absurd hx (Nat.not_lt_zero _))
      · rw [e, H1] at c
        clear e
        exact k0 (fun z => by omega)
      · exact absurd (lcm_pos.mp c) (by show ¬ 0 < (0 : Int); decide)
    | succ j ih =>
      intro i hi
      obtain ⟨y1, y2⟩ := wvl_st (f := byt w) (j := j) (by omega) (fun q hq => hw q (by omega))
      refine t191_6 s0 (fun c => absurd (lcm_le.mp c) (Int.not_le.mpr y1)) (fun c => absurd (lcm_le.mp c) (Int.not_le.mpr y1)) (fun _ => ?_)
      rw [y2, wr_nat (by clear y1 y2; omega)]
      exact ih (i + 1) (by clear y1 y2; omega)
  refine t191_0 ?_
  have := lp1 w.length 0 (Nat.zero_add _)
  rw [← wen_w] at this
  exact this
/-- words -/
theorem m194 (F : FX2 τ) (H : HdM τ l) (hl : ∀ x ∈ l, 97 ≤ x ∧ x ≤ 122) {w : List Int} (hw : okWd w) {a b : Nat} {S T : BSet} {g : Nat → Int} (sa : tS τ a = (2, 3, 5)) (hS : SetG (tI τ a) S) (sb : tS τ b = (2, 3, 5)) (hT : SetG g T) (hab : a ≠ b) (h4 : 473 ≤ b) (hd : 2 ≤ d) (k : ∀ g1, SetG g1 (fun e => T e || wS w l S e) → Q (.inl none) (rI τ b g1)) : G d 194 0 [vR 220, vJ (wen w), none, vR a, vR b, none, none] [] (rI τ b g) Q := by
  have h300 := H.2.1
  have hI : ∀ g1 : Nat → Int, HdM (rI τ b g1) l := fun g1 => ⟨by rw [rJ_o (by omega)]; exact H.1, H.2.1, fun j hj => by rw [rJ_o (by omega)]; exact H.2.2 j hj⟩
  have s0 : ∀ g1 : Nat → Int, tS (rI τ b g1) 220 = (1, 21, 0) := fun _ => F.sh rfl (by omega) (by omega)
  have wv : ∀ p, wS w l S (p + w.length) = (decide (p + w.length ≤ l.length ∧ ∀ i, i < w.length → byt l (p + i) = byt w i) && S p) := fun p => by
    unfold wS
    rw [Nat.add_sub_cancel]
    congr 1
    rw [decide_eq_decide]
    constructor
    · intro z
      exact ⟨z.2.1, z.2.2⟩
    · intro z
      exact ⟨by omega, z.1, z.2⟩
  have wl1 : ∀ e, e < w.length → wS w l S e = false := fun e he => by
    unfold wS
    rw [decide_eq_false (by omega)]
    rfl
  have wl2 : ∀ e, l.length < e → wS w l S e = false := fun e he => by
    unfold wS
    rw [decide_eq_false (by omega)]
    rfl
  have lp : ∀ (j p : Nat) (g1 : Nat → Int), p + j = l.length + 1 → SetG g1 (fun e => T e || (decide (e < p + w.length) && wS w l S e)) → G d 194 3 [vR 220, vJ (wen w), none, vR a, vR b, vI (p : Int), none] [] (rI τ b g1) Q := by
    intro j
    induction j with
    | zero =>
      intro p g1 hp S1
      refine t194_3 (r3 := some a) (r4 := some b) (by omega) (s0 g1) (fun _ => k g1 (S1.cg (fun e => ?_))) (fun c => by rw [(hI g1).1] at c; omega)
      show (T e || wS w l S e) = (T e || (decide (e < p + w.length) && wS w l S e))
      by_cases h2 : e < p + w.length
      · rw [decide_eq_true h2, Bool.true_and]
      · rw [wl2 e (by omega), Bool.and_false]
    | succ j ih =>
      intro p g1 hp S1
      have nx : wr ((p : Int) + 1) = ((p + 1 : Nat) : Int) := wr_nat (by omega)
      have no : wS w l S (p + w.length) = false → G d 194 3 [vR 220, vJ (wen w), none, vR a, vR b, vI (wr ((p : Int) + 1)), none] [] (rI τ b g1) Q := fun hz => by
        rw [nx]
        clear nx
        refine ih (p + 1) g1 (by omega) (S1.cg (fun e => ?_))
        show (T e || (decide (e < p + 1 + w.length) && wS w l S e)) = (T e || (decide (e < p + w.length) && wS w l S e))
        by_cases h2 : e = p + w.length
        · rw [h2, hz, Bool.and_false, Bool.and_false]
        · by_cases h3 : e < p + w.length
          · rw [decide_eq_true h3, decide_eq_true (show e < p + 1 + w.length by omega)]
          · rw [decide_eq_false h3, decide_eq_false (show ¬ e < p + 1 + w.length by omega)]
      refine t194_3 (r3 := some a) (r4 := some b) (by clear nx; omega) (s0 g1) (fun c => by rw [(hI g1).1] at c; clear nx; omega) (fun _ => ?_)
      refine m192 (S := S) (show tS τ a = _ from sa) (by rw [rJ_of hab]; exact hS) (by clear nx; omega) ?_
      cases hm : S p with
      | false =>
        refine t194_18 (r3 := some a) (r4 := some b) (by clear nx; omega) (s0 g1) (fun c => absurd rfl c) (fun _ => no ?_)
        rw [wv p, hm, Bool.and_false]
      | true =>
        refine t194_18 (r3 := some a) (r4 := some b) (by clear nx; omega) (s0 g1) (fun _ => ?_) (fun c => absurd c (by decide))
        refine m191 F.r (hI g1) hl hw (by clear nx; omega) (fun z1 z2 => ?_) (fun z => ?_)
        · refine t194_31 (r3 := some a) (r4 := some b) (by clear nx; omega) (fun c => by clear nx; omega) (fun _ => ?_)
          refine m193 sb S1 (by clear nx; omega) (fun g2 S2 => t194_46 (r3 := some a) (r4 := some b) ?_)
          have hz : wS w l S (p + w.length) = true := by rw [wv p, hm, Bool.and_true, decide_eq_true ⟨z1, z2⟩]
          rw [nx]
          clear nx
          refine ih (p + 1) g2 (by omega) (S2.cg (fun e => ?_))
          show (T e || (decide (e < p + 1 + w.length) && wS w l S e)) = ((T e || (decide (e < p + w.length) && wS w l S e)) || decide (e = p + w.length))
          by_cases h2 : e = p + w.length
          · rw [h2, hz, decide_eq_true (show p + w.length < p + 1 + w.length by omega), decide_eq_true rfl]
            simp
          · rw [decide_eq_false h2, Bool.or_false]
            by_cases h3 : e < p + w.length
            · rw [decide_eq_true h3, decide_eq_true (show e < p + 1 + w.length by omega)]
            · rw [decide_eq_false h3, decide_eq_false (show ¬ e < p + 1 + w.length by omega)]
        · refine t194_31 (r3 := some a) (r4 := some b) (by clear nx; omega) (fun _ => no ?_) (fun c => absurd rfl c)
          rw [wv p, decide_eq_false z]
          rfl
  refine t194_0 (r3 := some a) (r4 := some b) (lp (l.length + 1) 0 g (Nat.zero_add _) (hT.cg (fun e => ?_)))
  show (T e || (decide (e < 0 + w.length) && wS w l S e)) = T e
  by_cases h2 : e < 0 + w.length
  · rw [wl1 e (by omega), Bool.and_false, Bool.or_false]
  · rw [decide_eq_false h2, Bool.false_and, Bool.or_false]
end MSW
