/-! FORMS: what they do, model: parts and rows -/
def KpR (R : Nat → Prop) (τ τ1 : T2) : Prop := ∀ a, R a → a < tN τ1 ∧ tS τ1 a = tS τ a ∧ tI τ1 a = tI τ a ∧ tP τ1 a = tP τ a
theorem KpR.tr {R R1 : Nat → Prop} {τ τ1 τ2 : T2} (h : KpR R τ τ1) (h1 : KpR R1 τ1 τ2) (hR : ∀ a, R a → R1 a) : KpR R τ τ2 := fun a ha => by
  obtain ⟨x1, x2, x3, x4⟩ := h a ha
  obtain ⟨y1, y2, y3, y4⟩ := h1 a (hR a ha)
  exact ⟨y1, y2.trans x2, y3.trans x3, y4.trans x4⟩
theorem KpR.oc {R : Nat → Prop} {P : Nat → Nat → Prop} {τ τ1 τ2 : T2} (h : KpR R τ τ1) (o : OC P τ1 τ2) (hP : ∀ a k, R a → ¬ P a k) : KpR R τ τ2 := fun a ha => by
  obtain ⟨x1, x2, x3, x4⟩ := h a ha
  refine ⟨by have := o.1; omega, (o.2.2.1 a x1).trans x2, ?_, ?_⟩
  · rw [← x3]; exact funext fun k => (o.2.2.2 a k x1 (hP a k ha)).1
  · rw [← x4]; exact funext fun k => (o.2.2.2 a k x1 (hP a k ha)).2
def PtM (R : Nat → Prop) (τ : T2) (D p : Nat) (g : FTr) (w : Nat) : Prop := R p ∧ tS τ p = (1, 14, 0) ∧ ∀ (τ1 : T2) (d : Nat) (Q : RS → T2 → Prop) (fr : Nat) (l : List Int) (S : BSet), D ≤ d → KpR R τ τ1 → FX2 τ1 → HdM τ1 l → (∀ x ∈ l, 97 ≤ x ∧ x ≤ 122) → SetM τ1 fr S → (∀ τ2 r, OC (fun _ _ => False) τ1 τ2 → FX2 τ2 → tN τ2 ≤ tN τ1 + 3 * w → tZ τ2 ≤ tZ τ1 + 17 * w → tN τ1 ≤ r → SetM τ2 r (g l S) → Q (.inl (some (AR r))) τ2) → G d 195 0 [vR 220, vR p, vR fr, none, none, none, none] [] τ1 Q
def EiM (R : Nat → Prop) (τ : T2) (D al : Nat) (g : FTr) (w : Nat) : Prop := ∀ (τ1 : T2) (d : Nat) (Q : RS → T2 → Prop) (fr : Nat) (l : List Int) (S : BSet), D ≤ d → KpR R τ τ1 → FX2 τ1 → HdM τ1 l → (∀ x ∈ l, 97 ≤ x ∧ x ≤ 122) → SetM τ1 fr S → (∀ τ2 r, OC (fun _ _ => False) τ1 τ2 → FX2 τ2 → tN τ2 ≤ tN τ1 + 3 * w + 3 → tZ τ2 ≤ tZ τ1 + 17 * w + 13 → tN τ1 ≤ r → SetM τ2 r (g l S) → Q (.inl (some (AR r))) τ2) → G d 196 0 [vR 220, vR al, vR fr, none, none, none, none, none, none] [] τ1 Q
theorem PtM.mo {R R1 : Nat → Prop} {τ τ1 : T2} {D D1 p w : Nat} {g : FTr} (h : PtM R τ D p g w) (hR : ∀ a, R a → R1 a) (hK : KpR R τ τ1) (hD : D ≤ D1) : PtM R1 τ1 D1 p g w := ⟨hR p h.1, (hK p h.1).2.1.trans h.2.1, fun τ2 d Q fr l S hd k2 => h.2.2 τ2 d Q fr l S (by omega) (hK.tr k2 hR)⟩
theorem SetG_or {g h g1 : Nat → Int} {T B : BSet} (hT : SetG g T) (hB : SetG h B) (he : ∀ x, x < 5 → g1 x = lor (g x) (h x)) : SetG g1 (fun e => T e || B e) := fun e => by
  show (T e || B e) = _
  rw [hT e, hB e]
  unfold sB5
  by_cases h3 : e < 320
  · rw [Nat.zero_add, he _ (by omega), lb_or, decide_eq_true h3]
    rfl
  · rw [decide_eq_false h3]
    rfl
theorem SetG_eq {g g1 : Nat → Int} {S : BSet} (hS : SetG g S) (he : ∀ x, x < 5 → g1 x = g x) : SetG g1 S := fun e => by
  rw [hS e]
  unfold sB5
  by_cases h3 : e < 320
  · rw [Nat.zero_add, he _ (by omega)]
  · rw [decide_eq_false h3]
    rfl
section MPT
variable {d : Nat} {τ : T2} {Q : RS → T2 → Prop} {R : Nat → Prop} {l : List Int}
theorem HdM.oc2 {τ1 : T2} {P : Nat → Nat → Prop} (H : HdM τ l) (F : FX2 τ) (o : OC P τ τ1) (hp : ∀ a k, P a k → 473 ≤ a) : HdM τ1 l := H.oc F o (fun a k z => by have := hp a k z; omega)
theorem SetM.oc {τ1 : T2} {P : Nat → Nat → Prop} {a : Nat} {S : BSet} (h : SetM τ a S) (o : OC P τ τ1) (hp : ∀ k, ¬ P a k) : SetM τ1 a S := by
  obtain ⟨h1, h2, h3, h4⟩ := h
  have := o.1
  refine ⟨h1, by omega, (o.2.2.1 a h2).trans h3, ?_⟩
  rw [show tI τ1 a = tI τ a from funext fun k => (o.2.2.2 a k h2 (hp k)).1]
  exact h4
/-- to[k] |= by[k], of a part -/
theorem m55 {to b : Nat} {g : Nat → Int} {T B : BSet} (st : tS τ to = (2, 3, 5)) (sb : tS τ b = (2, 3, 5)) (hne : b ≠ to) (hT : SetG g T) (hB : SetG (tI τ b) B) (k : ∀ g1, SetG g1 (fun e => T e || B e) → Q (.inl (some (AR to))) (rI τ to g1)) : ∀ (j i : Nat) (g1 : Nat → Int), i + j = 5 → (∀ x, x < 5 → g1 x = if x < i then lor (g x) (tI τ b x) else g x) → G d 195 55 [none, none, none, vR to, vR b, vI (i : Int), none] [] (rI τ to g1) Q := by
  intro j
  induction j with
  | zero =>
    intro i g1 hi hg
    exact t195_55 (n2 := 5) (n5 := 5) (show tS τ to = _ from st) (fun q => by omega) (show tS τ b = _ from sb) (fun q => by omega) (fun _ => k g1 (SetG_or hT hB (fun x hx => by rw [hg x hx, if_pos (by omega)]))) (fun q => by omega)
  | succ j ih =>
    intro i g1 hi hg
    refine t195_55 (n2 := 5) (n5 := 5) (show tS τ to = _ from st) (fun q => by omega) (show tS τ b = _ from sb) (fun q => by omega) (fun q => by omega) (fun _ => ?_)
    rw [Int.toNat_natCast, rJ_r, rJ_o hne, rJ_u, wr_nat (by omega)]
    refine ih (i + 1) _ (by omega) (fun x hx => ?_)
    unfold aU
    by_cases y : x = i
    · rw [if_pos y, if_pos (by omega), hg i (by omega), if_neg (by omega), y]
    · rw [if_neg y, hg x hx]
      by_cases z : x < i
      · rw [if_pos z, if_pos (by omega)]
      · rw [if_neg z, if_neg (by omega)]
/-- all[k] |= now[k], of rows -/
theorem m83 {to b : Nat} {g : Nat → Int} {T B : BSet} {r2 r4 : Option Nat} (st : tS τ to = (2, 3, 5)) (sb : tS τ b = (2, 3, 5)) (hne : b ≠ to) (hT : SetG g T) (hB : SetG (tI τ b) B) (k : ∀ g1, SetG g1 (fun e => T e || B e) → G d 196 10 [vR 220, none, vQ r2, vR to, vQ r4, none, none, none, none] [] (rI τ to g1) Q) : ∀ (j i : Nat) (g1 : Nat → Int), i + j = 5 → (∀ x, x < 5 → g1 x = if x < i then lor (g x) (tI τ b x) else g x) → G d 196 83 [vR 220, none, vQ r2, vR to, vQ r4, none, vR b, vI (i : Int), none] [] (rI τ to g1) Q := by
  intro j
  induction j with
  | zero =>
    intro i g1 hi hg
    exact t196_83 (n2 := 5) (n5 := 5) (show tS τ to = _ from st) (fun q => by omega) (show tS τ b = _ from sb) (fun q => by omega) (fun _ => k g1 (SetG_or hT hB (fun x hx => by rw [hg x hx, if_pos (by omega)]))) (fun q => by omega)
  | succ j ih =>
    intro i g1 hi hg
    refine t196_83 (n2 := 5) (n5 := 5) (show tS τ to = _ from st) (fun q => by omega) (show tS τ b = _ from sb) (fun q => by omega) (fun q => by omega) (fun _ => ?_)
    rw [Int.toNat_natCast, rJ_r, rJ_o hne, rJ_u, wr_nat (by omega)]
    refine ih (i + 1) _ (by omega) (fun x hx => ?_)
    unfold aU
    by_cases y : x = i
    · rw [if_pos y, if_pos (by omega), hg i (by omega), if_neg (by omega), y]
    · rw [if_neg y, hg x hx]
      by_cases z : x < i
      · rw [if_pos z, if_pos (by omega)]
      · rw [if_neg z, if_neg (by omega)]
/-- what may lack: to[k] = from[k] first -/
def mbF (m : Bool) (g : FTr) : FTr := if m = true then myF g else g
theorem m14 {p fr to : Nat} {S : BSet} (F : FX2 τ) (sp : tS τ p = (1, 14, 0)) (hp : p ≠ to) (sf : tS τ fr = (2, 3, 5)) (st : tS τ to = (2, 3, 5)) (hne : fr ≠ to) (hS : SetG (tI τ fr) S) (hd : 1 ≤ d) (kw : tP τ p 1 = none → tI τ p 3 ≤ 0 → ∀ g, SetG g S → G (d - 1) 194 0 [vR 220, vJ (tI τ p 0), none, vR fr, vR to, none, none] [] (rI τ to g) (KC d 195 200 203 [none, none, none, vR to, none, none, none] [] Q)) (kb : tP τ p 1 = none → ¬ 0 < tI τ p 3) (kn : ∀ q, tP τ p 1 = some q → ∀ g, SetG g S → G d 195 41 [vR 220, vR p, vR fr, vR to, none, none, none] [] (rI τ to g) Q) : ∀ (j i : Nat) (g : Nat → Int), i + j = 5 → (∀ x, x < i → g x = tI τ fr x) → G d 195 14 [vR 220, vR p, vR fr, vR to, vI (i : Int), none, none] [] (rI τ to g) Q := by
  have s0 : ∀ g : Nat → Int, tS (rI τ to g) 220 = (1, 21, 0) := fun _ => F.sh rfl (by omega) (by omega)
  intro j
  induction j with
  | zero =>
    intro i g hi hg
    have hSg : SetG g S := SetG_eq hS (fun x hx => hg x (by omega))
    refine t195_14 (n7 := 5) (n10 := 5) hd (show tS τ p = _ from sp) (s0 g) (show tS τ fr = _ from sf) (fun q => by omega) (show tS τ to = _ from st) (fun q => by omega) (fun _ c1 c2 => ?_) (fun _ c1 c2 => ?_) (fun _ q c1 => kn q c1 g hSg) (fun q => by omega)
    · rw [rJ_o hp] at c2
      have := kw c1 c2 g hSg
      rw [rJ_o hp]
      exact this
    · rw [rJ_o hp] at c2
      exact absurd c2 (kb c1)
  | succ j ih =>
    intro i g hi hg
    refine t195_14 (n7 := 5) (n10 := 5) hd (show tS τ p = _ from sp) (s0 g) (show tS τ fr = _ from sf) (fun q => by omega) (show tS τ to = _ from st) (fun q => by omega) (fun q => by omega) (fun q => by omega) (fun q => by omega) (fun _ => ?_)
    rw [Int.toNat_natCast, rJ_o hne, rJ_u, wr_nat (by omega)]
    refine ih (i + 1) _ (by omega) (fun x hx => ?_)
    unfold aU
    by_cases y : x = i
    · rw [if_pos y, y]
    · rw [if_neg y]; exact hg x (by omega)
/-- a new set -/
theorem newS (F : FX2 τ) : OC (fun _ _ => False) τ (nC τ (2, 3, 5) 5) ∧ FX2 (nC τ (2, 3, 5) 5) ∧ tS (nC τ (2, 3, 5) 5) (tN τ) = (2, 3, 5) ∧ SetG (tI (nC τ (2, 3, 5) 5) (tN τ)) (fun _ => false) := by
  refine ⟨OC.rf.n, F.n, if_pos rfl, SetG_0 (fun j _ => ?_)⟩
  show rw2 (tI τ) (tN τ) (fun _ => 0) (tN τ) j = 0
  rw [rw2_row]
/-- a word -/
theorem PtM_w {p : Nat} {w : List Int} {m : Bool} (hp : R p) (sp : tS τ p = (1, 14, 0)) (h0 : tI τ p 0 = wen w) (h1 : tP τ p 1 = none) (h3 : tI τ p 3 = 0) (h4 : tI τ p 4 = bi m) (hw : okWd w) : PtM R τ 20 p (mbF m (wS w)) 1 := ⟨hp, sp, fun τ1 d Q fr l S hd K F H hl hS k => by
  obtain ⟨p1, p2, p3, p4⟩ := K p hp
  obtain ⟨f1, f2, f3, f4⟩ := hS
  have N := F.1
  obtain ⟨o1, F1, s1, g1⟩ := newS F
  refine t195_0 (r1 := some p) (r2 := some fr) ?_
  have n1 : tN (nC τ1 (2, 3, 5) 5) = tN τ1 + 1 := rfl
  have z1 : tZ (nC τ1 (2, 3, 5) 5) = tZ τ1 + 5 := rfl
  generalize hτ : nC τ1 (2, 3, 5) 5 = τa at *
  have oP : ∀ a, a < tN τ1 → tS τa a = tS τ1 a ∧ tI τa a = tI τ1 a ∧ tP τa a = tP τ1 a := fun a ha => ⟨o1.2.2.1 a ha, funext fun k => (o1.2.2.2 a k ha (fun z => z)).1, funext fun k => (o1.2.2.2 a k ha (fun z => z)).2⟩
  obtain ⟨q1, q2, q3⟩ := oP p p1
  obtain ⟨t1, t2, t3⟩ := oP fr f2
  have Ha : HdM τa l := H.oc2 F o1 (fun _ _ z => z.elim)
  have e0 : tI τa p 0 = wen w := by rw [q2, p3]; exact h0
  have e1 : tP τa p 1 = none := by rw [q3, p4]; exact h1
  have e3 : tI τa p 3 = 0 := by rw [q2, p3]; exact h3
  have e4 : tI τa p 4 = bi m := by rw [q2, p3]; exact h4
  have s0 : tS τa 220 = (1, 21, 0) := F1.sh rfl (by omega) (by omega)
  have spa : tS τa p = (1, 14, 0) := by rw [q1, p2]; exact sp
  have sfa : tS τa fr = (2, 3, 5) := by rw [t1]; exact f3
  have hSa : SetG (tI τa fr) S := by rw [t2]; exact f4
  have fin : ∀ (g : Nat → Int) (T : BSet), SetG g T → (∀ e, mbF m (wS w) l S e = (T e || wS w l S e)) → G (d - 1) 194 0 [vR 220, vJ (tI τa p 0), none, vR fr, vR (tN τ1), none, none] [] (rI τa (tN τ1) g) (KC d 195 200 203 [none, none, none, vR (tN τ1), none, none, none] [] Q) := fun g T hT he => by
    rw [e0]
    refine m194 F1 Ha hl hw sfa hSa s1 hT (by omega) N (by omega) (fun g2 S2 => t195_203 (r3 := some (tN τ1)) (k (rI τa (tN τ1) g2) (tN τ1) (o1.rn (Nat.le_refl _)) F1.r (by show tN τa ≤ _; omega) (by show tZ τa ≤ _; omega) (Nat.le_refl _) ⟨N, by show tN τ1 < tN τa; omega, s1, ?_⟩))
    rw [rJ_f]
    exact S2.cg he
  cases m with
  | false =>
    refine t195_3 (r2 := some fr) (s0 := some (tN τ1)) (by omega) spa s0 (fun _ _ _ => ?_) (fun _ _ c => by rw [e3] at c; exact absurd c (by decide)) (fun _ q c => by rw [e1] at c; cases c) (fun c => absurd e4 c)
    have := fin (tI τa (tN τ1)) (fun _ => false) g1 (fun e => by show wS w l S e = (false || wS w l S e); rw [Bool.false_or])
    rw [rJ_id] at this
    exact this
  | true =>
    refine t195_3 (r2 := some fr) (s0 := some (tN τ1)) (by omega) spa s0 (fun c => by rw [e4] at c; exact absurd c (by decide)) (fun c => by rw [e4] at c; exact absurd c (by decide)) (fun c => by rw [e4] at c; exact absurd c (by decide)) (fun _ => ?_)
    have := m14 (d := d) (Q := Q) (p := p) (to := tN τ1) F1 spa (by omega) sfa s1 (by omega) hSa (by omega) (fun _ _ g hg => fin g S hg (fun e => rfl)) (fun _ => by rw [e3]; decide) (fun q c => by rw [e1] at c; cases c) 5 0 (tI τa (tN τ1)) (by omega) (fun x hx => absurd hx (Nat.not_lt_zero _))
    rw [rJ_id] at this
    exact this⟩
/-- one that holds rows -/
theorem PtM_n {p al D w : Nat} {g : FTr} {m : Bool} (hp : R p) (sp : tS τ p = (1, 14, 0)) (h1 : tP τ p 1 = some al) (h4 : tI τ p 4 = bi m) (hE : EiM R τ D al g w) (hD : 20 ≤ D) : PtM R τ (D + 1) p (mbF m g) (w + 2) := ⟨hp, sp, fun τ1 d Q fr l S hd K F H hl hS k => by
  obtain ⟨p1, p2, p3, p4⟩ := K p hp
  have hS0 := hS
  obtain ⟨f1, f2, f3, f4⟩ := hS
  have N := F.1
  obtain ⟨o1, F1, s1, g1⟩ := newS F
  refine t195_0 (r1 := some p) (r2 := some fr) ?_
  have n1 : tN (nC τ1 (2, 3, 5) 5) = tN τ1 + 1 := rfl
  have z1 : tZ (nC τ1 (2, 3, 5) 5) = tZ τ1 + 5 := rfl
  generalize hτ : nC τ1 (2, 3, 5) 5 = τa at *
  have oP : ∀ a, a < tN τ1 → tS τa a = tS τ1 a ∧ tI τa a = tI τ1 a ∧ tP τa a = tP τ1 a := fun a ha => ⟨o1.2.2.1 a ha, funext fun k => (o1.2.2.2 a k ha (fun z => z)).1, funext fun k => (o1.2.2.2 a k ha (fun z => z)).2⟩
  obtain ⟨q1, q2, q3⟩ := oP p p1
  obtain ⟨t1, t2, t3⟩ := oP fr f2
  have e1 : tP τa p 1 = some al := by rw [q3, p4]; exact h1
  have e4 : tI τa p 4 = bi m := by rw [q2, p3]; exact h4
  have s0 : ∀ g2 : Nat → Int, tS (rI τa (tN τ1) g2) 220 = (1, 21, 0) := fun _ => F1.sh rfl (by omega) (by omega)
  have spa : tS τa p = (1, 14, 0) := by rw [q1, p2]; exact sp
  have sfa : tS τa fr = (2, 3, 5) := by rw [t1]; exact f3
  have hSa : SetG (tI τa fr) S := by rw [t2]; exact f4
  have fin : ∀ (g2 : Nat → Int) (T : BSet), SetG g2 T → (∀ e, mbF m g l S e = (T e || g l S e)) → G d 195 41 [vR 220, vR p, vR fr, vR (tN τ1), none, none, none] [] (rI τa (tN τ1) g2) Q := fun g2 T hT he => by
    refine t195_41 (r2 := some fr) (r3 := some (tN τ1)) (by omega) (show tS τa p = _ from spa) (s0 g2) ?_
    rw [show tP (rI τa (tN τ1) g2) p 1 = some al from e1]
    have ob : OC (fun _ _ => False) τ1 (rI τa (tN τ1) g2) := o1.rn (Nat.le_refl _)
    refine hE (rI τa (tN τ1) g2) (d - 1) _ fr l S (by omega) (K.oc ob (fun _ _ _ z => z)) F1.r (H.oc2 F ob (fun _ _ z => z.elim)) hl (hS0.oc ob (fun _ z => z)) (fun τ2 b o2 F2 n2 z2 hb hB => t195_50 (r3 := some (tN τ1)) (s0 := some b) ?_)
    obtain ⟨b1, b2, b3, b4⟩ := hB
    have nb : tN (rI τa (tN τ1) g2) = tN τ1 + 1 := n1
    have zb : tZ (rI τa (tN τ1) g2) = tZ τ1 + 5 := z1
    have st2 : tS τ2 (tN τ1) = (2, 3, 5) := (o2.2.2.1 (tN τ1) (by omega)).trans s1
    have it2 : SetG (tI τ2 (tN τ1)) T := by
      rw [show tI τ2 (tN τ1) = g2 from funext fun k => ((o2.2.2.2 (tN τ1) k (by omega) (fun z => z)).1).trans rJ_r]
      exact hT
    have := m55 (d := d) (Q := Q) (to := tN τ1) st2 b3 (by omega) it2 b4 (fun g3 S3 => k (rI τ2 (tN τ1) g3) (tN τ1) ((ob.tr o2).rn (Nat.le_refl _)) F2.r (by show tN τ2 ≤ _; omega) (by show tZ τ2 ≤ _; omega) (Nat.le_refl _) ⟨N, by show tN τ1 < tN τ2; omega, st2, by rw [rJ_f]; exact S3.cg he⟩) 5 0 (tI τ2 (tN τ1)) (by omega) (fun x hx => by rw [if_neg (Nat.not_lt_zero _)])
    rw [rJ_id] at this
    exact this
  cases m with
  | false =>
    refine t195_3 (r2 := some fr) (s0 := some (tN τ1)) (by omega) spa (F1.sh rfl (by omega) (by omega)) (fun _ c => by rw [e1] at c; cases c) (fun _ c => by rw [e1] at c; cases c) (fun _ q c => ?_) (fun c => absurd e4 c)
    have := fin (tI τa (tN τ1)) (fun _ => false) g1 (fun e => by show g l S e = (false || g l S e); rw [Bool.false_or])
    rw [rJ_id] at this
    exact this
  | true =>
    refine t195_3 (r2 := some fr) (s0 := some (tN τ1)) (by omega) spa (F1.sh rfl (by omega) (by omega)) (fun c => by rw [e4] at c; exact absurd c (by decide)) (fun c => by rw [e4] at c; exact absurd c (by decide)) (fun c => by rw [e4] at c; exact absurd c (by decide)) (fun _ => ?_)
    have := m14 (d := d) (Q := Q) (p := p) (to := tN τ1) F1 spa (by omega) sfa s1 (by omega) hSa (by omega) (fun c => by rw [e1] at c; cases c) (fun c => by rw [e1] at c; cases c) (fun q c g2 hg => fin g2 S hg (fun e => rfl)) 5 0 (tI τa (tN τ1)) (by omega) (fun x hx => absurd hx (Nat.not_lt_zero _))
    rw [rJ_id] at this
    exact this⟩
end MPT
