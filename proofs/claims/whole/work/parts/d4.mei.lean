/-! FORMS: what they do, model: rows of parts -/
def PsM (R : Nat → Prop) (τ : T2) (D : Nat) : List Nat → FTr → Nat → Prop
  | [], g, w => g = (fun _ S => S) ∧ w = 0
  | p :: P, g, w => ∃ g1 w1 g2 w2, PtM R τ D p g1 w1 ∧ PsM R τ D P g2 w2 ∧ g = sqF g1 g2 ∧ w = w1 + w2
def RwM (R : Nat → Prop) (τ : T2) (D r : Nat) (g : FTr) (w : Nat) : Prop := R r ∧ tS τ r = (1, 16, 0) ∧ ∃ al Ps, tP τ r 0 = some al ∧ ALs τ R al Ps ∧ PsM R τ D Ps g w
def RsM (R : Nat → Prop) (τ : T2) (D : Nat) : List Nat → FTr → Nat → Prop
  | [], g, w => g = nnF ∧ w = 0
  | r :: L, g, w => ∃ g1 w1 g2 w2, RwM R τ D r g1 w1 ∧ RsM R τ D L g2 w2 ∧ g = orF g1 g2 ∧ w = w1 + 1 + w2
theorem PsM.mo {R R1 : Nat → Prop} {τ τ1 : T2} {D D1 : Nat} (hR : ∀ a, R a → R1 a) (hK : KpR R τ τ1) (hD : D ≤ D1) : ∀ (P : List Nat) {g : FTr} {w : Nat}, PsM R τ D P g w → PsM R1 τ1 D1 P g w
  | [], _, _, h => h
  | p :: P, g, w, h => by
    obtain ⟨g1, w1, g2, w2, h1, h2, h3⟩ := h
    exact ⟨g1, w1, g2, w2, h1.mo hR hK hD, PsM.mo hR hK hD P h2, h3⟩
theorem RwM.mo {R R1 : Nat → Prop} {τ τ1 : T2} {D D1 r w : Nat} {g : FTr} (h : RwM R τ D r g w) (hR : ∀ a, R a → R1 a) (hK : KpR R τ τ1) (hD : D ≤ D1) : RwM R1 τ1 D1 r g w := by
  obtain ⟨h1, h2, al, Ps, h3, h4, h5⟩ := h
  obtain ⟨k1, k2, k3, k4⟩ := hK r h1
  exact ⟨hR r h1, k2.trans h2, al, Ps, by rw [k4]; exact h3, h4.mo hR (fun a ha => (hK a ha).2), PsM.mo hR hK hD Ps h5⟩
theorem RsM.mo {R R1 : Nat → Prop} {τ τ1 : T2} {D D1 : Nat} (hR : ∀ a, R a → R1 a) (hK : KpR R τ τ1) (hD : D ≤ D1) : ∀ (L : List Nat) {g : FTr} {w : Nat}, RsM R τ D L g w → RsM R1 τ1 D1 L g w
  | [], _, _, h => h
  | r :: L, g, w, h => by
    obtain ⟨g1, w1, g2, w2, h1, h2, h3⟩ := h
    exact ⟨g1, w1, g2, w2, h1.mo hR hK hD, RsM.mo hR hK hD L h2, h3⟩
theorem PsM.ap {R : Nat → Prop} {τ : T2} {D p wp : Nat} {gp : FTr} (hp : PtM R τ D p gp wp) : ∀ (P : List Nat) {g : FTr} {w : Nat}, PsM R τ D P g w → PsM R τ D (P ++ [p]) (sqF g gp) (w + wp)
  | [], g, w, h => by
    obtain ⟨h1, h2⟩ := h
    subst h1 h2
    exact ⟨gp, wp, fun _ S => S, 0, hp, ⟨rfl, rfl⟩, rfl, by omega⟩
  | q :: P, g, w, h => by
    obtain ⟨g1, w1, g2, w2, h1, h2, h3, h4⟩ := h
    subst h3 h4
    exact ⟨g1, w1, sqF g2 gp, w2 + wp, h1, PsM.ap hp P h2, rfl, by omega⟩
theorem RsM.ap {R : Nat → Prop} {τ : T2} {D r wr1 : Nat} {gr : FTr} (hr : RwM R τ D r gr wr1) : ∀ (L : List Nat) {g : FTr} {w : Nat}, RsM R τ D L g w → RsM R τ D (L ++ [r]) (orF g gr) (w + wr1 + 1)
  | [], g, w, h => by
    obtain ⟨h1, h2⟩ := h
    subst h1 h2
    refine ⟨gr, wr1, nnF, 0, hr, ⟨rfl, rfl⟩, ?_, by omega⟩
    rw [orF_nn]
    funext l S e
    exact (Bool.or_false _).symm
  | q :: L, g, w, h => by
    obtain ⟨g1, w1, g2, w2, h1, h2, h3, h4⟩ := h
    subst h3 h4
    refine ⟨g1, w1, orF g2 gr, w2 + wr1 + 1, h1, RsM.ap hr L h2, ?_, by omega⟩
    funext l S e
    exact Bool.or_assoc _ _ _
theorem ItM.oc {τ τ1 : T2} {P : Nat → Nat → Prop} {it al i : Nat} (h : ItM τ it al i) (o : OC P τ τ1) (h1 : it < tN τ) (h2 : al < tN τ) (h3 : ∀ k, ¬ P it k) (h4 : ∀ k, ¬ P al k) : ItM τ1 it al i := by
  obtain ⟨x1, x2, x3, x4⟩ := h
  refine ⟨(o.2.2.1 it h1).trans x1, by rw [(o.2.2.2 it 0 h1 (h3 0)).1]; exact x2, by rw [(o.2.2.2 it 2 h1 (h3 2)).1, (o.2.2.2 al 0 h2 (h4 0)).1]; exact x3, by rw [(o.2.2.2 it 3 h1 (h3 3)).2]; exact x4⟩
section MEI
variable {d : Nat} {τ : T2} {Q : RS → T2 → Prop} {R : Nat → Prop} {l : List Int} {D : Nat}
/-- parts of a row, one behind another -/
theorem m45 {al : Nat} {Ps : List Nat} (hd : D + 1 ≤ d) (hd2 : 20 ≤ d) (hl : ∀ x ∈ l, 97 ≤ x ∧ x ≤ 122) (A : ALs τ R al Ps) {fr all it1 it2 : Nat} (h4 : 473 ≤ it2) (hit : ∀ a, R a → a ≠ it2) : ∀ (P : List Nat) (i : Nat) (g : FTr) (w : Nat) (τ2 : T2) (now : Nat) (S : BSet), i ≤ Ps.length → Ps.drop i = P → PsM R τ D P g w → KpR R τ τ2 → FX2 τ2 → HdM τ2 l → it2 < tN τ2 → now ≠ it2 → SetM τ2 now S → ItM τ2 it2 al i → (∀ τ3 now3, OC (fun a _ => a = it2) τ2 τ3 → FX2 τ3 → tN τ3 ≤ tN τ2 + 3 * w → tZ τ3 ≤ tZ τ2 + 17 * w → (now3 = now ∨ tN τ2 ≤ now3) → SetM τ3 now3 (g l S) → G d 196 83 [vR 220, none, vR fr, vR all, vR it1, none, vR now3, vI 0, none] [] τ3 Q) → G d 196 45 [vR 220, none, vR fr, vR all, vR it1, none, vR now, vR it2, none] [] τ2 Q := by
  intro P
  induction P with
  | nil =>
    intro i g w τ2 now S hip hP hg K F H hn hne hS I k
    obtain ⟨e1, e2⟩ := hg
    subst e1 e2
    have A2 : ALs τ2 R al Ps := A.mo (fun a ha => ha) (fun a ha => (K a ha).2)
    have hi : Ps.length ≤ i := by
      rcases Nat.lt_or_ge i Ps.length with y | y
      · rw [List.drop_eq_getElem_cons y] at hP; cases hP
      · exact y
    refine t196_45 (r2 := some fr) (r3 := some all) (r4 := some it1) (r6 := some now) (r7 := some it2) (h47 (r2 := some fr) (r3 := some all) (r4 := some it1) (r6 := some now) I.1 (by omega) (m250 I A2 (fun c => absurd (Nat.le_antisymm hip hi) c) (fun c => ?_)))
    exact t196_52 (r2 := some fr) (r3 := some all) (r4 := some it1) (r6 := some now) (r7 := some it2) (fun _ => k τ2 now OC.rf F (by omega) (by omega) (Or.inl rfl) hS) (fun q => absurd rfl q)
  | cons p P ih =>
    intro i g w τ2 now S hip hP hg K F H hn hne hS I k
    obtain ⟨g1, w1, g2, w2, hp, hps, e1, e2⟩ := hg
    subst e1 e2
    have A2 : ALs τ2 R al Ps := A.mo (fun a ha => ha) (fun a ha => (K a ha).2)
    have hi : i < Ps.length := by
      rcases Nat.lt_or_ge i Ps.length with y | y
      · exact y
      · rw [List.drop_eq_nil_of_le y] at hP; cases hP
    rw [List.drop_eq_getElem_cons hi] at hP
    obtain ⟨hP1, hP2⟩ := List.cons.inj hP
    have hx : Ps[i]? = some p := by rw [List.getElem?_eq_getElem hi, hP1]
    have hal := (K al A.1).1
    refine t196_45 (r2 := some fr) (r3 := some all) (r4 := some it1) (r6 := some now) (r7 := some it2) (h47 (r2 := some fr) (r3 := some all) (r4 := some it1) (r6 := some now) I.1 (by omega) (m250 I A2 (fun c => ?_) (fun c => by omega)))
    refine t196_52 (r2 := some fr) (r3 := some all) (r4 := some it1) (r6 := some now) (r7 := some it2) (fun q => absurd q (by decide)) (fun _ => ?_)
    refine h57 (r2 := some fr) (r3 := some all) (r4 := some it1) (r6 := some now) I.1 (by omega) (m251 F h4 hit I A2 hx (by omega) (fun τ3 o3 F3 n3 z3 I3 => ?_))
    have K3 : KpR R τ τ3 := K.oc o3 (fun a _ ha z => hit a ha z)
    have H3 : HdM τ3 l := H.oc2 F o3 (fun a _ z => by omega)
    have S3 : SetM τ3 now S := hS.oc o3 (fun _ z => hne z)
    obtain ⟨c1, c2, c3, c4⟩ := K3 p hp.1
    refine h62 (r2 := some fr) (r3 := some all) (r4 := some it1) (r7 := some it2) (by rw [c2]; exact hp.2.1) (F3.sh rfl (by omega) (by omega)) (by omega) ?_
    refine hp.2.2 τ3 (d - 1) _ now l S (by omega) K3 F3 H3 hl S3 (fun τ4 now4 o4 F4 n4 z4 hf4 S4 => t196_75 (r2 := some fr) (r3 := some all) (r4 := some it1) (r7 := some it2) (s0 := some now4) ?_)
    refine ih (i + 1) g2 w2 τ4 now4 (g1 l S) (by omega) hP2 hps (K3.oc o4 (fun _ _ _ z => z)) F4 (H3.oc2 F3 o4 (fun _ _ z => z.elim)) (by have := o4.1; omega) (by omega) S4 (I3.oc o4 (by omega) (by omega) (fun _ z => z) (fun _ z => z)) (fun τ5 now5 o5 F5 n5 z5 hor S5 => ?_)
    exact k τ5 now5 ((o3.tr (o4.mo fun _ _ z => z.elim)).tr o5) F5 (by omega) (by omega) (by have := o4.1; omega) S5
/-- rows, what they take together -/
theorem m10 {al : Nat} {Rs : List Nat} (hd : D + 1 ≤ d) (hd2 : 30 ≤ d) (hl : ∀ x ∈ l, 97 ≤ x ∧ x ≤ 122) (A : ALs τ R al Rs) {fr all it1 : Nat} {S : BSet} (h4 : 473 ≤ it1) (hit : ∀ a, R a → a ≠ it1) (hal2 : ∀ a, R a → a ≠ all) (hne : it1 ≠ all) (hfa : fr ≠ all) (hfi : fr ≠ it1) : ∀ (L : List Nat) (i : Nat) (g : FTr) (w : Nat) (τ2 : T2) (T : BSet), i ≤ Rs.length → Rs.drop i = L → RsM R τ D L g w → KpR R τ τ2 → FX2 τ2 → HdM τ2 l → it1 < tN τ2 → SetM τ2 fr S → SetM τ2 all T → ItM τ2 it1 al i → (∀ τ3, OC (fun a _ => a = it1 ∨ a = all) τ2 τ3 → FX2 τ3 → tN τ3 + 2 * L.length ≤ tN τ2 + 3 * w → tZ τ3 + 13 * L.length ≤ tZ τ2 + 17 * w → SetM τ3 all (fun e => T e || g l S e) → Q (.inl (some (AR all))) τ3) → G d 196 10 [vR 220, none, vR fr, vR all, vR it1, none, none, none, none] [] τ2 Q := by
  intro L
  induction L with
  | nil =>
    intro i g w τ2 T hip hP hg K F H hn hS hT I k
    obtain ⟨e1, e2⟩ := hg
    subst e1 e2
    have A2 : ALs τ2 R al Rs := A.mo (fun a ha => ha) (fun a ha => (K a ha).2)
    have hi : Rs.length ≤ i := by
      rcases Nat.lt_or_ge i Rs.length with y | y
      · rw [List.drop_eq_getElem_cons y] at hP; cases hP
      · exact y
    refine t196_10 (r2 := some fr) (r3 := some all) (r4 := some it1) (h12 (r2 := some fr) (r3 := some all) I.1 (by omega) (m250 I A2 (fun c => absurd (Nat.le_antisymm hip hi) c) (fun c => ?_)))
    refine t196_17 (r2 := some fr) (r3 := some all) (r4 := some it1) (fun _ => k τ2 OC.rf F (by simp) (by simp) ⟨hT.1, hT.2.1, hT.2.2.1, hT.2.2.2.cg (fun e => Bool.or_false _)⟩) (fun q => absurd rfl q)
  | cons r L ih =>
    intro i g w τ2 T hip hP hg K F H hn hS hT I k
    obtain ⟨g1, w1, g2, w2, hr, hrs, e1, e2⟩ := hg
    subst e1 e2
    have A2 : ALs τ2 R al Rs := A.mo (fun a ha => ha) (fun a ha => (K a ha).2)
    have hi : i < Rs.length := by
      rcases Nat.lt_or_ge i Rs.length with y | y
      · exact y
      · rw [List.drop_eq_nil_of_le y] at hP; cases hP
    rw [List.drop_eq_getElem_cons hi] at hP
    obtain ⟨hP1, hP2⟩ := List.cons.inj hP
    have hx : Rs[i]? = some r := by rw [List.getElem?_eq_getElem hi, hP1]
    have hal := (K al A.1).1
    have hl1 : (r :: L).length = L.length + 1 := rfl
    obtain ⟨r1, r2, ar, Ps, r3, r4, r5⟩ := hr
    refine t196_10 (r2 := some fr) (r3 := some all) (r4 := some it1) (h12 (r2 := some fr) (r3 := some all) I.1 (by omega) (m250 I A2 (fun c => ?_) (fun c => by omega)))
    refine t196_17 (r2 := some fr) (r3 := some all) (r4 := some it1) (fun q => absurd q (by decide)) (fun _ => ?_)
    refine h22 (r2 := some fr) (r3 := some all) I.1 (by omega) (m251 F h4 hit I A2 hx (by omega) (fun τ3 o3 F3 n3 z3 I3 => ?_))
    have K3 : KpR R τ τ3 := K.oc o3 (fun a _ ha z => hit a ha z)
    have H3 : HdM τ3 l := H.oc2 F o3 (fun a _ z => by omega)
    have S3 : SetM τ3 fr S := hS.oc o3 (fun _ z => hfi z)
    have T3 : SetM τ3 all T := hT.oc o3 (fun _ z => hne z.symm)
    obtain ⟨c1, c2, c3, c4⟩ := K3 r r1
    obtain ⟨b1, b2, b3, b4⟩ := K3 ar r4.1
    refine h27 (r2 := some fr) (r3 := some all) (r4 := some it1) (by rw [c2]; exact r2) (by rw [c4]; exact r3) (by rw [b2]; exact r4.2.1) (by omega) ?_
    refine m258 F3 (by rw [b2]; exact r4.2.1) b1 (by omega) (fun τ4 o4 F4 n4 z4 I4 => t196_43 (r2 := some fr) (r3 := some all) (r4 := some it1) (r6 := some fr) (s0 := some (tN τ3)) ?_)
    have N3 := F3.1
    have K4 : KpR R τ τ4 := K3.oc o4 (fun _ _ _ z => z)
    have H4 : HdM τ4 l := H3.oc2 F3 o4 (fun _ _ z => z.elim)
    have S4 : SetM τ4 fr S := S3.oc o4 (fun _ z => z)
    have T4 : SetM τ4 all T := T3.oc o4 (fun _ z => z)
    have I4' : ItM τ4 it1 al (i + 1) := I3.oc o4 (by omega) (by omega) (fun _ z => z) (fun _ z => z)
    have hf3 := S3.2.1
    have ha3 := T3.2.1
    refine m45 (τ := τ) (D := D) (al := ar) (Ps := Ps) (by omega) (by omega) hl r4 N3 (fun a ha => by have := (K3 a ha).1; omega) Ps 0 g1 w1 τ4 fr S (Nat.zero_le _) rfl r5 K4 F4 H4 (by omega) (by omega) S4 I4 (fun τ5 now5 o5 F5 n5 z5 hor S5 => ?_)
    have T5 : SetM τ5 all T := T4.oc o5 (fun _ z => by omega)
    have hn5 : now5 ≠ all := by omega
    have := m83 (d := d) (Q := Q) (τ := τ5) (to := all) (b := now5) (r2 := some fr) (r4 := some it1) T5.2.2.1 S5.2.2.1 hn5 T5.2.2.2 S5.2.2.2 (fun g3 G3 => ?_) 5 0 (tI τ5 all) (by omega) (fun x hx => by rw [if_neg (Nat.not_lt_zero _)])
    · rw [rJ_id] at this
      exact this
    have o25 : OC (fun a _ => a = it1 ∨ a = all) τ2 (rI τ5 all g3) := ((((o3.mo fun _ _ z => Or.inl z).tr (o4.mo fun _ _ z => z.elim)).tn o5 (fun a _ ha z => by omega)).r (fun _ => Or.inr rfl))
    have ob : OC (fun a _ => a = all) τ5 (rI τ5 all g3) := OC.r (P := fun a _ => a = all) OC.rf (fun _ => rfl)
    have K5 : KpR R τ (rI τ5 all g3) := (K4.oc o5 (fun a _ ha z => by have := (K3 a ha).1; omega)).oc ob (fun a _ ha z => hal2 a ha z)
    have H5 : HdM (rI τ5 all g3) l := (H4.oc2 F4 o5 (fun _ _ z => by omega)).oc2 F5 ob (fun a _ z => by have := T5.1; omega)
    have S5' : SetM (rI τ5 all g3) fr S := (S4.oc o5 (fun _ z => by omega)).oc ob (fun _ z => hfa z)
    have T6 : SetM (rI τ5 all g3) all (fun e => T e || g1 l S e) := ⟨T5.1, T5.2.1, T5.2.2.1, by rw [rJ_f]; exact G3⟩
    have I6 : ItM (rI τ5 all g3) it1 al (i + 1) := (I4'.oc o5 (by omega) (by have := (K4 al A.1).1; omega) (fun _ z => by omega) (fun _ z => by omega)).oc ob (by have := o5.1; omega) (by have := (K4 al A.1).1; have := o5.1; omega) (fun _ z => hne z) (fun _ z => hal2 al A.1 z)
    refine ih (i + 1) g2 w2 (rI τ5 all g3) (fun e => T e || g1 l S e) (by omega) hP2 hrs K5 F5.r H5 (by show it1 < tN τ5; have := o5.1; omega) S5' T6 I6 (fun τ6 o6 F6 n6 z6 S6 => ?_)
    have n6 : tN τ6 + 2 * L.length ≤ tN τ5 + 3 * w2 := n6
    have z6 : tZ τ6 + 13 * L.length ≤ tZ τ5 + 17 * w2 := z6
    refine k τ6 (o25.tr o6) F6 (by rw [hl1]; omega) (by rw [hl1]; omega) ⟨S6.1, S6.2.1, S6.2.2.1, S6.2.2.2.cg (fun e => ?_)⟩
    show (T e || (g1 l S e || g2 l S e)) = ((T e || g1 l S e) || g2 l S e)
    rw [Bool.or_assoc]
/-- either -/
theorem EiM_of {al w : Nat} {Rs : List Nat} {g : FTr} (hD : 30 ≤ D) (A : ALs τ R al Rs) (h1 : 1 ≤ Rs.length) (hR : RsM R τ D Rs g (w + 1)) : EiM R τ (D + 1) al g w := fun τ1 d Q fr l S hd K F H hl hS k => by
  have N := F.1
  have hal := K al A.1
  obtain ⟨o1, F1, s1, g1⟩ := newS F
  refine t196_0 (r1 := some al) (r2 := some fr) ?_
  have n1 : tN (nC τ1 (2, 3, 5) 5) = tN τ1 + 1 := rfl
  have z1 : tZ (nC τ1 (2, 3, 5) 5) = tZ τ1 + 5 := rfl
  generalize nC τ1 (2, 3, 5) 5 = τa at *
  have Ka : KpR R τ τa := K.oc o1 (fun _ _ _ z => z)
  have Ha : HdM τa l := H.oc2 F o1 (fun _ _ z => z.elim)
  have Sa : SetM τa fr S := hS.oc o1 (fun _ z => z)
  have ska : tS τa al = (1, 1, 0) := (Ka al A.1).2.1.trans A.2.1
  refine t196_3 (r2 := some fr) (s0 := some (tN τ1)) (by omega) ska (m258 F1 ska (Ka al A.1).1 (by omega) (fun τ2 o2 F2 n2 z2 I2 => t196_8 (r2 := some fr) (r3 := some (tN τ1)) (s0 := some (tN τa)) ?_))
  have f1 := hS.2.1
  have Ta : SetM τ2 (tN τ1) (fun _ => false) := SetM.oc (τ := τa) ⟨N, by omega, s1, g1⟩ o2 (fun _ z => z)
  refine m10 (τ := τ) (D := D) (R := R) (al := al) (Rs := Rs) (fr := fr) (all := tN τ1) (it1 := tN τa) (S := S) (by omega) (by omega) hl A (by omega) (fun a ha => by have := (Ka a ha).1; omega) (fun a ha => by have := (K a ha).1; omega) (by omega) (by omega) (by omega) Rs 0 g (w + 1) τ2 (fun _ => false) (Nat.zero_le _) rfl hR (Ka.oc o2 (fun _ _ _ z => z)) F2 (Ha.oc2 F1 o2 (fun _ _ z => z.elim)) (by omega) (Sa.oc o2 (fun _ z => z)) Ta I2 (fun τ3 o3 F3 n3 z3 S3 => ?_)
  refine k τ3 (tN τ1) (((o1.tr o2)).tn o3 (fun a _ ha z => by omega)) F3 (by omega) (by omega) (Nat.le_refl _) ⟨S3.1, S3.2.1, S3.2.2.1, S3.2.2.2.cg (fun e => ?_)⟩
  show g l S e = (false || g l S e)
  rw [Bool.false_or]
end MEI
