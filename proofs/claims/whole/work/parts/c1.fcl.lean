/-! FORMS read by the class -/
def SpF (p : Nat → Nat → PFR) (f : Nat → Int) (n D v s : Nat) (run : Nat → T2 → (RS → T2 → Prop) → Prop) : Prop := ∀ (d : Nat) (τ : T2) (Q : RS → T2 → Prop) (a c o : Nat), D ≤ d → PC τ f n a c (3 * o) → c ≤ 40 → o ≤ a + c + v → (∀ e τ1, p a c = .inl e → PK τ τ1 → FX2 τ1 → tI τ1 73 6 = e.1 → tI τ1 73 7 = (e.2 : Int) → Q (.inl (some (AI 0))) τ1) → (∀ g a1 c1 o1 τ1, p a c = .inr (g, a1, c1) → PK τ τ1 → PC τ1 f n a1 c1 (3 * o1) → c1 ≤ 40 → o1 + a + c + s ≤ o + a1 + c1 → a < a1 → (∀ i, i < 3 * o → tI τ1 75 i = tI τ 75 i) → SgF (tI τ1 75) f n o o1 g → Q (.inl (some (AI 1))) τ1) → run d τ Q
section RDF
variable {f : Nat → Int} {n v : Nat}
theorem c79 {d : Nat} {τ : T2} {Q : RS → T2 → Prop} {a c z : Nat} (h : PC τ f n a c z) (hz : z ≤ 1200) {j : Nat} (hj : j + 1 < z) {x : Int} (k : ∀ τ1, PK τ τ1 → PC τ1 f n a c z → (∀ i, i ≠ j + 1 → tI τ1 75 i = tI τ 75 i) → tI τ1 75 (j + 1) = x → Q (.inl none) τ1) : G d 79 0 [vR 73, vI (j : Int), vI x] [] τ Q := by
  obtain ⟨s1, s2, s3⟩ := s73 h.1
  have e : wr ((j : Int) + 1) = ((j + 1 : Nat) : Int) := wr_nat (by omega)
  have h8 := h.2.2.2.2.1
  have h10 := h.2.2.2.2.2
  refine t79_0 (q4 := 75) (n6 := 1200) s1 s2 s3 (fun _ _ => by rw [e]; clear e; omega) (fun q => by clear e; omega) (fun _ q => by rw [e, h10] at q; clear e; omega) (fun _ _ => ?_)
  rw [e, Int.toNat_natCast]
  refine k (uI τ 75 (j + 1) x) (PK.rf.j (Or.inr rfl)) (h.up h.1.j (OC.j (P := fun b _ => b = 75) OC.rf rfl) (fun b k z => Or.inl z) ?_ ?_) (fun i hi => ?_) ?_
  · rw [tI_uI, if_neg (by omega)]; exact h8
  · rw [tI_uI, if_neg (by omega)]; exact h10
  · rw [tI_uI, if_neg (fun y => hi y.2)]
  · rw [tI_uI, if_pos ⟨rfl, rfl⟩]
/-- readWord -/
theorem c11 (hv : v ≤ 9) : SpF (fWd f n) f n 20 v 1 (fun d τ Q => G d 11 0 [vR 73, none, none, none] [] τ Q) := by
  intro d τ Q a c o hd h hc ho k0 k1
  have s : ∀ {τ : T2}, FX2 τ → tS τ 73 = (1, 9, 0) := fun F => (s73 F).1
  have n3 := h.2.1.2.2.1
  have han := h.2.2.2.1
  refine t11_0 (by omega) (s h.1) (c70 h.1 h.2.2.1 (fun hw => ?_) (fun hw => ?_))
  · refine t11_4 (by omega) (s h.1) (fun _ => c77' (m := 40) h (by omega) (by omega) (fun hc4 τ1 p1 o1 h1 => ?_) (fun hc4 τ1 p1 F1 x1 x2 => ?_)) (fun q => absurd q (by decide))
    · have hT := tk_w han (show tkS f n a ≠ 0 by rw [hw]; decide)
      have hF := tkT_le (f := f) (n := n) han
      refine t11_19 (by omega) (s h1.1) (fun _ => ?_) (fun q => absurd q (by decide))
      rw [h1.2.2.1.1, h1.2.2.1.2.1]
      refine c68' h1 (by omega) (fun τ2 p2 o2 h2 => t11_38 (by omega) (s h2.1) (c73 h2.1 h2.2.2.1 (by decide) ?_))
      cases hs : isS f n (tkT f n a) 63 with
      | false =>
        refine t11_44 (by omega) (s h2.1) (fun _ _ => ?_) (fun _ q => absurd rfl q) (fun q => absurd rfl q)
        refine c78' h2 (by omega) (fun τ3 p3 o3 w0 w1 w2 h3 => t11_68 ?_)
        refine k1 (wS (tkW f n a)) (tkT f n a) (c + 1) (o + 1) τ3 ?_ ((p1.tr p2).tr p3) h3 (by omega) (by omega) (by omega) (fun i hi => by rw [o3 i (by omega) (by omega) (by omega), o2, o1]) ?_
        · unfold fWd; rw [if_pos hw, if_pos hc4, if_neg (by rw [hs]; decide)]
        · have sg := SgF_w (t := f) (n := n) (a := o) w0 ⟨by rw [w1]; omega, by rw [w1, w2]; omega, by rw [w2]; omega⟩
          rw [w1, w2, sbW_tk] at sg
          exact sg
      | true =>
        have hT2 := isS_t h2.2.2.2.1 hs
        refine t11_44 (by omega) (s h2.1) (fun q => absurd q (by decide)) (fun q => absurd q (by decide)) (fun _ => ?_)
        refine c68' h2 (by omega) (fun τ3 p3 o3 h3 => t11_53 (by omega) (s h3.1) (fun q => absurd q (by decide)) (fun _ => ?_))
        refine c78' h3 (by omega) (fun τ4 p4 o4 w0 w1 w2 h4 => t11_68 ?_)
        refine k1 (myF (wS (tkW f n a))) (tkT f n (tkT f n a)) (c + 1) (o + 1) τ4 ?_ (((p1.tr p2).tr p3).tr p4) h4 (by omega) (by omega) (by omega) (fun i hi => by rw [o4 i (by omega) (by omega) (by omega), o3, o2, o1]) ?_
        · unfold fWd; rw [if_pos hw, if_pos hc4, if_pos hs]
        · have sg := SgF_m (t := f) (n := n) (a := o) w0 ⟨by rw [w1]; omega, by rw [w1, w2]; omega, by rw [w2]; omega⟩
          rw [w1, w2, sbW_tk] at sg
          exact sg
    · refine t11_19 (by omega) (s F1) (fun q => absurd rfl q) (fun _ => k0 (4, tkF f n a) τ1 ?_ p1 F1 x1 x2)
      unfold fWd; rw [if_pos hw, if_neg hc4]
  · refine t11_4 (by omega) (s h.1) (fun q => absurd rfl q) (fun _ => c76' h (fun τ1 p1 F1 x1 x2 => t11_12 (by decide) (k0 (1, tkF f n a) τ1 ?_ p1 F1 x1 x2)))
    unfold fWd; rw [if_neg hw]
/-- readBag -/
theorem c12 (hv : v ≤ 9) (d : Nat) (τ : T2) (Q : RS → T2 → Prop) (a c o : Nat) (hd : 20 ≤ d) (h : PC τ f n a c (3 * o)) (hc : c ≤ 40) (ho : o ≤ a + c + v) (hp : isS f n a 91 = true) (k0 : ∀ e τ1, fBag f n a c = .inl e → PK τ τ1 → FX2 τ1 → tI τ1 73 6 = e.1 → tI τ1 73 7 = (e.2 : Int) → Q (.inl (some (AI 0))) τ1) (k1 : ∀ g a1 c1 o1 τ1, fBag f n a c = .inr (g, a1, c1) → PK τ τ1 → PC τ1 f n a1 c1 (3 * o1) → c1 ≤ 40 → o1 + a + c + 1 ≤ o + a1 + c1 → a < a1 → (∀ i, i < 3 * o → tI τ1 75 i = tI τ 75 i) → SgF (tI τ1 75) f n o o1 g → Q (.inl (some (AI 1))) τ1) : G d 12 0 [vR 73, none, none] [] τ Q := by
  have s : ∀ {τ : T2}, FX2 τ → tS τ 73 = (1, 9, 0) := fun F => (s73 F).1
  have n3 := h.2.1.2.2.1
  have han := h.2.2.2.1
  have hT := isS_t han hp
  have lp : ∀ (j : Nat) (τ1 : T2) (W : List (List Int)) (a1 c1 : Nat), W.length + j = 4 → PK τ τ1 → PC τ1 f n a1 c1 (3 * (o + 1 + W.length)) → c1 = c + W.length → c1 ≤ 40 → a + 1 + W.length ≤ a1 → (∀ i, i < 3 * o → tI τ1 75 i = tI τ 75 i) → tI τ1 75 (3 * o) = 3 → (∀ i, i < W.length → okX (tI τ1 75) n (o + 1 + i) ∧ bgC (tI τ1 75) f o i = W.getD i []) → (W.length = 0 → tkS f n a1 = 2) → fBag f n a c = fBl f n j W a1 c1 → G d 12 27 [vR 73, vI ((3 * o : Nat) : Int), vI (W.length : Int)] [] τ1 Q := by
    have fin : ∀ (τ1 : T2) (W : List (List Int)) (a1 c1 : Nat), W.length ≤ 4 → PK τ τ1 → PC τ1 f n a1 c1 (3 * (o + 1 + W.length)) → c1 = c + W.length → c1 ≤ 40 → a + 1 + W.length ≤ a1 → (∀ i, i < 3 * o → tI τ1 75 i = tI τ 75 i) → tI τ1 75 (3 * o) = 3 → (∀ i, i < W.length → okX (tI τ1 75) n (o + 1 + i) ∧ bgC (tI τ1 75) f o i = W.getD i []) → (W.length = 0 → tkS f n a1 = 2) → tkS f n a1 ≠ 2 → fBag f n a c = fBe f n W a1 c1 → G (d - 1) 73 0 [vR 73, vI 93] [] τ1 (KC d 12 88 91 [vR 73, vI ((3 * o : Nat) : Int), vI (W.length : Int)] [] Q) := by
      intro τ1 W a1 c1 hW p1 h1 ec hc1 ha1 o1 q0 qi hz hw he
      have han1 := h1.2.2.2.1
      refine c73 h1.1 h1.2.2.1 (by decide) ?_
      cases hs : isS f n a1 93 with
      | false =>
        refine t12_91 (by omega) (s h1.1) (fun q => absurd rfl q) (fun _ => c76' h1 (fun τ2 p2 F2 x1 x2 => t12_99 (by decide) (k0 (1, tkF f n a1) τ2 ?_ (p1.tr p2) F2 x1 x2)))
        rw [he]
        unfold fBe
        rw [if_neg (by rw [hs]; decide)]
      | true =>
        have hT1 := isS_t han1 hs
        have hW1 : 1 ≤ W.length := by
          rcases Nat.eq_zero_or_pos W.length with y | y
          · exact absurd (hz y) hw
          · exact y
        refine t12_91 (by omega) (s h1.1) (fun _ => ?_) (fun q => absurd q (by decide))
        refine c79 h1 (by omega) (by omega) (fun τ2 p2 h2 o2 w2 => t12_106 (by omega) (s h2.1) ?_)
        refine c68' h2 (by omega) (fun τ3 p3 o3 h3 => t12_110 ?_)
        refine k1 (bgF (fun i => W.getD i []) W.length) (tkT f n a1) c1 (o + 1 + W.length) τ3 ?_ ((p1.tr p2).tr p3) h3 hc1 (by omega) (by omega) (fun i hi => by rw [o3, o2 i (by omega), o1 i hi]) ?_
        · rw [he]
          unfold fBe
          rw [if_pos hs]
        · have e3 : ∀ i, i ≠ 3 * o + 1 → tI τ3 75 i = tI τ1 75 i := fun i hi => by rw [o3, o2 i hi]
          refine SgF_b (by rw [e3 _ (by omega)]; exact q0) (by rw [o3]; exact w2) ⟨hW1, hW⟩ (fun i hi => ?_) (fun i hi => ?_)
          · exact (qi i hi).1.fr (b := o + 2 + i) (by omega) (fun j x y => e3 j (by omega))
          · rw [← (qi i hi).2]
            unfold bgC
            rw [e3 _ (by omega), e3 _ (by omega)]
    intro j
    induction j with
    | zero =>
      intro τ1 W a1 c1 hW p1 h1 ec hc1 ha1 o1 q0 qi hz he
      refine t12_27 (by omega) (s h1.1) (fun q => by omega) (fun _ => c70 h1.1 h1.2.2.1 (fun hw => ?_) (fun hw => ?_))
      · refine t12_36 (by omega) (s h1.1) (fun q => absurd q (by decide)) (fun _ q => by omega) (fun _ _ => c76' h1 (fun τ2 p2 F2 x1 x2 => t12_49 (by decide) (k0 (4, tkF f n a1) τ2 ?_ (p1.tr p2) F2 x1 x2)))
        rw [he]
        unfold fBl
        rw [if_pos hw]
      · refine t12_36 (by omega) (s h1.1) (fun _ => fin τ1 W a1 c1 (by omega) p1 h1 ec hc1 ha1 o1 q0 qi hz hw ?_) (fun q => absurd rfl q) (fun q => absurd rfl q)
        rw [he]
        unfold fBl
        rw [if_neg hw]
    | succ j ih =>
      intro τ1 W a1 c1 hW p1 h1 ec hc1 ha1 o1 q0 qi hz he
      have han1 := h1.2.2.2.1
      simp only [fBl] at he
      refine t12_27 (by omega) (s h1.1) (fun q => by omega) (fun _ => c70 h1.1 h1.2.2.1 (fun hw => ?_) (fun hw => ?_))
      · rw [if_pos hw] at he
        refine t12_36 (by omega) (s h1.1) (fun q => absurd q (by decide)) (fun _ _ => c77' (m := 40) h1 (by omega) (by omega) (fun hc4 τ2 p2 o2 h2 => ?_) (fun hc4 τ2 p2 F2 x1 x2 => ?_)) (fun _ q => by omega)
        · rw [if_pos hc4] at he
          have hT1 := tk_w han1 (show tkS f n a1 ≠ 0 by rw [hw]; decide)
          have hF1 := tkT_le (f := f) (n := n) han1
          refine t12_56 (by omega) (s h2.1) (fun _ => ?_) (fun q => absurd q (by decide))
          rw [h2.2.2.1.1, h2.2.2.1.2.1]
          refine c78' h2 (by omega) (fun τ3 p3 o3 w0 w1 w2 h3 => t12_74 (by omega) (s h3.1) ?_)
          refine c68' h3 (by omega) (fun τ4 p4 o4 h4 => t12_79 (r0 := some 73) ?_)
          have el : (W ++ [tkW f n a1]).length = W.length + 1 := by simp
          rw [wr_nat (by omega), ← el]
          have e4 : ∀ i, i < 3 * (o + 1 + W.length) → tI τ4 75 i = tI τ1 75 i := fun i hi => by rw [o4, o3 i (by omega) (by omega) (by omega), o2]
          refine ih τ4 (W ++ [tkW f n a1]) (tkT f n a1) (c1 + 1) (by omega) (((p1.tr p2).tr p3).tr p4) (by rw [el]; exact h4) (by omega) (by omega) (by omega) (fun i hi => by rw [e4 i (by omega), o1 i hi]) (by rw [e4 _ (by omega)]; exact q0) (fun i hi => ?_) (fun y => by omega) he
          by_cases y : i = W.length
          · subst y
            have v1 : tI τ4 75 (3 * (o + 1 + W.length) + 1) = (tkF f n a1 : Int) := by rw [o4]; exact w1
            have v2 : tI τ4 75 (3 * (o + 1 + W.length) + 2) = (tkT f n a1 : Int) := by rw [o4]; exact w2
            refine ⟨⟨by rw [v1]; omega, by rw [v1, v2]; omega, by rw [v2]; omega⟩, ?_⟩
            unfold bgC
            rw [v1, v2, sbW_tk]
            simp
          · have hi2 : i < W.length := by omega
            obtain ⟨y1, y2⟩ := qi i hi2
            refine ⟨y1.fr (b := o + 2 + i) (by omega) (fun j x z => e4 j (by omega)), ?_⟩
            have eg : (W ++ [tkW f n a1]).getD i [] = W.getD i [] := by
              rw [List.getD_eq_getElem?_getD, List.getD_eq_getElem?_getD, List.getElem?_append_left hi2]
            rw [eg, ← y2]
            unfold bgC
            rw [e4 _ (by omega), e4 _ (by omega)]
        · rw [if_neg hc4] at he
          exact t12_56 (by omega) (s F2) (fun q => absurd rfl q) (fun _ => k0 (4, tkF f n a1) τ2 he (p1.tr p2) F2 x1 x2)
      · rw [if_neg hw] at he
        exact t12_36 (by omega) (s h1.1) (fun _ => fin τ1 W a1 c1 (by omega) p1 h1 ec hc1 ha1 o1 q0 qi hz hw he) (fun q => absurd rfl q) (fun q => absurd rfl q)
  refine t12_0 (by omega) (s h.1) (c78' h (by omega) (fun τ1 p1 o1 w0 w1 w2 h1 => t12_7 (by omega) (s h1.1) ?_))
  refine c68' h1 (by omega) (fun τ2 p2 o2 h2 => t12_12 (by omega) (s h2.1) (c70 h2.1 h2.2.2.1 (fun hw => ?_) (fun hw => ?_)))
  · refine t12_16 (by omega) (s h2.1) (fun _ => ?_) (fun q => absurd q (by decide))
    refine lp 4 τ2 [] (tkT f n a) c rfl (p1.tr p2) h2 rfl hc (by show a + 1 + 0 ≤ _; omega) (fun i hi => by rw [o2, o1 i (by omega) (by omega) (by omega)]) (by rw [o2]; exact w0) (fun i hi => absurd hi (Nat.not_lt_zero _)) (fun _ => hw) ?_
    unfold fBag
    rw [if_pos hw]
  · refine t12_16 (by omega) (s h2.1) (fun q => absurd rfl q) (fun _ => c76' h2 (fun τ3 p3 F3 x1 x2 => t12_24 (by decide) (k0 (1, tkF f n (tkT f n a)) τ3 ?_ ((p1.tr p2).tr p3) F3 x1 x2)))
    unfold fBag
    rw [if_neg hw]
def NsF (nst : Option (Nat → Nat → PFR)) (f : Nat → Int) (n D v : Nat) (ne : Int) : Prop := (nst = none ∧ ne = 8) ∨ ∃ p, nst = some p ∧ 0 ≤ ne ∧ ne < 8 ∧ SpF p f n D v 0 (fun d τ Q => G d 6 0 [vR 73, vI (ne + 1), none, none, none] [] τ Q)
/-- readNested -/
theorem c10 {nst : Option (Nat → Nat → PFR)} {D : Nat} {ne : Int} (hv : v ≤ 9) (H : NsF nst f n D v ne) (d : Nat) (τ : T2) (Q : RS → T2 → Prop) (a c o : Nat) (hd : D + 2 ≤ d) (hd2 : 5 ≤ d) (h : PC τ f n a c (3 * o)) (hc : c ≤ 40) (ho : o ≤ a + c + v) (hp : isS f n a 40 = true) (k0 : ∀ e τ1, fNs nst f n a c = .inl e → PK τ τ1 → FX2 τ1 → tI τ1 73 6 = e.1 → tI τ1 73 7 = (e.2 : Int) → Q (.inl (some (AI 0))) τ1) (k1 : ∀ g a1 c1 o1 τ1, fNs nst f n a c = .inr (g, a1, c1) → PK τ τ1 → PC τ1 f n a1 c1 (3 * o1) → c1 ≤ 40 → o1 + a + c + 1 ≤ o + a1 + c1 → a < a1 → (∀ i, i < 3 * o → tI τ1 75 i = tI τ 75 i) → SgF (tI τ1 75) f n o o1 g → Q (.inl (some (AI 1))) τ1) : G d 10 0 [vR 73, vI ne, none] [] τ Q := by
  have s : ∀ {τ : T2}, FX2 τ → tS τ 73 = (1, 9, 0) := fun F => (s73 F).1
  have n3 := h.2.1.2.2.1
  have han := h.2.2.2.1
  have hT := isS_t han hp
  rcases H with ⟨e1, e2⟩ | ⟨p, e1, e2, e3, H⟩
  · subst e1 e2
    exact t10_0 (by omega) (s h.1) (fun q => absurd q (by decide)) (fun _ => c76' h (fun τ1 p F1 x1 x2 => t10_11 (by decide) (k0 (4, tkF f n a) τ1 rfl p F1 x1 x2)))
  · subst e1
    refine t10_0 (by omega) (s h.1) (fun _ => c68' h (by omega) (fun τ1 p1 o1 h1 => t10_16 (by omega) (s h1.1) ?_)) (fun q => by omega)
    rw [h1.2.2.2.2.2, show wr (((3 * o : Nat) : Int) + 3) = ((3 * (o + 1) : Nat) : Int) from add_n (y := 3) (by omega)]
    refine c78' h1 (by omega) (fun τ2 p2 o2 w0 w1 w2 h2 => t10_28 (r0 := some 73) (by omega) ?_)
    rw [wr_id (show okI (ne + 1) by unfold okI; omega)]
    refine H (d - 1) τ2 _ (tkT f n a) c (o + 1) (by omega) h2 hc (by omega) (fun e τ3 he p3 F3 x1 x2 => ?_) (fun g a3 c3 m τ3 he p3 h3 hc3 hm ha3 o3 sg => ?_)
    · refine t10_36 (by omega) (s F3) (fun q => absurd rfl q) (fun _ => k0 e τ3 ?_ ((p1.tr p2).tr p3) F3 x1 x2)
      unfold fNs
      simp only [he]
    · have han3 := h3.2.2.2.1
      have hns : fNs (some p) f n a c = fNe f n g a3 c3 := by
        unfold fNs
        simp only [he]
      have v0 : tI τ3 75 (3 * o) = 4 := by rw [o3 _ (by omega)]; exact w0
      have v1 : tI τ3 75 (3 * o + 1) = ((3 * (o + 1) : Nat) : Int) := by rw [o3 _ (by omega)]; exact w1
      have kp3 : ∀ i, i < 3 * o → tI τ3 75 i = tI τ 75 i := fun i hi => by rw [o3 i (by omega), o2 i (by omega) (by omega) (by omega), o1]
      have sl := sg.1
      refine t10_36 (by omega) (s h3.1) (fun _ => c73 h3.1 h3.2.2.1 (by decide) ?_) (fun q => absurd q (by decide))
      cases hs : isS f n a3 41 with
      | false =>
        refine t10_47 (by omega) (s h3.1) (fun q => absurd rfl q) (fun _ => c76' h3 (fun τ4 p4 F4 x1 x2 => t10_55 (by decide) (k0 (1, tkF f n a3) τ4 ?_ (((p1.tr p2).tr p3).tr p4) F4 x1 x2)))
        rw [hns]
        unfold fNe
        rw [if_neg (by rw [hs]; decide)]
      | true =>
        have hT3 := isS_t han3 hs
        refine t10_47 (by omega) (s h3.1) (fun _ => c68' h3 (by omega) (fun τ4 p4 o4 h4 => t10_60 (by omega) (s h4.1) (c73 h4.1 h4.2.2.1 (by decide) ?_))) (fun q => absurd q (by decide))
        cases hs4 : isS f n (tkT f n a3) 63 with
        | false =>
          refine t10_66 (by omega) (s h4.1) (fun _ => ?_) (fun q => absurd rfl q)
          refine k1 g (tkT f n a3) c3 m τ4 ?_ (((p1.tr p2).tr p3).tr p4) h4 hc3 (by omega) (by omega) (fun i hi => by rw [o4, kp3 i hi]) (SgF_n (by rw [o4]; exact v0) (by rw [o4]; exact v1) (sg.fr (fun i _ _ => o4 i)) (by omega))
          rw [hns]
          unfold fNe
          rw [if_pos hs, if_neg (by rw [hs4]; decide)]
        | true =>
          have hT4 := isS_t h4.2.2.2.1 hs4
          refine t10_66 (by omega) (s h4.1) (fun q => absurd q (by decide)) (fun _ => ?_)
          rw [h4.2.2.2.2.2]
          refine c79 h4 (by omega) (by omega) (fun τ5 p5 h5 o5 w5 => t10_78 (by omega) (s h5.1) ?_)
          refine c68' h5 (by omega) (fun τ6 p6 o6 h6 => t10_82 ?_)
          refine k1 (myF g) (tkT f n (tkT f n a3)) c3 m τ6 ?_ (((((p1.tr p2).tr p3).tr p4).tr p5).tr p6) h6 hc3 (by omega) (by omega) (fun i hi => by rw [o6, o5 i (by omega), o4, kp3 i hi]) (SgF_q (by rw [o6, o5 _ (by omega), o4]; exact v0) (by rw [o6]; exact w5) (sg.fr (fun i x _ => by rw [o6, o5 i (by omega), o4])) (by omega))
          rw [hns]
          unfold fNe
          rw [if_pos hs, if_pos hs4]
/-- readPart -/
theorem c9 {nst : Option (Nat → Nat → PFR)} {D : Nat} {ne : Int} (hv : v ≤ 9) (H : NsF nst f n D v ne) (hD : 25 ≤ D) : SpF (fPt nst f n) f n (D + 3) v 1 (fun d τ Q => G d 9 0 [vR 73, vI ne] [] τ Q) := by
  intro d τ Q a c o hd h hc ho k0 k1
  have s : ∀ {τ : T2}, FX2 τ → tS τ 73 = (1, 9, 0) := fun F => (s73 F).1
  refine t9_0 (by omega) (s h.1) (c73 h.1 h.2.2.1 (by decide) ?_)
  cases hs : isS f n a 40 with
  | true =>
    have e : fPt nst f n a c = fNs nst f n a c := by unfold fPt; rw [if_pos hs]
    rw [e] at k0 k1
    exact t9_6 (by omega) (s h.1) (fun q => absurd q (by decide)) (fun _ => c10 hv H (d - 1) τ _ a c o (by omega) (by omega) h hc ho hs (fun e τ1 he p F1 x1 x2 => t9_14 (by decide) (k0 e τ1 he p F1 x1 x2)) (fun g a1 c1 o1 τ1 he p h1 x1 x2 x3 x4 sg => t9_14 (by decide) (k1 g a1 c1 o1 τ1 he p h1 x1 x2 x3 x4 sg)))
  | false =>
    refine t9_6 (by omega) (s h.1) (fun _ => c73 h.1 h.2.2.1 (by decide) ?_) (fun q => absurd rfl q)
    cases hs2 : isS f n a 91 with
    | true =>
      have e : fPt nst f n a c = fBag f n a c := by unfold fPt; rw [if_neg (by rw [hs]; decide), if_pos hs2]
      rw [e] at k0 k1
      exact t9_21 (r0 := some 73) (by omega) (fun q => absurd q (by decide)) (fun _ => c12 hv (d - 1) τ _ a c o (by omega) h hc ho hs2 (fun e τ1 he p F1 x1 x2 => t9_28 (by decide) (k0 e τ1 he p F1 x1 x2)) (fun g a1 c1 o1 τ1 he p h1 x1 x2 x3 x4 sg => t9_28 (by decide) (k1 g a1 c1 o1 τ1 he p h1 x1 x2 x3 x4 sg)))
    | false =>
      have e : fPt nst f n a c = fWd f n a c := by unfold fPt; rw [if_neg (by rw [hs]; decide), if_neg (by rw [hs2]; decide)]
      rw [e] at k0 k1
      exact t9_21 (r0 := some 73) (by omega) (fun _ => c11 hv (d - 1) τ _ a c o (by omega) h hc ho (fun e τ1 he p F1 x1 x2 => t9_35 (by decide) (k0 e τ1 he p F1 x1 x2)) (fun g a1 c1 o1 τ1 he p h1 x1 x2 x3 x4 sg => t9_35 (by decide) (k1 g a1 c1 o1 τ1 he p h1 x1 x2 x3 x4 sg))) (fun q => absurd rfl q)
/-- beginsPart -/
theorem c8 {d : Nat} {τ : T2} {Q : RS → T2 → Prop} {a c z : Nat} (h : PC τ f n a c z) (hd : 2 ≤ d) (k1 : fBeg f n a = true → Q (.inl (some (AI 1))) τ) (k0 : fBeg f n a = false → Q (.inl (some (AI 0))) τ) : G d 8 0 [vR 73] [] τ Q := by
  have s : ∀ {τ : T2}, FX2 τ → tS τ 73 = (1, 9, 0) := fun F => (s73 F).1
  unfold fBeg at k0 k1
  refine t8_0 (by omega) (s h.1) (c70 h.1 h.2.2.1 (fun hw => ?_) (fun hw => ?_))
  · rw [decide_eq_true hw] at k1
    exact t8_4 (by omega) (s h.1) (fun _ => k1 rfl) (fun q => absurd q (by decide))
  · rw [decide_eq_false hw] at k0 k1
    refine t8_4 (by omega) (s h.1) (fun q => absurd rfl q) (fun _ => c73 h.1 h.2.2.1 (by decide) ?_)
    cases hs : isS f n a 40 with
    | true =>
      rw [hs] at k1
      exact t8_13 (by omega) (s h.1) (fun _ => k1 rfl) (fun q => absurd q (by decide))
    | false =>
      rw [hs] at k0 k1
      refine t8_13 (by omega) (s h.1) (fun q => absurd rfl q) (fun _ => c73 h.1 h.2.2.1 (by decide) ?_)
      cases hs2 : isS f n a 91 with
      | true =>
        rw [hs2] at k1
        exact t8_22 (fun q => absurd q (by decide)) (fun _ => k1 rfl)
      | false =>
        rw [hs2] at k0
        exact t8_22 (fun _ => k0 rfl) (fun q => absurd rfl q)
/-- readRow -/
theorem c7 {p : Nat → Nat → PFR} {D : Nat} {ne : Int} (hv : v ≤ 9) (hD : 20 ≤ D) (H : SpF p f n D v 1 (fun d τ Q => G d 9 0 [vR 73, vI ne] [] τ Q)) : SpF (fRow p f n) f n (D + 1) v 1 (fun d τ Q => G d 7 0 [vR 73, vI ne, none] [] τ Q) := by
  intro d τ Q a c o hd h hc ho k0 k1
  have lp : ∀ (j : Nat) (τ1 : T2) (g : FTr) (a1 c1 m : Nat), j ≤ 300 → PK τ τ1 → PC τ1 f n a1 c1 (3 * m) → c1 ≤ 40 → m + a + c + 1 ≤ o + a1 + c1 → a < a1 → (∀ i, i < 3 * o → tI τ1 75 i = tI τ 75 i) → SgF (tI τ1 75) f n o m g → fRow p f n a c = fRl p f n j g a1 c1 → G d 7 12 [vR 73, vI ne, vI ((300 - j : Nat) : Int)] [] τ1 Q := by
    intro j
    induction j with
    | zero =>
      intro τ1 g a1 c1 m hj p1 h1 hc1 hm ha1 o1 sg he
      exact t7_12 (r0 := some 73) (by omega) (fun _ => k1 g a1 c1 m τ1 he p1 h1 hc1 hm ha1 o1 sg) (fun q => by omega)
    | succ j ih =>
      intro τ1 g a1 c1 m hj p1 h1 hc1 hm ha1 o1 sg he
      have n3 := h1.2.1.2.2.1
      have han := h1.2.2.2.1
      simp only [fRl] at he
      refine t7_12 (r0 := some 73) (by omega) (fun q => by omega) (fun _ => c8 h1 (by omega) (fun hb => ?_) (fun hb => ?_))
      · rw [if_pos hb] at he
        refine t7_23 (r0 := some 73) (by omega) (fun q => absurd q (by decide)) (fun _ => ?_)
        refine H (d - 1) τ1 _ a1 c1 m (by omega) h1 hc1 (by omega) (fun e τ2 he2 p2 F2 x1 x2 => ?_) (fun g2 a2 c2 m2 τ2 he2 p2 h2 hc2 hm2 ha2 o2 sg2 => ?_)
        · refine t7_31 (r0 := some 73) (fun q => absurd rfl q) (fun _ => k0 e τ2 ?_ (p1.tr p2) F2 x1 x2)
          rw [he, he2]
        · refine t7_31 (r0 := some 73) (fun _ => ?_) (fun q => absurd q (by decide))
          rw [wr_nat (by omega), show 300 - (j + 1) + 1 = 300 - j by omega]
          refine ih τ2 (sqF g g2) a2 c2 m2 (by omega) (p1.tr p2) h2 hc2 (by omega) (by omega) (fun i hi => by rw [o2 i (by have := sg.1; omega), o1 i hi]) (SgF_s (sg.fr (fun i _ hi => o2 i hi)) sg2) ?_
          rw [he, he2]
      · rw [if_neg (by rw [hb]; decide)] at he
        exact t7_23 (r0 := some 73) (by omega) (fun _ => k1 g a1 c1 m τ1 he p1 h1 hc1 hm ha1 o1 sg) (fun q => absurd rfl q)
  refine t7_0 (r0 := some 73) (by omega) (H (d - 1) τ _ a c o (by omega) h hc ho (fun e τ1 he p1 F1 x1 x2 => ?_) (fun g a1 c1 m τ1 he p1 h1 hc1 hm ha1 o1 sg => ?_))
  · refine t7_5 (r0 := some 73) (fun q => absurd rfl q) (fun _ => k0 e τ1 ?_ p1 F1 x1 x2)
    unfold fRow
    rw [he]
  · refine t7_5 (r0 := some 73) (fun _ => ?_) (fun q => absurd q (by decide))
    refine lp 300 τ1 g a1 c1 m (Nat.le_refl _) p1 h1 hc1 hm ha1 o1 sg ?_
    unfold fRow
    rw [he]
/-- readEither -/
theorem c6 {p : Nat → Nat → PFR} {D : Nat} {ne : Int} (hv : v ≤ 8) (hD : 20 ≤ D) (H : SpF p f n D (v + 1) 1 (fun d τ Q => G d 7 0 [vR 73, vI ne, none] [] τ Q)) : SpF (fEit p f n) f n (D + 1) v 0 (fun d τ Q => G d 6 0 [vR 73, vI ne, none, none, none] [] τ Q) := by
  intro d τ Q a c o hd h hc ho k0 k1
  have s : ∀ {τ : T2}, FX2 τ → tS τ 73 = (1, 9, 0) := fun F => (s73 F).1
  have n30 := h.2.1.2.2.1
  have han0 := h.2.2.2.1
  have lp : ∀ (j : Nat) (τ1 : T2) (gp gr : FTr) (a1 c1 fk m : Nat) (J : List Nat) (x : Int), j ≤ 300 → PK τ τ1 → PC τ1 f n a1 c1 (3 * m) → c1 ≤ 40 → m + a + c ≤ o + a1 + c1 → a < a1 → (∀ i, i < 3 * o → tI τ1 75 i = tI τ 75 i) → PrF (tI τ1 75) f n J o fk gp → JOk (3 * o) J (3 * fk) → ChL (tI τ1 75) J x → tI τ1 75 (3 * fk) = 4 → tI τ1 75 (3 * fk + 1) = ((3 * (fk + 1) : Nat) : Int) → SgF (tI τ1 75) f n (fk + 1) m gr → fEit p f n a c = fEl p f n j (orF gp gr) a1 c1 → G d 6 28 [vR 73, vI ne, vI ((3 * fk : Nat) : Int), vI x, vI ((300 - j : Nat) : Int)] [] τ1 Q := by
    have fin : ∀ (τ1 : T2) (gp gr : FTr) (a1 c1 fk m : Nat) (J : List Nat) (x : Int), PK τ τ1 → PC τ1 f n a1 c1 (3 * m) → c1 ≤ 40 → m + a + c ≤ o + a1 + c1 → a < a1 → (∀ i, i < 3 * o → tI τ1 75 i = tI τ 75 i) → PrF (tI τ1 75) f n J o fk gp → JOk (3 * o) J (3 * fk) → ChL (tI τ1 75) J x → tI τ1 75 (3 * fk) = 4 → tI τ1 75 (3 * fk + 1) = ((3 * (fk + 1) : Nat) : Int) → SgF (tI τ1 75) f n (fk + 1) m gr → fEit p f n a c = .inr (orF gp gr, a1, c1) → G (d - 1) 80 0 [vR 73, vI x, none, none, none] [] τ1 (KC d 6 97 100 [none, none, none, none, none] [] Q) := by
      intro τ1 gp gr a1 c1 fk m J x p1 h1 hc1 hm ha1 o1 pr hj hch f0 f1 sg he
      have n3 := h1.2.1.2.2.1
      have han := h1.2.2.2.1
      have l1 := sg.1
      have l2 := pr.1
      have lt := JOk.lt J hj
      refine c80 h1 (by omega) hch (JOk.mo J hj (by omega)) (fun τ2 p2 h2 o2 v2 => t6_100 ?_)
      have nj : ∀ i, 3 * fk ≤ i → ∀ j ∈ J, i ≠ j + 1 := fun i hi j hj2 => by have := lt j hj2; omega
      refine k1 (orF gp gr) a1 c1 m τ2 he (p1.tr p2) h2 hc1 (by omega) ha1 (fun i hi => ?_) (PrF_f pr (by omega) (fun i _ _ z => o2 i z) v2 (by rw [o2 _ (nj _ (by omega))]; exact f0) (by rw [o2 _ (nj _ (by omega))]; exact f1) (sg.fr (fun i hi _ => o2 i (nj i (by omega)))))
      rw [o2 i (fun j hj2 => by have := lt j hj2; omega), o1 i hi]
    intro j
    induction j with
    | zero =>
      intro τ1 gp gr a1 c1 fk m J x hj3 p1 h1 hc1 hm ha1 o1 pr hj hch f0 f1 sg he
      exact t6_28 (by omega) (s h1.1) (fun _ => fin τ1 gp gr a1 c1 fk m J x p1 h1 hc1 hm ha1 o1 pr hj hch f0 f1 sg he) (fun q => by omega)
    | succ j ih =>
      intro τ1 gp gr a1 c1 fk m J x hj3 p1 h1 hc1 hm ha1 o1 pr hj hch f0 f1 sg he
      have n3 := h1.2.1.2.2.1
      have han := h1.2.2.2.1
      have l1 := sg.1
      have l2 := pr.1
      have lt := JOk.lt J hj
      simp only [fEl] at he
      refine t6_28 (by omega) (s h1.1) (fun q => by omega) (fun _ => c73 h1.1 h1.2.2.1 (by decide) ?_)
      cases hs : isS f n a1 47 with
      | false =>
        rw [if_neg (by rw [hs]; decide)] at he
        exact t6_42 (by omega) (s h1.1) (fun _ => fin τ1 gp gr a1 c1 fk m J x p1 h1 hc1 hm ha1 o1 pr hj hch f0 f1 sg he) (fun q => absurd rfl q)
      | true =>
        rw [if_pos hs] at he
        have hT := isS_t han hs
        refine t6_42 (by omega) (s h1.1) (fun q => absurd q (by decide)) (fun _ => ?_)
        refine c78' h1 (by omega) (fun τ2 p2 o2 w0 w1 w2 h2 => t6_52 (by omega) (s h2.1) ?_)
        rw [h2.2.2.2.2.2]
        refine c79 h2 (by omega) (by omega) (fun τ3 p3 h3 o3 w3 => t6_62 (by omega) (s h3.1) ?_)
        rw [h3.2.2.2.2.2, show wr (((3 * m + 3 : Nat) : Int) + 3) = ((3 * (m + 1 + 1) : Nat) : Int) from add_n (y := 3) (by omega)]
        refine c78' h3 (by omega) (fun τ4 p4 o4 w40 w41 w42 h4 => t6_74 (by omega) (s h4.1) ?_)
        refine c68' h4 (by omega) (fun τ5 p5 o5 h5 => t6_79 (r0 := some 73) (by omega) ?_)
        refine H (d - 1) τ5 _ (tkT f n a1) c1 (m + 2) (by omega) h5 hc1 (by omega) (fun e τ6 he6 p6 F6 x1 x2 => ?_) (fun g6 a6 c6 m6 τ6 he6 p6 h6 hc6 hm6 ha6 o6 sg6 => ?_)
        · refine t6_84 (r0 := some 73) (fun q => absurd rfl q) (fun _ => k0 e τ6 ?_ (((((p1.tr p2).tr p3).tr p4).tr p5).tr p6) F6 x1 x2)
          rw [he, he6]
        · refine t6_84 (r0 := some 73) (fun _ => ?_) (fun q => absurd q (by decide))
          rw [wr_nat (by omega), show 300 - (j + 1) + 1 = 300 - j by omega]
          have keep : ∀ i, i < 3 * m → i ≠ 3 * fk + 1 → tI τ6 75 i = tI τ1 75 i := fun i hi hi2 => by rw [o6 i (by omega), o5, o4 i (by omega) (by omega) (by omega), o3 i hi2, o2 i (by omega) (by omega) (by omega)]
          have e0 : tI τ6 75 (3 * m) = 5 := by rw [o6 _ (by omega), o5, o4 _ (by omega) (by omega) (by omega), o3 _ (by omega)]; exact w0
          have e1 : tI τ6 75 (3 * m + 1) = x := by rw [o6 _ (by omega), o5, o4 _ (by omega) (by omega) (by omega), o3 _ (by omega)]; exact w1
          have ef : tI τ6 75 (3 * fk + 1) = ((3 * (m + 1) : Nat) : Int) := by rw [o6 _ (by omega), o5, o4 _ (by omega) (by omega) (by omega)]; exact w3
          have g0 : tI τ6 75 (3 * (m + 1)) = 4 := by rw [o6 _ (by omega), o5]; exact w40
          have g1 : tI τ6 75 (3 * (m + 1) + 1) = ((3 * (m + 1 + 1) : Nat) : Int) := by rw [o6 _ (by omega), o5]; exact w41
          refine ih τ6 (orF gp gr) g6 a6 c6 (m + 1) m6 (3 * m :: J) ((3 * m : Nat) : Int) (by omega) (((((p1.tr p2).tr p3).tr p4).tr p5).tr p6) h6 hc6 (by omega) (by omega) (fun i hi => by rw [keep i (by omega) (by omega), o1 i hi]) (PrF_s (pr.fr (fun i _ hi => keep i (by omega) (by omega))) hj (by rw [keep _ (by omega) (by omega)]; exact f0) ef (sg.fr (fun i hi hi2 => keep i hi2 (by omega))) e0) ⟨by omega, by omega, JOk.mo J hj (by omega)⟩ ⟨rfl, ?_⟩ g0 g1 sg6 ?_
          · rw [e1]
            exact ChL.fr J hch hj (fun i _ hi => keep i (by omega) (by omega))
          · rw [he, he6]
  refine t6_0 (by omega) (s h.1) ?_
  rw [h.2.2.2.2.2, show wr (((3 * o : Nat) : Int) + 3) = ((3 * (o + 1) : Nat) : Int) from add_n (y := 3) (by omega)]
  refine c78' h (by omega) (fun τ1 p1 o1 w0 w1 w2 h1 => t6_12 (r0 := some 73) (by omega) ?_)
  refine H (d - 1) τ1 _ a c (o + 1) (by omega) h1 hc (by omega) (fun e τ2 he p2 F2 x1 x2 => ?_) (fun g a2 c2 m τ2 he p2 h2 hc2 hm ha2 o2 sg => ?_)
  · refine t6_18 (r0 := some 73) (fun q => absurd rfl q) (fun _ => k0 e τ2 ?_ (p1.tr p2) F2 x1 x2)
    unfold fEit
    rw [he]
  · refine t6_18 (r0 := some 73) (fun _ => ?_) (fun q => absurd q (by decide))
    refine lp 300 τ2 nnF g a2 c2 o m [] (-1) (Nat.le_refl _) (p1.tr p2) h2 hc2 (by omega) ha2 (fun i hi => by rw [o2 i (by omega), o1 i (by omega) (by omega) (by omega)]) PrF_0 trivial rfl (by rw [o2 _ (by omega)]; exact w0) (by rw [o2 _ (by omega)]; exact w1) sg ?_
    unfold fEit
    rw [he, orF_nn]
/-- all that a form nests -/
theorem cFor : ∀ k, k ≤ 8 → SpF (fFor f n k) f n (30 + 6 * k) (8 - k) 0 (fun d τ Q => G d 6 0 [vR 73, vI (8 - (k : Int)), none, none, none] [] τ Q) := by
  intro k
  induction k with
  | zero =>
    intro _
    have H : NsF none f n 25 9 8 := Or.inl ⟨rfl, rfl⟩
    have := c6 (v := 8) (by omega) (by omega) (c7 (by omega) (by omega) (c9 (by omega) H (by omega)))
    exact fun d τ Q a c o hd => this d τ Q a c o (by omega)
  | succ k ih =>
    intro hk
    have H : NsF (some (fFor f n k)) f n (30 + 6 * k) (8 - (k + 1) + 1) (8 - ((k + 1 : Nat) : Int)) := by
      refine Or.inr ⟨fFor f n k, rfl, by omega, by omega, ?_⟩
      rw [show (8 - ((k + 1 : Nat) : Int)) + 1 = 8 - (k : Int) by omega, show 8 - (k + 1) + 1 = 8 - k by omega]
      exact ih (by omega)
    have := c6 (v := 8 - (k + 1)) (by omega) (by omega) (c7 (by omega) (by omega) (c9 (by omega) H (by omega)))
    exact fun d τ Q a c o hd => this d τ Q a c o (by omega)
/-- read of a form -/
theorem rdC_form : RdC (pForm f n) (fun o z g => ∃ m, z = 3 * m ∧ m ≤ 349 ∧ SgF o f n 0 m g) f n (fun d τ Q => G d 5 0 [vR 73] [] τ Q) := by
  intro d τ Q hd h k0 k1
  have s : ∀ {τ : T2}, FX2 τ → tS τ 73 = (1, 9, 0) := fun F => (s73 F).1
  refine t5_0 (r0 := some 73) (by omega) ?_
  have := cFor (f := f) (n := n) 8 (by omega)
  refine this (d - 1) τ _ 0 0 0 (by omega) h (by omega) (by omega) (fun e τ1 he p1 F1 x1 x2 => ?_) (fun g a1 c1 m τ1 he p1 h1 hc1 hm ha1 o1 sg => ?_)
  · refine t5_5 (by omega) (s F1) (fun _ => k0 e τ1 ?_ p1 F1 x1 x2) (fun q => absurd rfl q)
    unfold pForm
    rw [he]
  · have n3 := h1.2.1.2.2.1
    have han := h1.2.2.2.1
    refine t5_5 (by omega) (s h1.1) (fun q => absurd q (by decide)) (fun _ => c75' h1 (by omega) (fun q => ?_) (fun q τ2 p2 F2 x1 x2 => ?_))
    · refine t5_12 (fun y => absurd y (by decide)) (fun _ => k1 g a1 c1 (3 * m) τ1 ?_ p1 h1 (by omega) ⟨m, rfl, by omega, sg⟩)
      unfold pForm
      rw [he]
      exact if_pos q
    · refine t5_12 (fun _ => k0 (1, tkF f n a1) τ2 ?_ (p1.tr p2) F2 x1 x2) (fun y => absurd rfl y)
      unfold pForm
      rw [he]
      exact if_neg q
end RDF
