/-! FORMS read by the model: readPart, all of it -/
section RMB
variable {f : Nat → Int} {n : Nat}
/-- words in [ ] -/
theorem m190b {d : Nat} {τ τ2 : T2} {Q : RS → T2 → Prop} {a c dp p DE KP : Nat} (hpN : p = tN τ) (N : 473 ≤ p) (hd : 20 ≤ d) (hDE : 20 ≤ DE) (hK : 5 ≤ KP) (o2 : OC PFM τ τ2) (h2 : PMf τ2 f n a c dp) (n2 : tN τ2 = p + 2) (z2 : tZ τ2 = tZ τ + 9) (sp : tS τ2 p = (1, 14, 0)) (ss : tS τ2 (p + 1) = (2, 3, 4)) (zi : ∀ k, tI τ2 p k = 0) (zp1 : tP τ2 p 1 = none) (zp2 : tP τ2 p 2 = some (p + 1)) (hs0 : isS f n a 91 = true) (kf : FlN (fBag f n a c) n a KP 9 τ Q) (ks : ∀ g a1 c1 τ1 r, fBag f n a c = .inr (g, a1, c1) → OC PFM τ τ1 → PMf τ1 f n a1 c1 dp → a < a1 → c < c1 → 2 * tN τ1 + 2 ≤ 2 * tN τ + 7 * (a1 - a) → tZ τ1 + 12 ≤ tZ τ + 24 * (a1 - a) → PtM (Rg (tN τ) (tN τ1)) τ1 DE r g (a1 - a) → Q (.inl (some (AR r))) τ1) : G d 190 127 [vR 220, vR p, none] [AI 1] τ2 Q := by
  have F2 := h2.1.1
  have han := h2.1.2.2.2
  have hT := isS_t han hs0
  have thr : ∀ (τ1 : T2) (a1 c1 : Nat) (x : Int), OC PFM τ τ1 → PMf τ1 f n a1 c1 dp → tN τ1 = p + 2 → tZ τ1 = tZ τ + 9 → fBag f n a c = .inl (x, tkF f n a1) → ∀ (pc pc1 : Nat), (∀ τ5, FX2 τ5 → Q (.inr 225) τ5 → G d 190 pc1 [none, none, none] [AR 225] τ5 Q) → G (d - 1) 172 0 [vR 220, vI x] [] τ1 (KC d 190 pc pc1 [none, none, none] [] Q) := fun τ1 a1 c1 x o1 h1 n1 z1 he pc pc1 kt => m172' h1.1 (fun τ5 o5 F5 n5 z5 x1 x2 => kt τ5 F5 (kf (x, tkF f n a1) τ5 he (o1.tr (o5.mo fun a k z => by unfold PFM; omega)) F5 (by omega) (by omega) x1 x2))
  have lp : ∀ (j : Nat) (τ1 : T2) (W : List (List Int)) (a1 c1 : Nat), W.length + j = 4 → OC PFM τ τ1 → PMf τ1 f n a1 c1 dp → c1 = c + W.length → a + 1 + W.length ≤ a1 → tN τ1 = p + 2 → tZ τ1 = tZ τ + 9 → tS τ1 p = (1, 14, 0) → tS τ1 (p + 1) = (2, 3, 4) → tI τ1 p 3 = (W.length : Int) → tI τ1 p 4 = 0 → tP τ1 p 1 = none → tP τ1 p 2 = some (p + 1) → (∀ i, i < W.length → tI τ1 (p + 1) i = wen (W.getD i []) ∧ okWd (W.getD i [])) → (tkS f n a1 = 2 → fBag f n a c = fBl f n j W a1 c1) → (tkS f n a1 ≠ 2 → fBag f n a c = .inl (1, tkF f n a1)) → G d 190 136 [vR 220, vR p, vI 1] [] τ1 Q := by
    intro j
    induction j with
    | zero =>
      intro τ1 W a1 c1 hW o1 h1 ec ha1 n1 z1 s1 s1' i3 i4 p1 p2 hv e2 e0
      have F1 := h1.1.1
      have so := h1.1.2.2.1.so 2 (Or.inl rfl)
      refine t190_136 (q7 := p + 1) (n9 := 4) (by omega) (F1.sh rfl (by omega) (by omega)) s1 p2 s1' (fun _ _ q => by rw [i3] at q; omega) (fun q => absurd q (by decide)) (fun _ q _ => ?_) (fun _ _ q => by rw [i3] at q; omega) (fun _ _ q => by rw [i3] at q; omega) (fun _ q => ?_)
      · have hw := so.mp q
        refine thr τ1 a1 c1 4 o1 h1 n1 z1 ?_ _ _ (fun τ5 F5 q5 => t190_176 (by omega) (s225 F5) q5)
        rw [e2 hw]
        unfold fBl
        rw [if_pos hw]
      · exact thr τ1 a1 c1 1 o1 h1 n1 z1 (e0 (fun y => q (so.mpr y))) _ _ (fun τ5 F5 q5 => t190_153 (by omega) (s225 F5) q5)
    | succ j ih =>
      intro τ1 W a1 c1 hW o1 h1 ec ha1 n1 z1 s1 s1' i3 i4 p1 p2 hv e2 e0
      have F1 := h1.1.1
      have han1 := h1.1.2.2.2
      have so := h1.1.2.2.1.so 2 (Or.inl rfl)
      have hc := h1.2.1
      have hc4 := h1.2.2.1
      have i3' : ∀ x : Int, tI (uI τ1 220 26 x) p 3 = (W.length : Int) := fun x => by rw [tI_uI, if_neg (by omega)]; exact i3
      refine t190_136 (q7 := p + 1) (n9 := 4) (by omega) (F1.sh rfl (by omega) (by omega)) s1 p2 s1' (fun _ _ _ _ => by rw [i3']; omega) (fun q => absurd q (by decide)) (fun _ _ q => by rw [i3] at q; omega) (fun _ q _ q40 τ12 hτ => ?_) (fun _ q _ q40 => ?_) (fun _ q => ?_)
      · have hw := so.mp q
        have c40 : c1 < 40 := by omega
        have he := e2 hw
        simp only [fBl] at he
        rw [if_pos hw, if_pos c40] at he
        have ew : tI τ1 220 22 = wen (tkW f n a1) := (h1.1.2.2.1.2.2.2.2.1 hw).2
        have hT1 := tk_w han1 (show tkS f n a1 ≠ 0 by rw [hw]; decide)
        rw [show wr (tI τ1 220 26 + 1) = ((c1 + 1 : Nat) : Int) by rw [hc]; exact wr_nat (by omega), i3', Int.toNat_natCast, show tI (uI τ1 220 26 ((c1 + 1 : Nat) : Int)) 220 22 = wen (tkW f n a1) by rw [tI_uI, if_neg (by omega)]; exact ew, show tI (uI (uI τ1 220 26 ((c1 + 1 : Nat) : Int)) (p + 1) W.length (wen (tkW f n a1))) p 3 = (W.length : Int) by rw [tI_uI, if_neg (by omega)]; exact i3' _, show wr ((W.length : Int) + 1) = ((W.length + 1 : Nat) : Int) from wr_nat (by omega)] at hτ
        have hcc := h1.c (c1 := c1 + 1) (by omega)
        have oc3 : OC (fun b _ => b = p ∨ b = p + 1) (uI τ1 220 26 ((c1 + 1 : Nat) : Int)) (uI (uI (uI τ1 220 26 ((c1 + 1 : Nat) : Int)) (p + 1) W.length (wen (tkW f n a1))) p 3 ((W.length + 1 : Nat) : Int)) := OC.j (P := fun b _ => b = p ∨ b = p + 1) (OC.j (P := fun b _ => b = p ∨ b = p + 1) OC.rf (Or.inr rfl)) (Or.inl rfl)
        have h3 : PMf (uI (uI (uI τ1 220 26 ((c1 + 1 : Nat) : Int)) (p + 1) W.length (wen (tkW f n a1))) p 3 ((W.length + 1 : Nat) : Int)) f n a1 (c1 + 1) dp := hcc.oc hcc.1.1.j.j oc3 (fun b k z => by omega)
        have o3 : OC PFM τ (uI (uI (uI τ1 220 26 ((c1 + 1 : Nat) : Int)) (p + 1) W.length (wen (tkW f n a1))) p 3 ((W.length + 1 : Nat) : Int)) := ((o1.j (by unfold PFM; omega)).jn (by omega)).jn (by omega)
        have q3 : tI (uI (uI (uI τ1 220 26 ((c1 + 1 : Nat) : Int)) (p + 1) W.length (wen (tkW f n a1))) p 3 ((W.length + 1 : Nat) : Int)) p 3 = ((W.length + 1 : Nat) : Int) := by rw [tI_uI, if_pos ⟨rfl, rfl⟩]
        have q4 : tI (uI (uI (uI τ1 220 26 ((c1 + 1 : Nat) : Int)) (p + 1) W.length (wen (tkW f n a1))) p 3 ((W.length + 1 : Nat) : Int)) p 4 = 0 := by rw [tI_uI, if_neg (by omega), tI_uI, if_neg (by omega), tI_uI, if_neg (by omega)]; exact i4
        have qv : ∀ i, tI (uI (uI (uI τ1 220 26 ((c1 + 1 : Nat) : Int)) (p + 1) W.length (wen (tkW f n a1))) p 3 ((W.length + 1 : Nat) : Int)) (p + 1) i = if i = W.length then wen (tkW f n a1) else tI τ1 (p + 1) i := fun i => by
          rw [tI_uI, if_neg (by omega), tI_uI]
          by_cases y : i = W.length
          · rw [if_pos ⟨rfl, y⟩, if_pos y]
          · rw [if_neg (fun z => y z.2), if_neg y, tI_uI, if_neg (by omega)]
        rw [hτ] at h3 o3 q3 q4 qv
        have sA : tS τ12 = tS τ1 := by rw [← hτ]; rfl
        have pA : tP τ12 = tP τ1 := by rw [← hτ]; rfl
        have nA : tN τ12 = p + 2 := by rw [← hτ]; exact n1
        have zA : tZ τ12 = tZ τ + 9 := by rw [← hτ]; exact z1
        clear hτ oc3 hcc
        refine m177' h3.1 (by rw [hw]; decide) (by omega) (fun τ4 o4 F4 n4 z4 h4 => t190_214 (r1 := some p) (by omega) (F4.sh rfl (by omega) (by omega)) ?_)
        have h4' := h3.nx o4 h4
        have o4' : OC PFM τ τ4 := o3.tr (o4.mo fun _ _ z => NXM_F z)
        have cel : ∀ b k, b = p ∨ b = p + 1 → tI τ4 b k = tI τ12 b k ∧ tP τ4 b k = tP τ12 b k := fun b k hb => o4.2.2.2 b k (by omega) (by unfold NXM; omega)
        have s4 : tS τ4 p = (1, 14, 0) := by rw [o4.2.2.1 p (by omega), sA]; exact s1
        have s4' : tS τ4 (p + 1) = (2, 3, 4) := by rw [o4.2.2.1 (p + 1) (by omega), sA]; exact s1'
        have el : (W ++ [tkW f n a1]).length = W.length + 1 := by simp
        have v3 : tI τ4 p 3 = ((W ++ [tkW f n a1]).length : Int) := by rw [(cel p 3 (Or.inl rfl)).1, q3, el]
        have v4 : tI τ4 p 4 = 0 := by rw [(cel p 4 (Or.inl rfl)).1]; exact q4
        have w1 : tP τ4 p 1 = none := by rw [(cel p 1 (Or.inl rfl)).2, pA]; exact p1
        have w2 : tP τ4 p 2 = some (p + 1) := by rw [(cel p 2 (Or.inl rfl)).2, pA]; exact p2
        have vv : ∀ i, i < (W ++ [tkW f n a1]).length → tI τ4 (p + 1) i = wen ((W ++ [tkW f n a1]).getD i []) ∧ okWd ((W ++ [tkW f n a1]).getD i []) := fun i hi => by
          rw [el] at hi
          rw [(cel (p + 1) i (Or.inr rfl)).1, qv i]
          by_cases y : i = W.length
          · rw [if_pos y, y]
            have eg : (W ++ [tkW f n a1]).getD W.length [] = tkW f n a1 := by simp
            rw [eg]
            exact ⟨rfl, okWd_tk hw⟩
          · have eg : (W ++ [tkW f n a1]).getD i [] = W.getD i [] := by
              rw [List.getD_eq_getElem?_getD, List.getD_eq_getElem?_getD, List.getElem?_append_left (by omega)]
            rw [if_neg y, eg]
            exact hv i (by omega)
        refine m180 F4 h4'.1.2.2.1 ?_
        cases hs : isS f n (tkT f n a1) 93 with
        | false =>
          refine t190_220 (r1 := some p) (fun q => absurd rfl q) (fun _ => ?_)
          refine ih τ4 (W ++ [tkW f n a1]) (tkT f n a1) (c1 + 1) (by omega) o4' h4' (by omega) (by omega) (by omega) (by omega) s4 s4' v3 v4 w1 w2 vv (fun _ => he) (fun hn2 => ?_)
          rw [he]
          cases j with
          | zero => unfold fBl; rw [if_neg hn2]; unfold fBe; rw [if_neg (by rw [hs]; decide)]
          | succ j => unfold fBl; rw [if_neg hn2]; unfold fBe; rw [if_neg (by rw [hs]; decide)]
        | true =>
          have hn2 : tkS f n (tkT f n a1) ≠ 2 := by rw [isS_s hs]; decide
          have hres : fBag f n a c = .inr (bgF (fun i => (W ++ [tkW f n a1]).getD i []) (W ++ [tkW f n a1]).length, tkT f n (tkT f n a1), c1 + 1) := by
            rw [he]
            cases j with
            | zero => unfold fBl; rw [if_neg hn2]; unfold fBe; rw [if_pos hs]
            | succ j => unfold fBl; rw [if_neg hn2]; unfold fBe; rw [if_pos hs]
          have hT4 := isS_t h4'.1.2.2.2 hs
          refine t190_220 (r1 := some p) (fun _ => ?_) (fun q => absurd q (by decide))
          refine t190_136 (q7 := p + 1) (n9 := 4) (by omega) (F4.sh rfl (by omega) (by omega)) s4 w2 s4' (fun q => absurd rfl q) (fun _ => ?_) (fun q => absurd rfl q) (fun q => absurd rfl q) (fun q => absurd rfl q) (fun q => absurd rfl q)
          refine m177' h4'.1 (by rw [isS_s hs]; decide) (by omega) (fun τ5 o5 F5 n5 z5 h5 => t190_236 (r1 := some p) ?_)
          have h5' := h4'.nx o5 h5
          have cel5 : ∀ b k, b = p ∨ b = p + 1 → tI τ5 b k = tI τ4 b k ∧ tP τ5 b k = tP τ4 b k := fun b k hb => o5.2.2.2 b k (by omega) (by unfold NXM; omega)
          refine ks _ _ _ τ5 p hres (o4'.tr (o5.mo fun _ _ z => NXM_F z)) h5' (by omega) (by omega) (by omega) (by omega) ?_
          have hsv := W.length
          have := PtM_b (R := Rg (tN τ) (tN τ5)) (τ := τ5) (p := p) (ps := p + 1) (k := (W ++ [tkW f n a1]).length) (W := fun i => (W ++ [tkW f n a1]).getD i []) ⟨by omega, by omega⟩ ⟨by omega, by omega⟩ (by rw [o5.2.2.1 p (by omega)]; exact s4) (by rw [(cel5 p 1 (Or.inl rfl)).2]; exact w1) (by rw [(cel5 p 2 (Or.inl rfl)).2]; exact w2) (by rw [(cel5 p 3 (Or.inl rfl)).1]; exact v3) (by rw [(cel5 p 4 (Or.inl rfl)).1]; exact v4) (by rw [o5.2.2.1 (p + 1) (by omega)]; exact s4') ⟨by omega, by omega⟩ (fun i hi => by rw [(cel5 (p + 1) i (Or.inr rfl)).1]; exact vv i hi)
          exact (this.mo (fun _ z => z) (fun b hb => ⟨hb.2, rfl, rfl, rfl⟩) hDE).w (by omega)
      · have hw := so.mp q
        refine thr τ1 a1 c1 4 o1 h1 n1 z1 ?_ _ _ (fun τ5 F5 q5 => t190_176 (by omega) (s225 F5) q5)
        rw [e2 hw]
        unfold fBl
        rw [if_pos hw, if_neg (by omega)]
      · exact thr τ1 a1 c1 1 o1 h1 n1 z1 (e0 (fun y => q (so.mpr y))) _ _ (fun τ5 F5 q5 => t190_153 (by omega) (s225 F5) q5)
  refine t190_127 (r1 := some p) (by omega) (F2.sh rfl (by omega) (by omega)) (fun q => absurd q (by decide)) (fun _ => ?_)
  refine m177' h2.1 (by rw [isS_s hs0]; decide) (by omega) (fun τ3 o3 F3 n3 z3 h3 => t190_134 (r1 := some p) ?_)
  have cel : ∀ b k, b = p ∨ b = p + 1 → tI τ3 b k = tI τ2 b k ∧ tP τ3 b k = tP τ2 b k := fun b k hb => o3.2.2.2 b k (by omega) (by unfold NXM; omega)
  refine lp 4 τ3 [] (tkT f n a) c rfl (o2.tr (o3.mo fun _ _ z => NXM_F z)) (h2.nx o3 h3) rfl (by show a + 1 + 0 ≤ _; omega) (by omega) (by omega) (by rw [o3.2.2.1 p (by omega)]; exact sp) (by rw [o3.2.2.1 (p + 1) (by omega)]; exact ss) (by rw [(cel p 3 (Or.inl rfl)).1]; exact zi 3) (by rw [(cel p 4 (Or.inl rfl)).1]; exact zi 4) (by rw [(cel p 1 (Or.inl rfl)).2]; exact zp1) (by rw [(cel p 2 (Or.inl rfl)).2]; exact zp2) (fun i hi => absurd hi (Nat.not_lt_zero _)) (fun y => ?_) (fun y => ?_)
  · unfold fBag; rw [if_pos y]
  · unfold fBag; rw [if_neg y]
/-- readPart -/
theorem m190 {nst : Option (Nat → Nat → PFR)} {D DI KN dp DE KP : Nat} (H : NsN nst f n D DI KN dp) (hD : 20 ≤ D) (hDI : 20 ≤ DI) (hDE : DI + 1 ≤ DE) (hK : 5 ≤ KP) (hKN : KN ≤ KP + 3) (hdp : dp ≤ 8) : SpP (fPt nst f n) f n (D + 1) DE KP dp := by
  intro d τ Q a c hd h kf ks
  have F := h.1.1
  have N := F.1
  have han := h.1.2.2.2
  refine t190_0 ?_
  have o1 : OC (fun _ _ => False) τ (nC τ (1, 14, 0) 5) := OC.rf.n
  have F1 : FX2 (nC τ (1, 14, 0) 5) := F.n
  have n1 : tN (nC τ (1, 14, 0) 5) = tN τ + 1 := rfl
  have z1 : tZ (nC τ (1, 14, 0) 5) = tZ τ + 5 := rfl
  have s1 : tS (nC τ (1, 14, 0) 5) (tN τ) = (1, 14, 0) := if_pos rfl
  have i1 : ∀ k, tI (nC τ (1, 14, 0) 5) (tN τ) k = 0 := fun k => by
    show rw2 (tI τ) (tN τ) (fun _ => 0) (tN τ) k = 0
    rw [rw2_row]
  have p1 : ∀ k, tP (nC τ (1, 14, 0) 5) (tN τ) k = none := fun k => by
    show rw2 (tP τ) (tN τ) (fun _ => none) (tN τ) k = none
    rw [rw2_row]
  generalize nC τ (1, 14, 0) 5 = τ1 at *
  refine t190_3 (by omega) (m149 F1 N n1 s1 i1 p1 (by omega) (fun τ2 o2 F2 n2 z2 sp ss zi zp1 zp2 => ?_))
  have o02 : OC (fun _ _ => False) τ τ2 := o1.tn o2 (fun a k ha z => by omega)
  have oF : OC PFM τ τ2 := o02.mo fun _ _ z => z.elim
  have h2 : PMf τ2 f n a c dp := h.oc F2 o02 (fun _ _ z => z.elim)
  have z2 : tZ τ2 = tZ τ + 9 := by omega
  have s0 : tS τ2 220 = (1, 21, 0) := F2.sh rfl (by omega) (by omega)
  have so := h2.1.2.2.1.so 2 (Or.inl rfl)
  by_cases hw : tkS f n a = 2
  · have e : fPt nst f n a c = fWd f n a c := by
      unfold fPt
      rw [if_neg (by rw [isS_4 (by rw [hw]; decide)]; decide), if_neg (by rw [isS_4 (by rw [hw]; decide)]; decide)]
    rw [e] at kf ks
    obtain ⟨y1, y2⟩ := m190w (DE := DE) (KP := KP) (d := d) rfl N (by omega) (by omega) hK oF h2 n2 z2 sp zi zp1 hw kf ks
    exact t190_7 (by omega) s0 sp (fun q => absurd (so.mpr hw) q) (fun _ q => y1 q) (fun _ q => y2 q)
  · refine t190_7 (by omega) s0 sp (fun _ => m180 F2 h2.1.2.2.1 ?_) (fun q => absurd (so.mp q) hw) (fun q => absurd (so.mp q) hw)
    cases hs : isS f n a 40 with
    | true =>
      have e : fPt nst f n a c = fNs nst f n a c := by unfold fPt; rw [if_pos hs]
      rw [e] at kf ks
      exact m190n H rfl N (by omega) (by omega) hDI hDE hK hKN hdp oF h2 n2 z2 sp zi hs kf ks
    | false =>
      refine t190_62 (r1 := some (tN τ)) (by omega) s0 (fun _ => m180 F2 h2.1.2.2.1 ?_) (fun q => absurd rfl q) (fun q => absurd rfl q)
      cases hs2 : isS f n a 91 with
      | true =>
        have e : fPt nst f n a c = fBag f n a c := by unfold fPt; rw [if_neg (by rw [hs]; decide), if_pos hs2]
        rw [e] at kf ks
        exact m190b rfl N (by omega) (by omega) hK oF h2 n2 z2 sp ss zi zp1 zp2 hs2 kf ks
      | false =>
        have e : fPt nst f n a c = .inl (1, tkF f n a) := by unfold fPt; rw [if_neg (by rw [hs]; decide), if_neg (by rw [hs2]; decide)]; unfold fWd; rw [if_neg hw]
        refine t190_127 (r1 := some (tN τ)) (by omega) s0 (fun _ => ?_) (fun q => absurd rfl q)
        exact m172' h2.1 (fun τ5 o5 F5 n5 z5 x1 x2 => t190_243 (by omega) (s225 F5) (kf (1, tkF f n a) τ5 e (oF.tr (o5.mo fun a k z => by unfold PFM; omega)) F5 (by omega) (by omega) x1 x2))
end RMB
