/-! FORMS read by the model: readPart -/
theorem EiM.mo {R R1 : Nat → Prop} {τ τ1 : T2} {D D1 al w : Nat} {g : FTr} (h : EiM R τ D al g w) (hR : ∀ a, R a → R1 a) (hK : KpR R τ τ1) (hD : D ≤ D1) : EiM R1 τ1 D1 al g w := fun τ2 d Q fr l S hd k2 => h τ2 d Q fr l S (by omega) (hK.tr k2 hR)
theorem isS_4 {f : Nat → Int} {n a : Nat} {x : Int} (h : tkS f n a ≠ 4) : isS f n a x = false := decide_eq_false (fun z => h z.1)
theorem isS_s {f : Nat → Int} {n a : Nat} {x : Int} (h : isS f n a x = true) : tkS f n a = 4 := (of_decide_eq_true h).1
theorem NXM_F {a k : Nat} (h : NXM a k) : PFM a k := by unfold NXM at h; unfold PFM; omega
theorem KpR.rg {P : Nat → Nat → Prop} {τ τ1 : T2} {lo hi : Nat} (o : OC P τ τ1) (hh : hi ≤ tN τ) (hP : ∀ a k, Rg lo hi a → ¬ P a k) : KpR (Rg lo hi) τ τ1 := fun a ha => by
  have h1 : a < tN τ := by have := ha.2; omega
  refine ⟨by have := o.1; omega, o.2.2.1 a h1, funext fun k => (o.2.2.2 a k h1 (hP a k ha)).1, funext fun k => (o.2.2.2 a k h1 (hP a k ha)).2⟩
section RMQ
variable {f : Nat → Int} {n : Nat}
/-- is a ? behind -/
theorem mQu {d : Nat} {τ4 : T2} {Q : RS → T2 → Prop} {a4 c4 dp p : Nat} (h4 : PMf τ4 f n a4 c4 dp) (hp : 473 ≤ p) (sp : tS τ4 p = (1, 14, 0)) (hd : 3 ≤ d) (k0 : isS f n a4 63 = false → Q (.inl (some (AR p))) τ4) (k1 : isS f n a4 63 = true → ∀ τ5, OC NXM (uI τ4 p 4 1) τ5 → FX2 τ5 → tN τ5 = tN τ4 → tZ τ5 = tZ τ4 → PMf τ5 f n (tkT f n a4) c4 dp → Q (.inl (some (AR p))) τ5) : G (d - 1) 180 0 [vR 220, vI 63] [] τ4 (KC d 190 247 250 [vR 220, vR p, none] [] Q) := by
  have F := h4.1.1
  refine m180 F h4.1.2.2.1 ?_
  cases hs : isS f n a4 63 with
  | false => exact t190_250 (by omega) sp (F.sh rfl (by omega) (by omega)) (fun _ => k0 hs) (fun q => absurd rfl q)
  | true =>
    refine t190_250 (by omega) sp (F.sh rfl (by omega) (by omega)) (fun q => absurd q (by decide)) (fun _ => ?_)
    have hu : PMf (uI τ4 p 4 1) f n a4 c4 dp := h4.oc F.j (OC.j (P := fun b _ => b = p) OC.rf rfl) (fun b k z => by omega)
    exact m177' hu.1 (by rw [isS_s hs]; decide) (by omega) (fun τ5 o5 F5 n5 z5 h5 => t190_262 (r1 := some p) (k1 hs τ5 o5 F5 n5 z5 (hu.nx o5 h5)))
/-- a word -/
theorem m190w {d : Nat} {τ τ2 : T2} {Q : RS → T2 → Prop} {a c dp p DE KP : Nat} (hpN : p = tN τ) (N : 473 ≤ p) (hd : 20 ≤ d) (hDE : 20 ≤ DE) (hK : 5 ≤ KP) (o2 : OC PFM τ τ2) (h2 : PMf τ2 f n a c dp) (n2 : tN τ2 = p + 2) (z2 : tZ τ2 = tZ τ + 9) (sp : tS τ2 p = (1, 14, 0)) (zi : ∀ k, tI τ2 p k = 0) (zp : tP τ2 p 1 = none) (hw : tkS f n a = 2) (kf : FlN (fWd f n a c) n a KP 9 τ Q) (ks : ∀ g a1 c1 τ1 r, fWd f n a c = .inr (g, a1, c1) → OC PFM τ τ1 → PMf τ1 f n a1 c1 dp → a < a1 → c < c1 → 2 * tN τ1 + 2 ≤ 2 * tN τ + 7 * (a1 - a) → tZ τ1 + 12 ≤ tZ τ + 24 * (a1 - a) → PtM (Rg (tN τ) (tN τ1)) τ1 DE r g (a1 - a) → Q (.inl (some (AR r))) τ1) : (¬ tI τ2 220 26 = 40 → G (d - 1) 177 0 [vR 220, none, none] [] (uI (uI τ2 220 26 (wr (tI τ2 220 26 + 1))) p 0 (tI (uI τ2 220 26 (wr (tI τ2 220 26 + 1))) 220 22)) (KC d 190 50 53 [vR 220, vR p, none] [] Q)) ∧ (tI τ2 220 26 = 40 → G (d - 1) 172 0 [vR 220, vI 4] [] τ2 (KC d 190 27 30 [none, none, none] [] Q)) := by
  have F2 := h2.1.1
  have han := h2.1.2.2.2
  have hc := h2.2.1
  have hc4 := h2.2.2.1
  have K2 := h2.1.2.2.1
  have ew : tI τ2 220 22 = wen (tkW f n a) := (K2.2.2.2.2.1 hw).2
  have hT := tk_w han (show tkS f n a ≠ 0 by rw [hw]; decide)
  refine ⟨fun q => ?_, fun q => ?_⟩
  · have hc40 : c < 40 := by omega
    have nc : wr (tI τ2 220 26 + 1) = ((c + 1 : Nat) : Int) := by rw [hc]; exact wr_nat (by omega)
    rw [nc]
    clear nc
    have e22 : tI (uI τ2 220 26 ((c + 1 : Nat) : Int)) 220 22 = wen (tkW f n a) := by rw [tI_uI, if_neg (by omega)]; exact ew
    rw [e22]
    have hcc := h2.c (c1 := c + 1) (by omega)
    have h3 : PMf (uI (uI τ2 220 26 ((c + 1 : Nat) : Int)) p 0 (wen (tkW f n a))) f n a (c + 1) dp := hcc.oc hcc.1.1.j (OC.j (P := fun b _ => b = p) OC.rf rfl) (fun b k z => by omega)
    have o3 : OC PFM τ (uI (uI τ2 220 26 ((c + 1 : Nat) : Int)) p 0 (wen (tkW f n a))) := (o2.j (by unfold PFM; omega)).jn (by omega)
    have i0 : tI (uI (uI τ2 220 26 ((c + 1 : Nat) : Int)) p 0 (wen (tkW f n a))) p 0 = wen (tkW f n a) := by rw [tI_uI, if_pos ⟨rfl, rfl⟩]
    have ik : ∀ k, k ≠ 0 → tI (uI (uI τ2 220 26 ((c + 1 : Nat) : Int)) p 0 (wen (tkW f n a))) p k = 0 := fun k hk => by rw [tI_uI, if_neg (fun z => hk z.2), tI_uI, if_neg (by omega)]; exact zi k
    have pk : tP (uI (uI τ2 220 26 ((c + 1 : Nat) : Int)) p 0 (wen (tkW f n a))) p 1 = none := zp
    have sk : tS (uI (uI τ2 220 26 ((c + 1 : Nat) : Int)) p 0 (wen (tkW f n a))) p = (1, 14, 0) := sp
    have nk : tN (uI (uI τ2 220 26 ((c + 1 : Nat) : Int)) p 0 (wen (tkW f n a))) = p + 2 := n2
    have zk : tZ (uI (uI τ2 220 26 ((c + 1 : Nat) : Int)) p 0 (wen (tkW f n a))) = tZ τ + 9 := z2
    generalize uI (uI τ2 220 26 ((c + 1 : Nat) : Int)) p 0 (wen (tkW f n a)) = τ3 at *
    refine m177' h3.1 (by rw [hw]; decide) (by omega) (fun τ4 o4 F4 n4 z4 h4 => t190_53 (r1 := some p) (by omega) (F4.sh rfl (by omega) (by omega)) ?_)
    have h4' := h3.nx o4 h4
    have cel : ∀ k, tI τ4 p k = tI τ3 p k ∧ tP τ4 p k = tP τ3 p k := fun k => o4.2.2.2 p k (by omega) (by unfold NXM; omega)
    have s4 : tS τ4 p = (1, 14, 0) := (o4.2.2.1 p (by omega)).trans sk
    refine mQu h4' N s4 (by omega) (fun hs => ?_) (fun hs τ5 o5 F5 n5 z5 h5 => ?_)
    · refine ks (wS (tkW f n a)) (tkT f n a) (c + 1) τ4 p ?_ (o3.tr (o4.mo fun _ _ z => NXM_F z)) h4' hT.1 (by omega) (by omega) (by omega) ?_
      · unfold fWd; rw [if_pos hw, if_pos hc40, if_neg (by rw [hs]; decide)]
      · have := PtM_w (R := Rg (tN τ) (tN τ4)) (τ := τ4) (m := false) (p := p) ⟨by omega, by omega⟩ s4 (by rw [(cel 0).1]; exact i0) (by rw [(cel 1).2]; exact pk) (by rw [(cel 3).1]; exact ik 3 (by omega)) (by rw [(cel 4).1]; exact ik 4 (by omega)) (okWd_tk hw)
        exact (this.mo (fun _ z => z) (fun a ha => ⟨ha.2, rfl, rfl, rfl⟩) hDE).w (by omega)
    · have hT2 := isS_t h4'.1.2.2.2 hs
      have N5 := F5.1
      have cel5 : ∀ k, tI τ5 p k = tI (uI τ4 p 4 1) p k ∧ tP τ5 p k = tP τ4 p k := fun k => o5.2.2.2 p k (by show p < tN τ4; omega) (by unfold NXM; omega)
      have s5 : tS τ5 p = (1, 14, 0) := (o5.2.2.1 p (by show p < tN τ4; omega)).trans s4
      refine ks (myF (wS (tkW f n a))) (tkT f n (tkT f n a)) (c + 1) τ5 p ?_ (((o3.tr (o4.mo fun _ _ z => NXM_F z)).jn (by omega)).tr (o5.mo fun _ _ z => NXM_F z)) h5 (by omega) (by omega) (by omega) (by omega) ?_
      · unfold fWd; rw [if_pos hw, if_pos hc40, if_pos hs]
      · have := PtM_w (R := Rg (tN τ) (tN τ5)) (τ := τ5) (m := true) (p := p) ⟨by omega, by omega⟩ s5 (by rw [(cel5 0).1, tI_uI, if_neg (by omega), (cel 0).1]; exact i0) (by rw [(cel5 1).2, (cel 1).2]; exact pk) (by rw [(cel5 3).1, tI_uI, if_neg (by omega), (cel 3).1]; exact ik 3 (by omega)) (by rw [(cel5 4).1, tI_uI, if_pos ⟨rfl, rfl⟩]; rfl) (okWd_tk hw)
        exact (this.mo (fun _ z => z) (fun a ha => ⟨ha.2, rfl, rfl, rfl⟩) hDE).w (by omega)
  · refine m172' h2.1 (fun τ5 o5 F5 n5 z5 x1 x2 => t190_30 (by omega) (s225 F5) (kf (4, tkF f n a) τ5 ?_ (o2.tr (o5.mo fun a k z => by unfold PFM; omega)) F5 (by omega) (by omega) x1 x2))
    unfold fWd; rw [if_pos hw, if_neg (by omega)]
def NsN (nst : Option (Nat → Nat → PFR)) (f : Nat → Int) (n D DE KN dp : Nat) : Prop := (nst = none ∧ dp = 8) ∨ ∃ p, nst = some p ∧ dp < 8 ∧ SpE p f n D DE KN (dp + 1)
/-- rows in ( ) -/
theorem m190n {nst : Option (Nat → Nat → PFR)} {D DI KN : Nat} {d : Nat} {τ τ2 : T2} {Q : RS → T2 → Prop} {a c dp p DE KP : Nat} (H : NsN nst f n D DI KN dp) (hpN : p = tN τ) (N : 473 ≤ p) (hd : D + 1 ≤ d) (hd2 : 20 ≤ d) (hDI : 20 ≤ DI) (hDE : DI + 1 ≤ DE) (hK : 5 ≤ KP) (hKN : KN ≤ KP + 3) (hdp : dp ≤ 8) (o2 : OC PFM τ τ2) (h2 : PMf τ2 f n a c dp) (n2 : tN τ2 = p + 2) (z2 : tZ τ2 = tZ τ + 9) (sp : tS τ2 p = (1, 14, 0)) (zi : ∀ k, tI τ2 p k = 0) (hs0 : isS f n a 40 = true) (kf : FlN (fNs nst f n a c) n a KP 9 τ Q) (ks : ∀ g a1 c1 τ1 r, fNs nst f n a c = .inr (g, a1, c1) → OC PFM τ τ1 → PMf τ1 f n a1 c1 dp → a < a1 → c < c1 → 2 * tN τ1 + 2 ≤ 2 * tN τ + 7 * (a1 - a) → tZ τ1 + 12 ≤ tZ τ + 24 * (a1 - a) → PtM (Rg (tN τ) (tN τ1)) τ1 DE r g (a1 - a) → Q (.inl (some (AR r))) τ1) : G d 190 62 [vR 220, vR p, none] [AI 1] τ2 Q := by
  have F2 := h2.1.1
  have han := h2.1.2.2.2
  have hT := isS_t han hs0
  have e23 := h2.2.2.2.1
  rcases H with ⟨e1, e2⟩ | ⟨q, e1, e2, H⟩
  · subst e1 e2
    refine t190_62 (r1 := some p) (by omega) (F2.sh rfl (by omega) (by omega)) (fun q => absurd q (by decide)) (fun _ q => absurd e23 q) (fun _ _ => ?_)
    exact m172' h2.1 (fun τ5 o5 F5 n5 z5 x1 x2 => t190_79 (by omega) (s225 F5) (kf (4, tkF f n a) τ5 rfl (o2.tr (o5.mo fun a k z => by unfold PFM; omega)) F5 (by omega) (by omega) x1 x2))
  · subst e1
    refine t190_62 (r1 := some p) (by omega) (F2.sh rfl (by omega) (by omega)) (fun q => absurd q (by decide)) (fun _ _ => ?_) (fun _ q => by rw [e23] at q; omega)
    rw [e23, show wr ((dp : Int) + 1) = ((dp + 1 : Nat) : Int) from wr_nat (by omega)]
    have h3 := h2.d (d1 := dp + 1)
    have o3 : OC PFM τ (uI τ2 220 23 ((dp + 1 : Nat) : Int)) := o2.j (by unfold PFM; omega)
    refine m177' h3.1 (by rw [isS_s hs0]; decide) (by omega) (fun τ4 o4 F4 n4 z4 h4 => t190_94 (r1 := some p) (by omega) (F4.sh rfl (by omega) (by omega)) ?_)
    have n4 : tN τ4 = p + 2 := n4.trans n2
    have z4 : tZ τ4 = tZ τ + 9 := z4.trans z2
    have h4' := h3.nx o4 h4
    have o4' : OC PFM τ τ4 := o3.tr (o4.mo fun _ _ z => NXM_F z)
    have s4 : tS τ4 p = (1, 14, 0) := (o4.2.2.1 p (by show p < tN τ2; omega)).trans sp
    have i4 : ∀ k, tI τ4 p k = 0 := fun k => by rw [(o4.2.2.2 p k (by show p < tN τ2; omega) (by unfold NXM; omega)).1, tI_uI, if_neg (by omega)]; exact zi k
    refine H (d - 1) τ4 _ (tkT f n a) c (by omega) h4' (fun e τ5 he o5 F5 n5 z5 x1 x2 => ?_) (fun g a5 c5 τ5 al he o5 h5 ha5 hc5 n5 z5 hal1 hal2 hE => ?_)
    · refine kc_prop rfl rfl (kf e τ5 ?_ (o4'.tr o5) F5 (by omega) (by omega) x1 x2)
      unfold fNs
      simp only [he]
    · have F5 := h5.1.1
      have N5 := F5.1
      have han5 := h5.1.2.2.2
      have hns : fNs (some q) f n a c = fNe f n g a5 c5 := by
        unfold fNs
        simp only [he]
      have s5 : tS τ5 p = (1, 14, 0) := (o5.2.2.1 p (by omega)).trans s4
      have i5 : ∀ k, tI τ5 p k = 0 := fun k => by rw [(o5.2.2.2 p k (by omega) (by unfold PFM; omega)).1]; exact i4 k
      refine t190_99 (r1 := some p) (s0 := some al) (s1 := p) (by omega) s5 (F5.sh rfl (by omega) (by omega)) ?_
      have o6 : OC (fun b _ => b = p) τ5 (uP τ5 p 1 (some al)) := OC.q (P := fun b _ => b = p) OC.rf rfl
      have F6 : FX2 (uP τ5 p 1 (some al)) := F5.q (PTI_n N)
      have h6 : PMf (uP τ5 p 1 (some al)) f n a5 c5 (dp + 1) := h5.oc F6 o6 (fun b k z => by omega)
      have o06 : OC PFM τ (uP τ5 p 1 (some al)) := (o4'.tr o5).qn (by omega)
      refine m181 h6.1 (by omega) (fun hs τ7 th => ?_) (fun hs τ7 o7 F7 n7 z7 h7 => ?_)
      · obtain ⟨t1, t2, t3, t4, t5, t6⟩ := th
        have t3 : tN τ7 = tN τ5 := t3
        have t4 : tZ τ7 = tZ τ5 := t4
        refine kc_prop rfl rfl (kf (1, tkF f n a5) τ7 ?_ (o06.tr (t1.mo fun a k z => by unfold PFM; omega)) t2 (by omega) (by omega) t5 t6)
        rw [hns]
        unfold fNe
        rw [if_neg (by rw [hs]; decide)]
      · have n7 : tN τ7 = tN τ5 := n7
        have z7 : tZ τ7 = tZ τ5 := z7
        have hT5 := isS_t han5 hs
        have h7' := h6.nx o7 h7
        have o07 : OC PFM τ τ7 := o06.tr (o7.mo fun _ _ z => NXM_F z)
        have e237 := h7'.2.2.2.1
        refine t190_108 (r1 := some p) (by omega) (F7.sh rfl (by omega) (by omega)) ?_
        rw [e237, show wr (((dp + 1 : Nat) : Int) - 1) = (dp : Int) by rw [wr_id (by unfold okI; omega)]; omega]
        have h8 := h7'.d (d1 := dp)
        have o08 : OC PFM τ (uI τ7 220 23 (dp : Int)) := o07.j (by unfold PFM; omega)
        have s8 : tS (uI τ7 220 23 (dp : Int)) p = (1, 14, 0) := (o7.2.2.1 p (by show p < tN τ5; omega)).trans s5
        have p8 : tP (uI τ7 220 23 (dp : Int)) p 1 = some al := by
          rw [tP_uI, (o7.2.2.2 p 1 (by show p < tN τ5; omega) (by unfold NXM; omega)).2, tP_uP, if_pos ⟨rfl, rfl⟩]
        have i8 : ∀ k, tI (uI τ7 220 23 (dp : Int)) p k = 0 := fun k => by
          rw [tI_uI, if_neg (by omega), (o7.2.2.2 p k (by show p < tN τ5; omega) (by unfold NXM; omega)).1, tI_uP]; exact i5 k
        have o58 : OC (fun b _ => b = p ∨ b = 220) τ5 (uI τ7 220 23 (dp : Int)) := ((o6.mo fun _ _ z => Or.inl z).tr (o7.mo fun b k z => by unfold NXM at z; omega)).j (Or.inr rfl)
        have n8 : tN (uI τ7 220 23 (dp : Int)) = tN τ5 := n7
        have z8 : tZ (uI τ7 220 23 (dp : Int)) = tZ τ5 := z7
        generalize uI τ7 220 23 (dp : Int) = τ8 at *
        refine mQu h8 N s8 (by omega) (fun hs8 => ?_) (fun hs8 τ9 o9 F9 n9 z9 h9 => ?_)
        · refine ks g (tkT f n a5) c5 τ8 p ?_ o08 h8 (by omega) (by omega) (by omega) (by omega) ?_
          · rw [hns]
            unfold fNe
            rw [if_pos hs, if_neg (by rw [hs8]; decide)]
          · have hE8 := hE.mo (R1 := Rg (tN τ) (tN τ8)) (τ1 := τ8) (D1 := DI) (fun b hb => ⟨by have := hb.1; omega, by have := hb.2; omega⟩) (KpR.rg o58 (Nat.le_refl _) (fun b k hb z => by have := hb.1; omega)) (Nat.le_refl _)
            have := PtM_n (m := false) (p := p) (τ := τ8) (R := Rg (tN τ) (tN τ8)) ⟨by omega, by omega⟩ s8 p8 (i8 4) hE8 hDI
            exact (this.mo (fun _ z => z) (fun b hb => ⟨hb.2, rfl, rfl, rfl⟩) hDE).w (by omega)
        · have n9 : tN τ9 = tN τ8 := n9
          have z9 : tZ τ9 = tZ τ8 := z9
          have hT8 := isS_t h8.1.2.2.2 hs8
          have o09 : OC PFM τ τ9 := (o08.jn (by omega)).tr (o9.mo fun _ _ z => NXM_F z)
          have o59 : OC (fun b _ => b = p ∨ b = 220) τ5 τ9 := (o58.j (Or.inl rfl)).tr (o9.mo fun b k z => by unfold NXM at z; omega)
          have cel : ∀ k, tI τ9 p k = tI (uI τ8 p 4 1) p k ∧ tP τ9 p k = tP τ8 p k := fun k => o9.2.2.2 p k (by show p < tN τ8; omega) (by unfold NXM; omega)
          have s9 : tS τ9 p = (1, 14, 0) := (o9.2.2.1 p (by show p < tN τ8; omega)).trans s8
          refine ks (myF g) (tkT f n (tkT f n a5)) c5 τ9 p ?_ o09 h9 (by omega) (by omega) (by omega) (by omega) ?_
          · rw [hns]
            unfold fNe
            rw [if_pos hs, if_pos hs8]
          · have hE9 := hE.mo (R1 := Rg (tN τ) (tN τ9)) (τ1 := τ9) (D1 := DI) (fun b hb => ⟨by have := hb.1; omega, by have := hb.2; omega⟩) (KpR.rg o59 (Nat.le_refl _) (fun b k hb z => by have := hb.1; omega)) (Nat.le_refl _)
            have := PtM_n (m := true) (p := p) (τ := τ9) (R := Rg (tN τ) (tN τ9)) ⟨by omega, by omega⟩ s9 (by rw [(cel 1).2]; exact p8) (by rw [(cel 4).1, tI_uI, if_pos ⟨rfl, rfl⟩]; rfl) hE9 hDI
            exact (this.mo (fun _ z => z) (fun b hb => ⟨hb.2, rfl, rfl, rfl⟩) hDE).w (by omega)
end RMQ
