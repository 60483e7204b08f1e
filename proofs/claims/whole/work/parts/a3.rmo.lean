/-! RULES read by the model -/
def PPM (q a k : Nat) : Prop := (a = 220 ∧ 17 ≤ k ∧ k ≤ 24) ∨ (a = 225 ∧ (k = 6 ∨ k = 7)) ∨ (q ≤ a ∧ a ≤ q + 3)
def PKM (q : Nat) (τ τ1 : T2) : Prop := OC (PPM q) τ τ1 ∧ tN τ1 = tN τ ∧ tZ τ1 = tZ τ
theorem PKM.rf {q : Nat} {τ : T2} : PKM q τ τ := ⟨OC.rf, rfl, rfl⟩
theorem PKM.tr {q : Nat} {τ τ1 τ2 : T2} (h : PKM q τ τ1) (h1 : PKM q τ1 τ2) : PKM q τ τ2 := ⟨h.1.tr h1.1, h1.2.1.trans h.2.1, h1.2.2.trans h.2.2⟩
theorem PKM.j {q : Nat} {τ τ1 : T2} {a k : Nat} {x : Int} (h : PKM q τ τ1) (hp : PPM q a k) : PKM q τ (uI τ1 a k x) := ⟨h.1.j hp, h.2.1, h.2.2⟩
/-- a rule that is being made: its rows -/
def RO (τ : T2) (q mn : Nat) : Prop := 473 ≤ q ∧ q + 3 < tN τ ∧ tS τ q = (1, 17, 0) ∧ (tP τ q 0 = some (q + 1) ∧ tP τ q 1 = some (q + 2) ∧ tP τ q 2 = some (q + 3)) ∧ (tS τ (q + 1) = (2, 0, 200) ∧ tS τ (q + 2) = (2, 0, 200) ∧ tS τ (q + 3) = (2, 0, 200)) ∧ tI τ q 3 = (mn : Int)
def rws (τ : T2) (q : Nat) : RWS := (tI τ (q + 1), tI τ (q + 2), tI τ (q + 3))
theorem RO.oc {τ τ1 : T2} {q mn : Nat} {P : Nat → Nat → Prop} (h : RO τ q mn) (o : OC P τ τ1) (hp : ∀ a k, P a k → a < 473) : RO τ1 q mn ∧ rws τ1 q = rws τ q := by
  obtain ⟨h1, h2, h3, ⟨h4, h5, h6⟩, ⟨h7, h8, h9⟩, h10⟩ := h
  have sm : ∀ a k, 473 ≤ a → a < tN τ → tI τ1 a k = tI τ a k ∧ tP τ1 a k = tP τ a k := fun a k x y => o.2.2.2 a k y (fun z => by have := hp a k z; omega)
  have sh : ∀ a, a < tN τ → tS τ1 a = tS τ a := o.2.2.1
  have hN := o.1
  refine ⟨⟨h1, by omega, by rw [sh q (by omega)]; exact h3, ⟨?_, ?_, ?_⟩, ⟨?_, ?_, ?_⟩, ?_⟩, ?_⟩
  · rw [(sm q 0 h1 (by omega)).2]; exact h4
  · rw [(sm q 1 h1 (by omega)).2]; exact h5
  · rw [(sm q 2 h1 (by omega)).2]; exact h6
  · rw [sh (q + 1) (by omega)]; exact h7
  · rw [sh (q + 2) (by omega)]; exact h8
  · rw [sh (q + 3) (by omega)]; exact h9
  · rw [(sm q 3 h1 (by omega)).1]; exact h10
  · have e : ∀ a, 473 ≤ a → a < tN τ → tI τ1 a = tI τ a := fun a x y => funext fun k => (sm a k x y).1
    unfold rws
    rw [e (q + 1) (by omega) (by omega), e (q + 2) (by omega) (by omega), e (q + 3) (by omega) (by omega)]
/-- the model's text and token -/
def PMb (τ : T2) (f : Nat → Int) (n a : Nat) : Prop := FX2 τ ∧ TxM τ f n ∧ TkM τ f n a ∧ a ≤ n
section PMS
variable {d : Nat} {τ : T2} {Q : RS → T2 → Prop} {f : Nat → Int} {n a : Nat}
theorem PMb.oc {τ1 : T2} {P : Nat → Nat → Prop} (h : PMb τ f n a) (F1 : FX2 τ1) (o : OC P τ τ1) (hp : ∀ b k, P b k → ¬ (b = 226 ∨ (b = 220 ∧ 16 ≤ k ∧ k ≤ 22))) : PMb τ1 f n a := by
  obtain ⟨F, X, K, ha⟩ := h
  exact ⟨F1, X.oc F o (fun b k z => by have := hp b k z; omega), K.oc F o (fun b k z => by have := hp b k z; unfold NXM; omega), ha⟩
theorem m177' (h : PMb τ f n a) (hs : tkS f n a ≠ 1) (hd : 1 ≤ d) (k : ∀ τ1, OC NXM τ τ1 → FX2 τ1 → tN τ1 = tN τ → tZ τ1 = tZ τ → PMb τ1 f n (tkT f n a) → Q (.inl none) τ1) : G d 177 0 [vR 220, none, none] [] τ Q := by
  obtain ⟨F, X, K, ha⟩ := h
  have hT := tkT_le (f := f) ha
  refine m177 F X (K.2.1 hs) hT.2 hd (fun τ1 o F1 n1 z1 _ K1 => ?_)
  exact k τ1 o F1 n1 z1 ⟨F1, X.oc F o (fun b k q => by unfold NXM at q; omega), K1, hT.2⟩
theorem m172' (h : PMb τ f n a) {x : Int} (k : ∀ τ1, OC (fun b k => b = 225 ∧ (k = 6 ∨ k = 7)) τ τ1 → FX2 τ1 → tN τ1 = tN τ → tZ τ1 = tZ τ → tI τ1 225 6 = x → tI τ1 225 7 = (tkF f n a : Int) → Q (.inl (some (AR 225))) τ1) : G d 172 0 [vR 220, vI x] [] τ Q := by
  obtain ⟨F, X, K, ha⟩ := h
  have o : OC (fun b k => b = 225 ∧ (k = 6 ∨ k = 7)) τ (uI (uI τ 225 6 x) 225 7 (tI (uI τ 225 6 x) 220 19)) := OC.j (P := fun b k => b = 225 ∧ (k = 6 ∨ k = 7)) (OC.j (P := fun b k => b = 225 ∧ (k = 6 ∨ k = 7)) OC.rf (by omega)) (by omega)
  refine t172_0 (q2 := 225) (F.sh rfl (by omega) (by omega)) (F.p rfl) (F.sh rfl (by omega) (by omega)) (k _ o F.j.j rfl rfl ?_ ?_)
  · rw [tI_uI, if_neg (by decide), tI_uI, if_pos ⟨rfl, rfl⟩]
  · rw [tI_uI, if_pos ⟨rfl, rfl⟩, tI_uI, if_neg (by decide)]
    exact K.1
theorem s225 (F : FX2 τ) : tS τ 225 = (1, 18, 0) := F.sh rfl (by omega) (by omega)
/-- what throwing leaves -/
def THM (τ τ1 : T2) (e : Int × Nat) : Prop := OC (fun b k => b = 225 ∧ (k = 6 ∨ k = 7)) τ τ1 ∧ FX2 τ1 ∧ tN τ1 = tN τ ∧ tZ τ1 = tZ τ ∧ tI τ1 225 6 = e.1 ∧ tI τ1 225 7 = (e.2 : Int)
theorem m181 (h : PMb τ f n a) {x : Int} (hd : 17 ≤ d) (k0 : isS f n a x = false → ∀ τ1, THM τ τ1 (1, tkF f n a) → Q (.inr 225) τ1) (k1 : isS f n a x = true → ∀ τ1, OC NXM τ τ1 → FX2 τ1 → tN τ1 = tN τ → tZ τ1 = tZ τ → PMb τ1 f n (tkT f n a) → Q (.inl none) τ1) : G d 181 0 [vR 220, vI x] [] τ Q := by
  have s : ∀ {τ : T2}, FX2 τ → tS τ 220 = (1, 21, 0) := fun F => (s220 F).1
  refine t181_0 (by omega) (s h.1) (m180 h.1 h.2.2.1 ?_)
  cases hs : isS f n a x with
  | true =>
    have ht : tkS f n a = 4 := by unfold isS at hs; rw [decide_eq_true_eq] at hs; exact hs.1
    exact t181_5 (by omega) (s h.1) (fun _ => m177' h (by omega) (by omega) (fun τ1 o F1 n1 z1 h1 => t181_18 (k1 hs τ1 o F1 n1 z1 h1))) (fun q => absurd q (by decide))
  | false =>
    exact t181_5 (by omega) (s h.1) (fun q => absurd rfl q) (fun _ => m172' h (fun τ1 o F1 n1 z1 e1 e2 => t181_13 (by omega) (s225 F1) (k0 hs τ1 ⟨o, F1, n1, z1, e1, e2⟩)))
theorem tkN_b (h : tkS f n a = 3) : 0 ≤ tkN f n a ∧ tkN f n a ≤ 999 := by
  have hq : tkF f n a < n := by
    by_cases q : tkF f n a < n
    · exact q
    · have := (tkT_E q).2; omega
  have key : isL (f (tkF f n a)) = false ∧ isD (f (tkF f n a)) = true := by
    cases e : isL (f (tkF f n a)) with
    | true => have := tkT_L hq e; omega
    | false =>
      cases e1 : isD (f (tkF f n a)) with
      | true => exact ⟨rfl, rfl⟩
      | false =>
        have := (tkT_G hq e e1).2
        rw [h] at this
        cases hg : isG (f (tkF f n a)) with
        | true => rw [hg] at this; cases this
        | false => rw [hg] at this; cases this
  have ht := tkT_D hq key.1 key.2
  have h3 := ht.2.2.2.2.mp h
  have := nvl_b (f := f) (a := tkF f n a) (tkT f n a - tkF f n a) (fun i hi => spp_in (p := isD) (f := f) (n := n) (k := tkF f n a) (by omega) (by rw [← ht.1]; omega))
  unfold tkN
  exact ⟨this.1, this.2.2.2 h3⟩
theorem m182 (h : PMb τ f n a) {lo hi : Int} (hd : 18 ≤ d) (k0 : ∀ e τ1, pNum f n a lo hi 3 = .inl e → THM τ τ1 e → Q (.inr 225) τ1) (k1 : ∀ v a1 τ1, pNum f n a lo hi 3 = .inr (v, a1) → a1 = tkT f n a → a < a1 → lo ≤ v → v ≤ hi → OC NXM τ τ1 → FX2 τ1 → tN τ1 = tN τ → tZ τ1 = tZ τ → PMb τ1 f n a1 → Q (.inl (some (AI v))) τ1) : G d 182 0 [vR 220, vI lo, vI hi, none] [] τ Q := by
  have s : ∀ {τ : T2}, FX2 τ → tS τ 220 = (1, 21, 0) := fun F => (s220 F).1
  have K := h.2.2.1
  have hk := K.so 3 (by omega)
  refine t182_0 (by omega) (s h.1) (fun q => ?_) (fun q => m172' h (fun τ1 o F1 n1 z1 e1 e2 => t182_13 (by omega) (s225 F1) (k0 (1, tkF f n a) τ1 ?_ ⟨o, F1, n1, z1, e1, e2⟩)))
  · have h3 := hk.mp q
    rw [(K.2.2.2.2.2.1 h3).2]
    refine m167 (fun q1 q2 => ?_) (fun q1 => ?_)
    · refine t182_23 (by omega) (s h.1) (fun _ => ?_) (fun y => absurd y (by decide))
      rw [(K.2.2.2.2.2.1 h3).2]
      exact m177' h (by omega) (by omega) (fun τ1 o F1 n1 z1 h1 => t182_41 (k1 _ _ τ1 (by unfold pNum; rw [if_pos h3, if_pos ⟨q1, q2⟩]) rfl (tk_w h.2.2.2 (by omega)).1 q1 q2 o F1 n1 z1 h1))
    · refine t182_23 (by omega) (s h.1) (fun y => absurd rfl y) (fun _ => m172' h (fun τ1 o F1 n1 z1 e1 e2 => t182_31 (by omega) (s225 F1) (k0 (3, tkF f n a) τ1 ?_ ⟨o, F1, n1, z1, e1, e2⟩)))
      unfold pNum
      rw [if_pos h3, if_neg (by omega)]
  · unfold pNum
    rw [if_neg (fun y => q (hk.mpr y))]
theorem m183 (h : PMb τ f n a) {R : Nat} (hd : 18 ≤ d) (k0 : ∀ e τ1, pNum f n a 0 ((R : Int) - 1) 2 = .inl e → THM τ τ1 e → Q (.inr 225) τ1) (k1 : ∀ v a1 τ1, pNum f n a 0 ((R : Int) - 1) 2 = .inr (v, a1) → a1 = tkT f n a → a < a1 → 0 ≤ v → v < R → OC NXM τ τ1 → FX2 τ1 → tN τ1 = tN τ → tZ τ1 = tZ τ → PMb τ1 f n a1 → Q (.inl (some (AI v))) τ1) : G d 183 0 [vR 220, vI (R : Int), none] [] τ Q := by
  have s : ∀ {τ : T2}, FX2 τ → tS τ 220 = (1, 21, 0) := fun F => (s220 F).1
  have K := h.2.2.1
  have hk := K.so 3 (by omega)
  refine t183_0 (by omega) (s h.1) (fun q q1 => ?_) (fun q q1 => ?_) (fun q => m172' h (fun τ1 o F1 n1 z1 e1 e2 => t183_13 (by omega) (s225 F1) (k0 (1, tkF f n a) τ1 ?_ ⟨o, F1, n1, z1, e1, e2⟩)))
  · have h3 := hk.mp q
    have hb := tkN_b h3
    rw [(K.2.2.2.2.2.1 h3).2] at q1 ⊢
    exact m177' h (by omega) (by omega) (fun τ1 o F1 n1 z1 h1 => t183_37 (k1 _ _ τ1 (by unfold pNum; rw [if_pos h3, if_pos (by omega)]) rfl (tk_w h.2.2.2 (by omega)).1 hb.1 q1 o F1 n1 z1 h1))
  · have h3 := hk.mp q
    rw [(K.2.2.2.2.2.1 h3).2] at q1
    refine m172' h (fun τ1 o F1 n1 z1 e1 e2 => t183_27 (by omega) (s225 F1) (k0 (2, tkF f n a) τ1 ?_ ⟨o, F1, n1, z1, e1, e2⟩))
    unfold pNum
    rw [if_pos h3, if_neg (by omega)]
  · unfold pNum
    rw [if_neg (fun y => q (hk.mpr y))]
end PMS
/-- reading a rule: all that is known -/
def PMs (τ : T2) (f : Nat → Int) (n R a c dp q mn : Nat) : Prop := PMb τ f n a ∧ (tI τ 220 24 = (c : Int) ∧ c ≤ 30) ∧ tI τ 220 23 = (dp : Int) ∧ tI τ 220 4 = (R : Int) ∧ RO τ q mn
section RDM
variable {f : Nat → Int} {n R q : Nat}
theorem PMs.nx {τ τ1 : T2} {a a1 c dp mn : Nat} (h : PMs τ f n R a c dp q mn) (o : OC NXM τ τ1) (h1 : PMb τ1 f n a1) : PMs τ1 f n R a1 c dp q mn ∧ rws τ1 q = rws τ q := by
  obtain ⟨hb, h24, h23, h4, ro⟩ := h
  have N := hb.1.1
  have sm : ∀ k, (k < 17 ∨ 22 < k) → tI τ1 220 k = tI τ 220 k := fun k hk => (o.2.2.2 220 k (by omega) (by unfold NXM; omega)).1
  obtain ⟨r1, r2⟩ := ro.oc o (fun b k z => by unfold NXM at z; omega)
  exact ⟨⟨h1, by rw [sm 24 (by omega)]; exact h24, by rw [sm 23 (by omega)]; exact h23, by rw [sm 4 (by omega)]; exact h4, r1⟩, r2⟩
theorem PKM.nx {τ τ1 : T2} (o : OC NXM τ τ1) (n1 : tN τ1 = tN τ) (z1 : tZ τ1 = tZ τ) : PKM q τ τ1 := ⟨o.mo fun b k z => by unfold NXM at z; unfold PPM; omega, n1, z1⟩
theorem PKM.th {τ τ1 : T2} {e : Int × Nat} (h : THM τ τ1 e) : PKM q τ τ1 := ⟨h.1.mo fun b k z => by unfold PPM; omega, h.2.2.1, h.2.2.2.1⟩
/-- one of the two counts is set -/
theorem PMs.u {τ : T2} {a c dp mn : Nat} (h : PMs τ f n R a c dp q mn) (c1 d1 : Nat) (hc : (c1 = c + 1 ∧ d1 = dp ∧ c1 ≤ 30) ∨ (c1 = c ∧ (d1 = dp + 1 ∨ d1 + 1 = dp))) : (c1 = c + 1 → PMs (uI τ 220 24 (c1 : Int)) f n R a c1 d1 q mn ∧ rws (uI τ 220 24 (c1 : Int)) q = rws τ q) ∧ (c1 = c → PMs (uI τ 220 23 (d1 : Int)) f n R a c1 d1 q mn ∧ rws (uI τ 220 23 (d1 : Int)) q = rws τ q) := by
  obtain ⟨hb, h24, h23, h4, ro⟩ := h
  refine ⟨fun e => ?_, fun e => ?_⟩
  · have o : OC (fun b k => b = 220 ∧ k = 24) τ (uI τ 220 24 (c1 : Int)) := OC.j (P := fun b k => b = 220 ∧ k = 24) OC.rf ⟨rfl, rfl⟩
    obtain ⟨r1, r2⟩ := ro.oc o (fun b k z => by omega)
    refine ⟨⟨hb.oc hb.1.j o (fun b k z => by omega), ⟨by rw [tI_uI, if_pos ⟨rfl, rfl⟩], by omega⟩, ?_, by rw [tI_uI, if_neg (by decide)]; exact h4, r1⟩, r2⟩
    rw [tI_uI, if_neg (by decide), h23]
    omega
  · have o : OC (fun b k => b = 220 ∧ k = 23) τ (uI τ 220 23 (d1 : Int)) := OC.j (P := fun b k => b = 220 ∧ k = 23) OC.rf ⟨rfl, rfl⟩
    obtain ⟨r1, r2⟩ := ro.oc o (fun b k z => by omega)
    refine ⟨⟨hb.oc hb.1.j o (fun b k z => by omega), ?_, by rw [tI_uI, if_pos ⟨rfl, rfl⟩], by rw [tI_uI, if_neg (by decide)]; exact h4, r1⟩, r2⟩
    rw [tI_uI, if_neg (by decide), h24.1, e]
    exact ⟨rfl, h24.2⟩
/-- put -/
theorem m153 {d : Nat} {τ : T2} {Q : RS → T2 → Prop} {a c dp mn : Nat} (h : PMs τ f n R a c dp q mn) (hm : mn < 200) {x y w : Int} (k : ∀ τ1, PKM q τ τ1 → PMs τ1 f n R a c dp q (mn + 1) → (∀ i, i ≠ mn → (rws τ1 q).1 i = (rws τ q).1 i ∧ (rws τ1 q).2.1 i = (rws τ q).2.1 i ∧ (rws τ1 q).2.2 i = (rws τ q).2.2 i) → (rws τ1 q).1 mn = x → (rws τ1 q).2.1 mn = y → (rws τ1 q).2.2 mn = w → Q (.inl none) τ1) : G d 153 0 [vR q, vI x, vI y, vI w] [] τ Q := by
  obtain ⟨hb, h24, h23, h4, ro⟩ := h
  obtain ⟨r1, r2, r3, ⟨r4, r5, r6⟩, ⟨r7, r8, r9⟩, r10⟩ := id ro
  have e1 : ∀ x, tI (uI τ (q + 1) mn x) q 3 = (mn : Int) := fun x => by rw [tI_uI, if_neg (by omega)]; exact r10
  have e2 : ∀ x y, tI (uI (uI τ (q + 1) mn x) (q + 2) mn y) q 3 = (mn : Int) := fun x y => by rw [tI_uI, if_neg (by omega)]; exact e1 x
  have e3 : ∀ x y w, tI (uI (uI (uI τ (q + 1) mn x) (q + 2) mn y) (q + 3) mn w) q 3 = (mn : Int) := fun x y w => by rw [tI_uI, if_neg (by omega)]; exact e2 x y
  have et : (tI τ q 3).toNat = mn := by rw [r10]; exact Int.toNat_natCast _
  refine t153_0 (n4 := 200) (n9 := 200) (n14 := 200) r3 r4 r7 (by rw [r10]; omega) r5 r8 (by rw [et, e1]; omega) r6 r9 (by rw [et, e1, Int.toNat_natCast, e2]; omega) (fun τ1 ht => ?_)
  rw [et, e1, Int.toNat_natCast, e2, Int.toNat_natCast, e3, wr_nat (by omega)] at ht
  subst ht
  have pk : PKM q τ (uI (uI (uI (uI τ (q + 1) mn x) (q + 2) mn y) (q + 3) mn w) q 3 ((mn + 1 : Nat) : Int)) := (((PKM.rf.j (by unfold PPM; omega)).j (by unfold PPM; omega)).j (by unfold PPM; omega)).j (by unfold PPM; omega)
  have o : OC (fun b _ => q ≤ b ∧ b ≤ q + 3) τ (uI (uI (uI (uI τ (q + 1) mn x) (q + 2) mn y) (q + 3) mn w) q 3 ((mn + 1 : Nat) : Int)) := OC.j (P := fun b _ => q ≤ b ∧ b ≤ q + 3) (OC.j (P := fun b _ => q ≤ b ∧ b ≤ q + 3) (OC.j (P := fun b _ => q ≤ b ∧ b ≤ q + 3) (OC.j (P := fun b _ => q ≤ b ∧ b ≤ q + 3) OC.rf (by omega)) (by omega)) (by omega)) (by omega)
  have N := hb.1.1
  have sm : ∀ k, tI (uI (uI (uI (uI τ (q + 1) mn x) (q + 2) mn y) (q + 3) mn w) q 3 ((mn + 1 : Nat) : Int)) 220 k = tI τ 220 k := fun k => (o.2.2.2 220 k (by omega) (by omega)).1
  refine k _ pk ⟨hb.oc hb.1.j.j.j.j o (fun b k z => by omega), by rw [sm]; exact h24, by rw [sm]; exact h23, by rw [sm]; exact h4, ⟨r1, r2, r3, ⟨r4, r5, r6⟩, ⟨r7, r8, r9⟩, by rw [tI_uI, if_pos ⟨rfl, rfl⟩]⟩⟩ (fun i hi => ⟨?_, ?_, ?_⟩) ?_ ?_ ?_
  · show tI (uI (uI (uI (uI τ (q + 1) mn x) (q + 2) mn y) (q + 3) mn w) q 3 _) (q + 1) i = tI τ (q + 1) i
    rw [tI_uI, if_neg (by omega), tI_uI, if_neg (by omega), tI_uI, if_neg (by omega), tI_uI, if_neg (by omega)]
  · show tI (uI (uI (uI (uI τ (q + 1) mn x) (q + 2) mn y) (q + 3) mn w) q 3 _) (q + 2) i = tI τ (q + 2) i
    rw [tI_uI, if_neg (by omega), tI_uI, if_neg (by omega), tI_uI, if_neg (by omega), tI_uI, if_neg (by omega)]
  · show tI (uI (uI (uI (uI τ (q + 1) mn x) (q + 2) mn y) (q + 3) mn w) q 3 _) (q + 3) i = tI τ (q + 3) i
    rw [tI_uI, if_neg (by omega), tI_uI, if_neg (by omega), tI_uI, if_neg (by omega), tI_uI, if_neg (by omega)]
  · show tI (uI (uI (uI (uI τ (q + 1) mn x) (q + 2) mn y) (q + 3) mn w) q 3 _) (q + 1) mn = x
    rw [tI_uI, if_neg (by omega), tI_uI, if_neg (by omega), tI_uI, if_neg (by omega), tI_uI, if_pos ⟨rfl, rfl⟩]
  · show tI (uI (uI (uI (uI τ (q + 1) mn x) (q + 2) mn y) (q + 3) mn w) q 3 _) (q + 2) mn = y
    rw [tI_uI, if_neg (by omega), tI_uI, if_neg (by omega), tI_uI, if_pos ⟨rfl, rfl⟩]
  · show tI (uI (uI (uI (uI τ (q + 1) mn x) (q + 2) mn y) (q + 3) mn w) q 3 _) (q + 3) mn = w
    rw [tI_uI, if_neg (by omega), tI_uI, if_pos ⟨rfl, rfl⟩]
/-- rows below a number stay -/
def rwE (τ τ1 : T2) (q m : Nat) : Prop := ∀ i, i < m → (rws τ1 q).1 i = (rws τ q).1 i ∧ (rws τ1 q).2.1 i = (rws τ q).2.1 i ∧ (rws τ1 q).2.2 i = (rws τ q).2.2 i
theorem rwE.tr {τ τ1 τ2 : T2} {m m1 : Nat} (h : rwE τ τ1 q m) (h1 : rwE τ1 τ2 q m1) (hm : m ≤ m1) : rwE τ τ2 q m := fun i hi => by
  obtain ⟨a1, a2, a3⟩ := h i hi
  obtain ⟨b1, b2, b3⟩ := h1 i (by omega)
  exact ⟨b1.trans a1, b2.trans a2, b3.trans a3⟩
theorem rwE.eq {τ τ1 : T2} (h : rws τ1 q = rws τ q) (m : Nat) : rwE τ τ1 q m := fun i _ => by rw [h]; exact ⟨rfl, rfl, rfl⟩
theorem rwE.pf {τ τ1 : T2} {m a b : Nat} {g : RSm} (h : rwE τ τ1 q m) (p : PfM (rws τ q) a b g) (hb : b ≤ m) : PfM (rws τ1 q) a b g := p.fr (fun i _ hi => h i (by omega))
def SpM (p : Nat → Nat → PRR) (f : Nat → Int) (n R q D dp : Nat) (run : Nat → T2 → (RS → T2 → Prop) → Prop) : Prop := ∀ (d : Nat) (τ : T2) (Q : RS → T2 → Prop) (a c mn : Nat), D ≤ d → PMs τ f n R a c dp q mn → 2 * mn ≤ a → (∀ e τ1, p a c = .inl e → PKM q τ τ1 → FX2 τ1 → tI τ1 225 6 = e.1 → tI τ1 225 7 = (e.2 : Int) → Q (.inr 225) τ1) → (∀ g a1 c1 m1 τ1, p a c = .inr (g, a1, c1) → PKM q τ τ1 → PMs τ1 f n R a1 c1 dp q m1 → 2 * m1 + a ≤ 2 * mn + a1 → a < a1 → rwE τ τ1 q mn → PfM (rws τ1 q) mn m1 g → Q (.inl none) τ1) → run d τ Q
theorem fkd_t {a : Nat} (ha : a ≤ n) (h : fkd f n a ≠ 0) : a + 2 ≤ tkT f n a := by
  unfold fkd at h
  have q : ∀ t, 2 ≤ t.length → isW f n a t = true → a + 2 ≤ tkT f n a := fun t h2 h => by
    have := isW_t ha h; omega
  split at h
  · exact q wdSol (by decide) (by assumption)
  · split at h
    · exact q wdRid (by decide) (by assumption)
    · split at h
      · exact q wdRnd (by decide) (by assumption)
      · split at h
        · exact q wdMin (by decide) (by assumption)
        · exact absurd rfl h
/-- a fact of the model, from its word's number on: behind it the nots -/
theorem m186f (hR : R ≤ 20) {d : Nat} {τ : T2} {Q : RS → T2 → Prop} {a c dp mn kk m : Nat} (hd : 22 ≤ d) (h : PMs τ f n R a c dp q mn) (hm : 2 * mn ≤ a) (hkk : fkd f n a = kk) (hk0 : kk ≠ 0) (hk4 : kk ≤ 4) (k0 : ∀ e τ1, pFact f n R a c = .inl e → PKM q τ τ1 → FX2 τ1 → tI τ1 225 6 = e.1 → tI τ1 225 7 = (e.2 : Int) → Q (.inr 225) τ1) (k1 : ∀ g a1 c1 m1 τ1, pFact f n R a c = .inr (g, a1, c1) → PKM q τ τ1 → PMs τ1 f n R a1 c1 dp q m1 → 2 * m1 + a ≤ 2 * mn + a1 → a < a1 → rwE τ τ1 q mn → PfM (rws τ1 q) mn m1 g → G d 186 269 [none, vR q, vI (m : Int), none, none] [] τ1 Q) : (tI τ 220 24 = 30 → G (d - 1) 172 0 [vR 220, vI 4] [] τ (KC d 186 174 177 [none, none, none, none, none] [] Q)) ∧ (¬ tI τ 220 24 = 30 → G (d - 1) 177 0 [vR 220, none, none] [] (uI τ 220 24 (wr (tI τ 220 24 + 1))) (KC d 186 189 192 [vR 220, vR q, vI (m : Int), vI ((kk : Int) - 1), none] [] Q)) := by
  have s : ∀ {τ : T2}, FX2 τ → tS τ 220 = (1, 21, 0) := fun F => (s220 F).1
  obtain ⟨hb, h24, h23, h4, ro⟩ := id h
  have ha := hb.2.2.2
  have n3 := hb.2.1.2.1
  have ts := fkd_s (f := f) (n := n) (a := a) (by omega)
  have hT := fkd_t ha (show fkd f n a ≠ 0 by omega)
  have hc : pFact f n R a c = (if c < 30 then (if kk = 3 then (match pNum f n (tkT f n a) 0 5 3 with | .inl e => .inl e | .inr (g, a2) => match pNum f n a2 0 20 3 with | .inl e => .inl e | .inr (v, a3) => .inr (fct 3 v g, a3, c + 1)) else (match pNum f n (tkT f n a) 0 (if kk = 2 then (R : Int) - 1 else if kk = 4 then 9999 else 20) (if kk = 2 then 2 else 3) with | .inl e => .inl e | .inr (v, a3) => .inr (fct (kk : Int) v 0, a3, c + 1))) else .inl (4, tkF f n a) : PRR) := by
    unfold pFact
    rw [hkk, if_neg hk0]
    rfl
  by_cases h30 : c < 30
  · refine ⟨fun z => by rw [h24.1] at z; omega, fun _ => ?_⟩
    rw [if_pos h30] at hc
    rw [h24.1, wr_nat (by omega)]
    obtain ⟨h1, w1⟩ := (h.u (c + 1) dp (Or.inl ⟨rfl, rfl, by omega⟩)).1 rfl
    have p1 : PKM q τ (uI τ 220 24 ((c + 1 : Nat) : Int)) := PKM.rf.j (by unfold PPM; omega)
    generalize uI τ 220 24 ((c + 1 : Nat) : Int) = τ1 at *
    refine m177' h1.1 (by omega) (by omega) (fun τ2 o2 F2 n2 z2 hb2 => ?_)
    obtain ⟨h2, w2⟩ := h1.nx o2 hb2
    have p2 : PKM q τ τ2 := p1.tr (PKM.nx o2 n2 z2)
    have w02 : rws τ2 q = rws τ q := w2.trans w1
    clear w1 w2 o2 n2 z2 p1 h1
    have N2 := F2.1
    -- the row is put
    have put : ∀ (τ3 : T2) (a3 : Nat) (v g x y : Int), PKM q τ τ3 → PMs τ3 f n R a3 (c + 1) dp q mn → rws τ3 q = rws τ q → a + 2 ≤ a3 → pFact f n R a c = .inr (fct (kk : Int) v g, a3, c + 1) → (kk = 3 → x = g ∧ y = v ∧ 0 ≤ g ∧ g < 6) → (kk ≠ 3 → x = v ∧ g = 0) → (kk = 2 → 0 ≤ v ∧ v < 20) → G (d - 1) 153 0 [vR q, vI ((kk : Int) - 1), vI x, vI y] [] τ3 (KC d 186 266 269 [none, vR q, vI (m : Int), none, none] [] Q) := by
      intro τ3 a3 v g x y p3 h3 w3 ha3 he x3 xn x2
      have ha3n := h3.1.2.2.2
      refine m153 h3 (by omega) (fun τ4 p4 h4 r4 e0 e1 e2 => ?_)
      refine k1 _ a3 (c + 1) (mn + 1) τ4 he (p3.tr p4) h4 (by omega) (by omega) ((rwE.eq w3 mn).tr (m1 := mn) (fun i hi => r4 i (by omega)) (Nat.le_refl _)) ?_
      refine PfM_f e0 (by omega) (fun z => ?_) (fun z => ?_) (fun z => x2 (by omega))
      · obtain ⟨y1, y2, y3⟩ := x3 (by omega)
        exact ⟨e1.trans y1, e2.trans y2, y3⟩
      · obtain ⟨y1, y2⟩ := xn (by omega)
        exact ⟨e1.trans y1, y2⟩
    have thr2 : ∀ e τ3, pFact f n R a c = .inl e → THM τ2 τ3 e → Q (.inr 225) τ3 := fun e τ3 he t3 => k0 e τ3 he (p2.tr (PKM.th t3)) t3.2.1 t3.2.2.2.2.1 t3.2.2.2.2.2
    refine t186_192 (r1 := some q) (by omega) (s F2) (fun x0 x1 x2 => ?_) (fun x0 x1 x2 => ?_) (fun x0 x1 => ?_) (fun x0 => ?_)
    · have k4 : kk = 4 := by omega
      rw [if_neg (by omega), if_neg (by omega), if_pos k4, if_neg (by omega)] at hc
      have e9 : pNum f n (tkT f n a) 0 999 3 = pNum f n (tkT f n a) 0 9999 3 := by
        unfold pNum
        by_cases h3 : tkS f n (tkT f n a) = 3
        · have := tkN_b h3
          rw [if_pos h3, if_pos h3, if_pos (by omega), if_pos (by omega)]
        · rw [if_neg h3, if_neg h3]
      rw [← e9] at hc
      refine m182 h2.1 (by omega) (fun e τ3 he t3 => kc_prop rfl rfl (thr2 e τ3 (by rw [hc, he]) t3)) (fun v a3 τ3 he ea hlt hlo hhi o3 F3 n3 z3 hb3 => ?_)
      obtain ⟨h3, w3⟩ := h2.nx o3 hb3
      exact t186_244 (by omega) h3.2.2.2.2.2.2.1 (s F3) (fun _ => put τ3 a3 v 0 v 0 (p2.tr (PKM.nx o3 n3 z3)) h3 (w3.trans w02) (by omega) (by rw [hc, he]) (fun z => by omega) (fun _ => ⟨rfl, rfl⟩) (fun z => by omega)) (fun z => by omega)
    · have k3 : kk = 3 := by omega
      rw [if_pos k3] at hc
      refine m182 h2.1 (by omega) (fun e τ3 he t3 => kc_prop rfl rfl (thr2 e τ3 (by rw [hc, he]) t3)) (fun v a3 τ3 he ea hlt hlo hhi o3 F3 n3 z3 hb3 => ?_)
      obtain ⟨h3, w3⟩ := h2.nx o3 hb3
      have p3 := p2.tr (PKM.nx (q := q) o3 n3 z3)
      rw [he] at hc
      have hc : pFact f n R a c = (match pNum f n a3 0 20 3 with | .inl e => .inl e | .inr (v2, a3) => .inr (fct 3 v2 v, a3, c + 1) : PRR) := hc
      refine t186_233 (by omega) h3.2.2.2.2.2.2.1 (s F3) (fun z => by omega) (fun _ => ?_)
      refine m182 h3.1 (by omega) (fun e τ4 he4 t4 => kc_prop rfl rfl (k0 e τ4 (by rw [hc, he4]) (p3.tr (PKM.th t4)) t4.2.1 t4.2.2.2.2.1 t4.2.2.2.2.2)) (fun v4 a4 τ4 he4 ea4 hlt4 hlo4 hhi4 o4 F4 n4 z4 hb4 => ?_)
      obtain ⟨h4, w4⟩ := h3.nx o4 hb4
      refine t186_262 (r1 := some q) (by omega) h4.2.2.2.2.2.2.1 ?_
      exact put τ4 a4 v4 v v v4 (p3.tr (PKM.nx o4 n4 z4)) h4 (w4.trans (w3.trans w02)) (by omega) (by rw [hc, he4, k3]; rfl) (fun _ => ⟨rfl, rfl, by omega, by omega⟩) (fun z => absurd k3 z) (fun z => by omega)
    · have k2 : kk = 2 := by omega
      rw [if_neg (by omega), if_pos k2, if_pos k2] at hc
      rw [h2.2.2.2.1]
      refine m183 h2.1 (by omega) (fun e τ3 he t3 => kc_prop rfl rfl (thr2 e τ3 (by rw [hc, he]) t3)) (fun v a3 τ3 he ea hlt hlo hhi o3 F3 n3 z3 hb3 => ?_)
      obtain ⟨h3, w3⟩ := h2.nx o3 hb3
      exact t186_219 (by omega) h3.2.2.2.2.2.2.1 (s F3) (fun _ => put τ3 a3 v 0 v 0 (p2.tr (PKM.nx o3 n3 z3)) h3 (w3.trans w02) (by omega) (by rw [hc, he]) (fun z => by omega) (fun _ => ⟨rfl, rfl⟩) (fun z => by omega)) (fun z => by omega)
    · have k1 : kk = 1 := by omega
      rw [if_neg (by omega), if_neg (by omega), if_neg (by omega), if_neg (by omega)] at hc
      refine m182 h2.1 (by omega) (fun e τ3 he t3 => kc_prop rfl rfl (thr2 e τ3 (by rw [hc, he]) t3)) (fun v a3 τ3 he ea hlt hlo hhi o3 F3 n3 z3 hb3 => ?_)
      obtain ⟨h3, w3⟩ := h2.nx o3 hb3
      exact t186_203 (by omega) h3.2.2.2.2.2.2.1 (s F3) (fun _ => put τ3 a3 v 0 v 0 (p2.tr (PKM.nx o3 n3 z3)) h3 (w3.trans w02) (by omega) (by rw [hc, he]) (fun z => by omega) (fun _ => ⟨rfl, rfl⟩) (fun z => by omega)) (fun z => by omega)
  · refine ⟨fun _ => ?_, fun z => ?_⟩
    · rw [if_neg h30] at hc
      exact m172' hb (fun τ1 o F1 n1 z1 e1 e2 => t186_177 (by omega) (s225 F1) (k0 (4, tkF f n a) τ1 hc (PKM.th (e := (4, tkF f n a)) ⟨o, F1, n1, z1, e1, e2⟩) F1 e1 e2))
    · have := h24.2
      rw [h24.1] at z
      omega
/-- the nested reader -/
def NsM (nst : Option (Nat → Nat → PRR)) (f : Nat → Int) (n R q D dp : Nat) : Prop := (nst = none ∧ dp = 8) ∨ ∃ p, nst = some p ∧ dp < 8 ∧ SpM p f n R q D (dp + 1) (fun d τ Q => G d 184 0 [vR 220, vR q] [] τ Q)
/-- readOne -/
theorem m186 (hR : R ≤ 20) {nst : Option (Nat → Nat → PRR)} {D dp : Nat} (H : NsM nst f n R q D dp) (hD : 22 ≤ D) : SpM (pOne nst f n R) f n R q (D + 1) dp (fun d τ Q => G d 186 0 [vR 220, vR q, none, none, none] [] τ Q) := by
  intro d τ Q a c mn hd h hmn k0 k1
  have s : ∀ {τ : T2}, FX2 τ → tS τ 220 = (1, 21, 0) := fun F => (s220 F).1
  refine t186_0 (r1 := some q) ?_
  -- behind the nots
  have beh : ∀ (m a1 : Nat) (τ1 : T2), pNot f n 8 a = .inr (m, a1) → m ≤ 8 → PKM q τ τ1 → rws τ1 q = rws τ q → PMs τ1 f n R a1 c dp q mn → a + 3 * m ≤ a1 → G (d - 1) 180 0 [vR 220, vI 40] [] τ1 (KC d 186 36 39 [vR 220, vR q, vI (m : Int), none, none] [] Q) := by
    intro m a1 τ1 he hm p1 w1 h1 ha1
    have n3 := h1.1.2.1.2.1
    have han := h1.1.2.2.2
    have pe : ∀ e, pIn nst f n R a1 c = .inl e → pOne nst f n R a c = .inl e := fun e q => by
      unfold pOne
      rw [he]
      show (match pIn nst f n R a1 c with | .inl e => .inl e | .inr (g, a2, c2) => .inr (ngt m g, a2, c2) : PRR) = _
      rw [q]
    have pr : ∀ g a2 c2, pIn nst f n R a1 c = .inr (g, a2, c2) → pOne nst f n R a c = .inr (ngt m g, a2, c2) := fun g a2 c2 q => by
      unfold pOne
      rw [he]
      show (match pIn nst f n R a1 c with | .inl e => .inl e | .inr (g, a2, c2) => .inr (ngt m g, a2, c2) : PRR) = _
      rw [q]
    have za : zrem (m : Int) 2 = ((m % 2 : Nat) : Int) := (show ∀ m : Fin 9, zrem ((m.val : Nat) : Int) 2 = ((m.val % 2 : Nat) : Int) from by decide) ⟨m, by omega⟩
    -- the end: a row more where the nots are odd
    have fin : ∀ (τ2 : T2) (g : RSm) (a2 c2 m2 : Nat), pIn nst f n R a1 c = .inr (g, a2, c2) → PKM q τ1 τ2 → PMs τ2 f n R a2 c2 dp q m2 → 2 * m2 + a1 ≤ 2 * mn + a2 → a1 < a2 → rwE τ1 τ2 q mn → PfM (rws τ2 q) mn m2 g → (¬ m % 2 = 1 → Q (.inl none) τ2) ∧ (m % 2 = 1 → G (d - 1) 153 0 [vR q, vI 4, vI 0, vI 0] [] τ2 (KC d 186 280 283 [none, none, none, none, none] [] Q)) := by
      intro τ2 g a2 c2 m2 he2 p2 h2 hm2 ha2 r2 pf
      have han2 := h2.1.2.2.2
      have r02 : rwE τ τ2 q mn := (rwE.eq w1 mn).tr r2 (Nat.le_refl _)
      refine ⟨fun hm1 => ?_, fun hm1 => ?_⟩
      · refine k1 _ a2 c2 m2 τ2 (pr g a2 c2 he2) (p1.tr p2) h2 (by omega) (by omega) r02 ?_
        rw [ngt_e hm1]
        exact pf
      · have hm0 : 1 ≤ m := by omega
        have hle := pf.1
        refine m153 h2 (by omega) (fun τ3 p3 h3 r3 e0 e1 e2 => t186_283 ?_)
        have r3' : rwE τ2 τ3 q m2 := fun i hi => r3 i (by omega)
        refine k1 _ a2 c2 (m2 + 1) τ3 (pr g a2 c2 he2) ((p1.tr p2).tr p3) h3 (by omega) (by omega) (r02.tr r3' hle) ?_
        exact PfM_n (r3'.pf pf (Nat.le_refl _)) e0 hm1
    refine m180 h1.1.1 h1.1.2.2.1 ?_
    cases hs : isS f n a1 40 with
    | true =>
      have ein : pIn nst f n R a1 c = pNst nst f n a1 c := by unfold pIn; rw [if_pos hs]
      have ts4 : tkS f n a1 = 4 := by unfold isS at hs; rw [decide_eq_true_eq] at hs; exact hs.1
      have hT := isS_t han hs
      rcases H with ⟨x1, x2⟩ | ⟨p, x1, x2, H⟩
      · subst x1
        refine t186_39 (r1 := some q) (by omega) (s h1.1.1) (fun z => absurd z (by decide)) (fun _ z => absurd (by rw [h1.2.2.1, x2]; rfl) z) (fun _ _ => ?_)
        refine m172' h1.1 (fun τ2 o F2 n2 z2 e1 e2 => t186_56 (by omega) (s225 F2) (k0 (4, tkF f n a1) τ2 (pe _ (ein.trans rfl)) (p1.tr (PKM.th (e := (4, tkF f n a1)) ⟨o, F2, n2, z2, e1, e2⟩)) F2 e1 e2))
      · subst x1
        refine t186_39 (r1 := some q) (by omega) (s h1.1.1) (fun z => absurd z (by decide)) (fun _ _ => ?_) (fun _ z => by rw [h1.2.2.1] at z; omega)
        rw [h1.2.2.1, wr_nat (by omega)]
        obtain ⟨h2, w2⟩ := (h1.u c (dp + 1) (Or.inr ⟨rfl, Or.inl rfl⟩)).2 rfl
        have p2 : PKM q τ1 (uI τ1 220 23 ((dp + 1 : Nat) : Int)) := PKM.rf.j (by unfold PPM; omega)
        generalize uI τ1 220 23 ((dp + 1 : Nat) : Int) = τ2 at *
        refine m177' h2.1 (by omega) (by omega) (fun τ3 o3 F3 n3 z3 hb3 => ?_)
        obtain ⟨h3, w3⟩ := h2.nx o3 hb3
        have p3 : PKM q τ1 τ3 := p2.tr (PKM.nx o3 n3 z3)
        have w13 : rws τ3 q = rws τ1 q := w3.trans w2
        refine t186_71 (r1 := some q) (by omega) (s F3) ?_
        refine H (d - 1) τ3 _ (tkT f n a1) c mn (by omega) h3 (by omega) (fun e τ4 he4 p4 F4 y1 y2 => kc_prop rfl rfl (k0 e τ4 (pe e (ein.trans ?_)) ((p1.tr p3).tr p4) F4 y1 y2)) (fun g a4 c4 m4 τ4 he4 p4 h4 hm4 ha4 r4 pf4 => ?_)
        · unfold pNst
          simp only [he4]
        · have pn : pNst (some p) f n a1 c = if isS f n a4 41 = true then .inr (g, tkT f n a4, c4) else .inl (1, tkF f n a4) := by
            unfold pNst
            simp only [he4]
          refine t186_76 (r1 := some q) (by omega) (s h4.1.1) (m181 h4.1 (by omega) (fun hs4 τ5 t5 => kc_prop rfl rfl (k0 (1, tkF f n a4) τ5 (pe _ (ein.trans ?_)) (((p1.tr p3).tr p4).tr (PKM.th t5)) t5.2.1 t5.2.2.2.2.1 t5.2.2.2.2.2)) (fun hs4 τ5 o5 F5 n5 z5 hb5 => ?_))
          · rw [pn, if_neg (by rw [hs4]; decide)]
          · have hT4 := isS_t h4.1.2.2.2 hs4
            obtain ⟨h5, w5⟩ := h4.nx o5 hb5
            obtain ⟨h6, w6⟩ := (h5.u c4 dp (Or.inr ⟨rfl, Or.inr rfl⟩)).2 rfl
            have p6 : PKM q τ1 (uI τ5 220 23 (dp : Int)) := ((p3.tr p4).tr (PKM.nx o5 n5 z5)).j (by unfold PPM; omega)
            have e23 : wr (tI τ5 220 23 - 1) = (dp : Int) := by
              rw [h5.2.2.1, wr_id (by unfold okI; omega)]
              omega
            have rr : rws (uI τ5 220 23 (dp : Int)) q = rws τ4 q := w6.trans w5
            obtain ⟨y1, y2⟩ := fin (uI τ5 220 23 (dp : Int)) g (tkT f n a4) c4 m4 (ein.trans (by rw [pn, if_pos hs4])) p6 h6 (by omega) (by omega) (((rwE.eq w13 mn).tr r4 (Nat.le_refl _)).tr (rwE.eq rr mn) (Nat.le_refl _)) (by rw [rr]; exact pf4)
            refine t186_82 (by omega) (s F5) h5.2.2.2.2.2.2.1 (fun z => ?_) (fun z => ?_)
            · rw [e23]; clear e23
              exact y1 (by rw [za] at z; clear za; omega)
            · rw [e23]; clear e23
              exact y2 (by rw [za] at z; clear za; omega)
    | false =>
      have ein : pIn nst f n R a1 c = pFact f n R a1 c := by unfold pIn; rw [if_neg (by rw [hs]; decide)]
      have kb0 : ∀ e τ2, pFact f n R a1 c = .inl e → PKM q τ1 τ2 → FX2 τ2 → tI τ2 225 6 = e.1 → tI τ2 225 7 = (e.2 : Int) → Q (.inr 225) τ2 := fun e τ2 he2 p2 F2 y1 y2 => k0 e τ2 (pe e (ein.trans he2)) (p1.tr p2) F2 y1 y2
      have kb1 : ∀ g a2 c2 m2 τ2, pFact f n R a1 c = .inr (g, a2, c2) → PKM q τ1 τ2 → PMs τ2 f n R a2 c2 dp q m2 → 2 * m2 + a1 ≤ 2 * mn + a2 → a1 < a2 → rwE τ1 τ2 q mn → PfM (rws τ2 q) mn m2 g → G d 186 269 [none, vR q, vI (m : Int), none, none] [] τ2 Q := fun g a2 c2 m2 τ2 he2 p2 h2 hm2 ha2 r2 pf => by
        obtain ⟨y1, y2⟩ := fin τ2 g a2 c2 m2 (ein.trans he2) p2 h2 hm2 ha2 r2 pf
        exact t186_269 (by omega) h2.2.2.2.2.2.2.1 (fun z => y1 (by rw [za] at z; clear za; omega)) (fun z => y2 (by rw [za] at z; clear za; omega))
      have go : ∀ kk, fkd f n a1 = kk → kk ≠ 0 → kk ≤ 4 → (tI τ1 220 24 = 30 → G (d - 1) 172 0 [vR 220, vI 4] [] τ1 (KC d 186 174 177 [none, none, none, none, none] [] Q)) ∧ (¬ tI τ1 220 24 = 30 → G (d - 1) 177 0 [vR 220, none, none] [] (uI τ1 220 24 (wr (tI τ1 220 24 + 1))) (KC d 186 189 192 [vR 220, vR q, vI (m : Int), vI ((kk : Int) - 1), none] [] Q)) := fun kk hk h0 h4 => m186f hR (by omega) h1 (by omega) hk h0 h4 kb0 kb1
      refine t186_39 (r1 := some q) (by omega) (s h1.1.1) (fun _ => ?_) (fun z => absurd rfl z) (fun z => absurd rfl z)
      have K := h1.1.2.2.1
      have F1 := h1.1.1
      refine m179 F1 K (t := wdSol) rfl (by decide) (by omega) ?_
      cases e1 : isW f n a1 wdSol with
      | true =>
        obtain ⟨y1, y2⟩ := go 1 (by unfold fkd; rw [if_pos e1]) (by decide) (by decide)
        exact t186_101 (r1 := some q) (by omega) (s F1) (fun z => absurd z (by decide)) (fun _ _ z => y2 z) (fun _ _ z => y1 z) (fun _ z => absurd z (by decide))
      | false =>
        refine t186_101 (r1 := some q) (by omega) (s F1) (fun _ => ?_) (fun z => absurd rfl z) (fun z => absurd rfl z) (fun z => absurd rfl z)
        refine m179 F1 K (t := wdRid) rfl (by decide) (by omega) ?_
        cases e2 : isW f n a1 wdRid with
        | true =>
          obtain ⟨y1, y2⟩ := go 2 (by unfold fkd; rw [if_neg (by rw [e1]; decide), if_pos e2]) (by decide) (by decide)
          exact t186_115 (r1 := some q) (by omega) (s F1) (fun z => absurd z (by decide)) (fun _ _ z => y2 z) (fun _ _ z => y1 z) (fun _ z => absurd z (by decide))
        | false =>
          refine t186_115 (r1 := some q) (by omega) (s F1) (fun _ => ?_) (fun z => absurd rfl z) (fun z => absurd rfl z) (fun z => absurd rfl z)
          refine m179 F1 K (t := wdRnd) rfl (by decide) (by omega) ?_
          cases e3 : isW f n a1 wdRnd with
          | true =>
            obtain ⟨y1, y2⟩ := go 3 (by unfold fkd; rw [if_neg (by rw [e1]; decide), if_neg (by rw [e2]; decide), if_pos e3]) (by decide) (by decide)
            exact t186_129 (r1 := some q) (by omega) (s F1) (fun z => absurd z (by decide)) (fun _ _ z => y2 z) (fun _ _ z => y1 z) (fun _ z => absurd z (by decide))
          | false =>
            refine t186_129 (r1 := some q) (by omega) (s F1) (fun _ => ?_) (fun z => absurd rfl z) (fun z => absurd rfl z) (fun z => absurd rfl z)
            refine m179 F1 K (t := wdMin) rfl (by decide) (by omega) ?_
            cases e4 : isW f n a1 wdMin with
            | true =>
              obtain ⟨y1, y2⟩ := go 4 (by unfold fkd; rw [if_neg (by rw [e1]; decide), if_neg (by rw [e2]; decide), if_neg (by rw [e3]; decide), if_pos e4]) (by decide) (by decide)
              exact t186_143 (r1 := some q) (by omega) (s F1) (fun z => absurd z (by decide)) (fun z => absurd z (by decide)) (fun z => absurd z (by decide)) (fun _ _ z => y2 z) (fun _ _ z => y1 z) (fun _ z => absurd z (by decide))
            | false =>
              have ef : pFact f n R a1 c = .inl (1, tkF f n a1) := by
                unfold pFact
                rw [if_pos (by unfold fkd; rw [if_neg (by rw [e1]; decide), if_neg (by rw [e2]; decide), if_neg (by rw [e3]; decide), if_neg (by rw [e4]; decide)])]
              refine t186_143 (r1 := some q) (by omega) (s F1) (fun _ z => absurd rfl z) (fun _ z => absurd rfl z) (fun _ _ => ?_) (fun z => absurd rfl z) (fun z => absurd rfl z) (fun z => absurd rfl z)
              exact m172' h1.1 (fun τ2 o F2 n2 z2 e1 e2 => t186_162 (by omega) (s225 F2) (kb0 (1, tkF f n a1) τ2 ef (PKM.th (e := (1, tkF f n a1)) ⟨o, F2, n2, z2, e1, e2⟩) F2 e1 e2))
  -- the nots
  have lp : ∀ (j m a1 : Nat) (τ1 : T2), m + j = 8 → (∀ e, pNot f n j a1 = .inl e → pNot f n 8 a = .inl e) → (∀ x b, pNot f n j a1 = .inr (x, b) → pNot f n 8 a = .inr (m + x, b)) → PKM q τ τ1 → rws τ1 q = rws τ q → PMs τ1 f n R a1 c dp q mn → a + 3 * m ≤ a1 → G d 186 2 [vR 220, vR q, vI (m : Int), none, none] [] τ1 Q := by
    intro j
    induction j with
    | zero =>
      intro m a1 τ1 hm e0 e1 p1 w1 h1 ha1
      have hm8 : m = 8 := by omega
      refine t186_2 (r1 := some q) (by omega) (s h1.1.1) (m179 h1.1.1 h1.1.2.2.1 (t := wdNot) rfl (by decide) (by omega) ?_)
      cases hw : isW f n a1 wdNot with
      | true =>
        refine t186_8 (r1 := some q) (by omega) (s h1.1.1) (fun z => absurd z (by decide)) (fun _ z => by omega) (fun _ _ => m172' h1.1 (fun τ2 o F2 n2 z2 y1 y2 => t186_22 (by omega) (s225 F2) (k0 (4, tkF f n a1) τ2 ?_ (p1.tr (PKM.th (e := (4, tkF f n a1)) ⟨o, F2, n2, z2, y1, y2⟩)) F2 y1 y2)))
        unfold pOne
        rw [e0 (4, tkF f n a1) (by unfold pNot; rw [if_pos hw])]
      | false =>
        refine t186_8 (r1 := some q) (by omega) (s h1.1.1) (fun _ => ?_) (fun z => absurd rfl z) (fun z => absurd rfl z)
        exact beh m a1 τ1 (e1 0 a1 (by unfold pNot; rw [if_neg (by rw [hw]; decide)])) (by omega) p1 w1 h1 ha1
    | succ j ih =>
      intro m a1 τ1 hm e0 e1 p1 w1 h1 ha1
      refine t186_2 (r1 := some q) (by omega) (s h1.1.1) (m179 h1.1.1 h1.1.2.2.1 (t := wdNot) rfl (by decide) (by omega) ?_)
      cases hw : isW f n a1 wdNot with
      | true =>
        have hT := isW_t h1.1.2.2.2 hw
        have hT3 : a1 + 3 ≤ tkT f n a1 := hT.1
        have ts2 : tkS f n a1 = 2 := by unfold isW at hw; rw [decide_eq_true_eq] at hw; exact hw.1
        refine t186_8 (r1 := some q) (by omega) (s h1.1.1) (fun z => absurd z (by decide)) (fun _ _ => ?_) (fun _ z => by omega)
        rw [wr_nat (by omega)]
        refine m177' h1.1 (by omega) (by omega) (fun τ2 o2 F2 n2 z2 hb2 => t186_30 (r1 := some q) ?_)
        obtain ⟨h2, w2⟩ := h1.nx o2 hb2
        refine ih (m + 1) (tkT f n a1) τ2 (by omega) (fun e he => e0 e ?_) (fun x b he => ?_) (p1.tr (PKM.nx o2 n2 z2)) (w2.trans w1) h2 (by omega)
        · simp only [pNot]
          rw [if_pos hw, he]
        · rw [e1 (x + 1) b (by simp only [pNot]; rw [if_pos hw, he])]
          rw [show m + (x + 1) = m + 1 + x by omega]
      | false =>
        refine t186_8 (r1 := some q) (by omega) (s h1.1.1) (fun _ => ?_) (fun z => absurd rfl z) (fun z => absurd rfl z)
        exact beh m a1 τ1 (e1 0 a1 (by simp only [pNot]; rw [if_neg (by rw [hw]; decide)])) (by omega) p1 w1 h1 ha1
  exact lp 8 0 a τ rfl (fun _ h => h) (fun x b h => by rw [h, Nat.zero_add]) PKM.rf rfl h (by omega)
/-- readAll -/
theorem m185 {p : Nat → Nat → PRR} {D dp : Nat} (hD : 20 ≤ D) (H : SpM p f n R q D dp (fun d τ Q => G d 186 0 [vR 220, vR q, none, none, none] [] τ Q)) : SpM (pLst p wdAnd false f n) f n R q (D + 1) dp (fun d τ Q => G d 185 0 [vR 220, vR q] [] τ Q) := by
  intro d τ Q a c mn hd h hmn k0 k1
  have s : ∀ {τ : T2}, FX2 τ → tS τ 220 = (1, 21, 0) := fun F => (s220 F).1
  have lp : ∀ (j : Nat) (τ1 : T2) (g : RSm) (a1 c1 m1 : Nat), 300 ≤ a1 + j → PKM q τ τ1 → PMs τ1 f n R a1 c1 dp q m1 → 2 * m1 + a ≤ 2 * mn + a1 → a < a1 → rwE τ τ1 q mn → PfM (rws τ1 q) mn m1 g → pLst p wdAnd false f n a c = pLop p wdAnd false f n j g a1 c1 → G d 185 5 [vR 220, vR q] [] τ1 Q := by
    intro j
    induction j with
    | zero =>
      intro τ1 g a1 c1 m1 hj p1 h1 hm1 ha1 r1 pf he
      have n3 := h1.1.2.1.2.1
      have han := h1.1.2.2.2
      have hw : isW f n a1 wdAnd = false := by
        cases hw : isW f n a1 wdAnd with
        | false => rfl
        | true => have := isW_t han hw; omega
      refine t185_5 (r1 := some q) (by omega) (s h1.1.1) (m179 h1.1.1 h1.1.2.2.1 (t := wdAnd) rfl (by decide) (by omega) ?_)
      rw [hw]
      exact t185_11 (r1 := some q) (by omega) (s h1.1.1) (fun _ => k1 g a1 c1 m1 τ1 he p1 h1 hm1 ha1 r1 pf) (fun z => absurd rfl z)
    | succ j ih =>
      intro τ1 g a1 c1 m1 hj p1 h1 hm1 ha1 r1 pf he
      have n3 := h1.1.2.1.2.1
      have han := h1.1.2.2.2
      simp only [pLop] at he
      refine t185_5 (r1 := some q) (by omega) (s h1.1.1) (m179 h1.1.1 h1.1.2.2.1 (t := wdAnd) rfl (by decide) (by omega) ?_)
      cases hw : isW f n a1 wdAnd with
      | false =>
        rw [if_neg (by rw [hw]; decide)] at he
        exact t185_11 (r1 := some q) (by omega) (s h1.1.1) (fun _ => k1 g a1 c1 m1 τ1 he p1 h1 hm1 ha1 r1 pf) (fun z => absurd rfl z)
      | true =>
        have hT := isW_t han hw
        have hT2 : a1 + 2 ≤ tkT f n a1 := by
          have : 2 ≤ (wdAnd).length := by decide
          omega
        have ts2 : tkS f n a1 = 2 := by unfold isW at hw; rw [decide_eq_true_eq] at hw; exact hw.1
        rw [if_pos hw] at he
        refine t185_11 (r1 := some q) (by omega) (s h1.1.1) (fun z => absurd z (by decide)) (fun _ => ?_)
        refine m177' h1.1 (by omega) (by omega) (fun τ2 o2 F2 n2 z2 hb2 => t185_18 (r1 := some q) (by omega) (s F2) ?_)
        obtain ⟨h2, w2⟩ := h1.nx o2 hb2
        have p2 : PKM q τ τ2 := p1.tr (PKM.nx o2 n2 z2)
        refine H (d - 1) τ2 _ (tkT f n a1) c1 m1 (by omega) h2 (by omega) (fun e τ3 he3 p3 F3 y1 y2 => kc_prop rfl rfl (k0 e τ3 (by rw [he, he3]) (p2.tr p3) F3 y1 y2)) (fun g3 a3 c3 m3 τ3 he3 p3 h3 hm3 ha3 r3 pf3 => ?_)
        have han3 := h3.1.2.2.2
        refine t185_23 (by omega) h3.2.2.2.2.2.2.1 ?_
        refine m153 h3 (by omega) (fun τ4 p4 h4 r4 e0 e1 e2 => t185_30 (r1 := some q) ?_)
        have r4' : rwE τ3 τ4 q m3 := fun i hi => r4 i (by omega)
        have hle := pf.1
        have hle3 := pf3.1
        have r13 : rwE τ1 τ3 q m1 := (rwE.eq w2 m1).tr r3 (Nat.le_refl _)
        have r14 : rwE τ1 τ4 q m1 := r13.tr r4' hle3
        refine ih τ4 (cmb false g g3) a3 c3 (m3 + 1) (by omega) ((p2.tr p3).tr p4) h4 (by omega) (by omega) (r1.tr r14 hle) ?_ (by rw [he, he3])
        exact PfM_c (r14.pf pf (Nat.le_refl _)) (r4'.pf pf3 (Nat.le_refl _)) (by rw [e0]; rfl)
  refine t185_0 (r1 := some q) (by omega) (s h.1.1) (H (d - 1) τ _ a c mn (by omega) h hmn (fun e τ1 he p1 F1 y1 y2 => kc_prop rfl rfl (k0 e τ1 ?_ p1 F1 y1 y2)) (fun g a1 c1 m1 τ1 he p1 h1 hm1 ha1 r1 pf => ?_))
  · unfold pLst
    rw [he]
  · refine lp 300 τ1 g a1 c1 m1 (by omega) p1 h1 hm1 ha1 r1 pf ?_
    unfold pLst
    rw [he]
/-- readAny -/
theorem m184 {p : Nat → Nat → PRR} {D dp : Nat} (hD : 20 ≤ D) (H : SpM p f n R q D dp (fun d τ Q => G d 185 0 [vR 220, vR q] [] τ Q)) : SpM (pLst p wdOr true f n) f n R q (D + 1) dp (fun d τ Q => G d 184 0 [vR 220, vR q] [] τ Q) := by
  intro d τ Q a c mn hd h hmn k0 k1
  have s : ∀ {τ : T2}, FX2 τ → tS τ 220 = (1, 21, 0) := fun F => (s220 F).1
  have lp : ∀ (j : Nat) (τ1 : T2) (g : RSm) (a1 c1 m1 : Nat), 300 ≤ a1 + j → PKM q τ τ1 → PMs τ1 f n R a1 c1 dp q m1 → 2 * m1 + a ≤ 2 * mn + a1 → a < a1 → rwE τ τ1 q mn → PfM (rws τ1 q) mn m1 g → pLst p wdOr true f n a c = pLop p wdOr true f n j g a1 c1 → G d 184 5 [vR 220, vR q] [] τ1 Q := by
    intro j
    induction j with
    | zero =>
      intro τ1 g a1 c1 m1 hj p1 h1 hm1 ha1 r1 pf he
      have n3 := h1.1.2.1.2.1
      have han := h1.1.2.2.2
      have hw : isW f n a1 wdOr = false := by
        cases hw : isW f n a1 wdOr with
        | false => rfl
        | true => have := isW_t han hw; omega
      refine t184_5 (r1 := some q) (by omega) (s h1.1.1) (m179 h1.1.1 h1.1.2.2.1 (t := wdOr) rfl (by decide) (by omega) ?_)
      rw [hw]
      exact t184_11 (r1 := some q) (by omega) (s h1.1.1) (fun _ => k1 g a1 c1 m1 τ1 he p1 h1 hm1 ha1 r1 pf) (fun z => absurd rfl z)
    | succ j ih =>
      intro τ1 g a1 c1 m1 hj p1 h1 hm1 ha1 r1 pf he
      have n3 := h1.1.2.1.2.1
      have han := h1.1.2.2.2
      simp only [pLop] at he
      refine t184_5 (r1 := some q) (by omega) (s h1.1.1) (m179 h1.1.1 h1.1.2.2.1 (t := wdOr) rfl (by decide) (by omega) ?_)
      cases hw : isW f n a1 wdOr with
      | false =>
        rw [if_neg (by rw [hw]; decide)] at he
        exact t184_11 (r1 := some q) (by omega) (s h1.1.1) (fun _ => k1 g a1 c1 m1 τ1 he p1 h1 hm1 ha1 r1 pf) (fun z => absurd rfl z)
      | true =>
        have hT := isW_t han hw
        have hT2 : a1 + 2 ≤ tkT f n a1 := by
          have : 2 ≤ (wdOr).length := by decide
          omega
        have ts2 : tkS f n a1 = 2 := by unfold isW at hw; rw [decide_eq_true_eq] at hw; exact hw.1
        rw [if_pos hw] at he
        refine t184_11 (r1 := some q) (by omega) (s h1.1.1) (fun z => absurd z (by decide)) (fun _ => ?_)
        refine m177' h1.1 (by omega) (by omega) (fun τ2 o2 F2 n2 z2 hb2 => t184_18 (r1 := some q) (by omega) (s F2) ?_)
        obtain ⟨h2, w2⟩ := h1.nx o2 hb2
        have p2 : PKM q τ τ2 := p1.tr (PKM.nx o2 n2 z2)
        refine H (d - 1) τ2 _ (tkT f n a1) c1 m1 (by omega) h2 (by omega) (fun e τ3 he3 p3 F3 y1 y2 => kc_prop rfl rfl (k0 e τ3 (by rw [he, he3]) (p2.tr p3) F3 y1 y2)) (fun g3 a3 c3 m3 τ3 he3 p3 h3 hm3 ha3 r3 pf3 => ?_)
        have han3 := h3.1.2.2.2
        refine t184_23 (by omega) h3.2.2.2.2.2.2.1 ?_
        refine m153 h3 (by omega) (fun τ4 p4 h4 r4 e0 e1 e2 => t184_31 (r1 := some q) ?_)
        have r4' : rwE τ3 τ4 q m3 := fun i hi => r4 i (by omega)
        have hle := pf.1
        have hle3 := pf3.1
        have r13 : rwE τ1 τ3 q m1 := (rwE.eq w2 m1).tr r3 (Nat.le_refl _)
        have r14 : rwE τ1 τ4 q m1 := r13.tr r4' hle3
        refine ih τ4 (cmb true g g3) a3 c3 (m3 + 1) (by omega) ((p2.tr p3).tr p4) h4 (by omega) (by omega) (r1.tr r14 hle) ?_ (by rw [he, he3])
        exact PfM_c (r14.pf pf (Nat.le_refl _)) (r4'.pf pf3 (Nat.le_refl _)) (by rw [e0]; rfl)
  refine t184_0 (r1 := some q) (by omega) (s h.1.1) (H (d - 1) τ _ a c mn (by omega) h hmn (fun e τ1 he p1 F1 y1 y2 => kc_prop rfl rfl (k0 e τ1 ?_ p1 F1 y1 y2)) (fun g a1 c1 m1 τ1 he p1 h1 hm1 ha1 r1 pf => ?_))
  · unfold pLst
    rw [he]
  · refine lp 300 τ1 g a1 c1 m1 (by omega) p1 h1 hm1 ha1 r1 pf ?_
    unfold pLst
    rw [he]
theorem mRul (hR : R ≤ 20) : ∀ k, k ≤ 8 → SpM (pRul f n R k) f n R q (32 + 4 * k) (8 - k) (fun d τ Q => G d 184 0 [vR 220, vR q] [] τ Q) := by
  intro k
  induction k with
  | zero =>
    intro _
    have H : NsM none f n R q 22 8 := Or.inl ⟨rfl, rfl⟩
    have := m184 (by omega) (m185 (by omega) (m186 hR H (by omega)))
    exact fun d τ Q a c z hd => this d τ Q a c z (by omega)
  | succ k ih =>
    intro hk
    have H : NsM (some (pRul f n R k)) f n R q (32 + 4 * k) (8 - (k + 1)) := by
      refine Or.inr ⟨pRul f n R k, rfl, by omega, ?_⟩
      rw [show 8 - (k + 1) + 1 = 8 - k by omega]
      exact ih (by omega)
    have := m184 (by omega) (m185 (by omega) (m186 hR H (by omega)))
    exact fun d τ Q a c z hd => this d τ Q a c z (by omega)
end RDM
