/-! RULES read by the class -/
def PPC (a k : Nat) : Prop := (a = 73 ∧ 2 ≤ k ∧ k ≠ 9) ∨ a = 75
def PC (τ : T2) (f : Nat → Int) (n a c z : Nat) : Prop := FX2 τ ∧ TxC τ f n ∧ TkC τ f n a ∧ a ≤ n ∧ tI τ 73 8 = (c : Int) ∧ tI τ 73 10 = (z : Int)
def PK (τ τ1 : T2) : Prop := OC PPC τ τ1 ∧ tN τ1 = tN τ ∧ tZ τ1 = tZ τ
theorem PK.rf {τ : T2} : PK τ τ := ⟨OC.rf, rfl, rfl⟩
theorem PK.tr {τ τ1 τ2 : T2} (h : PK τ τ1) (h1 : PK τ1 τ2) : PK τ τ2 := ⟨h.1.tr h1.1, h1.2.1.trans h.2.1, h1.2.2.trans h.2.2⟩
theorem PK.j {τ τ1 : T2} {a k : Nat} {x : Int} (h : PK τ τ1) (hp : PPC a k) : PK τ (uI τ1 a k x) := ⟨h.1.j hp, h.2.1, h.2.2⟩
section PCS
variable {d : Nat} {τ : T2} {Q : RS → T2 → Prop} {f : Nat → Int} {n a c z : Nat}
theorem s73 (F : FX2 τ) : tS τ 73 = (1, 9, 0) ∧ tP τ 73 9 = some 75 ∧ tS τ 75 = (2, 0, 1200) := ⟨F.sh rfl (by omega) (by omega), F.p rfl, F.sh rfl (by omega) (by omega)⟩
/-- a change that leaves text and token alone -/
theorem PC.up {τ1 : T2} {P : Nat → Nat → Prop} (h : PC τ f n a c z) (F1 : FX2 τ1) (o : OC P τ τ1) (hp : ∀ b k, P b k → b = 75 ∨ (b = 73 ∧ (k = 6 ∨ k = 7 ∨ k = 8 ∨ k = 10))) {c1 z1 : Nat} (h8 : tI τ1 73 8 = (c1 : Int)) (h10 : tI τ1 73 10 = (z1 : Int)) : PC τ1 f n a c1 z1 := by
  obtain ⟨F, X, K, ha, -, -⟩ := h
  exact ⟨F1, X.oc F o (fun b k q => by have := hp b k q; omega), K.oc F o (fun b k q => by have := hp b k q; unfold NXC; omega), ha, h8, h10⟩
theorem c68' (h : PC τ f n a c z) (hd : 1 ≤ d) (k : ∀ τ1, PK τ τ1 → (∀ i, tI τ1 75 i = tI τ 75 i) → PC τ1 f n (tkT f n a) c z → Q (.inl none) τ1) : G d 68 0 [vR 73, none, none, none] [] τ Q := by
  obtain ⟨F, X, K, ha, h8, h10⟩ := h
  have N := F.1
  have hT := tkT_le (f := f) ha
  refine c68 F X K.2.1 hT.2 hd (fun τ1 o F1 n1 z1 _ K1 => ?_)
  have sm : ∀ b k, b < 473 → ¬ NXC b k → tI τ1 b k = tI τ b k := fun b k h1 h2 => (o.2.2.2 b k (by omega) h2).1
  exact k τ1 ⟨o.mo fun b k q => by unfold NXC at q; unfold PPC; omega, n1, z1⟩ (fun i => sm 75 i (by omega) (by unfold NXC; omega)) ⟨F1, X.oc F o (fun b k q => by unfold NXC at q; omega), K1, hT.2, by rw [sm 73 8 (by omega) (by unfold NXC; omega)]; exact h8, by rw [sm 73 10 (by omega) (by unfold NXC; omega)]; exact h10⟩
theorem c76' (h : PC τ f n a c z) {x : Int} (k : ∀ τ1, PK τ τ1 → FX2 τ1 → tI τ1 73 6 = x → tI τ1 73 7 = (tkF f n a : Int) → Q (.inl (some (AI 0))) τ1) : G d 76 0 [vR 73, vI x] [] τ Q := by
  obtain ⟨F, X, K, ha, h8, h10⟩ := h
  refine t76_0 (s73 F).1 (k _ ((PK.rf.j (by unfold PPC; omega)).j (by unfold PPC; omega)) F.j.j ?_ ?_)
  · rw [tI_uI, if_neg (by decide), tI_uI, if_pos ⟨rfl, rfl⟩]
  · rw [tI_uI, if_pos ⟨rfl, rfl⟩, tI_uI, if_neg (by decide)]
    exact K.1
theorem c75' (h : PC τ f n a c z) (hd : 1 ≤ d) (k1 : tkS f n a = 0 → Q (.inl (some (AI 1))) τ) (k0 : tkS f n a ≠ 0 → ∀ τ1, PK τ τ1 → FX2 τ1 → tI τ1 73 6 = 1 → tI τ1 73 7 = (tkF f n a : Int) → Q (.inl (some (AI 0))) τ1) : G d 75 0 [vR 73] [] τ Q := by
  have K := h.2.2.1
  refine t75_0 hd (s73 h.1).1 (fun q => k1 (K.e.mp q)) (fun q => ?_)
  exact c76' h (fun τ1 p F1 e1 e2 => t75_12 (fun _ => k0 (fun y => q (K.e.mpr y)) τ1 p F1 e1 e2) (fun y => absurd rfl y))
theorem c74' (h : PC τ f n a c z) {lo hi fb : Int} (hd : 1 ≤ d) (k0 : ∀ e τ1, pNum f n a lo hi fb = .inl e → PK τ τ1 → FX2 τ1 → tI τ1 73 6 = e.1 → tI τ1 73 7 = (e.2 : Int) → Q (.inl (some (AI 0))) τ1) (k1 : ∀ v a1, pNum f n a lo hi fb = .inr (v, a1) → a1 = tkT f n a → a < a1 → lo ≤ v → v ≤ hi → tI τ 73 3 = v → Q (.inl (some (AI 1))) τ) : G d 74 0 [vR 73, vI lo, vI hi, vI fb] [] τ Q := by
  have K := h.2.2.1
  obtain ⟨n1, n2⟩ := K.nu
  have no : tkS f n a = 3 → ¬ (lo ≤ tkN f n a ∧ tkN f n a ≤ hi) → ∀ (τ1 : T2), PK τ τ1 → FX2 τ1 → tI τ1 73 6 = fb → tI τ1 73 7 = (tkF f n a : Int) → Q (.inl (some (AI 0))) τ1 := fun h3 hb τ1 p F1 e1 e2 => k0 (fb, tkF f n a) τ1 (by unfold pNum; rw [if_pos h3, if_neg hb]) p F1 e1 e2
  refine t74_0 hd (s73 h.1).1 (fun q1 q2 => ?_) (fun q1 q2 q3 => ?_) (fun q1 q2 q3 => ?_) (fun q => ?_)
  · have h3 := n1.mp q1
    rw [n2 h3] at q2
    exact c76' h (fun τ1 p F1 e1 e2 => t74_35 (fun _ => no h3 (by omega) τ1 p F1 e1 e2) (fun y => absurd rfl y))
  · have h3 := n1.mp q1
    rw [n2 h3] at q2 q3
    exact k1 (tkN f n a) (tkT f n a) (by unfold pNum; rw [if_pos h3, if_pos ⟨q2, q3⟩]) rfl (tk_w h.2.2.2.1 (by omega)).1 q2 q3 (n2 h3)
  · have h3 := n1.mp q1
    rw [n2 h3] at q2 q3
    exact c76' h (fun τ1 p F1 e1 e2 => t74_35 (fun _ => no h3 (by omega) τ1 p F1 e1 e2) (fun y => absurd rfl y))
  · refine c76' h (fun τ1 p F1 e1 e2 => t74_13 (by decide) (k0 (1, tkF f n a) τ1 ?_ p F1 e1 e2))
    unfold pNum
    rw [if_neg (fun y => q (n1.mpr y))]
theorem c77' (h : PC τ f n a c z) {m : Nat} (hm : m ≤ 1000) (hd : 1 ≤ d) (k1 : c < m → ∀ τ1, PK τ τ1 → (∀ i, tI τ1 75 i = tI τ 75 i) → PC τ1 f n a (c + 1) z → Q (.inl (some (AI 1))) τ1) (k0 : ¬ c < m → ∀ τ1, PK τ τ1 → FX2 τ1 → tI τ1 73 6 = 4 → tI τ1 73 7 = (tkF f n a : Int) → Q (.inl (some (AI 0))) τ1) : G d 77 0 [vR 73, vI (m : Int)] [] τ Q := by
  obtain ⟨F, X, K, ha, h8, h10⟩ := id h
  refine t77_0 hd (s73 F).1 (fun q => ?_) (fun q => ?_)
  · rw [h8] at q
    rw [h8, wr_nat (by omega)]
    refine k1 (by omega) _ (PK.rf.j (by unfold PPC; omega)) (fun i => by rw [tI_uI, if_neg (by omega)]) (h.up F.j (OC.j (P := fun b k => b = 73 ∧ k = 8) OC.rf ⟨rfl, rfl⟩) (fun b k q => by omega) (by rw [tI_uI, if_pos ⟨rfl, rfl⟩]) (by rw [tI_uI, if_neg (by decide)]; exact h10))
  · rw [h8] at q
    exact c76' h (fun τ1 p F1 e1 e2 => t77_13 (by decide) (k0 (by omega) τ1 p F1 e1 e2))
theorem c78' (h : PC τ f n a c z) {x y w : Int} (hz : z + 3 ≤ 1200) (k : ∀ τ1, PK τ τ1 → (∀ i, i ≠ z → i ≠ z + 1 → i ≠ z + 2 → tI τ1 75 i = tI τ 75 i) → tI τ1 75 z = x → tI τ1 75 (z + 1) = y → tI τ1 75 (z + 2) = w → PC τ1 f n a c (z + 3) → Q (.inl (some (AI (z : Int)))) τ1) : G d 78 0 [vR 73, vI x, vI y, vI w, none] [] τ Q := by
  obtain ⟨F, X, K, ha, h8, h10⟩ := id h
  obtain ⟨q1, q2, q3⟩ := s73 F
  have e3 : wr (tI τ 73 10 + 3) = ((z + 3 : Nat) : Int) := by rw [h10, wr_id (by unfold okI; omega)]; omega
  have e1 : wr (tI τ 73 10 + 1) = ((z + 1 : Nat) : Int) := by rw [h10, wr_id (by unfold okI; omega)]; omega
  have e2 : wr (tI τ 73 10 + 2) = ((z + 2 : Nat) : Int) := by rw [h10, wr_id (by unfold okI; omega)]; omega
  refine t78_0 (n4 := 1200) q1 q2 q3 (fun _ => by rw [h10]; clear e1 e2 e3; omega) (fun _ => by rw [e1]; clear e1 e2 e3; omega) (fun _ => by rw [e2]; clear e1 e2 e3; omega) (fun _ τ1 ht => ?_) (fun q => absurd q (by rw [e3]; clear e1 e2 e3; omega))
  rw [e1, e2, h10, Int.toNat_natCast, Int.toNat_natCast, Int.toNat_natCast] at ht
  have e4 : tI (uI (uI (uI τ 75 z x) 75 (z + 1) y) 75 (z + 2) w) 73 10 = (z : Int) := by rw [tI_uI, if_neg (by omega), tI_uI, if_neg (by omega), tI_uI, if_neg (by omega)]; exact h10
  rw [e4, wr_id (by unfold okI; omega)] at ht
  clear e1 e2 e3 e4
  subst ht
  rw [h10]
  have pk : PK τ (uI (uI (uI (uI τ 75 z x) 75 (z + 1) y) 75 (z + 2) w) 73 10 ((z : Int) + 3)) := (((PK.rf.j (by unfold PPC; omega)).j (by unfold PPC; omega)).j (by unfold PPC; omega)).j (by unfold PPC; omega)
  have o : OC (fun b k => b = 75 ∨ (b = 73 ∧ k = 10)) τ (uI (uI (uI (uI τ 75 z x) 75 (z + 1) y) 75 (z + 2) w) 73 10 ((z : Int) + 3)) := OC.j (P := fun b k => b = 75 ∨ (b = 73 ∧ k = 10)) (OC.j (P := fun b k => b = 75 ∨ (b = 73 ∧ k = 10)) (OC.j (P := fun b k => b = 75 ∨ (b = 73 ∧ k = 10)) (OC.j (P := fun b k => b = 75 ∨ (b = 73 ∧ k = 10)) OC.rf (by omega)) (by omega)) (by omega)) (by omega)
  refine k _ pk (fun i h1 h2 h3 => ?_) ?_ ?_ ?_ (h.up F.j.j.j.j o (fun b k q => by omega) ?_ ?_)
  · rw [tI_uI, if_neg (by omega), tI_uI, if_neg (by omega), tI_uI, if_neg (by omega), tI_uI, if_neg (by omega)]
  · rw [tI_uI, if_neg (by omega), tI_uI, if_neg (by omega), tI_uI, if_neg (by omega), tI_uI, if_pos ⟨rfl, rfl⟩]
  · rw [tI_uI, if_neg (by omega), tI_uI, if_neg (by omega), tI_uI, if_pos ⟨rfl, rfl⟩]
  · rw [tI_uI, if_neg (by omega), tI_uI, if_pos ⟨rfl, rfl⟩]
  · rw [tI_uI, if_neg (by omega), tI_uI, if_neg (by omega), tI_uI, if_neg (by omega), tI_uI, if_neg (by omega)]; exact h8
  · rw [tI_uI, if_pos ⟨rfl, rfl⟩]; omega
/-- the chain is aimed -/
theorem c80 (h : PC τ f n a c z) (hz : z ≤ 1200) {J : List Nat} {x : Int} {lo : Nat} (hc : ChL (tI τ 75) J x) (hj : JOk lo J z) (k : ∀ τ1, PK τ τ1 → PC τ1 f n a c z → (∀ i, (∀ j ∈ J, i ≠ j + 1) → tI τ1 75 i = tI τ 75 i) → (∀ j ∈ J, tI τ1 75 (j + 1) = (z : Int)) → Q (.inl none) τ1) : G d 80 0 [vR 73, vI x, none, none, none] [] τ Q := by
  have h10 := h.2.2.2.2.2
  have lp : ∀ (J0 : List Nat) (τ1 : T2) (y : Int) (b l : Nat), FX2 τ1 → tI τ1 73 10 = (z : Int) → ChL (tI τ1 75) J0 y → JOk lo J0 b → b ≤ z → J0.length ≤ l → l ≤ 400 → (∀ τ2, OC (fun b _ => b = 75) τ1 τ2 → FX2 τ2 → tN τ2 = tN τ1 → tZ τ2 = tZ τ1 → (∀ i, (∀ j ∈ J0, i ≠ j + 1) → tI τ2 75 i = tI τ1 75 i) → (∀ j ∈ J0, tI τ2 75 (j + 1) = (z : Int)) → Q (.inl none) τ2) → G d 80 6 [vR 73, none, vI y, vI (l : Int), none] [] τ1 Q := by
    intro J0
    induction J0 with
    | nil =>
      intro τ1 y b l F1 e1 hc hj hb hl hl4 k
      have ey : y = -1 := hc
      subst ey
      obtain ⟨q1, q2, q3⟩ := s73 F1
      have fin := k τ1 OC.rf F1 rfl rfl (fun _ _ => rfl) (fun j hj => absurd hj (by simp))
      exact t80_6 (n7 := 1200) q1 q2 q3 (fun _ q => absurd q (by decide)) (fun _ => fin) (fun _ _ => fin) (fun _ q => absurd q (by decide)) (fun _ q => absurd q (by decide))
    | cons j J0 ih =>
      intro τ1 y b l F1 e1 hc hj hb hl hl4 k
      obtain ⟨ey, hc2⟩ := hc
      subst ey
      obtain ⟨j1, j2, j3⟩ := hj
      obtain ⟨q1, q2, q3⟩ := s73 F1
      simp only [List.length_cons] at hl
      have ej : wr ((j : Int) + 1) = ((j + 1 : Nat) : Int) := wr_nat (by omega)
      refine t80_6 (n7 := 1200) q1 q2 q3 (fun _ _ _ => by rw [ej]; clear ej; omega) (fun q => by clear ej; omega) (fun _ q => by clear ej; omega) (fun _ _ q => absurd q (by rw [ej, e1]; clear ej; omega)) (fun _ _ _ => ?_)
      rw [ej, e1, Int.toNat_natCast]
      have el : wr ((l : Int) + (-1)) = ((l - 1 : Nat) : Int) := by rw [wr_id (by unfold okI; omega)]; omega
      rw [el]
      clear ej el
      have lt := JOk.lt J0 j3
      refine ih _ _ j (l - 1) F1.j ?_ (ChL.fr J0 hc2 j3 (fun i h1 h2 => ?_)) j3 (by omega) (by omega) (by omega) (fun τ2 o F2 n2 z2 h1 h2 => k τ2 ?_ F2 n2 z2 (fun i hi => ?_) (fun p hp => ?_))
      · rw [tI_uI, if_neg (by omega)]; exact e1
      · rw [tI_uI, if_neg (by omega)]
      · exact (OC.ad OC.rf).tr o
      · rw [h1 i (fun p hp => hi p (List.mem_cons_of_mem _ hp)), tI_uI, if_neg (fun q => hi j (by simp) q.2)]
      · by_cases ep : p ∈ J0
        · exact h2 p ep
        · have : p = j := by
            rcases List.mem_cons.mp hp with q | q
            · exact q
            · exact absurd q ep
          subst this
          rw [h1 (p + 1) (fun i hi => by have := lt i hi; omega), tI_uI, if_pos ⟨rfl, rfl⟩]
  have hl := JOk.len J hj
  refine t80_0 (lp J τ x z 400 h.1 h10 hc hj (Nat.le_refl _) (by omega) (Nat.le_refl _) (fun τ2 o F2 n2 z2 h1 h2 => ?_))
  have N := h.1.1
  refine k τ2 ⟨o.mo fun b k q => by unfold PPC; omega, n2, z2⟩ (h.up F2 o (fun b k q => by omega) ?_ ?_) h1 h2
  · rw [(o.2.2.2 73 8 (by omega) (by omega)).1]; exact h.2.2.2.2.1
  · rw [(o.2.2.2 73 10 (by omega) (by omega)).1]; exact h10
end PCS
/-- what a reader of a piece does -/
def SpC (p : Nat → Nat → PRR) (f : Nat → Int) (n D : Nat) (run : Nat → T2 → (RS → T2 → Prop) → Prop) : Prop := ∀ (d : Nat) (τ : T2) (Q : RS → T2 → Prop) (a c z : Nat), D ≤ d → PC τ f n a c z → z ≤ 3 * a → (∀ e τ1, p a c = .inl e → PK τ τ1 → FX2 τ1 → tI τ1 73 6 = e.1 → tI τ1 73 7 = (e.2 : Int) → Q (.inl (some (AI 0))) τ1) → (∀ g a1 c1 z1 τ1, p a c = .inr (g, a1, c1) → PK τ τ1 → PC τ1 f n a1 c1 z1 → z1 + 3 * a ≤ z + 3 * a1 → a < a1 → (∀ i, i < z → tI τ1 75 i = tI τ 75 i) → SgR (tI τ1 75) z z1 g → Q (.inl (some (AI 1))) τ1) → run d τ Q
section RDC
variable {f : Nat → Int} {n R : Nat}
theorem c56 {d : Nat} {τ : T2} {Q : RS → T2 → Prop} {a c z : Nat} (h : PC τ f n a c z) (hd : 18 ≤ d) (k0 : fkd f n a = 0 → Q (.inl (some (AI (-1)))) τ) (k1 : fkd f n a ≠ 0 → fkd f n a ≤ 4 → Q (.inl (some (AI (fkd f n a : Int)))) τ) : G d 56 0 [vR 73] [] τ Q := by
  obtain ⟨F, X, K, ha, -, -⟩ := h
  have s := (s73 F).1
  have go : ∀ k : Nat, fkd f n a = k → k ≠ 0 → k ≤ 4 → Q (.inl (some (AI (k : Int)))) τ := fun k e h1 h2 => by
    rw [← e]; exact k1 (by omega) (by omega)
  refine t56_0 (by omega) s (c72 F X K ha (t := wdSol) rfl (by omega) (t56_6 (by omega) s (fun e1 => ?_) (fun e1 => ?_)))
  · have e1 := bi_0 e1
    refine c72 F X K ha (t := wdRid) rfl (by omega) (t56_17 (by omega) s (fun e2 => ?_) (fun e2 => ?_))
    · have e2 := bi_0 e2
      refine c72 F X K ha (t := wdRnd) rfl (by omega) (t56_28 (by omega) s (fun e3 => ?_) (fun e3 => ?_))
      · have e3 := bi_0 e3
        refine c72 F X K ha (t := wdMin) rfl (by omega) (t56_39 (fun e4 => ?_) (fun e4 => ?_))
        · have e4 := bi_0 e4
          refine k0 ?_
          unfold fkd
          rw [if_neg (by rw [e1]; decide), if_neg (by rw [e2]; decide), if_neg (by rw [e3]; decide), if_neg (by rw [e4]; decide)]
        · have e4 := bi_1 e4
          refine go 4 ?_ (by decide) (by decide)
          unfold fkd
          rw [if_neg (by rw [e1]; decide), if_neg (by rw [e2]; decide), if_neg (by rw [e3]; decide), if_pos e4]
      · have e3 := bi_1 e3
        refine go 3 ?_ (by decide) (by decide)
        unfold fkd
        rw [if_neg (by rw [e1]; decide), if_neg (by rw [e2]; decide), if_pos e3]
    · have e2 := bi_1 e2
      refine go 2 ?_ (by decide) (by decide)
      unfold fkd
      rw [if_neg (by rw [e1]; decide), if_pos e2]
  · have e1 := bi_1 e1
    refine go 1 ?_ (by decide) (by decide)
    unfold fkd
    rw [if_pos e1]
theorem fkd_s {a : Nat} (h : fkd f n a ≠ 0) : tkS f n a = 2 := by
  unfold fkd at h
  have q : ∀ t, isW f n a t = true → tkS f n a = 2 := fun t h => by
    unfold isW at h; rw [decide_eq_true_eq] at h; exact h.1
  split at h
  · exact q _ (by assumption)
  · split at h
    · exact q _ (by assumption)
    · split at h
      · exact q _ (by assumption)
      · split at h
        · exact q _ (by assumption)
        · exact absurd rfl h
/-- readFact -/
theorem c55 (hR : R ≤ 20) : SpC (pFact f n R) f n 20 (fun d τ Q => G d 55 0 [vR 73, vI (R : Int), none, none, none] [] τ Q) := by
  intro d τ Q a c z hd h hz k0 k1
  have F := h.1
  have n3 := h.2.1.2.2.1
  have s : ∀ {τ : T2}, FX2 τ → tS τ 73 = (1, 9, 0) := fun F => (s73 F).1
  refine t55_0 (r0 := some 73) (by omega) (c56 h (by omega) (fun hk => ?_) (fun hk hk4 => ?_))
  · refine t55_4 (by omega) (s F) (fun q => absurd rfl q) (fun _ => c76' h (fun τ1 p F1 e1 e2 => t55_15 (by decide) (k0 (1, tkF f n a) τ1 ?_ p F1 e1 e2)))
    unfold pFact
    rw [if_pos hk]
  · have ts := fkd_s hk
    have hT := tk_w h.2.2.2.1 (show tkS f n a ≠ 0 by omega)
    generalize hkk : fkd f n a = kk at hk hk4
    refine t55_4 (by omega) (s F) (fun _ => ?_) (fun q => by omega)
    refine c77' (m := 30) h (by omega) (by omega) (fun hc τ1 p1 o1 h1 => ?_) (fun hc τ1 p F1 e1 e2 => ?_)
    · refine t55_22 (by omega) (s h1.1) (fun _ => ?_) (fun q => absurd q (by decide))
      refine c68' h1 (by omega) (fun τ2 p2 o2 h2 => ?_)
      -- the last number, and its instruction
      have fin : ∀ (τ3 : T2) (a3 : Nat) (lo hi fb gg : Int), PK τ τ3 → (∀ i, tI τ3 75 i = tI τ 75 i) → PC τ3 f n a3 (c + 1) z → a < a3 → (kk = 2 → 0 ≤ lo ∧ hi < 20) → (kk = 3 → 0 ≤ gg ∧ gg < 6) → (∀ e, pNum f n a3 lo hi fb = .inl e → pFact f n R a c = .inl e) → (∀ v a4, pNum f n a3 lo hi fb = .inr (v, a4) → pFact f n R a c = .inr (fct (kk : Int) v gg, a4, c + 1)) → G (d - 1) 74 0 [vR 73, vI lo, vI hi, vI fb] [] τ3 (KC d 55 99 102 [vR 73, none, vI (kk : Int), vI gg, none] [] Q) := by
        intro τ3 a3 lo hi fb gg p3 o3 h3 ha3 hv hg e0 e1
        refine c74' h3 (by omega) (fun e τ4 he p4 F4 x1 x2 => ?_) (fun v a4 he ea hlt hlo hhi hval => ?_)
        · exact t55_102 (by omega) (s F4) (fun q => absurd rfl q) (fun _ => k0 e τ4 (e0 e he) (p3.tr p4) F4 x1 x2)
        · refine t55_102 (by omega) (s h3.1) (fun _ => ?_) (fun q => absurd q (by decide))
          rw [hval]
          have han := h3.2.2.2.1
          refine c78' h3 (by omega) (fun τ4 p4 o4 w0 w1 w2 h4 => ?_)
          refine t55_117 (by omega) (s h4.1) (c68' h4 (by omega) (fun τ5 p5 o5 h5 => t55_122 ?_))
          rw [← ea] at h5
          refine k1 _ a4 (c + 1) (z + 3) τ5 (e1 v a4 he) ((p3.tr p4).tr p5) h5 (by omega) (by omega) (fun i hi => ?_) ?_
          · rw [o5, o4 i (by omega) (by omega) (by omega), o3]
          · exact SgR_f (by rw [o5]; exact w0) (by rw [o5]; exact w1) (by rw [o5]; exact w2) (by omega) (fun q => by have := hv (by omega); omega) (fun q => hg (by omega))
      have p02 := p1.tr p2
      have o02 : ∀ i, tI τ2 75 i = tI τ 75 i := fun i => by rw [o2, o1]
      have pf : ∀ (lo hi fb : Int), kk ≠ 3 → lo = 0 → hi = (if kk = 2 then (R : Int) - 1 else if kk = 4 then 9999 else 20) → fb = (if kk = 2 then 2 else 3) → (∀ e, pNum f n (tkT f n a) lo hi fb = .inl e → pFact f n R a c = .inl e) ∧ (∀ v a4, pNum f n (tkT f n a) lo hi fb = .inr (v, a4) → pFact f n R a c = .inr (fct (kk : Int) v 0, a4, c + 1)) := fun lo hi fb h3 e1 e2 e3 => by
        subst e1 e2 e3
        refine ⟨fun e he => ?_, fun v a4 he => ?_⟩
        · unfold pFact
          rw [hkk, if_neg hk, if_pos hc, if_neg h3, he]
        · unfold pFact
          rw [hkk, if_neg hk, if_pos hc, if_neg h3, he]
      have wrR : wr ((R : Int) - 1) = (R : Int) - 1 := wr_id (by unfold okI; omega)
      refine t55_31 (by omega) (s h2.1) (fun q1 q2 q3 _ => ?_) (fun _ q2 _ q4 => absurd q4 q2) (fun q1 q2 q3 _ => ?_) (fun _ q2 _ q4 => absurd q4 q2) (fun _ q2 q3 => absurd q2 q3) (fun q1 q2 _ => ?_) (fun q1 => ?_)
      · obtain ⟨x1, x2⟩ := pf 0 20 3 (by omega) rfl (by rw [if_neg (by omega), if_neg (by omega)]) (by rw [if_neg (by omega)])
        exact fin τ2 _ 0 20 3 0 p02 o02 h2 hT.1 (fun q => by omega) (fun q => by omega) x1 x2
      · obtain ⟨x1, x2⟩ := pf 0 9999 3 (by omega) rfl (by rw [if_neg (by omega), if_pos (by omega)]) (by rw [if_neg (by omega)])
        exact fin τ2 _ 0 9999 3 0 p02 o02 h2 hT.1 (fun q => by omega) (fun q => by omega) x1 x2
      · obtain ⟨x1, x2⟩ := pf 0 ((R : Int) - 1) 2 (by omega) rfl (by rw [if_pos (by omega)]) (by rw [if_pos (by omega)])
        rw [wrR]
        exact fin τ2 _ 0 ((R : Int) - 1) 2 0 p02 o02 h2 hT.1 (fun q => by omega) (fun q => by omega) x1 x2
      · have k3 : kk = 3 := by omega
        refine c74' h2 (by omega) (fun e τ4 he p4 F4 x1 x2 => ?_) (fun v a4 he ea hlt hlo hhi hval => ?_)
        · refine t55_45 (by omega) (s F4) (fun q => absurd rfl q) (fun _ => k0 e τ4 ?_ (p02.tr p4) F4 x1 x2)
          unfold pFact
          rw [hkk, if_neg hk, if_pos hc, if_pos k3, he]
        · refine t55_45 (by omega) (s h2.1) (fun _ => ?_) (fun q => absurd q (by decide))
          rw [hval]
          refine c68' h2 (by omega) (fun τ3 p3 o3 h3 => ?_)
          rw [← ea] at h3
          refine t55_59 (by omega) (s h3.1) (fun _ _ _ => ?_) (fun q1 _ q3 => absurd q3 q1) (fun _ q _ => by omega) (fun _ q _ => by omega) (fun q _ => by omega) (fun q _ => by omega)
          refine fin τ3 a4 0 20 3 v (p02.tr p3) (fun i => by rw [o3, o02]) h3 (by omega) (fun q => by omega) (fun q => by omega) (fun e he2 => ?_) (fun v2 a5 he2 => ?_)
          · unfold pFact
            rw [hkk, if_neg hk, if_pos hc, if_pos k3, he]
            show (match pNum f n a4 0 20 3 with | .inl e => .inl e | .inr (v2, a3) => .inr (fct 3 v2 v, a3, c + 1) : PRR) = _
            rw [he2]
          · unfold pFact
            rw [hkk, if_neg hk, if_pos hc, if_pos k3, he]
            show (match pNum f n a4 0 20 3 with | .inl e => .inl e | .inr (v2, a3) => .inr (fct 3 v2 v, a3, c + 1) : PRR) = _
            rw [he2, k3]
            rfl
    · refine t55_22 (by omega) (s F1) (fun q => absurd rfl q) (fun _ => k0 (4, tkF f n a) τ1 ?_ p F1 e1 e2)
      unfold pFact
      rw [hkk, if_neg hk, if_neg hc]
/-- the nested reader -/
def NsC (nst : Option (Nat → Nat → PRR)) (f : Nat → Int) (n R D : Nat) (ne : Int) : Prop := (nst = none ∧ ne = 8) ∨ ∃ p, nst = some p ∧ 0 ≤ ne ∧ ne < 8 ∧ SpC p f n D (fun d τ Q => G d 51 0 [vR 73, vI (R : Int), vI (ne + 1), none, none] [] τ Q)
theorem c54 {nst : Option (Nat → Nat → PRR)} {D : Nat} {ne : Int} (H : NsC nst f n R D ne) (d : Nat) (τ : T2) (Q : RS → T2 → Prop) (a c z : Nat) (hd : D + 2 ≤ d) (hd2 : 5 ≤ d) (h : PC τ f n a c z) (hz : z ≤ 3 * a) (hp : isS f n a 40 = true) (k0 : ∀ e τ1, pNst nst f n a c = .inl e → PK τ τ1 → FX2 τ1 → tI τ1 73 6 = e.1 → tI τ1 73 7 = (e.2 : Int) → Q (.inl (some (AI 0))) τ1) (k1 : ∀ g a1 c1 z1 τ1, pNst nst f n a c = .inr (g, a1, c1) → PK τ τ1 → PC τ1 f n a1 c1 z1 → z1 + 3 * a ≤ z + 3 * a1 → a < a1 → (∀ i, i < z → tI τ1 75 i = tI τ 75 i) → SgR (tI τ1 75) z z1 g → Q (.inl (some (AI 1))) τ1) : G d 54 0 [vR 73, vI (R : Int), vI ne] [] τ Q := by
  have s : ∀ {τ : T2}, FX2 τ → tS τ 73 = (1, 9, 0) := fun F => (s73 F).1
  have hT := isS_t h.2.2.2.1 hp
  rcases H with ⟨e1, e2⟩ | ⟨p, e1, e2, e3, H⟩
  · subst e1 e2
    exact t54_0 (by omega) (s h.1) (fun q => absurd q (by decide)) (fun _ => c76' h (fun τ1 p F1 x1 x2 => t54_11 (by decide) (k0 (4, tkF f n a) τ1 rfl p F1 x1 x2)))
  · subst e1
    refine t54_0 (by omega) (s h.1) (fun _ => c68' h (by omega) (fun τ1 p1 o1 h1 => ?_)) (fun q => by omega)
    refine t54_16 (r0 := some 73) (by omega) ?_
    rw [wr_id (show okI (ne + 1) by unfold okI; omega)]
    refine H (d - 1) τ1 _ (tkT f n a) c z (by omega) h1 (by omega) (fun e τ2 he p2 F2 x1 x2 => ?_) (fun g a2 c2 z2 τ2 he p2 h2 hz2 ha2 o2 sg => ?_)
    · refine t54_24 (by omega) (s F2) (fun q => absurd rfl q) (fun _ => k0 e τ2 ?_ (p1.tr p2) F2 x1 x2)
      unfold pNst
      simp only [he]
    · refine t54_24 (by omega) (s h2.1) (fun _ => ?_) (fun q => absurd q (by decide))
      refine c73 h2.1 h2.2.2.1 (by decide) ?_
      cases hs : isS f n a2 41 with
      | true =>
        have hT2 := isS_t h2.2.2.2.1 hs
        refine t54_35 (by omega) (s h2.1) (fun _ => c68' h2 (by omega) (fun τ3 p3 o3 h3 => t54_48 ?_)) (fun q => absurd q (by decide))
        refine k1 g (tkT f n a2) c2 z2 τ3 ?_ ((p1.tr p2).tr p3) h3 (by omega) (by omega) (fun i hi => by rw [o3, o2 i hi, o1]) (sg.fr (fun i _ _ => o3 i))
        unfold pNst
        simp only [he]
        rw [if_pos hs]
      | false =>
        refine t54_35 (by omega) (s h2.1) (fun q => absurd rfl q) (fun _ => c76' h2 (fun τ3 p3 F3 x1 x2 => t54_43 (by decide) (k0 (1, tkF f n a2) τ3 ?_ ((p1.tr p2).tr p3) F3 x1 x2)))
        unfold pNst
        simp only [he]
        rw [if_neg (by rw [hs]; decide)]
/-- readOne -/
theorem c53 (hR : R ≤ 20) {nst : Option (Nat → Nat → PRR)} {D : Nat} {ne : Int} (H : NsC nst f n R D ne) (hD : 20 ≤ D) : SpC (pOne nst f n R) f n (D + 3) (fun d τ Q => G d 53 0 [vR 73, vI (R : Int), vI ne, none, none] [] τ Q) := by
  intro d τ Q a c z hd h hz k0 k1
  have s : ∀ {τ : T2}, FX2 τ → tS τ 73 = (1, 9, 0) := fun F => (s73 F).1
  refine t53_0 (r0 := some 73) ?_
  -- behind the nots
  have beh : ∀ (m a1 : Nat) (τ1 : T2), pNot f n 8 a = .inr (m, a1) → m ≤ 8 → PK τ τ1 → (∀ i, tI τ1 75 i = tI τ 75 i) → PC τ1 f n a1 c z → a + m ≤ a1 → G (d - 1) 73 0 [vR 73, vI 40] [] τ1 (KC d 53 42 45 [vR 73, vI (R : Int), vI ne, vI (m : Int), none] [] Q) := by
    intro m a1 τ1 he hm p1 o1 h1 ha1
    have n3 := h1.2.1.2.2.1
    have han := h1.2.2.2.1
    have pe : ∀ e, pIn nst f n R a1 c = .inl e → pOne nst f n R a c = .inl e := fun e q => by
      unfold pOne
      rw [he]
      show (match pIn nst f n R a1 c with | .inl e => .inl e | .inr (g, a2, c2) => .inr (ngt m g, a2, c2) : PRR) = _
      rw [q]
    have pr : ∀ g a2 c2, pIn nst f n R a1 c = .inr (g, a2, c2) → pOne nst f n R a c = .inr (ngt m g, a2, c2) := fun g a2 c2 q => by
      unfold pOne
      rw [he]
      show (match pIn nst f n R a1 c with | .inl e => .inl e | .inr (g, a2, c2) => .inr (ngt m g, a2, c2) : PRR) = _
      rw [q]
    have za : zand (m : Int) 1 = ((m % 2 : Nat) : Int) := by
      have := zand_nat (x := m) (y := 1) (by omega) (by decide)
      have this : zand (m : Int) 1 = ((m &&& 1 : Nat) : Int) := this
      rw [this, Nat.and_one_is_mod]
    -- behind the inner piece
    have ok1 : ∀ g a2 c2 z2 τ2, pIn nst f n R a1 c = .inr (g, a2, c2) → PK τ1 τ2 → PC τ2 f n a2 c2 z2 → z2 + 3 * a1 ≤ z + 3 * a2 → a1 < a2 → (∀ i, i < z → tI τ2 75 i = tI τ1 75 i) → SgR (tI τ2 75) z z2 g → (¬ m % 2 = 1 → Q (.inl (some (AI 1))) τ2) ∧ (m % 2 = 1 → G (d - 1) 78 0 [vR 73, vI 5, vI 0, vI 0, none] [] τ2 (KC d 53 80 83 [none, none, none, none, vI 1] [] Q)) := by
      intro g a2 c2 z2 τ2 he2 p2 h2 hz2 ha2 o2 sg
      have han2 := h2.2.2.2.1
      refine ⟨fun hm1 => ?_, fun hm1 => ?_⟩
      · refine k1 _ a2 c2 z2 τ2 (pr g a2 c2 he2) (p1.tr p2) h2 (by omega) (by omega) (fun i hi => by rw [o2 i hi, o1]) ?_
        rw [ngt_e hm1]
        exact sg
      · have hm0 : 1 ≤ m := by omega
        refine c78' h2 (by omega) (fun τ3 p3 o3 w0 w1 w2 h3 => t53_83 (by decide) ?_)
        have hsz := sg.1
        refine k1 _ a2 c2 (z2 + 3) τ3 (pr g a2 c2 he2) ((p1.tr p2).tr p3) h3 (by omega) (by omega) (fun i hi => by rw [o3 i (by omega) (by omega) (by omega), o2 i hi, o1]) ?_
        exact SgR_n (sg.fr (fun i _ hi => o3 i (by omega) (by omega) (by omega))) w0 hm1
    refine c73 h1.1 h1.2.2.1 (by decide) ?_
    cases hs : isS f n a1 40 with
    | true =>
      have ein : pIn nst f n R a1 c = pNst nst f n a1 c := by unfold pIn; rw [if_pos hs]
      refine t53_45 (r0 := some 73) (by omega) (fun q => absurd q (by decide)) (fun _ => ?_)
      refine c54 H (d - 1) τ1 _ a1 c z (by omega) (by omega) h1 (by omega) hs (fun e τ2 he2 p2 F2 x1 x2 => ?_) (fun g a2 c2 z2 τ2 he2 p2 h2 hz2 ha2 o2 sg => ?_)
      · exact t53_54 (by omega) (fun _ => by decide) (fun q => absurd rfl q) (s F2) (fun _ => k0 e τ2 (pe e (ein.trans he2)) (p1.tr p2) F2 x1 x2) (fun q => absurd rfl q) (fun q => absurd rfl q)
      · obtain ⟨y1, y2⟩ := ok1 g a2 c2 z2 τ2 (ein.trans he2) p2 h2 hz2 ha2 o2 sg
        exact t53_54 (by omega) (fun _ => by decide) (fun _ _ => by decide) (s h2.1) (fun q => absurd q (by decide)) (fun _ q => y1 (by rw [za] at q; clear za; omega)) (fun _ q => y2 (by rw [za] at q; clear za; omega))
    | false =>
      have ein : pIn nst f n R a1 c = pFact f n R a1 c := by unfold pIn; rw [if_neg (by rw [hs]; decide)]
      refine t53_45 (r0 := some 73) (by omega) (fun _ => ?_) (fun q => absurd rfl q)
      refine c55 hR (d - 1) τ1 _ a1 c z (by omega) h1 (by omega) (fun e τ2 he2 p2 F2 x1 x2 => ?_) (fun g a2 c2 z2 τ2 he2 p2 h2 hz2 ha2 o2 sg => ?_)
      · exact t53_62 (by omega) (fun _ => by decide) (fun q => absurd rfl q) (s F2) (fun _ => k0 e τ2 (pe e (ein.trans he2)) (p1.tr p2) F2 x1 x2) (fun q => absurd rfl q) (fun q => absurd rfl q)
      · obtain ⟨y1, y2⟩ := ok1 g a2 c2 z2 τ2 (ein.trans he2) p2 h2 hz2 ha2 o2 sg
        exact t53_62 (by omega) (fun _ => by decide) (fun _ _ => by decide) (s h2.1) (fun q => absurd q (by decide)) (fun _ q => y1 (by rw [za] at q; clear za; omega)) (fun _ q => y2 (by rw [za] at q; clear za; omega))
  -- the nots
  have lp : ∀ (j m a1 : Nat) (τ1 : T2), m + j = 8 → (∀ e, pNot f n j a1 = .inl e → pNot f n 8 a = .inl e) → (∀ q b, pNot f n j a1 = .inr (q, b) → pNot f n 8 a = .inr (m + q, b)) → PK τ τ1 → (∀ i, tI τ1 75 i = tI τ 75 i) → PC τ1 f n a1 c z → a + m ≤ a1 → G d 53 2 [vR 73, vI (R : Int), vI ne, vI (m : Int), none] [] τ1 Q := by
    intro j
    induction j with
    | zero =>
      intro m a1 τ1 hm e0 e1 p1 o1 h1 ha1
      have hm8 : m = 8 := by omega
      refine t53_2 (by omega) (s h1.1) (fun q => by omega) (fun _ => ?_)
      refine c72 h1.1 h1.2.1 h1.2.2.1 h1.2.2.2.1 (t := wdNot) rfl (by omega) ?_
      cases hw : isW f n a1 wdNot with
      | true =>
        refine t53_14 (by omega) (s h1.1) (fun q => absurd q (by decide)) (fun _ q => by omega) (fun _ _ => c76' h1 (fun τ2 p2 F2 x1 x2 => t53_28 (by decide) (k0 (4, tkF f n a1) τ2 ?_ (p1.tr p2) F2 x1 x2)))
        unfold pOne
        rw [e0 (4, tkF f n a1) (by unfold pNot; rw [if_pos hw])]
      | false =>
        refine t53_14 (by omega) (s h1.1) (fun _ => ?_) (fun q => absurd rfl q) (fun q => absurd rfl q)
        exact beh m a1 τ1 (e1 0 a1 (by unfold pNot; rw [if_neg (by rw [hw]; decide)])) (by omega) p1 o1 h1 ha1
    | succ j ih =>
      intro m a1 τ1 hm e0 e1 p1 o1 h1 ha1
      refine t53_2 (by omega) (s h1.1) (fun q => by omega) (fun _ => ?_)
      refine c72 h1.1 h1.2.1 h1.2.2.1 h1.2.2.2.1 (t := wdNot) rfl (by omega) ?_
      cases hw : isW f n a1 wdNot with
      | true =>
        have hT := isW_t h1.2.2.2.1 hw
        refine t53_14 (by omega) (s h1.1) (fun q => absurd q (by decide)) (fun _ _ => ?_) (fun _ q => by omega)
        refine c68' h1 (by omega) (fun τ2 p2 o2 h2 => t53_33 (r0 := some 73) ?_)
        rw [wr_nat (by omega)]
        refine ih (m + 1) (tkT f n a1) τ2 (by omega) (fun e he => e0 e ?_) (fun q b he => ?_) (p1.tr p2) (fun i => by rw [o2, o1]) h2 (by omega)
        · simp only [pNot]
          rw [if_pos hw, he]
        · rw [e1 (q + 1) b (by simp only [pNot]; rw [if_pos hw, he])]
          rw [show m + (q + 1) = m + 1 + q by omega]
      | false =>
        refine t53_14 (by omega) (s h1.1) (fun _ => ?_) (fun q => absurd rfl q) (fun q => absurd rfl q)
        exact beh m a1 τ1 (e1 0 a1 (by simp only [pNot]; rw [if_neg (by rw [hw]; decide)])) (by omega) p1 o1 h1 ha1
  exact lp 8 0 a τ rfl (fun _ h => h) (fun q b h => by rw [h, Nat.zero_add]) PK.rf (fun _ => rfl) h (by omega)
/-- readAll -/
theorem c52 {p : Nat → Nat → PRR} {D : Nat} {ne : Int} (hD : 20 ≤ D) (H : SpC p f n D (fun d τ Q => G d 53 0 [vR 73, vI (R : Int), vI ne, none, none] [] τ Q)) : SpC (pLst p wdAnd false f n) f n (D + 1) (fun d τ Q => G d 52 0 [vR 73, vI (R : Int), vI ne, none, none] [] τ Q) := by
  intro d τ Q a c z hd h hz k0 k1
  have s : ∀ {τ : T2}, FX2 τ → tS τ 73 = (1, 9, 0) := fun F => (s73 F).1
  have lp : ∀ (j : Nat) (τ1 : T2) (g : RSm) (a1 c1 z1 : Nat) (J : List Nat) (x : Int), j ≤ 300 → PK τ τ1 → PC τ1 f n a1 c1 z1 → z1 + 3 * a ≤ z + 3 * a1 → a < a1 → (∀ i, i < z → tI τ1 75 i = tI τ 75 i) → SgJ (tI τ1 75) J z z1 false g → JOk z J z1 → ChL (tI τ1 75) J x → pLst p wdAnd false f n a c = pLop p wdAnd false f n j g a1 c1 → G d 52 16 [vR 73, vI (R : Int), vI ne, vI x, vI ((300 - j : Nat) : Int)] [] τ1 Q := by
    intro j
    have fin : ∀ (τ1 : T2) (g : RSm) (a1 c1 z1 : Nat) (J : List Nat) (x : Int), PK τ τ1 → PC τ1 f n a1 c1 z1 → z1 + 3 * a ≤ z + 3 * a1 → a < a1 → (∀ i, i < z → tI τ1 75 i = tI τ 75 i) → SgJ (tI τ1 75) J z z1 false g → JOk z J z1 → ChL (tI τ1 75) J x → pLst p wdAnd false f n a c = .inr (g, a1, c1) → G (d - 1) 80 0 [vR 73, vI x, none, none, none] [] τ1 (KC d 52 65 68 [none, none, none, none, none] [] Q) := by
      intro τ1 g a1 c1 z1 J x p1 h1 hz1 ha1 o1 sg hj hc he
      have n3 := h1.2.1.2.2.1
      have han := h1.2.2.2.1
      refine c80 h1 (by omega) hc hj (fun τ2 p2 h2 o2 v2 => t52_68 ?_)
      have lt := JOk.lt J hj
      refine k1 g a1 c1 z1 τ2 he (p1.tr p2) h2 hz1 ha1 (fun i hi => ?_) (SgJ_f sg (fun i _ _ q => o2 i q) v2)
      rw [o2 i (fun j hj2 => by have := lt j hj2; omega), o1 i hi]
    induction j with
    | zero =>
      intro τ1 g a1 c1 z1 J x hj3 p1 h1 hz1 ha1 o1 sg hj hc he
      exact t52_16 (by omega) (s h1.1) (fun _ => fin τ1 g a1 c1 z1 J x p1 h1 hz1 ha1 o1 sg hj hc he) (fun q => by omega)
    | succ j ih =>
      intro τ1 g a1 c1 z1 J x hj3 p1 h1 hz1 ha1 o1 sg hj hc he
      have n3 := h1.2.1.2.2.1
      have han := h1.2.2.2.1
      simp only [pLop] at he
      refine t52_16 (by omega) (s h1.1) (fun q => by omega) (fun _ => ?_)
      refine c72 h1.1 h1.2.1 h1.2.2.1 han (t := wdAnd) rfl (by omega) ?_
      cases hw : isW f n a1 wdAnd with
      | false =>
        rw [if_neg (by rw [hw]; decide)] at he
        exact t52_30 (by omega) (s h1.1) (fun _ => fin τ1 g a1 c1 z1 J x p1 h1 hz1 ha1 o1 sg hj hc he) (fun q => absurd rfl q)
      | true =>
        have hT := isW_t han hw
        rw [if_pos hw] at he
        refine t52_30 (by omega) (s h1.1) (fun q => absurd q (by decide)) (fun _ => ?_)
        refine c78' h1 (by omega) (fun τ2 p2 o2 w0 w1 w2 h2 => t52_41 (by omega) (s h2.1) ?_)
        refine c68' h2 (by omega) (fun τ3 p3 o3 h3 => t52_46 (r0 := some 73) (by omega) ?_)
        refine H (d - 1) τ3 _ (tkT f n a1) c1 (z1 + 3) (by omega) h3 (by omega) (fun e τ4 he4 p4 F4 x1 x2 => ?_) (fun g4 a4 c4 z4 τ4 he4 p4 h4 hz4 ha4 o4 sg4 => ?_)
        · refine t52_52 (r0 := some 73) (fun q => absurd rfl q) (fun _ => k0 e τ4 ?_ (((p1.tr p2).tr p3).tr p4) F4 x1 x2)
          rw [he, he4]
        · refine t52_52 (r0 := some 73) (fun _ => ?_) (fun q => absurd q (by decide))
          rw [wr_nat (by omega), show 300 - (j + 1) + 1 = 300 - j by omega]
          have zz := sg.1
          have keep : ∀ i, i < z1 → tI τ4 75 i = tI τ1 75 i := fun i hi => by rw [o4 i (by omega), o3, o2 i (by omega) (by omega) (by omega)]
          have e0 : tI τ4 75 z1 = 7 := by rw [o4 z1 (by omega), o3, w0]
          have e1 : tI τ4 75 (z1 + 1) = x := by rw [o4 (z1 + 1) (by omega), o3, w1]
          refine ih τ4 (cmb false g g4) a4 c4 z4 (z1 :: J) (z1 : Int) (by omega) (((p1.tr p2).tr p3).tr p4) h4 (by omega) (by omega) (fun i hi => by rw [keep i (by omega), o1 i hi]) (SgJ_s (sg.fr (fun i _ hi => keep i hi)) hj (by rw [e0]; rfl) sg4) ⟨zz, sg4.1, hj⟩ ⟨rfl, ?_⟩ ?_
          · rw [e1]
            exact ChL.fr J hc hj (fun i _ hi => keep i hi)
          · rw [he, he4]
  refine t52_0 (r0 := some 73) (by omega) (H (d - 1) τ _ a c z (by omega) h hz (fun e τ1 he p1 F1 x1 x2 => ?_) (fun g a1 c1 z1 τ1 he p1 h1 hz1 ha1 o1 sg => ?_))
  · refine t52_6 (r0 := some 73) (fun q => absurd rfl q) (fun _ => k0 e τ1 ?_ p1 F1 x1 x2)
    unfold pLst
    rw [he]
  · refine t52_6 (r0 := some 73) (fun _ => ?_) (fun q => absurd q (by decide))
    refine lp 300 τ1 g a1 c1 z1 [] (-1) (Nat.le_refl _) p1 h1 hz1 ha1 o1 (SgJ_0 sg) trivial rfl ?_
    unfold pLst
    rw [he]
/-- readAny -/
theorem c51 {p : Nat → Nat → PRR} {D : Nat} {ne : Int} (hD : 20 ≤ D) (H : SpC p f n D (fun d τ Q => G d 52 0 [vR 73, vI (R : Int), vI ne, none, none] [] τ Q)) : SpC (pLst p wdOr true f n) f n (D + 1) (fun d τ Q => G d 51 0 [vR 73, vI (R : Int), vI ne, none, none] [] τ Q) := by
  intro d τ Q a c z hd h hz k0 k1
  have s : ∀ {τ : T2}, FX2 τ → tS τ 73 = (1, 9, 0) := fun F => (s73 F).1
  have lp : ∀ (j : Nat) (τ1 : T2) (g : RSm) (a1 c1 z1 : Nat) (J : List Nat) (x : Int), j ≤ 300 → PK τ τ1 → PC τ1 f n a1 c1 z1 → z1 + 3 * a ≤ z + 3 * a1 → a < a1 → (∀ i, i < z → tI τ1 75 i = tI τ 75 i) → SgJ (tI τ1 75) J z z1 true g → JOk z J z1 → ChL (tI τ1 75) J x → pLst p wdOr true f n a c = pLop p wdOr true f n j g a1 c1 → G d 51 16 [vR 73, vI (R : Int), vI ne, vI x, vI ((300 - j : Nat) : Int)] [] τ1 Q := by
    intro j
    have fin : ∀ (τ1 : T2) (g : RSm) (a1 c1 z1 : Nat) (J : List Nat) (x : Int), PK τ τ1 → PC τ1 f n a1 c1 z1 → z1 + 3 * a ≤ z + 3 * a1 → a < a1 → (∀ i, i < z → tI τ1 75 i = tI τ 75 i) → SgJ (tI τ1 75) J z z1 true g → JOk z J z1 → ChL (tI τ1 75) J x → pLst p wdOr true f n a c = .inr (g, a1, c1) → G (d - 1) 80 0 [vR 73, vI x, none, none, none] [] τ1 (KC d 51 65 68 [none, none, none, none, none] [] Q) := by
      intro τ1 g a1 c1 z1 J x p1 h1 hz1 ha1 o1 sg hj hc he
      have n3 := h1.2.1.2.2.1
      have han := h1.2.2.2.1
      refine c80 h1 (by omega) hc hj (fun τ2 p2 h2 o2 v2 => t51_68 ?_)
      have lt := JOk.lt J hj
      refine k1 g a1 c1 z1 τ2 he (p1.tr p2) h2 hz1 ha1 (fun i hi => ?_) (SgJ_f sg (fun i _ _ q => o2 i q) v2)
      rw [o2 i (fun j hj2 => by have := lt j hj2; omega), o1 i hi]
    induction j with
    | zero =>
      intro τ1 g a1 c1 z1 J x hj3 p1 h1 hz1 ha1 o1 sg hj hc he
      exact t51_16 (by omega) (s h1.1) (fun _ => fin τ1 g a1 c1 z1 J x p1 h1 hz1 ha1 o1 sg hj hc he) (fun q => by omega)
    | succ j ih =>
      intro τ1 g a1 c1 z1 J x hj3 p1 h1 hz1 ha1 o1 sg hj hc he
      have n3 := h1.2.1.2.2.1
      have han := h1.2.2.2.1
      simp only [pLop] at he
      refine t51_16 (by omega) (s h1.1) (fun q => by omega) (fun _ => ?_)
      refine c72 h1.1 h1.2.1 h1.2.2.1 han (t := wdOr) rfl (by omega) ?_
      cases hw : isW f n a1 wdOr with
      | false =>
        rw [if_neg (by rw [hw]; decide)] at he
        exact t51_30 (by omega) (s h1.1) (fun _ => fin τ1 g a1 c1 z1 J x p1 h1 hz1 ha1 o1 sg hj hc he) (fun q => absurd rfl q)
      | true =>
        have hT := isW_t han hw
        rw [if_pos hw] at he
        refine t51_30 (by omega) (s h1.1) (fun q => absurd q (by decide)) (fun _ => ?_)
        refine c78' h1 (by omega) (fun τ2 p2 o2 w0 w1 w2 h2 => t51_41 (by omega) (s h2.1) ?_)
        refine c68' h2 (by omega) (fun τ3 p3 o3 h3 => t51_46 (r0 := some 73) (by omega) ?_)
        refine H (d - 1) τ3 _ (tkT f n a1) c1 (z1 + 3) (by omega) h3 (by omega) (fun e τ4 he4 p4 F4 x1 x2 => ?_) (fun g4 a4 c4 z4 τ4 he4 p4 h4 hz4 ha4 o4 sg4 => ?_)
        · refine t51_52 (r0 := some 73) (fun q => absurd rfl q) (fun _ => k0 e τ4 ?_ (((p1.tr p2).tr p3).tr p4) F4 x1 x2)
          rw [he, he4]
        · refine t51_52 (r0 := some 73) (fun _ => ?_) (fun q => absurd q (by decide))
          rw [wr_nat (by omega), show 300 - (j + 1) + 1 = 300 - j by omega]
          have zz := sg.1
          have keep : ∀ i, i < z1 → tI τ4 75 i = tI τ1 75 i := fun i hi => by rw [o4 i (by omega), o3, o2 i (by omega) (by omega) (by omega)]
          have e0 : tI τ4 75 z1 = 6 := by rw [o4 z1 (by omega), o3, w0]
          have e1 : tI τ4 75 (z1 + 1) = x := by rw [o4 (z1 + 1) (by omega), o3, w1]
          refine ih τ4 (cmb true g g4) a4 c4 z4 (z1 :: J) (z1 : Int) (by omega) (((p1.tr p2).tr p3).tr p4) h4 (by omega) (by omega) (fun i hi => by rw [keep i (by omega), o1 i hi]) (SgJ_s (sg.fr (fun i _ hi => keep i hi)) hj (by rw [e0]; rfl) sg4) ⟨zz, sg4.1, hj⟩ ⟨rfl, ?_⟩ ?_
          · rw [e1]
            exact ChL.fr J hc hj (fun i _ hi => keep i hi)
          · rw [he, he4]
  refine t51_0 (r0 := some 73) (by omega) (H (d - 1) τ _ a c z (by omega) h hz (fun e τ1 he p1 F1 x1 x2 => ?_) (fun g a1 c1 z1 τ1 he p1 h1 hz1 ha1 o1 sg => ?_))
  · refine t51_6 (r0 := some 73) (fun q => absurd rfl q) (fun _ => k0 e τ1 ?_ p1 F1 x1 x2)
    unfold pLst
    rw [he]
  · refine t51_6 (r0 := some 73) (fun _ => ?_) (fun q => absurd q (by decide))
    refine lp 300 τ1 g a1 c1 z1 [] (-1) (Nat.le_refl _) p1 h1 hz1 ha1 o1 (SgJ_0 sg) trivial rfl ?_
    unfold pLst
    rw [he]
/-- all that a rule nests -/
theorem cRul (hR : R ≤ 20) : ∀ k, k ≤ 8 → SpC (pRul f n R k) f n (30 + 6 * k) (fun d τ Q => G d 51 0 [vR 73, vI (R : Int), vI (8 - (k : Int)), none, none] [] τ Q) := by
  intro k
  induction k with
  | zero =>
    intro _
    have H : NsC none f n R 20 8 := Or.inl ⟨rfl, rfl⟩
    have := c51 (by omega) (c52 (by omega) (c53 hR H (by omega)))
    exact fun d τ Q a c z hd => this d τ Q a c z (by omega)
  | succ k ih =>
    intro hk
    have H : NsC (some (pRul f n R k)) f n R (30 + 6 * k) (8 - ((k + 1 : Nat) : Int)) := by
      refine Or.inr ⟨pRul f n R k, rfl, by omega, by omega, ?_⟩
      rw [show (8 - ((k + 1 : Nat) : Int)) + 1 = 8 - (k : Int) by omega]
      exact ih (by omega)
    have := c51 (by omega) (c52 (by omega) (c53 hR H (by omega)))
    exact fun d τ Q a c z hd => this d τ Q a c z (by omega)
/-- read of a rule -/
theorem c50 (hR : R ≤ 20) {d : Nat} {τ : T2} {Q : RS → T2 → Prop} (hd : 82 ≤ d) (h : PC τ f n 0 0 0) (k0 : ∀ e τ1, pRule f n R = .inl e → PK τ τ1 → FX2 τ1 → tI τ1 73 6 = e.1 → tI τ1 73 7 = (e.2 : Int) → Q (.inl (some (AI 0))) τ1) (k1 : ∀ g a1 c1 z1 τ1, pRule f n R = .inr g → PK τ τ1 → PC τ1 f n a1 c1 z1 → z1 ≤ 1000 → SgR (tI τ1 75) 0 z1 g → Q (.inl (some (AI 1))) τ1) : G d 50 0 [vR 73, vI (R : Int)] [] τ Q := by
  have s : ∀ {τ : T2}, FX2 τ → tS τ 73 = (1, 9, 0) := fun F => (s73 F).1
  refine t50_0 (r0 := some 73) (by omega) ?_
  have := cRul (f := f) (n := n) hR 8 (by omega)
  refine this (d - 1) τ _ 0 0 0 (by omega) h (by omega) (fun e τ1 he p1 F1 x1 x2 => ?_) (fun g a1 c1 z1 τ1 he p1 h1 hz1 ha1 o1 sg => ?_)
  · refine t50_6 (by omega) (s F1) (fun _ => k0 e τ1 ?_ p1 F1 x1 x2) (fun q => absurd rfl q)
    unfold pRule
    rw [he]
  · have n3 := h1.2.1.2.2.1
    have han := h1.2.2.2.1
    refine t50_6 (by omega) (s h1.1) (fun q => absurd q (by decide)) (fun _ => c75' h1 (by omega) (fun q => ?_) (fun q τ2 p2 F2 x1 x2 => ?_))
    · refine t50_13 (fun y => absurd y (by decide)) (fun _ => k1 g a1 c1 z1 τ1 ?_ p1 h1 (by omega) sg)
      unfold pRule
      rw [he]
      exact if_pos q
    · refine t50_13 (fun _ => k0 (1, tkF f n a1) τ2 ?_ (p1.tr p2) F2 x1 x2) (fun y => absurd rfl y)
      unfold pRule
      rw [he]
      exact if_neg q
end RDC
