/-! THE LOGS: taking back -/
def AdP (n a k : Nat) : Prop := a = n ∧ k = k
theorem OC.ad {n k : Nat} {τ τ1 : T2} {x : Int} (h : OC (fun a _ => a = n) τ τ1) : OC (fun a _ => a = n) τ (uI τ1 n k x) := OC.j (P := fun a _ => a = n) h rfl
theorem OC.adq {n k : Nat} {τ τ1 : T2} {x : Option Nat} (h : OC (fun a _ => a = n) τ τ1) : OC (fun a _ => a = n) τ (uP τ1 n k x) := OC.q (P := fun a _ => a = n) h rfl
section LOG
variable {d : Nat} {τ : T2} {Q : RS → T2 → Prop}
theorem c30 (F : FX2 τ) {E : List ENT} (h : LgC τ E) (k0 : E = [] → Q (.inl (some (AI 0))) τ) (k1 : ∀ e E1 τ1, E = e :: E1 → OC (fun a _ => a = 89) τ τ1 → FX2 τ1 → tN τ1 = tN τ → tZ τ1 = tZ τ → LgC τ1 E1 → LfC τ1 e → Q (.inl (some (AI 1))) τ1) : G d 30 0 [vR 89, none] [] τ Q := by
  obtain ⟨top, h1, h2, h3, h4, h5⟩ := h
  have sh : ∀ τ : T2, FX2 τ → tS τ 89 = (1, 5, 0) := fun τ F => F.sh rfl (by omega) (by omega)
  have s90 : ∀ τ : T2, FX2 τ → tS τ 90 = (2, 0, 500) := fun τ F => F.sh rfl (by omega) (by omega)
  cases E with
  | nil => exact t30x_0 (sh τ F) (fun c => by rw [h3] at c; simp at c) (fun c => by rw [h3] at c; simp at c) (fun _ => k0 rfl)
  | cons e E1 =>
    have hE : (E1.length : Int) + 1 = ((e :: E1).length : Int) := rfl
    have e1 : wr (tI τ 89 3 - 1) = (E1.length : Int) := by
      simp only [List.length_cons] at h4
      rw [h3, wr_id (by unfold okI; omega)]; omega
    -- the rest, from the new top on
    have rest : ∀ v : Nat, v = (top + 99) % 100 → G d 30 41 [vR 89, none] [] (uI (uI τ 89 3 (E1.length : Int)) 89 2 (v : Int)) Q := by
      intro v hv
      have o1 : OC (fun a _ => a = 89) τ (uI (uI τ 89 3 (E1.length : Int)) 89 2 (v : Int)) := (OC.ad OC.rf).ad
      have F1 : FX2 (uI (uI τ 89 3 (E1.length : Int)) 89 2 (v : Int)) := F
      have g2 : tI (uI (uI τ 89 3 (E1.length : Int)) 89 2 (v : Int)) 89 2 = (v : Int) := by rw [tI_uI, if_pos ⟨rfl, rfl⟩]
      have g3 : tI (uI (uI τ 89 3 (E1.length : Int)) 89 2 (v : Int)) 89 3 = (E1.length : Int) := by rw [tI_uI, if_neg (by decide), tI_uI, if_pos ⟨rfl, rfl⟩]
      have gn : tN (uI (uI τ 89 3 (E1.length : Int)) 89 2 (v : Int)) = tN τ := rfl
      have gz : tZ (uI (uI τ 89 3 (E1.length : Int)) 89 2 (v : Int)) = tZ τ := rfl
      generalize (uI (uI τ 89 3 (E1.length : Int)) 89 2 (v : Int)) = τ1 at o1 F1 g2 g3 gn gz
      refine t30x_41 (sh _ F1) ?_
      have hv1 : v < 100 := by omega
      have e5 : wr (tI τ1 89 2 * 5) = ((5 * v : Nat) : Int) := by rw [g2, wr_id (by unfold okI; omega)]; omega
      rw [e5]
      have w1 : wr (((5 * v : Nat) : Int) + 1) = ((5 * v + 1 : Nat) : Int) := wr5 (n := v) (j := 1) (by omega) (by omega)
      have w2 : wr (((5 * v : Nat) : Int) + 2) = ((5 * v + 2 : Nat) : Int) := wr5 (n := v) (j := 2) (by omega) (by omega)
      have w3 : wr (((5 * v : Nat) : Int) + 3) = ((5 * v + 3 : Nat) : Int) := wr5 (n := v) (j := 3) (by omega) (by omega)
      have w4 : wr (((5 * v : Nat) : Int) + 4) = ((5 * v + 4 : Nat) : Int) := wr5 (n := v) (j := 4) (by omega) (by omega)
      have w5 : wr (((5 * v : Nat) : Int) + 5) = ((5 * v + 5 : Nat) : Int) := wr5 (n := v) (j := 5) (by omega) (by omega)
      refine t30x_48 (n4 := 500) (sh _ F1) (F1.p rfl) (s90 _ F1) (fun _ => ⟨Int.natCast_nonneg _, by omega⟩) (fun _ => ?_) (fun c => by rw [w5] at c; omega)
      refine t30x_71 (n4 := 500) (sh _ F1.j) (F1.j.p rfl) (s90 _ F1.j) (by rw [w1]; omega) ?_
      refine t30x_83 (n4 := 500) (sh _ F1.j.j) (F1.j.j.p rfl) (s90 _ F1.j.j) (by rw [w2]; omega) ?_
      refine t30x_95 (n4 := 500) (sh _ F1.j.j.j) (F1.j.j.j.p rfl) (s90 _ F1.j.j.j) (by rw [w3]; omega) ?_
      refine t30x_107 (n4 := 500) (sh _ F1.j.j.j.j) (F1.j.j.j.j.p rfl) (s90 _ F1.j.j.j.j) (by rw [w4]; omega) ?_
      rw [w1, w2, w3, w4]
      simp only [Int.toNat_natCast]
      have a9 : ∀ (τ : T2) (j : Nat) (x : Int) (k : Nat), tI (uI τ 89 j x) 90 k = tI τ 90 k := fun τ j x k => by rw [tI_uI, if_neg (by omega)]
      simp only [a9]
      have b2 : tI (uI (uI (uI (uI (uI τ1 89 4 (tI τ1 90 (5 * v))) 89 5 (tI τ1 90 (5 * v + 1))) 89 6 (tI τ1 90 (5 * v + 2))) 89 7 (tI τ1 90 (5 * v + 3))) 89 8 (tI τ1 90 (5 * v + 4))) 89 2 = (v : Int) := by
        rw [tI_uI, if_neg (by decide), tI_uI, if_neg (by decide), tI_uI, if_neg (by decide), tI_uI, if_neg (by decide), tI_uI, if_neg (by decide)]; exact g2
      refine t30x_120 (q2 := 91) (n4 := 100) (sh _ F1.j.j.j.j.j) (F1.j.j.j.j.j.p rfl) (F1.j.j.j.j.j.sh rfl (by omega) (by omega)) (by rw [b2]; omega) (sh _ F1.j.j.j.j.j) ?_
      rw [b2, Int.toNat_natCast]
      have en := h5 0 e rfl
      rw [show (top + 99 - 0) % 100 = v by omega] at en
      have en1 : EnC τ1 v e := en.sm (fun k _ _ => (o1.2.2.2 90 k (by have := F.1; omega) (by omega)).1) (o1.2.2.2 91 v (by have := F.1; omega) (by omega)).2
      obtain ⟨⟨n1, n2, n3, n4, n5⟩, n6⟩ := en1
      refine k1 e E1 _ rfl (((((o1.ad).ad).ad).ad).ad.adq) (F1.j.j.j.j.j.q rfl) gn gz ⟨v, hv1, ?_, ?_, ?_, fun i e1 he => ?_⟩ ⟨⟨?_, ?_, ?_, ?_, ?_⟩, ?_⟩
      · rw [tI_uP]; exact b2
      · rw [tI_uP, tI_uI, if_neg (by decide), tI_uI, if_neg (by decide), tI_uI, if_neg (by decide), tI_uI, if_neg (by decide), tI_uI, if_neg (by decide)]; exact g3
      · simp only [List.length_cons] at h4; omega
      · have hi : i < E1.length := (List.getElem?_eq_some_iff.mp he).1
        have h6 := h5 (i + 1) e1 he
        simp only [List.length_cons] at h4
        rw [show (top + 99 - (i + 1)) % 100 = (v + 99 - i) % 100 by omega] at h6
        refine h6.sm (fun k _ _ => ?_) ?_
        · rw [tI_uP, a9, a9, a9, a9, a9]; exact (o1.2.2.2 90 k (by have := F.1; omega) (by omega)).1
        · rw [tP_uP, if_neg (by omega)]; exact (o1.2.2.2 91 _ (by have := F.1; omega) (by omega)).2
      · rw [tI_uP, tI_uI, if_neg (by decide), tI_uI, if_neg (by decide), tI_uI, if_neg (by decide), tI_uI, if_neg (by decide), tI_uI, if_pos ⟨rfl, rfl⟩]; exact n1
      · rw [tI_uP, tI_uI, if_neg (by decide), tI_uI, if_neg (by decide), tI_uI, if_neg (by decide), tI_uI, if_pos ⟨rfl, rfl⟩]; exact n2
      · rw [tI_uP, tI_uI, if_neg (by decide), tI_uI, if_neg (by decide), tI_uI, if_pos ⟨rfl, rfl⟩]; exact n3
      · rw [tI_uP, tI_uI, if_neg (by decide), tI_uI, if_pos ⟨rfl, rfl⟩]; exact n4
      · rw [tI_uP, tI_uI, if_pos ⟨rfl, rfl⟩]; exact n5
      · rw [tP_uP, if_pos ⟨rfl, rfl⟩]; exact n6
    have e2 : tI (uI τ 89 3 (E1.length : Int)) 89 2 = (top : Int) := by rw [tI_uI, if_neg (by decide)]; exact h2
    refine t30x_0 (sh τ F) (fun _ c => ?_) (fun _ c => ?_) (fun c => by rw [h3] at c; omega)
    · rw [e1] at c ⊢
      rw [e2] at c
      have := rest 99 (by omega)
      rw [show ((99 : Nat) : Int) = 99 from rfl] at this
      exact this
    · rw [e1] at c ⊢
      rw [e2] at c ⊢
      rw [wr_id (by unfold okI; omega)]
      have := rest (top - 1) (by omega)
      rw [show (((top - 1 : Nat)) : Int) = (top : Int) - 1 by omega] at this
      exact this
def UPC (a k : Nat) : Prop := DC a k ∨ a = 89
/-- undo of the class -/
theorem c122 (F : FX2 τ) {c : CO} {cs : List CO} {E : List ENT} (R : RC τ c) (w : WF c) (h : LgC τ E) (hc : ChC τ c cs E) (hd : 32 ≤ d) (k0 : cs = [] → Q (.inl (some (AI 0))) τ) (k1 : ∀ c1 cs1 E1 τ1, cs = c1 :: cs1 → OC UPC τ τ1 → FX2 τ1 → tN τ1 = tN τ → tZ τ1 = tZ τ → RC τ1 c1 → LgC τ1 E1 → ChC τ1 c1 cs1 E1 → Q (.inl (some (AI 1))) τ1) : G d 122 0 [vR 64] [] τ Q := by
  refine t122_0 (q2 := 89) (by omega) (F.sh rfl (by omega) (by omega)) (F.p rfl) (F.sh rfl (by omega) (by omega)) (c30 F h (fun e => ?_) fun e E1 τ1 he o F1 hn hz hl hf => ?_)
  · subst e
    have hl := hc.len
    refine t122_7 (q3 := 89) (by omega) (F.sh rfl (by omega) (by omega)) (F.p rfl) (F.sh rfl (by omega) (by omega)) (fun z => absurd rfl z) (fun z => absurd rfl z) (fun _ => k0 (List.eq_nil_of_length_eq_zero hl))
  · subst he
    cases cs with
    | nil => exact hc.elim
    | cons c1 cs1 =>
      have fr : Fr τ τ1 := o.fr fun a k z => by omega
      have R1 : RC τ1 c := R.oc w F o (fun a k z => ⟨by unfold DC; omega, by omega⟩)
      have fin : ∀ τ2, OC DC τ1 τ2 → FX2 τ2 → tN τ2 = tN τ1 → tZ τ2 = tZ τ1 → RC τ2 c1 → Q (.inl (some (AI 1))) τ2 := fun τ2 o2 F2 hn2 hz2 R2 => k1 c1 cs1 E1 τ2 rfl ((o.mo fun a k z => Or.inr z).tr (o2.mo fun a k z => Or.inl z)) F2 (hn2.trans hn) (hz2.trans hz) R2 (hl.oc F1 o2 (fun a k z => by unfold DC at z; omega)) (hc.2.fr (fr.tr (o2.fr fun a k z => by unfold DC at z; omega)))
      refine t122_7 (q3 := 89) (by omega) (F1.sh rfl (by omega) (by omega)) (F1.p rfl) (F1.sh rfl (by omega) (by omega)) (fun _ c => ?_) (fun _ c => ?_) (fun z => absurd z (by decide))
      · rw [hf.1.1] at c
        exact (hc.1 τ1 (d - 1) _ (by omega) fr F1 R1 hf (fun τ2 o2 F2 hn2 hz2 R2 => t122_35 (fin τ2 o2 F2 hn2 hz2 R2))).1 c
      · rw [hf.1.1] at c
        exact (hc.1 τ1 (d - 1) _ (by omega) fr F1 R1 hf (fun τ2 o2 F2 hn2 hz2 R2 => t122_28 (fin τ2 o2 F2 hn2 hz2 R2))).2 c
end LOG
