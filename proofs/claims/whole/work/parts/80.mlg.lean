/-! THE MODEL's log -/
/-- the address of the latest entry -/
def LgQ (τ : T2) (E : List ENM) (q : Nat) : Prop := ∃ p : Nat → Nat, (∀ k, k < 100 → p k < 100 ∧ tP τ 224 k = some (236 + p k)) ∧ (∀ j k, j < 100 → k < 100 → p j = p k → j = k) ∧ tI τ 220 12 = (E.length : Int) ∧ 1 ≤ E.length ∧ E.length ≤ 100 ∧ q = 236 + p (E.length - 1) ∧ ∀ i e, E[i]? = some e → EnM τ (236 + p (E.length - 1 - i)) e
theorem LgQ.lg {τ : T2} {E : List ENM} {q : Nat} (h : LgQ τ E q) : LgM τ E := by
  obtain ⟨p, h1, h2, h3, -, h4, -, h5⟩ := h
  exact ⟨p, h1, h2, h3, h4, h5⟩
theorem LgQ.b {τ : T2} {E : List ENM} {q : Nat} (h : LgQ τ E q) : 236 ≤ q ∧ q < 336 := by
  obtain ⟨p, h1, h2, h3, h6, h4, h7, h5⟩ := h
  have := (h1 (E.length - 1) (by omega)).1
  omega
theorem SHA (k : Nat) (h : k < 100) : SHF (236 + k) = (1, 12, 0) := (show ∀ k : Nat, k < 100 → SHF (236 + k) = (1, 12, 0) by decide +kernel) k h
theorem PTA (a k : Nat) (h1 : 236 ≤ a) (h2 : a < 336) : PTI a k = none := by
  have hl : ∀ j : Nat, j < 100 → lk (236 + j) PTFs = none := by decide +kernel
  have hz : PTF a k = none := by
    unfold PTF
    rw [show a = 236 + (a - 236) by omega, hl (a - 236) (by omega)]
    rfl
  unfold PTI
  rw [hz]
  split <;> rfl
/-- a text before is noted -/
theorem LgQ.p {τ : T2} {E : List ENM} {n : NT5} {p1 p2 p3 : Option Nat} {q : Nat} (h : LgQ τ ((n, p1, p2, p3) :: E) q) (v : Option Nat) : LgQ (uP τ q 5 v) ((n, v, p2, p3) :: E) q ∧ LgQ (uP τ q 6 v) ((n, p1, v, p3) :: E) q ∧ LgQ (uP τ q 7 v) ((n, p1, p2, v) :: E) q := by
  have hb := h.b
  obtain ⟨p, h1, h2, h3, h6, h4, h7, h5⟩ := h
  simp only [List.length_cons] at h3 h4 h6 h7 h5
  have e0 := h5 0 _ rfl
  rw [show E.length + 1 - 1 - 0 = E.length + 1 - 1 by omega, ← h7] at e0
  have oth : ∀ (f : Nat) (i : Nat) (e : ENM), E[i]? = some e → EnM (uP τ q f v) (236 + p (E.length + 1 - 1 - (i + 1))) e := fun f i e he => by
    have hi : i < E.length := (List.getElem?_eq_some_iff.mp he).1
    have h8 := h5 (i + 1) e he
    have hne : 236 + p (E.length + 1 - 1 - (i + 1)) ≠ q := fun z => by
      have := h2 (E.length + 1 - 1 - (i + 1)) (E.length + 1 - 1) (by omega) (by omega) (by omega)
      omega
    have sm : ∀ k, tP (uP τ q f v) (236 + p (E.length + 1 - 1 - (i + 1))) k = tP τ (236 + p (E.length + 1 - 1 - (i + 1))) k := fun k => by rw [tP_uP, if_neg (fun z => hne z.1)]
    unfold EnM at h8 ⊢
    rw [sm, sm, sm, tI_uP]
    exact h8
  have a224 : ∀ (f k : Nat), k < 100 → p k < 100 ∧ tP (uP τ q f v) 224 k = some (236 + p k) := fun f k hk => ⟨(h1 k hk).1, by rw [tP_uP, if_neg (by omega)]; exact (h1 k hk).2⟩
  refine ⟨⟨p, a224 5, h2, h3, h6, h4, h7, fun i e he => ?_⟩, ⟨p, a224 6, h2, h3, h6, h4, h7, fun i e he => ?_⟩, ⟨p, a224 7, h2, h3, h6, h4, h7, fun i e he => ?_⟩⟩
  all_goals
    match i, he with
    | i + 1, he => exact oth _ i e he
    | 0, he =>
      obtain rfl := Option.some.inj he
      simp only [List.length_cons]
      rw [show E.length + 1 - 1 - 0 = E.length + 1 - 1 by omega, ← h7]
      unfold EnM at e0 ⊢
      rw [tI_uP]
      simp only [tP_uP]
      simp only [true_and]
      simp
      obtain ⟨e1, e2, e3, e4⟩ := e0
      simp_all
section LOG
variable {d : Nat} {τ : T2} {Q : RS → T2 → Prop}
def AMP (a k : Nat) : Prop := a = 224 ∨ (236 ≤ a ∧ a < 336) ∨ (a = 220 ∧ k = 12)
/-- the model notes an act -/
theorem m170 (F : FX2 τ) {E : List ENM} (h : LgM τ E) {x1 x2 x3 x4 x5 : Int} (k : ∀ τ1 q p, OC AMP τ τ1 → FX2 τ1 → tN τ1 = tN τ → tZ τ1 = tZ τ → LgQ τ1 (((x1, x2, x3, x4, x5), p) :: E.take 99) q → Q (.inl (some (AR q))) τ1) : G d 170 0 [vR 220, vI x1, vI x2, vI x3, vI x4, vI x5, none, none] [] τ Q := by
  have sh : ∀ τ : T2, FX2 τ → tS τ 220 = (1, 21, 0) := fun τ F => F.sh rfl (by omega) (by omega)
  have sq : ∀ τ : T2, FX2 τ → tS τ 224 = (3, 9, 100) := fun τ F => F.sh rfl (by omega) (by omega)
  -- from the count below 100 on
  have rest : ∀ (τ1 : T2) (E1 : List ENM), OC AMP τ τ1 → FX2 τ1 → tN τ1 = tN τ → tZ τ1 = tZ τ → LgM τ1 E1 → E1.length < 100 → E1 = E.take 99 → G d 170 68 [vR 220, vI x1, vI x2, vI x3, vI x4, vI x5, none, none] [] τ1 Q := by
    intro τ1 E1 o F1 hn hz hl h100 hE
    obtain ⟨p, h1, h2, h3, h4, h5⟩ := hl
    have hp := h1 E1.length h100
    refine t170x_68 (q2 := 224) (n4 := 100) (q7 := 236 + p E1.length) (sh _ F1) (F1.p rfl) (sq _ F1) (by rw [h3]; omega) (by rw [h3, Int.toNat_natCast]; exact hp.2) (F1.sh (SHA _ hp.1) (by omega) (by omega)) ?_
    rw [h3, wr_nat (by omega)]
    have hq : 236 ≤ 236 + p E1.length ∧ 236 + p E1.length < 336 := by omega
    refine k _ _ (tP τ1 (236 + p E1.length) 5, tP τ1 (236 + p E1.length) 6, tP τ1 (236 + p E1.length) 7) ((((((o.j (Or.inr (Or.inr ⟨rfl, rfl⟩))).j (Or.inr (Or.inl hq))).j (Or.inr (Or.inl hq))).j (Or.inr (Or.inl hq))).j (Or.inr (Or.inl hq))).j (Or.inr (Or.inl hq))) F1.j.j.j.j.j.j hn hz ⟨p, h1, h2, ?_, ?_, ?_, ?_, fun i e he => ?_⟩
    · rw [tI_uI, if_neg (by omega), tI_uI, if_neg (by omega), tI_uI, if_neg (by omega), tI_uI, if_neg (by omega), tI_uI, if_neg (by omega), tI_uI, if_pos ⟨rfl, rfl⟩, List.length_cons, hE]
    · simp
    · simp only [List.length_cons]; rw [← hE]; omega
    · simp only [List.length_cons]; rw [hE]; rfl
    · match i, he with
      | 0, he =>
        obtain rfl := Option.some.inj he
        simp only [List.length_cons]
        rw [show (E.take 99).length + 1 - 1 - 0 = E1.length by rw [hE]; omega]
        refine ⟨⟨?_, ?_, ?_, ?_, ?_⟩, rfl, rfl, rfl⟩
        · rw [tI_uI, if_neg (by omega), tI_uI, if_neg (by omega), tI_uI, if_neg (by omega), tI_uI, if_neg (by omega), tI_uI, if_pos ⟨rfl, rfl⟩]
        · rw [tI_uI, if_neg (by omega), tI_uI, if_neg (by omega), tI_uI, if_neg (by omega), tI_uI, if_pos ⟨rfl, rfl⟩]
        · rw [tI_uI, if_neg (by omega), tI_uI, if_neg (by omega), tI_uI, if_pos ⟨rfl, rfl⟩]
        · rw [tI_uI, if_neg (by omega), tI_uI, if_pos ⟨rfl, rfl⟩]
        · rw [tI_uI, if_pos ⟨rfl, rfl⟩]
      | i + 1, he =>
        rw [List.getElem?_cons_succ, ← hE] at he
        have hi : i < E1.length := (List.getElem?_eq_some_iff.mp he).1
        have h8 := h5 i e he
        simp only [List.length_cons]
        rw [← hE, show E1.length + 1 - 1 - (i + 1) = E1.length - 1 - i by omega]
        have hne : p (E1.length - 1 - i) ≠ p E1.length := fun z => by
          have := h2 _ _ (by omega) (by omega) z
          omega
        have hpi := (h1 (E1.length - 1 - i) (by omega)).1
        have sm : ∀ j, tI (uI (uI (uI (uI (uI (uI τ1 220 12 ((E1.length + 1 : Nat) : Int)) (236 + p E1.length) 0 x1) (236 + p E1.length) 1 x2) (236 + p E1.length) 2 x3) (236 + p E1.length) 3 x4) (236 + p E1.length) 4 x5) (236 + p (E1.length - 1 - i)) j = tI τ1 (236 + p (E1.length - 1 - i)) j := fun j => by
          rw [tI_uI, if_neg (by omega), tI_uI, if_neg (by omega), tI_uI, if_neg (by omega), tI_uI, if_neg (by omega), tI_uI, if_neg (by omega), tI_uI, if_neg (by omega)]
        unfold EnM at h8 ⊢
        rw [sm, sm, sm, sm, sm]
        exact h8
  by_cases h100 : E.length < 100
  · refine t170x_0 (q3 := 224) (n5 := 100) (sh τ F) (F.p rfl) (sq τ F) (by decide) (fun _ => rest τ E OC.rf F rfl rfl h h100 ?_) (fun c => ?_)
    · rw [List.take_of_length_le (by omega)]
    · obtain ⟨p, h1, h2, h3, h4, h5⟩ := h
      rw [h3] at c; omega
  · obtain ⟨p, h1, h2, h3, h4, h5⟩ := h
    have hl : E.length = 100 := by omega
    refine t170x_0 (q3 := 224) (n5 := 100) (sh τ F) (F.p rfl) (sq τ F) (by decide) (fun c => by rw [h3] at c; omega) (fun _ => ?_)
    rw [(h1 0 (by omega)).2]
    have lp : ∀ (j n : Nat) (τ1 : T2), n + j = 100 → 1 ≤ n → OC AMP τ τ1 → FX2 τ1 → tN τ1 = tN τ → tZ τ1 = tZ τ → tI τ1 = tI τ → (∀ a i, a ≠ 224 → tP τ1 a i = tP τ a i) → (∀ i, i < 100 → tP τ1 224 i = some (236 + p (if i + 1 < n then i + 1 else i))) → G d 170 20 [vR 220, vI x1, vI x2, vI x3, vI x4, vI x5, vR (236 + p 0), vI (n : Int)] [] τ1 Q := by
      intro j
      induction j with
      | zero =>
        intro n τ1 hn h1n o F1 hN hZ hI hP h9
        have en : n = 100 := by omega
        subst en
        have sp : tS τ1 (236 + p 0) = (1, 12, 0) := F1.sh (SHA _ (h1 0 (by omega)).1) (by omega) (by have := (h1 0 (by omega)).1; omega)
        refine t170x_20 (q3 := 224) (q10 := 0) (n5 := 100) (sh _ F1) (F1.p rfl) (sq _ F1) (by decide) (fun _ => by rw [sp]; rfl) (fun c => absurd c (by decide)) (fun c => absurd c (by decide)) (fun c => absurd c (by decide)) (fun c => absurd c (by decide)) (fun _ => ?_) (fun c => absurd c (by decide))
        have e12 : tI (uP τ1 224 99 (some (236 + p 0))) 220 12 = ((99 + 1 : Nat) : Int) := by rw [tI_uP, hI, h3, hl]
        rw [e12, show wr (((99 + 1 : Nat) : Int) - 1) = 99 from by decide]
        refine rest _ (E.take 99) ((o.q (Or.inl rfl)).j (Or.inr (Or.inr ⟨rfl, rfl⟩))) (FX2.j (F1.q rfl)) hN hZ ⟨fun i => p (if i = 99 then 0 else i + 1), fun i hi => ?_, fun i i1 hi hi1 e => ?_, ?_, ?_, fun i e he => ?_⟩ ?_ rfl
        · refine ⟨(h1 _ (by split <;> omega)).1, ?_⟩
          show tP (uI (uP τ1 224 99 (some (236 + p 0))) 220 12 99) 224 i = some (236 + p (if i = 99 then 0 else i + 1))
          rw [tP_uI, tP_uP]
          by_cases e : i = 99
          · rw [if_pos ⟨rfl, e⟩, if_pos e]
          · rw [if_neg (fun z => e z.2), if_neg e, h9 i hi, if_pos (by omega)]
        · have := h2 _ _ (by split <;> omega) (by split <;> omega) e
          split at this <;> split at this <;> omega
        · rw [tI_uI, if_pos ⟨rfl, rfl⟩, List.length_take, hl]; rfl
        · rw [List.length_take]; omega
        · rw [List.getElem?_take] at he
          by_cases hi : i < 99
          · rw [if_pos hi] at he
            have h8 := h5 i e he
            show EnM _ (236 + p (if (E.take 99).length - 1 - i = 99 then 0 else (E.take 99).length - 1 - i + 1)) e
            rw [List.length_take, hl, show min 99 100 - 1 - i = 98 - i by omega, if_neg (by omega), show 98 - i + 1 = 100 - 1 - i by omega]
            rw [hl] at h8
            have hpi := (h1 (100 - 1 - i) (by omega)).1
            unfold EnM at h8 ⊢
            have sm : ∀ j, tI (uI (uP τ1 224 99 (some (236 + p 0))) 220 12 99) (236 + p (100 - 1 - i)) j = tI τ (236 + p (100 - 1 - i)) j := fun j => by
              rw [tI_uI, if_neg (by omega), tI_uP, hI]
            have sm2 : ∀ j, tP (uI (uP τ1 224 99 (some (236 + p 0))) 220 12 99) (236 + p (100 - 1 - i)) j = tP τ (236 + p (100 - 1 - i)) j := fun j => by
              rw [tP_uI, tP_uP, if_neg (by omega), hP _ _ (by omega)]
            rw [sm, sm, sm, sm, sm, sm2, sm2, sm2]
            exact h8
          · rw [if_neg hi] at he; cases he
        · rw [List.length_take]; omega
      | succ j ih =>
        intro n τ1 hn h1n o F1 hN hZ hI hP h9
        have e9 := h9 n (by omega)
        rw [if_neg (by omega)] at e9
        have hpn := (h1 n (by omega)).1
        have sp : tS τ1 (236 + p n) = (1, 12, 0) := F1.sh (SHA _ hpn) (by omega) (by omega)
        refine t170x_20 (q3 := 224) (q10 := 236 + p n) (n5 := 100) (sh _ F1) (F1.p rfl) (sq _ F1) (by decide) (fun c => by omega) (fun _ => by omega) (fun _ => by rw [Int.toNat_natCast]; exact e9) (fun _ => by rw [wr_id (by unfold okI; omega)]; omega) (fun _ => by rw [sp]; rfl) (fun c => by omega) (fun _ => ?_)
        rw [wr_nat (by omega), wr_id (x := (n : Int) - 1) (by unfold okI; omega), show ((n : Int) - 1).toNat = n - 1 by omega]
        refine ih (n + 1) _ (by omega) (by omega) (o.q (Or.inl rfl)) (F1.q rfl) hN hZ hI (fun a i ha => ?_) (fun i hi => ?_)
        · rw [tP_uP, if_neg (fun z => ha z.1)]; exact hP a i ha
        · rw [tP_uP]
          by_cases e : i = n - 1
          · rw [if_pos ⟨rfl, e⟩, if_pos (by omega), e, show n - 1 + 1 = n by omega]
          · rw [if_neg (fun z => e z.2), h9 i hi]
            by_cases e2 : i + 1 < n
            · rw [if_pos e2, if_pos (by omega)]
            · rw [if_neg e2, if_neg (by omega)]
    have := lp 99 1 τ rfl (by omega) OC.rf F rfl rfl rfl (fun _ _ _ => rfl) (fun i hi => by rw [if_neg (by omega)]; exact (h1 i hi).2)
    exact this
def UPM (a k : Nat) : Prop := DM a k ∨ (a = 220 ∧ (k = 12 ∨ k = 0))
/-- undo of the model -/
theorem m171 (F : FX2 τ) {c : CO} {cs : List CO} {E : List ENM} (R : RM τ c) (w : WF c) (h : LgM τ E) (hc : ChM τ c cs E) (hd : 32 ≤ d) (k0 : cs = [] → Q (.inl (some (AI 0))) (uI τ 220 0 0)) (k1 : ∀ c1 cs1 E1 τ1, cs = c1 :: cs1 → OC UPM τ τ1 → FX2 τ1 → tN τ1 = tN τ → tZ τ1 = tZ τ → RM τ1 c1 → LgM τ1 E1 → ChM τ1 c1 cs1 E1 → Q (.inl (some (AI 1))) τ1) : G d 171 0 [vR 220, none, none] [] τ Q := by
  have sh : ∀ τ : T2, FX2 τ → tS τ 220 = (1, 21, 0) := fun τ F => F.sh rfl (by omega) (by omega)
  have hlen := hc.len
  obtain ⟨p, h1, h2, h3, h4, h5⟩ := h
  have e12 : tI (uI τ 220 0 0) 220 12 = (E.length : Int) := by rw [tI_uI, if_neg (by decide)]; exact h3
  cases E with
  | nil =>
    refine t171_0 (q3 := 224) (n5 := 100) (q8 := 236) (sh τ F) (F.p rfl) (F.sh rfl (by omega) (by omega)) (fun z => absurd e12 z) (fun z => absurd e12 z) (F.sh rfl (by omega) (by omega)) (fun z => absurd e12 z) (fun _ => k0 (List.eq_nil_of_length_eq_zero hlen))
  | cons e E1 =>
    cases cs with
    | nil => exact hc.elim
    | cons c1 cs1 =>
      simp only [List.length_cons] at h4 e12
      have w12 : wr (tI (uI τ 220 0 0) 220 12 - 1) = (E1.length : Int) := by rw [e12, wr_id (by unfold okI; omega)]; omega
      have hp := h1 E1.length (by omega)
      have e13 : ∀ x : Int, tI (uI (uI τ 220 0 0) 220 12 x) 220 12 = x := fun x => by rw [tI_uI, if_pos ⟨rfl, rfl⟩]
      have en := h5 0 e rfl
      simp only [List.length_cons] at en
      rw [show E1.length + 1 - 1 - 0 = E1.length by omega] at en
      have o1 : OC UPM τ (uI (uI τ 220 0 0) 220 12 (E1.length : Int)) := (OC.rf.j (Or.inr ⟨rfl, Or.inr rfl⟩)).j (Or.inr ⟨rfl, Or.inl rfl⟩)
      have o0 : OC (fun a k => a = 220 ∧ (k = 12 ∨ k = 0)) τ (uI (uI τ 220 0 0) 220 12 (E1.length : Int)) := OC.j (P := fun a k => a = 220 ∧ (k = 12 ∨ k = 0)) (OC.j (P := fun a k => a = 220 ∧ (k = 12 ∨ k = 0)) OC.rf ⟨rfl, Or.inr rfl⟩) ⟨rfl, Or.inl rfl⟩
      have F1 : FX2 (uI (uI τ 220 0 0) 220 12 (E1.length : Int)) := F.j.j
      have fr : Fr τ (uI (uI τ 220 0 0) 220 12 (E1.length : Int)) := o0.fr fun a k z => by omega
      refine t171_0 (q3 := 224) (n5 := 100) (q8 := 236 + p E1.length) (sh τ F) (F.p rfl) (F.sh rfl (by omega) (by omega)) (fun _ => by rw [w12, e13]; omega) (fun _ => by rw [w12, e13, Int.toNat_natCast]; exact hp.2) (F.sh (SHA _ hp.1) (by omega) (by omega)) (fun _ => ?_) (fun z => by rw [e12] at z; omega)
      rw [w12]
      have en1 : EnM (uI (uI τ 220 0 0) 220 12 (E1.length : Int)) (236 + p E1.length) e := en.oc (by have := F.1; omega) o0 (fun k => by omega)
      rw [en1.1.1]
      refine hc.1 _ d Q (236 + p E1.length) (by omega) fr F1 (R.oc w F o0 (fun a k z => ⟨by unfold DM; omega, by omega⟩)) (by omega) (by omega) en1 (fun τ2 o2 F2 hn2 hz2 R2 => ?_)
      have o2g : ∀ a k, DM a k → ¬ (a = 224 ∨ (236 ≤ a ∧ a < 336) ∨ (a = 220 ∧ k = 12)) := fun a k z => by unfold DM at z; omega
      have N := F.1
      refine k1 c1 cs1 E1 τ2 rfl (o1.tr (o2.mo fun a k z => Or.inl z)) F2 hn2 hz2 R2 ?_ (hc.2.fr (fr.tr (o2.fr fun a k z => by unfold DM at z; omega)))
      refine LgM.oc (τ := uI (uI τ 220 0 0) 220 12 (E1.length : Int)) ⟨p, h1, h2, e13 _, by omega, fun i e1 he => ?_⟩ F1 o2 o2g
      have hi : i < E1.length := (List.getElem?_eq_some_iff.mp he).1
      have h8 := h5 (i + 1) e1 he
      simp only [List.length_cons] at h8
      rw [show E1.length + 1 - 1 - (i + 1) = E1.length - 1 - i by omega] at h8
      have hpi := (h1 (E1.length - 1 - i) (by omega)).1
      exact h8.oc (by omega) o0 (fun k => by omega)
end LOG
