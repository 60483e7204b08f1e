/-! WORKINGS read by the model -/
def WOb (τ : T2) (q : Nat) : Prop := 473 ≤ q ∧ q + 5 < tN τ ∧ tS τ q = (1, 20, 0) ∧ (tP τ q 0 = some (q + 1) ∧ tP τ q 1 = some (q + 2) ∧ tP τ q 2 = some (q + 3) ∧ tP τ q 3 = some (q + 4) ∧ tP τ q 4 = some (q + 5)) ∧ tS τ (q + 1) = (2, 0, 12) ∧ tS τ (q + 2) = (2, 0, 12) ∧ tS τ (q + 3) = (2, 0, 12) ∧ tS τ (q + 4) = (2, 0, 144) ∧ tS τ (q + 5) = (2, 0, 144)
/-- a row of steps; all below a number -/
def rwW (τ : T2) (q k : Nat) : List WOP := if tI τ (q + 1) k = 0 then (List.range (tI τ (q + 3) k).toNat).map fun i => (1, tI τ (q + 5) (12 * k + i), tI τ (q + 4) (12 * k + i)) else if tI τ (q + 1) k = 3 ∨ tI τ (q + 1) k = 4 then [(tI τ (q + 1) k + 1, 0, 0)] else [(tI τ (q + 1) k + 1, tI τ (q + 2) k, 0)]
def rwsW (τ : T2) (q : Nat) : Nat → List WOP
  | 0 => []
  | n + 1 => rwsW τ q n ++ rwW τ q n
def okRw (τ : T2) (q n : Nat) : Prop := ∀ k, k < n → (0 ≤ tI τ (q + 1) k ∧ tI τ (q + 1) k ≤ 6) ∧ 0 ≤ tI τ (q + 3) k ∧ tI τ (q + 3) k ≤ 12
def RwE (τ τ1 : T2) (q k : Nat) : Prop := (∀ i, i < k → tI τ1 (q + 1) i = tI τ (q + 1) i ∧ tI τ1 (q + 2) i = tI τ (q + 2) i ∧ tI τ1 (q + 3) i = tI τ (q + 3) i) ∧ ∀ i, i < 12 * k → tI τ1 (q + 4) i = tI τ (q + 4) i ∧ tI τ1 (q + 5) i = tI τ (q + 5) i
theorem RwE.rf {τ : T2} {q k : Nat} : RwE τ τ q k := ⟨fun _ _ => ⟨rfl, rfl, rfl⟩, fun _ _ => ⟨rfl, rfl⟩⟩
theorem RwE.tr {τ τ1 τ2 : T2} {q k : Nat} (h : RwE τ τ1 q k) (h1 : RwE τ1 τ2 q k) : RwE τ τ2 q k := ⟨fun i hi => ⟨(h1.1 i hi).1.trans (h.1 i hi).1, (h1.1 i hi).2.1.trans (h.1 i hi).2.1, (h1.1 i hi).2.2.trans (h.1 i hi).2.2⟩, fun i hi => ⟨(h1.2 i hi).1.trans (h.2 i hi).1, (h1.2 i hi).2.trans (h.2 i hi).2⟩⟩
theorem RwE.mo {τ τ1 : T2} {q k j : Nat} (h : RwE τ τ1 q k) (hj : j ≤ k) : RwE τ τ1 q j := ⟨fun i hi => h.1 i (by omega), fun i hi => h.2 i (by omega)⟩
theorem rwW_e {τ τ1 : T2} {q k n : Nat} (h : RwE τ τ1 q n) (hk : k < n) (ht : tI τ (q + 3) k ≤ 12) : rwW τ1 q k = rwW τ q k := by
  obtain ⟨e1, e2, e3⟩ := h.1 k hk
  unfold rwW
  rw [e1, e2, e3]
  have : (List.range (tI τ (q + 3) k).toNat).map (fun i => ((1, tI τ1 (q + 5) (12 * k + i), tI τ1 (q + 4) (12 * k + i)) : WOP)) = (List.range (tI τ (q + 3) k).toNat).map (fun i => (1, tI τ (q + 5) (12 * k + i), tI τ (q + 4) (12 * k + i))) := by
    apply List.map_congr_left
    intro i hi
    have := List.mem_range.mp hi
    obtain ⟨x1, x2⟩ := h.2 (12 * k + i) (by omega)
    rw [x1, x2]
  rw [this]
theorem rwsW_e {τ τ1 : T2} {q : Nat} : ∀ (n : Nat), RwE τ τ1 q n → okRw τ q n → rwsW τ1 q n = rwsW τ q n
  | 0, _, _ => rfl
  | n + 1, h, ok => by
    simp only [rwsW]
    rw [rwsW_e n (h.mo (by omega)) (fun k hk => ok k (by omega)), rwW_e h (by omega) (ok n (by omega)).2.2]
theorem okRw.e {τ τ1 : T2} {q n : Nat} (h : okRw τ q n) (e : RwE τ τ1 q n) : okRw τ1 q n := fun k hk => by
  obtain ⟨e1, e2, e3⟩ := e.1 k hk
  rw [e1, e3]; exact h k hk
def PPW (q a k : Nat) : Prop := (a = 220 ∧ 17 ≤ k ∧ k ≤ 22) ∨ (a = 225 ∧ (k = 6 ∨ k = 7)) ∨ (q ≤ a ∧ a ≤ q + 5)
def PKW (q : Nat) (τ τ1 : T2) : Prop := OC (PPW q) τ τ1 ∧ tN τ1 = tN τ ∧ tZ τ1 = tZ τ ∧ (WOb τ q → WOb τ1 q)
section WMO
variable {f : Nat → Int} {n own q : Nat}
theorem PKW.rf {τ : T2} : PKW q τ τ := ⟨OC.rf, rfl, rfl, fun h => h⟩
theorem PKW.tr {τ τ1 τ2 : T2} (h : PKW q τ τ1) (h1 : PKW q τ1 τ2) : PKW q τ τ2 := ⟨h.1.tr h1.1, h1.2.1.trans h.2.1, h1.2.2.1.trans h.2.2.1, fun x => h1.2.2.2 (h.2.2.2 x)⟩
theorem PKW.j {τ τ1 : T2} {a k : Nat} {x : Int} (h : PKW q τ τ1) (hp : PPW q a k) : PKW q τ (uI τ1 a k x) := ⟨h.1.j hp, h.2.1, h.2.2.1, fun y => h.2.2.2 y⟩
theorem WOb.oc {τ τ1 : T2} {P : Nat → Nat → Prop} (h : WOb τ q) (o : OC P τ τ1) (hp : ∀ a k, P a k → a < 473) : WOb τ1 q := by
  obtain ⟨h1, h2, h3, ⟨p0, p1, p2, p3, p4⟩, s1, s2, s3, s4, s5⟩ := h
  have sp : ∀ k, tP τ1 q k = tP τ q k := fun k => (o.2.2.2 q k (by omega) (fun z => by have := hp _ _ z; omega)).2
  have sh : ∀ a, a < tN τ → tS τ1 a = tS τ a := o.2.2.1
  have hN := o.1
  refine ⟨h1, by omega, by rw [sh q (by omega)]; exact h3, ⟨?_, ?_, ?_, ?_, ?_⟩, ?_, ?_, ?_, ?_, ?_⟩
  · rw [sp]; exact p0
  · rw [sp]; exact p1
  · rw [sp]; exact p2
  · rw [sp]; exact p3
  · rw [sp]; exact p4
  · rw [sh _ (by omega)]; exact s1
  · rw [sh _ (by omega)]; exact s2
  · rw [sh _ (by omega)]; exact s3
  · rw [sh _ (by omega)]; exact s4
  · rw [sh _ (by omega)]; exact s5
/-- a change that leaves the working's cells alone -/
theorem wcel {τ τ1 : T2} {P : Nat → Nat → Prop} (h : WOb τ q) (o : OC P τ τ1) (hp : ∀ a k, P a k → a < 473) : ∀ a k, q ≤ a → a ≤ q + 5 → tI τ1 a k = tI τ a k := fun a k h1 h2 => (o.2.2.2 a k (by have := h.2.1; omega) (fun z => by have := hp a k z; have := h.1; omega)).1
theorem PKW.nx {τ τ1 : T2} (o : OC NXM τ τ1) (n1 : tN τ1 = tN τ) (z1 : tZ τ1 = tZ τ) : PKW q τ τ1 := ⟨o.mo fun a k z => by unfold NXM at z; unfold PPW; omega, n1, z1, fun h => h.oc o (fun a k z => by unfold NXM at z; omega)⟩
theorem PKW.th {τ τ1 : T2} {e : Int × Nat} (h : THM τ τ1 e) : PKW q τ τ1 := ⟨h.1.mo fun a k z => by unfold PPW; omega, h.2.2.1, h.2.2.2.1, fun x => x.oc h.1 (fun a k z => by omega)⟩
theorem RwE.cel {τ τ1 : T2} {k : Nat} (h : ∀ a k, q ≤ a → a ≤ q + 5 → tI τ1 a k = tI τ a k) : RwE τ τ1 q k := ⟨fun i _ => ⟨h _ i (by omega) (by omega), h _ i (by omega) (by omega), h _ i (by omega) (by omega)⟩, fun i _ => ⟨h _ i (by omega) (by omega), h _ i (by omega) (by omega)⟩⟩
/-- a number of the working's own cells is set -/
theorem PMb.w {τ : T2} {a b k : Nat} {x : Int} (h : PMb τ f n a) (hb : 473 ≤ b) : PMb (uI τ b k x) f n a := h.oc h.1.j (OC.j (P := fun a _ => a = b) OC.rf rfl) (fun c j z => by omega)
/-- what was taken at a step -/
def TkR (τ : T2) (q k : Nat) (V : List WOP) : Prop := tI τ (q + 3) k = (V.length : Int) ∧ ∀ i x, V[i]? = some x → x.1 = 1 ∧ tI τ (q + 5) (12 * k + i) = x.2.1 ∧ tI τ (q + 4) (12 * k + i) = x.2.2
theorem TkR.row {τ : T2} {k : Nat} {V : List WOP} (h : TkR τ q k V) (h0 : tI τ (q + 1) k = 0) : rwW τ q k = V := by
  unfold rwW
  rw [if_pos h0, h.1, Int.toNat_natCast]
  apply List.ext_getElem?
  intro i
  by_cases hi : i < V.length
  · have hx : V[i]? = some V[i] := List.getElem?_eq_getElem hi
    obtain ⟨x1, x2, x3⟩ := h.2 i _ hx
    rw [hx, List.getElem?_map, List.getElem?_range hi]
    show some ((1 : Int), tI τ (q + 5) (12 * k + i), tI τ (q + 4) (12 * k + i)) = some V[i]
    rw [x2, x3, ← x1]
  · rw [List.getElem?_eq_none (by simp; omega), List.getElem?_eq_none (by omega)]
theorem TkR.ap {τ τ1 : T2} {k : Nat} {V : List WOP} {v p : Int} (h : TkR τ q k V) (h12 : V.length < 12) (e3 : tI τ1 (q + 3) k = ((V.length + 1 : Nat) : Int)) (e5 : ∀ i, tI τ1 (q + 5) i = if i = 12 * k + V.length then v else tI τ (q + 5) i) (e4 : ∀ i, tI τ1 (q + 4) i = if i = 12 * k + V.length then p else tI τ (q + 4) i) : TkR τ1 q k (V ++ [(1, v, p)]) := by
  refine ⟨by rw [e3]; simp, fun i x hx => ?_⟩
  by_cases hi : i < V.length
  · rw [List.getElem?_append_left hi] at hx
    obtain ⟨x1, x2, x3⟩ := h.2 i x hx
    rw [e5, e4, if_neg (by omega), if_neg (by omega)]
    exact ⟨x1, x2, x3⟩
  · have hl := (List.getElem?_eq_some_iff.mp hx).1
    simp at hl
    have ei : i = V.length := by omega
    subst ei
    rw [List.getElem?_append_right (Nat.le_refl _), Nat.sub_self] at hx
    obtain rfl := Option.some.inj hx
    rw [e5, e4, if_pos rfl, if_pos rfl]
    exact ⟨rfl, rfl, rfl⟩
/-- readTake -/
theorem m202 {d : Nat} {τ : T2} {Q : RS → T2 → Prop} {a k : Nat} (hd : 25 ≤ d) (ho : own ≤ 20) (h : PMb τ f n a) (wo : WOb τ q) (hk : k < 12) (ht0 : tI τ (q + 3) k = 0) (k0 : ∀ e τ1, pTk f n own 12 a = .inl e → PKW q τ τ1 → FX2 τ1 → tI τ1 225 6 = e.1 → tI τ1 225 7 = (e.2 : Int) → Q (.inr 225) τ1) (k1 : ∀ V a1 τ1, pTk f n own 12 a = .inr (V, a1) → PKW q τ τ1 → PMb τ1 f n a1 → RwE τ τ1 q k → (∀ j, k < j → tI τ1 (q + 3) j = tI τ (q + 3) j) → tI τ1 (q + 1) = tI τ (q + 1) → tI τ1 q 5 = tI τ q 5 → TkR τ1 q k V → V.length ≤ 12 → (∀ x ∈ V, okW own x) → a < a1 → Q (.inl none) τ1) : G d 202 0 [vR 220, vI (own : Int), vR q, vI (k : Int), none, none] [] τ Q := by
  have s : ∀ {τ : T2}, FX2 τ → tS τ 220 = (1, 21, 0) := fun F => (s220 F).1
  have lp : ∀ (j a1 : Nat) (τ1 : T2) (V0 : List WOP), V0.length + j = 12 → (∀ e, pTk f n own j a1 = .inl e → pTk f n own 12 a = .inl e) → (∀ V b, pTk f n own j a1 = .inr (V, b) → pTk f n own 12 a = .inr (V0 ++ V, b)) → PKW q τ τ1 → PMb τ1 f n a1 → RwE τ τ1 q k → (∀ j, k < j → tI τ1 (q + 3) j = tI τ (q + 3) j) → tI τ1 (q + 1) = tI τ (q + 1) → tI τ1 q 5 = tI τ q 5 → TkR τ1 q k V0 → (∀ x ∈ V0, okW own x) → a ≤ a1 → G d 202 3 [vR 220, vI (own : Int), vR q, vI (k : Int), vI 1, none] [] τ1 Q := by
    intro j
    induction j with
    | zero =>
      intro a1 τ1 V0 hV e0 e1 p1 h1 r1 b1 c1 d1 t1 ok1 ha1
      have K := h1.2.2.1
      have hk3 := K.so 3 (by omega)
      obtain ⟨w1, w2, w3, ⟨p0, pp1, pp2, pp3, pp4⟩, s1, s2, s3, s4, s5⟩ := p1.2.2.2 wo
      have thr : ∀ e τ2, pTk f n own 0 a1 = .inl e → THM τ1 τ2 e → Q (.inr 225) τ2 := fun e τ2 he t2 => k0 e τ2 (e0 e he) (p1.tr (PKW.th t2)) t2.2.1 t2.2.2.2.2.1 t2.2.2.2.2.2
      refine t202_3 (r2 := some q) (by omega) (s h1.1) (fun q => absurd q (by decide)) (fun _ q3 => ?_) (fun _ q3 => m172' h1 (fun τ2 o2 F2 n2 z2 y1 y2 => t202_21 (by omega) (s225 F2) (thr (1, tkF f n a1) τ2 ?_ ⟨o2, F2, n2, z2, y1, y2⟩)))
      · have h3 := hk3.mp q3
        rw [(K.2.2.2.2.2.1 h3).2]
        refine m167 (fun x1 x2 => ?_) (fun x1 => ?_)
        · refine t202_32 (q3 := q + 3) (n5 := 12) (q9 := q + 4) (n12 := 144) (by omega) w3 pp2 s3 (fun _ => by omega) pp3 (s h1.1) s4 (fun _ x => absurd (by rw [Int.toNat_natCast, t1.1, show V0.length = 12 by omega]; rfl) x) (fun _ x => absurd (by rw [Int.toNat_natCast, t1.1, show V0.length = 12 by omega]; rfl) x) (fun _ _ => m172' h1 (fun τ2 o2 F2 n2 z2 y1 y2 => t202_57 (by omega) (s225 F2) (thr (4, tkF f n a1) τ2 ?_ ⟨o2, F2, n2, z2, y1, y2⟩))) (fun x => absurd x (by decide))
          simp [pTk, pNum, h3, x1, x2]
        · refine t202_32 (q3 := q + 3) (n5 := 12) (q9 := q + 4) (n12 := 144) (by omega) w3 pp2 s3 (fun _ => by omega) pp3 (s h1.1) s4 (fun x => absurd rfl x) (fun x => absurd rfl x) (fun x => absurd rfl x) (fun _ => m172' h1 (fun τ2 o2 F2 n2 z2 y1 y2 => t202_40 (by omega) (s225 F2) (thr (3, tkF f n a1) τ2 ?_ ⟨o2, F2, n2, z2, y1, y2⟩)))
          have : ¬ (1 ≤ tkN f n a1 ∧ tkN f n a1 ≤ 12) := by omega
          simp only [pTk, pNum]
          rw [if_pos h3, if_neg this]
      · have : ¬ tkS f n a1 = 3 := fun y => q3 (hk3.mpr y)
        simp only [pTk, pNum]
        rw [if_neg this]
    | succ j ih =>
      intro a1 τ1 V0 hV e0 e1 p1 h1 r1 b1 c1 d1 t1 ok1 ha1
      have K := h1.2.2.1
      have hk3 := K.so 3 (by omega)
      have wo1 := p1.2.2.2 wo
      obtain ⟨w1, w2, w3, ⟨p0, pp1, pp2, pp3, pp4⟩, s1, s2, s3, s4, s5⟩ := id wo1
      have thr : ∀ e τ2, pTk f n own (j + 1) a1 = .inl e → THM τ1 τ2 e → Q (.inr 225) τ2 := fun e τ2 he t2 => k0 e τ2 (e0 e he) (p1.tr (PKW.th t2)) t2.2.1 t2.2.2.2.2.1 t2.2.2.2.2.2
      refine t202_3 (r2 := some q) (by omega) (s h1.1) (fun q => absurd q (by decide)) (fun _ q3 => ?_) (fun _ q3 => m172' h1 (fun τ2 o2 F2 n2 z2 y1 y2 => t202_21 (by omega) (s225 F2) (thr (1, tkF f n a1) τ2 ?_ ⟨o2, F2, n2, z2, y1, y2⟩)))
      · have h3 := hk3.mp q3
        rw [(K.2.2.2.2.2.1 h3).2]
        have ek : wr (12 * (k : Int)) = ((12 * k : Nat) : Int) := by rw [wr_id (by unfold okI; omega)]; omega
        have ei : wr (wr (12 * (k : Int)) + tI τ1 (q + 3) ((k : Int)).toNat) = ((12 * k + V0.length : Nat) : Int) := by
          rw [ek, Int.toNat_natCast, t1.1, wr_id (by unfold okI; omega)]
          omega
        clear ek
        refine m167 (fun x1 x2 => ?_) (fun x1 => ?_)
        · have he : pNum f n a1 1 12 3 = .inr (tkN f n a1, tkT f n a1) := by unfold pNum; rw [if_pos h3, if_pos ⟨x1, x2⟩]
          have pk := pTk_s (own := own) (j := j) he
          have hlt := (tk_w h1.2.2.2 (show tkS f n a1 ≠ 0 by omega)).1
          refine t202_32 (q3 := q + 3) (n5 := 12) (q9 := q + 4) (n12 := 144) (by omega) w3 pp2 s3 (fun _ => by omega) pp3 (s h1.1) s4 (fun _ _ => by rw [ei]; clear ei; omega) (fun _ _ => ?_) (fun _ x => by rw [Int.toNat_natCast, t1.1] at x; clear ei; omega) (fun x => absurd x (by decide))
          rw [ei, Int.toNat_natCast, (K.2.2.2.2.2.1 h3).2]
          clear ei
          generalize hp : tkN f n a1 = p at *
          -- the place is written
          have h2 : PMb (uI τ1 (q + 4) (12 * k + V0.length) p) f n a1 := h1.w (by omega)
          have pk2 : PKW q τ (uI τ1 (q + 4) (12 * k + V0.length) p) := p1.j (by unfold PPW; omega)
          refine m177' h2 (by omega) (by omega) (fun τ3 o3 F3 n3 z3 h3' => t202_86 (r2 := some q) (by omega) (s F3) ?_)
          have pk3 : PKW q τ τ3 := pk2.tr (PKW.nx o3 n3 z3)
          have ce3 := wcel (q := q) (show WOb (uI τ1 (q + 4) (12 * k + V0.length) p) q from wo1) o3 (fun a k z => by unfold NXM at z; omega)
          refine m179 F3 h3'.2.2.1 (t := wdOf) rfl (by decide) (by omega) ?_
          cases hw : isW f n (tkT f n a1) wdOf with
          | false =>
            exact t202_93 (r2 := some q) (by omega) (s F3) (fun x => absurd rfl x) (fun _ => m172' h3' (fun τ4 o4 F4 n4 z4 y1 y2 => t202_101 (by omega) (s225 F4) (k0 (1, tkF f n (tkT f n a1)) τ4 (e0 _ (pk.1 hw)) (pk3.tr (PKW.th (e := (1, tkF f n (tkT f n a1))) ⟨o4, F4, n4, z4, y1, y2⟩)) F4 y1 y2)))
          | true =>
            obtain ⟨pkA, pkB⟩ := pk.2 hw
            have hT := isW_t h3'.2.2.2 hw
            have ts2 : tkS f n (tkT f n a1) = 2 := by unfold isW at hw; rw [decide_eq_true_eq] at hw; exact hw.1
            refine t202_93 (r2 := some q) (by omega) (s F3) (fun _ => ?_) (fun x => absurd x (by decide))
            refine m177' h3' (by omega) (by omega) (fun τ4 o4 F4 n4 z4 h4 => ?_)
            have pk4 : PKW q τ τ4 := pk3.tr (PKW.nx o4 n4 z4)
            have wo4 := pk4.2.2.2 wo
            obtain ⟨v1, v2, v3, ⟨u0, u1, u2, u3, u4⟩, g1, g2, g3, g4, g5⟩ := id wo4
            have ce4 := wcel (q := q) (pk3.2.2.2 wo) o4 (fun a k z => by unfold NXM at z; omega)
            refine t202_106 (by omega) v3 (s F4) ?_
            rw [u4]
            refine m183 h4 (by omega) (fun e τ5 he5 t5 => kc_prop rfl rfl (k0 e τ5 (e0 e (pkA e he5)) (pk4.tr (PKW.th t5)) t5.2.1 t5.2.2.2.2.1 t5.2.2.2.2.2)) (fun v a3 τ5 he5 ea5 hlt5 hlo5 hhi5 o5 F5 n5 z5 h5 => ?_)
            obtain ⟨pkC, pkD⟩ := pkB v a3 he5
            have pk5 : PKW q τ τ5 := pk4.tr (PKW.nx o5 n5 z5)
            have ce5 := wcel (q := q) wo4 o5 (fun a k z => by unfold NXM at z; omega)
            have wo5 := pk5.2.2.2 wo
            obtain ⟨m1, m2, m3, ⟨l0, l1, l2, l3, l4⟩, f1, f2, f3, f4, f5⟩ := id wo5
            have cc : ∀ b i, q ≤ b → b ≤ q + 5 → tI τ5 b i = if b = q + 4 ∧ i = 12 * k + V0.length then p else tI τ1 b i := fun b i x y => by rw [ce5 b i x y, ce4 b i x y, ce3 b i x y, tI_uI]
            have e35 : tI (uI τ5 (q + 5) (12 * k + V0.length) v) (q + 3) k = (V0.length : Int) := by rw [tI_uI, if_neg (by omega), cc _ _ (by omega) (by omega), if_neg (by omega)]; exact t1.1
            refine t202_117 (s2 := q + 5) (n1 := 144) (q5 := q + 3) (n7 := 12) (by omega) f5 (by omega) m3 l2 f3 (by omega) (s F5) ?_
            rw [Int.toNat_natCast, Int.toNat_natCast, e35, wr_nat (by omega)]
            have h6 : PMb (uI (uI τ5 (q + 5) (12 * k + V0.length) v) (q + 3) k ((V0.length + 1 : Nat) : Int)) f n a3 := (h5.w (by omega)).w (by omega)
            have pk6 : PKW q τ (uI (uI τ5 (q + 5) (12 * k + V0.length) v) (q + 3) k ((V0.length + 1 : Nat) : Int)) := (pk5.j (by unfold PPW; omega)).j (by unfold PPW; omega)
            have c6 : ∀ b i, q ≤ b → b ≤ q + 5 → tI (uI (uI τ5 (q + 5) (12 * k + V0.length) v) (q + 3) k ((V0.length + 1 : Nat) : Int)) b i = if b = q + 3 ∧ i = k then ((V0.length + 1 : Nat) : Int) else if b = q + 5 ∧ i = 12 * k + V0.length then v else if b = q + 4 ∧ i = 12 * k + V0.length then p else tI τ1 b i := fun b i x y => by rw [tI_uI, tI_uI, cc b i x y]
            have t6 : TkR (uI (uI τ5 (q + 5) (12 * k + V0.length) v) (q + 3) k ((V0.length + 1 : Nat) : Int)) q k (V0 ++ [(1, v, p)]) := t1.ap (by omega) (by rw [tI_uI, if_pos ⟨rfl, rfl⟩]) (fun i => by
              rw [c6 _ _ (by omega) (by omega), if_neg (by omega)]
              by_cases e : i = 12 * k + V0.length
              · rw [if_pos ⟨rfl, e⟩, if_pos e]
              · rw [if_neg (fun z => e z.2), if_neg e, if_neg (by omega)]) (fun i => by
              rw [c6 _ _ (by omega) (by omega), if_neg (by omega), if_neg (by omega)]
              by_cases e : i = 12 * k + V0.length
              · rw [if_pos ⟨rfl, e⟩, if_pos e]
              · rw [if_neg (fun z => e z.2), if_neg e])
            have r6 : RwE τ (uI (uI τ5 (q + 5) (12 * k + V0.length) v) (q + 3) k ((V0.length + 1 : Nat) : Int)) q k := by
              refine r1.tr ⟨fun i hi => ⟨?_, ?_, ?_⟩, fun i hi => ⟨?_, ?_⟩⟩
              all_goals rw [c6 _ _ (by omega) (by omega), if_neg (by omega), if_neg (by omega), if_neg (by omega)]
            have b6 : ∀ j, k < j → tI (uI (uI τ5 (q + 5) (12 * k + V0.length) v) (q + 3) k ((V0.length + 1 : Nat) : Int)) (q + 3) j = tI τ (q + 3) j := fun j hj => by rw [c6 _ _ (by omega) (by omega), if_neg (by omega), if_neg (by omega), if_neg (by omega)]; exact b1 j hj
            have d6 : tI (uI (uI τ5 (q + 5) (12 * k + V0.length) v) (q + 3) k ((V0.length + 1 : Nat) : Int)) (q + 1) = tI τ (q + 1) := funext fun i => by rw [c6 _ _ (by omega) (by omega), if_neg (by omega), if_neg (by omega), if_neg (by omega), c1]
            have e6 : tI (uI (uI τ5 (q + 5) (12 * k + V0.length) v) (q + 3) k ((V0.length + 1 : Nat) : Int)) q 5 = tI τ q 5 := by rw [c6 _ _ (by omega) (by omega), if_neg (by omega), if_neg (by omega), if_neg (by omega)]; exact d1
            generalize uI (uI τ5 (q + 5) (12 * k + V0.length) v) (q + 3) k ((V0.length + 1 : Nat) : Int) = τ6 at *
            have ok6 : ∀ x ∈ V0 ++ [(1, v, p)], okW own x := fun x hx => by
              rcases List.mem_append.mp hx with y | y
              · exact ok1 x y
              · rw [List.mem_singleton.mp y]
                exact ⟨⟨by show (1 : Int) ≤ 1; decide, by show (1 : Int) ≤ 7; decide⟩, fun _ => ⟨⟨hlo5, hhi5⟩, x1, x2⟩, fun q => absurd (show (1 : Int) = 2 from q) (by decide), fun q => absurd (show (1 : Int) = 3 from q) (by decide), fun q => absurd (show (1 : Int) = 6 ∨ (1 : Int) = 7 from q) (by decide)⟩
            have el : (V0 ++ [(1, v, p)]).length = V0.length + 1 := by simp
            have F6 := h6.1
            refine m180 F6 h6.2.2.1 ?_
            cases hs : isS f n a3 44 with
            | false =>
              refine t202_134 (r2 := some q) (by omega) (s F6) (fun _ => ?_) (fun x => absurd rfl x)
              exact t202_3 (r2 := some q) (by omega) (s F6) (fun _ => k1 _ a3 τ6 (e1 _ _ (pkC hs)) pk6 h6 r6 b6 d6 e6 t6 (by rw [el]; omega) ok6 (by omega)) (fun x => absurd rfl x) (fun x => absurd rfl x)
            | true =>
              obtain ⟨pkE, pkF⟩ := pkD hs
              have hT3 := isS_t h6.2.2.2 hs
              have ts4 : tkS f n a3 = 4 := by unfold isS at hs; rw [decide_eq_true_eq] at hs; exact hs.1
              refine t202_134 (r2 := some q) (by omega) (s F6) (fun x => absurd x (by decide)) (fun _ => ?_)
              refine m177' h6 (by omega) (by omega) (fun τ7 o7 F7 n7 z7 h7 => t202_145 (r2 := some q) ?_)
              have ce7 := wcel (q := q) (pk6.2.2.2 wo) o7 (fun a k z => by unfold NXM at z; omega)
              refine ih (tkT f n a3) τ7 (V0 ++ [(1, v, p)]) (by rw [el]; omega) (fun e he7 => e0 e (pkE e he7)) (fun V b he7 => ?_) (pk6.tr (PKW.nx o7 n7 z7)) h7 (r6.tr (RwE.cel ce7)) (fun j hj => by rw [ce7 _ _ (by omega) (by omega)]; exact b6 j hj) (by funext i; rw [ce7 _ _ (by omega) (by omega), d6]) (by rw [ce7 _ _ (by omega) (by omega)]; exact e6) ⟨by rw [ce7 _ _ (by omega) (by omega)]; exact t6.1, fun i x hx => by rw [ce7 _ _ (by omega) (by omega), ce7 _ _ (by omega) (by omega)]; exact t6.2 i x hx⟩ ok6 (by omega)
              rw [e1 ((1, v, p) :: V) b (pkF V b he7)]
              simp
        · refine t202_32 (q3 := q + 3) (n5 := 12) (q9 := q + 4) (n12 := 144) (by omega) w3 pp2 s3 (fun x => absurd rfl x) pp3 (s h1.1) s4 (fun x => absurd rfl x) (fun x => absurd rfl x) (fun x => absurd rfl x) (fun _ => m172' h1 (fun τ2 o2 F2 n2 z2 y1 y2 => t202_40 (by omega) (s225 F2) (thr (3, tkF f n a1) τ2 ?_ ⟨o2, F2, n2, z2, y1, y2⟩)))
          have : ¬ (1 ≤ tkN f n a1 ∧ tkN f n a1 ≤ 12) := by clear ei; omega
          simp only [pTk, pNum]
          rw [if_pos h3, if_neg this]
      · have : ¬ tkS f n a1 = 3 := fun y => q3 (hk3.mpr y)
        simp only [pTk, pNum]
        rw [if_neg this]
  exact t202_0 (r2 := some q) (lp 12 a τ [] rfl (fun _ h => h) (fun _ _ h => by rw [h]; rfl) PKW.rf h RwE.rf (fun _ _ => rfl) rfl rfl ⟨ht0, fun i x hx => absurd hx (by simp)⟩ (fun x hx => absurd hx (by simp)) (Nat.le_refl _))
end WMO
