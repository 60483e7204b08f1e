/-! WORKINGS read by the model: all steps -/
def wFin (f : Nat → Int) (n : Nat) (r : (Int × Nat) ⊕ (List WOP × Nat)) : (Int × Nat) ⊕ List WOP := match r with
  | .inl e => .inl e
  | .inr (W, a) => if tkS f n a = 0 then .inr W else .inl (1, tkF f n a)
theorem pWork_h {f : Nat → Int} {n own : Nat} : pWork f n own = match pStp f n own 0 0 with | .inl e => .inl e | .inr (V, a) => wFin f n (pWl f n own 300 ([] ++ V) a 1) := by
  unfold pWork wFin
  rfl
section WMP
variable {f : Nat → Int} {n own q : Nat}
/-- what stands of a working when so many steps are read -/
def WkM (τ : T2) (q own mn : Nat) (W : List WOP) : Prop := WOb τ q ∧ tI τ q 5 = (mn : Int) ∧ mn ≤ 12 ∧ okRw τ q mn ∧ rwsW τ q mn = W ∧ (∀ x ∈ W, okW own x) ∧ ∀ j, mn ≤ j → tI τ (q + 3) j = 0
theorem WkM.cel {τ τ1 : T2} {mn : Nat} {W : List WOP} (h : WkM τ q own mn W) (w : WOb τ1 q) (ce : ∀ a k, q ≤ a → a ≤ q + 5 → tI τ1 a k = tI τ a k) : WkM τ1 q own mn W := by
  obtain ⟨h1, h2, h3, h4, h5, h6, h7⟩ := h
  have e : RwE τ τ1 q mn := RwE.cel ce
  exact ⟨w, by rw [ce q 5 (by omega) (by omega)]; exact h2, h3, h4.e e, by rw [rwsW_e mn e h4]; exact h5, h6, fun j hj => by rw [ce _ _ (by omega) (by omega)]; exact h7 j hj⟩
/-- a step more stands -/
theorem WkM.st {τ τ1 : T2} {mn : Nat} {W V : List WOP} (h : WkM τ q own mn W) (w : WOb τ1 q) (e : RwE τ τ1 q mn) (hmn : mn < 12) (h5 : tI τ1 q 5 = ((mn + 1 : Nat) : Int)) (ok : (0 ≤ tI τ1 (q + 1) mn ∧ tI τ1 (q + 1) mn ≤ 6) ∧ 0 ≤ tI τ1 (q + 3) mn ∧ tI τ1 (q + 3) mn ≤ 12) (hr : rwW τ1 q mn = V) (hV : ∀ x ∈ V, okW own x) (h3 : ∀ j, mn < j → tI τ1 (q + 3) j = tI τ (q + 3) j) : WkM τ1 q own (mn + 1) (W ++ V) := by
  obtain ⟨g1, g2, g3, g4, g5, g6, g7⟩ := h
  refine ⟨w, h5, by omega, fun k hk => ?_, ?_, fun x hx => ?_, fun j hj => by rw [h3 j (by omega)]; exact g7 j (by omega)⟩
  · by_cases ek : k = mn
    · rw [ek]; exact ok
    · exact (g4.e e) k (by omega)
  · show rwsW τ1 q mn ++ rwW τ1 q mn = _
    rw [rwsW_e mn e g4, g5, hr]
  · rcases List.mem_append.mp hx with y | y
    · exact g6 x y
    · exact hV x y
/-- one step, from its word on -/
theorem m201f {d : Nat} {τ : T2} {Q : RS → T2 → Prop} {a mn kk : Nat} {W : List WOP} (hd : 30 ≤ d) (ho : own ≤ 20) (h : PMb τ f n a) (wk : WkM τ q own mn W) (hkk : skd f n a = kk) (hk0 : kk ≠ 0) (hk7 : kk ≤ 7) (k0 : ∀ e τ1, pStp f n own a mn = .inl e → PKW q τ τ1 → FX2 τ1 → tI τ1 225 6 = e.1 → tI τ1 225 7 = (e.2 : Int) → Q (.inr 225) τ1) (k1 : ∀ V a1 τ1, pStp f n own a mn = .inr (V, a1) → PKW q τ τ1 → PMb τ1 f n a1 → WkM τ1 q own (mn + 1) (W ++ V) → a < a1 → G (d - 1) 180 0 [vR 220, vI 59] [] τ1 (KC d 201 254 257 [vR 220, vI (own : Int), vR q, none, none, none] [] Q)) : (tI τ q 5 = 12 → G (d - 1) 172 0 [vR 220, vI 4] [] τ (KC d 201 131 134 [none, none, none, none, none, none] [] Q)) ∧ (¬ tI τ q 5 = 12 → ((0 : Int) ≤ tI τ q 5 ∧ tI τ q 5 < ((12 : Nat) : Int)) ∧ G (d - 1) 177 0 [vR 220, none, none] [] (uI τ (q + 1) (tI τ q 5).toNat ((kk : Int) - 1)) (KC d 201 151 154 [vR 220, vI (own : Int), vR q, none, vI ((kk : Int) - 1), vI (tI τ q 5)] [] Q)) := by
  have s : ∀ {τ : T2}, FX2 τ → tS τ 220 = (1, 21, 0) := fun F => (s220 F).1
  obtain ⟨wo, w5, w12, wr0, wW, wok, w3⟩ := id wk
  have ts := skd_s (f := f) (n := n) (a := a) (by omega)
  have hT := tk_w h.2.2.2 (show tkS f n a ≠ 0 by omega)
  have ps0 : pStp f n own a mn = (if mn < 12 then (if kk = 1 then pTk f n own 12 (tkT f n a) else if kk = 4 ∨ kk = 5 then .inr ([((kk : Int), 0, 0)], tkT f n a) else (match pNum f n (tkT f n a) (if kk = 2 ∨ kk = 3 then 0 else 1) (if kk = 2 then (own : Int) - 1 else if kk = 3 then 25 else 24) (if kk = 2 then 2 else 3) with | .inl e => .inl e | .inr (v, a1) => .inr ([((kk : Int), v, 0)], a1))) else .inl (4, tkF f n a)) := by
    unfold pStp
    rw [hkk, if_neg hk0]
    rfl
  refine ⟨fun q12 => ?_, fun q12 => ?_⟩
  · rw [if_neg (by rw [w5] at q12; omega)] at ps0
    exact m172' h (fun τ1 o1 F1 n1 z1 y1 y2 => t201_134 (by omega) (s225 F1) (k0 (4, tkF f n a) τ1 ps0 (PKW.th (e := (4, tkF f n a)) ⟨o1, F1, n1, z1, y1, y2⟩) F1 y1 y2))
  · have hmn : mn < 12 := by rw [w5] at q12; omega
    rw [if_pos hmn] at ps0
    refine ⟨by rw [w5]; omega, ?_⟩
    rw [w5, Int.toNat_natCast]
    have h1 : PMb (uI τ (q + 1) mn ((kk : Int) - 1)) f n a := h.w (by have := wo.1; omega)
    have pk1 : PKW q τ (uI τ (q + 1) mn ((kk : Int) - 1)) := PKW.rf.j (by unfold PPW; omega)
    have c1 : ∀ b i, tI (uI τ (q + 1) mn ((kk : Int) - 1)) b i = if b = q + 1 ∧ i = mn then (kk : Int) - 1 else tI τ b i := fun b i => by rw [tI_uI]
    generalize uI τ (q + 1) mn ((kk : Int) - 1) = τ1 at *
    refine m177' h1 (by omega) (by omega) (fun τ2 o2 F2 n2 z2 h2 => ?_)
    have pk2 : PKW q τ τ2 := pk1.tr (PKW.nx o2 n2 z2)
    have wo2 := pk2.2.2.2 wo
    have c2 : ∀ b i, q ≤ b → b ≤ q + 5 → tI τ2 b i = if b = q + 1 ∧ i = mn then (kk : Int) - 1 else tI τ b i := fun b i x y => by rw [wcel (q := q) (pk1.2.2.2 wo) o2 (fun a k z => by unfold NXM at z; omega) b i x y, c1]
    obtain ⟨v1, v2, v3, ⟨u0, u1, u2, u3, u4⟩, g1, g2, g3, g4, g5⟩ := id wo2
    -- the end of a step that has no letters taken: what was written
    have fin : ∀ (V : List WOP) (a4 : Nat) (τ4 : T2) (v : Int), pStp f n own a mn = .inr (V, a4) → PKW q τ τ4 → PMb τ4 f n a4 → a < a4 → (∀ b i, q ≤ b → b ≤ q + 5 → tI τ4 b i = if b = q + 2 ∧ i = mn then v else tI τ2 b i) → kk ≠ 1 → V = (if kk = 4 ∨ kk = 5 then [((kk : Int), 0, 0)] else [((kk : Int), v, 0)]) → (∀ x ∈ V, okW own x) → G (d - 1) 180 0 [vR 220, vI 59] [] (uI τ4 q 5 (wr (tI τ4 q 5 + 1))) (KC d 201 254 257 [vR 220, vI (own : Int), vR q, none, none, none] [] Q) := by
      intro V a4 τ4 v he pk4 h4 ha4 c4 hk1 eV okV
      have e5 : tI τ4 q 5 = (mn : Int) := by rw [c4 _ _ (by omega) (by omega), if_neg (by omega), c2 _ _ (by omega) (by omega), if_neg (by omega)]; exact w5
      rw [e5, wr_nat (by omega)]
      have c5 : ∀ b i, q ≤ b → b ≤ q + 5 → tI (uI τ4 q 5 ((mn + 1 : Nat) : Int)) b i = if b = q ∧ i = 5 then ((mn + 1 : Nat) : Int) else if b = q + 2 ∧ i = mn then v else if b = q + 1 ∧ i = mn then (kk : Int) - 1 else tI τ b i := fun b i x y => by rw [tI_uI, c4 b i x y, c2 b i x y]
      refine k1 V a4 _ he (pk4.j (by unfold PPW; omega)) (h4.w wo.1) (wk.st ((pk4.j (x := ((mn + 1 : Nat) : Int)) (a := q) (k := 5) (by unfold PPW; omega)).2.2.2 wo) ⟨fun i hi => ⟨?_, ?_, ?_⟩, fun i hi => ⟨?_, ?_⟩⟩ hmn ?_ ⟨?_, ?_⟩ ?_ okV (fun j hj => ?_)) ha4
      · rw [c5 _ _ (by omega) (by omega), if_neg (by omega), if_neg (by omega), if_neg (by omega)]
      · rw [c5 _ _ (by omega) (by omega), if_neg (by omega), if_neg (by omega), if_neg (by omega)]
      · rw [c5 _ _ (by omega) (by omega), if_neg (by omega), if_neg (by omega), if_neg (by omega)]
      · rw [c5 _ _ (by omega) (by omega), if_neg (by omega), if_neg (by omega), if_neg (by omega)]
      · rw [c5 _ _ (by omega) (by omega), if_neg (by omega), if_neg (by omega), if_neg (by omega)]
      · rw [c5 _ _ (by omega) (by omega), if_pos ⟨rfl, rfl⟩]
      · rw [c5 _ _ (by omega) (by omega), if_neg (by omega), if_neg (by omega), if_pos ⟨rfl, rfl⟩]; omega
      · rw [c5 _ _ (by omega) (by omega), if_neg (by omega), if_neg (by omega), if_neg (by omega), w3 mn (Nat.le_refl _)]; omega
      · have es : tI (uI τ4 q 5 ((mn + 1 : Nat) : Int)) (q + 1) mn = (kk : Int) - 1 := by rw [c5 _ _ (by omega) (by omega), if_neg (by omega), if_neg (by omega), if_pos ⟨rfl, rfl⟩]
        have en : tI (uI τ4 q 5 ((mn + 1 : Nat) : Int)) (q + 2) mn = v := by rw [c5 _ _ (by omega) (by omega), if_neg (by omega), if_pos ⟨rfl, rfl⟩]
        unfold rwW
        rw [es, en, if_neg (by omega), eV, show (kk : Int) - 1 + 1 = (kk : Int) by omega]
        by_cases e45 : kk = 4 ∨ kk = 5
        · rw [if_pos (show (kk : Int) - 1 = 3 ∨ (kk : Int) - 1 = 4 by omega), if_pos e45]
        · rw [if_neg (show ¬ ((kk : Int) - 1 = 3 ∨ (kk : Int) - 1 = 4) by omega), if_neg e45]
      · rw [c5 _ _ (by omega) (by omega), if_neg (by omega), if_neg (by omega), if_neg (by omega)]
    -- the number of a step
    have nm : ∀ (v : Int) (a4 : Nat) (τ4 : T2) (lo hi fb : Int), pNum f n (tkT f n a) lo hi fb = .inr (v, a4) → (pStp f n own a mn = match pNum f n (tkT f n a) lo hi fb with | .inl e => .inl e | .inr (v, a1) => .inr ([((kk : Int), v, 0)], a1)) → OC NXM τ2 τ4 → FX2 τ4 → tN τ4 = tN τ2 → tZ τ4 = tZ τ2 → PMb τ4 f n a4 → a < a4 → kk ≠ 1 → kk ≠ 4 → kk ≠ 5 → okW own ((kk : Int), v, 0) → (tS τ4 (q + 2) = (2, 0, 12) ∧ tS τ4 q = (1, 20, 0) ∧ G (d - 1) 180 0 [vR 220, vI 59] [] (uI (uI τ4 (q + 2) mn v) q 5 (wr (tI (uI τ4 (q + 2) mn v) q 5 + 1))) (KC d 201 254 257 [vR 220, vI (own : Int), vR q, none, none, none] [] Q)) := by
      intro v a4 τ4 lo hi fb he ps o4 F4 n4 z4 h4 ha4 k1' k4' k5' okv
      have pk4 : PKW q τ τ4 := pk2.tr (PKW.nx o4 n4 z4)
      have wo4 := pk4.2.2.2 wo
      refine ⟨wo4.2.2.2.2.2.1, wo4.2.2.1, ?_⟩
      refine fin [((kk : Int), v, 0)] a4 _ v (by rw [ps, he]) (pk4.j (by unfold PPW; omega)) (h4.w (by have := wo.1; omega)) ha4 (fun b i x y => ?_) k1' (by rw [if_neg (by omega)]) (fun x hx => by rw [List.mem_singleton.mp hx]; exact okv)
      rw [tI_uI, wcel (q := q) wo2 o4 (fun a k z => by unfold NXM at z; omega) b i x y]
    refine t201_154 (by omega) v3 (s F2) (fun x0 x1 x2 x5 => ?_) (fun x0 x1 x2 x5 x6 => ?_) (fun x0 x1 x2 x5 x6 => ?_) (fun x0 x1 x2 => ?_) (fun x0 x1 => ?_) (fun x0 => ?_)
    · rw [if_neg (by omega), if_neg (by omega), if_neg (by omega), if_neg (by omega), if_neg (by omega), if_neg (by omega)] at ps0
      rw [u1]
      refine m182 h2 (by omega) (fun e τ3 he t3 => kc_prop rfl rfl (k0 e τ3 (by rw [ps0, he]) (pk2.tr (PKW.th t3)) t3.2.1 t3.2.2.2.2.1 t3.2.2.2.2.2)) (fun v a4 τ4 he ea hlt hlo hhi o4 F4 n4 z4 h4 => ?_)
      obtain ⟨y1, y2, y3⟩ := nm v a4 τ4 1 24 3 he ps0 o4 F4 n4 z4 h4 (by omega) (by omega) (by omega) (by omega) ⟨by show 1 ≤ (kk : Int) ∧ (kk : Int) ≤ 7; omega, fun z => (by have z : (kk : Int) = 1 := z; omega), fun z => (by have z : (kk : Int) = 2 := z; omega), fun z => (by have z : (kk : Int) = 3 := z; omega), fun _ => ⟨hlo, hhi⟩⟩
      refine t201_240 (s2 := q + 2) (n1 := 12) (by omega) y1 (by omega) y2 (s F4) ?_
      rw [Int.toNat_natCast]
      exact y3
    · have e45 : kk = 4 ∨ kk = 5 := by omega
      rw [if_neg (by omega), if_pos e45] at ps0
      exact fin [((kk : Int), 0, 0)] (tkT f n a) τ2 (tI τ2 (q + 2) mn) ps0 pk2 h2 hT.1 (fun b i x y => by
        by_cases e : b = q + 2 ∧ i = mn
        · rw [if_pos e, e.1, e.2]
        · rw [if_neg e]) (by omega) (by rw [if_pos e45]) (fun x hx => by rw [List.mem_singleton.mp hx]; exact ⟨by show 1 ≤ (kk : Int) ∧ (kk : Int) ≤ 7; omega, fun z => (by have z : (kk : Int) = 1 := z; omega), fun z => (by have z : (kk : Int) = 2 := z; omega), fun z => (by have z : (kk : Int) = 3 := z; omega), fun z => (by have z : (kk : Int) = 6 ∨ (kk : Int) = 7 := z; omega)⟩)
    · rw [if_neg (by omega), if_neg (by omega), if_neg (by omega), if_neg (by omega), if_neg (by omega), if_neg (by omega)] at ps0
      rw [u1]
      refine m182 h2 (by omega) (fun e τ3 he t3 => kc_prop rfl rfl (k0 e τ3 (by rw [ps0, he]) (pk2.tr (PKW.th t3)) t3.2.1 t3.2.2.2.2.1 t3.2.2.2.2.2)) (fun v a4 τ4 he ea hlt hlo hhi o4 F4 n4 z4 h4 => ?_)
      obtain ⟨y1, y2, y3⟩ := nm v a4 τ4 1 24 3 he ps0 o4 F4 n4 z4 h4 (by omega) (by omega) (by omega) (by omega) ⟨by show 1 ≤ (kk : Int) ∧ (kk : Int) ≤ 7; omega, fun z => (by have z : (kk : Int) = 1 := z; omega), fun z => (by have z : (kk : Int) = 2 := z; omega), fun z => (by have z : (kk : Int) = 3 := z; omega), fun _ => ⟨hlo, hhi⟩⟩
      refine t201_240 (s2 := q + 2) (n1 := 12) (by omega) y1 (by omega) y2 (s F4) ?_
      rw [Int.toNat_natCast]
      exact y3
    · rw [if_neg (by omega), if_neg (by omega), if_pos (by omega), if_neg (by omega), if_pos (by omega), if_neg (by omega)] at ps0
      rw [u1]
      refine m182 h2 (by omega) (fun e τ3 he t3 => kc_prop rfl rfl (k0 e τ3 (by rw [ps0, he]) (pk2.tr (PKW.th t3)) t3.2.1 t3.2.2.2.2.1 t3.2.2.2.2.2)) (fun v a4 τ4 he ea hlt hlo hhi o4 F4 n4 z4 h4 => ?_)
      obtain ⟨y1, y2, y3⟩ := nm v a4 τ4 0 25 3 he ps0 o4 F4 n4 z4 h4 (by omega) (by omega) (by omega) (by omega) ⟨by show 1 ≤ (kk : Int) ∧ (kk : Int) ≤ 7; omega, fun z => (by have z : (kk : Int) = 1 := z; omega), fun z => (by have z : (kk : Int) = 2 := z; omega), fun _ => ⟨hlo, hhi⟩, fun z => (by have z : (kk : Int) = 6 ∨ (kk : Int) = 7 := z; omega)⟩
      refine t201_210 (s2 := q + 2) (n1 := 12) (by omega) y1 (by omega) y2 (s F4) ?_
      rw [Int.toNat_natCast]
      exact y3
    · rw [if_neg (by omega), if_neg (by omega), if_pos (by omega), if_pos (by omega), if_pos (by omega)] at ps0
      rw [u1]
      refine m183 h2 (by omega) (fun e τ3 he t3 => kc_prop rfl rfl (k0 e τ3 (by rw [ps0, he]) (pk2.tr (PKW.th t3)) t3.2.1 t3.2.2.2.2.1 t3.2.2.2.2.2)) (fun v a4 τ4 he ea hlt hlo hhi o4 F4 n4 z4 h4 => ?_)
      obtain ⟨y1, y2, y3⟩ := nm v a4 τ4 0 ((own : Int) - 1) 2 he ps0 o4 F4 n4 z4 h4 (by omega) (by omega) (by omega) (by omega) ⟨by show 1 ≤ (kk : Int) ∧ (kk : Int) ≤ 7; omega, fun z => (by have z : (kk : Int) = 1 := z; omega), fun _ => ⟨hlo, hhi⟩, fun z => (by have z : (kk : Int) = 3 := z; omega), fun z => (by have z : (kk : Int) = 6 ∨ (kk : Int) = 7 := z; omega)⟩
      refine t201_187 (s2 := q + 2) (n1 := 12) (by omega) y1 (by omega) y2 (s F4) ?_
      rw [Int.toNat_natCast]
      exact y3
    · rw [if_pos (by omega)] at ps0
      refine m202 (by omega) ho h2 wo2 hmn (by rw [c2 _ _ (by omega) (by omega), if_neg (by omega)]; exact w3 mn (Nat.le_refl _)) (fun e τ3 he p3 F3 y1 y2 => kc_prop rfl rfl (k0 e τ3 (by rw [ps0, he]) (pk2.tr p3) F3 y1 y2)) (fun V a4 τ4 he p4 h4 r4 b4 d4 e4 t4 hl4 ok4 ha4 => ?_)
      have pk4 : PKW q τ τ4 := pk2.tr p4
      have wo4 := pk4.2.2.2 wo
      refine t201_167 (by omega) wo4.2.2.1 (s h4.1) ?_
      have e5 : tI τ4 q 5 = (mn : Int) := by rw [e4, c2 _ _ (by omega) (by omega), if_neg (by omega)]; exact w5
      rw [e5, wr_nat (by omega)]
      have c5 : ∀ b i, tI (uI τ4 q 5 ((mn + 1 : Nat) : Int)) b i = if b = q ∧ i = 5 then ((mn + 1 : Nat) : Int) else tI τ4 b i := fun b i => by rw [tI_uI]
      have r02 : RwE τ τ2 q mn := ⟨fun i hi => ⟨by rw [c2 _ _ (by omega) (by omega), if_neg (by omega)], by rw [c2 _ _ (by omega) (by omega), if_neg (by omega)], by rw [c2 _ _ (by omega) (by omega), if_neg (by omega)]⟩, fun i hi => ⟨by rw [c2 _ _ (by omega) (by omega), if_neg (by omega)], by rw [c2 _ _ (by omega) (by omega), if_neg (by omega)]⟩⟩
      have r45 : RwE τ4 (uI τ4 q 5 ((mn + 1 : Nat) : Int)) q mn := ⟨fun i hi => ⟨by rw [c5, if_neg (by omega)], by rw [c5, if_neg (by omega)], by rw [c5, if_neg (by omega)]⟩, fun i hi => ⟨by rw [c5, if_neg (by omega)], by rw [c5, if_neg (by omega)]⟩⟩
      have es : tI (uI τ4 q 5 ((mn + 1 : Nat) : Int)) (q + 1) mn = 0 := by rw [c5, if_neg (by omega), d4, c2 _ _ (by omega) (by omega), if_pos ⟨rfl, rfl⟩]; omega
      have t5 : TkR (uI τ4 q 5 ((mn + 1 : Nat) : Int)) q mn V := ⟨by rw [c5, if_neg (by omega)]; exact t4.1, fun i x hx => by rw [c5, if_neg (by omega), c5, if_neg (by omega)]; exact t4.2 i x hx⟩
      refine k1 V a4 _ (by rw [ps0, he]) (pk4.j (by unfold PPW; omega)) (h4.w wo.1) (wk.st ((pk4.j (x := ((mn + 1 : Nat) : Int)) (a := q) (k := 5) (by unfold PPW; omega)).2.2.2 wo) ((r02.tr r4).tr r45) hmn (by rw [c5, if_pos ⟨rfl, rfl⟩]) ⟨by rw [es]; omega, by rw [t5.1]; omega⟩ (t5.row es) ok4 (fun j hj => ?_)) (by omega)
      rw [c5, if_neg (by omega), b4 j hj, c2 _ _ (by omega) (by omega), if_neg (by omega)]
/-- readWorking -/
theorem m201 {d : Nat} {τ : T2} {Q : RS → T2 → Prop} (hd : 35 ≤ d) (ho : own ≤ 20) (h : PMb τ f n 0) (wk : WkM τ q own 0 []) (k0 : ∀ e τ1, pWork f n own = .inl e → PKW q τ τ1 → FX2 τ1 → tI τ1 225 6 = e.1 → tI τ1 225 7 = (e.2 : Int) → Q (.inr 225) τ1) (k1 : ∀ W a1 mn τ1, (pWork f n own = if tkS f n a1 = 0 then .inr W else .inl (1, tkF f n a1)) → PKW q τ τ1 → PMb τ1 f n a1 → WkM τ1 q own mn W → Q (.inl none) τ1) : G d 201 0 [vR 220, vI (own : Int), vR q, none, none, none] [] τ Q := by
  have s : ∀ {τ : T2}, FX2 τ → tS τ 220 = (1, 21, 0) := fun F => (s220 F).1
  have lpA : ∀ (j : Nat), (∀ j', j = j' + 1 → ∀ (a1 mn : Nat) (τ1 : T2) (W : List WOP), 300 ≤ a1 + j' → PKW q τ τ1 → PMb τ1 f n a1 → WkM τ1 q own mn W → (pWork f n own = match pStp f n own a1 mn with | .inl e => .inl e | .inr (V, a) => wFin f n (pWl f n own j' (W ++ V) a (mn + 1))) → G d 201 2 [vR 220, vI (own : Int), vR q, vI 1, none, none] [] τ1 Q) → ∀ (a1 mn : Nat) (τ1 : T2) (W : List WOP), 300 ≤ a1 + j → PKW q τ τ1 → PMb τ1 f n a1 → WkM τ1 q own mn W → (pWork f n own = match pStp f n own a1 mn with | .inl e => .inl e | .inr (V, a) => wFin f n (pWl f n own j (W ++ V) a (mn + 1))) → G d 201 2 [vR 220, vI (own : Int), vR q, vI 1, none, none] [] τ1 Q := by
    intro j rec a1 mn τ1 W hj p1 h1 w1 he
    have n3 := h1.2.1.2.1
    have ha1 := h1.2.2.2
    have K := h1.2.2.1
    have F1 := h1.1
    obtain ⟨wo1, w5, -⟩ := id w1
    have v3 := wo1.2.2.1
    have u0 := wo1.2.2.2.1.1
    have g1 := wo1.2.2.2.2.1
    have kb0 : ∀ e τ2, pStp f n own a1 mn = .inl e → PKW q τ1 τ2 → FX2 τ2 → tI τ2 225 6 = e.1 → tI τ2 225 7 = (e.2 : Int) → Q (.inr 225) τ2 := fun e τ2 he2 p2 F2 y1 y2 => k0 e τ2 (by rw [he, he2]) (p1.tr p2) F2 y1 y2
    have kb1 : ∀ V a2 τ2, pStp f n own a1 mn = .inr (V, a2) → PKW q τ1 τ2 → PMb τ2 f n a2 → WkM τ2 q own (mn + 1) (W ++ V) → a1 < a2 → G (d - 1) 180 0 [vR 220, vI 59] [] τ2 (KC d 201 254 257 [vR 220, vI (own : Int), vR q, none, none, none] [] Q) := fun V a2 τ2 he2 p2 h2 w2 ha2 => by
      have he3 : pWork f n own = wFin f n (pWl f n own j (W ++ V) a2 (mn + 1)) := by rw [he, he2]
      refine m180 h2.1 h2.2.2.1 ?_
      cases hs : isS f n a2 59 with
      | false =>
        have hl : pWl f n own j (W ++ V) a2 (mn + 1) = .inr (W ++ V, a2) := by
          cases j with
          | zero => rfl
          | succ j => simp only [pWl]; rw [if_neg (by rw [hs]; decide)]
        rw [hl] at he3
        exact t201_257 (r2 := some q) (by omega) (s h2.1) (fun _ => t201_2 (r2 := some q) (by omega) (s h2.1) (fun _ => k1 (W ++ V) a2 (mn + 1) τ2 he3 (p1.tr p2) h2 w2) (fun x => absurd rfl x)) (fun x => absurd rfl x)
      | true =>
        have hT := isS_t h2.2.2.2 hs
        have ts4 : tkS f n a2 = 4 := by unfold isS at hs; rw [decide_eq_true_eq] at hs; exact hs.1
        obtain ⟨j', hj'⟩ : ∃ j', j = j' + 1 := ⟨j - 1, by omega⟩
        subst hj'
        refine t201_257 (r2 := some q) (by omega) (s h2.1) (fun x => absurd x (by decide)) (fun _ => m177' h2 (by omega) (by omega) (fun τ3 o3 F3 n3 z3 h3 => t201_266 (r2 := some q) ?_))
        have pk3 : PKW q τ2 τ3 := PKW.nx o3 n3 z3
        refine rec j' rfl (tkT f n a2) (mn + 1) τ3 (W ++ V) (by omega) ((p1.tr p2).tr pk3) h3 (w2.cel (pk3.2.2.2 w2.1) (wcel w2.1 o3 (fun a k z => by unfold NXM at z; omega))) ?_
        rw [he3]
        simp only [pWl]
        rw [if_pos hs]
        cases pStp f n own (tkT f n a2) (mn + 1) with
        | inl e => rfl
        | inr x => rfl
    have go : ∀ kk, skd f n a1 = kk → kk ≠ 0 → kk ≤ 7 → _ := fun kk hk h0 h7 => m201f (own := own) (W := W) (by omega) ho h1 w1 hk h0 h7 kb0 kb1
    have nn : ∀ {b : Bool}, b = false → ¬ b = true := fun e => by rw [e]; decide
    refine t201_2 (r2 := some q) (by omega) (s F1) (fun x => absurd x (by decide)) (fun _ => ?_)
    refine m179 F1 K (t := wdTak) rfl (by decide) (by omega) ?_
    cases e0 : isW f n a1 wdTak with
    | true =>
      obtain ⟨y1, y2⟩ := go 1 (by unfold skd; rw [if_pos e0]) (by decide) (by decide)
      exact t201_13 (n8 := 12) (by omega) (s F1) v3 u0 g1 (fun _ _ z => (y2 z).1) (fun z => absurd z (by decide)) (fun _ _ z => (y2 z).2) (fun _ _ z => y1 z) (fun _ z => absurd z (by decide))
    | false =>
      refine t201_13 (n8 := 12) (by omega) (s F1) v3 u0 g1 (fun z => absurd rfl z) (fun _ => ?_) (fun z => absurd rfl z) (fun z => absurd rfl z) (fun z => absurd rfl z)
      refine m179 F1 K (t := wdAll) rfl (by decide) (by omega) ?_
      cases e1 : isW f n a1 wdAll with
      | true =>
        obtain ⟨y1, y2⟩ := go 2 (by unfold skd; rw [if_neg (nn e0), if_pos e1]) (by decide) (by decide)
        exact t201_27 (n8 := 12) (by omega) (s F1) v3 u0 g1 (fun _ _ z => (y2 z).1) (fun z => absurd z (by decide)) (fun _ _ z => (y2 z).2) (fun _ _ z => y1 z) (fun _ z => absurd z (by decide))
      | false =>
        refine t201_27 (n8 := 12) (by omega) (s F1) v3 u0 g1 (fun z => absurd rfl z) (fun _ => ?_) (fun z => absurd rfl z) (fun z => absurd rfl z) (fun z => absurd rfl z)
        refine m179 F1 K (t := wdShi) rfl (by decide) (by omega) ?_
        cases e2 : isW f n a1 wdShi with
        | true =>
          obtain ⟨y1, y2⟩ := go 3 (by unfold skd; rw [if_neg (nn e0), if_neg (nn e1), if_pos e2]) (by decide) (by decide)
          exact t201_41 (n8 := 12) (by omega) (s F1) v3 u0 g1 (fun _ _ z => (y2 z).1) (fun z => absurd z (by decide)) (fun _ _ z => (y2 z).2) (fun _ _ z => y1 z) (fun _ z => absurd z (by decide))
        | false =>
          refine t201_41 (n8 := 12) (by omega) (s F1) v3 u0 g1 (fun z => absurd rfl z) (fun _ => ?_) (fun z => absurd rfl z) (fun z => absurd rfl z) (fun z => absurd rfl z)
          refine m179 F1 K (t := wdBac) rfl (by decide) (by omega) ?_
          cases e3 : isW f n a1 wdBac with
          | true =>
            obtain ⟨y1, y2⟩ := go 4 (by unfold skd; rw [if_neg (nn e0), if_neg (nn e1), if_neg (nn e2), if_pos e3]) (by decide) (by decide)
            exact t201_55 (n8 := 12) (by omega) (s F1) v3 u0 g1 (fun _ _ z => (y2 z).1) (fun z => absurd z (by decide)) (fun _ _ z => (y2 z).2) (fun _ _ z => y1 z) (fun _ z => absurd z (by decide))
          | false =>
            refine t201_55 (n8 := 12) (by omega) (s F1) v3 u0 g1 (fun z => absurd rfl z) (fun _ => ?_) (fun z => absurd rfl z) (fun z => absurd rfl z) (fun z => absurd rfl z)
            refine m179 F1 K (t := wdSor) rfl (by decide) (by omega) ?_
            cases e4 : isW f n a1 wdSor with
            | true =>
              obtain ⟨y1, y2⟩ := go 5 (by unfold skd; rw [if_neg (nn e0), if_neg (nn e1), if_neg (nn e2), if_neg (nn e3), if_pos e4]) (by decide) (by decide)
              exact t201_69 (n8 := 12) (by omega) (s F1) v3 u0 g1 (fun _ _ z => (y2 z).1) (fun z => absurd z (by decide)) (fun _ _ z => (y2 z).2) (fun _ _ z => y1 z) (fun _ z => absurd z (by decide))
            | false =>
              refine t201_69 (n8 := 12) (by omega) (s F1) v3 u0 g1 (fun z => absurd rfl z) (fun _ => ?_) (fun z => absurd rfl z) (fun z => absurd rfl z) (fun z => absurd rfl z)
              refine m179 F1 K (t := wdCut) rfl (by decide) (by omega) ?_
              cases e5 : isW f n a1 wdCut with
              | true =>
                obtain ⟨y1, y2⟩ := go 6 (by unfold skd; rw [if_neg (nn e0), if_neg (nn e1), if_neg (nn e2), if_neg (nn e3), if_neg (nn e4), if_pos e5]) (by decide) (by decide)
                exact t201_83 (n8 := 12) (by omega) (s F1) v3 u0 g1 (fun _ _ z => (y2 z).1) (fun z => absurd z (by decide)) (fun _ _ z => (y2 z).2) (fun _ _ z => y1 z) (fun _ z => absurd z (by decide))
              | false =>
                refine t201_83 (n8 := 12) (by omega) (s F1) v3 u0 g1 (fun z => absurd rfl z) (fun _ => ?_) (fun z => absurd rfl z) (fun z => absurd rfl z) (fun z => absurd rfl z)
                refine m179 F1 K (t := wdEac) rfl (by decide) (by omega) ?_
                cases e6 : isW f n a1 wdEac with
                | true =>
                  obtain ⟨y1, y2⟩ := go 7 (by unfold skd; rw [if_neg (nn e0), if_neg (nn e1), if_neg (nn e2), if_neg (nn e3), if_neg (nn e4), if_neg (nn e5), if_pos e6]) (by decide) (by decide)
                  exact t201_97 (n7 := 12) (by omega) v3 u0 g1 (fun z => absurd z (by decide)) (s F1) (fun _ _ z => (y2 z).1) (fun z => absurd z (by decide)) (fun z => absurd z (by decide)) (fun z => absurd z (by decide)) (fun _ _ z => (y2 z).2) (fun _ _ z => y1 z) (fun _ z => absurd z (by decide))
                | false =>
                  have ef : pStp f n own a1 mn = .inl (1, tkF f n a1) := by
                    unfold pStp
                    rw [if_pos (by unfold skd; rw [if_neg (nn e0), if_neg (nn e1), if_neg (nn e2), if_neg (nn e3), if_neg (nn e4), if_neg (nn e5), if_neg (nn e6)])]
                  refine t201_97 (n7 := 12) (by omega) v3 u0 g1 (fun _ z => absurd rfl z) (s F1) (fun z => absurd rfl z) (fun _ z => absurd rfl z) (fun _ z => absurd rfl z) (fun _ _ => ?_) (fun z => absurd rfl z) (fun z => absurd rfl z) (fun z => absurd rfl z)
                  exact m172' h1 (fun τ2 o2 F2 n2 z2 y1 y2 => t201_119 (by omega) (s225 F2) (kb0 (1, tkF f n a1) τ2 ef (PKW.th (e := (1, tkF f n a1)) ⟨o2, F2, n2, z2, y1, y2⟩) F2 y1 y2))
  have lp : ∀ (j a1 mn : Nat) (τ1 : T2) (W : List WOP), 300 ≤ a1 + j → PKW q τ τ1 → PMb τ1 f n a1 → WkM τ1 q own mn W → (pWork f n own = match pStp f n own a1 mn with | .inl e => .inl e | .inr (V, a) => wFin f n (pWl f n own j (W ++ V) a (mn + 1))) → G d 201 2 [vR 220, vI (own : Int), vR q, vI 1, none, none] [] τ1 Q := by
    intro j
    induction j with
    | zero =>
      intro a1 mn τ1 W hj p1 h1 w1 he
      exact lpA 0 (fun j' hj' => absurd hj' (by omega)) a1 mn τ1 W hj p1 h1 w1 he
    | succ j ih =>
      intro a1 mn τ1 W hj p1 h1 w1 he
      exact lpA (j + 1) (fun j' hj' => by rw [show j' = j by omega]; exact ih) a1 mn τ1 W hj p1 h1 w1 he
  refine t201_0 (r2 := some q) (lp 300 0 0 τ [] (by omega) PKW.rf h wk pWork_h)
end WMP
