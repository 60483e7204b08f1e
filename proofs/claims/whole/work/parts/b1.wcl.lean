/-! WORKINGS read by the class -/
section WCL
variable {f : Nat → Int} {n own : Nat}
/-- what reading a piece of a working leaves -/
def WkO (τ τ1 : T2) (z own : Nat) (V : List WOP) : Prop := PK τ τ1 ∧ (∀ i, i < z → tI τ1 75 i = tI τ 75 i) ∧ OpW (tI τ1 75) z V ∧ ∀ x ∈ V, okW own x
theorem pTk_s {j a a1 : Nat} {p : Int} (he : pNum f n a 1 12 3 = .inr (p, a1)) : (isW f n a1 wdOf = false → pTk f n own (j + 1) a = .inl (1, tkF f n a1)) ∧ (isW f n a1 wdOf = true → (∀ e, pNum f n (tkT f n a1) 0 ((own : Int) - 1) 2 = .inl e → pTk f n own (j + 1) a = .inl e) ∧ ∀ v a2, pNum f n (tkT f n a1) 0 ((own : Int) - 1) 2 = .inr (v, a2) → (isS f n a2 44 = false → pTk f n own (j + 1) a = .inr ([(1, v, p)], a2)) ∧ (isS f n a2 44 = true → (∀ e, pTk f n own j (tkT f n a2) = .inl e → pTk f n own (j + 1) a = .inl e) ∧ ∀ l a3, pTk f n own j (tkT f n a2) = .inr (l, a3) → pTk f n own (j + 1) a = .inr ((1, v, p) :: l, a3))) := by
  refine ⟨fun hw => ?_, fun hw => ⟨fun e h2 => ?_, fun v a2 h2 => ⟨fun hs => ?_, fun hs => ⟨fun e h3 => ?_, fun l a3 h3 => ?_⟩⟩⟩⟩
  · simp [pTk, he, hw]
  · simp [pTk, he, hw, h2]
  · simp [pTk, he, hw, h2, hs]
  · simp [pTk, he, hw, h2, hs, h3]
  · simp [pTk, he, hw, h2, hs, h3]
/-- readTake -/
theorem c39 {d : Nat} {τ : T2} {Q : RS → T2 → Prop} {a c z : Nat} (hd : 20 ≤ d) (ho : own ≤ 20) (h : PC τ f n a c z) (hz : z ≤ 600) (k0 : ∀ e τ1, pTk f n own 12 a = .inl e → PK τ τ1 → FX2 τ1 → tI τ1 73 6 = e.1 → tI τ1 73 7 = (e.2 : Int) → Q (.inl (some (AI 0))) τ1) (k1 : ∀ V a1 τ1, pTk f n own 12 a = .inr (V, a1) → WkO τ τ1 z own V → PC τ1 f n a1 c (z + 3 * V.length) → V.length ≤ 12 → a < a1 → Q (.inl (some (AI 1))) τ1) : G d 39 0 [vR 73, vI (own : Int), none, none, none] [] τ Q := by
  have s : ∀ {τ : T2}, FX2 τ → tS τ 73 = (1, 9, 0) := fun F => (s73 F).1
  have lp : ∀ (j a1 : Nat) (τ1 : T2) (V0 : List WOP), j ≤ 12 → V0.length + j = 12 → (∀ e, pTk f n own j a1 = .inl e → pTk f n own 12 a = .inl e) → (∀ V b, pTk f n own j a1 = .inr (V, b) → pTk f n own 12 a = .inr (V0 ++ V, b)) → WkO τ τ1 z own V0 → PC τ1 f n a1 c (z + 3 * V0.length) → a ≤ a1 → G d 39 4 [vR 73, vI (own : Int), vI 1, vI ((12 - j : Nat) : Int), none] [] τ1 Q := by
    intro j
    induction j with
    | zero =>
      intro a1 τ1 V0 hj hV e0 e1 w1 h1 ha1
      refine t39_4 (by omega) (s h1.1) (fun q => by omega) (fun _ q => absurd q (by decide)) (fun _ _ => ?_)
      refine c74' h1 (by omega) (fun e τ2 he p2 F2 y1 y2 => ?_) (fun v a2 he ea hlt hlo hhi hval => ?_)
      · exact t39_22 (by omega) (s F2) (fun q => absurd rfl q) (fun q => absurd rfl q) (fun _ => k0 e τ2 (e0 e (by unfold pTk; rw [he])) (w1.1.tr p2) F2 y1 y2)
      · exact t39_22 (by omega) (s h1.1) (fun _ q => absurd rfl q) (fun _ _ => c76' h1 (fun τ2 p2 F2 y1 y2 => t39_38 (by decide) (k0 (4, tkF f n a1) τ2 (e0 _ (by unfold pTk; rw [he])) (w1.1.tr p2) F2 y1 y2))) (fun q => absurd q (by decide))
    | succ j ih =>
      intro a1 τ1 V0 hj hV e0 e1 w1 h1 ha1
      refine t39_4 (by omega) (s h1.1) (fun q => by omega) (fun _ q => absurd q (by decide)) (fun _ _ => ?_)
      refine c74' h1 (by omega) (fun e τ2 he p2 F2 y1 y2 => ?_) (fun p a2 he ea hlt hlo hhi hval => ?_)
      · exact t39_22 (by omega) (s F2) (fun q => absurd rfl q) (fun q => absurd rfl q) (fun _ => k0 e τ2 (e0 e (by simp only [pTk]; rw [he])) (w1.1.tr p2) F2 y1 y2)
      · have pk := pTk_s (own := own) (j := j) he
        refine t39_22 (by omega) (s h1.1) (fun _ _ => ?_) (fun _ q => by omega) (fun q => absurd q (by decide))
        rw [hval]
        refine c68' h1 (by omega) (fun τ2 p2 o2 h2 => t39_49 (by omega) (s h2.1) ?_)
        rw [← ea] at h2
        refine c72 h2.1 h2.2.1 h2.2.2.1 h2.2.2.2.1 (t := wdOf) rfl (by omega) ?_
        cases hw : isW f n a2 wdOf with
        | false =>
          have pk0 := pk.1 hw
          exact t39_55 (by omega) (s h2.1) (fun q => absurd rfl q) (fun _ => c76' h2 (fun τ3 p3 F3 y1 y2 => t39_63 (by decide) (k0 (1, tkF f n a2) τ3 (e0 _ pk0) ((w1.1.tr p2).tr p3) F3 y1 y2)))
        | true =>
          obtain ⟨pkA, pkB⟩ := pk.2 hw
          have hT := isW_t h2.2.2.2.1 hw
          refine t39_55 (by omega) (s h2.1) (fun _ => ?_) (fun q => absurd q (by decide))
          refine c68' h2 (by omega) (fun τ3 p3 o3 h3 => t39_68 (by omega) (s h3.1) ?_)
          rw [wr_id (show okI ((own : Int) - 1) by unfold okI; omega)]
          refine c74' h3 (by omega) (fun e τ4 he4 p4 F4 y1 y2 => ?_) (fun v a3 he4 ea4 hlt4 hlo4 hhi4 hval4 => ?_)
          · exact t39_77 (by omega) (s F4) (fun q => absurd rfl q) (fun _ => k0 e τ4 (e0 e (pkA e he4)) (((w1.1.tr p2).tr p3).tr p4) F4 y1 y2)
          · obtain ⟨pkC, pkD⟩ := pkB v a3 he4
            refine t39_77 (by omega) (s h3.1) (fun _ => ?_) (fun q => absurd q (by decide))
            rw [hval4]
            refine c78' h3 (by omega) (fun τ4 p4 o4 v0 v1 v2 h4 => t39_93 (by omega) (s h4.1) ?_)
            refine c68' h4 (by omega) (fun τ5 p5 o5 h5 => t39_98 (by omega) (s h5.1) ?_)
            rw [← ea4] at h5
            have p15 : PK τ τ5 := (((w1.1.tr p2).tr p3).tr p4).tr p5
            have keep : ∀ i, i < z + 3 * V0.length → tI τ5 75 i = tI τ1 75 i := fun i hi => by rw [o5, o4 i (by omega) (by omega) (by omega), o3, o2]
            have wk5 : WkO τ τ5 z own (V0 ++ [(1, v, p)]) := by
              refine ⟨p15, fun i hi => by rw [keep i (by omega), w1.2.1 i hi], ?_, fun x hx => ?_⟩
              · refine OpW.ap V0 _ (w1.2.2.1.fr V0 (fun i _ hi => keep i hi)) ⟨?_, ?_, ?_, trivial⟩
                · rw [o5]; exact v0
                · rw [o5]; exact v1
                · rw [o5]; exact v2
              · rcases List.mem_append.mp hx with q | q
                · exact w1.2.2.2 x q
                · rw [List.mem_singleton.mp q]
                  exact ⟨⟨by show (1 : Int) ≤ 1; decide, by show (1 : Int) ≤ 7; decide⟩, fun _ => ⟨⟨hlo4, by show v < own; omega⟩, hlo, hhi⟩, fun q => absurd (show (1 : Int) = 2 from q) (by decide), fun q => absurd (show (1 : Int) = 3 from q) (by decide), fun q => absurd (show (1 : Int) = 6 ∨ (1 : Int) = 7 from q) (by decide)⟩
            have el : (V0 ++ [(1, v, p)]).length = V0.length + 1 := by simp
            have h5' : PC τ5 f n a3 c (z + 3 * (V0 ++ [(1, v, p)]).length) := by rw [el, show z + 3 * (V0.length + 1) = z + 3 * V0.length + 3 by omega]; exact h5
            refine c73 h5.1 h5.2.2.1 (by decide) ?_
            cases hs : isS f n a3 44 with
            | false =>
              have pk0 := pkC hs
              refine t39_104 (by omega) (s h5.1) (fun _ => ?_) (fun q => absurd rfl q)
              have fin := k1 (V0 ++ [(1, v, p)]) a3 τ5 (e1 _ _ pk0) wk5 h5' (by rw [el]; omega) (by omega)
              rw [wr_nat (by omega)]
              exact t39_4 (by omega) (s h5.1) (fun _ => fin) (fun _ _ => fin) (fun _ q => absurd rfl q)
            | true =>
              obtain ⟨pkE, pkF⟩ := pkD hs
              have hT3 := isS_t h5.2.2.2.1 hs
              refine t39_104 (by omega) (s h5.1) (fun q => absurd q (by decide)) (fun _ => ?_)
              refine c68' h5' (by omega) (fun τ6 p6 o6 h6 => t39_113 (r0 := some 73) ?_)
              rw [wr_nat (by omega), show 12 - (j + 1) + 1 = 12 - j by omega]
              refine ih (tkT f n a3) τ6 (V0 ++ [(1, v, p)]) (by omega) (by rw [el]; omega) (fun e he6 => e0 e (pkE e he6)) (fun V b he6 => ?_) ⟨p15.tr p6, fun i hi => by rw [o6]; exact wk5.2.1 i hi, wk5.2.2.1.fr _ (fun i _ _ => o6 i), wk5.2.2.2⟩ h6 (by omega)
              rw [e1 ((1, v, p) :: V) b (pkF V b he6)]
              simp
  exact t39_0 (r0 := some 73) (lp 12 a τ [] (Nat.le_refl _) rfl (fun _ h => h) (fun _ _ h => by rw [h]; rfl) ⟨PK.rf, fun _ _ => rfl, trivial, fun x hx => absurd hx (by simp)⟩ h (Nat.le_refl _))
theorem c37 {d : Nat} {τ : T2} {Q : RS → T2 → Prop} {a c z : Nat} (h : PC τ f n a c z) (hd : 18 ≤ d) (k0 : skd f n a = 0 → Q (.inl (some (AI (-1)))) τ) (k1 : skd f n a ≠ 0 → skd f n a ≤ 7 → Q (.inl (some (AI (skd f n a : Int)))) τ) : G d 37 0 [vR 73] [] τ Q := by
  obtain ⟨F, X, K, ha, -, -⟩ := h
  have s := (s73 F).1
  have go : ∀ k : Nat, skd f n a = k → k ≠ 0 → k ≤ 7 → Q (.inl (some (AI (k : Int)))) τ := fun k e h1 h2 => by
    rw [← e]; exact k1 (by omega) (by omega)
  have nn : ∀ {b : Bool}, b = false → ¬ b = true := fun e => by rw [e]; decide
  refine t37_0 (by omega) s (c72 F X K ha (t := wdTak) rfl (by omega) (t37_6 (by omega) s (fun e1 => ?_) (fun e1 => go 1 (by unfold skd; rw [if_pos (bi_1 e1)]) (by decide) (by decide))))
  refine c72 F X K ha (t := wdAll) rfl (by omega) (t37_17 (by omega) s (fun e2 => ?_) (fun e2 => go 2 (by unfold skd; rw [if_neg (nn (bi_0 e1)), if_pos (bi_1 e2)]) (by decide) (by decide)))
  refine c72 F X K ha (t := wdShi) rfl (by omega) (t37_28 (by omega) s (fun e3 => ?_) (fun e3 => go 3 (by unfold skd; rw [if_neg (nn (bi_0 e1)), if_neg (nn (bi_0 e2)), if_pos (bi_1 e3)]) (by decide) (by decide)))
  refine c72 F X K ha (t := wdBac) rfl (by omega) (t37_39 (by omega) s (fun e4 => ?_) (fun e4 => go 4 (by unfold skd; rw [if_neg (nn (bi_0 e1)), if_neg (nn (bi_0 e2)), if_neg (nn (bi_0 e3)), if_pos (bi_1 e4)]) (by decide) (by decide)))
  refine c72 F X K ha (t := wdSor) rfl (by omega) (t37_50 (by omega) s (fun e5 => ?_) (fun e5 => go 5 (by unfold skd; rw [if_neg (nn (bi_0 e1)), if_neg (nn (bi_0 e2)), if_neg (nn (bi_0 e3)), if_neg (nn (bi_0 e4)), if_pos (bi_1 e5)]) (by decide) (by decide)))
  refine c72 F X K ha (t := wdCut) rfl (by omega) (t37_61 (by omega) s (fun e6 => ?_) (fun e6 => go 6 (by unfold skd; rw [if_neg (nn (bi_0 e1)), if_neg (nn (bi_0 e2)), if_neg (nn (bi_0 e3)), if_neg (nn (bi_0 e4)), if_neg (nn (bi_0 e5)), if_pos (bi_1 e6)]) (by decide) (by decide)))
  refine c72 F X K ha (t := wdEac) rfl (by omega) (t37_73 (fun e7 => k0 ?_) (fun e7 => go 7 (by unfold skd; rw [if_neg (nn (bi_0 e1)), if_neg (nn (bi_0 e2)), if_neg (nn (bi_0 e3)), if_neg (nn (bi_0 e4)), if_neg (nn (bi_0 e5)), if_neg (nn (bi_0 e6)), if_pos (bi_1 e7)]) (by decide) (by decide)))
  unfold skd
  rw [if_neg (nn (bi_0 e1)), if_neg (nn (bi_0 e2)), if_neg (nn (bi_0 e3)), if_neg (nn (bi_0 e4)), if_neg (nn (bi_0 e5)), if_neg (nn (bi_0 e6)), if_neg (nn (bi_0 e7))]
theorem skd_s {a : Nat} (h : skd f n a ≠ 0) : tkS f n a = 2 := by
  unfold skd at h
  have q : ∀ t, isW f n a t = true → tkS f n a = 2 := fun t h => by
    unfold isW at h; rw [decide_eq_true_eq] at h; exact h.1
  split at h
  · exact q _ (by assumption)
  split at h
  · exact q _ (by assumption)
  split at h
  · exact q _ (by assumption)
  split at h
  · exact q _ (by assumption)
  split at h
  · exact q _ (by assumption)
  split at h
  · exact q _ (by assumption)
  split at h
  · exact q _ (by assumption)
  exact absurd rfl h
/-- readStep -/
theorem c36 {d : Nat} {τ : T2} {Q : RS → T2 → Prop} {a c z : Nat} (hd : 25 ≤ d) (ho : own ≤ 20) (h : PC τ f n a c z) (hz : z ≤ 36 * c) (hc12 : c ≤ 12) (k0 : ∀ e τ1, pStp f n own a c = .inl e → PK τ τ1 → FX2 τ1 → tI τ1 73 6 = e.1 → tI τ1 73 7 = (e.2 : Int) → Q (.inl (some (AI 0))) τ1) (k1 : ∀ V a1 τ1, pStp f n own a c = .inr (V, a1) → WkO τ τ1 z own V → PC τ1 f n a1 (c + 1) (z + 3 * V.length) → V.length ≤ 12 → c < 12 → a < a1 → Q (.inl (some (AI 1))) τ1) : G d 36 0 [vR 73, vI (own : Int), none] [] τ Q := by
  have s : ∀ {τ : T2}, FX2 τ → tS τ 73 = (1, 9, 0) := fun F => (s73 F).1
  have F := h.1
  refine t36_0 (r0 := some 73) (by omega) (c37 h (by omega) (fun hk => ?_) (fun hk hk7 => ?_))
  · refine t36_4 (by omega) (s F) (fun q => absurd rfl q) (fun _ => c76' h (fun τ1 p F1 e1 e2 => t36_15 (by decide) (k0 (1, tkF f n a) τ1 ?_ p F1 e1 e2)))
    unfold pStp
    rw [if_pos hk]
  · have ts := skd_s hk
    have hT := tk_w h.2.2.2.1 (show tkS f n a ≠ 0 by omega)
    generalize hkk : skd f n a = kk at hk hk7
    refine t36_4 (by omega) (s F) (fun _ => ?_) (fun q => by omega)
    refine c77' (m := 12) h (by omega) (by omega) (fun hc τ1 p1 o1 h1 => ?_) (fun hc τ1 p F1 e1 e2 => ?_)
    · have ps : pStp f n own a c = if kk = 1 then pTk f n own 12 (tkT f n a) else if kk = 4 ∨ kk = 5 then .inr ([((kk : Int), 0, 0)], tkT f n a) else (match pNum f n (tkT f n a) (if kk = 2 ∨ kk = 3 then 0 else 1) (if kk = 2 then (own : Int) - 1 else if kk = 3 then 25 else 24) (if kk = 2 then 2 else 3) with | .inl e => .inl e | .inr (v, a1) => .inr ([((kk : Int), v, 0)], a1)) := by
        unfold pStp
        rw [hkk, if_neg hk, if_pos hc]
        rfl
      refine t36_22 (by omega) (s h1.1) (fun _ => ?_) (fun q => absurd q (by decide))
      refine c68' h1 (by omega) (fun τ2 p2 o2 h2 => ?_)
      have p02 := p1.tr p2
      have o02 : ∀ i, tI τ2 75 i = tI τ 75 i := fun i => by rw [o2, o1]
      -- an instruction alone
      have one : ∀ (v : Int) (τ3 τ4 : T2) (a1 : Nat), PK τ τ4 → (∀ i, i ≠ z → i ≠ z + 1 → i ≠ z + 2 → tI τ4 75 i = tI τ 75 i) → tI τ4 75 z = (kk : Int) → tI τ4 75 (z + 1) = v → tI τ4 75 (z + 2) = 0 → okW own ((kk : Int), v, 0) → WkO τ τ4 z own [((kk : Int), v, 0)] := fun v τ3 τ4 a1 p4 o4 v0 v1 v2 ok => ⟨p4, fun i hi => o4 i (by omega) (by omega) (by omega), ⟨v0, v1, v2, trivial⟩, fun x hx => by rw [List.mem_singleton.mp hx]; exact ok⟩
      have bs : kk = 4 ∨ kk = 5 → G (d - 1) 78 0 [vR 73, vI (kk : Int), vI 0, vI 0, none] [] τ2 (KC d 36 56 59 [none, none, none] [] Q) := fun e => by
        rw [if_neg (by omega), if_pos e] at ps
        refine c78' h2 (by omega) (fun τ4 p4 o4 v0 v1 v2 h4 => t36_59 (k1 _ _ τ4 ps ?_ h4 (by simp) hc hT.1))
        refine one 0 τ2 τ4 0 (p02.tr p4) (fun i x y w => by rw [o4 i x y w, o02]) v0 v1 v2 ⟨by show 1 ≤ (kk : Int) ∧ (kk : Int) ≤ 7; omega, fun q => by have q : (kk : Int) = 1 := q; omega, fun q => by have q : (kk : Int) = 2 := q; omega, fun q => by have q : (kk : Int) = 3 := q; omega, fun q => by have q : (kk : Int) = 6 ∨ (kk : Int) = 7 := q; omega⟩
      refine t36_31 (by omega) (s h2.1) (fun _ q => bs (by omega)) (fun q1 q4 q5 => ?_) (fun _ _ q => bs (by omega)) (fun q1 => ?_)
      · rw [if_neg (by omega), if_neg (by omega)] at ps
        have num : ∀ (lo hi fb : Int) (mi pc pc1 : Nat), lo = (if kk = 2 ∨ kk = 3 then 0 else 1) → hi = (if kk = 2 then (own : Int) - 1 else if kk = 3 then 25 else 24) → fb = (if kk = 2 then 2 else 3) → (∀ (Q1 : RS → T2 → Prop), (∀ e τ3, pNum f n (tkT f n a) lo hi fb = .inl e → PK τ2 τ3 → FX2 τ3 → tI τ3 73 6 = e.1 → tI τ3 73 7 = (e.2 : Int) → Q1 (.inl (some (AI 0))) τ3) → (∀ v a1, pNum f n (tkT f n a) lo hi fb = .inr (v, a1) → a1 = tkT f n (tkT f n a) → tkT f n a < a1 → lo ≤ v → v ≤ hi → tI τ2 73 3 = v → Q1 (.inl (some (AI 1))) τ2) → G (d - 1) 38 0 [vR 73, vI (kk : Int), vI (own : Int)] [] τ2 Q1) → G (d - 1) 38 0 [vR 73, vI (kk : Int), vI (own : Int)] [] τ2 (KC d 36 65 68 [vR 73, none, vI (kk : Int)] [] Q) := fun lo hi fb mi pc pc1 elo ehi efb rd => by
          rw [← elo, ← ehi, ← efb] at ps
          refine rd _ (fun e τ3 he p3 F3 y1 y2 => ?_) (fun v a1 he ea hlt hlo hhi hval => ?_)
          · exact t36_68 (by omega) (s F3) (fun q => absurd rfl q) (fun _ => k0 e τ3 (by rw [ps, he]) (p02.tr p3) F3 y1 y2)
          · refine t36_68 (by omega) (s h2.1) (fun _ => ?_) (fun q => absurd q (by decide))
            rw [hval]
            refine c78' h2 (by omega) (fun τ4 p4 o4 v0 v1 v2 h4 => t36_83 (by omega) (s h4.1) ?_)
            refine c68' h4 (by omega) (fun τ5 p5 o5 h5 => t36_88 (k1 [((kk : Int), v, 0)] a1 τ5 (by rw [ps, he]) ?_ (by rw [← ea] at h5; exact h5) (by simp) hc (by omega)))
            refine one v τ2 τ5 a1 ((p02.tr p4).tr p5) (fun i x y w => by rw [o5, o4 i x y w, o02]) (by rw [o5]; exact v0) (by rw [o5]; exact v1) (by rw [o5]; exact v2) ⟨by show 1 ≤ (kk : Int) ∧ (kk : Int) ≤ 7; omega, fun q => by have q : (kk : Int) = 1 := q; omega, fun q => ?_, fun q => ?_, fun q => ?_⟩
            · have q : (kk : Int) = 2 := q
              rw [if_pos (by omega)] at elo ehi
              exact ⟨by show 0 ≤ v; omega, by show v < (own : Int); omega⟩
            · have q : (kk : Int) = 3 := q
              rw [if_pos (by omega)] at elo
              rw [if_neg (by omega), if_pos (by omega)] at ehi
              exact ⟨by show 0 ≤ v; omega, by show v ≤ 25; omega⟩
            · have q : (kk : Int) = 6 ∨ (kk : Int) = 7 := q
              rw [if_neg (by omega)] at elo
              rw [if_neg (by omega), if_neg (by omega)] at ehi
              exact ⟨by show 1 ≤ v; omega, by show v ≤ 24; omega⟩
        by_cases e2 : kk = 2
        · refine num 0 ((own : Int) - 1) 2 0 0 0 (by rw [if_pos (by omega)]) (by rw [if_pos e2]) (by rw [if_pos e2]) (fun Q1 r0 r1 => ?_)
          refine t38_0 (by omega) (s h2.1) (fun q => by omega) (fun q => by omega) (fun _ => ?_)
          rw [wr_id (show okI ((own : Int) - 1) by unfold okI; omega)]
          exact c74' h2 (by omega) (fun e τ3 he p3 F3 y1 y2 => t38_14 (by decide) (r0 e τ3 he p3 F3 y1 y2)) (fun v a1 he ea hlt hlo hhi hval => t38_14 (by decide) (r1 v a1 he ea hlt hlo hhi hval))
        · by_cases e3 : kk = 3
          · refine num 0 25 3 0 0 0 (by rw [if_pos (by omega)]) (by rw [if_neg e2, if_pos e3]) (by rw [if_neg e2]) (fun Q1 r0 r1 => ?_)
            refine t38_0 (by omega) (s h2.1) (fun _ q => by omega) (fun _ _ => ?_) (fun q => by omega)
            exact c74' h2 (by omega) (fun e τ3 he p3 F3 y1 y2 => t38_28 (by decide) (r0 e τ3 he p3 F3 y1 y2)) (fun v a1 he ea hlt hlo hhi hval => t38_28 (by decide) (r1 v a1 he ea hlt hlo hhi hval))
          · refine num 1 24 3 0 0 0 (by rw [if_neg (by omega)]) (by rw [if_neg e2, if_neg e3]) (by rw [if_neg e2]) (fun Q1 r0 r1 => ?_)
            refine t38_0 (by omega) (s h2.1) (fun _ _ => ?_) (fun _ q => by omega) (fun q => by omega)
            exact c74' h2 (by omega) (fun e τ3 he p3 F3 y1 y2 => t38_37 (by decide) (r0 e τ3 he p3 F3 y1 y2)) (fun v a1 he ea hlt hlo hhi hval => t38_37 (by decide) (r1 v a1 he ea hlt hlo hhi hval))
      · rw [if_pos (show kk = 1 by omega)] at ps
        refine c39 (by omega) ho h2 (by omega) (fun e τ3 he p3 F3 y1 y2 => t36_41 (by decide) (k0 e τ3 (ps.trans he) (p02.tr p3) F3 y1 y2)) (fun V a1 τ3 he w3 h3 hl ha => t36_41 (by decide) (k1 V a1 τ3 (ps.trans he) ⟨p02.tr w3.1, fun i hi => by rw [w3.2.1 i hi, o02], w3.2.2⟩ h3 hl hc (by omega)))
    · refine t36_22 (by omega) (s F1) (fun q => absurd rfl q) (fun _ => k0 (4, tkF f n a) τ1 ?_ p F1 e1 e2)
      unfold pStp
      rw [hkk, if_neg hk, if_neg hc]
/-- read of a working -/
theorem rdC_work (ho : own ≤ 20) : RdC (pWork f n own) (fun o z W => z = 3 * W.length ∧ OpW o 0 W ∧ ∀ x ∈ W, okW own x) f n (fun d τ Q => G d 35 0 [vR 73, vI (own : Int), none] [] τ Q) := by
  intro d τ Q hd h k0 k1
  have s : ∀ {τ : T2}, FX2 τ → tS τ 73 = (1, 9, 0) := fun F => (s73 F).1
  have fin : ∀ (τ1 : T2) (W : List WOP) (a1 c1 : Nat), PC τ1 f n a1 c1 (3 * W.length) → WkO τ τ1 0 own W → 3 * W.length < 1200 → (pWork f n own = if tkS f n a1 = 0 then .inr W else .inl (1, tkF f n a1)) → G (d - 1) 75 0 [vR 73] [] τ1 (KC d 35 49 52 [none, none, none] [] Q) := fun τ1 W a1 c1 h1 w1 hW he => c75' h1 (by omega) (fun q => t35_52 (by decide) (k1 W a1 c1 (3 * W.length) τ1 (by rw [he, if_pos q]) w1.1 h1 hW ⟨rfl, w1.2.2.1, w1.2.2.2⟩)) (fun q τ2 p2 F2 y1 y2 => t35_52 (by decide) (k0 (1, tkF f n a1) τ2 (by rw [he, if_neg q]) (w1.1.tr p2) F2 y1 y2))
  have lp : ∀ (j : Nat) (τ1 : T2) (W : List WOP) (a1 c1 : Nat), j ≤ 300 → PC τ1 f n a1 c1 (3 * W.length) → WkO τ τ1 0 own W → W.length ≤ 12 * c1 → c1 ≤ 12 → (pWork f n own = match pWl f n own j W a1 c1 with | .inl e => .inl e | .inr (W, a1) => if tkS f n a1 = 0 then .inr W else .inl (1, tkF f n a1)) → G d 35 12 [vR 73, vI (own : Int), vI ((300 - j : Nat) : Int)] [] τ1 Q := by
    intro j
    induction j with
    | zero =>
      intro τ1 W a1 c1 hj h1 w1 hW hc he
      exact t35_12 (by omega) (s h1.1) (fun _ => fin τ1 W a1 c1 h1 w1 (by omega) he) (fun q => by omega)
    | succ j ih =>
      intro τ1 W a1 c1 hj h1 w1 hW hc he
      simp only [pWl] at he
      refine t35_12 (by omega) (s h1.1) (fun q => by omega) (fun _ => c73 h1.1 h1.2.2.1 (by decide) ?_)
      cases hs : isS f n a1 59 with
      | false =>
        rw [if_neg (by rw [hs]; decide)] at he
        exact t35_25 (by omega) (s h1.1) (fun _ => fin τ1 W a1 c1 h1 w1 (by omega) he) (fun q => absurd rfl q)
      | true =>
        rw [if_pos hs] at he
        refine t35_25 (by omega) (s h1.1) (fun q => absurd q (by decide)) (fun _ => c68' h1 (by omega) (fun τ2 p2 o2 h2 => t35_32 (r0 := some 73) (by omega) ?_))
        refine c36 (by omega) ho h2 (by omega) hc (fun e τ3 he3 p3 F3 y1 y2 => ?_) (fun V a3 τ3 he3 w3 h3 hl hc3 ha3 => ?_)
        · exact t35_37 (r0 := some 73) (fun q => absurd rfl q) (fun _ => k0 e τ3 (by rw [he, he3]) ((w1.1.tr p2).tr p3) F3 y1 y2)
        · refine t35_37 (r0 := some 73) (fun _ => ?_) (fun q => absurd q (by decide))
          rw [wr_nat (by omega), show 300 - (j + 1) + 1 = 300 - j by omega]
          have el : (W ++ V).length = W.length + V.length := by simp
          refine ih τ3 (W ++ V) a3 (c1 + 1) (by omega) (by rw [el, show 3 * (W.length + V.length) = 3 * W.length + 3 * V.length by omega]; exact h3) ⟨(w1.1.tr p2).tr w3.1, fun i hi => by omega, ?_, fun x hx => ?_⟩ (by rw [el]; omega) (by omega) (by rw [he, he3])
          · refine OpW.ap W V (w1.2.2.1.fr W (fun i _ hi => by rw [w3.2.1 i (by omega), o2])) ?_
            rw [Nat.zero_add]
            exact w3.2.2.1
          · rcases List.mem_append.mp hx with q | q
            · exact w1.2.2.2 x q
            · exact w3.2.2.2 x q
  refine t35_0 (r0 := some 73) (by omega) (c36 (by omega) ho h (by omega) (by omega) (fun e τ1 he p1 F1 y1 y2 => ?_) (fun V a1 τ1 he w1 h1 hl hc ha => ?_))
  · refine t35_5 (r0 := some 73) (fun q => absurd rfl q) (fun _ => k0 e τ1 ?_ p1 F1 y1 y2)
    unfold pWork
    rw [he]
  · refine t35_5 (r0 := some 73) (fun _ => ?_) (fun q => absurd q (by decide))
    refine lp 300 τ1 V a1 1 (Nat.le_refl _) (by rw [show 0 + 3 * V.length = 3 * V.length from Nat.zero_add _] at h1; exact h1) w1 (by omega) (by omega) ?_
    unfold pWork
    rw [he]
    rfl
end WCL
