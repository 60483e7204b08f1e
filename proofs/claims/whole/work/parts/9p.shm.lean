/-! shut of the model -/
/-- what is good: from s on for good, below s at first -/
def GDS (τ : T2) (c : CO) (m : Int) (q : Nat) (L : List Nat) (s : Nat) : Prop := (∀ i, s ≤ i → i < L.length → tI τ 235 i = bi (gd (opx c m) (cn c 0) q L (gx L i))) ∧ ∀ i, i < s → i < L.length → tI τ 235 i = bi (thr (opx c m) (cn c 0) q (gx L i))
section SHM
variable {d : Nat} {τ : T2} {Q : RS → T2 → Prop} {L : List Nat} {c : CO} {m : Int} {q : Nat}
/-- one state: whether it leads on -/
theorem m241i {s : Nat} (F : FX2 τ) (h20 : cn c 0 ≤ 20) (e4 : tI τ 220 4 = (cn c 0 : Int)) (W : WAM τ c m L) (v : XV (opx c m) (cn c 0) L.length L) (hs : s < L.length) (hd : 1 ≤ d) (D : ∀ i, s < i → i < L.length → tI τ 235 i = bi (gd (opx c m) (cn c 0) q L (gx L i))) (k : ∀ τ1, (τ1 = τ ∨ ∃ x, τ1 = uI τ 235 s x) → tI τ1 235 s = bi (gd (opx c m) (cn c 0) q L (gx L s)) → G d 241 109 [vR 220, none, none, vI (wr ((s : Int) + (-1))), none, none] [] τ1 Q) : ∀ (j r : Nat) (τ1 : T2), r + j = cn c 0 → (τ1 = τ ∨ ∃ x, τ1 = uI τ 235 s x) → tI τ1 235 s = bi (thr (opx c m) (cn c 0) q (gx L s) || exb (fun r => mk0 (opx c m) (cn c 0) (gx L s) r && !((gx L s).testBit r) && gd (opx c m) (cn c 0) q L (gx L s ||| 2 ^ r)) r) → G d 241 116 [vR 220, none, none, vI (s : Int), vI (r : Int), none] [] τ1 Q := by
  have N := F.1
  have hl := W.1.2.1
  have hx := v.2.1 s hs
  have ge := gd_eq (q := q) v h20 hs
  generalize hp : (fun r => mk0 (opx c m) (cn c 0) (gx L s) r && !((gx L s).testBit r) && gd (opx c m) (cn c 0) q L (gx L s ||| 2 ^ r)) = p at *
  have pv : ∀ r, p r = (mk0 (opx c m) (cn c 0) (gx L s) r && !((gx L s).testBit r) && gd (opx c m) (cn c 0) q L (gx L s ||| 2 ^ r)) := fun r => by rw [← hp]
  clear hp
  have upE : ∀ r, r ≤ 20 → exb p r = true → exb p 20 = true := fun r hr h => by
    obtain ⟨i, h1, h2⟩ := (exb_i r).mp h
    exact (exb_i 20).mpr ⟨i, by omega, h2⟩
  have full : exb p 20 = exb p (cn c 0) := by
    cases h : exb p (cn c 0) with
    | true => exact upE _ h20 h
    | false =>
      refine Bool.eq_false_iff.mpr (fun z => ?_)
      obtain ⟨i, h1, h2⟩ := (exb_i 20).mp z
      by_cases e : i < cn c 0
      · rw [(exb_i (cn c 0)).mpr ⟨i, e, h2⟩] at h; cases h
      · rw [pv] at h2
        unfold mk0 at h2
        rw [decide_eq_false e] at h2
        cases h2
  intro j
  induction j with
  | zero =>
    intro r τ1 hr ht hg
    have F1 : FX2 τ1 := by
      rcases ht with h | ⟨x, h⟩
      · rw [h]; exact F
      · rw [h]; exact F.j
    have e41 : tI τ1 220 4 = (cn c 0 : Int) := by
      rcases ht with h | ⟨x, h⟩
      · rw [h]; exact e4
      · rw [h, tI_uI, if_neg (by omega)]; exact e4
    obtain ⟨s1, s2, s3, s4⟩ := s220 F1
    obtain ⟨p1, p2, p3⟩ := p220 F1
    have er : r = cn c 0 := by omega
    refine t241_116 (n5 := 1000) (n11 := 1000) (n16 := 1000) (by omega) s1 p3 s4 (fun z => by rw [e41] at z; omega) p1 s2 (fun z => by rw [e41] at z; omega) p2 s3 (fun z => by rw [e41] at z; omega) (fun _ => k τ1 ht ?_) (fun z => by rw [e41] at z; omega) (fun z => by rw [e41] at z; omega) (fun z => by rw [e41] at z; omega) (fun z => by rw [e41] at z; omega)
    rw [hg, er, ge, full]
  | succ j ih =>
    intro r τ1 hr ht hg
    have F1 : FX2 τ1 := by
      rcases ht with h | ⟨x, h⟩
      · rw [h]; exact F
      · rw [h]; exact F.j
    have o1 : OC (fun a k => a = 235 ∧ k = s) τ τ1 := by
      rcases ht with h | ⟨x, h⟩
      · rw [h]; exact OC.rf
      · rw [h]; exact OC.j (P := fun a k => a = 235 ∧ k = s) OC.rf ⟨rfl, rfl⟩
    have e41 : tI τ1 220 4 = (cn c 0 : Int) := by rw [(o1.2.2.2 220 4 (by omega) (by omega)).1]; exact e4
    have W1 : WAM τ1 c m L := W.oc F o1 (fun a k z => by unfold WYM; omega)
    obtain ⟨s1, s2, s3, s4⟩ := s220 F1
    obtain ⟨p1, p2, p3⟩ := p220 F1
    have nx : p r = false → tI τ1 235 s = 0 → G d 241 116 [vR 220, none, none, vI (s : Int), vI (wr ((r : Int) + 1)), none] [] τ1 Q := fun h h0 => by
      rw [wr_nat (by omega)]
      refine ih (r + 1) τ1 (by omega) ht ?_
      rw [hg]
      show _ = bi (thr (opx c m) (cn c 0) q (gx L s) || (exb p r || p r))
      rw [h, Bool.or_false]
    have e2 : zand (zshr (tI τ1 234 s) (r : Int)) 1 = bi (opx c m (gx L s) r) := by rw [W1.2 s hs]; exact bit_n h20 (by omega)
    have e3 : tI τ1 233 s = ((gx L s : Nat) : Int) := W1.1.2.2 s hs
    have hb30 : gx L s < 2147483648 := Nat.lt_trans hx (by decide)
    have ey : zor ((gx L s : Nat) : Int) (zshl 1 (r : Int)) = ((gx L s ||| 2 ^ r : Nat) : Int) := by rw [zshl1_nat (by omega), zor_nat hb30 (Nat.lt_of_le_of_lt (Nat.pow_le_pow_right (by decide) (show r ≤ 30 by omega)) (by decide))]
    have rn : r < cn c 0 := by omega
    have s0 : (0 : Int) ≤ (s : Int) ∧ (s : Int) < ((1000 : Nat) : Int) := by omega
    refine t241_116 (n5 := 1000) (n11 := 1000) (n16 := 1000) hd s1 p3 s4 (fun _ => s0) p1 s2 (fun _ _ => s0) p2 s3 (fun _ _ => s0) (fun z => by rw [e41] at z; clear e2 ey; omega) (fun _ z => ?_) (fun _ y z => ?_) (fun _ y _ z => ?_) (fun _ y x z => ?_)
    · rw [Int.toNat_natCast] at z
      refine k τ1 ht ?_
      rw [hg] at z ⊢
      have ht2 := bi_1 z
      rw [ht2, ge]
      rcases Bool.or_eq_true _ _ ▸ ht2 with h | h
      · rw [h]; rfl
      · rw [upE r (by clear e2 ey; omega) h]; simp
    · rw [Int.toNat_natCast] at y
      rw [Int.toNat_natCast, e2] at z
      refine nx ?_ y
      rw [pv]
      unfold mk0
      rw [show opx c m (gx L s) r = false from Bool.eq_false_iff.mpr (fun a => z (bi_t.mpr a))]
      simp
    · rw [Int.toNat_natCast] at y
      rw [Int.toNat_natCast, e3, ey] at z
      refine nx ?_ y
      have hb : (gx L s).testBit r = true := by
        have : (gx L s ||| 2 ^ r).testBit r = true := by rw [tb_put, Nat.beq_refl]; simp
        rw [Int.ofNat.inj z] at this
        exact this
      rw [pv, hb]
      simp
    · rw [Int.toNat_natCast] at y
      rw [Int.toNat_natCast, e2] at x
      rw [Int.toNat_natCast, e3, ey] at z
      rw [Int.toNat_natCast, e3, ey]
      have ho := bi_t.mp x
      have hb : (gx L s).testBit r = false := by
        cases hb : (gx L s).testBit r with
        | false => rfl
        | true => exact absurd (by rw [put_in hb]) z
      obtain ⟨i, i1, i2, i3⟩ := XV_to v h20 hs rn ho hb
      clear e2 x ey z
      refine m239 F1 W1.1 (fun i4 h1 h2 => ?_) (fun hm => absurd (gx_m.mpr ⟨i, i2, i3⟩) hm)
      have ei : i4 = i := by
        rw [← i3] at h2
        by_cases e : i4 < i
        · exact absurd h2 (v.2.2.1 i4 i e i2)
        · by_cases e2 : i < i4
          · exact absurd h2.symm (v.2.2.1 i i4 e2 h1)
          · omega
      subst ei
      have eg : tI τ1 235 i4 = bi (gd (opx c m) (cn c 0) q L (gx L s ||| 2 ^ r)) := by
        rw [(o1.2.2.2 235 i4 (by omega) (by omega)).1, D i4 i1 h1, h2]
      refine t241_188 (s1 := 235) (s3 := 235) (n1 := 1000) (n4 := 1000) s4 (by omega) s4 s0 (by rw [Int.toNat_natCast, eg]; exact bi_01 _) ?_
      rw [Int.toNat_natCast, Int.toNat_natCast, eg, wr_nat (by omega)]
      refine ih (r + 1) _ (by omega) ?_ ?_
      · rcases ht with h | ⟨x, h⟩
        · exact Or.inr ⟨_, by rw [h]⟩
        · refine Or.inr ⟨bi (gd (opx c m) (cn c 0) q L (gx L s ||| 2 ^ r)), ?_⟩
          rw [h]
          show (up (up (tI τ) 235 s x) 235 s _, tP τ, tS τ, tN τ, tZ τ) = (up (tI τ) 235 s _, tP τ, tS τ, tN τ, tZ τ)
          congr 1
          funext a b
          unfold up
          by_cases e : a = 235 ∧ b = s
          · rw [if_pos e, if_pos e]
          · rw [if_neg e, if_neg e, if_neg e]
      · rw [tI_uI, if_pos ⟨rfl, rfl⟩]
        rw [hg] at y
        have h0 := bi_0 y
        have h0 : thr (opx c m) (cn c 0) q (gx L s) = false ∧ exb p r = false := by
          rw [Bool.or_eq_false_iff] at h0; exact h0
        show _ = bi (thr (opx c m) (cn c 0) q (gx L s) || (exb p r || p r))
        rw [h0.1, h0.2, pv, hb, show mk0 (opx c m) (cn c 0) (gx L s) r = true by unfold mk0; rw [decide_eq_true rn, ho]; rfl]
        simp
end SHM
theorem mc241 {x : Int} : MCl 241 [vR 220, vI x, none, none, none, none] (sp_shut x) := fun d τ S Q hd F C w k => by
  have w1 := w.1 S.1 (by simp)
  refine t241_0 (by omega) (s220 F).1 ?_
  have k := fun τ2 h => k τ2 (EM.bef (Kp.rf.j (a := 220) (k := 0) (x := 0) (by omega) (by omega)) rfl rfl h)
  have C := C.t0 w F (x := 0)
  have F : FX2 (uI τ 220 0 0) := F.j
  generalize uI τ 220 0 0 = τ at *
  have h20 := w1.1.1
  unfold sp_shut at k
  refine m167 (fun h1 h2 => ?_) (fun h => ?_)
  · rw [if_pos ⟨h1, h2⟩] at k
    refine t241_13 (by omega) (s220 F).1 (fun _ => m209 F C.1 w1 ?_) (fun z => absurd z (by decide))
    by_cases hl : lasR S.1 = -1
    · rw [if_pos hl] at k
      exact t241_26 (by omega) (s220 F).1 (fun z => absurd hl z) (fun _ => m163 F (t241_38 (k _ (EM.rfs F C w))))
    · rw [if_neg hl] at k
      obtain ⟨q, hq, eq⟩ := las_n hl
      rw [eq, Int.toNat_natCast] at k
      rw [eq]
      refine t241_26 (by omega) (s220 F).1 (fun _ => ?_) (fun z => by omega)
      refine m238 F C.1 w1 (by omega) (fun he τ1 o F1 n1 z1 => ?_) (fun L τ1 he o F1 n1 z1 H ho => ?_)
      · rw [he] at k
        exact t241_44 (by omega) (s220 F1).1 (fun z => absurd rfl z) (fun _ => m163 F1 (t241_53 (k _ (EM.bef (WYM_K o) n1 z1 (EM.rfs F1 (WYM_M C w F o) w)))))
      · rw [he] at k
        have C1 := WYM_M C w F o
        have k := fun τ2 h => k τ2 (EM.bef (WYM_K o) n1 z1 h)
        have v := xpl_v w1 he
        have W : WAM τ1 S.1 x L := ⟨H, ho⟩
        have hl3 := H.2.1
        have N1 := F1.1
        have e4 := C1.1.1.1
        clear C F n1 z1 o ho
        -- what holds for every later state
        have kp : ∀ τ2, OC (fun a _ => a = 235) τ1 τ2 → MI τ2 S ∧ WAM τ2 S.1 x L ∧ tI τ2 220 4 = (cn S.1 0 : Int) := fun τ2 o => ⟨C1.oc w F1 o (fun a k z => by unfold FM DM AMP; omega), W.oc F1 o (fun a k z => by unfold WYM; omega), by rw [(o.2.2.2 220 4 (by omega) (by omega)).1]; exact e4⟩
        -- the first that is shut
        have l3 : ∀ (τ2 : T2), OC (fun a _ => a = 235) τ1 τ2 → FX2 τ2 → tN τ2 = tN τ1 → tZ τ2 = tZ τ1 → (∀ i, i < L.length → tI τ2 235 i = bi (gd (opx S.1 x) (cn S.1 0) q L (gx L i))) → ∀ (j s : Nat), s + j = L.length → shu (gd (opx S.1 x) (cn S.1 0) q L) L j s = shu (gd (opx S.1 x) (cn S.1 0) q L) L L.length 0 → G d 241 204 [vR 220, none, none, vI (s : Int), none, none] [] τ2 Q := by
          intro τ2 o F2 n2 z2 D j
          obtain ⟨C2, W2, -⟩ := kp τ2 o
          obtain ⟨s1, s2, s3, s4⟩ := s220 F2
          obtain ⟨p1, p2, p3⟩ := p220 F2
          have hn := W2.1.1
          have fin : ∀ y : Int, y = shu (gd (opx S.1 x) (cn S.1 0) q L) L L.length 0 → G (d - 1) 165 0 [vR 220, vI y] [] τ2 (KC d 241 247 250 [none, none, none, none, none, none] [] Q) := fun y hy => by
            rw [hy]
            exact m165 F2 (t241_250 (k _ (EM.bef (o.kp (fun a k z => by omega)) n2 z2 (EM.rfs F2 C2 w))))
          induction j with
          | zero =>
            intro s hs hv
            exact t241_204 (n6 := 1000) (n11 := 1000) (by omega) s1 p1 s2 (fun z z2 => by omega) p3 s4 (fun z => by rw [hn] at z; omega) (fun z => by rw [hn] at z; omega) (fun _ _ => fin _ hv) (fun z z2 => by omega) (fun z => by rw [hn] at z; omega) (fun z => by rw [hn] at z; omega) (fun z => by rw [hn] at z; omega)
          | succ j ih =>
            intro s hs hv
            simp only [shu] at hv
            have e := D s (by omega)
            refine t241_204 (n6 := 1000) (n11 := 1000) (by omega) s1 p1 s2 (fun z z2 => by omega) p3 s4 (fun _ => by omega) (fun _ _ _ => by omega) (fun z => by rw [hn] at z; omega) (fun z z2 => by omega) (fun z _ z2 => by omega) (fun _ z _ => ?_) (fun _ z => ?_)
            · rw [Int.toNat_natCast, e] at z
              rw [Int.toNat_natCast, W2.1.2.2 s (by omega)]
              rw [if_neg (by rw [bi_0 z]; decide)] at hv
              exact fin _ hv
            · rw [Int.toNat_natCast, e] at z
              rw [if_pos (bi_1 z)] at hv
              rw [wr_nat (by omega)]
              exact ih (s + 1) (by omega) hv
        -- from the end on
        have l2 : ∀ (s : Nat) (τ2 : T2), s ≤ L.length → OC (fun a _ => a = 235) τ1 τ2 → FX2 τ2 → tN τ2 = tN τ1 → tZ τ2 = tZ τ1 → GDS τ2 S.1 x q L s → G d 241 109 [vR 220, none, none, vI ((s : Int) - 1), none, none] [] τ2 Q := by
          intro s
          induction s with
          | zero =>
            intro τ2 hs o F2 n2 z2 D
            exact t241_109 (fun _ => l3 τ2 o F2 n2 z2 (fun i hi => D.1 i (by omega) hi) L.length 0 (by omega) rfl) (fun z => by omega)
          | succ s ih =>
            intro τ2 hs o F2 n2 z2 D
            obtain ⟨C2, W2, e42⟩ := kp τ2 o
            refine t241_109 (fun z => by omega) (fun _ => ?_)
            have es : ((s + 1 : Nat) : Int) - 1 = (s : Int) := by omega
            rw [es]
            refine m241i F2 h20 e42 W2 v (by omega) (by omega) (fun i h3 h4 => D.1 i (by omega) h4) (fun τ3 ht hg => ?_) (cn S.1 0) 0 τ2 (by omega) (Or.inl rfl) ?_
            · have e2 : wr ((s : Int) + (-1)) = (s : Int) - 1 := by rw [wr_id (by unfold okI; omega)]; omega
              rw [e2]
              clear e2
              have o3 : OC (fun a _ => a = 235) τ1 τ3 := by
                rcases ht with h | ⟨y, h⟩
                · rw [h]; exact o
                · rw [h]; exact o.ad
              have F3 : FX2 τ3 := by
                rcases ht with h | ⟨y, h⟩
                · rw [h]; exact F2
                · rw [h]; exact F2.j
              have n3 : tN τ3 = tN τ1 := by
                rcases ht with h | ⟨y, h⟩
                · rw [h]; exact n2
                · rw [h]; exact n2
              have z3 : tZ τ3 = tZ τ1 := by
                rcases ht with h | ⟨y, h⟩
                · rw [h]; exact z2
                · rw [h]; exact z2
              have oth : ∀ i, i ≠ s → tI τ3 235 i = tI τ2 235 i := fun i hi => by
                rcases ht with h | ⟨y, h⟩
                · rw [h]
                · rw [h, tI_uI, if_neg (fun z => hi z.2)]
              refine ih τ3 (by omega) o3 F3 n3 z3 ⟨fun i h3 h4 => ?_, fun i h3 h4 => ?_⟩
              · by_cases e : i = s
                · rw [e]; exact hg
                · rw [oth i e]; exact D.1 i (by omega) h4
              · rw [oth i (by omega)]; exact D.2 i (by omega) h4
            · rw [D.2 s (by omega) (by omega)]
              show _ = bi (thr (opx S.1 x) (cn S.1 0) q (gx L s) || false)
              rw [Bool.or_false]
        -- at first
        have l1 : ∀ (j s : Nat) (τ2 : T2), s + j = L.length → OC (fun a _ => a = 235) τ1 τ2 → FX2 τ2 → tN τ2 = tN τ1 → tZ τ2 = tZ τ1 → (∀ i, i < s → tI τ2 235 i = bi (thr (opx S.1 x) (cn S.1 0) q (gx L i))) → G d 241 56 [vR 220, none, vI (q : Int), vI (s : Int), none, none] [] τ2 Q := by
          intro j
          induction j with
          | zero =>
            intro s τ2 hs o F2 n2 z2 D
            obtain ⟨C2, W2, -⟩ := kp τ2 o
            obtain ⟨s1, s2, s3, s4⟩ := s220 F2
            obtain ⟨p1, p2, p3⟩ := p220 F2
            have hn := W2.1.1
            refine t241_56 (n7 := 1000) (n12 := 1000) (n16 := 1000) s1 p3 p1 s2 (fun z => by rw [hn] at z; omega) p2 s3 (fun z => by rw [hn] at z; omega) s4 (fun z => by rw [hn] at z; omega) (fun z => by rw [hn] at z; omega) (fun _ => ?_) (fun z => by rw [hn] at z; omega) (fun z => by rw [hn] at z; omega)
            rw [hn, wr_id (by unfold okI; omega)]
            exact l2 L.length τ2 (Nat.le_refl _) o F2 n2 z2 ⟨fun i h3 h4 => by omega, fun i h3 h4 => D i (by omega)⟩
          | succ j ih =>
            intro s τ2 hs o F2 n2 z2 D
            obtain ⟨C2, W2, -⟩ := kp τ2 o
            obtain ⟨s1, s2, s3, s4⟩ := s220 F2
            obtain ⟨p1, p2, p3⟩ := p220 F2
            have hn := W2.1.1
            have hx := v.2.1 s (by omega)
            have et : (zand (zshr (zor (tI τ2 233 ((s : Int)).toNat) (tI τ2 234 ((s : Int)).toNat)) (q : Int)) 1) = bi (thr (opx S.1 x) (cn S.1 0) q (gx L s)) := by
              rw [Int.toNat_natCast, W2.2 s (by omega), W2.1.2.2 s (by omega), enc_20 h20, ← congrArg (Nat.cast : Nat → Int) (enc_tx hx), zor_2, bit_enc _ (by omega)]
              rfl
            have nx : ∀ y : Int, y = bi (thr (opx S.1 x) (cn S.1 0) q (gx L s)) → G d 241 56 [vR 220, none, vI (q : Int), vI (wr ((s : Int) + 1)), none, none] [] (uI τ2 235 s y) Q := fun y hy => by
              rw [wr_nat (by omega)]
              refine ih (s + 1) _ (by omega) o.ad F2.j n2 z2 (fun i hi => ?_)
              rw [tI_uI]
              by_cases e : i = s
              · rw [if_pos ⟨rfl, e⟩, e, hy]
              · rw [if_neg (fun z => e z.2)]; exact D i (by omega)
            refine t241_56 (n7 := 1000) (n12 := 1000) (n16 := 1000) s1 p3 p1 s2 (fun _ => by clear et; omega) p2 s3 (fun _ => by clear et; omega) s4 (fun _ _ => by clear et; omega) (fun _ _ => by clear et; omega) (fun z => by rw [hn] at z; clear et; omega) (fun _ z => ?_) (fun _ z => ?_)
            · rw [et] at z
              rw [Int.toNat_natCast]
              exact nx 0 (by rw [show thr (opx S.1 x) (cn S.1 0) q (gx L s) = false from Bool.eq_false_iff.mpr (fun a => z (bi_t.mpr a))]; rfl)
            · rw [et] at z
              rw [Int.toNat_natCast]
              exact nx 1 z.symm
        exact t241_44 (by omega) (s220 F1).1 (fun _ => l1 L.length 0 τ1 (by omega) OC.rf F1 rfl rfl (fun i hi => by omega)) (fun z => absurd z (by decide))
  · rw [if_neg (by omega)] at k
    exact t241_13 (by omega) (s220 F).1 (fun z => absurd rfl z) (fun _ => m163 F (t241_21 (k _ (EM.rfs F C w))))
