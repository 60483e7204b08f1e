/-! STATES of the model -/
def HTM (τ : T2) (L : List Nat) : Prop := tI τ 220 37 = (L.length : Int) ∧ L.length ≤ 1000 ∧ ∀ i, i < L.length → tI τ 233 i = ((gx L i : Nat) : Int)
def WYN (a k : Nat) : Prop := (a = 220 ∧ k = 37) ∨ a = 233
def WYM (a k : Nat) : Prop := (a = 220 ∧ k = 37) ∨ a = 233 ∨ a = 234 ∨ a = 227
theorem HTM.oc {τ τ1 : T2} {L : List Nat} {P : Nat → Nat → Prop} (H : HTM τ L) (F : FX2 τ) (o : OC P τ τ1) (hp : ∀ a k, P a k → ¬ WYN a k) : HTM τ1 L := by
  have N := F.1
  obtain ⟨h1, h2, h3⟩ := H
  refine ⟨?_, h2, fun i hi => ?_⟩
  · rw [(o.2.2.2 220 37 (by omega) (fun z => hp _ _ z (by unfold WYN; omega))).1]; exact h1
  · rw [(o.2.2.2 233 i (by omega) (fun z => hp _ _ z (by unfold WYN; omega))).1]; exact h3 i hi
section WBM
variable {d : Nat} {τ : T2} {Q : RS → T2 → Prop} {L : List Nat}
theorem s220 (F : FX2 τ) : tS τ 220 = (1, 21, 0) ∧ tS τ 233 = (2, 0, 1000) ∧ tS τ 234 = (2, 0, 1000) ∧ tS τ 235 = (2, 2, 1000) := ⟨F.sh rfl (by omega) (by omega), F.sh rfl (by omega) (by omega), F.sh rfl (by omega) (by omega), F.sh rfl (by omega) (by omega)⟩
theorem p220 (F : FX2 τ) : tP τ 220 35 = some 233 ∧ tP τ 220 36 = some 234 ∧ tP τ 220 38 = some 235 := ⟨F.p rfl, F.p rfl, F.p rfl⟩
theorem m239 (F : FX2 τ) (H : HTM τ L) {y : Nat} (k1 : ∀ i, i < L.length → gx L i = y → Q (.inl (some (AI (i : Int)))) τ) (k0 : y ∉ L → Q (.inl (some (AI (-1)))) τ) : G d 239 0 [vR 220, vI (y : Int), none] [] τ Q := by
  obtain ⟨s1, s2, s3, s4⟩ := s220 F
  obtain ⟨p1, p2, p3⟩ := p220 F
  obtain ⟨hn, hl, hv⟩ := H
  have lp : ∀ (j i : Nat), i + j = L.length → (∀ p, p < i → gx L p ≠ y) → G d 239 2 [vR 220, vI (y : Int), vI (i : Int)] [] τ Q := by
    intro j
    induction j with
    | zero =>
      intro i hi hp
      refine t239_2 (n6 := 1000) s1 p1 s2 (fun z => by rw [hn] at z; omega) (fun _ _ => k0 (fun z => ?_)) (fun z z2 => by omega) (fun z => by rw [hn] at z; omega) (fun z => by rw [hn] at z; omega) (fun z => by rw [hn] at z; omega)
      obtain ⟨p, h1, h2⟩ := gx_m.mp z
      exact hp p (by omega) h2
    | succ j ih =>
      intro i hi hp
      have e := hv i (by omega)
      refine t239_2 (n6 := 1000) s1 p1 s2 (fun _ => by omega) (fun z => by rw [hn] at z; omega) (fun z z2 => by omega) (fun z _ z2 => by omega) (fun _ z _ => ?_) (fun _ z => ?_)
      · rw [Int.toNat_natCast, e] at z
        exact k1 i (by omega) (by omega)
      · rw [Int.toNat_natCast, e] at z
        rw [wr_nat (by omega)]
        refine ih (i + 1) (by omega) (fun p h1 => ?_)
        by_cases e2 : p = i
        · rw [e2]; exact fun y2 => z (by rw [y2])
        · exact hp p (by omega)
  exact t239_0 (lp L.length 0 (by omega) (fun p hp => by omega))
theorem WYM_D {a k : Nat} (h : WYM a k) : ¬ DM a k ∧ a < 473 := by
  unfold WYM at h
  unfold DM
  omega
/-- meets -/
theorem m238 {c : CO} {m : Int} (F : FX2 τ) (R : RM τ c) (w : WF c) (hd : 40 ≤ d) (k0 : xpl c m = none → ∀ τ1, OC WYM τ τ1 → FX2 τ1 → tN τ1 = tN τ → tZ τ1 = tZ τ → Q (.inl (some (AI 0))) τ1) (k1 : ∀ L τ1, xpl c m = some L → OC WYM τ τ1 → FX2 τ1 → tN τ1 = tN τ → tZ τ1 = tZ τ → HTM τ1 L → (∀ i, i < L.length → tI τ1 234 i = ((enc (opx c m (gx L i)) (cn c 0) : Nat) : Int)) → Q (.inl (some (AI 1))) τ1) : G d 238 0 [vR 220, vI m, none, none, none] [] τ Q := by
  have h20 := w.1.1
  have N := F.1
  have lpS : ∀ (j s : Nat) (L : List Nat) (τ1 : T2), 1000 < s + j → s ≤ L.length → (∀ i, i < L.length → gx L i < 2 ^ 20) → exS (opx c m) (cn c 0) j s L = xpl c m → OC WYM τ τ1 → FX2 τ1 → tN τ1 = tN τ → tZ τ1 = tZ τ → HTM τ1 L → (∀ i, i < s → i < L.length → tI τ1 234 i = ((enc (opx c m (gx L i)) (cn c 0) : Nat) : Int)) → G d 238 14 [vR 220, vI m, vI (s : Int), none, none] [] τ1 Q := by
    intro j
    induction j with
    | zero =>
      intro s L τ1 hj hs hb he o F1 n1 z1 H ho
      have := H.2.1
      omega
    | succ j ihS =>
      intro s L τ1 hj hs hb he o F1 n1 z1 H ho
      obtain ⟨s1, s2, s3, s4⟩ := s220 F1
      obtain ⟨p1, p2, p3⟩ := p220 F1
      have hn := H.1
      have hl := H.2.1
      simp only [exS] at he
      by_cases h : s < L.length
      · rw [if_pos h] at he
        have hx := hb s h
        refine t238_14 (n5 := 1000) s1 p2 s3 (fun _ => by omega) (fun z => by rw [hn] at z; omega) (fun _ => ?_)
        rw [Int.toNat_natCast]
        have lpR : ∀ (i r : Nat) (L2 : List Nat) (τ2 : T2), r + i = cn c 0 → L.length ≤ L2.length → (∀ q, q < L2.length → gx L2 q < 2 ^ 20) → (∀ q, q < L.length → gx L2 q = gx L q) → (match exr (opx c m) (gx L s) i r L2 with | none => none | some L1 => exS (opx c m) (cn c 0) j (s + 1) L1) = xpl c m → OC WYM τ τ2 → FX2 τ2 → tN τ2 = tN τ → tZ τ2 = tZ τ → HTM τ2 L2 → (∀ q, q < s → tI τ2 234 q = ((enc (opx c m (gx L q)) (cn c 0) : Nat) : Int)) → tI τ2 234 s = ((enc (opx c m (gx L s)) r : Nat) : Int) → G d 238 31 [vR 220, vI m, vI (s : Int), vI (r : Int), none] [] τ2 Q := by
          intro i
          induction i with
          | zero =>
            intro r L2 τ2 hr hL hb2 hg he2 o2 F2 n2 z2 H2 ho2 hp2
            have er : r = cn c 0 := by omega
            have R2 : RM τ2 c := R.oc w F o2 (fun a k z => WYM_D z)
            have e4 := R2.1.1
            obtain ⟨t1, t2, t3, t4⟩ := s220 F2
            refine t238_31 (n5 := 1000) (by omega) t1 (p220 F2).1 t2 (fun z => by rw [e4] at z; omega) (fun _ => ?_) (fun z => by rw [e4] at z; omega)
            rw [wr_nat (by omega)]
            refine ihS (s + 1) L2 τ2 (by omega) (by omega) hb2 he2 o2 F2 n2 z2 H2 (fun q h1 h2 => ?_)
            by_cases e : q = s
            · rw [e, hg s h, hp2, er]
            · rw [hg q (by omega)]; exact ho2 q (by omega)
          | succ i ihR =>
            intro r L2 τ2 hr hL hb2 hg he2 o2 F2 n2 z2 H2 ho2 hp2
            have hrn : r < cn c 0 := by omega
            have R2 : RM τ2 c := R.oc w F o2 (fun a k z => WYM_D z)
            have e4 := R2.1.1
            obtain ⟨t1, t2, t3, t4⟩ := s220 F2
            obtain ⟨q1, q2, q3⟩ := p220 F2
            have vs : tI τ2 233 s = ((gx L s : Nat) : Int) := by rw [H2.2.2 s (by omega), hg s h]
            have N2 := F2.1
            simp only [exr] at he2
            refine t238_31 (n5 := 1000) (by omega) t1 q1 t2 (fun _ => by omega) (fun z => by rw [e4] at z; omega) (fun _ => ?_)
            rw [Int.toNat_natCast, vs, ← congrArg (Nat.cast : Nat → Int) (enc_tx hx)]
            have nb : ∀ b, opx c m (gx L s) r = b → bi (opn c r (fun i => (gx L s).testBit i) m) = bi b := fun b h => by rw [← h]; rfl
            refine m187 F2 R2 w hrn (by omega) (fun τ5 o5 F5 n5 z5 => ?_)
            -- the pile was used
            have o2 : OC WYM τ τ5 := o2.tr (o5.mo fun a k z => by unfold WYM; omega)
            have H2 : HTM τ5 L2 := H2.oc F2 o5 (fun a k z => by unfold WYN; omega)
            have sm : ∀ a k, a < 473 → a ≠ 227 → tI τ5 a k = tI τ2 a k := fun a k h1 h2 => (o5.2.2.2 a k (by omega) h2).1
            have ho2 : ∀ q, q < s → tI τ5 234 q = ((enc (opx c m (gx L q)) (cn c 0) : Nat) : Int) := fun q hq => by rw [sm _ _ (by omega) (by omega)]; exact ho2 q hq
            have hp2 : tI τ5 234 s = ((enc (opx c m (gx L s)) r : Nat) : Int) := by rw [sm _ _ (by omega) (by omega)]; exact hp2
            have vs : tI τ5 233 s = ((gx L s : Nat) : Int) := by rw [sm _ _ (by omega) (by omega)]; exact vs
            have n2 := n5.trans n2
            have z2 := z5.trans z2
            clear sm o5 n5 z5 R2 e4 t1 t2 t3 t4 q1 q2 q3 F2 N2
            have F2 := F5
            have hn2 := H2.1
            have hl2 := H2.2.1
            obtain ⟨t1, t2, t3, t4⟩ := s220 F2
            obtain ⟨q1, q2, q3⟩ := p220 F2
            cases hop : opx c m (gx L s) r with
            | false =>
              rw [nb _ hop]
              rw [if_neg (by rw [hop]; decide)] at he2
              refine t238_51 (n5 := 1000) (n10 := 1000) (by omega) t1 q2 t3 (fun z => absurd rfl z) q1 t2 (fun z => absurd rfl z) (fun z => absurd rfl z) (fun _ => ?_)
              rw [wr_nat (by omega)]
              refine ihR (r + 1) L2 τ5 (by omega) hL hb2 hg he2 o2 F2 n2 z2 H2 ho2 ?_
              rw [hp2, enc_no _ hop]
            | true =>
              rw [nb _ hop]
              rw [if_pos hop] at he2
              refine t238_51 (n5 := 1000) (n10 := 1000) (by omega) t1 q2 t3 (fun _ => by omega) q1 t2 (fun _ => by omega) (fun _ => ?_) (fun z => absurd z (by decide))
              have hb30 : gx L s < 2147483648 := Nat.lt_trans hx (by decide)
              have h2r : 2 ^ r < 2147483648 := Nat.lt_of_le_of_lt (Nat.pow_le_pow_right (by decide) (show r ≤ 30 by omega)) (by decide)
              have ey : zor ((gx L s : Nat) : Int) (zshl 1 (r : Int)) = ((gx L s ||| 2 ^ r : Nat) : Int) := by rw [zshl1_nat (by omega), zor_nat hb30 h2r]
              rw [Int.toNat_natCast, hp2, enc_put _ (show r < 30 by omega) hop, show tI (uI τ5 234 s ((enc (opx c m (gx L s)) (r + 1) : Nat) : Int)) 233 s = ((gx L s : Nat) : Int) by rw [tI_uI, if_neg (by omega)]; exact vs, ey]
              have o3 : OC WYM τ (uI τ5 234 s ((enc (opx c m (gx L s)) (r + 1) : Nat) : Int)) := o2.j (by unfold WYM; omega)
              have oo : OC (fun a _ => a = 234) τ5 (uI τ5 234 s ((enc (opx c m (gx L s)) (r + 1) : Nat) : Int)) := OC.ad OC.rf
              have H3 : HTM (uI τ5 234 s ((enc (opx c m (gx L s)) (r + 1) : Nat) : Int)) L2 := H2.oc F2 oo (fun a k z => by unfold WYN; omega)
              have a3 : ∀ q, q < s → tI (uI τ5 234 s ((enc (opx c m (gx L s)) (r + 1) : Nat) : Int)) 234 q = ((enc (opx c m (gx L q)) (cn c 0) : Nat) : Int) := fun q hq => by rw [tI_uI, if_neg (by omega)]; exact ho2 q hq
              have b3 : tI (uI τ5 234 s ((enc (opx c m (gx L s)) (r + 1) : Nat) : Int)) 234 s = ((enc (opx c m (gx L s)) (r + 1) : Nat) : Int) := by rw [tI_uI, if_pos ⟨rfl, rfl⟩]
              have F3 : FX2 (uI τ5 234 s ((enc (opx c m (gx L s)) (r + 1) : Nat) : Int)) := F2.j
              have n3 : tN (uI τ5 234 s ((enc (opx c m (gx L s)) (r + 1) : Nat) : Int)) = tN τ := n2
              have z3 : tZ (uI τ5 234 s ((enc (opx c m (gx L s)) (r + 1) : Nat) : Int)) = tZ τ := z2
              generalize uI τ5 234 s ((enc (opx c m (gx L s)) (r + 1) : Nat) : Int) = τ3 at *
              have N3 := F3.1
              obtain ⟨t1, t2, t3, t4⟩ := s220 F3
              obtain ⟨q1, q2, q3⟩ := p220 F3
              have hn3 := H3.1
              clear ey h2r
              refine m239 F3 H3 (fun i2 h1 h2 => ?_) (fun hm => ?_)
              · have hm : gx L s ||| 2 ^ r ∈ L2 := gx_m.mpr ⟨i2, h1, h2⟩
                rw [if_pos hm] at he2
                refine t238_87 (n6 := 1000) t1 q1 t2 (fun z => by omega) (fun z => by omega) (fun z => by omega) (fun _ => ?_)
                rw [wr_nat (by omega)]
                exact ihR (r + 1) L2 τ3 (by omega) hL hb2 hg he2 o3 F3 n3 z3 H3 a3 b3
              · rw [if_neg hm] at he2
                by_cases hlt : L2.length < 1000
                · rw [if_pos hlt] at he2
                  refine t238_87 (n6 := 1000) t1 q1 t2 (fun _ _ => by rw [hn3]; omega) (fun _ _ => ?_) (fun _ z => by rw [hn3] at z; omega) (fun z => absurd rfl z)
                  have eL : (tI τ3 220 37).toNat = L2.length := by rw [hn3]; exact Int.toNat_natCast _
                  have g1 : tI (uI τ3 233 L2.length ((gx L s ||| 2 ^ r : Nat) : Int)) 220 37 = (L2.length : Int) := by rw [tI_uI, if_neg (by omega)]; exact hn3
                  rw [eL, g1, wr_nat (by omega), wr_nat (by omega)]
                  refine ihR (r + 1) (L2 ++ [gx L s ||| 2 ^ r]) _ (by omega) (by rw [gx_len]; omega) (fun q hq => ?_) (fun q hq => ?_) he2 ((o3.j (by unfold WYM; omega)).j (by unfold WYM; omega)) F3.j.j n3 z3 ⟨?_, by rw [gx_len]; omega, fun q hq => ?_⟩ (fun q hq => ?_) ?_
                  · rw [gx_len] at hq
                    by_cases e : q < L2.length
                    · rw [gx_l e]; exact hb2 q e
                    · rw [show q = L2.length by omega, gx_r]; exact lt_put hx (by omega)
                  · rw [gx_l (by omega)]; exact hg q hq
                  · rw [tI_uI, if_pos ⟨rfl, rfl⟩, gx_len]
                  · rw [gx_len] at hq
                    rw [tI_uI, if_neg (by omega), tI_uI]
                    by_cases e : q = L2.length
                    · rw [if_pos ⟨rfl, e⟩, e, gx_r]
                    · rw [if_neg (fun z => e z.2), H3.2.2 q (by omega), gx_l (by omega)]
                  · rw [tI_uI, if_neg (by omega), tI_uI, if_neg (by omega)]; exact a3 q hq
                  · rw [tI_uI, if_neg (by omega), tI_uI, if_neg (by omega)]; exact b3
                · rw [if_neg hlt] at he2
                  have := H3.2.1
                  exact t238_87 (n6 := 1000) t1 q1 t2 (fun _ z => absurd (show tI τ3 220 37 = 1000 by rw [hn3]; omega) z) (fun _ z => absurd (show tI τ3 220 37 = 1000 by rw [hn3]; omega) z) (fun _ _ => k0 he2.symm τ3 o3 F3 n3 z3) (fun z => absurd rfl z)
        have oo : OC (fun a _ => a = 234) τ1 (uI τ1 234 s 0) := OC.ad OC.rf
        refine lpR (cn c 0) 0 L _ (by omega) (Nat.le_refl _) hb (fun _ _ => rfl) he (o.j (by unfold WYM; omega)) F1.j n1 z1 (H.oc F1 oo (fun a k z => by unfold WYN; omega)) (fun q hq => ?_) ?_
        · rw [tI_uI, if_neg (by omega)]; exact ho q hq (by omega)
        · rw [tI_uI, if_pos ⟨rfl, rfl⟩]; rfl
      · rw [if_neg h] at he
        exact t238_14 (n5 := 1000) s1 p2 s3 (fun z => by rw [hn] at z; omega) (fun _ => k1 L τ1 he.symm o F1 n1 z1 H (fun i hi => ho i (by omega) hi)) (fun z => by rw [hn] at z; omega)
  obtain ⟨s1, s2, s3, s4⟩ := s220 F
  obtain ⟨p1, p2, p3⟩ := p220 F
  refine t238_0 (n4 := 1000) s1 p1 s2 (by omega) ?_
  refine lpS 1001 0 [0] _ (by omega) (by simp) (fun i hi => ?_) rfl ((OC.rf.j (by unfold WYM; omega)).j (by unfold WYM; omega)) F.j.j rfl rfl ⟨by rw [tI_uI, if_pos ⟨rfl, rfl⟩]; rfl, by decide, fun i hi => ?_⟩ (fun i hi => by omega)
  · have : i = 0 := by simp at hi; exact hi
    rw [this]; decide
  · have : i = 0 := by simp at hi; exact hi
    rw [this, tI_uI, if_neg (by decide), tI_uI, if_pos ⟨rfl, rfl⟩]
    rfl
end WBM
/-- what the model met stands -/
def WAM (τ : T2) (c : CO) (m : Int) (L : List Nat) : Prop := HTM τ L ∧ ∀ i, i < L.length → tI τ 234 i = ((enc (opx c m (gx L i)) (cn c 0) : Nat) : Int)
theorem WAM.oc {τ τ1 : T2} {L : List Nat} {c : CO} {m : Int} {P : Nat → Nat → Prop} (H : WAM τ c m L) (F : FX2 τ) (o : OC P τ τ1) (hp : ∀ a k, P a k → ¬ WYM a k) : WAM τ1 c m L := by
  have N := F.1
  refine ⟨H.1.oc F o (fun a k z y => hp a k z (by unfold WYN at y; unfold WYM; omega)), fun i hi => ?_⟩
  rw [(o.2.2.2 234 i (by omega) (fun z => hp _ _ z (by unfold WYM; omega))).1]
  exact H.2 i hi
theorem WYM_M {τ τ1 : T2} {S : HSx} (C : MI τ S) (w : WS S) (F : FX2 τ) (o : OC WYM τ τ1) : MI τ1 S := C.oc w F o (fun a k z => by unfold WYM at z; unfold FM DM AMP; omega)
theorem WYM_K {τ τ1 : T2} (o : OC WYM τ τ1) : Kp 220 472 τ τ1 := o.kp (fun a k z => by unfold WYM at z; omega)
theorem mc240 {x : Int} : MCl 240 [vR 220, vI x] (sp_states x) := fun d τ S Q hd F C w k => by
  have w1 := w.1 S.1 (by simp)
  refine t240_0 (by omega) (s220 F).1 ?_
  have k := fun τ2 h => k τ2 (EM.bef (Kp.rf.j (a := 220) (k := 0) (x := 0) (by omega) (by omega)) rfl rfl h)
  have C := C.t0 w F (x := 0)
  have F : FX2 (uI τ 220 0 0) := F.j
  generalize uI τ 220 0 0 = τ at *
  unfold sp_states at k
  refine m167 (fun h1 h2 => ?_) (fun h => ?_)
  · rw [if_pos ⟨h1, h2⟩] at k
    refine t240_13 (by omega) (s220 F).1 (fun _ => ?_) (fun z => absurd z (by decide))
    refine m238 F C.1 w1 (by omega) (fun he τ1 o F1 n1 z1 => ?_) (fun L τ1 he o F1 n1 z1 H ho => ?_)
    · rw [he] at k
      exact t240_27 (by omega) (s220 F1).1 (fun _ => m163 F1 (t240_47 (k _ (EM.bef (WYM_K o) n1 z1 (EM.rfs F1 (WYM_M C w F o) w))))) (fun z => absurd rfl z)
    · rw [he] at k
      refine t240_27 (by omega) (s220 F1).1 (fun z => absurd z (by decide)) (fun _ => ?_)
      rw [H.1]
      exact m165 F1 (t240_38 (k _ (EM.bef (WYM_K o) n1 z1 (EM.rfs F1 (WYM_M C w F o) w))))
  · rw [if_neg (by omega)] at k
    exact t240_13 (by omega) (s220 F).1 (fun z => absurd rfl z) (fun _ => m163 F (t240_21 (k _ (EM.rfs F C w))))
theorem mc243 {x : Int} : MCl 243 [vR 220, vI x, none, none] (sp_dead x) := fun d τ S Q hd F C w k => by
  have w1 := w.1 S.1 (by simp)
  refine t243_0 (by omega) (s220 F).1 ?_
  have k := fun τ2 h => k τ2 (EM.bef (Kp.rf.j (a := 220) (k := 0) (x := 0) (by omega) (by omega)) rfl rfl h)
  have C := C.t0 w F (x := 0)
  have F : FX2 (uI τ 220 0 0) := F.j
  generalize uI τ 220 0 0 = τ at *
  unfold sp_dead at k
  refine m167 (fun h1 h2 => ?_) (fun h => ?_)
  · rw [if_pos ⟨h1, h2⟩] at k
    refine t243_13 (by omega) (s220 F).1 (fun _ => ?_) (fun z => absurd z (by decide))
    refine m238 F C.1 w1 (by omega) (fun he τ1 o F1 n1 z1 => ?_) (fun L τ1 he o F1 n1 z1 H ho => ?_)
    · rw [he] at k
      exact t243_27 (by omega) (s220 F1).1 (fun z => absurd rfl z) (fun _ => m163 F1 (t243_36 (k _ (EM.bef (WYM_K o) n1 z1 (EM.rfs F1 (WYM_M C w F o) w)))))
    · rw [he] at k
      have C1 := WYM_M C w F o
      have k := k _ (EM.bef (WYM_K o) n1 z1 (EM.rfs F1 C1 w))
      have e4 := C1.1.1.1
      have hn := H.1
      have hl := H.2.1
      obtain ⟨s1, s2, s3, s4⟩ := s220 F1
      obtain ⟨p1, p2, p3⟩ := p220 F1
      have lp : ∀ (j s : Nat), s + j = L.length → G d 243 41 [vR 220, none, vI (orx (opx S.1 x) (cn S.1 0) L s), vI (s : Int)] [] τ1 Q := by
        intro j
        induction j with
        | zero =>
          intro s hs
          have e : s = L.length := by omega
          rw [e]
          refine t243_41 (n5 := 1000) (by omega) s1 p2 s3 (fun z => by rw [hn] at z; omega) (fun _ => ?_) (fun z => by rw [hn] at z; omega)
          rw [e4]
          exact m165 F1 (t243_80 k)
        | succ j ih =>
          intro s hs
          refine t243_41 (n5 := 1000) (by omega) s1 p2 s3 (fun _ => by omega) (fun z => by rw [hn] at z; omega) (fun _ => ?_)
          rw [Int.toNat_natCast, ho s (by omega), wr_nat (by omega)]
          exact ih (s + 1) (by omega)
      exact t243_27 (by omega) s1 (fun _ => lp L.length 0 (by omega)) (fun z => absurd z (by decide))
  · rw [if_neg (by omega)] at k
    exact t243_13 (by omega) (s220 F).1 (fun z => absurd rfl z) (fun _ => m163 F (t243_21 (k _ (EM.rfs F C w))))
theorem mc242 {x : Int} : MCl 242 [vR 220, vI x, none, none, none] (sp_shortest x) := fun d τ S Q hd F C w k => by
  have w1 := w.1 S.1 (by simp)
  refine t242_0 (by omega) (s220 F).1 ?_
  have k := fun τ2 h => k τ2 (EM.bef (Kp.rf.j (a := 220) (k := 0) (x := 0) (by omega) (by omega)) rfl rfl h)
  have C := C.t0 w F (x := 0)
  have F : FX2 (uI τ 220 0 0) := F.j
  generalize uI τ 220 0 0 = τ at *
  have h20 := w1.1.1
  unfold sp_shortest at k
  refine m167 (fun h1 h2 => ?_) (fun h => ?_)
  · rw [if_pos ⟨h1, h2⟩] at k
    refine t242_13 (by omega) (s220 F).1 (fun _ => m209 F C.1 w1 ?_) (fun z => absurd z (by decide))
    by_cases hl : lasR S.1 = -1
    · rw [if_pos hl] at k
      exact t242_26 (by omega) (s220 F).1 (fun z => absurd hl z) (fun _ => m163 F (t242_38 (k _ (EM.rfs F C w))))
    · rw [if_neg hl] at k
      obtain ⟨q, hq, eq⟩ := las_n hl
      rw [eq, Int.toNat_natCast] at k
      rw [eq]
      refine t242_26 (by omega) (s220 F).1 (fun _ => ?_) (fun z => by omega)
      refine m238 F C.1 w1 (by omega) (fun he τ1 o F1 n1 z1 => ?_) (fun L τ1 he o F1 n1 z1 H ho => ?_)
      · rw [he] at k
        exact t242_44 (by omega) (s220 F1).1 (fun z => absurd rfl z) (fun _ => m163 F1 (t242_53 (k _ (EM.bef (WYM_K o) n1 z1 (EM.rfs F1 (WYM_M C w F o) w)))))
      · rw [he] at k
        have C1 := WYM_M C w F o
        have k := k _ (EM.bef (WYM_K o) n1 z1 (EM.rfs F1 C1 w))
        have v := xpl_v w1 he
        have k : Q (.inl (some (AI (shm (opx S.1 x) q L L.length 0)))) (uI (uI τ1 220 1 0) 220 2 (-1)) := by rw [← sho_m v L.length 0 (by omega) (fun p hp => by omega)]; exact k
        have hn := H.1
        have hl3 := H.2.1
        obtain ⟨s1, s2, s3, s4⟩ := s220 F1
        obtain ⟨p1, p2, p3⟩ := p220 F1
        have lp : ∀ s : Nat, s ≤ L.length → G d 242 65 [vR 220, none, vI (q : Int), vI (shm (opx S.1 x) q L (L.length - s) s), vI ((s : Int) - 1)] [] τ1 Q := by
          intro s
          induction s with
          | zero =>
            intro hs
            exact t242_65 (n5 := 1000) (n11 := 1000) (by omega) s1 p1 s2 (fun z => by omega) p2 s3 (fun z => by omega) (fun _ => m165 F1 (t242_121 k)) (fun z => by omega) (fun z => by omega) (fun z => by omega)
          | succ s ih =>
            intro hs
            have hx := v.2.1 s (by omega)
            have e1 : zand (zshr (tI τ1 233 s) (q : Int)) 1 = bi ((gx L s).testBit q) := by
              rw [H.2.2 s (by omega), ← congrArg (Nat.cast : Nat → Int) (enc_tx hx)]
              exact bit_enc _ (by omega)
            have e2 : zand (zshr (tI τ1 234 s) (q : Int)) 1 = bi (opx S.1 x (gx L s) q) := by rw [ho s (by omega)]; exact bit_n h20 hq
            have e3 : wr ((s : Int) + (-1)) = (s : Int) - 1 := by rw [wr_id (by unfold okI; omega)]; omega
            have eL : L.length - s = (L.length - (s + 1)) + 1 := by omega
            have es : ((s + 1 : Nat) : Int) - 1 = (s : Int) := by omega
            have ih := ih (by omega)
            rw [eL] at ih
            simp only [shm] at ih
            rw [es]
            clear es
            have nx : ¬ ((gx L s).testBit q = false ∧ opx S.1 x (gx L s) q = true) → G d 242 65 [vR 220, none, vI (q : Int), vI (shm (opx S.1 x) q L (L.length - (s + 1)) (s + 1)), vI (wr ((s : Int) + (-1)))] [] τ1 Q := fun z => by
              rw [if_neg z] at ih
              rw [e3]
              exact ih
            refine t242_65 (n5 := 1000) (n11 := 1000) (by omega) s1 p1 s2 (fun _ => by clear e1 e2 e3; omega) p2 s3 (fun _ _ => by clear e1 e2 e3; omega) (fun z => by clear e1 e2 e3; omega) (fun _ z => ?_) (fun _ y z => ?_) (fun _ y z => ?_)
            · rw [Int.toNat_natCast, e1] at z
              exact nx (fun y => z (by rw [y.1]; rfl))
            · rw [Int.toNat_natCast, e2] at z
              exact nx (fun y => z (by rw [y.2]; rfl))
            · rw [Int.toNat_natCast, e1] at y
              rw [Int.toNat_natCast, e2] at z
              rw [if_pos ⟨bi_0 y, bi_t.mp z⟩] at ih
              rw [Int.toNat_natCast, H.2.2 s (by clear e1 e2 e3 y z; omega), ← congrArg (Nat.cast : Nat → Int) (enc_tx hx)]
              refine m168 (t242_109 ?_)
              rw [e3]
              exact ih
        refine t242_44 (by omega) s1 (fun _ => ?_) (fun z => absurd z (by decide))
        have := lp L.length (Nat.le_refl _)
        rw [Nat.sub_self] at this
        rw [hn, wr_id (by unfold okI; omega)]
        exact this
  · rw [if_neg (by omega)] at k
    exact t242_13 (by omega) (s220 F).1 (fun z => absurd rfl z) (fun _ => m163 F (t242_21 (k _ (EM.rfs F C w))))
