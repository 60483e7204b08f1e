/-! states, shut, shortest, dead of the class -/
section WAZ
variable {d : Nat} {τ : T2} {Q : RS → T2 → Prop} {L : List Nat}
theorem c131 {x : Int} (k1 : 0 ≤ x → x ≤ 9999 → Q (.inl (some (AI 1))) τ) (k0 : ¬ (0 ≤ x ∧ x ≤ 9999) → Q (.inl (some (AI 0))) τ) : G d 131 0 [vR 64, vI x] [] τ Q := G_fg (lw2_f (vR 64) (lw2_k _ lw2_nil)) (t131_0 (fun c => k0 (by omega)) (fun _ c => k0 (by omega)) k1)
/-- what was explored stands -/
def WAY (τ : T2) (c : CO) (m : Int) (L : List Nat) : Prop := HTC τ L ∧ ∀ i, i < L.length → tI τ 86 i = ((enc (opx c m (gx L i)) (cn c 0) : Nat) : Int)
theorem WAY.oc {τ1 : T2} {c : CO} {m : Int} {P : Nat → Nat → Prop} (H : WAY τ c m L) (F : FX2 τ) (o : OC P τ τ1) (hp : ∀ a k, P a k → ¬ WYQ a k) : WAY τ1 c m L := by
  have N := F.1
  refine ⟨H.1.oc F o (fun a k z y => hp a k z (by unfold WYP at y; unfold WYQ; omega)), fun i hi => ?_⟩
  rw [(o.2.2.2 86 i (by omega) (fun z => hp _ _ z (by unfold WYQ; omega))).1]
  exact H.2 i hi
theorem c118 {S : HSx} {x : Int} (F : FX2 τ) (C : CI τ S) (w : WS S) (hd : 50 ≤ d) (k2 : ¬ (0 ≤ x ∧ x ≤ 9999) → ∀ τ1, EC τ τ1 (rfS S 2) → Q (.inl (some (AI (-1)))) τ1) (k0 : 0 ≤ x → x ≤ 9999 → xpl S.1 x = none → ∀ τ1, EC τ τ1 (rfS S 10) → Q (.inl (some (AI (-1)))) τ1) (k1 : 0 ≤ x → x ≤ 9999 → ∀ L τ1, xpl S.1 x = some L → EC τ τ1 (rfS S 0) → tN τ1 = tN τ → tZ τ1 = tZ τ → WAY τ1 S.1 x L → Q (.inl (some (AI (L.length : Int)))) τ1) : G d 118 0 [vR 64, vI x] [] τ Q := by
  have s0 : ∀ τ : T2, FX2 τ → tS τ 64 = (1, 11, 0) := fun τ F => F.sh rfl (by omega) (by omega)
  have w1 := w.1 S.1 (by simp)
  have R := C.1
  refine t118_0 (by omega) (s0 τ F) (c131 (fun h1 h2 => ?_) (fun h => ?_))
  · refine t118_5 (q3 := 84) (by omega) (s0 τ F) (F.p rfl) (s84 F).1 (fun _ => ?_) (fun z => absurd z (by decide))
    rw [F.p (show PTI 64 2 = some 66 from rfl), F.p (show PTI 64 4 = some 67 from rfl), R.1.1]
    have ci : ∀ τ1, OC WYQ τ τ1 → CI τ1 S := fun τ1 o => C.oc w F o (fun a k z => by unfold WYQ at z; unfold FC DC LGP; omega)
    have kp : ∀ τ1, OC WYQ τ τ1 → Kp 64 220 τ τ1 := fun τ1 o => o.kp (fun a k z => by unfold WYQ at z; omega)
    refine c83 F R w1 (by omega) (fun he τ1 o F1 n1 z1 => ?_) (fun L τ1 he o F1 n1 z1 H ho => ?_)
    · refine t118_34 (q3 := 84) (by omega) (s0 _ F1) (F1.p rfl) (s84 F1).1 (fun z => absurd rfl z) (fun _ => ?_)
      exact c126 F1 (t118_43 (k0 h1 h2 he _ (EC.bef (kp _ o) n1 z1 (EC.rfs F1 (ci _ o) w (by decide)))))
    · refine t118_34 (q3 := 84) (by omega) (s0 _ F1) (F1.p rfl) (s84 F1).1 (fun _ => ?_) (fun z => absurd z (by decide))
      have oo : OC (fun a k => a = 64 ∧ k = 16) τ1 (uI τ1 64 16 0) := OC.j (P := fun a k => a = 64 ∧ k = 16) OC.rf ⟨rfl, rfl⟩
      have W : WAY (uI τ1 64 16 0) S.1 x L := WAY.oc ⟨H, ho⟩ F1 oo (fun a k z => by unfold WYQ; omega)
      rw [W.1.1]
      exact k1 h1 h2 L _ he (EC.bef (kp _ o) n1 z1 (EC.rfs F1 (ci _ o) w (by decide))) n1 z1 W
  · refine t118_5 (q3 := 84) (by omega) (s0 τ F) (F.p rfl) (s84 F).1 (fun z => absurd rfl z) (fun _ => ?_)
    exact c126 F (t118_13 (k2 h _ (EC.rfs F C w (by decide))))
theorem c144 {S : HSx} {x : Int} (F : FX2 τ) (C : CI τ S) (w : WS S) (hd : 60 ≤ d) (k2 : ¬ (0 ≤ x ∧ x ≤ 9999) → ∀ τ1, EC τ τ1 (rfS S 2) → Q (.inl (some (AI (-1)))) τ1) (k9 : 0 ≤ x → x ≤ 9999 → lasR S.1 = -1 → ∀ τ1, EC τ τ1 (rfS S 9) → Q (.inl (some (AI (-1)))) τ1) (k0 : 0 ≤ x → x ≤ 9999 → lasR S.1 ≠ -1 → xpl S.1 x = none → ∀ τ1, EC τ τ1 (rfS S 10) → Q (.inl (some (AI (-1)))) τ1) (k1 : 0 ≤ x → x ≤ 9999 → lasR S.1 ≠ -1 → ∀ L τ1, xpl S.1 x = some L → EC τ τ1 (rfS S 0) → tN τ1 = tN τ → tZ τ1 = tZ τ → WAY τ1 S.1 x L → Q (.inl (some (AI (lasR S.1)))) τ1) : G d 144 0 [vR 64, vI x, none] [] τ Q := by
  have s0 : ∀ τ : T2, FX2 τ → tS τ 64 = (1, 11, 0) := fun τ F => F.sh rfl (by omega) (by omega)
  have w1 := w.1 S.1 (by simp)
  have R := C.1
  refine t144_0 (by omega) (s0 τ F) (c131 (fun h1 h2 => ?_) (fun h => ?_))
  · refine t144_5 (by omega) (s0 τ F) (fun _ => c134 F R w1 ?_) (fun z => absurd z (by decide))
    refine t144_18 (by omega) (s0 τ F) (fun hl => ?_) (fun hl => c126 F (t144_30 (k9 h1 h2 hl _ (EC.rfs F C w (by decide)))))
    refine c118 F C w (by omega) (fun h => absurd ⟨h1, h2⟩ h) (fun _ _ he τ1 E1 => t144_36 (fun z => absurd rfl z) (fun _ => k0 h1 h2 hl he τ1 E1)) (fun _ _ L τ1 he E1 n1 z1 W => ?_)
    exact t144_36 (fun _ => k1 h1 h2 hl L τ1 he E1 n1 z1 W) (fun z => absurd z (by omega))
  · exact t144_5 (by omega) (s0 τ F) (fun z => absurd rfl z) (fun _ => c126 F (t144_13 (k2 h _ (EC.rfs F C w (by decide)))))
theorem c90 {c : CO} {m : Int} (F : FX2 τ) (W : WAY τ c m L) (h : Q (.inl (some (AI (orx (opx c m) (cn c 0) L L.length)))) τ) : G d 90 0 [vR 84, none, none] [] τ Q := by
  obtain ⟨s1, s2, s3, s4, s5⟩ := s84 F
  obtain ⟨p1, p2, p3, p4⟩ := p84 F
  have hn := W.1.1
  have hl := W.1.2.1
  have lp : ∀ (j s : Nat), s + j = L.length → G d 90 4 [vR 84, vI (orx (opx c m) (cn c 0) L s), vI (s : Int)] [] τ Q := by
    intro j
    induction j with
    | zero =>
      intro s hs
      have e : s = L.length := by omega
      rw [e]
      exact t90_4 (n6 := 1000) s1 p2 s3 (fun z => by rw [hn] at z; omega) (fun _ => h) (fun z => by rw [hn] at z; omega) (fun z => by rw [hn] at z; omega)
    | succ j ih =>
      intro s hs
      refine t90_4 (n6 := 1000) s1 p2 s3 (fun _ _ => by omega) (fun z => by rw [hn] at z; omega) (fun _ z => by omega) (fun _ _ => ?_)
      rw [Int.toNat_natCast, W.2 s (by omega), wr_nat (by omega)]
      exact ih (s + 1) (by omega)
  exact t90_0 (lp L.length 0 (by omega))
theorem bit_n {p : Nat → Bool} {n q : Nat} (hn : n ≤ 20) (hq : q < n) : zand (zshr (enc p n : Int) (q : Int)) 1 = bi (p q) := by
  rw [enc_20 hn, bit_enc _ (show q < 20 by omega), decide_eq_true hq]
  rfl
theorem bi_t {b : Bool} : bi b = 1 ↔ b = true := by cases b <;> simp [bi]
theorem c89 {c : CO} {m : Int} (F : FX2 τ) (w : WF c) (W : WAY τ c m L) (v : XV (opx c m) (cn c 0) L.length L) {q : Nat} (hq : q < cn c 0) (hd : 1 ≤ d) (h : Q (.inl (some (AI (sho (opx c m) q L L.length 0)))) τ) : G d 89 0 [vR 84, vI (q : Int), none] [] τ Q := by
  obtain ⟨s1, s2, s3, s4, s5⟩ := s84 F
  obtain ⟨p1, p2, p3, p4⟩ := p84 F
  have hn := W.1.1
  have hl := W.1.2.1
  have h20 := w.1.1
  have lp : ∀ (j s : Nat), s + j = L.length → Q (.inl (some (AI (sho (opx c m) q L j s)))) τ → G d 89 2 [vR 84, vI (q : Int), vI (s : Int)] [] τ Q := by
    intro j
    induction j with
    | zero =>
      intro s hs hh
      exact t89_2 (n6 := 1000) (n12 := 1000) hd s1 p2 s3 (fun z => by rw [hn] at z; omega) p1 s2 (fun z => by rw [hn] at z; omega) (fun _ => hh) (fun z => by rw [hn] at z; omega) (fun z => by rw [hn] at z; omega) (fun z => by rw [hn] at z; omega)
    | succ j ih =>
      intro s hs hh
      have e1 : zand (zshr (tI τ 86 s) (q : Int)) 1 = bi (opx c m (gx L s) q) := by rw [W.2 s (by omega)]; exact bit_n h20 hq
      simp only [sho] at hh
      refine t89_2 (n6 := 1000) (n12 := 1000) hd s1 p2 s3 (fun _ _ => by omega) p1 s2 (fun _ _ _ => by omega) (fun z => by rw [hn] at z; omega) (fun _ z => by omega) (fun _ _ z => ?_) (fun _ _ z => ?_)
      · rw [Int.toNat_natCast, e1] at z
        rw [if_neg (fun y => z (bi_t.mpr y))] at hh
        rw [wr_nat (by omega)]
        exact ih (s + 1) (by omega) hh
      · rw [Int.toNat_natCast, e1] at z
        rw [if_pos (bi_t.mp z)] at hh
        have hx := v.2.1 s (by omega)
        rw [Int.toNat_natCast, W.1.2.2.1 s (by omega)]
        refine c246 hx (t89_40 ?_)
        have e2 : bcn (gx L s) = pc (gx L s) := by
          have := bcn_enc (fun i => (gx L s).testBit i)
          rw [enc_tx hx] at this
          exact this
        rw [e2]
        exact hh
  exact t89_0 (lp L.length 0 (by omega) h)
/-- states that lead on -/
def LDS (τ : T2) (c : CO) (m : Int) (q : Nat) (L : List Nat) (s : Nat) : Prop := ∀ i, s ≤ i → i < L.length → tI τ 87 i = bi (gd (opx c m) (cn c 0) q L (gx L i))
theorem c88 {c : CO} {m : Int} {q s : Nat} (F : FX2 τ) (w : WF c) (W : WAY τ c m L) (v : XV (opx c m) (cn c 0) L.length L) (hs : s < L.length) (D : LDS τ c m q L (s + 1)) (hd : 3 ≤ d) (h : Q (.inl (some (AI (bi (exb (fun r => mk0 (opx c m) (cn c 0) (gx L s) r && !((gx L s).testBit r) && gd (opx c m) (cn c 0) q L (gx L s ||| 2 ^ r)) 20))))) τ) : G d 88 0 [vR 84, vI (s : Int), none, none, none] [] τ Q := by
  obtain ⟨s1, s2, s3, s4, s5⟩ := s84 F
  obtain ⟨p1, p2, p3, p4⟩ := p84 F
  have hn := W.1.1
  have hl := W.1.2.1
  have h20 := w.1.1
  have hx := v.2.1 s hs
  have e85 := W.1.2.2.1 s hs
  refine t88_0 (n4 := 1000) (n9 := 1000) s1 p2 s3 (by omega) p1 s2 (by omega) ?_
  have ew : zand (tI τ 86 ((s : Int)).toNat) (zxor (tI τ 85 ((s : Int)).toNat) (-1)) = ((enc (fun i => mk0 (opx c m) (cn c 0) (gx L s) i && !((gx L s).testBit i)) 20 : Nat) : Int) := by
    rw [Int.toNat_natCast, W.2 s hs, e85, enc_20 h20]
    have := zan_2 (fun r => decide (r < cn c 0) && opx c m (gx L s) r) (fun i => (gx L s).testBit i)
    rw [enc_tx hx] at this
    exact this
  rw [ew]
  clear ew
  have lp : ∀ (j r : Nat), r + j = 20 → (∀ p, p < r → (mk0 (opx c m) (cn c 0) (gx L s) p && !((gx L s).testBit p) && gd (opx c m) (cn c 0) q L (gx L s ||| 2 ^ p)) = false) → G d 88 18 [vR 84, vI (s : Int), vI ((enc (fun i => mk0 (opx c m) (cn c 0) (gx L s) i && !((gx L s).testBit i)) 20 : Nat) : Int), vI (r : Int), none] [] τ Q := by
    intro j
    induction j with
    | zero =>
      intro r hr hp
      refine t88_18 (n6 := 1000) (by omega) s1 p1 s2 (fun z => by omega) (fun _ => ?_) (fun z => by omega) (fun z => by omega)
      have : exb (fun r => mk0 (opx c m) (cn c 0) (gx L s) r && !((gx L s).testBit r) && gd (opx c m) (cn c 0) q L (gx L s ||| 2 ^ r)) 20 = false := Bool.eq_false_iff.mpr (fun z => by
        obtain ⟨r2, h1, h2⟩ := (exb_i 20).mp z
        rw [hp r2 (by omega)] at h2
        cases h2)
      rw [this] at h
      exact h
    | succ j ih =>
      intro r hr hp
      have e1 := bit_enc (fun i => mk0 (opx c m) (cn c 0) (gx L s) i && !((gx L s).testBit i)) (show r < 20 by omega)
      have nx : (mk0 (opx c m) (cn c 0) (gx L s) r && !((gx L s).testBit r) && gd (opx c m) (cn c 0) q L (gx L s ||| 2 ^ r)) = false → G d 88 18 [vR 84, vI (s : Int), vI ((enc (fun i => mk0 (opx c m) (cn c 0) (gx L s) i && !((gx L s).testBit i)) 20 : Nat) : Int), vI (wr ((r : Int) + 1)), none] [] τ Q := fun z => by
        rw [wr_nat (by omega)]
        refine ih (r + 1) (by omega) (fun p h1 => ?_)
        by_cases e : p = r
        · rw [e]; exact z
        · exact hp p (by omega)
      refine t88_18 (n6 := 1000) (by omega) s1 p1 s2 (fun _ _ => by omega) (fun z => by omega) (fun _ z => ?_) (fun _ z => ?_)
      · rw [e1] at z
        have : (mk0 (opx c m) (cn c 0) (gx L s) r && !((gx L s).testBit r)) = false := Bool.eq_false_iff.mpr (fun y => z (bi_t.mpr y))
        exact nx (by rw [this]; rfl)
      · rw [e1] at z
        have hm := bi_t.mp z
        have hm2 := hm
        unfold mk0 at hm2
        rw [Bool.and_eq_true, Bool.and_eq_true, decide_eq_true_eq] at hm2
        obtain ⟨⟨hr1, hr2⟩, hr3⟩ := hm2
        have hb : (gx L s).testBit r = false := by
          cases hb : (gx L s).testBit r with
          | false => rfl
          | true => rw [hb] at hr3; cases hr3
        obtain ⟨i, i1, i2, i3⟩ := XV_to v h20 hs hr1 hr2 hb
        have hb30 : gx L s < 2147483648 := Nat.lt_trans hx (by decide)
        have h2r : 2 ^ r < 2147483648 := Nat.lt_of_le_of_lt (Nat.pow_le_pow_right (by decide) (show r ≤ 30 by omega)) (by decide)
        have ey : zor ((gx L s : Nat) : Int) (zshl 1 (r : Int)) = ((gx L s ||| 2 ^ r : Nat) : Int) := by rw [zshl1_nat (by omega), zor_nat hb30 h2r]
        rw [Int.toNat_natCast, e85, ey, p4]
        clear e1 z ey h2r
        refine c85 F W.1 (by omega) (fun j _ _ hm3 _ => absurd (gx_m.mpr ⟨i, i2, i3⟩) hm3) (fun k i4 hk hi4 hg hv => ?_)
        have ei : i4 = i := by
          rw [← i3] at hv
          by_cases e : i4 < i
          · exact absurd hv (v.2.2.1 i4 i e i2)
          · by_cases e2 : i < i4
            · exact absurd hv.symm (v.2.2.1 i i4 e2 hi4)
            · omega
        subst ei
        have ek : wr (tI τ 88 ((k : Int)).toNat - 1) = (i4 : Int) := by rw [Int.toNat_natCast, hg]; exact wr_m1 (by omega)
        have eg := D i4 (by omega) i2
        rw [i3] at eg
        refine t88_51 (s1 := 88) (n1 := 2048) (n9 := 1000) s5 (by clear ek; omega) s1 p3 s4 (fun _ _ => by rw [ek]; clear ek; omega) (fun z => absurd z (by rw [ek]; clear ek; omega)) (fun _ z => absurd z (by rw [ek]; clear ek; omega)) (fun _ _ z => ?_) (fun _ _ z => ?_)
        · rw [ek, Int.toNat_natCast, eg] at z
          exact nx (by rw [bi_0 z]; simp)
        · rw [ek, Int.toNat_natCast, eg] at z
          have : exb (fun r => mk0 (opx c m) (cn c 0) (gx L s) r && !((gx L s).testBit r) && gd (opx c m) (cn c 0) q L (gx L s ||| 2 ^ r)) 20 = true := (exb_i 20).mpr ⟨r, by clear ek; omega, by show (mk0 (opx c m) (cn c 0) (gx L s) r && !((gx L s).testBit r) && gd (opx c m) (cn c 0) q L (gx L s ||| 2 ^ r)) = true; rw [hm, bi_1 z]; rfl⟩
          rw [this] at h
          exact h
  exact lp 20 0 (by omega) (fun p hp => by omega)
theorem thr_b {op : Nat → Nat → Bool} {n q x : Nat} (hn : n ≤ 20) (hx : x < 2 ^ 20) (hq : q < 20) : zand (zshr (zor (enc (op x) n : Int) (x : Int)) (q : Int)) 1 = bi (thr op n q x) := by
  rw [enc_20 hn, ← congrArg (Nat.cast : Nat → Int) (enc_tx hx), zor_2, bit_enc _ hq]
  unfold thr mk0
  rw [Bool.or_comm]
theorem c87 {c : CO} {m : Int} {q : Nat} (F : FX2 τ) (w : WF c) (W : WAY τ c m L) (v : XV (opx c m) (cn c 0) L.length L) (hq : q < cn c 0) (hd : 20 ≤ d) (k : ∀ τ1, OC (fun a _ => a = 87) τ τ1 → FX2 τ1 → tN τ1 = tN τ → tZ τ1 = tZ τ → Q (.inl (some (AI (shu (gd (opx c m) (cn c 0) q L) L L.length 0)))) τ1) : G d 87 0 [vR 84, vI (q : Int), none, none, none] [] τ Q := by
  have hl := W.1.2.1
  have h20 := w.1.1
  refine t87_0 (by omega) (s84 F).1 ?_
  have e0 : wr ((if 1000 < tI τ 84 4 then 1000 else tI τ 84 4) - 1) = (L.length : Int) - 1 := by
    rw [W.1.1, if_neg (by omega), wr_id (by unfold okI; omega)]
  rw [e0]
  clear e0
  have lp : ∀ (s : Nat) (τ1 : T2), s ≤ L.length → OC (fun a _ => a = 87) τ τ1 → FX2 τ1 → tN τ1 = tN τ → tZ τ1 = tZ τ → LDS τ1 c m q L s → G d 87 16 [vR 84, vI (q : Int), vI (shu (gd (opx c m) (cn c 0) q L) L (L.length - s) s), vI ((s : Int) - 1), none] [] τ1 Q := by
    intro s
    induction s with
    | zero =>
      intro τ1 hs o F1 n1 z1 D
      obtain ⟨s1, s2, s3, s4, s5⟩ := s84 F1
      obtain ⟨p1, p2, p3, p4⟩ := p84 F1
      exact t87_16 (n5 := 1000) (n10 := 1000) (n17 := 1000) (by omega) s1 p2 s3 (fun z => by omega) p1 s2 (fun z => by omega) p3 s4 (fun z => by omega) (fun z => by omega) (fun _ => k τ1 o F1 n1 z1) (fun z => by omega) (fun z => by omega) (fun z => by omega) (fun z => by omega) (fun z => by omega) (fun z => by omega)
    | succ s ih =>
      intro τ1 hs o F1 n1 z1 D
      obtain ⟨s1, s2, s3, s4, s5⟩ := s84 F1
      obtain ⟨p1, p2, p3, p4⟩ := p84 F1
      have N1 := F1.1
      have W1 : WAY τ1 c m L := W.oc F o (fun a k z => by unfold WYQ; omega)
      have hx := v.2.1 s (by omega)
      have ge := gd_eq (q := q) v h20 (show s < L.length by omega)
      have es : ((s + 1 : Nat) : Int) - 1 = (s : Int) := by omega
      rw [es]
      have et : (zand (zshr (zor (tI τ1 86 ((s : Int)).toNat) (tI τ1 85 ((s : Int)).toNat)) (q : Int)) 1) = bi (thr (opx c m) (cn c 0) q (gx L s)) := by
        rw [Int.toNat_natCast, W1.2 s (by omega), W1.1.2.2.1 s (by omega)]
        exact thr_b h20 hx (by omega)
      have e2 : wr ((s : Int) + (-1)) = (s : Int) - 1 := by rw [wr_id (by unfold okI; omega)]; omega
      have eL : L.length - s = (L.length - (s + 1)) + 1 := by omega
      -- the state's own place is written
      have nx : ∀ (x : Int) (b : Bool) (y : Int), gd (opx c m) (cn c 0) q L (gx L s) = b → x = bi b → y = shu (gd (opx c m) (cn c 0) q L) L (L.length - s) s → G d 87 16 [vR 84, vI (q : Int), vI y, vI (wr ((s : Int) + (-1))), none] [] (uI τ1 87 s x) Q := fun x b y hb hx2 hy => by
        rw [e2, hy]
        refine ih _ (by omega) o.ad F1.j n1 z1 (fun i h1 h2 => ?_)
        rw [tI_uI]
        by_cases e : i = s
        · rw [if_pos ⟨rfl, e⟩, e, hb, hx2]
        · rw [if_neg (fun z => e z.2)]
          exact D i (by omega) h2
      have own : ∀ x : Int, tI (uI τ1 87 s x) 87 s = x := fun x => by rw [tI_uI, if_pos ⟨rfl, rfl⟩]
      have o85 : ∀ x : Int, tI (uI τ1 87 s x) 85 s = ((gx L s : Nat) : Int) := fun x => by rw [tI_uI, if_neg (by omega)]; exact W1.1.2.2.1 s (by omega)
      have sy : gd (opx c m) (cn c 0) q L (gx L s) = true → shu (gd (opx c m) (cn c 0) q L) L (L.length - (s + 1)) (s + 1) = shu (gd (opx c m) (cn c 0) q L) L (L.length - s) s := fun hb => by
        rw [eL]
        simp only [shu]
        rw [if_pos hb]
      have sn : gd (opx c m) (cn c 0) q L (gx L s) = false → ((gx L s : Nat) : Int) = shu (gd (opx c m) (cn c 0) q L) L (L.length - s) s := fun hb => by
        rw [eL]
        simp only [shu]
        rw [if_neg (by rw [hb]; decide)]
      refine t87_16 (n5 := 1000) (n10 := 1000) (n17 := 1000) (by omega) s1 p2 s3 (fun _ => by omega) p1 s2 (fun _ => by omega) p3 s4 (fun _ _ z => absurd rfl z) (fun _ _ _ => by clear et e2; omega) (fun z => by clear et e2; omega) (fun _ _ z => absurd rfl z) (fun _ _ z => absurd rfl z) (fun _ z _ => ?_) (fun _ z _ _ => ?_) (fun _ _ _ z => ?_) (fun _ _ z => absurd z (by decide))
      · rw [et] at z
        clear et
        have ht : thr (opx c m) (cn c 0) q (gx L s) = false := Bool.eq_false_iff.mpr (fun y => z (bi_t.mpr y))
        rw [ht, Bool.false_or] at ge
        refine c88 F1 w W1 v (by omega) D (by omega) ?_
        rw [← ge]
        have y01 := bi_01 (gd (opx c m) (cn c 0) q L (gx L s))
        refine t87_63 (s2 := 87) (n2 := 1000) (n8 := 1000) (n14 := 1000) s4 (fun _ => by clear e2; omega) s1 p3 s4 (fun _ => by clear e2; omega) p1 s2 (fun _ _ => by clear e2; omega) (fun _ => by clear e2; omega) (fun _ => by clear e2; omega) (fun _ _ => by clear e2; omega) (fun y z => ?_) (fun y z => ?_) (fun y z => ?_) (fun y z => ?_)
        · rw [Int.toNat_natCast, own] at z
          exact absurd rfl z
        · rw [Int.toNat_natCast, o85]
          have hb := bi_0 y
          exact nx 0 false _ hb rfl (sn hb)
        · rw [Int.toNat_natCast]
          have hb := bi_1 y
          exact nx 1 true _ hb rfl (sy hb)
        · rw [Int.toNat_natCast, own] at z
          exact absurd z (by decide)
      · rw [et] at z
        have ht := bi_t.mp z
        rw [ht, Bool.true_or] at ge
        rw [Int.toNat_natCast]
        exact nx 1 true _ ge rfl (sy ge)
      · rw [Int.toNat_natCast, own] at z
        exact absurd z (by decide)
  have := lp L.length τ (Nat.le_refl _) OC.rf F rfl rfl (fun i h1 h2 => by omega)
  rw [Nat.sub_self] at this
  exact this
end WAZ
theorem las_n {c : CO} (h : lasR c ≠ -1) : ∃ r, r < cn c 0 ∧ lasR c = (r : Int) := by
  rcases las_c c with e | e
  · exact absurd e h
  · exact e
theorem cc118 {x : Int} : CCl 118 [vR 64, vI x] (sp_states x) := fun d τ S Q hd F C w k => by
  unfold sp_states at k
  refine c118 F C w (by omega) (fun h τ1 E1 => ?_) (fun h1 h2 he τ1 E1 => ?_) (fun h1 h2 L τ1 he E1 _ _ _ => ?_)
  · rw [if_neg h] at k; exact k τ1 E1
  · rw [if_pos ⟨h1, h2⟩, he] at k; exact k τ1 E1
  · rw [if_pos ⟨h1, h2⟩, he] at k; exact k τ1 E1
theorem cc121 {x : Int} : CCl 121 [vR 64, vI x] (sp_dead x) := fun d τ S Q hd F C w k => by
  have s0 : ∀ τ : T2, FX2 τ → tS τ 64 = (1, 11, 0) := fun τ F => F.sh rfl (by omega) (by omega)
  unfold sp_dead at k
  refine t121_0 (by omega) (s0 τ F) (c118 F C w (by omega) (fun h τ1 E1 => ?_) (fun h1 h2 he τ1 E1 => ?_) (fun h1 h2 L τ1 he E1 n1 z1 W => ?_))
  · rw [if_neg h] at k
    exact t121_5 (q3 := 84) (by omega) (s0 _ E1.2.1) (E1.2.1.p rfl) (s84 E1.2.1).1 (fun z => absurd rfl z) (fun _ => k τ1 E1)
  · rw [if_pos ⟨h1, h2⟩, he] at k
    exact t121_5 (q3 := 84) (by omega) (s0 _ E1.2.1) (E1.2.1.p rfl) (s84 E1.2.1).1 (fun z => absurd rfl z) (fun _ => k τ1 E1)
  · rw [if_pos ⟨h1, h2⟩, he] at k
    refine t121_5 (q3 := 84) (by omega) (s0 _ E1.2.1) (E1.2.1.p rfl) (s84 E1.2.1).1 (fun _ => ?_) (fun z => absurd z (by omega))
    refine c90 E1.2.1 W (t121_26 ?_)
    have R1 : RC τ1 S.1 := E1.2.2.2.2.1
    rw [R1.1.1]
    exact k τ1 E1
theorem cc120 {x : Int} : CCl 120 [vR 64, vI x, none] (sp_shortest x) := fun d τ S Q hd F C w k => by
  have s0 : ∀ τ : T2, FX2 τ → tS τ 64 = (1, 11, 0) := fun τ F => F.sh rfl (by omega) (by omega)
  have w1 := w.1 S.1 (by simp)
  unfold sp_shortest at k
  refine t120_0 (by omega) (s0 τ F) (c144 F C w (by omega) (fun h τ1 E1 => ?_) (fun h1 h2 hl τ1 E1 => ?_) (fun h1 h2 hl he τ1 E1 => ?_) (fun h1 h2 hl L τ1 he E1 n1 z1 W => ?_))
  · rw [if_neg h] at k
    exact t120_5 (q3 := 84) (by omega) (s0 _ E1.2.1) (E1.2.1.p rfl) (s84 E1.2.1).1 (fun z => absurd rfl z) (fun _ => k τ1 E1)
  · rw [if_pos ⟨h1, h2⟩, if_pos hl] at k
    exact t120_5 (q3 := 84) (by omega) (s0 _ E1.2.1) (E1.2.1.p rfl) (s84 E1.2.1).1 (fun z => absurd rfl z) (fun _ => k τ1 E1)
  · rw [if_pos ⟨h1, h2⟩, if_neg hl, he] at k
    exact t120_5 (q3 := 84) (by omega) (s0 _ E1.2.1) (E1.2.1.p rfl) (s84 E1.2.1).1 (fun z => absurd rfl z) (fun _ => k τ1 E1)
  · rw [if_pos ⟨h1, h2⟩, if_neg hl, he] at k
    obtain ⟨r, hr, er⟩ := las_n hl
    rw [er, Int.toNat_natCast] at k
    rw [er]
    refine t120_5 (q3 := 84) (by omega) (s0 _ E1.2.1) (E1.2.1.p rfl) (s84 E1.2.1).1 (fun _ => ?_) (fun z => absurd z (by omega))
    exact c89 E1.2.1 w1 W (xpl_v w1 he) hr (by omega) (t120_23 (k τ1 E1))
theorem cc119 {x : Int} : CCl 119 [vR 64, vI x, none] (sp_shut x) := fun d τ S Q hd F C w k => by
  have s0 : ∀ τ : T2, FX2 τ → tS τ 64 = (1, 11, 0) := fun τ F => F.sh rfl (by omega) (by omega)
  have w1 := w.1 S.1 (by simp)
  unfold sp_shut at k
  refine t119_0 (by omega) (s0 τ F) (c144 F C w (by omega) (fun h τ1 E1 => ?_) (fun h1 h2 hl τ1 E1 => ?_) (fun h1 h2 hl he τ1 E1 => ?_) (fun h1 h2 hl L τ1 he E1 n1 z1 W => ?_))
  · rw [if_neg h] at k
    exact t119_5 (q3 := 84) (by omega) (s0 _ E1.2.1) (E1.2.1.p rfl) (s84 E1.2.1).1 (fun z => absurd rfl z) (fun _ => k τ1 E1)
  · rw [if_pos ⟨h1, h2⟩, if_pos hl] at k
    exact t119_5 (q3 := 84) (by omega) (s0 _ E1.2.1) (E1.2.1.p rfl) (s84 E1.2.1).1 (fun z => absurd rfl z) (fun _ => k τ1 E1)
  · rw [if_pos ⟨h1, h2⟩, if_neg hl, he] at k
    exact t119_5 (q3 := 84) (by omega) (s0 _ E1.2.1) (E1.2.1.p rfl) (s84 E1.2.1).1 (fun z => absurd rfl z) (fun _ => k τ1 E1)
  · rw [if_pos ⟨h1, h2⟩, if_neg hl, he] at k
    obtain ⟨r, hr, er⟩ := las_n hl
    rw [er, Int.toNat_natCast] at k
    rw [er]
    refine t119_5 (q3 := 84) (by omega) (s0 _ E1.2.1) (E1.2.1.p rfl) (s84 E1.2.1).1 (fun _ => ?_) (fun z => absurd z (by omega))
    refine c87 E1.2.1 w1 W (xpl_v w1 he) hr (by omega) (fun τ2 o F2 n2 z2 => t119_23 (k τ2 ?_))
    have C2 : CI τ2 (rfS S 0) := E1.2.2.2.2.oc (w.rfs 0) E1.2.1 o (fun a k z => by unfold FC DC LGP; omega)
    exact ⟨E1.1.tr (o.kp (fun a k z => by omega)), F2, by omega, by omega, C2⟩
