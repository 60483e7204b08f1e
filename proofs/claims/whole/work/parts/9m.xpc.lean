/-! STATES of the class -/
theorem zush21 (y : Int) : 0 ≤ zush y 21 ∧ zush y 21 < 2048 := by
  have h2 : ((i3 21).toUInt32 &&& Int32.toUInt32 31).toNat = 21 := by decide +kernel
  have h3 : ((i3 y).toUInt32 >>> ((i3 21).toUInt32 &&& Int32.toUInt32 31)).toNat < 2048 := by
    rw [UInt32.toNat_shiftRight, h2, Nat.shiftRight_eq_div_pow, show (2 : Nat) ^ (21 % 32) = 2097152 by decide]
    have := (i3 y).toUInt32.toNat_lt
    omega
  have h5 : ((i3 y).toUInt32 >>> ((i3 21).toUInt32 &&& Int32.toUInt32 31)).toBitVec = BitVec.ofNat 32 ((i3 y).toUInt32 >>> ((i3 21).toUInt32 &&& Int32.toUInt32 31)).toNat := by
    apply BitVec.eq_of_toNat_eq
    rw [BitVec.toNat_ofNat]
    show ((i3 y).toUInt32 >>> ((i3 21).toUInt32 &&& Int32.toUInt32 31)).toNat = _
    rw [Nat.mod_eq_of_lt (by omega)]
  have h6 : zush y 21 = ((((i3 y).toUInt32 >>> ((i3 21).toUInt32 &&& Int32.toUInt32 31)).toNat : Nat) : Int) := by
    show (((i3 y).toUInt32 >>> ((i3 21).toUInt32 &&& Int32.toUInt32 31)).toBitVec).toInt = _
    rw [h5, bv_int (by omega)]
  rw [h6]
  omega
/-- where a state is looked for first -/
def hsh (x : Nat) : Nat := (zush (wr ((x : Int) * (-1640531535))) 21).toNat
theorem hsh_b (x : Nat) : zush (wr ((x : Int) * (-1640531535))) 21 = ((hsh x : Nat) : Int) ∧ hsh x < 2048 := by
  have := zush21 (wr ((x : Int) * (-1640531535)))
  unfold hsh
  generalize zush (wr ((x : Int) * (-1640531535))) 21 = z at *
  omega
def HTS (g : Nat → Int) (L : List Nat) : Prop := (∀ k, k < 2048 → g k = 0 ∨ ∃ i, i < L.length ∧ g k = ((i + 1 : Nat) : Int)) ∧ cnt (fun k => decide (g k ≠ 0)) 2048 = L.length ∧ ∀ i, i < L.length → ∃ j, j < 2048 ∧ g ((hsh (gx L i) + j) % 2048) = ((i + 1 : Nat) : Int) ∧ ∀ p, p < j → g ((hsh (gx L i) + p) % 2048) ≠ 0
def HTC (τ : T2) (L : List Nat) : Prop := tI τ 84 4 = (L.length : Int) ∧ L.length ≤ 1000 ∧ (∀ i, i < L.length → tI τ 85 i = ((gx L i : Nat) : Int)) ∧ HTS (tI τ 88) L
def WYP (a k : Nat) : Prop := (a = 84 ∧ k = 4) ∨ a = 85 ∨ a = 88
def WYQ (a k : Nat) : Prop := (a = 84 ∧ k = 4) ∨ a = 85 ∨ a = 86 ∨ a = 88
theorem HTC.oc {τ τ1 : T2} {L : List Nat} {P : Nat → Nat → Prop} (H : HTC τ L) (F : FX2 τ) (o : OC P τ τ1) (hp : ∀ a k, P a k → ¬ WYP a k) : HTC τ1 L := by
  have N := F.1
  obtain ⟨h1, h2, h3, h4⟩ := H
  have e : tI τ1 88 = tI τ 88 := funext fun k => (o.2.2.2 88 k (by omega) (fun z => hp _ _ z (by unfold WYP; omega))).1
  refine ⟨?_, h2, fun i hi => ?_, by rw [e]; exact h4⟩
  · rw [(o.2.2.2 84 4 (by omega) (fun z => hp _ _ z (by unfold WYP; omega))).1]; exact h1
  · rw [(o.2.2.2 85 i (by omega) (fun z => hp _ _ z (by unfold WYP; omega))).1]; exact h3 i hi
theorem cnt_all {p : Nat → Bool} : ∀ n, (∀ k, k < n → p k = true) → cnt p n = n
  | 0, _ => rfl
  | n + 1, h => by rw [cnt_t (h n (by omega)), cnt_all n (fun k hk => h k (by omega))]
theorem cnt_one {p q : Nat → Bool} {k : Nat} (hq : q k = true) (hp : p k = false) (hn : ∀ i, i ≠ k → q i = p i) {n : Nat} (hk : k < n) : cnt q n = cnt p n + 1 := by
  rw [((enc_del q k hq n).2 hk).2]
  congr 1
  apply cnt_cg
  intro i _
  by_cases e : i = k
  · rw [e, del_at, hp]
  · rw [del_ne _ e, hn i e]
theorem HTS_ap {g g1 : Nat → Int} {L : List Nat} {y j : Nat} (h : HTS g L) (hj : j < 2048) (h0 : g ((hsh y + j) % 2048) = 0) (hp : ∀ p, p < j → g ((hsh y + p) % 2048) ≠ 0) (hg : ∀ k, g1 k = if k = (hsh y + j) % 2048 then ((L.length + 1 : Nat) : Int) else g k) : HTS g1 (L ++ [y]) := by
  obtain ⟨a, b, c⟩ := h
  have hk : (hsh y + j) % 2048 < 2048 := Nat.mod_lt _ (by decide)
  generalize hK : (hsh y + j) % 2048 = K at *
  have gK : g1 K = ((L.length + 1 : Nat) : Int) := by rw [hg, if_pos rfl]
  have gN : ∀ k, k ≠ K → g1 k = g k := fun k e => by rw [hg, if_neg e]
  have nz : ∀ k, g k ≠ 0 → g1 k = g k := fun k e => gN k (fun z => e (by rw [z]; exact h0))
  refine ⟨fun k hk2 => ?_, ?_, fun i hi => ?_⟩
  · by_cases e : k = K
    · rw [e, gK]
      exact Or.inr ⟨L.length, by rw [gx_len]; omega, rfl⟩
    · rw [gN k e]
      rcases a k hk2 with h | ⟨i, h1, h2⟩
      · exact Or.inl h
      · exact Or.inr ⟨i, by rw [gx_len]; omega, h2⟩
  · rw [gx_len, ← b]
    refine cnt_one (k := K) (decide_eq_true (by rw [gK]; omega)) (decide_eq_false (fun z => z h0)) (fun i e => ?_) hk
    show decide (g1 i ≠ 0) = decide (g i ≠ 0)
    rw [gN i e]
  · rw [gx_len] at hi
    by_cases e : i < L.length
    · obtain ⟨q, q1, q2, q3⟩ := c i e
      rw [gx_l e]
      refine ⟨q, q1, ?_, fun p h1 => ?_⟩
      · rw [nz _ (by rw [q2]; omega)]; exact q2
      · rw [nz _ (q3 p h1)]; exact q3 p h1
    · have ei : i = L.length := by omega
      subst ei
      rw [gx_r]
      refine ⟨j, hj, by rw [hK]; exact gK, fun p h1 => ?_⟩
      rw [nz _ (hp p h1)]; exact hp p h1
section WAY
variable {d : Nat} {τ : T2} {Q : RS → T2 → Prop} {L : List Nat}
theorem s84 (F : FX2 τ) : tS τ 84 = (1, 10, 0) ∧ tS τ 85 = (2, 0, 1000) ∧ tS τ 86 = (2, 0, 1000) ∧ tS τ 87 = (2, 2, 1000) ∧ tS τ 88 = (2, 0, 2048) := ⟨F.sh rfl (by omega) (by omega), F.sh rfl (by omega) (by omega), F.sh rfl (by omega) (by omega), F.sh rfl (by omega) (by omega), F.sh rfl (by omega) (by omega)⟩
theorem p84 (F : FX2 τ) : tP τ 84 0 = some 85 ∧ tP τ 84 1 = some 86 ∧ tP τ 84 2 = some 87 ∧ tP τ 84 3 = some 88 := ⟨F.p rfl, F.p rfl, F.p rfl, F.p rfl⟩
theorem wr_m1 {i : Nat} (h : i ≤ 2000) : wr (((i + 1 : Nat) : Int) - 1) = (i : Int) := by
  rw [wr_id (by unfold okI; omega)]
  omega
theorem wr_z1 : wr ((0 : Int) - 1) = -1 := by decide
theorem c86 (F : FX2 τ) (H : HTC τ L) {k x : Nat} (hk : k < 2048) (h0 : tI τ 88 k = 0 → Q (.inl (some (AI 0))) τ) (h1 : ∀ i, i < L.length → tI τ 88 k = ((i + 1 : Nat) : Int) → gx L i = x → Q (.inl (some (AI 0))) τ) (h2 : ∀ i, i < L.length → tI τ 88 k = ((i + 1 : Nat) : Int) → gx L i ≠ x → Q (.inl (some (AI 1))) τ) : G d 86 0 [vR 84, vI (k : Int), vI (x : Int), none] [] τ Q := by
  obtain ⟨s1, s2, s3, s4, s5⟩ := s84 F
  obtain ⟨p1, p2, p3, p4⟩ := p84 F
  obtain ⟨-, hl, hv, hs, -⟩ := H
  rcases hs k hk with e | ⟨i, hi, e⟩
  · have e1 : wr (tI τ 88 ((k : Int)).toNat - 1) = -1 := by rw [Int.toNat_natCast, e]; exact wr_z1
    exact t86_0 (n4 := 2048) (n11 := 1000) s1 p4 s5 (by omega) p1 s2 (fun c => absurd c (by rw [e1]; decide)) (fun _ => h0 e) (fun c => absurd c (by rw [e1]; decide)) (fun c => absurd c (by rw [e1]; decide)) (fun c => absurd c (by rw [e1]; decide))
  · have e1 : wr (tI τ 88 ((k : Int)).toNat - 1) = (i : Int) := by rw [Int.toNat_natCast, e]; exact wr_m1 (by omega)
    refine t86_0 (n4 := 2048) (n11 := 1000) s1 p4 s5 (by omega) p1 s2 (fun _ _ => by rw [e1]; clear e1; omega) (fun c => absurd c (by rw [e1]; clear e1; omega)) (fun _ c => absurd c (by rw [e1]; clear e1; omega)) (fun _ _ c => ?_) (fun _ _ c => ?_)
    · rw [e1, Int.toNat_natCast, hv i hi] at c
      exact h1 i hi e (by clear e1; omega)
    · rw [e1, Int.toNat_natCast, hv i hi] at c
      exact h2 i hi e (by clear e1; omega)
theorem c85 (F : FX2 τ) (H : HTC τ L) {x : Nat} (hd : 1 ≤ d) (k1 : ∀ j, j < 2048 → tI τ 88 ((hsh x + j) % 2048) = 0 → x ∉ L → (∀ p, p < j → tI τ 88 ((hsh x + p) % 2048) ≠ 0) → Q (.inl (some (AI (((hsh x + j) % 2048 : Nat) : Int)))) τ) (k2 : ∀ k i, k < 2048 → i < L.length → tI τ 88 k = ((i + 1 : Nat) : Int) → gx L i = x → Q (.inl (some (AI (k : Int)))) τ) : G d 85 0 [vR 84, vI (x : Int), none, none] [] τ Q := by
  obtain ⟨s1, -⟩ := s84 F
  obtain ⟨e0, hb⟩ := hsh_b x
  obtain ⟨-, hl, -, hA, hC, hP⟩ := id H
  have lp : ∀ (l j : Nat), j + l = 2048 → (∀ p, p < j → ∃ i, i < L.length ∧ tI τ 88 ((hsh x + p) % 2048) = ((i + 1 : Nat) : Int) ∧ gx L i ≠ x) → G d 85 12 [vR 84, vI (x : Int), vI (((hsh x + j) % 2048 : Nat) : Int), vI (l : Int)] [] τ Q := by
    intro l
    induction l with
    | zero =>
      intro j hj hp
      exfalso
      have : cnt (fun k => decide (tI τ 88 k ≠ 0)) 2048 = 2048 := cnt_all 2048 (fun k hk => by
        obtain ⟨i, h1, h2, h3⟩ := hp ((k + 2048 - hsh x) % 2048) (by omega)
        rw [show (hsh x + (k + 2048 - hsh x) % 2048) % 2048 = k by omega] at h2
        exact decide_eq_true (by rw [h2]; omega))
      omega
    | succ l ih =>
      intro j hj hp
      have hk : (hsh x + j) % 2048 < 2048 := Nat.mod_lt _ (by decide)
      refine t85_12 (by omega) s1 (fun c => by omega) (fun _ => ?_)
      refine c86 F H hk (fun h => ?_) (fun i hi h1 h2 => ?_) (fun i hi h1 h2 => ?_)
      · refine t85_22 (fun _ => k1 j (by omega) h (fun z => ?_) (fun p h1 => ?_)) (fun c => absurd rfl c)
        · obtain ⟨i, h1, h2⟩ := gx_m.mp z
          obtain ⟨q, q1, q2, q3⟩ := hP i h1
          rw [h2] at q2 q3
          by_cases e : q < j
          · obtain ⟨i2, x1, x2, x3⟩ := hp q e
            rw [q2] at x2
            have : i2 = i := by omega
            rw [this] at x3
            exact x3 h2
          · by_cases e2 : q = j
            · rw [e2, h] at q2; omega
            · exact q3 j (by omega) h
        · obtain ⟨i2, x1, x2, x3⟩ := hp p h1
          rw [x2]; omega
      · exact t85_22 (fun _ => k2 _ i hk hi h1 h2) (fun c => absurd rfl c)
      · refine t85_22 (fun c => absurd c (by decide)) (fun _ => ?_)
        have e1 : zand (wr ((((hsh x + j) % 2048 : Nat) : Int) + 1)) 2047 = (((hsh x + (j + 1)) % 2048 : Nat) : Int) := by
          rw [wr_nat (by omega)]
          have := zand_nat (x := (hsh x + j) % 2048 + 1) (y := 2047) (by omega) (by decide)
          have h31 : ((hsh x + j) % 2048 + 1) &&& 2047 = ((hsh x + j) % 2048 + 1) % 2048 := Nat.and_two_pow_sub_one_eq_mod _ 11
          have this : zand (((hsh x + j) % 2048 + 1 : Nat) : Int) 2047 = ((((hsh x + j) % 2048 + 1) &&& 2047 : Nat) : Int) := this
          rw [this, h31]
          congr 1
          clear this h31
          omega
        have e2 : wr (((l + 1 : Nat) : Int) + (-1)) = (l : Int) := by
          rw [wr_id (by unfold okI; omega)]; omega
        rw [e1, e2]
        clear e1 e2
        refine ih (j + 1) (by omega) (fun p h3 => ?_)
        by_cases e : p = j
        · rw [e]; exact ⟨i, hi, h1, h2⟩
        · exact hp p (by omega)
  refine t85_0 ?_
  rw [e0]
  have := lp 2048 0 (by omega) (fun p hp => by omega)
  rw [Nat.add_zero, Nat.mod_eq_of_lt hb] at this
  exact this
theorem c84 (F : FX2 τ) (H : HTC τ L) {y : Nat} (hd : 2 ≤ d) (k1 : y ∈ L → Q (.inl (some (AI 1))) τ) (k2 : y ∉ L → L.length < 1000 → ∀ τ1, OC WYP τ τ1 → FX2 τ1 → tN τ1 = tN τ → tZ τ1 = tZ τ → HTC τ1 (L ++ [y]) → Q (.inl (some (AI 1))) τ1) (k3 : y ∉ L → ¬ L.length < 1000 → Q (.inl (some (AI 0))) τ) : G d 84 0 [vR 84, vI (y : Int), none] [] τ Q := by
  obtain ⟨s1, s2, s3, s4, s5⟩ := s84 F
  obtain ⟨p1, p2, p3, p4⟩ := p84 F
  obtain ⟨hn, hl, hv, hT⟩ := id H
  refine t84_0 (by omega) s1 (c85 F H (by omega) (fun j hj h0 hm hp => ?_) (fun k i hk hi h1 h2 => ?_))
  · have hK : (hsh y + j) % 2048 < 2048 := Nat.mod_lt _ (by decide)
    generalize hk : (hsh y + j) % 2048 = K at *
    have e0 : tI τ 88 ((K : Int)).toNat = 0 := by rw [Int.toNat_natCast]; exact h0
    refine t84_5 (n4 := 2048) (n11 := 1000) s1 p4 s5 (by omega) p1 s2 (fun _ c => by rw [hn] at c ⊢; omega) (fun _ c => ?_) (fun _ c => k3 hm (by rw [hn] at c; omega)) (fun c => absurd e0 c)
    rw [hn] at c
    have eL : (tI τ 84 4).toNat = L.length := by rw [hn]; exact Int.toNat_natCast _
    have g1 : tI (uI τ 85 L.length (y : Int)) 84 4 = (L.length : Int) := by rw [tI_uI, if_neg (by omega)]; exact hn
    have g2 : tI (uI (uI τ 85 L.length (y : Int)) 84 4 ((L.length + 1 : Nat) : Int)) 84 4 = ((L.length + 1 : Nat) : Int) := by rw [tI_uI, if_pos ⟨rfl, rfl⟩]
    rw [eL, g1, wr_nat (by omega), g2, Int.toNat_natCast]
    have o : OC WYP τ (uI (uI (uI τ 85 L.length (y : Int)) 84 4 ((L.length + 1 : Nat) : Int)) 88 K ((L.length + 1 : Nat) : Int)) := ((OC.rf.j (by unfold WYP; omega)).j (by unfold WYP; omega)).j (by unfold WYP; omega)
    refine k2 hm (by omega) _ o F.j.j.j rfl rfl ⟨?_, by rw [gx_len]; omega, fun i hi => ?_, ?_⟩
    · rw [tI_uI, if_neg (by omega), g2, gx_len]
    · rw [gx_len] at hi
      rw [tI_uI, if_neg (by omega), tI_uI, if_neg (by omega), tI_uI]
      by_cases e : i = L.length
      · rw [if_pos ⟨rfl, e⟩, e, gx_r]
      · rw [if_neg (fun z => e z.2), hv i (by omega), gx_l (by omega)]
    · refine HTS_ap hT hj (by rw [hk]; exact h0) hp (fun k => ?_)
      rw [hk, tI_uI]
      by_cases e : k = K
      · rw [if_pos ⟨rfl, e⟩, if_pos e]
      · rw [if_neg (fun z => e z.2), if_neg e, tI_uI, if_neg (by omega), tI_uI, if_neg (by omega)]
  · have e0 : ¬ tI τ 88 ((k : Int)).toNat = 0 := by rw [Int.toNat_natCast, h1]; omega
    exact t84_5 (n4 := 2048) (n11 := 1000) s1 p4 s5 (by omega) p1 s2 (fun c => absurd c e0) (fun c => absurd c e0) (fun c => absurd c e0) (fun _ => k1 (gx_m.mpr ⟨i, hi, h2⟩))
end WAY
theorem WYQ_D {a k : Nat} (h : WYQ a k) : ¬ DC a k ∧ a < 473 := by
  unfold WYQ at h
  unfold DC
  omega
/-- explore -/
theorem c83 {d : Nat} {τ : T2} {Q : RS → T2 → Prop} {c : CO} {m : Int} (F : FX2 τ) (R : RC τ c) (w : WF c) (hd : 40 ≤ d) (k0 : xpl c m = none → ∀ τ1, OC WYQ τ τ1 → FX2 τ1 → tN τ1 = tN τ → tZ τ1 = tZ τ → Q (.inl (some (AI 0))) τ1) (k1 : ∀ L τ1, xpl c m = some L → OC WYQ τ τ1 → FX2 τ1 → tN τ1 = tN τ → tZ τ1 = tZ τ → HTC τ1 L → (∀ i, i < L.length → tI τ1 86 i = ((enc (opx c m (gx L i)) (cn c 0) : Nat) : Int)) → Q (.inl (some (AI 1))) τ1) : G d 83 0 [vR 84, vR 66, vI (cn c 0 : Int), vR 67, vI m, none, none] [] τ Q := by
  have h20 := w.1.1
  have wq : ∀ a k, WYP a k → WYQ a k := fun a k h => by unfold WYP at h; unfold WYQ; omega
  have fin : ∀ (s : Nat) (L : List Nat) (τ1 : T2), L.length ≤ s → exS (opx c m) (cn c 0) 0 s L = xpl c m → OC WYQ τ τ1 → FX2 τ1 → tN τ1 = tN τ → tZ τ1 = tZ τ → HTC τ1 L → (∀ i, i < s → i < L.length → tI τ1 86 i = ((enc (opx c m (gx L i)) (cn c 0) : Nat) : Int)) → Q (.inl (some (AI 1))) τ1 := fun s L τ1 hs he o F1 n1 z1 H ho => k1 L τ1 he.symm o F1 n1 z1 H (fun i hi => ho i (by omega) hi)
  have lpS : ∀ (j s : Nat) (L : List Nat) (τ1 : T2), 1000 < s + j → s ≤ L.length → (∀ i, i < L.length → gx L i < 2 ^ 20) → exS (opx c m) (cn c 0) j s L = xpl c m → OC WYQ τ τ1 → FX2 τ1 → tN τ1 = tN τ → tZ τ1 = tZ τ → HTC τ1 L → (∀ i, i < s → i < L.length → tI τ1 86 i = ((enc (opx c m (gx L i)) (cn c 0) : Nat) : Int)) → G d 83 22 [vR 84, vR 66, vI (cn c 0 : Int), vR 67, vI m, vI (s : Int), none] [] τ1 Q := by
    intro j
    induction j with
    | zero =>
      intro s L τ1 hj hs hb he o F1 n1 z1 H ho
      have := H.2.1
      omega
    | succ j ihS =>
      intro s L τ1 hj hs hb he o F1 n1 z1 H ho
      obtain ⟨s1, s2, s3, s4, s5⟩ := s84 F1
      obtain ⟨p1, p2, p3, p4⟩ := p84 F1
      have hn := H.1
      have hl := H.2.1
      simp only [exS] at he
      by_cases h : s < L.length
      · rw [if_pos h] at he
        have hx := hb s h
        refine t83_22 (n6 := 1000) s1 p2 s3 (fun _ _ => by omega) (fun z => by rw [hn] at z; omega) (fun _ z => by omega) (fun _ _ => ?_)
        rw [Int.toNat_natCast]
        have lpR : ∀ (i r : Nat) (L2 : List Nat) (τ2 : T2), r + i = cn c 0 → L.length ≤ L2.length → (∀ q, q < L2.length → gx L2 q < 2 ^ 20) → (∀ q, q < L.length → gx L2 q = gx L q) → (match exr (opx c m) (gx L s) i r L2 with | none => none | some L1 => exS (opx c m) (cn c 0) j (s + 1) L1) = xpl c m → OC WYQ τ τ2 → FX2 τ2 → tN τ2 = tN τ → tZ τ2 = tZ τ → HTC τ2 L2 → (∀ q, q < s → tI τ2 86 q = ((enc (opx c m (gx L q)) (cn c 0) : Nat) : Int)) → tI τ2 86 s = ((enc (opx c m (gx L s)) r : Nat) : Int) → G d 83 50 [vR 84, vR 66, vI (cn c 0 : Int), vR 67, vI m, vI (s : Int), vI (r : Int)] [] τ2 Q := by
          intro i
          induction i with
          | zero =>
            intro r L2 τ2 hr hL hb2 hg he2 o2 F2 n2 z2 H2 ho2 hp2
            have er : r = cn c 0 := by omega
            obtain ⟨t1, t2, t3, t4, t5⟩ := s84 F2
            refine t83_50 (n2 := 20) (q6 := 92) (q9 := 85) (n11 := 1000) (by omega) (F2.sh rfl (by omega) (by omega)) (fun z => by omega) (fun z => by omega) t1 (p84 F2).1 t2 (fun z => by omega) (F2.sh rfl (by omega) (by omega)) (fun _ => ?_) (fun z => by omega) (fun z => by omega)
            rw [wr_nat (by omega)]
            refine ihS (s + 1) L2 τ2 (by omega) (by omega) hb2 he2 o2 F2 n2 z2 H2 (fun q h1 h2 => ?_)
            by_cases e : q = s
            · rw [e, hg s h, hp2, er]
            · rw [hg q (by omega)]; exact ho2 q (by omega)
          | succ i ihR =>
            intro r L2 τ2 hr hL hb2 hg he2 o2 F2 n2 z2 H2 ho2 hp2
            have hrn : r < cn c 0 := by omega
            have R2 : RC τ2 c := R.oc w F o2 (fun a k z => WYQ_D z)
            obtain ⟨t1, t2, t3, t4, t5⟩ := s84 F2
            obtain ⟨q1, q2, q3, q4⟩ := p84 F2
            have hn2 := H2.1
            have hl2 := H2.2.1
            have vs : tI τ2 85 s = ((gx L s : Nat) : Int) := by rw [H2.2.2.1 s (by omega), hg s h]
            simp only [exr] at he2
            refine t83_50 (n2 := 20) (q6 := 92 + 4 * r) (q9 := 85) (n11 := 1000) (by omega) (F2.sh rfl (by omega) (by omega)) (fun _ _ => by omega) (fun _ _ => by rw [Int.toNat_natCast]; exact F2.p (ptR r (by omega)).1) t1 q1 t2 (fun _ _ => by omega) (F2.sh (shR r (by omega)).1 (by omega) (by omega)) (fun z => by omega) (fun _ z => by omega) (fun _ _ => ?_)
            rw [Int.toNat_natCast, vs, ← congrArg (Nat.cast : Nat → Int) (enc_tx hx)]
            have nb : ∀ b, opx c m (gx L s) r = b → bi (opn c r (fun i => (gx L s).testBit i) m) = bi b := fun b h => by rw [← h]; rfl
            refine c33 F2 R2 w hrn (by omega) ?_
            cases hop : opx c m (gx L s) r with
            | false =>
              rw [nb _ hop]
              rw [if_neg (by rw [hop]; decide)] at he2
              refine t83_80 (n5 := 1000) (n10 := 1000) (by omega) t1 q2 t3 (fun z => absurd rfl z) q1 t2 (fun z => absurd rfl z) (fun _ => ?_) (fun z => absurd rfl z)
              rw [wr_nat (by omega)]
              refine ihR (r + 1) L2 τ2 (by omega) hL hb2 hg he2 o2 F2 n2 z2 H2 ho2 ?_
              rw [hp2, enc_no _ hop]
            | true =>
              rw [nb _ hop]
              rw [if_pos hop] at he2
              refine t83_80 (n5 := 1000) (n10 := 1000) (by omega) t1 q2 t3 (fun _ => by omega) q1 t2 (fun _ => by omega) (fun z => absurd z (by decide)) (fun _ => ?_)
              have hb30 : gx L s < 2147483648 := Nat.lt_trans hx (by decide)
              have h2r : 2 ^ r < 2147483648 := Nat.lt_of_le_of_lt (Nat.pow_le_pow_right (by decide) (show r ≤ 30 by omega)) (by decide)
              have ey : zor ((gx L s : Nat) : Int) (zshl 1 (r : Int)) = ((gx L s ||| 2 ^ r : Nat) : Int) := by rw [zshl1_nat (by omega), zor_nat hb30 h2r]
              rw [Int.toNat_natCast, hp2, enc_put _ (show r < 30 by omega) hop, show tI (uI τ2 86 s ((enc (opx c m (gx L s)) (r + 1) : Nat) : Int)) 85 s = ((gx L s : Nat) : Int) by rw [tI_uI, if_neg (by omega)]; exact vs, ey]
              have o3 : OC WYQ τ (uI τ2 86 s ((enc (opx c m (gx L s)) (r + 1) : Nat) : Int)) := o2.j (by unfold WYQ; omega)
              have oo : OC (fun a _ => a = 86) τ2 (uI τ2 86 s ((enc (opx c m (gx L s)) (r + 1) : Nat) : Int)) := OC.ad OC.rf
              have H3 : HTC (uI τ2 86 s ((enc (opx c m (gx L s)) (r + 1) : Nat) : Int)) L2 := H2.oc F2 oo (fun a k z => by unfold WYP; omega)
              have a3 : ∀ q, q < s → tI (uI τ2 86 s ((enc (opx c m (gx L s)) (r + 1) : Nat) : Int)) 86 q = ((enc (opx c m (gx L q)) (cn c 0) : Nat) : Int) := fun q hq => by rw [tI_uI, if_neg (by omega)]; exact ho2 q hq
              have b3 : tI (uI τ2 86 s ((enc (opx c m (gx L s)) (r + 1) : Nat) : Int)) 86 s = ((enc (opx c m (gx L s)) (r + 1) : Nat) : Int) := by rw [tI_uI, if_pos ⟨rfl, rfl⟩]
              have F3 : FX2 (uI τ2 86 s ((enc (opx c m (gx L s)) (r + 1) : Nat) : Int)) := F2.j
              have n3 : tN (uI τ2 86 s ((enc (opx c m (gx L s)) (r + 1) : Nat) : Int)) = tN τ := n2
              have z3 : tZ (uI τ2 86 s ((enc (opx c m (gx L s)) (r + 1) : Nat) : Int)) = tZ τ := z2
              generalize uI τ2 86 s ((enc (opx c m (gx L s)) (r + 1) : Nat) : Int) = τ3 at *
              have N3 := F3.1
              refine c84 F3 H3 (by omega) (fun hm => ?_) (fun hm hlt τ4 o4 F4 n4 z4 H4 => ?_) (fun hm hlt => ?_)
              · rw [if_pos hm] at he2
                refine t83_113 (fun _ => ?_) (fun z => absurd z (by decide))
                rw [wr_nat (by omega)]
                exact ihR (r + 1) L2 τ3 (by omega) hL hb2 hg he2 o3 F3 n3 z3 H3 a3 b3
              · rw [if_neg hm, if_pos hlt] at he2
                refine t83_113 (fun _ => ?_) (fun z => absurd z (by decide))
                rw [wr_nat (by omega)]
                have sm : ∀ q, tI τ4 86 q = tI τ3 86 q := fun q => (o4.2.2.2 86 q (by omega) (by unfold WYP; omega)).1
                refine ihR (r + 1) (L2 ++ [gx L s ||| 2 ^ r]) τ4 (by omega) (by rw [gx_len]; omega) (fun q hq => ?_) (fun q hq => ?_) he2 (o3.tr (o4.mo wq)) F4 (n4.trans n3) (z4.trans z3) H4 (fun q hq => by rw [sm]; exact a3 q hq) (by rw [sm]; exact b3)
                · rw [gx_len] at hq
                  by_cases e : q < L2.length
                  · rw [gx_l e]; exact hb2 q e
                  · rw [show q = L2.length by omega, gx_r]; exact lt_put hx (by omega)
                · rw [gx_l (by omega)]; exact hg q hq
              · rw [if_neg hm, if_neg hlt] at he2
                exact t83_113 (fun z => absurd rfl z) (fun _ => k0 he2.symm τ3 o3 F3 n3 z3)
        have oo : OC (fun a _ => a = 86) τ1 (uI τ1 86 s 0) := OC.ad OC.rf
        refine lpR (cn c 0) 0 L _ (by omega) (Nat.le_refl _) hb (fun _ _ => rfl) he (o.j (by unfold WYQ; omega)) F1.j n1 z1 (H.oc F1 oo (fun a k z => by unfold WYP; omega)) (fun q hq => ?_) ?_
        · rw [tI_uI, if_neg (by omega)]; exact ho q hq (by omega)
        · rw [tI_uI, if_pos ⟨rfl, rfl⟩]; rfl
      · rw [if_neg h] at he
        exact t83_22 (n6 := 1000) s1 p2 s3 (fun z => by rw [hn] at z; omega) (fun _ => fin s L τ1 (by omega) he o F1 n1 z1 H ho) (fun z => by rw [hn] at z; omega) (fun z => by rw [hn] at z; omega)
  obtain ⟨s1, s2, s3, s4, s5⟩ := s84 F
  refine t83_0 (r1 := some 66) (r3 := some 67) (by omega) s1 ?_
  rw [(p84 F).2.2.2]
  refine c261 s5 (by omega) (t83_8 (r1 := some 66) (r3 := some 67) (by omega) s1 ?_)
  have F1 : FX2 (uI (rI τ 88 (fil (tI τ 88) 0 2048)) 84 4 0) := F.r.j
  have o1 : OC WYQ τ (uI (rI τ 88 (fil (tI τ 88) 0 2048)) 84 4 0) := (OC.rf.r (fun k => by unfold WYQ; omega)).j (by unfold WYQ; omega)
  have v8 : ∀ k, k < 2048 → tI (uI (rI τ 88 (fil (tI τ 88) 0 2048)) 84 4 0) 88 k = 0 := fun k hk => by
    rw [tI_uI, if_neg (by omega)]
    show rw2 (tI τ) 88 (fil (tI τ 88) 0 2048) 88 k = 0
    rw [rw2_row]
    exact if_pos hk
  have H0 : HTC (uI (rI τ 88 (fil (tI τ 88) 0 2048)) 84 4 0) [] := by
    refine ⟨by rw [tI_uI, if_pos ⟨rfl, rfl⟩]; rfl, by simp, fun i hi => absurd hi (by simp), fun k hk => Or.inl (v8 k hk), ?_, fun i hi => absurd hi (by simp)⟩
    exact (enc_z _ 2048 (fun i hi => decide_eq_false (fun z => z (v8 i hi)))).2
  have n1 : tN (uI (rI τ 88 (fil (tI τ 88) 0 2048)) 84 4 0) = tN τ := rfl
  have z1 : tZ (uI (rI τ 88 (fil (tI τ 88) 0 2048)) 84 4 0) = tZ τ := rfl
  generalize uI (rI τ 88 (fil (tI τ 88) 0 2048)) 84 4 0 = τ1 at *
  refine c84 (y := 0) F1 H0 (by omega) (fun h => absurd h (by simp)) (fun _ _ τ2 o2 F2 n2 z2 H2 => ?_) (fun _ h => absurd (show ([] : List Nat).length < 1000 by decide) h)
  refine t83_18 (r1 := some 66) (r3 := some 67) (lpS 1001 0 [0] τ2 (by omega) (by simp) (fun i hi => ?_) rfl (o1.tr (o2.mo wq)) F2 (n2.trans n1) (z2.trans z1) H2 (fun i hi => by omega))
  have : i = 0 := by simp at hi; exact hi
  rw [this]; decide
