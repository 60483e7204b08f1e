/-! LONGS; the model's reader of tokens -/
theorem i6_bv (x : Nat) : (i6 (x : Int)).toBitVec = BitVec.ofNat 64 x := by
  show (Int64.ofInt (x : Int)).toBitVec = _
  rw [Int64.toBitVec_ofInt]
  exact BitVec.ofInt_natCast 64 x
theorem bw_int {x : Nat} (h : x < 9223372036854775808) : (BitVec.ofNat 64 x).toInt = (x : Int) := by
  rw [← i6_bv]
  exact i6_toInt (show okJ (x : Int) by unfold okJ; omega)
theorem lor_nat {x y : Nat} (hx : x < 9223372036854775808) (hy : y < 9223372036854775808) : lor (x : Int) (y : Int) = ((x ||| y : Nat) : Int) := by
  have hl : x ||| y < 9223372036854775808 := Nat.or_lt_two_pow (n := 63) hx hy
  show (i6 (x : Int) ||| i6 (y : Int)).toBitVec.toInt = _
  rw [Int64.toBitVec_or, i6_bv, i6_bv, ← BitVec.ofNat_or, bw_int hl]
theorem land_nat {x y : Nat} (hx : x < 9223372036854775808) (hy : y < 9223372036854775808) : land (x : Int) (y : Int) = ((x &&& y : Nat) : Int) := by
  have hl : x &&& y < 9223372036854775808 := Nat.lt_of_le_of_lt Nat.and_le_left hx
  show (i6 (x : Int) &&& i6 (y : Int)).toBitVec.toInt = _
  rw [Int64.toBitVec_and, i6_bv, i6_bv, ← BitVec.ofNat_and, bw_int hl]
theorem sh63 {k : Nat} (hk : k < 64) : ((i3 (k : Int)).toInt64 &&& 63).toBitVec.smod 64 = BitVec.ofNat 64 k := (show ∀ k : Fin 64, ((i3 (k.val : Int)).toInt64 &&& 63).toBitVec.smod 64 = BitVec.ofNat 64 k.val from by decide +kernel) ⟨k, hk⟩
theorem sh31 {k : Nat} (hk : k < 32) : (i3 (k : Int) &&& 31).toBitVec.smod 32 = BitVec.ofNat 32 k := (show ∀ k : Fin 32, (i3 (k.val : Int) &&& 31).toBitVec.smod 32 = BitVec.ofNat 32 k.val from by decide +kernel) ⟨k, hk⟩
theorem lshr_eq {x : Int} (h : okJ x) {k : Nat} (hk : k < 64) : lshr x (k : Int) = x / 2 ^ k := by
  show (BitVec.sshiftRight' (i6 x).toBitVec (((i3 (k : Int)).toInt64 &&& 63).toBitVec.smod 64)).toInt = _
  rw [sh63 hk]
  show ((i6 x).toBitVec.sshiftRight (BitVec.ofNat 64 k).toNat).toInt = _
  rw [BitVec.toInt_sshiftRight, BitVec.toNat_ofNat, Nat.mod_eq_of_lt (by omega)]
  show (i6 x).toInt >>> k = _
  rw [i6_toInt h, Int.shiftRight_eq_div_pow]
  rfl
theorem zshr_eq {x : Int} (h : okI x) {k : Nat} (hk : k < 32) : zshr x (k : Int) = x / 2 ^ k := by
  show (BitVec.sshiftRight' (i3 x).toBitVec ((i3 (k : Int) &&& 31).toBitVec.smod 32)).toInt = _
  rw [sh31 hk]
  show ((i3 x).toBitVec.sshiftRight (BitVec.ofNat 32 k).toNat).toInt = _
  rw [BitVec.toInt_sshiftRight, BitVec.toNat_ofNat, Nat.mod_eq_of_lt (by omega)]
  show (i3 x).toInt >>> k = _
  rw [i3_toInt h, Int.shiftRight_eq_div_pow]
  rfl
theorem lshl_nat {x k : Nat} (hk : k < 64) (h : x * 2 ^ k < 9223372036854775808) : lshl (x : Int) (k : Int) = ((x * 2 ^ k : Nat) : Int) := by
  show ((i6 (x : Int)).toBitVec <<< (((i3 (k : Int)).toInt64 &&& 63).toBitVec.smod 64)).toInt = _
  rw [sh63 hk, i6_bv]
  have e : BitVec.ofNat 64 x <<< BitVec.ofNat 64 k = BitVec.ofNat 64 (x * 2 ^ k) := by
    apply BitVec.eq_of_toNat_eq
    rw [BitVec.shiftLeft_eq', BitVec.toNat_shiftLeft, BitVec.toNat_ofNat, BitVec.toNat_ofNat, BitVec.toNat_ofNat, Nat.shiftLeft_eq, Nat.mod_eq_of_lt (show k < 2 ^ 64 by omega)]
    have hx : x < 2 ^ 64 := by
      have : x * 1 ≤ x * 2 ^ k := Nat.mul_le_mul_left x (Nat.two_pow_pos k)
      omega
    rw [Nat.mod_eq_of_lt hx]
  rw [e, bw_int h]
/-- a letter more -/
theorem wrd_s {v d : Nat} (hv : v < 36028797018963968) (hd : d < 32) : lor (lshl (v : Int) 5) (d : Int) = ((32 * v + d : Nat) : Int) := by
  have h1 := lshl_nat (x := v) (k := 5) (by decide) (by omega)
  have h1 : lshl (v : Int) 5 = ((v * 2 ^ 5 : Nat) : Int) := h1
  rw [h1, lor_nat (by omega) (by omega), Nat.mul_comm v (2 ^ 5), ← Nat.two_pow_add_eq_or_of_lt (i := 5) hd v]
theorem p32 {j n : Nat} (h : j ≤ n) : (32 : Int) ^ j ≤ 32 ^ n := by
  have := Nat.pow_le_pow_right (show 0 < 32 by decide) h
  exact_mod_cast this
/-- a word as a number -/
def wvl (f : Nat → Int) (a : Nat) : Nat → Int
  | 0 => 0
  | j + 1 => 32 * wvl f a j + (f (a + j) - 96)
theorem wvl_b {f : Nat → Int} {a : Nat} : ∀ j, (∀ i, i < j → isL (f (a + i)) = true) → 0 ≤ wvl f a j ∧ wvl f a j < 32 ^ j
  | 0, _ => by simp [wvl]
  | j + 1, h => by
    have h1 := wvl_b j (fun i hi => h i (by omega))
    have h2 := isL_i (h j (by omega))
    simp only [wvl]
    rw [Int.pow_succ]
    omega
theorem wen_wvl {f : Nat → Int} {a : Nat} : ∀ j, wen ((List.range j).map fun i => f (a + i)) = wvl f a j
  | 0 => rfl
  | j + 1 => by
    have := wen_wvl (f := f) (a := a) j
    unfold wen at this ⊢
    rw [List.range_succ, List.map_append, List.foldl_append, this]
    rfl
/-- a byte without its sign -/
def ub (x : Int) : Int := if x < 0 then x + 256 else x
theorem zand255 {x : Int} (h1 : -128 ≤ x) (h2 : x ≤ 127) : zand x 255 = ub x := by
  have := (show ∀ i : Fin 256, zand ((i.val : Int) - 128) 255 = ub ((i.val : Int) - 128) from by decide +kernel) ⟨(x + 128).toNat, by omega⟩
  rw [show (((⟨(x + 128).toNat, by omega⟩ : Fin 256).val : Nat) : Int) - 128 = x by show (((x + 128).toNat : Nat) : Int) - 128 = x; omega] at this
  exact this
theorem ub_c (x : Int) : (0 ≤ x ∧ ub x = x) ∨ (x < 0 ∧ ub x = x + 256) := by
  unfold ub
  split <;> omega
def TxM (τ : T2) (f : Nat → Int) (n : Nat) : Prop := tI τ 220 16 = (n : Int) ∧ n ≤ 300 ∧ (∀ k, k < n → tI τ 226 k = f k) ∧ ∀ k, k < n → -128 ≤ f k ∧ f k ≤ 127
def TkM (τ : T2) (f : Nat → Int) (n a : Nat) : Prop := tI τ 220 19 = (tkF f n a : Int) ∧ (tkS f n a ≠ 1 → tI τ 220 17 = (tkT f n a : Int)) ∧ (tkS f n a = 0 → tI τ 220 18 = 1) ∧ (tkS f n a = 1 → tI τ 220 18 = 0) ∧ (tkS f n a = 2 → tI τ 220 18 = 2 ∧ tI τ 220 22 = wen (tkW f n a)) ∧ (tkS f n a = 3 → tI τ 220 18 = 3 ∧ tI τ 220 21 = tkN f n a) ∧ (tkS f n a = 4 → tI τ 220 18 = 4 ∧ tI τ 220 20 = f (tkF f n a))
def NXM (a k : Nat) : Prop := a = 220 ∧ 17 ≤ k ∧ k ≤ 22
theorem TxM.oc {τ τ1 : T2} {f : Nat → Int} {n : Nat} {P : Nat → Nat → Prop} (h : TxM τ f n) (F : FX2 τ) (o : OC P τ τ1) (hp : ∀ a k, P a k → ¬ ((a = 220 ∧ k = 16) ∨ a = 226)) : TxM τ1 f n := by
  have N := F.1
  exact ⟨by rw [(o.2.2.2 220 16 (by omega) (fun z => hp _ _ z (by omega))).1]; exact h.1, h.2.1, fun k hk => by rw [(o.2.2.2 226 k (by omega) (fun z => hp _ _ z (by omega))).1]; exact h.2.2.1 k hk, h.2.2.2⟩
theorem TkM.oc {τ τ1 : T2} {f : Nat → Int} {n a : Nat} {P : Nat → Nat → Prop} (h : TkM τ f n a) (F : FX2 τ) (o : OC P τ τ1) (hp : ∀ a k, P a k → ¬ NXM a k) : TkM τ1 f n a := by
  have N := F.1
  have sm : ∀ k, 17 ≤ k → k ≤ 22 → tI τ1 220 k = tI τ 220 k := fun k h1 h2 => (o.2.2.2 220 k (by omega) (fun z => hp _ _ z ⟨rfl, h1, h2⟩)).1
  unfold TkM
  rw [sm 17 (by omega) (by omega), sm 18 (by omega) (by omega), sm 19 (by omega) (by omega), sm 20 (by omega) (by omega), sm 21 (by omega) (by omega), sm 22 (by omega) (by omega)]
  exact h
section TKM
variable {d : Nat} {τ : T2} {Q : RS → T2 → Prop} {f : Nat → Int} {n : Nat}
theorem m173 (F : FX2 τ) (X : TxM τ f n) {k : Nat} (h1 : k < n → Q (.inl (some (AI (ub (f k))))) τ) (h2 : n ≤ k → Q (.inl (some (AI (-1)))) τ) : G d 173 0 [vR 220, vI (k : Int)] [] τ Q := by
  obtain ⟨X1, X2, X3, X4⟩ := X
  refine t173_0 (q3 := 226) (n5 := 300) (F.sh rfl (by omega) (by omega)) (F.p rfl) (F.sh rfl (by omega) (by omega)) (fun c => by rw [X1] at c; omega) (fun c => h2 (by rw [X1] at c; omega)) (fun c => ?_)
  rw [X1] at c
  rw [Int.toNat_natCast, X3 k (by omega), zand255 (X4 k (by omega)).1 (X4 k (by omega)).2]
  exact h1 (by omega)
theorem m174 {x : Int} (h1 : isL x = true → Q (.inl (some (AI 1))) τ) (h0 : isL x = false → Q (.inl (some (AI 0))) τ) : G d 174 0 [vI x] [] τ Q := t174_0 (fun c => h0 (isL_f (Or.inl c))) (fun _ c => h0 (isL_f (Or.inr c))) (fun c1 c2 => h1 (isL_t c1 c2))
theorem m175 {x : Int} (h1 : isD x = true → Q (.inl (some (AI 1))) τ) (h0 : isD x = false → Q (.inl (some (AI 0))) τ) : G d 175 0 [vI x] [] τ Q := t175_0 (fun c => h0 (isD_f (Or.inl c))) (fun _ c => h0 (isD_f (Or.inr c))) (fun c1 c2 => h1 (isD_t c1 c2))
theorem ub_L {x : Int} (h : -128 ≤ x) (h1 : x ≤ 127) : isL (ub x) = isL x ∧ isD (ub x) = isD x ∧ (ub x = 32 ↔ x = 32) ∧ ub x ≠ -1 := by
  have := ub_c x
  refine ⟨?_, ?_, by omega, by omega⟩
  · unfold isL
    rw [decide_eq_decide]
    omega
  · unfold isD
    rw [decide_eq_decide]
    omega
theorem isL_m1 : isL (-1) = false := by decide
theorem isD_m1 : isD (-1) = false := by decide
/-- next of the model -/
theorem m177 {a : Nat} (F : FX2 τ) (X : TxM τ f n) (ha : tI τ 220 17 = (a : Int)) (hn : a ≤ n) (hd : 1 ≤ d) (k : ∀ τ1, OC NXM τ τ1 → FX2 τ1 → tN τ1 = tN τ → tZ τ1 = tZ τ → tP τ1 = tP τ → TkM τ1 f n a → Q (.inl none) τ1) : G d 177 0 [vR 220, none, none] [] τ Q := by
  have s0 : ∀ τ : T2, FX2 τ → tS τ 220 = (1, 21, 0) := fun τ F => F.sh rfl (by omega) (by omega)
  have pj : ∀ k, 17 ≤ k → k ≤ 22 → NXM 220 k := fun k h1 h2 => ⟨rfl, h1, h2⟩
  have nx : ∀ a k, NXM a k → ¬ ((a = 220 ∧ k = 16) ∨ a = 226) := fun a k z => by unfold NXM at z; omega
  have X5 := X.2.2.2
  have X300 := X.2.1
  -- letters
  have lt : ∀ (p : Nat), p = tkF f n a → p < n → isL (f p) = true → ∀ (j q : Nat) (τ2 : T2), n - q ≤ j → p ≤ q → q ≤ n → (∀ i, p ≤ i → i < q → isL (f i) = true) → OC NXM τ τ2 → FX2 τ2 → tN τ2 = tN τ → tZ τ2 = tZ τ → tP τ2 = tP τ → tI τ2 220 19 = (p : Int) → tI τ2 220 18 = 0 → tI τ2 220 17 = (q : Int) → (q - p ≤ 12 → tI τ2 220 22 = wvl f p (q - p)) → G d 177 80 [vR 220, none, vI ((q - p : Nat) : Int)] [] τ2 Q := by
    intro p hp hpn hL j
    have fin : ∀ (q : Nat) (τ2 : T2), p ≤ q → q ≤ n → spp isL f n p = q → OC NXM τ τ2 → FX2 τ2 → tN τ2 = tN τ → tZ τ2 = tZ τ → tP τ2 = tP τ → tI τ2 220 19 = (p : Int) → tI τ2 220 18 = 0 → tI τ2 220 17 = (q : Int) → (q - p ≤ 12 → tI τ2 220 22 = wvl f p (q - p)) → G d 177 91 [vR 220, none, vI ((q - p : Nat) : Int)] [AI 0] τ2 Q := by
      intro q τ2 h1 h2 h3 o F2 n2 z2 p2 e19 e18 e17 e22
      have T := tkT_L (f := f) (n := n) (a := a) (by omega) (by rw [← hp]; exact hL)
      rw [← hp, h3] at T
      obtain ⟨T1, T2, T3, T4, T5⟩ := T
      refine t177_91 hd (s0 _ F2) (fun _ c => ?_) (fun _ c => ?_) (fun c => absurd rfl c) (fun c => absurd rfl c)
      · have hs : tkS f n a = 1 := by
          rcases T4 with y | y
          · have := T5.mp y; omega
          · exact y
        exact k _ o F2 n2 z2 p2 ⟨by rw [e19, hp], fun z => absurd hs z, fun z => by omega, fun _ => e18, fun z => by omega, fun z => by omega, fun z => by omega⟩
      · have hs : tkS f n a = 2 := T5.mpr (by omega)
        have g : ∀ i, i ≠ 18 → tI (uI τ2 220 18 2) 220 i = tI τ2 220 i := fun i hi => by rw [tI_uI, if_neg (by omega)]
        refine k _ (o.j (pj 18 (by omega) (by omega))) F2.j n2 z2 p2 ⟨by rw [g 19 (by decide), e19, hp], fun _ => by rw [g 17 (by decide), e17, T1], fun z => by omega, fun z => by omega, fun _ => ⟨by rw [tI_uI, if_pos ⟨rfl, rfl⟩], ?_⟩, fun z => by omega, fun z => by omega⟩
        rw [g 22 (by decide), e22 (by omega)]
        unfold tkW
        rw [wen_wvl, ← hp, T1]
    induction j with
    | zero =>
      intro q τ2 hj h1 h2 h3 o F2 n2 z2 p2 e19 e18 e17 e22
      have es : spp isL f n p = q := by
        have hb := spp_b (p := isL) (f := f) (n := n) (n - p) p (Nat.le_refl _)
        by_cases e : spp isL f n p < n
        · have := hb.2.2.2 e
          rw [h3 _ hb.1 (by omega)] at this
          cases this
        · have := hb.2.1 (by omega); omega
      refine t177_80 hd (s0 _ F2) ?_
      rw [e17]
      refine m173 F2 (X.oc F o nx) (fun c => by omega) (fun _ => t177_88 hd (m174 (fun c => by rw [isL_m1] at c; cases c) (fun _ => ?_)))
      exact fin q τ2 h1 h2 es o F2 n2 z2 p2 e19 e18 e17 e22
    | succ j ih =>
      intro q τ2 hj h1 h2 h3 o F2 n2 z2 p2 e19 e18 e17 e22
      by_cases hq : q < n
      · have X2 := X.oc F o nx
        have bq := X5 q hq
        refine t177_80 hd (s0 _ F2) ?_
        rw [e17]
        refine m173 F2 X2 (fun _ => t177_88 hd (m174 (fun c => ?_) (fun c => ?_))) (fun c => by omega)
        · rw [(ub_L bq.1 bq.2).1] at c
          have hl := isL_i c
          have eu : ub (f q) = f q := by have := ub_c (f q); omega
          refine t177_91 hd (s0 _ F2) (fun c => absurd c (by decide)) (fun c => absurd c (by decide)) (fun _ c1 => ?_) (fun _ c1 => ?_)
          · rw [e17, wr_nat (by omega), wr_nat (by omega), show q - p + 1 = q + 1 - p by omega]
            have g : ∀ i, i ≠ 17 → tI (uI τ2 220 17 ((q + 1 : Nat) : Int)) 220 i = tI τ2 220 i := fun i hi => by rw [tI_uI, if_neg (by omega)]
            refine ih (q + 1) _ (by omega) (by omega) (by omega) (fun i i1 i2 => ?_) (o.j (pj 17 (by omega) (by omega))) F2.j n2 z2 p2 (by rw [g 19 (by decide)]; exact e19) (by rw [g 18 (by decide)]; exact e18) (by rw [tI_uI, if_pos ⟨rfl, rfl⟩]) (fun z => by omega)
            by_cases e : i = q
            · rw [e]; exact c
            · exact h3 i i1 (by omega)
          · rw [e17]
            refine m173 F2 X2 (fun _ => ?_) (fun c => by omega)
            show G d 177 115 [vR 220, none, vI ((q - p : Nat) : Int)] [AI (ub (f q)), AL (lshl (tI τ2 220 22) 5), AR 220] τ2 Q
            refine t177_115 (s0 _ F2) (s0 _ F2) ?_
            have e22 := e22 (by omega)
            have wb := wvl_b (f := f) (a := p) (q - p) (fun i hi => h3 (p + i) (by omega) (by omega))
            have w12 : (32 : Int) ^ (q - p) ≤ 32 ^ 11 := p32 (by omega)
            obtain ⟨v, hv⟩ : ∃ v : Nat, wvl f p (q - p) = (v : Int) := ⟨(wvl f p (q - p)).toNat, by omega⟩
            have hvb : v < 36028797018963968 := by
              rw [hv] at wb
              have h11 : (32 : Int) ^ 11 = 36028797018963968 := by decide
              omega
            have ew : lor (lshl (tI τ2 220 22) 5) (wr (wr (ub (f q) - 97) + 1)) = wvl f p (q - p + 1) := by
              rw [e22, hv, eu, wr_id (x := f q - 97) (by unfold okI; omega), wr_id (by unfold okI; omega)]
              have hd : f q - 97 + 1 = (((f q - 96).toNat : Nat) : Int) := by omega
              rw [hd, wrd_s hvb (by omega)]
              simp only [wvl]
              rw [hv, show p + (q - p) = q by omega]
              omega
            rw [ew]
            have g : ∀ i, i ≠ 17 → i ≠ 22 → tI (uI (uI τ2 220 22 (wvl f p (q - p + 1))) 220 17 ((q + 1 : Nat) : Int)) 220 i = tI τ2 220 i := fun i hi hj => by rw [tI_uI, if_neg (by omega), tI_uI, if_neg (by omega)]
            have e17' : tI (uI τ2 220 22 (wvl f p (q - p + 1))) 220 17 = (q : Int) := by rw [tI_uI, if_neg (by decide)]; exact e17
            rw [e17', wr_nat (by omega), wr_nat (by omega), show q - p + 1 = q + 1 - p by omega]
            rw [show q - p + 1 = q + 1 - p by omega] at g
            refine ih (q + 1) _ (by omega) (by omega) (by omega) (fun i i1 i2 => ?_) ((o.j (pj 22 (by omega) (by omega))).j (pj 17 (by omega) (by omega))) F2.j.j n2 z2 p2 (by rw [g 19 (by decide) (by decide)]; exact e19) (by rw [g 18 (by decide) (by decide)]; exact e18) (by rw [tI_uI, if_pos ⟨rfl, rfl⟩]) (fun z => by rw [tI_uI, if_neg (by decide), tI_uI, if_pos ⟨rfl, rfl⟩])
            by_cases e : i = q
            · rw [e]; exact c
            · exact h3 i i1 (by omega)
        · rw [(ub_L bq.1 bq.2).1] at c
          have es : spp isL f n p = q := by
            have hb := spp_b (p := isL) (f := f) (n := n) (n - p) p (Nat.le_refl _)
            have b1 : ¬ (q < spp isL f n p) := fun e => by
              have := hb.2.2.1 q h1 e
              rw [c] at this; cases this
            by_cases e : spp isL f n p < q
            · have := hb.2.2.2 (by omega)
              rw [h3 _ hb.1 e] at this
              cases this
            · omega
          exact fin q τ2 h1 h2 es o F2 n2 z2 p2 e19 e18 e17 e22
      · exact ih q τ2 (by omega) h1 h2 h3 o F2 n2 z2 p2 e19 e18 e17 e22
  -- digits
  have dg : ∀ (p : Nat), p = tkF f n a → p < n → isL (f p) = false → isD (f p) = true → ∀ (j q : Nat) (τ2 : T2), n - q ≤ j → p ≤ q → q ≤ n → (∀ i, p ≤ i → i < q → isD (f i) = true) → OC NXM τ τ2 → FX2 τ2 → tN τ2 = tN τ → tZ τ2 = tZ τ → tP τ2 = tP τ → tI τ2 220 19 = (p : Int) → tI τ2 220 18 = 0 → tI τ2 220 17 = (q : Int) → (q - p ≤ 3 → tI τ2 220 21 = nvl f p (q - p)) → G d 177 167 [vR 220, none, vI ((q - p : Nat) : Int)] [] τ2 Q := by
    intro p hp hpn hL hD j
    have fin : ∀ (q : Nat) (τ2 : T2), p ≤ q → q ≤ n → spp isD f n p = q → OC NXM τ τ2 → FX2 τ2 → tN τ2 = tN τ → tZ τ2 = tZ τ → tP τ2 = tP τ → tI τ2 220 19 = (p : Int) → tI τ2 220 18 = 0 → tI τ2 220 17 = (q : Int) → (q - p ≤ 3 → tI τ2 220 21 = nvl f p (q - p)) → G d 177 178 [vR 220, none, vI ((q - p : Nat) : Int)] [AI 0] τ2 Q := by
      intro q τ2 h1 h2 h3 o F2 n2 z2 p2 e19 e18 e17 e22
      have T := tkT_D (f := f) (n := n) (a := a) (by omega) (by rw [← hp]; exact hL) (by rw [← hp]; exact hD)
      rw [← hp, h3] at T
      obtain ⟨T1, T2, T3, T4, T5⟩ := T
      refine t177_178 hd (s0 _ F2) (fun _ c => ?_) (fun _ c => ?_) (fun c => absurd rfl c) (fun c => absurd rfl c)
      · have hs : tkS f n a = 1 := by
          rcases T4 with y | y
          · have := T5.mp y; omega
          · exact y
        exact k _ o F2 n2 z2 p2 ⟨by rw [e19, hp], fun z => absurd hs z, fun z => by omega, fun _ => e18, fun z => by omega, fun z => by omega, fun z => by omega⟩
      · have hs : tkS f n a = 3 := T5.mpr (by omega)
        have g : ∀ i, i ≠ 18 → tI (uI τ2 220 18 3) 220 i = tI τ2 220 i := fun i hi => by rw [tI_uI, if_neg (by omega)]
        refine k _ (o.j (pj 18 (by omega) (by omega))) F2.j n2 z2 p2 ⟨by rw [g 19 (by decide), e19, hp], fun _ => by rw [g 17 (by decide), e17, T1], fun z => by omega, fun z => by omega, fun z => by omega, fun _ => ⟨by rw [tI_uI, if_pos ⟨rfl, rfl⟩], ?_⟩, fun z => by omega⟩
        rw [g 21 (by decide), e22 (by omega)]
        unfold tkN
        rw [← hp, T1]
    induction j with
    | zero =>
      intro q τ2 hj h1 h2 h3 o F2 n2 z2 p2 e19 e18 e17 e22
      have es : spp isD f n p = q := by
        have hb := spp_b (p := isD) (f := f) (n := n) (n - p) p (Nat.le_refl _)
        by_cases e : spp isD f n p < n
        · have := hb.2.2.2 e
          rw [h3 _ hb.1 (by omega)] at this
          cases this
        · have := hb.2.1 (by omega); omega
      refine t177_167 hd (s0 _ F2) ?_
      rw [e17]
      refine m173 F2 (X.oc F o nx) (fun c => by omega) (fun _ => t177_175 hd (m175 (fun c => by rw [isD_m1] at c; cases c) (fun _ => ?_)))
      exact fin q τ2 h1 h2 es o F2 n2 z2 p2 e19 e18 e17 e22
    | succ j ih =>
      intro q τ2 hj h1 h2 h3 o F2 n2 z2 p2 e19 e18 e17 e22
      by_cases hq : q < n
      · have X2 := X.oc F o nx
        have bq := X5 q hq
        refine t177_167 hd (s0 _ F2) ?_
        rw [e17]
        refine m173 F2 X2 (fun _ => t177_175 hd (m175 (fun c => ?_) (fun c => ?_))) (fun c => by omega)
        · rw [(ub_L bq.1 bq.2).2.1] at c
          have hl := isD_i c
          have eu : ub (f q) = f q := by have := ub_c (f q); omega
          refine t177_178 hd (s0 _ F2) (fun c => absurd c (by decide)) (fun c => absurd c (by decide)) (fun _ c1 => ?_) (fun _ c1 => ?_)
          · rw [e17, wr_nat (by omega), wr_nat (by omega), show q - p + 1 = q + 1 - p by omega]
            have g : ∀ i, i ≠ 17 → tI (uI τ2 220 17 ((q + 1 : Nat) : Int)) 220 i = tI τ2 220 i := fun i hi => by rw [tI_uI, if_neg (by omega)]
            refine ih (q + 1) _ (by omega) (by omega) (by omega) (fun i i1 i2 => ?_) (o.j (pj 17 (by omega) (by omega))) F2.j n2 z2 p2 (by rw [g 19 (by decide)]; exact e19) (by rw [g 18 (by decide)]; exact e18) (by rw [tI_uI, if_pos ⟨rfl, rfl⟩]) (fun z => by omega)
            by_cases e : i = q
            · rw [e]; exact c
            · exact h3 i i1 (by omega)
          · rw [e17]
            refine m173 F2 X2 (fun _ => ?_) (fun c => by omega)
            show G d 177 202 [vR 220, none, vI ((q - p : Nat) : Int)] [AI (ub (f q)), AI (wr (10 * (tI τ2 220 21))), AR 220] τ2 Q
            refine t177_202 (s0 _ F2) (s0 _ F2) ?_
            have e22 := e22 (by omega)
            have hb := nvl_b (f := f) (a := p) (q - p) (fun i hi => h3 (p + i) (by omega) (by omega))
            have hb2 := hb.2.2.1 (by omega)
            have ew : wr (wr (wr (10 * tI τ2 220 21) + ub (f q)) - 48) = nvl f p (q - p + 1) := by
              rw [e22, eu, wr_id (x := 10 * nvl f p (q - p)) (by unfold okI; omega), wr_id (x := 10 * nvl f p (q - p) + f q) (by unfold okI; omega), wr_id (by unfold okI; omega)]
              simp only [nvl]
              rw [show p + (q - p) = q by omega]
              omega
            rw [ew]
            have g : ∀ i, i ≠ 17 → i ≠ 21 → tI (uI (uI τ2 220 21 (nvl f p (q - p + 1))) 220 17 ((q + 1 : Nat) : Int)) 220 i = tI τ2 220 i := fun i hi hj => by rw [tI_uI, if_neg (by omega), tI_uI, if_neg (by omega)]
            have e17' : tI (uI τ2 220 21 (nvl f p (q - p + 1))) 220 17 = (q : Int) := by rw [tI_uI, if_neg (by decide)]; exact e17
            rw [e17', wr_nat (by omega), wr_nat (by omega), show q - p + 1 = q + 1 - p by omega]
            rw [show q - p + 1 = q + 1 - p by omega] at g
            refine ih (q + 1) _ (by omega) (by omega) (by omega) (fun i i1 i2 => ?_) ((o.j (pj 21 (by omega) (by omega))).j (pj 17 (by omega) (by omega))) F2.j.j n2 z2 p2 (by rw [g 19 (by decide) (by decide)]; exact e19) (by rw [g 18 (by decide) (by decide)]; exact e18) (by rw [tI_uI, if_pos ⟨rfl, rfl⟩]) (fun z => by rw [tI_uI, if_neg (by decide), tI_uI, if_pos ⟨rfl, rfl⟩])
            by_cases e : i = q
            · rw [e]; exact c
            · exact h3 i i1 (by omega)
        · rw [(ub_L bq.1 bq.2).2.1] at c
          have es : spp isD f n p = q := by
            have hb := spp_b (p := isD) (f := f) (n := n) (n - p) p (Nat.le_refl _)
            have b1 : ¬ (q < spp isD f n p) := fun e => by
              have := hb.2.2.1 q h1 e
              rw [c] at this; cases this
            by_cases e : spp isD f n p < q
            · have := hb.2.2.2 (by omega)
              rw [h3 _ hb.1 e] at this
              cases this
            · omega
          exact fin q τ2 h1 h2 es o F2 n2 z2 p2 e19 e18 e17 e22
      · exact ih q τ2 (by omega) h1 h2 h3 o F2 n2 z2 p2 e19 e18 e17 e22
  -- blanks
  have bl : ∀ (j p : Nat) (τ2 : T2), n - p ≤ j → a ≤ p → p ≤ n → tkF f n a = spp isB f n p → OC NXM τ τ2 → FX2 τ2 → tN τ2 = tN τ → tZ τ2 = tZ τ → tP τ2 = tP τ → tI τ2 220 17 = (p : Int) → G d 177 0 [vR 220, none, none] [] τ2 Q := by
    intro j
    induction j with
    | zero =>
      intro p τ2 hj h1 h2 h3 o F2 n2 z2 p2 e17
      refine t177_0 hd (s0 _ F2) ?_
      rw [e17]
      have X2 := X.oc F o nx
      refine m173 F2 X2 (fun c => by omega) (fun _ => ?_)
      refine t177_8 hd (s0 _ F2) (fun _ => ?_) (fun c => absurd c (by decide))
      have o3 : OC NXM τ (uI (uI (uI τ2 220 19 (tI τ2 220 17)) 220 18 0) 220 20 0) := ((o.j (pj 19 (by omega) (by omega))).j (pj 18 (by omega) (by omega))).j (pj 20 (by omega) (by omega))
      have e3 : tkF f n a = p := by rw [h3]; exact spp_n (by omega)
      rw [show tI (uI (uI (uI τ2 220 19 (tI τ2 220 17)) 220 18 0) 220 20 0) 220 17 = (p : Int) by rw [tI_uI, if_neg (by decide), tI_uI, if_neg (by decide), tI_uI, if_neg (by decide)]; exact e17]
      refine m173 F2.j.j.j (X.oc F o3 nx) (fun c => by omega) (fun _ => ?_)
      refine t177_52 hd (s0 _ F2.j.j.j) (fun c => absurd rfl c) (fun _ => ?_)
      obtain ⟨t1, t2⟩ := tkT_E (f := f) (n := n) (a := a) (by omega)
      refine k _ (o3.j (pj 18 (by omega) (by omega))) F2.j.j.j.j n2 z2 p2 ⟨?_, fun _ => ?_, fun _ => ?_, fun z => by omega, fun z => by omega, fun z => by omega, fun z => by omega⟩
      · rw [tI_uI, if_neg (by decide), tI_uI, if_neg (by decide), tI_uI, if_neg (by decide), tI_uI, if_pos ⟨rfl, rfl⟩, e17, e3]
      · rw [tI_uI, if_neg (by decide), tI_uI, if_neg (by decide), tI_uI, if_neg (by decide), tI_uI, if_neg (by decide), e17, t1, e3]
      · rw [tI_uI, if_pos ⟨rfl, rfl⟩]
    | succ j ih =>
      intro p τ2 hj h1 h2 h3 o F2 n2 z2 p2 e17
      by_cases hp : p < n
      · refine t177_0 hd (s0 _ F2) ?_
        rw [e17]
        have X2 := X.oc F o nx
        have bp := X5 p hp
        obtain ⟨u1, u2, u3, u4⟩ := ub_L bp.1 bp.2
        refine m173 F2 X2 (fun _ => ?_) (fun c => by omega)
        refine t177_8 hd (s0 _ F2) (fun c => ?_) (fun c => ?_)
        · have e3 : tkF f n a = p := by rw [h3]; exact spp_n (fun z => by rw [isB_f (fun y => c (u3.mpr y))] at z; exact absurd z.2 (by decide))
          have o3 : OC NXM τ (uI (uI (uI τ2 220 19 (tI τ2 220 17)) 220 18 0) 220 20 0) := ((o.j (pj 19 (by omega) (by omega))).j (pj 18 (by omega) (by omega))).j (pj 20 (by omega) (by omega))
          have F3 : FX2 (uI (uI (uI τ2 220 19 (tI τ2 220 17)) 220 18 0) 220 20 0) := F2.j.j.j
          have q17 : tI (uI (uI (uI τ2 220 19 (tI τ2 220 17)) 220 18 0) 220 20 0) 220 17 = (p : Int) := by rw [tI_uI, if_neg (by decide), tI_uI, if_neg (by decide), tI_uI, if_neg (by decide)]; exact e17
          have q18 : tI (uI (uI (uI τ2 220 19 (tI τ2 220 17)) 220 18 0) 220 20 0) 220 18 = 0 := by rw [tI_uI, if_neg (by decide), tI_uI, if_pos ⟨rfl, rfl⟩]
          have q19 : tI (uI (uI (uI τ2 220 19 (tI τ2 220 17)) 220 18 0) 220 20 0) 220 19 = (p : Int) := by rw [tI_uI, if_neg (by decide), tI_uI, if_neg (by decide), tI_uI, if_pos ⟨rfl, rfl⟩]; exact e17
          have qn : tN (uI (uI (uI τ2 220 19 (tI τ2 220 17)) 220 18 0) 220 20 0) = tN τ := n2
          have qz : tZ (uI (uI (uI τ2 220 19 (tI τ2 220 17)) 220 18 0) 220 20 0) = tZ τ := z2
          have qp : tP (uI (uI (uI τ2 220 19 (tI τ2 220 17)) 220 18 0) 220 20 0) = tP τ := p2
          generalize (uI (uI (uI τ2 220 19 (tI τ2 220 17)) 220 18 0) 220 20 0) = τ3 at o3 F3 q17 q18 q19 qn qz qp
          rw [q17]
          refine m173 F3 (X.oc F o3 nx) (fun _ => ?_) (fun c => by omega)
          refine t177_52 hd (s0 _ F3) (fun _ => m174 (fun cl => ?_) (fun cl => ?_)) (fun c => absurd c u4)
          · rw [u1] at cl
            refine t177_72 hd (s0 _ F3) (fun c => absurd c (by decide)) (fun _ => ?_)
            have g : ∀ i, i ≠ 22 → tI (uI τ3 220 22 0) 220 i = tI τ3 220 i := fun i hi => by rw [tI_uI, if_neg (by omega)]
            have := lt p e3.symm hp cl (n - p) p (uI τ3 220 22 0) (Nat.le_refl _) (Nat.le_refl _) h2 (fun i i1 i2 => by omega) (o3.j (pj 22 (by omega) (by omega))) F3.j qn qz qp (by rw [g 19 (by decide)]; exact q19) (by rw [g 18 (by decide)]; exact q18) (by rw [g 17 (by decide)]; exact q17) (fun _ => by rw [tI_uI, if_pos ⟨rfl, rfl⟩, Nat.sub_self]; rfl)
            rw [Nat.sub_self] at this
            exact this
          · rw [u1] at cl
            refine t177_72 hd (s0 _ F3) (fun _ => m175 (fun cd => ?_) (fun cd => ?_)) (fun c => absurd rfl c)
            · rw [u2] at cd
              refine t177_159 (s0 _ F3) (fun c => absurd c (by decide)) (fun c => absurd c (by decide)) (fun c => absurd c (by decide)) (fun c => absurd c (by decide)) (fun c => absurd c (by decide)) (fun c => absurd c (by decide)) (fun c => absurd c (by decide)) (fun c => absurd c (by decide)) (fun c => absurd c (by decide)) (fun _ => ?_)
              have g : ∀ i, i ≠ 21 → tI (uI τ3 220 21 0) 220 i = tI τ3 220 i := fun i hi => by rw [tI_uI, if_neg (by omega)]
              have := dg p e3.symm hp cl cd (n - p) p (uI τ3 220 21 0) (Nat.le_refl _) (Nat.le_refl _) h2 (fun i i1 i2 => by omega) (o3.j (pj 21 (by omega) (by omega))) F3.j qn qz qp (by rw [g 19 (by decide)]; exact q19) (by rw [g 18 (by decide)]; exact q18) (by rw [g 17 (by decide)]; exact q17) (fun _ => by rw [tI_uI, if_pos ⟨rfl, rfl⟩, Nat.sub_self]; rfl)
              rw [Nat.sub_self] at this
              exact this
            · rw [u2] at cd
              obtain ⟨t1, t2⟩ := tkT_G (f := f) (n := n) (a := a) (by omega) (by rw [e3]; exact cl) (by rw [e3]; exact cd)
              rw [e3] at t1 t2
              have uc := ub_c (f p)
              have sg : ub (f p) = f p → isG (f p) = true → Q (.inl none) (uI (uI (uI τ3 220 18 4) 220 20 (ub (f p))) 220 17 (wr (tI (uI (uI τ3 220 18 4) 220 20 (ub (f p))) 220 17 + 1))) := fun eu hg => by
                rw [hg] at t2
                have t2 : tkS f n a = 4 := t2
                rw [eu, show tI (uI (uI τ3 220 18 4) 220 20 (f p)) 220 17 = (p : Int) by rw [tI_uI, if_neg (by decide), tI_uI, if_neg (by decide)]; exact q17, wr_nat (by omega)]
                refine k _ (((o3.j (pj 18 (by omega) (by omega))).j (pj 20 (by omega) (by omega))).j (pj 17 (by omega) (by omega))) F3.j.j.j qn qz qp ⟨?_, fun _ => ?_, fun z => by omega, fun z => by omega, fun z => by omega, fun z => by omega, fun _ => ⟨?_, ?_⟩⟩
                · rw [tI_uI, if_neg (by decide), tI_uI, if_neg (by decide), tI_uI, if_neg (by decide), q19, e3]
                · rw [tI_uI, if_pos ⟨rfl, rfl⟩, t1]
                · rw [tI_uI, if_neg (by decide), tI_uI, if_neg (by decide), tI_uI, if_pos ⟨rfl, rfl⟩]
                · rw [tI_uI, if_neg (by decide), tI_uI, if_pos ⟨rfl, rfl⟩, e3]
              refine t177_159 (s0 _ F3) (fun _ c => sg (by omega) (decide_eq_true (by omega))) (fun _ _ c => sg (by omega) (decide_eq_true (by omega))) (fun _ _ _ c => sg (by omega) (decide_eq_true (by omega))) (fun _ _ _ _ c => sg (by omega) (decide_eq_true (by omega))) (fun _ _ _ _ _ c => sg (by omega) (decide_eq_true (by omega))) (fun _ _ _ _ _ _ c => sg (by omega) (decide_eq_true (by omega))) (fun _ _ _ _ _ _ _ c => sg (by omega) (decide_eq_true (by omega))) (fun _ c1 c2 c3 c4 c5 c6 c7 c8 => ?_) (fun _ _ _ _ _ _ _ _ c => sg (by omega) (decide_eq_true (by omega))) (fun c => absurd rfl c)
              have hg : isG (f p) = false := decide_eq_false (by omega)
              rw [hg] at t2
              have t2 : tkS f n a = 1 := t2
              exact k _ o3 F3 qn qz qp ⟨by rw [q19, e3], fun z => absurd t2 z, fun z => by omega, fun _ => q18, fun z => by omega, fun z => by omega, fun z => by omega⟩
        · rw [e17, wr_nat (by omega)]
          exact ih (p + 1) _ (by omega) (by omega) (by omega) (by rw [h3, spp_y hp (isB_t (u3.mp c))]) (o.j (pj 17 (by omega) (by omega))) F2.j n2 z2 p2 (by rw [tI_uI, if_pos ⟨rfl, rfl⟩])
      · exact ih p τ2 (by omega) h1 h2 h3 o F2 n2 z2 p2 e17
  exact bl (n - a) a τ (Nat.le_refl _) (Nat.le_refl _) hn rfl OC.rf F rfl rfl rfl ha
end TKM
