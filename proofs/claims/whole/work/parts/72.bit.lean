/-! BITS: the machine's bit operations on numbers that aren't negative -/
theorem i3_bv (x : Nat) : (i3 (x : Int)).toBitVec = BitVec.ofNat 32 x := by
  show (Int32.ofInt (x : Int)).toBitVec = _
  rw [Int32.toBitVec_ofInt]
  exact BitVec.ofInt_natCast 32 x
theorem bv_int {x : Nat} (h : x < 2147483648) : (BitVec.ofNat 32 x).toInt = (x : Int) := by
  rw [← i3_bv]
  exact i3_toInt (show okI (x : Int) by unfold okI; omega)
theorem zor_nat {x y : Nat} (hx : x < 2147483648) (hy : y < 2147483648) : zor (x : Int) (y : Int) = ((x ||| y : Nat) : Int) := by
  have hl : x ||| y < 2147483648 := Nat.or_lt_two_pow (n := 31) hx hy
  show (i3 (x : Int) ||| i3 (y : Int)).toBitVec.toInt = _
  rw [Int32.toBitVec_or, i3_bv, i3_bv, ← BitVec.ofNat_or, bv_int hl]
theorem zand_nat {x y : Nat} (hx : x < 2147483648) (hy : y < 2147483648) : zand (x : Int) (y : Int) = ((x &&& y : Nat) : Int) := by
  have hl : x &&& y < 2147483648 := Nat.lt_of_le_of_lt Nat.and_le_left hx
  show (i3 (x : Int) &&& i3 (y : Int)).toBitVec.toInt = _
  rw [Int32.toBitVec_and, i3_bv, i3_bv, ← BitVec.ofNat_and, bv_int hl]
theorem zshl1_nat {k : Nat} (hk : k < 31) : zshl 1 (k : Int) = ((2 ^ k : Nat) : Int) := (show ∀ k : Fin 31, zshl 1 (k.val : Int) = ((2 ^ k.val : Nat) : Int) from by decide +kernel) ⟨k, hk⟩
theorem or_pow {x k : Nat} (h : x < 2 ^ k) : x ||| 2 ^ k = x + 2 ^ k := by
  have := Nat.two_pow_add_eq_or_of_lt h 1
  rw [Nat.mul_one] at this
  rw [Nat.or_comm, ← this, Nat.add_comm]
theorem bv_le (b : Bool) : bv b ≤ 1 := by cases b <;> decide
theorem enc_lt (p : Nat → Bool) : ∀ n, enc p n < 2 ^ n
  | 0 => Nat.zero_lt_one
  | n + 1 => by
    have h := enc_lt p n
    have e : 2 ^ (n + 1) = 2 ^ n + 2 ^ n := by rw [Nat.pow_succ]; omega
    show enc p n + 2 ^ n * bv (p n) < 2 ^ (n + 1)
    rw [e]
    cases p n with
    | false => show enc p n + 2 ^ n * 0 < _; omega
    | true => show enc p n + 2 ^ n * 1 < _; omega
theorem enc_30 (p : Nat → Bool) {n : Nat} (h : n ≤ 30) : enc p n < 2147483648 := Nat.lt_of_lt_of_le (enc_lt p n) (Nat.le_trans (Nat.pow_le_pow_right (by decide) h) (by decide))
theorem enc_put (p : Nat → Bool) {n : Nat} (h : n < 30) (hp : p n = true) : zor (enc p n : Int) (zshl 1 (n : Int)) = ((enc p (n + 1) : Nat) : Int) := by
  rw [zshl1_nat (by omega), zor_nat (enc_30 p (by omega)) (Nat.lt_of_le_of_lt (Nat.pow_le_pow_right (by decide) (show n ≤ 30 by omega)) (by decide)), or_pow (enc_lt p n)]
  show _ = ((enc p n + 2 ^ n * bv (p n) : Nat) : Int)
  rw [hp]
  show _ = ((enc p n + 2 ^ n * 1 : Nat) : Int)
  rw [Nat.mul_one]
theorem enc_no (p : Nat → Bool) {n : Nat} (hp : p n = false) : (enc p n : Int) = ((enc p (n + 1) : Nat) : Int) := by
  show _ = ((enc p n + 2 ^ n * bv (p n) : Nat) : Int)
  rw [hp]
  rfl
theorem zor_0 {x : Nat} (hx : x < 2147483648) : zor (x : Int) 0 = (x : Int) := by
  have := zor_nat (x := x) (y := 0) hx (by decide)
  rw [Nat.or_zero] at this
  exact this
theorem zush_nat {x : Nat} (hx : x < 2147483648) {k : Nat} (hk : k < 32) : zush (x : Int) (k : Int) = ((x / 2 ^ k : Nat) : Int) := by
  have h1 : (i3 (x : Int)).toUInt32.toNat = x := by
    show (i3 (x : Int)).toBitVec.toNat = x
    rw [i3_bv, BitVec.toNat_ofNat]
    omega
  have h2 : ((i3 (k : Int)).toUInt32 &&& Int32.toUInt32 31).toNat = k := (show ∀ k : Fin 32, ((i3 (k.val : Int)).toUInt32 &&& Int32.toUInt32 31).toNat = k.val from by decide +kernel) ⟨k, hk⟩
  have h3 : ((i3 (x : Int)).toUInt32 >>> ((i3 (k : Int)).toUInt32 &&& Int32.toUInt32 31)).toNat = x / 2 ^ k := by
    rw [UInt32.toNat_shiftRight, h1, h2, Nat.mod_eq_of_lt hk, Nat.shiftRight_eq_div_pow]
  have h4 : x / 2 ^ k < 2147483648 := Nat.lt_of_le_of_lt (Nat.div_le_self _ _) hx
  have h5 : ((i3 (x : Int)).toUInt32 >>> ((i3 (k : Int)).toUInt32 &&& Int32.toUInt32 31)).toBitVec = BitVec.ofNat 32 (x / 2 ^ k) := by
    apply BitVec.eq_of_toNat_eq
    rw [BitVec.toNat_ofNat]
    show ((i3 (x : Int)).toUInt32 >>> ((i3 (k : Int)).toUInt32 &&& Int32.toUInt32 31)).toNat = _
    rw [h3, Nat.mod_eq_of_lt (by omega)]
  show (((i3 (x : Int)).toUInt32 >>> ((i3 (k : Int)).toUInt32 &&& Int32.toUInt32 31)).toBitVec).toInt = _
  rw [h5, bv_int h4]
theorem wr_n {x : Nat} (h : x < 2147483648) : wr (x : Int) = (x : Int) := wr_id (by unfold okI; omega)
theorem add_n {x y : Nat} (h : x + y < 2147483648) : wr ((x : Int) + (y : Int)) = ((x + y : Nat) : Int) := by
  rw [wr_id (by unfold okI; omega)]
  rfl
theorem sub_n {x y : Nat} (h : y ≤ x) (hx : x < 2147483648) : wr ((x : Int) - (y : Int)) = ((x - y : Nat) : Int) := by
  rw [wr_id (by unfold okI; omega)]
  omega
/-- Integer.bitCount -/
theorem c246 {d : Nat} {τ : T2} {Q : RS → T2 → Prop} {x : Nat} (hx : x < 1048576) (h : Q (.inl (some (AI (bcn x : Nat)))) τ) : G d 246 0 [vI (x : Int)] [] τ Q := by
  refine t246_0 ?_
  have a1 : zand (zush (x : Int) 1) 1431655765 = ((x / 2 &&& mk5 8 : Nat) : Int) := by
    rw [show (1 : Int) = ((1 : Nat) : Int) from rfl, zush_nat (by omega) (by decide)]
    exact zand_nat (x := x / 2 ^ 1) (y := 1431655765) (by omega) (by decide)
  have l1 : (x / 2 &&& mk5 8) ≤ x / 2 := Nat.and_le_left
  have a2 : wr ((x : Int) - (zand (zush (x : Int) 1) 1431655765)) = ((bA 8 x : Nat) : Int) := by
    rw [a1]
    exact sub_n (by omega) (by omega)
  have l2 : bA 8 x < 1048576 := by unfold bA; omega
  rw [a2]
  generalize hA : bA 8 x = A at l2
  have a3 : zand (A : Int) 858993459 = ((A &&& mk3 8 : Nat) : Int) := zand_nat (x := A) (y := 858993459) (by omega) (by decide)
  have a4 : zand (zush (A : Int) 2) 858993459 = ((A / 4 &&& mk3 8 : Nat) : Int) := by
    rw [show (2 : Int) = ((2 : Nat) : Int) from rfl, zush_nat (by omega) (by decide)]
    exact zand_nat (x := A / 2 ^ 2) (y := 858993459) (by omega) (by decide)
  have l3 : (A &&& mk3 8) ≤ A := Nat.and_le_left
  have l4 : (A / 4 &&& mk3 8) ≤ A / 4 := Nat.and_le_left
  have a5 : wr ((zand (A : Int) 858993459) + (zand (zush (A : Int) 2) 858993459)) = ((bB 8 A : Nat) : Int) := by
    rw [a3, a4]
    exact add_n (by omega)
  have l5 : bB 8 A < 2097152 := by unfold bB; omega
  rw [a5]
  generalize hB : bB 8 A = B at l5
  have a6 : zush (B : Int) 4 = ((B / 16 : Nat) : Int) := by
    rw [show (4 : Int) = ((4 : Nat) : Int) from rfl, zush_nat (by omega) (by decide)]
  have a7 : zand (wr ((B : Int) + (zush (B : Int) 4))) 252645135 = ((B + B / 16 &&& 252645135 : Nat) : Int) := by
    rw [a6, add_n (by omega)]
    exact zand_nat (x := B + B / 16) (y := 252645135) (by omega) (by decide)
  have l7 : (B + B / 16 &&& 252645135) ≤ B + B / 16 := Nat.and_le_left
  rw [a7]
  generalize hC : (B + B / 16 &&& 252645135) = C at l7
  have a8 : wr ((C : Int) + (zush (C : Int) 8)) = ((C + C / 256 : Nat) : Int) := by
    rw [show (8 : Int) = ((8 : Nat) : Int) from rfl, zush_nat (by omega) (by decide)]
    exact add_n (by omega)
  rw [a8]
  generalize hE : C + C / 256 = D
  have lD : D < 8388608 := by omega
  have a9 : wr ((D : Int) + (zush (D : Int) 16)) = ((D + D / 65536 : Nat) : Int) := by
    rw [show (16 : Int) = ((16 : Nat) : Int) from rfl, zush_nat (by omega) (by decide)]
    exact add_n (by omega)
  rw [a9]
  have a10 : zand ((D + D / 65536 : Nat) : Int) 63 = ((D + D / 65536 &&& 63 : Nat) : Int) := zand_nat (x := D + D / 65536) (y := 63) (by omega) (by decide)
  rw [a10]
  have e : bcn x = (D + D / 65536 &&& 63) := by
    unfold bcn bZ
    rw [hA, hB]
    dsimp only
    rw [hC, hE]
  rw [← e]
  exact h
/-! WHAT TEAMS HAVE SOLVED -/
/-- solved by a minute: by the row of minutes -/
def slv (f : Nat → Int) (m : Int) (r : Nat) : Bool := decide (f r ≠ -1 ∧ f r ≤ m)
section TM
variable {d : Nat} {τ : T2} {Q : RS → T2 → Prop}
theorem c61 (F : FX2 τ) {t : Nat} (ht : t < 8) {m : Int} (h : Q (.inl (some (AI (enc (slv (tI τ (173 + 6 * t)) m) 20 : Nat)))) τ) : G d 61 0 [vR (172 + 6 * t), vI m, none, none] [] τ Q := by
  have s0 := F.sh (shT t ht).1 (by omega) (by omega)
  have s1 := F.sh (shT t ht).2.1 (by omega) (by omega)
  have p1 := F.p (ptT t ht).2.1
  have lp : ∀ (j k : Nat), k + j = 20 → G d 61 4 [vR (172 + 6 * t), vI m, vI (enc (slv (tI τ (173 + 6 * t)) m) k : Nat), vI (k : Int)] [] τ Q := by
    intro j
    induction j with
    | zero =>
      intro k hk
      have e : k = 20 := by omega
      subst e
      exact t61_4 (n5 := 20) s0 p1 s1 (fun _ => by omega) (fun _ => h) (fun c => by omega) (fun c => by omega) (fun c => by omega)
    | succ j ih =>
      intro k hk
      have ih := ih (k + 1) (by omega)
      refine t61_4 (n5 := 20) s0 p1 s1 (fun _ => by omega) (fun c => by omega) (fun _ c => ?_) (fun _ c1 c2 => ?_) (fun _ c1 c2 => ?_)
      · rw [wr_nat (by omega)]
        rw [enc_no _ (show slv (tI τ (173 + 6 * t)) m k = false by unfold slv; simp only [Int.toNat_natCast] at c; simp [c])]
        exact ih
      · rw [wr_nat (by omega)]
        rw [enc_no _ (show slv (tI τ (173 + 6 * t)) m k = false by unfold slv; simp only [Int.toNat_natCast] at c2; simp; omega)]
        exact ih
      · rw [wr_nat (by omega), enc_put _ (by omega) (show slv (tI τ (173 + 6 * t)) m k = true by unfold slv; simp only [Int.toNat_natCast] at c1 c2; simp [c1, c2])]
        exact ih
  exact t61_0 (lp 20 0 rfl)
theorem m157 (F : FX2 τ) {t : Nat} (ht : t < 8) {m : Int} (h : Q (.inl (some (AI (enc (slv (tI τ (417 + 7 * t)) m) 20 : Nat)))) τ) : G d 157 0 [vR (416 + 7 * t), vI m, none, none] [] τ Q := by
  have s0 := F.sh (shU t ht).1 (by omega) (by omega)
  have s1 := F.sh (shU t ht).2.1 (by omega) (by omega)
  have p1 := F.p (ptU t ht).2.1
  have lp : ∀ (j k : Nat), k + j = 20 → G d 157 4 [vR (416 + 7 * t), vI m, vI (enc (slv (tI τ (417 + 7 * t)) m) k : Nat), vI (k : Int)] [] τ Q := by
    intro j
    induction j with
    | zero =>
      intro k hk
      have e : k = 20 := by omega
      subst e
      exact t157_4 (n5 := 20) s0 p1 s1 (fun _ => by omega) (fun _ => h) (fun c => by omega) (fun c => by omega) (fun c => by omega)
    | succ j ih =>
      intro k hk
      have ih := ih (k + 1) (by omega)
      refine t157_4 (n5 := 20) s0 p1 s1 (fun _ => by omega) (fun c => by omega) (fun _ c => ?_) (fun _ c1 c2 => ?_) (fun _ c1 c2 => ?_)
      · rw [wr_nat (by omega), zor_0 (enc_30 _ (by omega))]
        rw [enc_no _ (show slv (tI τ (417 + 7 * t)) m k = false by unfold slv; simp only [Int.toNat_natCast] at c; simp [c])]
        exact ih
      · rw [wr_nat (by omega), zor_0 (enc_30 _ (by omega))]
        rw [enc_no _ (show slv (tI τ (417 + 7 * t)) m k = false by unfold slv; simp only [Int.toNat_natCast] at c2; simp; omega)]
        exact ih
      · rw [wr_nat (by omega), enc_put _ (by omega) (show slv (tI τ (417 + 7 * t)) m k = true by unfold slv; simp only [Int.toNat_natCast] at c1 c2; simp [c1, c2])]
        exact ih
  exact t157_0 (lp 20 0 rfl)
end TM
