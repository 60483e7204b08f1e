/-! HOW MANY BITS: Integer.bitCount's way, for numbers below 2^20 -/
/-- how many of the places below n have a property -/
def bv (b : Bool) : Nat := if b then 1 else 0
def cnt (p : Nat → Bool) : Nat → Nat
  | 0 => 0
  | n + 1 => cnt p n + bv (p n)
/-- the set of the places below n that have a property, as a number -/
def enc (p : Nat → Bool) : Nat → Nat
  | 0 => 0
  | n + 1 => enc p n + 2 ^ n * bv (p n)
theorem and_pow (i A M : Nat) {B N : Nat} (hB : B < 2 ^ i) (hN : N < 2 ^ i) : (2 ^ i * A + B) &&& (2 ^ i * M + N) = 2 ^ i * (A &&& M) + (B &&& N) := by
  apply Nat.eq_of_testBit_eq
  intro j
  have hBN : B &&& N < 2 ^ i := Nat.lt_of_le_of_lt Nat.and_le_left hB
  rw [Nat.testBit_and, Nat.testBit_two_pow_mul_add _ hB, Nat.testBit_two_pow_mul_add _ hN, Nat.testBit_two_pow_mul_add _ hBN]
  split
  · rw [Nat.testBit_and]
  · rw [Nat.testBit_and]
/-- masks of n fours of bits: 0101.., 0011.. -/
def mk5 : Nat → Nat
  | 0 => 0
  | n + 1 => 16 * mk5 n + 5
def mk3 : Nat → Nat
  | 0 => 0
  | n + 1 => 16 * mk3 n + 3
def bA (n x : Nat) : Nat := x - (x / 2 &&& mk5 n)
def bB (n a : Nat) : Nat := (a &&& mk3 n) + (a / 4 &&& mk3 n)
theorem bA_s (n y : Nat) {e : Nat} (he : e < 16) : bA (n + 1) (16 * y + e) = 16 * bA n y + bA 1 e := by
  have h1 : (16 * y + e) / 2 = 2 ^ 4 * (y / 2) + (8 * (y % 2) + e / 2) := by omega
  have h2 : (16 * y + e) / 2 &&& mk5 (n + 1) = 16 * (y / 2 &&& mk5 n) + (8 * (y % 2) + e / 2 &&& 5) := by
    rw [h1]
    exact and_pow 4 (y / 2) (mk5 n) (by omega) (by decide)
  have h3 : (8 * (y % 2) + e / 2 &&& 5) = (e / 2 &&& 5) := by
    have hm : y % 2 < 2 := Nat.mod_lt _ (by decide)
    exact (show ∀ m : Fin 2, ∀ e : Fin 16, (8 * m.val + e.val / 2 &&& 5) = (e.val / 2 &&& 5) from by decide) ⟨y % 2, hm⟩ ⟨e, he⟩
  have h4 : (e / 2 &&& 5) ≤ e := Nat.le_trans Nat.and_le_left (Nat.div_le_self _ _)
  have h5 : (y / 2 &&& mk5 n) ≤ y := Nat.le_trans Nat.and_le_left (Nat.div_le_self _ _)
  unfold bA
  rw [h2, h3]
  show _ = 16 * (y - (y / 2 &&& mk5 n)) + (e - (e / 2 &&& 5))
  omega
theorem bB_s (n y : Nat) {e : Nat} (he : e < 16) : bB (n + 1) (16 * y + e) = 16 * bB n y + bB 1 e := by
  have h1 : (16 * y + e) / 4 = 2 ^ 4 * (y / 4) + (4 * (y % 4) + e / 4) := by omega
  have h2 : (16 * y + e) / 4 &&& mk3 (n + 1) = 16 * (y / 4 &&& mk3 n) + (4 * (y % 4) + e / 4 &&& 3) := by
    rw [h1]
    exact and_pow 4 (y / 4) (mk3 n) (by omega) (by decide)
  have h3 : (4 * (y % 4) + e / 4 &&& 3) = (e / 4 &&& 3) := by
    have hm : y % 4 < 4 := Nat.mod_lt _ (by decide)
    exact (show ∀ m : Fin 4, ∀ e : Fin 16, (4 * m.val + e.val / 4 &&& 3) = (e.val / 4 &&& 3) from by decide) ⟨y % 4, hm⟩ ⟨e, he⟩
  have h4 : (16 * y + e) &&& mk3 (n + 1) = 16 * (y &&& mk3 n) + (e &&& 3) := and_pow 4 y (mk3 n) he (by decide)
  unfold bB
  rw [h2, h3, h4]
  show _ = 16 * ((y &&& mk3 n) + (y / 4 &&& mk3 n)) + ((e &&& 3) + (e / 4 &&& 3))
  omega
theorem bA_1 {e : Nat} (he : e < 16) : bA 1 e < 16 := (show ∀ e : Fin 16, bA 1 e.val < 16 from by decide) ⟨e, he⟩
theorem bAB_s (n y : Nat) {e : Nat} (he : e < 16) : bB (n + 1) (bA (n + 1) (16 * y + e)) = 16 * bB n (bA n y) + bB 1 (bA 1 e) := by
  rw [bA_s n y he, bB_s n _ (bA_1 he)]
/-- the last steps -/
def bZ (b : Nat) : Nat := (fun c => (fun e => e + e / 65536 &&& 63) (c + c / 256)) (b + b / 16 &&& 252645135)
def bcn (x : Nat) : Nat := bZ (bB 8 (bA 8 x))
theorem bZ_5 : ∀ p0 p1 p2 p3 p4 : Fin 5, bZ (16 * (16 * (16 * (16 * p4.val + p3.val) + p2.val) + p1.val) + p0.val) = p0.val + p1.val + p2.val + p3.val + p4.val := by decide +kernel
def nib (p : Nat → Bool) (i : Nat) : Nat → Bool := fun j => p (4 * i + j)
theorem enc_4 (q : Nat → Bool) : enc q 4 < 16 ∧ bB 1 (bA 1 (enc q 4)) = cnt q 4 ∧ cnt q 4 < 5 := by
  simp only [enc, cnt]
  cases q 0 <;> cases q 1 <;> cases q 2 <;> cases q 3 <;> decide
theorem enc_nib (p : Nat → Bool) : enc p 20 = 16 * (16 * (16 * (16 * enc (nib p 4) 4 + enc (nib p 3) 4) + enc (nib p 2) 4) + enc (nib p 1) 4) + enc (nib p 0) 4 := by
  simp only [enc, nib, Nat.reduceMul, Nat.reduceAdd, Nat.reducePow]
  omega
theorem cnt_nib (p : Nat → Bool) : cnt p 20 = cnt (nib p 0) 4 + cnt (nib p 1) 4 + cnt (nib p 2) 4 + cnt (nib p 3) 4 + cnt (nib p 4) 4 := by
  simp only [cnt, nib, Nat.reduceMul, Nat.reduceAdd]
  omega
theorem bcn_enc (p : Nat → Bool) : bcn (enc p 20) = cnt p 20 := by
  obtain ⟨a0, b0, c0⟩ := enc_4 (nib p 0)
  obtain ⟨a1, b1, c1⟩ := enc_4 (nib p 1)
  obtain ⟨a2, b2, c2⟩ := enc_4 (nib p 2)
  obtain ⟨a3, b3, c3⟩ := enc_4 (nib p 3)
  obtain ⟨a4, b4, c4⟩ := enc_4 (nib p 4)
  unfold bcn
  rw [enc_nib, bAB_s 7 _ a0, bAB_s 6 _ a1, bAB_s 5 _ a2, bAB_s 4 _ a3]
  have h4 : bB 4 (bA 4 (enc (nib p 4) 4)) = cnt (nib p 4) 4 := by
    have := bAB_s 3 0 a4
    rw [Nat.mul_zero, Nat.zero_add] at this
    rw [this, b4]
    show 16 * bB 3 (bA 3 0) + _ = _
    rw [show bB 3 (bA 3 0) = 0 from by decide, Nat.mul_zero, Nat.zero_add]
  rw [h4, b0, b1, b2, b3, cnt_nib]
  exact bZ_5 ⟨_, c0⟩ ⟨_, c1⟩ ⟨_, c2⟩ ⟨_, c3⟩ ⟨_, c4⟩
