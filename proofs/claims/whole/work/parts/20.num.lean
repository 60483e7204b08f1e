/-! NUMBERS: ints and longs as integers -/
def okI (x : Int) : Prop := -2147483648 ≤ x ∧ x < 2147483648
def okJ (x : Int) : Prop := -9223372036854775808 ≤ x ∧ x < 9223372036854775808
theorem i3_toInt {x : Int} (h : okI x) : (i3 x).toInt = x := by
  unfold okI at h
  rw [Int32.toInt_ofInt]
  simp only [Int.bmod, Int32.size]
  split <;> omega
theorem i6_toInt {x : Int} (h : okJ x) : (i6 x).toInt = x := by
  unfold okJ at h
  rw [Int64.toInt_ofInt]
  simp only [Int.bmod, Int64.size]
  split <;> omega
theorem i3_of (a : Int32) : i3 a.toInt = a := Int32.ofInt_toInt a
theorem i6_of (a : Int64) : i6 a.toInt = a := Int64.ofInt_toInt a
theorem okI_of (a : Int32) : okI a.toInt := by
  have h1 := Int32.toInt_lt a
  have h2 := Int32.le_toInt a
  unfold okI
  omega
theorem okJ_of (a : Int64) : okJ a.toInt := by
  have h1 := Int64.toInt_lt a
  have h2 := Int64.le_toInt a
  unfold okJ
  omega
theorem okI_wr (x : Int) : okI (wr x) := by unfold okI wr; omega
theorem okJ_wl (x : Int) : okJ (wl x) := by unfold okJ wl; omega
theorem wr_id {x : Int} (h : okI x) : wr x = x := by unfold okI at h; unfold wr; omega
theorem wl_id {x : Int} (h : okJ x) : wl x = x := by unfold okJ at h; unfold wl; omega
theorem i3_wr (x : Int) : i3 (wr x) = i3 x := by
  apply Int32.toInt.inj
  rw [i3_toInt (okI_wr x), Int32.toInt_ofInt]
  simp only [Int.bmod, Int32.size, wr]
  split <;> omega
theorem i6_wl (x : Int) : i6 (wl x) = i6 x := by
  apply Int64.toInt.inj
  rw [i6_toInt (okJ_wl x), Int64.toInt_ofInt]
  simp only [Int.bmod, Int64.size, wl]
  split <;> omega
theorem i3_add (x y : Int) : i3 x + i3 y = i3 (wr (x + y)) := by rw [i3_wr]; exact (Int32.ofInt_add x y).symm
theorem i3_sub (x y : Int) : i3 x - i3 y = i3 (wr (x - y)) := by rw [i3_wr]; exact (Int32.ofInt_sub x y).symm
theorem i3_mul (x y : Int) : i3 x * i3 y = i3 (wr (x * y)) := by rw [i3_wr]; exact (Int32.ofInt_mul x y).symm
theorem i6_add (x y : Int) : i6 x + i6 y = i6 (wl (x + y)) := by rw [i6_wl]; exact (Int64.ofInt_add x y).symm
theorem i6_sub (x y : Int) : i6 x - i6 y = i6 (wl (x - y)) := by rw [i6_wl]; exact (Int64.ofInt_sub x y).symm
theorem i3_lt {x y : Int} (hx : okI x) (hy : okI y) : i3 x < i3 y ↔ x < y := by rw [Int32.lt_iff_toInt_lt, i3_toInt hx, i3_toInt hy]
theorem i3_le {x y : Int} (hx : okI x) (hy : okI y) : i3 x ≤ i3 y ↔ x ≤ y := by rw [Int32.le_iff_toInt_le, i3_toInt hx, i3_toInt hy]
theorem i3_eq {x y : Int} (hx : okI x) (hy : okI y) : i3 x = i3 y ↔ x = y := ⟨fun h => by have := congrArg Int32.toInt h; rwa [i3_toInt hx, i3_toInt hy] at this, fun h => by rw [h]⟩
theorem i6_lt {x y : Int} (hx : okJ x) (hy : okJ y) : i6 x < i6 y ↔ x < y := by rw [Int64.lt_iff_toInt_lt, i6_toInt hx, i6_toInt hy]
theorem i6_eq {x y : Int} (hx : okJ x) (hy : okJ y) : i6 x = i6 y ↔ x = y := ⟨fun h => by have := congrArg Int64.toInt h; rwa [i6_toInt hx, i6_toInt hy] at this, fun h => by rw [h]⟩
theorem i3_0 : i3 0 = 0 := rfl
theorem okI_0 : okI 0 := by unfold okI; omega
theorem okI_1 : okI 1 := by unfold okI; omega
theorem i3_clamp {x : Int} (hx : okI x) : (i3 x).toNatClampNeg = x.toNat := by
  show (i3 x).toInt.toNat = x.toNat
  rw [i3_toInt hx]
theorem i3_in {x : Int} {n : Nat} (hx : okI x) (h0 : 0 ≤ x) (h1 : x < n) : vp_in (i3 x) n := by
  rw [vp_in_iff, i3_toInt hx]
  exact ⟨h0, h1⟩
theorem i3_nn {x : Int} (hx : okI x) (h0 : 0 ≤ x) : ¬ i3 x < 0 := by
  rw [← i3_0, i3_lt hx okI_0]
  omega
theorem i3_i8 {x : Int} (h1 : -128 ≤ x) (h2 : x ≤ 127) : (Int8.ofInt x).toInt32 = i3 x := by
  apply Int32.toInt.inj
  rw [i3_toInt ⟨by omega, by omega⟩, Int8.toInt_toInt32, Int8.toInt_ofInt]
  simp only [Int.bmod, Int8.size]
  split <;> omega
theorem i3_i16 {x : Int} (h1 : -32768 ≤ x) (h2 : x ≤ 32767) : (Int16.ofInt x).toInt32 = i3 x := by
  apply Int32.toInt.inj
  rw [i3_toInt ⟨by omega, by omega⟩, Int16.toInt_toInt32, Int16.toInt_ofInt]
  simp only [Int.bmod, Int16.size]
  split <;> omega
theorem i6_i3 {x : Int} (hx : okI x) : (i3 x).toInt64 = i6 x := by
  have h : okJ x := by unfold okI at hx; unfold okJ; omega
  apply Int64.toInt.inj
  rw [i6_toInt h, Int32.toInt_toInt64, i3_toInt hx]
theorem i3_i6 {x : Int} (_ : okJ x) : (i6 x).toInt32 = i3 (wr x) := by
  rw [i3_wr]
  apply Int32.toInt.inj
  rw [Int64.toInt_toInt32, Int64.toInt_ofInt, Int32.toInt_ofInt]
  simp only [Int.bmod, Int32.size, Int64.size]
  repeat' split
  all_goals omega
theorem zbyt_in (x : Int) : -128 ≤ zbyt x ∧ zbyt x ≤ 127 := by
  unfold zbyt
  rw [Int8.toInt_toInt32]
  have h1 := Int8.toInt_lt (i3 x).toInt8
  have h2 := Int8.le_toInt (i3 x).toInt8
  omega
theorem zbyt_id {x : Int} (h1 : -128 ≤ x) (h2 : x ≤ 127) : zbyt x = x := by
  unfold zbyt
  rw [Int8.toInt_toInt32, Int32.toInt_toInt8, i3_toInt ⟨by omega, by omega⟩]
  simp only [Int.bmod]
  split <;> omega
theorem okI_i {x : Int} (h : okI x) : -2147483648 ≤ x ∧ x < 2147483648 := h
