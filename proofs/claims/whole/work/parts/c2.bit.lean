/-! SETS of places: longs by their bits -/
def lb (v : Int) (i : Nat) : Bool := (i6 v).toBitVec.getLsbD i
theorem lb_or (x y : Int) (i : Nat) : lb (lor x y) i = (lb x i || lb y i) := by
  unfold lb lor
  rw [i6_of]
  exact BitVec.getLsbD_or
theorem lor_ok (x y : Int) : okJ (lor x y) := okJ_of _
theorem lb_0 (i : Nat) : lb 0 i = false := by
  unfold lb
  rw [show (i6 0).toBitVec = 0#64 from rfl]
  exact BitVec.getLsbD_zero
theorem lb_1 (i : Nat) : lb 1 i = decide (i = 0) := by
  unfold lb
  rw [show (i6 1).toBitVec = 1#64 from rfl, BitVec.getLsbD_one]
  simp
theorem lb_sh {k i : Nat} (hk : k < 64) (hi : i < 64) : lb (lshl 1 (k : Int)) i = decide (i = k) := by
  unfold lb lshl
  rw [i6_of]
  show ((i6 1).toBitVec <<< (((i3 (k : Int)).toInt64 &&& 63).toBitVec.smod 64)).getLsbD i = _
  rw [sh63 hk, BitVec.shiftLeft_eq', BitVec.getLsbD_shiftLeft, BitVec.toNat_ofNat, Nat.mod_eq_of_lt (show k < 2 ^ 64 by omega), show (i6 1).toBitVec = 1#64 from rfl, BitVec.getLsbD_one, Bool.eq_iff_iff]
  simp only [Bool.and_eq_true, decide_eq_true_eq, Bool.not_eq_true', decide_eq_false_iff_not]
  omega
theorem lb_z {v : Int} (h : okJ v) (hz : ∀ i, i < 64 → lb v i = false) : v = 0 := by
  have e : (i6 v).toBitVec = 0#64 := BitVec.eq_of_getLsbD_eq (fun i hi => by rw [BitVec.getLsbD_zero]; exact hz i hi)
  have e2 : (i6 v).toInt = 0 := by
    show (i6 v).toBitVec.toInt = 0
    rw [e]
    rfl
  rw [i6_toInt h] at e2
  exact e2
theorem land1 (x : Int) : land x 1 = if lb x 0 = true then 1 else 0 := by
  have e : (i6 x).toBitVec &&& 1#64 = if lb x 0 = true then 1#64 else 0#64 := by
    apply BitVec.eq_of_getLsbD_eq
    intro i hi
    rw [BitVec.getLsbD_and, BitVec.getLsbD_one]
    unfold lb
    by_cases h0 : i = 0
    · subst h0
      cases (i6 x).toBitVec.getLsbD 0 <;> simp
    · cases (i6 x).toBitVec.getLsbD 0 <;> simp [h0]
  show ((i6 x).toBitVec &&& 1#64).toInt = _
  rw [e]
  split <;> rfl
theorem shU63 {k : Nat} (hk : k < 64) : ((i3 (k : Int)).toInt64.toUInt64 &&& Int64.toUInt64 63).toBitVec % 64 = BitVec.ofNat 64 k := (show ∀ k : Fin 64, ((i3 (k.val : Int)).toInt64.toUInt64 &&& Int64.toUInt64 63).toBitVec % 64 = BitVec.ofNat 64 k.val from by decide +kernel) ⟨k, hk⟩
theorem lb_ush {v : Int} {k : Nat} (hk : k < 64) : lb (lush v (k : Int)) 0 = lb v k := by
  unfold lb lush
  rw [i6_of]
  show ((i6 v).toBitVec >>> (((i3 (k : Int)).toInt64.toUInt64 &&& Int64.toUInt64 63).toBitVec % 64)).getLsbD 0 = _
  rw [shU63 hk, BitVec.ushiftRight_eq', BitVec.getLsbD_ushiftRight, BitVec.toNat_ofNat, Nat.mod_eq_of_lt (show k < 2 ^ 64 by omega), Nat.add_zero]
theorem lb_ssh {v : Int} {k : Nat} (hk : k < 64) : lb (lshr v (k : Int)) 0 = lb v k := by
  unfold lb lshr
  rw [i6_of]
  show (BitVec.sshiftRight' (i6 v).toBitVec (((i3 (k : Int)).toInt64 &&& 63).toBitVec.smod 64)).getLsbD 0 = _
  rw [sh63 hk]
  show ((i6 v).toBitVec.sshiftRight (BitVec.ofNat 64 k).toNat).getLsbD 0 = _
  rw [BitVec.toNat_ofNat, Nat.mod_eq_of_lt (show k < 2 ^ 64 by omega), BitVec.getLsbD_sshiftRight, Nat.add_zero, if_pos hk]
  simp
/-- a bit asked for -/
theorem bit_u {v : Int} {k : Nat} (hk : k < 64) : lcm (land (lush v (k : Int)) 1) 1 = 0 ↔ lb v k = true := by
  rw [lcm_0, land1, lb_ush hk]
  cases lb v k <;> simp
theorem bit_s {v : Int} {k : Nat} (hk : k < 64) : lcm (land (lshr v (k : Int)) 1) 1 = 0 ↔ lb v k = true := by
  rw [lcm_0, land1, lb_ssh hk]
  cases lb v k <;> simp
theorem zand63 {x : Nat} (h : x ≤ 320) : zand (x : Int) 63 = ((x % 64 : Nat) : Int) := by
  have e := zand_nat (x := x) (y := 63) (by omega) (by omega)
  have e2 : x &&& 63 = x % 64 := Nat.and_two_pow_sub_one_eq_mod x 6
  rw [e2] at e
  exact e
theorem zshr6 {x : Nat} (h : x ≤ 320) : zshr (x : Int) 6 = ((x / 64 : Nat) : Int) := by
  have e := zshr_eq (x := (x : Int)) (by unfold okI; omega) (k := 6) (by omega)
  have e1 : zshr (x : Int) 6 = (x : Int) / 2 ^ 6 := e
  rw [e1]
  omega
/-- five longs: which places are in them -/
def sB5 (g : Nat → Int) (b e : Nat) : Bool := decide (e < 320) && lb (g (b + e / 64)) (e % 64)
theorem sB5_put {g : Nat → Int} {b x e : Nat} (hx : x < 320) : sB5 (aU g (b + x / 64) (lor (g (b + x / 64)) (lshl 1 ((x % 64 : Nat) : Int)))) b e = (sB5 g b e || decide (e = x)) := by
  unfold sB5 aU
  by_cases h3 : e < 320
  · rw [decide_eq_true h3, Bool.true_and, Bool.true_and]
    by_cases h1 : e / 64 = x / 64
    · rw [if_pos (by omega), lb_or, lb_sh (by omega) (by omega), h1]
      by_cases h2 : e = x
      · rw [decide_eq_true h2, decide_eq_true (show e % 64 = x % 64 by omega)]
      · rw [decide_eq_false h2, decide_eq_false (show ¬ e % 64 = x % 64 by omega)]
    · rw [if_neg (by omega), decide_eq_false (show ¬ e = x by omega), Bool.or_false]
  · rw [decide_eq_false h3, decide_eq_false (show ¬ e = x by omega), Bool.false_and, Bool.false_and]
    rfl
