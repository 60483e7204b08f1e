/-! SETS AS NUMBERS; a text is begun; one word; the last riddle -/
theorem enc_tb (p : Nat → Bool) : ∀ n i, (enc p n).testBit i = (decide (i < n) && p i)
  | 0, i => by
    show (0 : Nat).testBit i = _
    rw [Nat.zero_testBit]
    simp
  | n + 1, i => by
    show (enc p n + 2 ^ n * bv (p n)).testBit i = _
    rw [Nat.add_comm, Nat.testBit_two_pow_mul_add _ (enc_lt p n)]
    by_cases h : i < n
    · rw [if_pos h, enc_tb p n i, decide_eq_true h, decide_eq_true (show i < n + 1 by omega)]
    · rw [if_neg h]
      by_cases e : i = n
      · subst e
        rw [Nat.sub_self, decide_eq_true (show i < i + 1 by omega)]
        cases p i <;> rfl
      · rw [decide_eq_false (show ¬ i < n + 1 by omega)]
        obtain ⟨j, hj⟩ : ∃ j, i - n = j + 1 := ⟨i - n - 1, by omega⟩
        rw [hj]
        cases p n with
        | false => exact Nat.zero_testBit _
        | true =>
          show (1 : Nat).testBit (j + 1) = _
          rw [Nat.testBit_succ]
          simp
theorem enc_eq {p : Nat → Bool} {n x : Nat} (h : ∀ i, x.testBit i = (decide (i < n) && p i)) : x = enc p n := by
  apply Nat.eq_of_testBit_eq
  intro i
  rw [h, enc_tb]
def ins (p : Nat → Bool) (r : Nat) : Nat → Bool := fun i => p i || Nat.beq i r
theorem tb_pow (r i : Nat) : (2 ^ r).testBit i = Nat.beq i r := by
  rw [Nat.testBit_two_pow]
  by_cases h : r = i
  · rw [decide_eq_true h, h, Nat.beq_refl]
  · rw [decide_eq_false h, beq_ne (fun z => h z.symm)]
theorem zor_enc (p : Nat → Bool) {r : Nat} (h : r < 20) : zor (enc p 20 : Int) (zshl 1 (r : Int)) = ((enc (ins p r) 20 : Nat) : Int) := by
  have h2 : 2 ^ r < 2147483648 := Nat.lt_of_le_of_lt (Nat.pow_le_pow_right (by decide) (show r ≤ 30 by omega)) (by decide)
  rw [zshl1_nat (by omega), zor_nat (enc_30 p (by omega)) h2]
  congr 1
  apply enc_eq
  intro i
  rw [Nat.testBit_or, enc_tb, tb_pow]
  unfold ins
  by_cases hi : i < 20
  · rw [decide_eq_true hi]; simp
  · rw [decide_eq_false hi, beq_ne (by omega)]; simp
theorem zdl_enc (p : Nat → Bool) {r : Nat} (h : r < 20) : zand (enc p 20 : Int) (zxor (zshl 1 (r : Int)) (-1)) = ((enc (del p r) 20 : Nat) : Int) := by
  rw [zshl1_nat (by omega)]
  have e0 : i3 (zxor ((2 ^ r : Nat) : Int) (-1)) = i3 ((2 ^ r : Nat) : Int) ^^^ i3 (-1) := i3_of _
  show (i3 (enc p 20 : Int) &&& i3 (zxor ((2 ^ r : Nat) : Int) (-1))).toBitVec.toInt = _
  rw [e0, Int32.toBitVec_and, Int32.toBitVec_xor, i3_bv, i3_bv, ← bv_int (enc_30 (del p r) (n := 20) (by omega))]
  congr 1
  have e1 : (i3 (-1)).toBitVec = BitVec.allOnes 32 := by decide
  rw [e1]
  apply BitVec.eq_of_getLsbD_eq
  intro i hi
  rw [BitVec.getLsbD_and, BitVec.getLsbD_xor, BitVec.getLsbD_ofNat, BitVec.getLsbD_ofNat, BitVec.getLsbD_ofNat, BitVec.getLsbD_allOnes, enc_tb, enc_tb, tb_pow, decide_eq_true hi]
  unfold del
  cases decide (i < 20) <;> cases p i <;> cases Nat.beq i r <;> rfl
theorem bit_enc (p : Nat → Bool) {r : Nat} (h : r < 20) : zand (zshr (enc p 20 : Int) (r : Int)) 1 = bi (p r) := by
  have h1 := enc_30 p (n := 20) (by omega)
  rw [zshr_eq (by unfold okI; omega) (by omega)]
  have e : ((enc p 20 : Nat) : Int) / 2 ^ r = ((enc p 20 / 2 ^ r : Nat) : Int) := by
    norm_cast
  rw [e]
  have h2 : enc p 20 / 2 ^ r < 2147483648 := Nat.lt_of_le_of_lt (Nat.div_le_self _ _) h1
  have := zand_nat (x := enc p 20 / 2 ^ r) (y := 1) h2 (by decide)
  have this : zand ((enc p 20 / 2 ^ r : Nat) : Int) 1 = ((enc p 20 / 2 ^ r &&& 1 : Nat) : Int) := this
  rw [this, Nat.and_one_is_mod]
  have tb := enc_tb p 20 r
  rw [Nat.testBit_eq_decide_div_mod_eq, decide_eq_true h, Bool.true_and] at tb
  have hm : enc p 20 / 2 ^ r % 2 < 2 := Nat.mod_lt _ (by decide)
  cases hp : p r with
  | true =>
    rw [hp] at tb
    rw [of_decide_eq_true tb]
    rfl
  | false =>
    rw [hp] at tb
    have := of_decide_eq_false tb
    rw [show enc p 20 / 2 ^ r % 2 = 0 by omega]
    rfl
theorem tkS_le {f : Nat → Int} {n a : Nat} : tkS f n a ≤ 4 := by
  unfold tkS
  repeat' split
  all_goals omega
theorem tkS_0 {f : Nat → Int} {n a : Nat} : tkS f n a = 0 ↔ ¬ tkF f n a < n := by
  unfold tkS
  repeat' split
  all_goals omega
/-- the first n bytes of the tape -/
def byt (l : List Int) : Nat → Int := fun k => l.getD k 0
def oneW (f : Nat → Int) (n : Nat) : Bool := decide (tkS f n 0 = 2 ∧ n ≤ spp isB f n (tkT f n 0))
def BGC (a k : Nat) : Prop := a = 73 ∨ (a = 64 ∧ k = 1)
def BGM (a k : Nat) : Prop := a = 220 ∧ 15 ≤ k ∧ k ≤ 22
section ONE
variable {d : Nat} {τ : T2} {Q : RS → T2 → Prop} {n : Nat} {l : List Int}
/-- takeText of the class, starts of the model -/
theorem c138 (F : FX2 τ) (T : TpC τ l) (h3 : l.length ≤ 300) (hn : n ≤ l.length) (hd : 20 ≤ d) (k : ∀ τ1, OC BGC τ τ1 → FX2 τ1 → tN τ1 = tN τ → tZ τ1 = tZ τ → TxC τ1 (byt l) n → TkC τ1 (byt l) n 0 → tI τ1 64 1 = 0 → tI τ1 73 6 = 0 → tI τ1 73 7 = 0 → tI τ1 73 8 = 0 → tI τ1 73 10 = 0 → Q (.inl none) τ1) : G d 138 0 [vR 64, vI (n : Int)] [] τ Q := by
  have s73 : ∀ τ : T2, FX2 τ → tS τ 73 = (1, 9, 0) := fun τ F => F.sh rfl (by omega) (by omega)
  refine t138_0 (q2 := 73) (by omega) (F.sh rfl (by omega) (by omega)) (F.p rfl) (s73 τ F) ?_
  rw [F.p (show PTI 64 0 = some 65 from rfl)]
  refine t67_0 (r1 := 65) (n3 := 300) (by omega) (s73 τ F) (F.sh rfl (by omega) (by omega)) (fun _ => ?_) (fun c => by omega)
  rw [if_neg (by omega)]
  have pb : ∀ k, BGC 73 k := fun k => Or.inl rfl
  have o1 : OC BGC τ (uI (uI (uI (uI (uI (uI (uP τ 73 0 (some 65)) 73 1 (n : Int)) 73 5 0) 73 6 0) 73 7 0) 73 8 0) 73 10 0) := ((((((OC.rf.q (pb 0)).j (pb 1)).j (pb 5)).j (pb 6)).j (pb 7)).j (pb 8)).j (pb 10)
  have F1 : FX2 (uI (uI (uI (uI (uI (uI (uP τ 73 0 (some 65)) 73 1 (n : Int)) 73 5 0) 73 6 0) 73 7 0) 73 8 0) 73 10 0) := (F.q rfl).j.j.j.j.j.j
  have X1 : TxC (uI (uI (uI (uI (uI (uI (uP τ 73 0 (some 65)) 73 1 (n : Int)) 73 5 0) 73 6 0) 73 7 0) 73 8 0) 73 10 0) (byt l) n := by
    refine ⟨?_, ?_, by omega, fun k hk => ?_⟩
    · rw [tP_uI, tP_uI, tP_uI, tP_uI, tP_uI, tP_uI, tP_uP, if_pos ⟨rfl, rfl⟩]
    · rw [tI_uI, if_neg (by decide), tI_uI, if_neg (by decide), tI_uI, if_neg (by decide), tI_uI, if_neg (by decide), tI_uI, if_neg (by decide), tI_uI, if_pos ⟨rfl, rfl⟩]
    · rw [tI_uI, if_neg (by omega), tI_uI, if_neg (by omega), tI_uI, if_neg (by omega), tI_uI, if_neg (by omega), tI_uI, if_neg (by omega), tI_uI, if_neg (by omega), tI_uP]
      exact T.2 k (by omega)
  have e5 : tI (uI (uI (uI (uI (uI (uI (uP τ 73 0 (some 65)) 73 1 (n : Int)) 73 5 0) 73 6 0) 73 7 0) 73 8 0) 73 10 0) 73 5 = ((0 : Nat) : Int) := by rw [tI_uI, if_neg (by decide), tI_uI, if_neg (by decide), tI_uI, if_neg (by decide), tI_uI, if_neg (by decide), tI_uI, if_pos ⟨rfl, rfl⟩]; rfl
  have e6 : tI (uI (uI (uI (uI (uI (uI (uP τ 73 0 (some 65)) 73 1 (n : Int)) 73 5 0) 73 6 0) 73 7 0) 73 8 0) 73 10 0) 73 6 = 0 := by rw [tI_uI, if_neg (by decide), tI_uI, if_neg (by decide), tI_uI, if_neg (by decide), tI_uI, if_pos ⟨rfl, rfl⟩]
  have e7 : tI (uI (uI (uI (uI (uI (uI (uP τ 73 0 (some 65)) 73 1 (n : Int)) 73 5 0) 73 6 0) 73 7 0) 73 8 0) 73 10 0) 73 7 = 0 := by rw [tI_uI, if_neg (by decide), tI_uI, if_neg (by decide), tI_uI, if_pos ⟨rfl, rfl⟩]
  have e8 : tI (uI (uI (uI (uI (uI (uI (uP τ 73 0 (some 65)) 73 1 (n : Int)) 73 5 0) 73 6 0) 73 7 0) 73 8 0) 73 10 0) 73 8 = 0 := by rw [tI_uI, if_neg (by decide), tI_uI, if_pos ⟨rfl, rfl⟩]
  have e10 : tI (uI (uI (uI (uI (uI (uI (uP τ 73 0 (some 65)) 73 1 (n : Int)) 73 5 0) 73 6 0) 73 7 0) 73 8 0) 73 10 0) 73 10 = 0 := by rw [tI_uI, if_pos ⟨rfl, rfl⟩]
  have en : tN (uI (uI (uI (uI (uI (uI (uP τ 73 0 (some 65)) 73 1 (n : Int)) 73 5 0) 73 6 0) 73 7 0) 73 8 0) 73 10 0) = tN τ := rfl
  have ez : tZ (uI (uI (uI (uI (uI (uI (uP τ 73 0 (some 65)) 73 1 (n : Int)) 73 5 0) 73 6 0) 73 7 0) 73 8 0) 73 10 0) = tZ τ := rfl
  generalize (uI (uI (uI (uI (uI (uI (uP τ 73 0 (some 65)) 73 1 (n : Int)) 73 5 0) 73 6 0) 73 7 0) 73 8 0) 73 10 0) = τ1 at o1 F1 X1 e5 e6 e7 e8 e10 en ez
  refine c68 F1 X1 e5 (by omega) (by omega) (fun τ2 o2 F2 n2 z2 p2 K2 => t67_52 (t138_12 (F2.sh rfl (by omega) (by omega)) ?_))
  have N := F1.1
  have o3 : OC (fun a k => a = 64 ∧ k = 1) τ2 (uI τ2 64 1 0) := OC.j (P := fun a k => a = 64 ∧ k = 1) OC.rf ⟨rfl, rfl⟩
  have sm : ∀ k, ¬ (k = 2 ∨ k = 3 ∨ k = 4 ∨ k = 5) → tI (uI τ2 64 1 0) 73 k = tI τ1 73 k := fun k hk => by
    rw [tI_uI, if_neg (by omega)]
    exact (o2.2.2.2 73 k (by omega) (fun z => hk z.2)).1
  exact k _ ((o1.tr (o2.mo fun a k z => Or.inl z.1)).j (Or.inr ⟨rfl, rfl⟩)) F2.j (n2.trans en) (z2.trans ez) ((X1.oc F1 o2 (fun a k z => by unfold NXC at z; omega)).oc F2 o3 (fun a k z => by omega)) (K2.oc F2 o3 (fun a k z => by unfold NXC; omega)) (by rw [tI_uI, if_pos ⟨rfl, rfl⟩]) (by rw [sm 6 (by omega)]; exact e6) (by rw [sm 7 (by omega)]; exact e7) (by rw [sm 8 (by omega)]; exact e8) (by rw [sm 10 (by omega)]; exact e10)
theorem m178 (F : FX2 τ) (T : TpM τ l) (h3 : l.length ≤ 300) (hb : ∀ x ∈ l, -128 ≤ x ∧ x ≤ 127) (hn : n ≤ l.length) (hd : 2 ≤ d) (k : ∀ τ1, OC BGM τ τ1 → FX2 τ1 → tN τ1 = tN τ → tZ τ1 = tZ τ → TxM τ1 (byt l) n → TkM τ1 (byt l) n 0 → tI τ1 220 15 = 0 → Q (.inl none) τ1) : G d 178 0 [vR 220, vI (n : Int)] [] τ Q := by
  refine t178_0 (by omega) (F.sh rfl (by omega) (by omega)) ?_
  have pb : ∀ k, 15 ≤ k → k ≤ 22 → BGM 220 k := fun k h1 h2 => ⟨rfl, h1, h2⟩
  have o1 : OC BGM τ (uI (uI (uI τ 220 16 (n : Int)) 220 15 0) 220 17 0) := ((OC.rf.j (pb 16 (by omega) (by omega))).j (pb 15 (by omega) (by omega))).j (pb 17 (by omega) (by omega))
  have F1 : FX2 (uI (uI (uI τ 220 16 (n : Int)) 220 15 0) 220 17 0) := F.j.j.j
  have X1 : TxM (uI (uI (uI τ 220 16 (n : Int)) 220 15 0) 220 17 0) (byt l) n := by
    refine ⟨?_, by omega, fun k hk => ?_, fun k hk => ?_⟩
    · rw [tI_uI, if_neg (by decide), tI_uI, if_neg (by decide), tI_uI, if_pos ⟨rfl, rfl⟩]
    · rw [tI_uI, if_neg (by omega), tI_uI, if_neg (by omega), tI_uI, if_neg (by omega)]
      exact T.2 k (by omega)
    · unfold byt
      rw [List.getD_eq_getElem?_getD, List.getElem?_eq_getElem (show k < l.length by omega)]
      exact hb _ (List.getElem_mem _)
  have e17 : tI (uI (uI (uI τ 220 16 (n : Int)) 220 15 0) 220 17 0) 220 17 = ((0 : Nat) : Int) := by rw [tI_uI, if_pos ⟨rfl, rfl⟩]; rfl
  have e15 : tI (uI (uI (uI τ 220 16 (n : Int)) 220 15 0) 220 17 0) 220 15 = 0 := by rw [tI_uI, if_neg (by decide), tI_uI, if_pos ⟨rfl, rfl⟩]
  have en : tN (uI (uI (uI τ 220 16 (n : Int)) 220 15 0) 220 17 0) = tN τ := rfl
  have ez : tZ (uI (uI (uI τ 220 16 (n : Int)) 220 15 0) 220 17 0) = tZ τ := rfl
  generalize (uI (uI (uI τ 220 16 (n : Int)) 220 15 0) 220 17 0) = τ1 at o1 F1 X1 e17 e15 en ez
  refine m177 F1 X1 e17 (by omega) (by omega) (fun τ2 o2 F2 n2 z2 p2 K2 => t178_19 ?_)
  have N := F1.1
  exact k _ (o1.tr (o2.mo fun a k z => ⟨z.1, by have := z.2; omega, z.2.2⟩)) F2 (n2.trans en) (z2.trans ez) (X1.oc F1 o2 (fun a k z => by unfold NXM at z; omega)) K2 (by rw [(o2.2.2.2 220 15 (by omega) (by unfold NXM; omega)).1]; exact e15)
theorem c71 {f : Nat → Int} (F : FX2 τ) (X : TxC τ f n) (K : TkC τ f n 0) (k1 : oneW f n = true → Q (.inl (some (AI 1))) τ) (k0 : oneW f n = false → Q (.inl (some (AI 0))) τ) : G d 71 0 [vR 73, none] [] τ Q := by
  obtain ⟨X1, X2, X3, X4⟩ := X
  obtain ⟨K1, K2, K3, K4, K5, K6, K7⟩ := K
  have s73 : tS τ 73 = (1, 9, 0) := F.sh rfl (by omega) (by omega)
  have s65 : tS τ 65 = (2, 1, 300) := F.sh rfl (by omega) (by omega)
  have hT := tkT_le (f := f) (n := n) (a := 0) (by omega)
  have e2 : tI τ 73 2 = 2 ↔ tkS f n 0 = 2 := by
    refine ⟨fun h => ?_, K5⟩
    have hs : tkS f n 0 ≤ 4 := tkS_le
    by_cases c0 : tkS f n 0 = 0
    · rw [K3 c0] at h; omega
    · by_cases c1 : tkS f n 0 = 1
      · have := K4 c1; omega
      · by_cases c3 : tkS f n 0 = 3
        · have := (K6 c3).1; omega
        · by_cases c4 : tkS f n 0 = 4
          · have := (K7 c4).1; omega
          · omega
  refine t71_0 s73 ?_
  rw [K2]
  have lp : ∀ (j p : Nat), n - p ≤ j → tkT f n 0 ≤ p → p ≤ n → spp isB f n (tkT f n 0) = spp isB f n p → G d 71 5 [vR 73, vI (p : Int)] [] τ Q := by
    intro j
    induction j with
    | zero =>
      intro p hj h1 h2 h3
      have e : spp isB f n (tkT f n 0) = p := by rw [h3]; exact spp_n (by omega)
      refine t71_5 (q4 := 65) (n6 := 300) s73 X1 s65 (fun c => by rw [X2] at c; omega) (fun _ c => ?_) (fun _ c => ?_) (fun c => by rw [X2] at c; omega) (fun c => by rw [X2] at c; omega)
      · exact k0 (decide_eq_false (fun z => c (e2.mpr z.1)))
      · exact k1 (decide_eq_true ⟨e2.mp c, by omega⟩)
    | succ j ih =>
      intro p hj h1 h2 h3
      by_cases hp : p < n
      · have tp := X4 p hp
        refine t71_5 (q4 := 65) (n6 := 300) s73 X1 s65 (fun c => by omega) (fun c => by rw [X2] at c; omega) (fun c => by rw [X2] at c; omega) (fun _ c => ?_) (fun _ c => ?_)
        · rw [Int.toNat_natCast, tp] at c
          rw [wr_nat (by omega)]
          exact ih (p + 1) (by omega) (by omega) (by omega) (by rw [h3, spp_y hp (isB_t c)])
        · rw [Int.toNat_natCast, tp] at c
          refine k0 (decide_eq_false (fun z => ?_))
          have := z.2
          rw [h3, spp_n (fun y => by rw [isB_f c] at y; exact absurd y.2 (by decide))] at this
          omega
      · exact ih p (by omega) h1 h2 h3
  exact lp (n - tkT f n 0) (tkT f n 0) (Nat.le_refl _) (Nat.le_refl _) hT.2 rfl
theorem m208 (F : FX2 τ) (T : TpM τ l) (h3 : l.length ≤ 300) (hb : ∀ x ∈ l, -128 ≤ x ∧ x ≤ 127) (hn : n ≤ l.length) (hd : 4 ≤ d) (k1 : ∀ τ1, OC BGM τ τ1 → FX2 τ1 → tN τ1 = tN τ → tZ τ1 = tZ τ → tI τ1 220 15 = 0 → oneW (byt l) n = true → tI τ1 220 22 = wen (tkW (byt l) n 0) → Q (.inl (some (AI 1))) τ1) (k0 : ∀ τ1, OC BGM τ τ1 → FX2 τ1 → tN τ1 = tN τ → tZ τ1 = tZ τ → tI τ1 220 15 = 0 → oneW (byt l) n = false → Q (.inl (some (AI 0))) τ1) : G d 208 0 [vR 220, vI (n : Int), none, none, none] [] τ Q := by
  have s0 : ∀ τ : T2, FX2 τ → tS τ 220 = (1, 21, 0) := fun τ F => F.sh rfl (by omega) (by omega)
  refine t208_0 (by omega) (s0 τ F) (m178 F T h3 hb hn (by omega) fun τ1 o1 F1 n1 z1 X1 K1 e15 => ?_)
  have q18 : tI τ1 220 18 = 2 ↔ tkS (byt l) n 0 = 2 := by
    obtain ⟨-, -, a0, a1, a2, a3, a4⟩ := K1
    refine ⟨fun h => ?_, fun h => (a2 h).1⟩
    have hs : tkS (byt l) n 0 ≤ 4 := tkS_le
    by_cases c0 : tkS (byt l) n 0 = 0
    · rw [a0 c0] at h; omega
    · by_cases c1 : tkS (byt l) n 0 = 1
      · rw [a1 c1] at h; omega
      · by_cases c3 : tkS (byt l) n 0 = 3
        · have := (a3 c3).1; omega
        · by_cases c4 : tkS (byt l) n 0 = 4
          · have := (a4 c4).1; omega
          · omega
  have hT := tkT_le (f := byt l) (n := n) (a := 0) (by omega)
  refine t208_5 (by omega) (s0 _ F1) (fun c => ?_) (fun c => ?_)
  · have hs := q18.mp c
    have ew := (K1.2.2.2.2.1 hs).2
    have e17 := K1.2.1 (by omega)
    rw [ew]
    refine m177 F1 X1 e17 hT.2 (by omega) fun τ2 o2 F2 n2 z2 p2 K2 => ?_
    have N := F1.1
    have e15' : tI (uI τ2 220 22 (wen (tkW (byt l) n 0))) 220 15 = 0 := by
      rw [tI_uI, if_neg (by decide), (o2.2.2.2 220 15 (by omega) (by unfold NXM; omega)).1]; exact e15
    have o3 : OC BGM τ (uI τ2 220 22 (wen (tkW (byt l) n 0))) := (o1.tr (o2.mo fun a k z => ⟨z.1, by have := z.2; omega, z.2.2⟩)).j ⟨rfl, by omega, by omega⟩
    have q2 : tI τ2 220 18 = 1 ↔ ¬ tkF (byt l) n (tkT (byt l) n 0) < n := by
      obtain ⟨-, -, a0, a1, a2, a3, a4⟩ := K2
      have hs : tkS (byt l) n (tkT (byt l) n 0) ≤ 4 ∧ (tkS (byt l) n (tkT (byt l) n 0) = 0 ↔ ¬ tkF (byt l) n (tkT (byt l) n 0) < n) := ⟨tkS_le, tkS_0⟩
      rw [← hs.2]
      refine ⟨fun h => ?_, a0⟩
      by_cases c1 : tkS (byt l) n (tkT (byt l) n 0) = 1
      · rw [a1 c1] at h; omega
      · by_cases c2 : tkS (byt l) n (tkT (byt l) n 0) = 2
        · have := (a2 c2).1; omega
        · by_cases c3 : tkS (byt l) n (tkT (byt l) n 0) = 3
          · have := (a3 c3).1; omega
          · by_cases c4 : tkS (byt l) n (tkT (byt l) n 0) = 4
            · have := (a4 c4).1; omega
            · omega
    refine t208_24 (s0 _ F2) (fun c => ?_) (fun c => ?_)
    · refine k0 _ o3 F2.j (n2.trans n1) (z2.trans z1) e15' (decide_eq_false fun z => c (q2.mpr ?_))
      have := z.2
      show ¬ spp isB (byt l) n (tkT (byt l) n 0) < n
      omega
    · refine k1 _ o3 F2.j (n2.trans n1) (z2.trans z1) e15' (decide_eq_true ⟨hs, ?_⟩) (by rw [tI_uI, if_pos ⟨rfl, rfl⟩])
      have : ¬ spp isB (byt l) n (tkT (byt l) n 0) < n := q2.mp c
      omega
  · exact k0 _ o1 F1 n1 z1 e15 (decide_eq_false fun z => c (q18.mpr z.1))
end ONE
/-- the last riddle -/
def lstR (f : Nat → Int) : Nat → Nat → Int
  | 0, _ => -1
  | j + 1, k => if f k = 2 then (k : Int) else lstR f j (k + 1)
def lasR (c : CO) : Int := lstR (fun r => cD c 1 r 0) (cn c 0) 0
theorem c134 {d : Nat} {τ : T2} {Q : RS → T2 → Prop} {c : CO} (F : FX2 τ) (R : RC τ c) (w : WF c) (h : Q (.inl (some (AI (lasR c)))) τ) : G d 134 0 [vR 64, none] [] τ Q := by
  have h20 := w.1.1
  have lp : ∀ (j k : Nat), k + j = cn c 0 → Q (.inl (some (AI (lstR (fun r => cD c 1 r 0) j k)))) τ → G d 134 2 [vR 64, vI (k : Int)] [] τ Q := by
    intro j
    induction j with
    | zero =>
      intro k hk hq
      exact t134_2 (q4 := 66) (n6 := 20) (q9 := 92) (F.sh rfl (by omega) (by omega)) (F.p rfl) (F.sh rfl (by omega) (by omega)) (fun c => by rw [R.1.1] at c; omega) (fun c => by rw [R.1.1] at c; omega) (F.sh rfl (by omega) (by omega)) (fun _ => hq) (fun c => by rw [R.1.1] at c; omega) (fun c => by rw [R.1.1] at c; omega) (fun c => by rw [R.1.1] at c; omega)
    | succ j ih =>
      intro k hk hq
      have e0 := R.r0 (r := k) (by omega)
      simp only [lstR] at hq
      refine t134_2 (q4 := 66) (n6 := 20) (q9 := 92 + 4 * k) (F.sh rfl (by omega) (by omega)) (F.p rfl) (F.sh rfl (by omega) (by omega)) (fun _ _ => by omega) (fun _ _ => by rw [Int.toNat_natCast]; exact F.p (ptR k (by omega)).1) (F.sh (shR k (by omega)).1 (by omega) (by omega)) (fun c => by rw [R.1.1] at c; omega) (fun _ c => by omega) (fun _ _ c => ?_) (fun _ _ c => ?_)
      · rw [e0] at c
        rw [if_neg c] at hq
        rw [wr_nat (by omega)]
        exact ih (k + 1) (by omega) hq
      · rw [e0] at c
        rw [if_pos c] at hq
        exact hq
  exact t134_0 (lp (cn c 0) 0 (by omega) h)
theorem m209 {d : Nat} {τ : T2} {Q : RS → T2 → Prop} {c : CO} (F : FX2 τ) (R : RM τ c) (w : WF c) (h : Q (.inl (some (AI (lasR c)))) τ) : G d 209 0 [vR 220, none] [] τ Q := by
  have h20 := w.1.1
  have lp : ∀ (j k : Nat), k + j = cn c 0 → Q (.inl (some (AI (lstR (fun r => cD c 1 r 0) j k)))) τ → G d 209 2 [vR 220, vI (k : Int)] [] τ Q := by
    intro j
    induction j with
    | zero =>
      intro k hk hq
      exact t209_2 (q4 := 221) (n6 := 20) (q9 := 336) (F.sh rfl (by omega) (by omega)) (F.p rfl) (F.sh rfl (by omega) (by omega)) (fun c => by rw [R.1.1] at c; omega) (fun c => by rw [R.1.1] at c; omega) (F.sh rfl (by omega) (by omega)) (fun _ _ => hq) (fun _ c => by rw [R.1.1] at c; omega) (fun c => by rw [R.1.1] at c; omega) (fun c => by rw [R.1.1] at c; omega) (fun c => by rw [R.1.1] at c; omega)
    | succ j ih =>
      intro k hk hq
      have e0 := R.rr (r := k) (k := 0) (by omega) (by omega)
      simp only [lstR] at hq
      refine t209_2 (q4 := 221) (n6 := 20) (q9 := 336 + 4 * k) (F.sh rfl (by omega) (by omega)) (F.p rfl) (F.sh rfl (by omega) (by omega)) (fun _ => by omega) (fun _ => by rw [Int.toNat_natCast]; exact F.p (ptM k (by omega)).1) (F.sh (shM k (by omega)).1 (by omega) (by omega)) (fun c => by rw [R.1.1] at c; omega) (fun c => by rw [R.1.1] at c; omega) (fun _ _ c => by rw [R.1.1] at c; omega) (fun _ c _ => ?_) (fun _ c => ?_)
      · rw [e0] at c
        rw [if_pos c] at hq
        exact hq
      · rw [e0] at c
        rw [if_neg c] at hq
        rw [wr_nat (by omega)]
        exact ih (k + 1) (by omega) hq
  exact t209_0 (lp (cn c 0) 0 (by omega) h)
