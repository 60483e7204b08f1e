/-! WORDS AND SIGNS OF A TEXT, on both sides -/
def isW (f : Nat → Int) (n a : Nat) (t : List Nat) : Bool := decide (tkS f n a = 2 ∧ tkT f n a - tkF f n a = t.length ∧ ∀ j, j < t.length → f (tkF f n a + j) = ((t.getD j 0 : Nat) : Int))
def isS (f : Nat → Int) (n a : Nat) (x : Int) : Bool := decide (tkS f n a = 4 ∧ f (tkF f n a) = x)
section TKS
variable {τ : T2} {f : Nat → Int} {n a : Nat}
theorem TkC.w (K : TkC τ f n a) : tI τ 73 2 = 2 ↔ tkS f n a = 2 := by
  obtain ⟨-, -, k0, k1, k2, k3, k4⟩ := K
  have := tkS_le (f := f) (n := n) (a := a)
  by_cases h0 : tkS f n a = 0
  · have := k0 h0; omega
  · by_cases h1 : tkS f n a = 1
    · have := k1 h1; omega
    · by_cases h2 : tkS f n a = 2
      · have := k2 h2; omega
      · by_cases h3 : tkS f n a = 3
        · have := (k3 h3).1; omega
        · have := (k4 (by omega)).1; omega
theorem TkC.e (K : TkC τ f n a) : tI τ 73 2 = 0 ↔ tkS f n a = 0 := by
  obtain ⟨-, -, k0, k1, k2, k3, k4⟩ := K
  have := tkS_le (f := f) (n := n) (a := a)
  by_cases h0 : tkS f n a = 0
  · have := k0 h0; omega
  · by_cases h1 : tkS f n a = 1
    · have := k1 h1; omega
    · by_cases h2 : tkS f n a = 2
      · have := k2 h2; omega
      · by_cases h3 : tkS f n a = 3
        · have := (k3 h3).1; omega
        · have := (k4 (by omega)).1; omega
theorem TkC.nu (K : TkC τ f n a) : (tI τ 73 2 = 3 ↔ tkS f n a = 3) ∧ (tkS f n a = 3 → tI τ 73 3 = tkN f n a) := by
  obtain ⟨-, -, k0, k1, k2, k3, k4⟩ := K
  refine ⟨?_, fun h => (k3 h).2⟩
  have := tkS_le (f := f) (n := n) (a := a)
  by_cases h0 : tkS f n a = 0
  · have := k0 h0; omega
  · by_cases h1 : tkS f n a = 1
    · have := k1 h1; omega
    · by_cases h2 : tkS f n a = 2
      · have := k2 h2; omega
      · by_cases h3 : tkS f n a = 3
        · have := (k3 h3).1; omega
        · have := (k4 (by omega)).1; omega
theorem TkC.sg (K : TkC τ f n a) {x : Int} (hx : isG x = true) : (tI τ 73 2 = 4 ∧ tI τ 73 3 = x) ↔ isS f n a x = true := by
  obtain ⟨-, -, k0, k1, k2, k3, k4⟩ := K
  have hl := tkS_le (f := f) (n := n) (a := a)
  unfold isS
  rw [decide_eq_true_eq]
  by_cases h4 : tkS f n a = 4
  · have := k4 h4
    rw [this.1, this.2]
    exact ⟨fun h => ⟨h4, h.2⟩, fun h => ⟨rfl, h.2⟩⟩
  · refine ⟨fun h => ?_, fun h => absurd h.1 h4⟩
    exfalso
    by_cases h0 : tkS f n a = 0
    · have := k0 h0; omega
    · by_cases h1 : tkS f n a = 1
      · rcases k1 h1 with q | ⟨q1, q2⟩
        · omega
        · rw [h.2, hx] at q2; cases q2
      · by_cases h2 : tkS f n a = 2
        · have := k2 h2; omega
        · have := (k3 (by omega)).1; omega
theorem TkM.so (K : TkM τ f n a) (j : Nat) (hj : j = 2 ∨ j = 3 ∨ j = 4) : tI τ 220 18 = (j : Int) ↔ tkS f n a = j := by
  obtain ⟨-, -, k0, k1, k2, k3, k4⟩ := K
  have := tkS_le (f := f) (n := n) (a := a)
  by_cases h0 : tkS f n a = 0
  · have := k0 h0; omega
  · by_cases h1 : tkS f n a = 1
    · have := k1 h1; omega
    · by_cases h2 : tkS f n a = 2
      · have := (k2 h2).1; omega
      · by_cases h3 : tkS f n a = 3
        · have := (k3 h3).1; omega
        · have := (k4 (by omega)).1; omega
theorem TkM.e (K : TkM τ f n a) : tI τ 220 18 = 1 ↔ tkS f n a = 0 := by
  obtain ⟨-, -, k0, k1, k2, k3, k4⟩ := K
  have := tkS_le (f := f) (n := n) (a := a)
  by_cases h0 : tkS f n a = 0
  · have := k0 h0; omega
  · by_cases h1 : tkS f n a = 1
    · have := k1 h1; omega
    · by_cases h2 : tkS f n a = 2
      · have := (k2 h2).1; omega
      · by_cases h3 : tkS f n a = 3
        · have := (k3 h3).1; omega
        · have := (k4 (by omega)).1; omega
end TKS
/-- a token takes room -/
theorem tk_w {f : Nat → Int} {n a : Nat} (ha : a ≤ n) (h : tkS f n a ≠ 0) : a < tkT f n a ∧ tkT f n a ≤ n := by
  have h1 := tkF_le (f := f) ha
  have hq : tkF f n a < n := by
    by_cases q : tkF f n a < n
    · exact q
    · exact absurd (tkT_E q).2 h
  cases e : isL (f (tkF f n a)) with
  | true => have := tkT_L hq e; omega
  | false =>
    cases e1 : isD (f (tkF f n a)) with
    | true => have := tkT_D hq e e1; omega
    | false => have := (tkT_G hq e e1).1; omega
theorem isW_t {f : Nat → Int} {n a : Nat} {t : List Nat} (ha : a ≤ n) (h : isW f n a t = true) : a + t.length ≤ tkT f n a ∧ tkT f n a ≤ n ∧ a < tkT f n a := by
  unfold isW at h
  rw [decide_eq_true_eq] at h
  have h1 := tk_w ha (show tkS f n a ≠ 0 by omega)
  have h2 := tkF_le (f := f) ha
  have h3 := tkT_le (f := f) ha
  omega
theorem isS_t {f : Nat → Int} {n a : Nat} {x : Int} (ha : a ≤ n) (h : isS f n a x = true) : a < tkT f n a ∧ tkT f n a ≤ n := by
  unfold isS at h
  rw [decide_eq_true_eq] at h
  exact tk_w ha (by omega)
/-- letters of a word token -/
theorem tk_l {f : Nat → Int} {n a : Nat} (h : tkS f n a = 2) : ∀ i, i < tkT f n a - tkF f n a → isL (f (tkF f n a + i)) = true := by
  intro i hi
  have hq : tkF f n a < n := by
    by_cases q : tkF f n a < n
    · exact q
    · have := (tkT_E q).2; omega
  cases e : isL (f (tkF f n a)) with
  | true =>
    have := tkT_L hq e
    exact spp_in (p := isL) (f := f) (n := n) (k := tkF f n a) (by omega) (by rw [← this.1]; omega)
  | false =>
    cases e1 : isD (f (tkF f n a)) with
    | true => have := tkT_D hq e e1; omega
    | false =>
      have := (tkT_G hq e e1).2
      rw [h] at this
      cases hg : isG (f (tkF f n a)) with
      | true => rw [hg] at this; cases this
      | false => rw [hg] at this; cases this
section WRD
variable {d : Nat} {τ : T2} {Q : RS → T2 → Prop} {f : Nat → Int} {n a : Nat}
theorem c70 (F : FX2 τ) (K : TkC τ f n a) (k1 : tkS f n a = 2 → Q (.inl (some (AI 1))) τ) (k0 : tkS f n a ≠ 2 → Q (.inl (some (AI 0))) τ) : G d 70 0 [vR 73] [] τ Q := t70_0 (F.sh rfl (by omega) (by omega)) (fun h => k0 (fun z => h (K.w.mpr z))) (fun h => k1 (K.w.mp h))
theorem c73 (F : FX2 τ) (K : TkC τ f n a) {x : Int} (hx : isG x = true) (h : Q (.inl (some (AI (bi (isS f n a x))))) τ) : G d 73 0 [vR 73, vI x] [] τ Q := by
  have key := K.sg hx
  have no : ¬ (tI τ 73 2 = 4 ∧ tI τ 73 3 = x) → Q (.inl (some (AI 0))) τ := fun z => by
    rw [show isS f n a x = false from Bool.eq_false_iff.mpr (fun y => z (key.mpr y))] at h; exact h
  refine t73_0 (F.sh rfl (by omega) (by omega)) (fun z => no (fun y => z y.1)) (fun _ z => no (fun y => z y.2)) (fun h1 h2 => ?_)
  rw [key.mp ⟨h1, h2⟩] at h
  exact h
theorem c72 (F : FX2 τ) (X : TxC τ f n) (K : TkC τ f n a) (ha : a ≤ n) {s : Nat} {t : List Nat} (hs : STR s = some t) (hd : 17 ≤ d) (h : Q (.inl (some (AI (bi (isW f n a t))))) τ) : G d 72 0 [vR 73, vR s, none] [] τ Q := by
  have s73 : tS τ 73 = (1, 9, 0) := F.sh rfl (by omega) (by omega)
  obtain ⟨x1, x2, x3, x4⟩ := X
  obtain ⟨k4, k5, -⟩ := id K
  have hF := tkF_le (f := f) ha
  have hT := tkT_le (f := f) ha
  have no : ¬ (tkS f n a = 2 ∧ tkT f n a - tkF f n a = t.length ∧ ∀ j, j < t.length → f (tkF f n a + j) = ((t.getD j 0 : Nat) : Int)) → Q (.inl (some (AI 0))) τ := fun z => by
    unfold isW at h
    rw [decide_eq_false z] at h
    exact h
  refine t72_0 (r1 := some s) hd s73 (fun z => no (fun y => z (K.w.mpr y.1))) (fun z => ?_)
  have z2 := K.w.mp z
  refine g_sln rfl rfl rfl hd hs ?_
  refine g_sk 1 (pc1 := 13) (st1 := [AR 73, AI (t.length : Int)]) rfl ?_
  refine g_gI rfl (ci := 9) (k := 5) rfl s73 ?_
  refine g_sk 1 (pc1 := 17) (st1 := [AR 73, AI (tI τ 73 5), AI (t.length : Int)]) rfl ?_
  refine g_gI rfl (ci := 9) (k := 4) rfl s73 ?_
  refine g_sk 1 (pc1 := 21) (st1 := [AI (wr (tI τ 73 5 - tI τ 73 4)), AI (t.length : Int)]) rfl ?_
  have e1 : wr (tI τ 73 5 - tI τ 73 4) = ((tkT f n a - tkF f n a : Nat) : Int) := by
    rw [k4, k5, wr_id (by unfold okI; omega)]
    omega
  rw [e1]
  clear e1
  refine g_br2 rfl (t := 26) rfl (fun c => ?_) (fun c => ?_)
  · have c : (t.length : Int) = ((tkT f n a - tkF f n a : Nat) : Int) := of_decide_eq_true c
    have el : tkT f n a - tkF f n a = t.length := by omega
    have lp : ∀ (j i : Nat), i + j = t.length → (∀ p, p < i → f (tkF f n a + p) = ((t.getD p 0 : Nat) : Int)) → G d 72 28 [vR 73, vR s, vI (i : Int)] [] τ Q := by
      intro j
      induction j with
      | zero =>
        intro i hi hp
        refine t72_28 (r1 := some s) hd (g_sln rfl rfl rfl hd hs ?_)
        refine g_br2 rfl (t := 76) rfl (fun _ => ?_) (fun c => absurd (of_decide_eq_false c) (by omega))
        refine g_sk 1 (pc1 := 77) (st1 := [AI 1]) rfl ?_
        refine g_zret rfl rfl (by decide) ?_
        unfold isW at h
        rw [decide_eq_true ⟨z2, el, fun p hp2 => hp p (by omega)⟩] at h
        exact h
      | succ j ih =>
        intro i hi hp
        refine t72_28 (r1 := some s) hd (g_sln rfl rfl rfl hd hs ?_)
        refine g_br2 rfl (t := 76) rfl (fun c => absurd (of_decide_eq_true c) (by omega)) (fun _ => ?_)
        refine g_sk 1 (pc1 := 37) (st1 := [AR 73]) rfl ?_
        refine g_gI rfl (ci := 9) (k := 4) rfl s73 ?_
        refine g_sk 3 (pc1 := 43) (st1 := [AR 73, AI (wr (tI τ 73 4 + (i : Int)))]) rfl ?_
        refine g_gI rfl (ci := 9) (k := 1) rfl s73 ?_
        have e1 : wr (tI τ 73 4 + (i : Int)) = ((tkF f n a + i : Nat) : Int) := by
          rw [k4, wr_id (by unfold okI; omega)]
          omega
        rw [e1]
        refine g_br2 rfl (t := 76) rfl (fun c => absurd (of_decide_eq_true c) (by rw [x2]; clear e1; omega)) (fun _ => ?_)
        refine g_sk 1 (pc1 := 50) (st1 := [AR 73]) rfl ?_
        refine g_gQ rfl (ci := 9) (k := 0) rfl s73 x1 ?_
        refine g_sk 1 (pc1 := 54) (st1 := [AR 73, AR 65]) rfl ?_
        refine g_gI rfl (ci := 9) (k := 4) rfl s73 ?_
        refine g_sk 2 (pc1 := 59) (st1 := [AI (wr (tI τ 73 4 + (i : Int))), AR 65]) rfl ?_
        rw [e1]
        clear e1
        refine g_bald (ty := 1) (n := 300) rfl (F.sh rfl (by omega) (by omega)) (by decide) (by omega) (by omega) ?_
        rw [Int.toNat_natCast, x4 _ (by omega)]
        refine g_sk 2 (pc1 := 62) (st1 := [AI (i : Int), AR s, AI (f (tkF f n a + i))]) rfl ?_
        refine g_sch rfl rfl rfl hd hs (by omega) (by omega) ?_
        rw [Int.toNat_natCast]
        refine g_br2 rfl (t := 70) rfl (fun c => ?_) (fun c => ?_)
        · have c := of_decide_eq_true c
          refine g_sx 2 (pc1 := 28) (L1 := [vR 73, vR s, vI (wr ((i : Int) + 1))]) (st1 := []) rfl ?_
          rw [wr_nat (by have := (show t.length ≤ 300 by omega); omega)]
          refine ih (i + 1) (by omega) (fun p hp2 => ?_)
          by_cases e : p = i
          · rw [e]; exact c
          · exact hp p (by omega)
        · have c := of_decide_eq_false c
          refine g_sk 1 (pc1 := 69) (st1 := [AI 0]) rfl ?_
          exact g_zret rfl rfl (by decide) (no (fun y => c (y.2.2 i (by omega))))
    refine g_sx 2 (pc1 := 28) (L1 := [vR 73, vR s, vI 0]) (st1 := []) rfl ?_
    exact lp t.length 0 (by omega) (fun p hp => by omega)
  · have c : ¬ (t.length : Int) = ((tkT f n a - tkF f n a : Nat) : Int) := of_decide_eq_false c
    refine g_sk 1 (pc1 := 25) (st1 := [AI 0]) rfl ?_
    exact g_zret rfl rfl (by decide) (no (fun y => c (by omega)))
theorem m180 (F : FX2 τ) (K : TkM τ f n a) {x : Int} (h : Q (.inl (some (AI (bi (isS f n a x))))) τ) : G d 180 0 [vR 220, vI x] [] τ Q := by
  have hk := K.so 4 (by omega)
  have no : ¬ (tkS f n a = 4 ∧ f (tkF f n a) = x) → Q (.inl (some (AI 0))) τ := fun z => by
    unfold isS at h; rw [decide_eq_false z] at h; exact h
  refine t180_0 (F.sh rfl (by omega) (by omega)) (fun z => no (fun y => z (hk.mpr y.1))) (fun z z2 => no (fun y => z2 (by rw [(K.2.2.2.2.2.2 y.1).2]; exact y.2))) (fun z z2 => ?_)
  have h4 := hk.mp z
  rw [(K.2.2.2.2.2.2 h4).2] at z2
  unfold isS at h
  rw [decide_eq_true ⟨h4, z2⟩] at h
  exact h
/-- words as numbers are known by them -/
theorem wvl_inj {g h : Nat → Int} {a b : Nat} : ∀ (j k : Nat), (∀ i, i < j → isL (g (a + i)) = true) → (∀ i, i < k → isL (h (b + i)) = true) → wvl g a j = wvl h b k → j = k ∧ ∀ i, i < j → g (a + i) = h (b + i)
  | 0, 0, _, _, _ => ⟨rfl, fun i hi => absurd hi (by omega)⟩
  | 0, k + 1, _, h2, e => by
    exfalso
    have h3 := (wvl_b (f := h) (a := b) k (fun i hi => h2 i (by omega))).1
    have h4 := isL_i (h2 k (by omega))
    have e : (0 : Int) = 32 * wvl h b k + (h (b + k) - 96) := e
    omega
  | j + 1, 0, h1, _, e => by
    exfalso
    have h3 := (wvl_b (f := g) (a := a) j (fun i hi => h1 i (by omega))).1
    have h4 := isL_i (h1 j (by omega))
    have e : 32 * wvl g a j + (g (a + j) - 96) = (0 : Int) := e
    omega
  | j + 1, k + 1, h1, h2, e => by
    have h3 := isL_i (h1 j (by omega))
    have h4 := isL_i (h2 k (by omega))
    have e : 32 * wvl g a j + (g (a + j) - 96) = 32 * wvl h b k + (h (b + k) - 96) := e
    have e1 : wvl g a j = wvl h b k := by omega
    have e2 : g (a + j) = h (b + k) := by omega
    obtain ⟨q1, q2⟩ := wvl_inj j k (fun i hi => h1 i (by omega)) (fun i hi => h2 i (by omega)) e1
    subst q1
    refine ⟨rfl, fun i hi => ?_⟩
    by_cases q : i = j
    · rw [q]; exact e2
    · exact q2 i (by omega)
theorem lcm_0 {x y : Int} : lcm x y = 0 ↔ x = y := by
  unfold lcm
  by_cases h : x < y
  · rw [if_pos h]; exact ⟨fun z => absurd z (by decide), fun z => by omega⟩
  · rw [if_neg h]
    by_cases e : x = y
    · rw [if_pos e]; exact ⟨fun _ => e, fun _ => rfl⟩
    · rw [if_neg e]; exact ⟨fun z => absurd z (by decide), fun z => absurd z e⟩
def tch (t : List Nat) : Nat → Int := fun j => ((t.getD j 0 : Nat) : Int)
def tok (t : List Nat) : Bool := decide (t.length ≤ 12) && (List.range t.length).all fun j => isL (tch t j)
theorem tok_l {t : List Nat} (h : tok t = true) : t.length ≤ 12 ∧ ∀ j, j < t.length → isL (tch t (0 + j)) = true := by
  unfold tok at h
  rw [Bool.and_eq_true, decide_eq_true_eq, List.all_eq_true] at h
  refine ⟨h.1, fun j hj => ?_⟩
  rw [Nat.zero_add]
  exact h.2 j (List.mem_range.mpr hj)
theorem m176 {s : Nat} {t : List Nat} (hs : STR s = some t) (ht : tok t = true) (hd : 17 ≤ d) (h : Q (.inl (some (AL (wvl (tch t) 0 t.length)))) τ) : G d 176 0 [vR s, none, none, none] [] τ Q := by
  obtain ⟨h12, hl⟩ := tok_l ht
  have lp : ∀ (j i : Nat), i + j = t.length → G d 176 4 [vR s, vJ (wvl (tch t) 0 i), none, vI (i : Int)] [] τ Q := by
    intro j
    induction j with
    | zero =>
      intro i hi
      have e : i = t.length := by omega
      refine t176_4 (r0 := some s) hd (g_sln rfl rfl rfl hd hs ?_)
      refine g_br2 rfl (t := 34) rfl (fun _ => ?_) (fun c => absurd (of_decide_eq_false c) (by omega))
      refine g_sk 1 (pc1 := 35) (st1 := [AL (wvl (tch t) 0 i)]) rfl ?_
      rw [e]
      exact g_lret rfl rfl h
    | succ j ih =>
      intro i hi
      refine t176_4 (r0 := some s) hd (g_sln rfl rfl rfl hd hs ?_)
      refine g_br2 rfl (t := 34) rfl (fun c => absurd (of_decide_eq_true c) (by omega)) (fun _ => ?_)
      refine g_sk 5 (pc1 := 17) (st1 := [AI (i : Int), AR s, AL (lshl (wvl (tch t) 0 i) 5)]) rfl ?_
      refine g_sch rfl rfl rfl hd hs (by omega) (by omega) ?_
      rw [Int.toNat_natCast]
      show G d 176 20 _ [AI (tch t i), AL (lshl (wvl (tch t) 0 i) 5)] τ Q
      refine g_sx 9 (pc1 := 4) (L1 := [vR s, vJ (lor (lshl (wvl (tch t) 0 i) 5) (wr (wr (tch t i - 97) + 1))), none, vI (wr ((i : Int) + 1))]) (st1 := []) rfl ?_
      have hc := isL_i (hl i (by omega))
      rw [Nat.zero_add] at hc
      have hw := wvl_60 (f := tch t) (a := 0) (j := i) (by omega) (fun q hq => hl q (by omega))
      have hw2 := (wvl_b (f := tch t) (a := 0) i (fun q hq => hl q (by omega))).2
      have hp : (32 : Int) ^ i ≤ 32 ^ 11 := p32 (by omega)
      have e1 : wr (wr (tch t i - 97) + 1) = tch t i - 96 := by
        rw [wr_id (x := tch t i - 97) (by unfold okI; omega), wr_id (by unfold okI; omega)]
        omega
      have e2 : lor (lshl (wvl (tch t) 0 i) 5) (tch t i - 96) = wvl (tch t) 0 (i + 1) := by
        obtain ⟨v, hv⟩ : ∃ v : Nat, wvl (tch t) 0 i = (v : Int) := ⟨(wvl (tch t) 0 i).toNat, by omega⟩
        obtain ⟨c, hc2⟩ : ∃ c : Nat, tch t i - 96 = (c : Int) := ⟨(tch t i - 96).toNat, by omega⟩
        show _ = 32 * wvl (tch t) 0 i + (tch t (0 + i) - 96)
        rw [Nat.zero_add, hc2, hv]
        rw [hv] at hw2
        clear e1
        rw [wrd_s (by omega) (by omega)]
        omega
      rw [e1, e2, wr_nat (by clear e1 e2; omega)]
      exact ih (i + 1) (by omega)
  exact t176_0 (r0 := some s) (lp t.length 0 (by omega))
theorem m179 (F : FX2 τ) (K : TkM τ f n a) {s : Nat} {t : List Nat} (hs : STR s = some t) (ht : tok t = true) (hd : 18 ≤ d) (h : Q (.inl (some (AI (bi (isW f n a t))))) τ) : G d 179 0 [vR 220, vR s] [] τ Q := by
  have hk := K.so 2 (by omega)
  have no : ¬ (tkS f n a = 2 ∧ tkT f n a - tkF f n a = t.length ∧ ∀ j, j < t.length → f (tkF f n a + j) = ((t.getD j 0 : Nat) : Int)) → Q (.inl (some (AI 0))) τ := fun z => by
    unfold isW at h
    rw [decide_eq_false z] at h
    exact h
  refine t179_0 (r1 := some s) (by omega) (F.sh rfl (by omega) (by omega)) (fun z => no (fun y => z (hk.mpr y.1))) (fun z => ?_)
  have z2 := hk.mp z
  have ew : tI τ 220 22 = wvl f (tkF f n a) (tkT f n a - tkF f n a) := by
    rw [(K.2.2.2.2.1 z2).2, ← wen_wvl]
    rfl
  refine m176 hs ht (by omega) (t179_16 (fun c => ?_) (fun c => ?_))
  · refine no (fun y => c (lcm_0.mpr ?_))
    rw [ew, y.2.1]
    have cg : ∀ j, j ≤ t.length → wvl f (tkF f n a) j = wvl (tch t) 0 j := by
      intro j
      induction j with
      | zero => intro _; rfl
      | succ j ih =>
        intro hj
        show 32 * wvl f (tkF f n a) j + (f (tkF f n a + j) - 96) = 32 * wvl (tch t) 0 j + (tch t (0 + j) - 96)
        rw [ih (by omega), y.2.2 j (by omega), Nat.zero_add]
        rfl
    exact cg t.length (Nat.le_refl _)
  · have c := lcm_0.mp c
    rw [ew] at c
    obtain ⟨q1, q2⟩ := wvl_inj _ _ (tk_l z2) (tok_l ht).2 c
    unfold isW at h
    rw [decide_eq_true ⟨z2, q1, fun j hj => by rw [q2 j (by omega), Nat.zero_add]; rfl⟩] at h
    exact h
end WRD
