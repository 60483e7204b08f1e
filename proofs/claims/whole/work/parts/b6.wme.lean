/-! WORKINGS: what they do, model -/
theorem zdiv2 {n : Nat} (h : n ≤ 24) : zdiv (n : Int) 2 = ((n / 2 : Nat) : Int) := by
  have : ∀ m : Fin 25, zdiv ((m.val : Nat) : Int) 2 = ((m.val / 2 : Nat) : Int) := by decide
  exact this ⟨n, by omega⟩
section WME
variable {d : Nat} {τ : T2} {Q : RS → T2 → Prop} {n q : Nat} {A : Nat → List Int} {u x3 : Int} {r1 : Option Nat}
theorem msh (F : FX2 τ) (g : Nat → Int) (c : Int) : tS (wE τ 220 32 231 g c) 220 = (1, 21, 0) ∧ tS (wE τ 220 32 231 g c) 231 = (2, 1, 37) ∧ tP (wE τ 220 32 231 g c) 220 31 = some 231 := ⟨F.sh rfl (by omega) (by omega), F.sh rfl (by omega) (by omega), F.p rfl⟩
theorem mne : (231 : Nat) ≠ 220 := by omega
theorem mE_an (C : AnM τ A n) {g : Nat → Int} {c : Int} : AnM (wE τ 220 32 231 g c) A n := fun r hr => by
  have h := C r hr
  refine ⟨?_, fun j hj => ?_⟩
  · rw [wE_o (by unfold wP; omega)]; exact h.1
  · rw [wE_o (by unfold wP; omega)]; exact h.2 j hj
/-- shift -/
theorem m286 (F : FX2 τ) {m : Int} (hn : 0 ≤ m ∧ m ≤ 25) {l : List Int} (hl : okL l) (h : ∀ g, gL g (l.map (sh1 m)) → G d 203 7 [vR 220, vQ r1, vI u, vI (wr (x3 + 1)), none, none, none] [] (wE τ 220 32 231 g (l.length : Int)) Q) : ∀ (j i : Nat) (g : Nat → Int), i + j = l.length → (∀ k, k < l.length → g k = if k < i then sh1 m (byt l k) else byt l k) → G d 203 286 [vR 220, vQ r1, vI u, vI x3, vI m, vI (i : Int), none] [] (wE τ 220 32 231 g (l.length : Int)) Q := by
  intro j
  induction j with
  | zero =>
    intro i g hi hg
    obtain ⟨s1, s2, s3⟩ := msh F g (l.length : Int)
    refine t203_286 (n5 := 37) s1 s3 s2 (fun q => by rw [wE_c] at q; omega) (fun _ => h g ?_) (fun q => by rw [wE_c] at q; omega) (fun q => by rw [wE_c] at q; omega)
    intro k hk
    rw [List.length_map] at hk
    rw [byt_map _ hk, hg k hk, if_pos (by omega)]
  | succ j ih =>
    intro i g hi hg
    obtain ⟨s1, s2, s3⟩ := msh F g (l.length : Int)
    have gi := hg i (by omega)
    rw [if_neg (Nat.lt_irrefl i)] at gi
    have ov := okL_g hl (show i < l.length by omega)
    have l24 := hl.1
    have nx : wr ((i : Int) + 1) = ((i + 1 : Nat) : Int) := wr_nat (by omega)
    refine t203_286 (n5 := 37) s1 s3 s2 (fun q => by clear nx; omega) (fun q => by rw [wE_c] at q; omega) (fun _ q => ?_) (fun _ q => ?_)
    · rw [Int.toNat_natCast, wE_g mne, gi] at q
      rw [nx]
      refine ih (i + 1) g (by omega) (fun k hk => ?_)
      rw [hg k hk]
      by_cases e : k = i
      · subst e
        rw [if_neg (by omega), if_pos (by omega), q]
        rfl
      · by_cases e1 : k < i
        · rw [if_pos e1, if_pos (by omega)]
        · rw [if_neg e1, if_neg (by omega)]
    · rw [Int.toNat_natCast, wE_g mne, gi] at q
      rw [nx, Int.toNat_natCast, wE_g mne, gi, (sh_in (by omega) hn).2, wE_ug mne]
      refine ih (i + 1) _ (by omega) (fun k hk => ?_)
      unfold aU
      by_cases e : k = i
      · subst e
        rw [if_pos rfl, if_pos (by omega)]
      · rw [if_neg e, hg k hk]
        by_cases e1 : k < i
        · rw [if_pos e1, if_pos (by omega)]
        · rw [if_neg e1, if_neg (by omega)]
/-- turned about -/
theorem m346 (F : FX2 τ) {l : List Int} (hl : okL l) (h : ∀ g, gL g l.reverse → G d 203 7 [vR 220, vQ r1, vI u, vI (wr (x3 + 1)), none, none, none] [] (wE τ 220 32 231 g (l.length : Int)) Q) : ∀ (j i : Nat) (g : Nat → Int), i + j = l.length / 2 → (∀ k, k < l.length → g k = if k < i ∨ l.length ≤ k + i then byt l (l.length - 1 - k) else byt l k) → G d 203 346 [vR 220, vQ r1, vI u, vI x3, none, vI (i : Int), none] [] (wE τ 220 32 231 g (l.length : Int)) Q := by
  intro j
  induction j with
  | zero =>
    intro i g hi hg
    have l24 := hl.1
    obtain ⟨s1, s2, s3⟩ := msh F g (l.length : Int)
    have no : ¬ (i : Int) < zdiv (tI (wE τ 220 32 231 g (l.length : Int)) 220 32) 2 := by rw [wE_c, zdiv2 l24]; omega
    refine t203_346 (n5 := 37) s1 s3 s2 (fun q => absurd q no) (fun q => absurd q no) (fun q => absurd q no) (fun _ => h g ?_) (fun q => absurd q no)
    intro k hk
    rw [List.length_reverse] at hk
    rw [byt_rev hk, hg k hk]
    by_cases c : k < i ∨ l.length ≤ k + i
    · rw [if_pos c]
    · rw [if_neg c, show l.length - 1 - k = k by clear no; omega]
  | succ j ih =>
    intro i g hi hg
    have l24 := hl.1
    obtain ⟨s1, s2, s3⟩ := msh F g (l.length : Int)
    have ye : ¬ zdiv (tI (wE τ 220 32 231 g (l.length : Int)) 220 32) 2 ≤ (i : Int) := by rw [wE_c, zdiv2 l24]; omega
    have ew : wr (wr ((l.length : Int) - 1) - (i : Int)) = ((l.length - 1 - i : Nat) : Int) := by
      rw [wr_id (x := (l.length : Int) - 1) (by unfold okI; clear ye; omega), wr_id (by unfold okI; clear ye; omega)]
      clear ye
      omega
    have bd : (0 : Int) ≤ ((l.length - 1 - i : Nat) : Int) ∧ ((l.length - 1 - i : Nat) : Int) < ((37 : Nat) : Int) := by clear ye ew; omega
    have hik : i < l.length := by clear ye ew; omega
    have hjk : l.length - 1 - i < l.length := by clear ye ew; omega
    refine t203_346 (n5 := 37) s1 s3 s2 (fun _ => by clear ye ew; omega) (fun _ => by rw [wE_c, ew]; exact bd) (fun _ => by rw [wE_ug mne, wE_c, ew]; exact bd) (fun q => absurd q ye) (fun _ => ?_)
    have g1 := hg i hik
    have g2 := hg (l.length - 1 - i) hjk
    rw [if_neg (by clear ye ew; omega)] at g1 g2
    rw [wE_ug mne, wE_c, wE_c, ew, Int.toNat_natCast, Int.toNat_natCast, wE_g mne, wE_g mne, g1, g2, lbyt (okL_g hl hik), lbyt (okL_g hl hjk), wE_ug mne, wr_nat (by clear ye ew; omega)]
    clear ye ew
    refine ih (i + 1) _ (by omega) (fun k hk => ?_)
    unfold aU
    by_cases e : k = l.length - 1 - i
    · rw [if_pos e, if_pos (by omega), e, show l.length - 1 - (l.length - 1 - i) = i by omega]
    · rw [if_neg e]
      by_cases e1 : k = i
      · rw [if_pos e1, if_pos (by omega), e1]
      · rw [if_neg e1, hg k hk]
        by_cases e3 : k < i ∨ l.length ≤ k + i
        · rw [if_pos e3, if_pos (by omega)]
        · rw [if_neg e3, if_neg (by omega)]
/-- each n-th -/
theorem m444 (F : FX2 τ) {m : Nat} (hn : 1 ≤ m ∧ m ≤ 24) {l : List Int} (hl : okL l) (h : ∀ g, gL g (eaL l m) → G d 203 7 [vR 220, vQ r1, vI u, vI (wr (x3 + 1)), none, none, none] [] (wE τ 220 32 231 g ((eaL l m).length : Int)) Q) : ∀ (j i e : Nat) (g : Nat → Int), i + j = 25 → m * (i + 1) = e + 1 → m * i ≤ l.length → (∀ k, k < i → g k = byt l (m * (k + 1) - 1)) → (∀ k, i ≤ k → k < l.length → g k = byt l k) → G d 203 444 [vR 220, vQ r1, vI u, vI x3, vI (m : Int), vI (i : Int), vI (e : Int)] [] (wE τ 220 32 231 g (l.length : Int)) Q := by
  have l24 := hl.1
  have el : (eaL l m).length = l.length / m := by unfold eaL; simp
  intro j
  induction j with
  | zero =>
    intro i e g hi he h2 _ _
    have : 1 * i ≤ m * i := Nat.mul_le_mul_right i hn.1
    omega
  | succ j ih =>
    intro i e g hi he h2 hg1 hg2
    obtain ⟨s1, s2, s3⟩ := msh F g (l.length : Int)
    have hs : m * (i + 1) = m * i + m := Nat.mul_succ m i
    have hi1 : 1 * i ≤ m * i := Nat.mul_le_mul_right i hn.1
    refine t203_444 (n5 := 37) s1 s3 s2 (fun q => by rw [wE_c] at q; omega) (fun q => by rw [wE_c] at q; omega) (fun q => ?_) (fun q => ?_)
    · rw [wE_c] at q
      have eq : l.length / m = i := by
        apply Nat.div_eq_of_lt_le
        · rw [Nat.mul_comm]; exact h2
        · rw [Nat.mul_comm]; omega
      rw [wE_uc]
      have := h g (fun k hk => by
        rw [el, eq] at hk
        unfold eaL
        rw [byt_rng _ (by rw [eq]; exact hk)]
        exact hg1 k hk)
      rw [el, eq] at this
      exact this
    · rw [wE_c] at q
      have ge := hg2 e (by omega) (by omega)
      have e3 : wr ((e : Int) + (m : Int)) = ((e + m : Nat) : Int) := by rw [wr_id (by unfold okI; omega)]; omega
      rw [Int.toNat_natCast, Int.toNat_natCast, wE_g mne, ge, lbyt (okL_g hl (by omega)), wE_ug mne, wr_nat (by omega), e3]
      clear e3
      have hs2 : m * (i + 1 + 1) = m * (i + 1) + m := Nat.mul_succ m (i + 1)
      refine ih (i + 1) (e + m) _ (by omega) (by omega) (by omega) (fun k hk => ?_) (fun k h1 h3 => ?_)
      · unfold aU
        by_cases ek : k = i
        · rw [if_pos ek, ek, he]
          rfl
        · rw [if_neg ek]
          exact hg1 k (by omega)
      · unfold aU
        rw [if_neg (by omega)]
        exact hg2 k (by omega) h3
/-- a letter finds its place -/
theorem m91 (F : FX2 τ) {m : Int} (hm : m = 63 ∨ (97 ≤ m ∧ m ≤ 122)) {i L : Nat} (hL : L ≤ 24) (hi : i < L) : ∀ (k : Nat) (g : Nat → Int), k ≤ i → (∀ j, j < L → g j = 63 ∨ (97 ≤ g j ∧ g j ≤ 122)) → G d 204 69 [vR 220, vI 0, vI ((i + 1 : Nat) : Int), none, none] [] (wE τ 220 32 231 (sIn m k g) (L : Int)) Q → G d 204 91 [vR 220, vI 0, vI (i : Int), vI m, vI (k : Int)] [] (wE τ 220 32 231 g (L : Int)) Q := by
  intro k
  induction k with
  | zero =>
    intro g hk ho h
    obtain ⟨s1, s2, s3⟩ := msh F g (L : Int)
    refine t204_91 (n5 := 37) s1 s3 s2 (fun q => by omega) (fun q => by omega) (fun q => by omega) (fun q => by omega) (fun _ => ?_) (fun q => by omega) (fun q => by omega)
    rw [lbyt hm, wE_ug mne, wr_nat (by omega)]
    exact h
  | succ k ih =>
    intro g hk ho h
    obtain ⟨s1, s2, s3⟩ := msh F g (L : Int)
    have e1 : (wr (((k + 1 : Nat) : Int) - 1)).toNat = k := by rw [wr_id (by unfold okI; omega)]; omega
    have e2 : (0 : Int) ≤ wr (((k + 1 : Nat) : Int) - 1) ∧ wr (((k + 1 : Nat) : Int) - 1) < ((37 : Nat) : Int) := by rw [wr_id (by unfold okI; omega)]; omega
    have e3 : wr (((k + 1 : Nat) : Int) + -1) = (k : Int) := by rw [wr_id (by unfold okI; omega)]; omega
    have bd : (0 : Int) ≤ ((k + 1 : Nat) : Int) ∧ ((k + 1 : Nat) : Int) < ((37 : Nat) : Int) := by clear e1 e2 e3; omega
    have po : 0 < ((k + 1 : Nat) : Int) := by clear e1 e2 e3; omega
    have ni : wr ((i : Int) + 1) = ((i + 1 : Nat) : Int) := wr_nat (by clear e1 e2 e3; omega)
    simp only [sIn] at h
    refine t204_91 (n5 := 37) s1 s3 s2 (fun q => bd) (fun _ => e2) (fun _ _ => bd) (fun _ _ => bd) (fun q => absurd po (Int.not_lt.mpr q)) (fun _ q => ?_) (fun _ q => ?_)
    · rw [e1, wE_g mne] at q
      rw [if_neg (Int.not_lt.mpr q)] at h
      rw [lbyt hm, wE_ug mne, ni, Int.toNat_natCast]
      exact h
    · rw [e1, wE_g mne] at q
      rw [if_pos q] at h
      have hkL : k < L := by clear e1 e2 e3 ni; omega
      rw [e1, wE_g mne, lbyt (ho k hkL), wE_ug mne, e3, Int.toNat_natCast]
      refine ih _ (by clear e1 e2 e3 ni; omega) (fun j hj => ?_) h
      unfold aU
      split
      · exact ho k hkL
      · exact ho j hj
theorem m69 (F : FX2 τ) {L : Nat} (hL : L ≤ 24) : ∀ (j i : Nat) (g : Nat → Int), i + j = L ∨ (j = 0 ∧ L ≤ i) → (∀ k, k < L → g k = 63 ∨ (97 ≤ g k ∧ g k ≤ 122)) → Q (.inl none) (wE τ 220 32 231 (sOut j i g) (L : Int)) → G d 204 69 [vR 220, vI 0, vI (i : Int), none, none] [] (wE τ 220 32 231 g (L : Int)) Q := by
  intro j
  induction j with
  | zero =>
    intro i g hi ho h
    obtain ⟨s1, s2, s3⟩ := msh F g (L : Int)
    exact t204_69 (n6 := 37) s1 s3 s2 (fun q => by rw [wE_c] at q; omega) (fun _ => h) (fun q => by rw [wE_c] at q; omega) (fun q => by rw [wE_c] at q; omega)
  | succ j ih =>
    intro i g hi ho h
    obtain ⟨s1, s2, s3⟩ := msh F g (L : Int)
    refine t204_69 (n6 := 37) s1 s3 s2 (fun q _ => by omega) (fun q => by rw [wE_c] at q; omega) (fun _ q => absurd rfl q) (fun _ _ => ?_)
    rw [Int.toNat_natCast, wE_g mne]
    refine m91 F (ho i (by omega)) hL (by omega) i g (Nat.le_refl _) ho ?_
    refine ih (i + 1) _ (by omega) (fun k hk => sIn_o (P := fun x => x = 63 ∨ (97 ≤ x ∧ x ≤ 122)) (ho i (by omega)) i g L (by omega) ho k hk) h
/-- all become unknown -/
theorem m41 (F : FX2 τ) {L : Nat} (hL : L ≤ 24) (h : ∀ g, (∀ k, k < L → g k = 63) → Q (.inl none) (wE τ 220 32 231 g (L : Int))) : ∀ (j i : Nat) (g : Nat → Int), i + j = L → (∀ k, k < i → g k = 63) → G d 204 41 [vR 220, vI 1, vI (i : Int), none, none] [] (wE τ 220 32 231 g (L : Int)) Q := by
  intro j
  induction j with
  | zero =>
    intro i g hi hg
    obtain ⟨s1, s2, s3⟩ := msh F g (L : Int)
    have fin : Q (.inl none) (wE τ 220 32 231 g (L : Int)) := h g (fun k hk => hg k (by omega))
    refine t204_41 (n6 := 37) s1 s3 s2 (fun q => by rw [wE_c] at q; omega) (fun _ => ?_) (fun q => by rw [wE_c] at q; omega) (fun q => by rw [wE_c] at q; omega)
    exact t204_69 (n6 := 37) s1 s3 s2 (fun _ q => absurd q (by decide)) (fun _ => fin) (fun _ _ => fin) (fun _ q => absurd q (by decide))
  | succ j ih =>
    intro i g hi hg
    obtain ⟨s1, s2, s3⟩ := msh F g (L : Int)
    refine t204_41 (n6 := 37) s1 s3 s2 (fun _ _ => by omega) (fun q => by rw [wE_c] at q; omega) (fun _ q => absurd q (by decide)) (fun _ _ => ?_)
    rw [zbyt_id (x := 63) (by omega) (by omega), wE_ug mne, wr_nat (by omega), Int.toNat_natCast]
    refine ih (i + 1) _ (by omega) (fun k hk => ?_)
    unfold aU
    split
    · rfl
    · exact hg k (by omega)
/-- is a letter unknown -/
theorem m4t (F : FX2 τ) {L : Nat} {g : Nat → Int} (hL : L ≤ 24) (h : G d 204 41 [vR 220, vI 1, vI 0, none, none] [] (wE τ 220 32 231 g (L : Int)) Q) : ∀ (j i : Nat), i + j = L → G d 204 4 [vR 220, vI 1, vI (i : Int), none, none] [] (wE τ 220 32 231 g (L : Int)) Q := by
  obtain ⟨s1, s2, s3⟩ := msh F g (L : Int)
  intro j
  induction j with
  | zero =>
    intro i hi
    exact t204_4 (n6 := 37) s1 s3 s2 (fun _ q => absurd q (by decide)) (fun _ => h) (fun q => by rw [wE_c] at q; omega) (fun q => by rw [wE_c] at q; omega) (fun q => by rw [wE_c] at q; omega)
  | succ j ih =>
    intro i hi
    refine t204_4 (n6 := 37) s1 s3 s2 (fun _ q => absurd q (by decide)) (fun q => by rw [wE_c] at q; omega) (fun _ _ => ?_) (fun _ q => absurd q (by decide)) (fun _ q => absurd q (by decide))
    rw [wr_nat (by omega)]
    exact ih (i + 1) (by omega)
theorem m4f (F : FX2 τ) {l : List Int} (hl : okL l) {g : Nat → Int} (hg : gL g l) (h1 : 63 ∈ l → G d 204 41 [vR 220, vI 1, vI 0, none, none] [] (wE τ 220 32 231 g (l.length : Int)) Q) (h0 : 63 ∉ l → G d 204 41 [vR 220, vI 0, vI 0, none, none] [] (wE τ 220 32 231 g (l.length : Int)) Q) : ∀ (j i : Nat), i + j = l.length → (∀ k, k < i → byt l k ≠ 63) → G d 204 4 [vR 220, vI 0, vI (i : Int), none, none] [] (wE τ 220 32 231 g (l.length : Int)) Q := by
  obtain ⟨s1, s2, s3⟩ := msh F g (l.length : Int)
  have l24 := hl.1
  have mem : ∀ k, k < l.length → byt l k ∈ l := fun k hk => by
    unfold byt
    rw [List.getD_eq_getElem?_getD, List.getElem?_eq_getElem hk]
    exact List.getElem_mem hk
  intro j
  induction j with
  | zero =>
    intro i hi hn
    refine t204_4 (n6 := 37) s1 s3 s2 (fun q => by rw [wE_c] at q; omega) (fun _ => ?_) (fun q => by rw [wE_c] at q; omega) (fun q => by rw [wE_c] at q; omega) (fun q => by rw [wE_c] at q; omega)
    exact h0 (fun z => by
      obtain ⟨k, hk, e⟩ := List.getElem_of_mem z
      refine hn k (by omega) ?_
      unfold byt
      rw [List.getD_eq_getElem?_getD, List.getElem?_eq_getElem hk]
      exact e)
  | succ j ih =>
    intro i hi hn
    refine t204_4 (n6 := 37) s1 s3 s2 (fun _ _ => by omega) (fun q => by rw [wE_c] at q; omega) (fun _ q => absurd rfl q) (fun _ _ q => ?_) (fun _ _ q => ?_)
    · rw [Int.toNat_natCast, wE_g mne, hg i (by omega)] at q
      rw [wr_nat (by omega)]
      refine ih (i + 1) (by omega) (fun k hk => ?_)
      by_cases e : k = i
      · rw [e]; exact q
      · exact hn k (by omega)
    · rw [Int.toNat_natCast, wE_g mne, hg i (by omega)] at q
      rw [wr_nat (by omega)]
      refine m4t F l24 (h1 ?_) j (i + 1) (by omega)
      have := mem i (by omega)
      rw [q] at this
      exact this
theorem m204 (F : FX2 τ) {l : List Int} (hl : okL l) {g : Nat → Int} (hg : gL g l) (h : ∀ g, gL g (srL l) → Q (.inl none) (wE τ 220 32 231 g (l.length : Int))) : G d 204 0 [vR 220, none, none, none, none] [] (wE τ 220 32 231 g (l.length : Int)) Q := by
  have l24 := hl.1
  obtain ⟨s1, s2, s3⟩ := msh F g (l.length : Int)
  refine t204_0 (m4f F hl hg (fun hm => ?_) (fun hm => ?_) l.length 0 (Nat.zero_add _) (fun k hk => absurd hk (Nat.not_lt_zero _)))
  · refine m41 F l24 (fun g1 h1 => h g1 ?_) l.length 0 g (Nat.zero_add _) (fun k hk => absurd hk (Nat.not_lt_zero _))
    unfold srL
    rw [if_pos hm]
    intro k hk
    rw [List.length_map] at hk
    rw [byt_map _ hk, h1 k hk]
  · have go : G d 204 69 [vR 220, vI 0, vI 1, none, none] [] (wE τ 220 32 231 g (l.length : Int)) Q := by
      refine m69 F l24 (l.length - 1) 1 g (by omega) (fun k hk => gL_ok hg hl hk) (h _ ?_)
      unfold srL
      rw [if_neg hm]
      intro k hk
      rw [List.length_map, List.length_range] at hk
      rw [byt_rng _ hk]
      by_cases h0 : l.length = 0
      · omega
      · exact sOut_cg (l.length - 1) 1 g (byt l) l.length (by omega) hg k hk
    exact t204_41 (n6 := 37) s1 s3 s2 (fun _ q => absurd rfl q) (fun _ => go) (fun _ _ => go) (fun _ q => absurd rfl q)
/-- a whole answer -/
theorem m222l (F : FX2 τ) (hA : AnL A n) (C : AnM τ A n) {a : Nat} (ha : a < n) {l : List Int} (hl : l.length + (A a).length ≤ 24) (h : ∀ g, gL g (apL A u a 0 l (A a).length) → G d 203 7 [vR 220, vQ r1, vI u, vI (wr (x3 + 1)), none, none, none] [] (wE τ 220 32 231 g ((apL A u a 0 l (A a).length).length : Int)) Q) : ∀ (j i : Nat) (g : Nat → Int), i + j = (A a).length → gL g (apL A u a 0 l i) → G d 203 222 [vR 220, vQ r1, vI u, vI x3, vI (a : Int), vR (336 + 4 * a), vI (i : Int)] [] (wE τ 220 32 231 g ((apL A u a 0 l i).length : Int)) Q := by
  have h20 := hA.1
  have a12 := (hA.2 a ha).2.1
  have sr := shM a (by omega)
  have pr := ptM a (by omega)
  intro j
  induction j with
  | zero =>
    intro i g hi hg
    obtain ⟨s1, s2, s3⟩ := msh F g ((apL A u a 0 l i).length : Int)
    have F1 : FX2 (wE τ 220 32 231 g ((apL A u a 0 l i).length : Int)) := wE_fx F
    have e : i = (A a).length := hi
    have no : ¬ (i : Int) < tI (wE τ 220 32 231 g ((apL A u a 0 l i).length : Int)) (336 + 4 * a) 2 := by rw [((mE_an C) a ha).1]; omega
    refine t203_222 (n9 := 12) (n12 := 37) (q7 := 337 + 4 * a) (F1.sh sr.1 (by omega) (by omega)) s1 s3 (F1.p pr.2.1) (F1.sh sr.2.1 (by omega) (by omega)) (fun y => absurd y no) s2 (fun y => absurd y no) (fun y => absurd y no) (fun _ => ?_) (fun y => absurd y no) (fun y => absurd y no)
    clear no F1 s1 s2 s3
    subst e
    exact h g hg
  | succ j ih =>
    intro i g hi hg
    obtain ⟨s1, s2, s3⟩ := msh F g ((apL A u a 0 l i).length : Int)
    have F1 : FX2 (wE τ 220 32 231 g ((apL A u a 0 l i).length : Int)) := wE_fx F
    have hlen : (apL A u a 0 l i).length = l.length + i := apL_len
    have b37 : (0 : Int) ≤ ((apL A u a 0 l i).length : Int) ∧ ((apL A u a 0 l i).length : Int) < ((37 : Nat) : Int) := by omega
    have no : ¬ tI (wE τ 220 32 231 g ((apL A u a 0 l i).length : Int)) (336 + 4 * a) 2 ≤ (i : Int) := by rw [((mE_an C) a ha).1]; omega
    have ls : (apL A u a 0 l (i + 1)).length = (apL A u a 0 l i).length + 1 := by rw [apL_len, apL_len]; omega
    have go : ∀ x, x = lt1 A u a i → G d 203 222 [vR 220, vQ r1, vI u, vI x3, vI (a : Int), vR (336 + 4 * a), vI (wr ((i : Int) + 1))] [] (uI (uI (wE τ 220 32 231 g ((apL A u a 0 l i).length : Int)) 231 (tI (wE τ 220 32 231 g ((apL A u a 0 l i).length : Int)) 220 32).toNat x) 220 32 (wr ((tI (uI (wE τ 220 32 231 g ((apL A u a 0 l i).length : Int)) 231 (tI (wE τ 220 32 231 g ((apL A u a 0 l i).length : Int)) 220 32).toNat x) 220 32) + 1))) Q := fun x e => by
      clear no
      rw [wE_c, Int.toNat_natCast, wE_ug mne, wE_c, wr_nat (by omega), wr_nat (by omega), wE_uc, ← ls]
      refine ih (i + 1) _ (by omega) ?_
      rw [apL_s, e, Nat.zero_add]
      exact gL_ap hg
    refine t203_222 (n9 := 12) (n12 := 37) (q7 := 337 + 4 * a) (F1.sh sr.1 (by omega) (by omega)) s1 s3 (F1.p pr.2.1) (F1.sh sr.2.1 (by omega) (by omega)) (fun _ _ => by clear no; omega) s2 (fun _ _ => by rw [wE_c]; exact b37) (fun _ _ => by rw [wE_c]; exact b37) (fun y => absurd y no) (fun _ y => ?_) (fun _ y => ?_)
    · refine go _ ?_
      have hz : zand (zshr u (a : Int)) 1 = 0 := by
        rcases zand1 (zshr u (a : Int)) with z | z
        · exact z
        · exact absurd z y
      have hin : i < (A a).length := by clear no; omega
      rw [Int.toNat_natCast, ((mE_an C) a ha).2 i hin]
      unfold lt1
      rw [if_pos hz]
      have b := an_g hA ha hin
      exact zbyt_id (by clear no; omega) (by clear no; omega)
    · refine go (zbyt 63) ?_
      unfold lt1
      rw [zbyt_id (x := 63) (by omega) (by omega), if_neg (by rw [y]; decide)]
end WME
