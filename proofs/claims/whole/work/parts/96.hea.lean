/-! WHAT IS HEARD; steps to an answer -/
def lw1 (x : Int) : Int := if 65 ≤ x ∧ x ≤ 90 then x + 32 else x
def hrd (f : Nat → Int) : Nat → List Int
  | 0 => []
  | k + 1 => if isL (lw1 (f k)) then hrd f k ++ [lw1 (f k)] else hrd f k
theorem hrd_b {f : Nat → Int} : ∀ n, (hrd f n).length ≤ n ∧ ∀ x ∈ hrd f n, 97 ≤ x ∧ x ≤ 122
  | 0 => ⟨Nat.le_refl _, fun x hx => by cases hx⟩
  | n + 1 => by
    obtain ⟨h1, h2⟩ := hrd_b (f := f) n
    simp only [hrd]
    split
    · rename_i h
      refine ⟨by rw [List.length_append]; simp only [List.length_cons, List.length_nil]; omega, fun x hx => ?_⟩
      rcases List.mem_append.mp hx with hx | hx
      · exact h2 x hx
      · rw [List.mem_singleton.mp hx]; exact isL_i h
    · exact ⟨by omega, h2⟩
theorem Ls.snoc {τ : T2} {a : Nat} {l : List Int} {x : Int} (h : Ls τ a l) : Ls (uI τ a l.length x) a (l ++ [x]) := fun j hj => by
  rw [List.length_append] at hj
  simp only [List.length_cons, List.length_nil] at hj
  rw [tI_uI]
  by_cases e : j = l.length
  · rw [if_pos ⟨rfl, e⟩, e, List.getD_eq_getElem?_getD, List.getElem?_append_right (Nat.le_refl _), Nat.sub_self]
    rfl
  · rw [if_neg (fun z => e z.2), List.getD_eq_getElem?_getD, List.getElem?_append_left (by omega), ← List.getD_eq_getElem?_getD]
    exact h j (by omega)
theorem Ls.u {τ : T2} {a b k : Nat} {l : List Int} {x : Int} (h : Ls τ a l) (hb : b ≠ a) : Ls (uI τ b k x) a l := fun j hj => by
  rw [tI_uI, if_neg (fun z => hb z.1.symm)]
  exact h j hj
def HRC (a k : Nat) : Prop := (a = 76 ∧ k = 1) ∨ a = 77 ∨ (a = 64 ∧ k = 1)
def HRM (a k : Nat) : Prop := (a = 220 ∧ (k = 28 ∨ k = 15)) ∨ a = 228
section HEA
variable {d : Nat} {τ : T2} {Q : RS → T2 → Prop} {n : Nat} {l : List Int}
theorem c135 (F : FX2 τ) (T : TpC τ l) (h3 : l.length ≤ 300) (hb : ∀ x ∈ l, -128 ≤ x ∧ x ≤ 127) (hn : n ≤ l.length) (hd : 3 ≤ d) (k : ∀ τ1, OC HRC τ τ1 → FX2 τ1 → tN τ1 = tN τ → tZ τ1 = tZ τ → HdC τ1 (hrd (byt l) n) → tI τ1 64 1 = 0 → Q (.inl none) τ1) : G d 135 0 [vR 64, vI (n : Int)] [] τ Q := by
  have s76 : ∀ τ : T2, FX2 τ → tS τ 76 = (1, 4, 0) := fun τ F => F.sh rfl (by omega) (by omega)
  have bt : ∀ k, k < n → -128 ≤ byt l k ∧ byt l k ≤ 127 := fun k hk => by
    unfold byt
    rw [List.getD_eq_getElem?_getD, List.getElem?_eq_getElem (show k < l.length by omega)]
    exact hb _ (List.getElem_mem _)
  refine t135_0 (q2 := 76) (by omega) (F.sh rfl (by omega) (by omega)) (F.p rfl) (s76 τ F) ?_
  rw [F.p (show PTI 64 0 = some 65 from rfl)]
  have lp : ∀ (j i : Nat) (τ1 : T2), i + j = n → OC HRC τ τ1 → FX2 τ1 → tN τ1 = tN τ → tZ τ1 = tZ τ → tI τ1 76 1 = ((hrd (byt l) i).length : Int) → Ls τ1 77 (hrd (byt l) i) → G (d - 1) 14 7 [vR 76, vR 65, vI (n : Int), vI (i : Int), none] [] τ1 (KC d 135 9 12 [vR 64, none] [] Q) := by
    intro j
    induction j with
    | zero =>
      intro i τ1 hi o F1 n1 z1 e1 h1
      have e : i = n := by omega
      subst e
      refine t14_7 (n2 := 300) (by omega) (F1.sh rfl (by omega) (by omega)) (s76 _ F1) (fun c => by omega) (fun _ => ?_) (fun c => by omega) (fun c => by omega) (fun c => by omega) (fun c => by omega) (fun c => by omega)
      refine t135_12 (F1.sh rfl (by omega) (by omega)) ?_
      have N := F1.1
      refine k _ (o.j (Or.inr (Or.inr ⟨rfl, rfl⟩))) F1.j n1 z1 ⟨by rw [tI_uI, if_neg (by decide)]; exact e1, by have := (hrd_b (f := byt l) i).1; omega, h1.u (by decide)⟩ (by rw [tI_uI, if_pos ⟨rfl, rfl⟩])
    | succ j ih =>
      intro i τ1 hi o F1 n1 z1 e1 h1
      have N := F.1
      have eb : tI τ1 65 i = byt l i := by rw [(o.2.2.2 65 i (by omega) (by unfold HRC; omega)).1]; exact T.2 i (by omega)
      have bb := bt i (by omega)
      have hl := (hrd_b (f := byt l) i).1
      have next : ∀ x : Int, x = lw1 (byt l i) → G (d - 1 - 1) 133 0 [vI x] [] τ1 (KC (d - 1) 14 60 63 [vR 76, vR 65, vI (n : Int), vI (i : Int), vI x] [] (KC d 135 9 12 [vR 64, none] [] Q)) := fun x hx => by
        have yes : isL x = true → G (d - 1) 14 63 [vR 76, vR 65, vI (n : Int), vI (i : Int), vI x] [AI 1] τ1 (KC d 135 9 12 [vR 64, none] [] Q) := fun hL => by
          have xl := isL_i hL
          refine t14_63 (r1 := some 65) (q3 := 77) (n5 := 300) (s76 _ F1) (F1.p rfl) (F1.sh rfl (by omega) (by omega)) (fun _ => by rw [e1]; omega) (fun c => absurd c (by decide)) (fun _ => ?_)
          rw [e1, Int.toNat_natCast, zbyt_id (x := x) (by omega) (by omega), zbyt_id (by omega) (by omega), show tI (uI τ1 77 (hrd (byt l) i).length x) 76 1 = ((hrd (byt l) i).length : Int) by rw [tI_uI, if_neg (by omega)]; exact e1, wr_nat (by omega), wr_nat (by omega)]
          have eh : hrd (byt l) (i + 1) = hrd (byt l) i ++ [x] := by
            simp only [hrd]
            rw [← hx, if_pos hL]
          refine ih (i + 1) _ (by omega) ((o.j (Or.inr (Or.inl rfl))).j (Or.inl ⟨rfl, rfl⟩)) F1.j.j n1 z1 ?_ ?_
          · rw [tI_uI, if_pos ⟨rfl, rfl⟩, eh, List.length_append]; rfl
          · rw [eh]; exact h1.snoc.u (by decide)
        have no : isL x = false → G (d - 1) 14 63 [vR 76, vR 65, vI (n : Int), vI (i : Int), vI x] [AI 0] τ1 (KC d 135 9 12 [vR 64, none] [] Q) := fun hL => by
          refine t14_63 (r1 := some 65) (q3 := 77) (n5 := 300) (s76 _ F1) (F1.p rfl) (F1.sh rfl (by omega) (by omega)) (fun c => absurd rfl c) (fun _ => ?_) (fun c => absurd rfl c)
          rw [wr_nat (by omega)]
          have eh : hrd (byt l) (i + 1) = hrd (byt l) i := by
            simp only [hrd]
            rw [← hx, if_neg (by rw [hL]; decide)]
          exact ih (i + 1) τ1 (by omega) o F1 n1 z1 (by rw [eh]; exact e1) (by rw [eh]; exact h1)
        exact t133_0 (fun c => no (isL_f (Or.inl c))) (fun _ c => no (isL_f (Or.inr c))) (fun c1 c2 => yes (isL_t c1 c2))
      refine t14_7 (n2 := 300) (by omega) (F1.sh rfl (by omega) (by omega)) (s76 _ F1) (fun _ _ _ => by omega) (fun c => by omega) (fun _ c => by omega) (fun _ _ c => by rw [e1] at c; omega) (fun _ _ _ c => ?_) (fun _ _ _ c1 c2 => ?_) (fun _ _ _ c1 c2 => ?_)
      all_goals rw [Int.toNat_natCast, eb] at *
      · exact next _ (by unfold lw1; rw [if_neg (by omega)])
      · exact next _ (by unfold lw1; rw [if_neg (by omega)])
      · rw [wr_id (by unfold okI; omega)]
        exact next _ (by unfold lw1; rw [if_pos (by omega)])
  refine t14_0 (r1 := some 65) (s76 τ F) ?_
  exact lp n 0 _ (by omega) (OC.rf.j (Or.inl ⟨rfl, rfl⟩)) F.j rfl rfl (by rw [tI_uI, if_pos ⟨rfl, rfl⟩]; rfl) (fun j hj => by cases hj)
theorem m198 (F : FX2 τ) (T : TpM τ l) (h3 : l.length ≤ 300) (hb : ∀ x ∈ l, -128 ≤ x ∧ x ≤ 127) (hn : n ≤ l.length) (hd : 2 ≤ d) (k : ∀ τ1, OC HRM τ τ1 → FX2 τ1 → tN τ1 = tN τ → tZ τ1 = tZ τ → HdM τ1 (hrd (byt l) n) → tI τ1 220 15 = 0 → Q (.inl none) τ1) : G d 198 0 [vR 220, vI (n : Int), none, none] [] τ Q := by
  have s0 : ∀ τ : T2, FX2 τ → tS τ 220 = (1, 21, 0) := fun τ F => F.sh rfl (by omega) (by omega)
  have bt : ∀ k, k < n → -128 ≤ byt l k ∧ byt l k ≤ 127 := fun k hk => by
    unfold byt
    rw [List.getD_eq_getElem?_getD, List.getElem?_eq_getElem (show k < l.length by omega)]
    exact hb _ (List.getElem_mem _)
  have lp : ∀ (j i : Nat) (τ1 : T2), i + j = n → OC HRM τ τ1 → FX2 τ1 → tN τ1 = tN τ → tZ τ1 = tZ τ → tI τ1 220 28 = ((hrd (byt l) i).length : Int) → Ls τ1 228 (hrd (byt l) i) → G d 198 7 [vR 220, vI (n : Int), vI (i : Int), none] [] τ1 Q := by
    intro j
    induction j with
    | zero =>
      intro i τ1 hi o F1 n1 z1 e1 h1
      have e : i = n := by omega
      subst e
      refine t198_7 (q3 := 226) (n5 := 300) (by omega) (s0 _ F1) (F1.p rfl) (F1.sh rfl (by omega) (by omega)) (fun c => by omega) (fun _ => ?_) (fun c => by omega) (fun c => by omega) (fun c => by omega)
      refine k _ (o.j (Or.inl ⟨rfl, Or.inr rfl⟩)) F1.j n1 z1 ⟨by rw [tI_uI, if_neg (by decide)]; exact e1, by have := (hrd_b (f := byt l) i).1; omega, h1.u (by decide)⟩ (by rw [tI_uI, if_pos ⟨rfl, rfl⟩])
    | succ j ih =>
      intro i τ1 hi o F1 n1 z1 e1 h1
      have N := F.1
      have eb : tI τ1 226 i = byt l i := by rw [(o.2.2.2 226 i (by omega) (by unfold HRM; omega)).1]; exact T.2 i (by omega)
      have bb := bt i (by omega)
      have hl := (hrd_b (f := byt l) i).1
      have uc := ub_c (byt l i)
      have next : ∀ x : Int, (isL x = isL (lw1 (byt l i))) → (isL x = true → x = lw1 (byt l i)) → G (d - 1) 174 0 [vI x] [] τ1 (KC d 198 39 42 [vR 220, vI (n : Int), vI (i : Int), vI x] [] Q) := fun x hx hx2 => by
        refine m174 (fun hL => ?_) (fun hL => ?_)
        · have xl := isL_i hL
          have hx3 := hx2 hL
          refine t198_42 (q3 := 228) (n5 := 300) (s0 _ F1) (F1.p rfl) (F1.sh rfl (by omega) (by omega)) (fun _ => by rw [e1]; omega) (fun _ => ?_) (fun c => absurd c (by decide))
          rw [e1, Int.toNat_natCast, zbyt_id (x := x) (by omega) (by omega), zbyt_id (by omega) (by omega), show tI (uI τ1 228 (hrd (byt l) i).length x) 220 28 = ((hrd (byt l) i).length : Int) by rw [tI_uI, if_neg (by omega)]; exact e1, wr_nat (by omega), wr_nat (by omega)]
          have eh : hrd (byt l) (i + 1) = hrd (byt l) i ++ [x] := by
            simp only [hrd]
            rw [← hx, if_pos hL, ← hx3]
          refine ih (i + 1) _ (by omega) ((o.j (Or.inr rfl)).j (Or.inl ⟨rfl, Or.inl rfl⟩)) F1.j.j n1 z1 ?_ ?_
          · rw [tI_uI, if_pos ⟨rfl, rfl⟩, eh, List.length_append]; rfl
          · rw [eh]; exact h1.snoc.u (by decide)
        · refine t198_42 (q3 := 228) (n5 := 300) (s0 _ F1) (F1.p rfl) (F1.sh rfl (by omega) (by omega)) (fun c => absurd rfl c) (fun c => absurd rfl c) (fun _ => ?_)
          rw [wr_nat (by omega)]
          have eh : hrd (byt l) (i + 1) = hrd (byt l) i := by
            simp only [hrd]
            rw [← hx, if_neg (by rw [hL]; decide)]
          exact ih (i + 1) τ1 (by omega) o F1 n1 z1 (by rw [eh]; exact e1) (by rw [eh]; exact h1)
      have same : ¬ (65 ≤ byt l i ∧ byt l i ≤ 90) → G (d - 1) 174 0 [vI (ub (byt l i))] [] τ1 (KC d 198 39 42 [vR 220, vI (n : Int), vI (i : Int), vI (ub (byt l i))] [] Q) := fun h => by
        have e : lw1 (byt l i) = byt l i := by unfold lw1; rw [if_neg h]
        refine next _ (by rw [e]; exact (ub_L bb.1 bb.2).1) (fun z => ?_)
        have := isL_i z
        rw [e]; omega
      refine t198_7 (q3 := 226) (n5 := 300) (by omega) (s0 _ F1) (F1.p rfl) (F1.sh rfl (by omega) (by omega)) (fun _ => by omega) (fun c => by omega) (fun _ c => ?_) (fun _ c1 c2 => ?_) (fun _ c1 c2 => ?_)
      all_goals rw [Int.toNat_natCast, eb, zand255 bb.1 bb.2] at *
      · exact same (by omega)
      · exact same (by omega)
      · have e : lw1 (byt l i) = byt l i + 32 := by unfold lw1; rw [if_pos (by omega)]
        rw [wr_id (by unfold okI; omega)]
        exact next _ (by rw [e]; congr 1; omega) (fun _ => by rw [e]; omega)
  refine t198_0 (s0 τ F) ?_
  exact lp n 0 _ (by omega) (OC.rf.j (Or.inl ⟨rfl, Or.inl rfl⟩)) F.j rfl rfl (by rw [tI_uI, if_pos ⟨rfl, rfl⟩]; rfl) (fun j hj => by cases hj)
end HEA
/-- the least number of steps -/
def mn (x y : Int) : Int := if y < x then y else x
def levS (p : Nat → Int) (i : Int) (g : Int) (a : Nat → Int) : Nat → Int
  | 0 => i + 1
  | k + 1 => mn (p k + (if g = a k then 0 else 1)) (mn (p (k + 1)) (levS p i g a k) + 1)
def lev (g a : Nat → Int) : Nat → Nat → Int
  | 0 => fun k => (k : Int)
  | i + 1 => levS (lev g a i) (i : Int) (g i) a
theorem lev_b {g a : Nat → Int} : ∀ i k, 0 ≤ lev g a i k ∧ lev g a i k ≤ (i : Int) + (k : Int)
  | 0, k => by simp only [lev]; omega
  | i + 1, 0 => by
    show 0 ≤ (i : Int) + 1 ∧ (i : Int) + 1 ≤ ((i + 1 : Nat) : Int) + ((0 : Nat) : Int)
    omega
  | i + 1, k + 1 => by
    have h1 := lev_b (g := g) (a := a) i k
    have h2 := lev_b (g := g) (a := a) i (k + 1)
    have h3 := lev_b (g := g) (a := a) (i + 1) k
    have e : lev g a (i + 1) (k + 1) = mn (lev g a i k + (if g i = a k then 0 else 1)) (mn (lev g a i (k + 1)) (lev g a (i + 1) k) + 1) := rfl
    rw [e]
    unfold mn
    split <;> split <;> split <;> omega
section LEV
variable {d : Nat} {τ : T2} {Q : RS → T2 → Prop} {l A : List Int} {r : Nat}
/-- stepsTo of the class -/
theorem c18 (F : FX2 τ) (H : HdC τ l) (hr : r < 20) (hA : A.length ≤ 12) (eA : tI τ (92 + 4 * r) 3 = (A.length : Int)) (LA : Ls τ (93 + 4 * r) A) (hd : 17 ≤ d) (k : ∀ τ1, OC (fun a _ => a = 79) τ τ1 → FX2 τ1 → tN τ1 = tN τ → tZ τ1 = tZ τ → Q (.inl (some (AI (lev (byt l) (byt A) l.length A.length)))) τ1) : G d 18 0 [vR 76, vR (92 + 4 * r), none, none, none, none, none] [] τ Q := by
  obtain ⟨H1, H2, H3⟩ := H
  have sr := shR r hr
  have pr := ptR r hr
  have s76 : ∀ τ : T2, FX2 τ → tS τ 76 = (1, 4, 0) := fun τ F => F.sh rfl (by omega) (by omega)
  have s79 : ∀ τ : T2, FX2 τ → tS τ 79 = (2, 0, 13) := fun τ F => F.sh rfl (by omega) (by omega)
  have N := F.1
  have sm : ∀ τ1, OC (fun a _ => a = 79) τ τ1 → ∀ a k, a < 473 → a ≠ 79 → tI τ1 a k = tI τ a k := fun τ1 o a k h1 h2 => (o.2.2.2 a k (by omega) h2).1
  refine t18_0 hd (F.sh sr.1 (by omega) (by omega)) ?_
  rw [eA, if_neg (by omega)]
  -- a row
  have row : ∀ (i : Nat), i < l.length → ∀ (j q : Nat) (τ1 : T2), q + j = A.length → OC (fun a _ => a = 79) τ τ1 → FX2 τ1 → tN τ1 = tN τ → tZ τ1 = tZ τ → (∀ m, m ≤ q → tI τ1 79 m = lev (byt l) (byt A) (i + 1) m) → (∀ m, q < m → m ≤ A.length → tI τ1 79 m = lev (byt l) (byt A) i m) → (∀ τ2, OC (fun a _ => a = 79) τ τ2 → FX2 τ2 → tN τ2 = tN τ → tZ τ2 = tZ τ → (∀ m, m ≤ A.length → tI τ2 79 m = lev (byt l) (byt A) (i + 1) m) → G d 18 32 [vR 76, vR (92 + 4 * r), vI (A.length : Int), vI ((i + 1 : Nat) : Int), none, none, none] [] τ2 Q) → G d 18 67 [vR 76, vR (92 + 4 * r), vI (A.length : Int), vI (i : Int), vI (lev (byt l) (byt A) i q), vI ((q + 1 : Nat) : Int), none] [] τ1 Q := by
    intro i hi j
    induction j with
    | zero =>
      intro q τ1 hq o F1 n1 z1 h1 h2 kk
      refine t18_67 (q3 := 77) (n5 := 300) (q9 := 93 + 4 * r) (n11 := 12) (q15 := 79) (n17 := 13) hd (s76 _ F1) (F1.p rfl) (F1.sh rfl (by omega) (by omega)) (fun c => by omega) (F1.sh sr.1 (by omega) (by omega)) (F1.p pr.2.1) (F1.sh sr.2.1 (by omega) (by omega)) (fun c => by omega) (F1.p rfl) (s79 _ F1) (fun c => by omega) (fun c => by omega) (fun c => by omega) (fun c => by omega) (fun _ => ?_) (fun c => by omega) (fun c => by omega)
      rw [wr_nat (by omega)]
      exact kk τ1 o F1 n1 z1 (fun m hm => h1 m (by omega))
    | succ j ih =>
      intro q τ1 hq o F1 n1 z1 h1 h2 kk
      have e1 : wr (((q + 1 : Nat) : Int) - 1) = (q : Int) := by rw [wr_id (by unfold okI; omega)]; omega
      have eg : tI τ1 77 i = byt l i := by rw [sm τ1 o 77 i (by omega) (by omega)]; exact H3 i hi
      have ea : tI τ1 (93 + 4 * r) q = byt A q := by rw [sm τ1 o _ q (by omega) (by omega)]; exact LA q (by omega)
      have t1 := h1 q (Nat.le_refl _)
      have t2 := h2 (q + 1) (by omega) (by omega)
      have b1 := lev_b (g := byt l) (a := byt A) i q
      have b2 := lev_b (g := byt l) (a := byt A) i (q + 1)
      have b3 := lev_b (g := byt l) (a := byt A) (i + 1) q
      have el : lev (byt l) (byt A) (i + 1) (q + 1) = mn (lev (byt l) (byt A) i q + (if byt l i = byt A q then 0 else 1)) (mn (lev (byt l) (byt A) i (q + 1)) (lev (byt l) (byt A) (i + 1) q) + 1) := rfl
      have next : ∀ v : Int, v = lev (byt l) (byt A) (i + 1) (q + 1) → G d 18 67 [vR 76, vR (92 + 4 * r), vI (A.length : Int), vI (i : Int), vI (lev (byt l) (byt A) i (q + 1)), vI ((q + 1 + 1 : Nat) : Int), none] [] (uI τ1 79 (q + 1) v) Q := fun v hv => by
        refine ih (q + 1) _ (by omega) o.ad F1.j n1 z1 (fun m hm => ?_) (fun m hm hm2 => ?_) kk
        · rw [tI_uI]
          by_cases e : m = q + 1
          · rw [if_pos ⟨rfl, e⟩, hv, e]
          · rw [if_neg (fun z => e z.2)]; exact h1 m (by omega)
        · rw [tI_uI, if_neg (by omega)]; exact h2 m (by omega) hm2
      refine t18_67 (q3 := 77) (n5 := 300) (q9 := 93 + 4 * r) (n11 := 12) (q15 := 79) (n17 := 13) hd (s76 _ F1) (F1.p rfl) (F1.sh rfl (by omega) (by omega)) (fun _ => by omega) (F1.sh sr.1 (by omega) (by omega)) (F1.p pr.2.1) (F1.sh sr.2.1 (by omega) (by omega)) (fun _ => by rw [e1]; omega) (F1.p rfl) (s79 _ F1) (fun _ _ => by omega) (fun _ _ => by rw [e1]; omega) (fun _ _ => by omega) (fun _ _ => by rw [e1]; omega) (fun c => by omega) (fun _ c => ?_) (fun _ c => ?_)
      all_goals
        rw [e1, Int.toNat_natCast, Int.toNat_natCast, eg, ea] at c
        rw [e1, Int.toNat_natCast, Int.toNat_natCast, t1, t2]
        intro τ9 e9
        rw [← e9, wr_nat (by omega)]
        apply next
        rw [el]
        unfold mn
      · rw [if_neg c]
        rw [wr_id (x := lev (byt l) (byt A) i q + 1) (by unfold okI; omega)]
        split
        · rw [wr_id (by unfold okI; omega)]
        · rw [wr_id (by unfold okI; omega)]
      · rw [if_pos c]
        rw [wr_id (x := lev (byt l) (byt A) i q + 0) (by unfold okI; omega)]
        split
        · rw [wr_id (by unfold okI; omega)]
        · rw [wr_id (by unfold okI; omega)]
  -- all rows
  have rows : ∀ (j i : Nat) (τ1 : T2), i + j = l.length → OC (fun a _ => a = 79) τ τ1 → FX2 τ1 → tN τ1 = tN τ → tZ τ1 = tZ τ → (∀ m, m ≤ A.length → tI τ1 79 m = lev (byt l) (byt A) i m) → G d 18 32 [vR 76, vR (92 + 4 * r), vI (A.length : Int), vI (i : Int), none, none, none] [] τ1 Q := by
    intro j
    induction j with
    | zero =>
      intro i τ1 hi o F1 n1 z1 h1
      have e : i = l.length := by omega
      subst e
      have e1 : tI τ1 76 1 = (l.length : Int) := by rw [sm τ1 o 76 1 (by omega) (by omega)]; exact H1
      refine t18_32 (q4 := 79) (n6 := 13) (s76 _ F1) (F1.p rfl) (s79 _ F1) (fun _ _ => by omega) (fun c => by rw [e1] at c; omega) (by decide) (fun _ _ => ?_) (fun _ c => by omega) (fun c => by rw [e1] at c; omega) (fun c => by rw [e1] at c; omega) (fun c => by rw [e1] at c; omega)
      rw [Int.toNat_natCast, h1 _ (Nat.le_refl _)]
      exact k τ1 o F1 n1 z1
    | succ j ih =>
      intro i τ1 hi o F1 n1 z1 h1
      have e1 : tI τ1 76 1 = (l.length : Int) := by rw [sm τ1 o 76 1 (by omega) (by omega)]; exact H1
      refine t18_32 (q4 := 79) (n6 := 13) (s76 _ F1) (F1.p rfl) (s79 _ F1) (fun c => by rw [e1] at c; omega) (fun c => by omega) (by decide) (fun c => by rw [e1] at c; omega) (fun c => by rw [e1] at c; omega) (fun _ c => by omega) (fun _ c => by omega) (fun _ _ => ?_)
      rw [h1 0 (by omega), wr_nat (by omega)]
      refine row i (by omega) A.length 0 _ (by omega) o.ad F1.j n1 z1 (fun m hm => ?_) (fun m hm hm2 => ?_) (fun τ2 o2 F2 n2 z2 h2 => ih (i + 1) τ2 (by omega) o2 F2 n2 z2 h2)
      · obtain rfl : m = 0 := by omega
        rw [tI_uI, if_pos ⟨rfl, rfl⟩]
        show ((i + 1 : Nat) : Int) = (i : Int) + 1
        omega
      · rw [tI_uI, if_neg (by omega)]; exact h1 m hm2
  -- the first row
  have fst : ∀ (j q : Nat) (τ1 : T2), q + j = A.length + 1 → OC (fun a _ => a = 79) τ τ1 → FX2 τ1 → tN τ1 = tN τ → tZ τ1 = tZ τ → (∀ m, m < q → tI τ1 79 m = (m : Int)) → G d 18 12 [vR 76, vR (92 + 4 * r), vI (A.length : Int), vI (q : Int), none, none, none] [] τ1 Q := by
    intro j
    induction j with
    | zero =>
      intro q τ1 hq o F1 n1 z1 h1
      refine t18_12 (r1 := some (92 + 4 * r)) (q3 := 79) (n5 := 13) (s76 _ F1) (F1.p rfl) (s79 _ F1) (fun c => by omega) (fun _ => ?_) (fun c => by omega)
      exact rows l.length 0 τ1 (by omega) o F1 n1 z1 (fun m hm => h1 m (by omega))
    | succ j ih =>
      intro q τ1 hq o F1 n1 z1 h1
      refine t18_12 (r1 := some (92 + 4 * r)) (q3 := 79) (n5 := 13) (s76 _ F1) (F1.p rfl) (s79 _ F1) (fun _ => by omega) (fun c => by omega) (fun _ => ?_)
      rw [wr_nat (by omega), Int.toNat_natCast]
      refine ih (q + 1) _ (by omega) o.ad F1.j n1 z1 (fun m hm => ?_)
      rw [tI_uI]
      by_cases e : m = q
      · rw [if_pos ⟨rfl, e⟩, e]
      · rw [if_neg (fun z => e z.2)]; exact h1 m (by omega)
  exact fst (A.length + 1) 0 τ (by omega) OC.rf F rfl rfl (fun m hm => by omega)
/-- distance of the model -/
theorem m199 (F : FX2 τ) (H : HdM τ l) (hr : r < 20) (hA : A.length ≤ 12) (eA : tI τ (336 + 4 * r) 2 = (A.length : Int)) (LA : Ls τ (337 + 4 * r) A) (hd : 17 ≤ d) (k : ∀ τ1, OC (fun a _ => a = 229 ∨ a = 230) τ τ1 → FX2 τ1 → tN τ1 = tN τ → tZ τ1 = tZ τ → Q (.inl (some (AI (lev (byt l) (byt A) l.length A.length)))) τ1) : G d 199 0 [vR 220, vR (336 + 4 * r), none, none, none] [] τ Q := by
  obtain ⟨H1, H2, H3⟩ := H
  have sr := shM r hr
  have pr := ptM r hr
  have s0 : ∀ τ : T2, FX2 τ → tS τ 220 = (1, 21, 0) := fun τ F => F.sh rfl (by omega) (by omega)
  have sq : ∀ τ : T2, FX2 τ → tS τ (336 + 4 * r) = (1, 15, 0) := fun τ F => F.sh sr.1 (by omega) (by omega)
  have s29 : ∀ τ : T2, FX2 τ → tS τ 229 = (2, 0, 13) := fun τ F => F.sh rfl (by omega) (by omega)
  have s30 : ∀ τ : T2, FX2 τ → tS τ 230 = (2, 0, 13) := fun τ F => F.sh rfl (by omega) (by omega)
  have N := F.1
  have sm : ∀ τ1, OC (fun a _ => a = 229 ∨ a = 230) τ τ1 → ∀ a k, a < 473 → a ≠ 229 → a ≠ 230 → tI τ1 a k = tI τ a k := fun τ1 o a k h1 h2 h3 => (o.2.2.2 a k (by omega) (by omega)).1
  have eAt : ∀ τ1, OC (fun a _ => a = 229 ∨ a = 230) τ τ1 → tI τ1 (336 + 4 * r) 2 = (A.length : Int) := fun τ1 o => by rw [sm τ1 o _ _ (by omega) (by omega) (by omega)]; exact eA
  -- a row
  have row : ∀ (i : Nat), i < l.length → ∀ (j q : Nat) (τ1 : T2), q + j = A.length → OC (fun a _ => a = 229 ∨ a = 230) τ τ1 → FX2 τ1 → tN τ1 = tN τ → tZ τ1 = tZ τ → (∀ m, m ≤ q → tI τ1 230 m = lev (byt l) (byt A) (i + 1) m) → (∀ m, m ≤ A.length → tI τ1 229 m = lev (byt l) (byt A) i m) → (∀ τ2, OC (fun a _ => a = 229 ∨ a = 230) τ τ2 → FX2 τ2 → tN τ2 = tN τ → tZ τ2 = tZ τ → (∀ m, m ≤ A.length → tI τ2 230 m = lev (byt l) (byt A) (i + 1) m) → G d 199 123 [vR 220, vR (336 + 4 * r), vI ((i + 1 : Nat) : Int), vI 0, none] [] τ2 Q) → G d 199 42 [vR 220, vR (336 + 4 * r), vI ((i + 1 : Nat) : Int), vI ((q + 1 : Nat) : Int), none] [] τ1 Q := by
    intro i hi j
    induction j with
    | zero =>
      intro q τ1 hq o F1 n1 z1 h1 h2 kk
      have e2 := eAt τ1 o
      refine t199_42 (q4 := 229) (n6 := 13) (q9 := 228) (n11 := 300) (q14 := 337 + 4 * r) (n16 := 12) (q20 := 230) (n23 := 13) hd (sq _ F1) (s0 _ F1) (F1.p rfl) (s29 _ F1) (fun c => by rw [e2] at c; omega) (F1.p rfl) (F1.sh rfl (by omega) (by omega)) (fun c => by rw [e2] at c; omega) (F1.p pr.2.1) (F1.sh sr.2.1 (by omega) (by omega)) (fun c => by rw [e2] at c; omega) (F1.p rfl) (fun c => by rw [e2] at c; omega) (s30 _ F1) (fun c => by rw [e2] at c; omega) (fun c => by rw [e2] at c; omega) (fun c => by rw [e2] at c; omega) (fun c => by rw [e2] at c; omega) (fun c => by rw [e2] at c; omega) (fun _ => ?_) (fun c => by rw [e2] at c; omega) (fun c => by rw [e2] at c; omega)
      exact kk τ1 o F1 n1 z1 (fun m hm => h1 m (by omega))
    | succ j ih =>
      intro q τ1 hq o F1 n1 z1 h1 h2 kk
      have e2 := eAt τ1 o
      have e1 : wr (((q + 1 : Nat) : Int) - 1) = (q : Int) := by rw [wr_id (by unfold okI; omega)]; omega
      have e1i : wr (((i + 1 : Nat) : Int) - 1) = (i : Int) := by rw [wr_id (by unfold okI; omega)]; omega
      have eg : tI τ1 228 i = byt l i := by rw [sm τ1 o 228 i (by omega) (by omega) (by omega)]; exact H3 i hi
      have ea : tI τ1 (337 + 4 * r) q = byt A q := by rw [sm τ1 o _ q (by omega) (by omega) (by omega)]; exact LA q (by omega)
      have t1 := h1 q (Nat.le_refl _)
      have t2 := h2 (q + 1) (by omega)
      have t3 := h2 q (by omega)
      have b1 := lev_b (g := byt l) (a := byt A) i q
      have b2 := lev_b (g := byt l) (a := byt A) i (q + 1)
      have b3 := lev_b (g := byt l) (a := byt A) (i + 1) q
      have el : lev (byt l) (byt A) (i + 1) (q + 1) = mn (lev (byt l) (byt A) i q + (if byt l i = byt A q then 0 else 1)) (mn (lev (byt l) (byt A) i (q + 1)) (lev (byt l) (byt A) (i + 1) q) + 1) := rfl
      have next : ∀ v : Int, v = lev (byt l) (byt A) (i + 1) (q + 1) → G d 199 42 [vR 220, vR (336 + 4 * r), vI ((i + 1 : Nat) : Int), vI ((q + 1 + 1 : Nat) : Int), none] [] (uI τ1 230 (q + 1) v) Q := fun v hv => by
        refine ih (q + 1) _ (by omega) (OC.j (P := fun a _ => a = 229 ∨ a = 230) o (Or.inr rfl)) F1.j n1 z1 (fun m hm => ?_) (fun m hm => ?_) kk
        · rw [tI_uI]
          by_cases e : m = q + 1
          · rw [if_pos ⟨rfl, e⟩, hv, e]
          · rw [if_neg (fun z => e z.2)]; exact h1 m (by omega)
        · rw [tI_uI, if_neg (by omega)]; exact h2 m hm
      refine t199_42 (q4 := 229) (n6 := 13) (q9 := 228) (n11 := 300) (q14 := 337 + 4 * r) (n16 := 12) (q20 := 230) (n23 := 13) hd (sq _ F1) (s0 _ F1) (F1.p rfl) (s29 _ F1) (fun _ => by rw [e1]; omega) (F1.p rfl) (F1.sh rfl (by omega) (by omega)) (fun _ => by rw [e1i]; omega) (F1.p pr.2.1) (F1.sh sr.2.1 (by omega) (by omega)) (fun _ => by rw [e1]; omega) (F1.p rfl) (fun _ _ => by omega) (s30 _ F1) (fun _ _ => by rw [e1]; omega) (fun _ _ => by omega) (fun _ _ => by omega) (fun _ _ => by rw [e1]; omega) (fun _ _ => by omega) (fun c => by rw [e2] at c; omega) (fun _ c => ?_) (fun _ c => ?_)
      all_goals
        rw [e1, e1i, Int.toNat_natCast, Int.toNat_natCast, eg, ea] at c
        rw [e1, Int.toNat_natCast, Int.toNat_natCast, t1, t2, t3]
        intro τ9 e9
        rw [← e9, wr_nat (by omega)]
        apply next
        rw [el]
        unfold mn
      · rw [if_neg c]
        rw [wr_id (x := lev (byt l) (byt A) i q + 1) (by unfold okI; omega)]
        split
        · rw [wr_id (by unfold okI; omega), Int.add_comm 1]
        · rw [wr_id (by unfold okI; omega), Int.add_comm 1]
      · rw [if_pos c]
        rw [wr_id (x := lev (byt l) (byt A) i q + 0) (by unfold okI; omega)]
        split
        · rw [wr_id (by unfold okI; omega), Int.add_comm 1]
        · rw [wr_id (by unfold okI; omega), Int.add_comm 1]
  -- the row is copied
  have cpy : ∀ (i : Nat), i < l.length → ∀ (j q : Nat) (τ1 : T2), q + j = A.length + 1 → OC (fun a _ => a = 229 ∨ a = 230) τ τ1 → FX2 τ1 → tN τ1 = tN τ → tZ τ1 = tZ τ → (∀ m, m ≤ A.length → tI τ1 230 m = lev (byt l) (byt A) (i + 1) m) → (∀ m, m < q → tI τ1 229 m = lev (byt l) (byt A) (i + 1) m) → (∀ τ2, OC (fun a _ => a = 229 ∨ a = 230) τ τ2 → FX2 τ2 → tN τ2 = tN τ → tZ τ2 = tZ τ → (∀ m, m ≤ A.length → tI τ2 229 m = lev (byt l) (byt A) (i + 1) m) → G d 199 25 [vR 220, vR (336 + 4 * r), vI ((i + 1 + 1 : Nat) : Int), none, none] [] τ2 Q) → G d 199 123 [vR 220, vR (336 + 4 * r), vI ((i + 1 : Nat) : Int), vI (q : Int), none] [] τ1 Q := by
    intro i hi j
    induction j with
    | zero =>
      intro q τ1 hq o F1 n1 z1 h1 h2 kk
      have e2 := eAt τ1 o
      refine t199_123 (q4 := 229) (q6 := 230) (n8 := 13) (n11 := 13) (sq _ F1) (s0 _ F1) (F1.p rfl) (F1.p rfl) (s30 _ F1) (fun c => by rw [e2] at c; omega) (s29 _ F1) (fun c => by rw [e2] at c; omega) (fun _ => ?_) (fun c => by rw [e2] at c; omega)
      rw [wr_nat (by omega)]
      exact kk τ1 o F1 n1 z1 (fun m hm => h2 m (by omega))
    | succ j ih =>
      intro q τ1 hq o F1 n1 z1 h1 h2 kk
      have e2 := eAt τ1 o
      refine t199_123 (q4 := 229) (q6 := 230) (n8 := 13) (n11 := 13) (sq _ F1) (s0 _ F1) (F1.p rfl) (F1.p rfl) (s30 _ F1) (fun _ => by omega) (s29 _ F1) (fun _ => by omega) (fun c => by rw [e2] at c; omega) (fun _ => ?_)
      rw [wr_nat (by omega), Int.toNat_natCast, h1 q (by omega)]
      refine ih (q + 1) _ (by omega) (OC.j (P := fun a _ => a = 229 ∨ a = 230) o (Or.inl rfl)) F1.j n1 z1 (fun m hm => ?_) (fun m hm => ?_) kk
      · rw [tI_uI, if_neg (by omega)]; exact h1 m hm
      · rw [tI_uI]
        by_cases e : m = q
        · rw [if_pos ⟨rfl, e⟩, e]
        · rw [if_neg (fun z => e z.2)]; exact h2 m (by omega)
  -- all rows
  have rows : ∀ (j i : Nat) (τ1 : T2), i + j = l.length → OC (fun a _ => a = 229 ∨ a = 230) τ τ1 → FX2 τ1 → tN τ1 = tN τ → tZ τ1 = tZ τ → (∀ m, m ≤ A.length → tI τ1 229 m = lev (byt l) (byt A) i m) → G d 199 25 [vR 220, vR (336 + 4 * r), vI ((i + 1 : Nat) : Int), none, none] [] τ1 Q := by
    intro j
    induction j with
    | zero =>
      intro i τ1 hi o F1 n1 z1 h1
      have e : i = l.length := by omega
      subst e
      have e2 := eAt τ1 o
      have e1 : tI τ1 220 28 = (l.length : Int) := by rw [sm τ1 o 220 28 (by omega) (by omega) (by omega)]; exact H1
      refine t199_25 (q3 := 229) (n6 := 13) (q9 := 230) (n11 := 13) (s0 _ F1) (F1.p rfl) (sq _ F1) (s29 _ F1) (fun _ => by rw [e2]; omega) (F1.p rfl) (s30 _ F1) (by decide) (fun _ => ?_) (fun c => by rw [e1] at c; omega)
      rw [e2, Int.toNat_natCast, h1 _ (Nat.le_refl _)]
      exact k τ1 o F1 n1 z1
    | succ j ih =>
      intro i τ1 hi o F1 n1 z1 h1
      have e2 := eAt τ1 o
      have e1 : tI τ1 220 28 = (l.length : Int) := by rw [sm τ1 o 220 28 (by omega) (by omega) (by omega)]; exact H1
      refine t199_25 (q3 := 229) (n6 := 13) (q9 := 230) (n11 := 13) (s0 _ F1) (F1.p rfl) (sq _ F1) (s29 _ F1) (fun c => by rw [e1] at c; omega) (F1.p rfl) (s30 _ F1) (by decide) (fun c => by rw [e1] at c; omega) (fun _ => ?_)
      refine row i (by omega) A.length 0 _ (by omega) (OC.j (P := fun a _ => a = 229 ∨ a = 230) o (Or.inr rfl)) F1.j n1 z1 (fun m hm => ?_) (fun m hm => ?_) (fun τ2 o2 F2 n2 z2 h2 => cpy i (by omega) (A.length + 1) 0 τ2 (by omega) o2 F2 n2 z2 h2 (fun m hm => by omega) (fun τ3 o3 F3 n3 z3 h3 => ih (i + 1) τ3 (by omega) o3 F3 n3 z3 h3))
      · obtain rfl : m = 0 := by omega
        rw [tI_uI, if_pos ⟨rfl, rfl⟩]
        show ((i + 1 : Nat) : Int) = (i : Int) + 1
        omega
      · rw [tI_uI, if_neg (by omega)]; exact h1 m hm
  -- the first row
  have fst : ∀ (j q : Nat) (τ1 : T2), q + j = A.length + 1 → OC (fun a _ => a = 229 ∨ a = 230) τ τ1 → FX2 τ1 → tN τ1 = tN τ → tZ τ1 = tZ τ → (∀ m, m < q → tI τ1 229 m = (m : Int)) → G d 199 2 [vR 220, vR (336 + 4 * r), vI (q : Int), none, none] [] τ1 Q := by
    intro j
    induction j with
    | zero =>
      intro q τ1 hq o F1 n1 z1 h1
      have e2 := eAt τ1 o
      refine t199_2 (q4 := 229) (n6 := 13) (sq _ F1) (s0 _ F1) (F1.p rfl) (s29 _ F1) (fun c => by rw [e2] at c; omega) (fun _ => ?_) (fun c => by rw [e2] at c; omega)
      exact rows l.length 0 τ1 (by omega) o F1 n1 z1 (fun m hm => h1 m (by omega))
    | succ j ih =>
      intro q τ1 hq o F1 n1 z1 h1
      have e2 := eAt τ1 o
      refine t199_2 (q4 := 229) (n6 := 13) (sq _ F1) (s0 _ F1) (F1.p rfl) (s29 _ F1) (fun _ => by omega) (fun c => by rw [e2] at c; omega) (fun _ => ?_)
      rw [wr_nat (by omega), Int.toNat_natCast]
      refine ih (q + 1) _ (by omega) (OC.j (P := fun a _ => a = 229 ∨ a = 230) o (Or.inl rfl)) F1.j n1 z1 (fun m hm => ?_)
      rw [tI_uI]
      by_cases e : m = q
      · rw [if_pos ⟨rfl, e⟩, e]
      · rw [if_neg (fun z => e z.2)]; exact h1 m (by omega)
  exact t199_0 (r1 := some (336 + 4 * r)) (fst (A.length + 1) 0 τ (by omega) OC.rf F rfl rfl (fun m hm => by omega))
end LEV
