/-! WORKINGS: what they do, class: letters that come behind, a step, all -/
def apL (A : Nat → List Int) (u : Int) (a p : Nat) (l : List Int) (i : Nat) : List Int := l ++ (List.range i).map (fun j => lt1 A u a (p + j))
theorem apL_s {A : Nat → List Int} {u : Int} {a p i : Nat} {l : List Int} : apL A u a p l (i + 1) = apL A u a p l i ++ [lt1 A u a (p + i)] := by
  unfold apL
  rw [List.range_succ, List.map_append, ← List.append_assoc]
  rfl
theorem apL_len {A : Nat → List Int} {u : Int} {a p i : Nat} {l : List Int} : (apL A u a p l i).length = l.length + i := by unfold apL; simp
theorem apL_z {A : Nat → List Int} {u : Int} {a p : Nat} {l : List Int} : apL A u a p l 0 = l := by unfold apL; simp
theorem apL_1 {A : Nat → List Int} {u : Int} {a p : Nat} {l : List Int} : apL A u a p l 1 = l ++ [lt1 A u a p] := by
  rw [apL_s, apL_z]
  rfl
theorem apL_0 {A : Nat → List Int} {u : Int} {a i : Nat} {l : List Int} : apL A u a 0 l i = l ++ (List.range i).map (lt1 A u a) := by
  show l ++ (List.range i).map (fun j => lt1 A u a (0 + j)) = _
  rw [show (fun j => lt1 A u a (0 + j)) = lt1 A u a from funext fun j => by rw [Nat.zero_add]]
theorem srL_len {l : List Int} : (srL l).length = l.length := by
  unfold srL
  split <;> simp
section WCG
variable {d : Nat} {τ : T2} {Q : RS → T2 → Prop} {w n : Nat} {A : Nat → List Int} {u : Int}
theorem wE_an (hw : w = 80 ∨ w = 82) (C : AnC τ A n) {g : Nat → Int} {c : Int} : AnC (wE τ w 1 (w + 1) g c) A n := fun r hr => by
  have h := C r hr
  refine ⟨?_, fun j hj => ?_⟩
  · rw [wE_o (by unfold wP; omega)]; exact h.1
  · rw [wE_o (by unfold wP; omega)]; exact h.2 j hj
theorem c42 (F : FX2 τ) (hA : AnL A n) (C : AnC τ A n) {a : Nat} (ha : a < n) (h : Q (.inl (some (AI ((A a).length : Int)))) τ) : G d 42 0 [vR 66, vI (a : Int)] [] τ Q := by
  have h20 := hA.1
  refine t42_0 (n2 := 20) (q6 := 92 + 4 * a) (F.sh rfl (by omega) (by omega)) (fun _ _ => by omega) (fun _ _ => by rw [Int.toNat_natCast]; exact F.p (ptR a (by omega)).1) (F.sh (shR a (by omega)).1 (by omega) (by omega)) (fun q => by omega) (fun _ q => by omega) (fun _ _ => ?_)
  rw [(C a ha).1]
  exact h
theorem c43l (F : FX2 τ) (hw : w = 80 ∨ w = 82) (hA : AnL A n) (C : AnC τ A n) {a p q : Nat} (ha : a < n) (hq : q ≤ (A a).length) {l : List Int} (hl : l.length + (q - p) ≤ 24) {x6 : Int} (hx : x6 = if zand (zshr u (a : Int)) 1 = 0 then 1 else 0) (h : ∀ g, gL g (apL A u a p l (q - p)) → Q (.inl (some (AI 1))) (wE τ w 1 (w + 1) g ((apL A u a p l (q - p)).length : Int))) : ∀ (j i : Nat) (g : Nat → Int), i + j = q - p → gL g (apL A u a p l i) → G d 43 58 [vR w, vR 66, vI (a : Int), none, vI (q : Int), none, vI x6, vI ((p + i : Nat) : Int)] [] (wE τ w 1 (w + 1) g ((apL A u a p l i).length : Int)) Q := by
  have h20 := hA.1
  have a12 := (hA.2 a ha).2.1
  have sr := shR a (by omega)
  have pr := ptR a (by omega)
  intro j
  induction j with
  | zero =>
    intro i g hi hg
    obtain ⟨s1, s2, s3⟩ := wsh F hw g ((apL A u a p l i).length : Int)
    have F1 : FX2 (wE τ w 1 (w + 1) g ((apL A u a p l i).length : Int)) := wE_fx F
    have e : i = q - p := hi
    have no : ¬ ((p + i : Nat) : Int) < (q : Int) := by omega
    refine t43_58 (q3 := w + 1) (n6 := 24) (n9 := 20) (q12 := 92 + 4 * a) (q15 := 93 + 4 * a) (n17 := 12) s1 s3 s2 (fun y => absurd y no) (F1.sh rfl (by omega) (by omega)) (fun y => absurd y no) (fun y => absurd y no) (F1.sh sr.1 (by omega) (by omega)) (F1.p pr.2.1) (F1.sh sr.2.1 (by omega) (by omega)) (fun y => absurd y no) (fun y => absurd y no) (fun _ => ?_) (fun y => absurd y no) (fun y => absurd y no)
    subst e
    exact h g hg
  | succ j ih =>
    intro i g hi hg
    obtain ⟨s1, s2, s3⟩ := wsh F hw g ((apL A u a p l i).length : Int)
    have F1 : FX2 (wE τ w 1 (w + 1) g ((apL A u a p l i).length : Int)) := wE_fx F
    have hlen : (apL A u a p l i).length = l.length + i := apL_len
    have b24 : (0 : Int) ≤ ((apL A u a p l i).length : Int) ∧ ((apL A u a p l i).length : Int) < ((24 : Nat) : Int) := by omega
    have no : ¬ (q : Int) ≤ ((p + i : Nat) : Int) := by omega
    have ls : (apL A u a p l (i + 1)).length = (apL A u a p l i).length + 1 := by rw [apL_len, apL_len]; omega
    have go : ∀ x, x = lt1 A u a (p + i) → G d 43 58 [vR w, vR 66, vI (a : Int), none, vI (q : Int), none, vI x6, vI (wr (((p + i : Nat) : Int) + 1))] [] (uI (uI (wE τ w 1 (w + 1) g ((apL A u a p l i).length : Int)) (w + 1) (tI (wE τ w 1 (w + 1) g ((apL A u a p l i).length : Int)) w 1).toNat x) w 1 (wr ((tI (uI (wE τ w 1 (w + 1) g ((apL A u a p l i).length : Int)) (w + 1) (tI (wE τ w 1 (w + 1) g ((apL A u a p l i).length : Int)) w 1).toNat x) w 1) + 1))) Q := fun x e => by
      rw [wE_c, Int.toNat_natCast, wE_ug wne, wE_c, wr_nat (by omega), wr_nat (by omega), wE_uc, ← ls]
      refine ih (i + 1) _ (by omega) ?_
      rw [apL_s, e]
      exact gL_ap hg
    refine t43_58 (q3 := w + 1) (n6 := 24) (n9 := 20) (q12 := 92 + 4 * a) (q15 := 93 + 4 * a) (n17 := 12) s1 s3 s2 (fun _ _ => by rw [wE_c]; exact b24) (F1.sh rfl (by omega) (by omega)) (fun _ _ => by omega) (fun _ _ => by rw [Int.toNat_natCast]; exact F1.p pr.1) (F1.sh sr.1 (by omega) (by omega)) (F1.p pr.2.1) (F1.sh sr.2.1 (by omega) (by omega)) (fun _ _ => by omega) (fun _ _ => by rw [wE_c]; exact b24) (fun y => absurd y no) (fun _ y => ?_) (fun _ y => ?_)
    · refine go (zbyt 63) ?_
      unfold lt1
      rw [zbyt_id (x := 63) (by omega) (by omega)]
      by_cases hz : zand (zshr u (a : Int)) 1 = 0
      · rw [if_pos hz] at hx
        rw [hx] at y
        exact absurd y (by decide)
      · rw [if_neg hz]
    · refine go _ ?_
      have hz : zand (zshr u (a : Int)) 1 = 0 := by
        by_cases hz : zand (zshr u (a : Int)) 1 = 0
        · exact hz
        · rw [if_neg hz] at hx
          exact absurd hx y
      have hin : p + i < (A a).length := by clear hx; omega
      rw [Int.toNat_natCast, ((wE_an hw C) a ha).2 (p + i) hin]
      unfold lt1
      rw [if_pos hz]
      have b := an_g hA ha hin
      exact zbyt_id (by clear hx; omega) (by clear hx; omega)
theorem c43 (F : FX2 τ) (hw : w = 80 ∨ w = 82) (hA : AnL A n) (C : AnC τ A n) {a p q : Nat} (ha : a < n) (hp : p ≤ q) (h12 : q ≤ 12) {l : List Int} {g : Nat → Int} (hl : l.length ≤ 24) (hg : gL g l) (hd : 1 ≤ d) (k0 : ¬ (q ≤ (A a).length ∧ l.length + (q - p) ≤ 24) → Q (.inl (some (AI 0))) (wE τ w 1 (w + 1) g (l.length : Int))) (k1 : q ≤ (A a).length → l.length + (q - p) ≤ 24 → ∀ g, gL g (apL A u a p l (q - p)) → Q (.inl (some (AI 1))) (wE τ w 1 (w + 1) g ((apL A u a p l (q - p)).length : Int))) : G d 43 0 [vR w, vR 66, vI (a : Int), vI (p : Int), vI (q : Int), vI u, none, none] [] (wE τ w 1 (w + 1) g (l.length : Int)) Q := by
  obtain ⟨s1, s2, s3⟩ := wsh F hw g (l.length : Int)
  have e : wr (wr ((l.length : Int) + (q : Int)) - (p : Int)) = ((l.length + (q - p) : Nat) : Int) := by
    rw [wr_id (x := (l.length : Int) + (q : Int)) (by unfold okI; omega), wr_id (by unfold okI; omega)]
    omega
  have lp : ∀ x6, (x6 = if zand (zshr u (a : Int)) 1 = 0 then (1 : Int) else 0) → (q : Int) ≤ ((A a).length : Int) → ((l.length + (q - p) : Nat) : Int) ≤ 24 → G d 43 58 [vR w, vR 66, vI (a : Int), none, vI (q : Int), none, vI x6, vI (p : Int)] [] (wE τ w 1 (w + 1) g (l.length : Int)) Q := fun x6 hx h1 h2 => by
    have h3 : q ≤ (A a).length := by clear hx e; omega
    have h4 : l.length + (q - p) ≤ 24 := by clear hx e; omega
    have := c43l (d := d) (Q := Q) (p := p) F hw hA C ha h3 h4 hx (k1 h3 h4) (q - p) 0 g (Nat.zero_add _) (by rw [apL_z]; exact hg)
    rw [apL_z] at this
    exact this
  refine t43_0 hd (fun y => by clear e; omega) (fun _ y => by clear e; omega) (fun _ _ => c42 (wE_fx F) hA (wE_an hw C) ha ?_)
  refine t43_18 s1 (fun y1 y2 y3 => ?_) (fun y1 y2 y3 => ?_) (fun y1 y2 => ?_) (fun y => ?_)
  · rw [wE_c, e] at y2
    exact lp 0 (by rw [if_neg y3]) y1 y2
  · rw [wE_c, e] at y2
    exact lp 1 (by rw [if_pos y3]) y1 y2
  · rw [wE_c, e] at y2
    exact k0 (by clear e; omega)
  · exact k0 (by clear e; omega)
theorem c41 (F : FX2 τ) (hw : w = 80 ∨ w = 82) (hA : AnL A n) (C : AnC τ A n) (hd : 20 ≤ d) {l : List Int} {g : Nat → Int} (hl : okL l) (hg : gL g l) {x : WOP} (hx : okW n x) (k0 : eWk A u l x = none → Q (.inl (some (AI 0))) (wE τ w 1 (w + 1) g (l.length : Int))) (k1 : ∀ l1 g1, eWk A u l x = some l1 → gL g1 l1 → Q (.inl (some (AI 1))) (wE τ w 1 (w + 1) g1 (l1.length : Int))) : G d 41 0 [vR w, vI x.1, vI x.2.1, vI x.2.2, vR 66, vI u] [] (wE τ w 1 (w + 1) g (l.length : Int)) Q := by
  obtain ⟨s1, s2, s3⟩ := wsh F hw g (l.length : Int)
  obtain ⟨⟨kk1, kk7⟩, x1, x2, x3, x6⟩ := hx
  have l24 := hl.1
  unfold eWk at k0 k1
  refine t41_0 (t41_1 (fun e1 => ?_) (fun e1 => ?_) (fun e1 => ?_) (fun e1 => ?_) (fun e1 => ?_) (fun e1 => ?_) (fun e1 => ?_))
  · obtain ⟨⟨y1, y2⟩, y3, y4⟩ := x1 e1
    rw [if_pos e1] at k0 k1
    obtain ⟨a, ea⟩ : ∃ a : Nat, x.2.1 = (a : Int) := ⟨x.2.1.toNat, by omega⟩
    obtain ⟨p, ep⟩ : ∃ p : Nat, x.2.2 = ((p + 1 : Nat) : Int) := ⟨x.2.2.toNat - 1, by omega⟩
    rw [ea, ep] at k0 k1 ⊢
    rw [Int.toNat_natCast, Int.toNat_natCast, Nat.add_sub_cancel] at k0 k1
    refine t41_40 (by omega) s1 ?_
    rw [show wr (((p + 1 : Nat) : Int) - 1) = (p : Int) by rw [wr_id (by unfold okI; omega)]; omega]
    refine c43 F hw hA C (by omega) (by omega) (by omega) hl.1 hg (by omega) (fun h => t41_53 (Or.inl rfl) (k0 (if_neg (fun z => h ⟨by omega, by omega⟩)))) (fun h1 h2 g1 hg1 => t41_53 (Or.inr rfl) ?_)
    rw [show p + 1 - p = 1 by omega, apL_1] at hg1 ⊢
    exact k1 _ g1 (if_pos ⟨by omega, by omega⟩) hg1
  · obtain ⟨y1, y2⟩ := x2 e1
    rw [if_neg (by omega), if_pos e1] at k0 k1
    obtain ⟨a, ea⟩ : ∃ a : Nat, x.2.1 = (a : Int) := ⟨x.2.1.toNat, by omega⟩
    rw [ea] at k0 k1 ⊢
    rw [Int.toNat_natCast] at k0 k1
    have a12 := (hA.2 a (by omega)).2.1
    refine t41_54 (by omega) (c42 (wE_fx F) hA (wE_an hw C) (by omega) ?_)
    refine t41_65 (by omega) s1 (c43 (p := 0) F hw hA C (by omega) (Nat.zero_le _) a12 hl.1 hg (by omega) (fun h => t41_70 (Or.inl rfl) (k0 (if_neg (fun z => h ⟨Nat.le_refl _, by omega⟩)))) (fun h1 h2 g1 hg1 => t41_70 (Or.inr rfl) ?_))
    rw [Nat.sub_zero] at hg1 h2 ⊢
    rw [apL_0] at hg1 ⊢
    exact k1 _ g1 (if_pos (by omega)) hg1
  · have y := x3 e1
    rw [if_neg (by omega), if_neg (by omega), if_pos e1] at k1
    refine t41_71 (by omega) s1 (t44_0 (c44 F hw y hl (fun g1 h1 => t41_76 ?_) l.length 0 g (Nat.zero_add _) (fun k hk => by rw [if_neg (Nat.not_lt_zero _)]; exact hg k hk)))
    have := k1 _ g1 rfl h1
    rw [List.length_map] at this
    exact this
  · rw [if_neg (by omega), if_neg (by omega), if_neg (by omega), if_pos e1] at k1
    refine t41_78 (by omega) s1 (t45_0 s1 ?_)
    rw [wE_c, show wr ((l.length : Int) - 1) = (l.length : Int) - 1 - ((0 : Nat) : Int) by rw [wr_id (by unfold okI; omega)]; omega]
    refine c45 F hw hl (fun g1 h1 => t41_82 ?_) l.length 0 g (Nat.zero_add _) (Nat.zero_le _) (fun k hk => by rw [if_neg (by omega)]; exact hg k hk)
    have := k1 _ g1 rfl h1
    rw [List.length_reverse] at this
    exact this
  · rw [if_neg (by omega), if_neg (by omega), if_neg (by omega), if_neg (by omega), if_pos e1] at k1
    refine t41_84 (by omega) s1 (c46 F hw (by omega) hl hg (fun g1 h1 => t41_88 ?_))
    have := k1 _ g1 rfl h1
    rw [srL_len] at this
    exact this
  · have y := x6 (Or.inl e1)
    rw [if_neg (by omega), if_neg (by omega), if_neg (by omega), if_neg (by omega), if_neg (by omega), if_pos e1] at k1
    refine t41_90 (by omega) s1 ?_
    rw [wE_c, wE_uc]
    have e2 : (if x.2.1 < (l.length : Int) then x.2.1 else (l.length : Int)) = ((l.take x.2.1.toNat).length : Int) := by
      rw [List.length_take]
      split <;> omega
    rw [e2]
    exact k1 _ g rfl (fun j hj => by
      rw [List.length_take] at hj
      rw [byt_take (by omega)]
      exact hg j (by omega))
  · have e7 : x.1 = 7 := by omega
    have y := x6 (Or.inr e7)
    rw [if_neg (by omega), if_neg (by omega), if_neg (by omega), if_neg (by omega), if_neg (by omega), if_neg (by omega)] at k1
    obtain ⟨m, em⟩ : ∃ m : Nat, x.2.1 = ((m + 1 : Nat) : Int) := ⟨x.2.1.toNat - 1, by omega⟩
    rw [em] at k1 ⊢
    rw [Int.toNat_natCast] at k1
    refine t41_104 (by omega) s1 (t48_0 ?_)
    rw [show wr (((m + 1 : Nat) : Int) - 1) = (m : Int) by rw [wr_id (by unfold okI; omega)]; omega]
    exact c48 F hw ⟨by omega, by omega⟩ hl (fun g1 h1 => t41_109 (k1 _ g1 rfl h1)) 25 0 m g (Nat.zero_add _) (by omega) (by omega) (fun k hk => absurd hk (Nat.not_lt_zero _)) (fun k _ hk => hg k hk)
theorem c40l (F : FX2 τ) (hw : w = 80 ∨ w = 82) (hA : AnL A n) (C : AnC τ A n) (hd : 25 ≤ d) {o z : Nat} (ho : 473 ≤ o) (hs : tS τ o = (2, 0, z)) (hz : z ≤ 1200) : ∀ (V : List WOP) (p : Nat) (l : List Int) (g : Nat → Int), p + 3 * V.length = z → OpW (tI τ o) p V → (∀ x ∈ V, okW n x) → okL l → gL g l → (wrL A u V l = none → ∀ g c, Q (.inl (some (AI 0))) (wE τ w 1 (w + 1) g c)) → (∀ l1, wrL A u V l = some l1 → okL l1 → ∀ g, gL g l1 → Q (.inl (some (AI 1))) (wE τ w 1 (w + 1) g (l1.length : Int))) → G d 40 14 [vR w, none, vR 66, vI u, vR o, vI (p : Int)] [] (wE τ w 1 (w + 1) g (l.length : Int)) Q := by
  intro V
  induction V with
  | nil =>
    intro p l g hp _ _ hl hg _ k1
    obtain ⟨s1, s2, s3⟩ := wsh F hw g (l.length : Int)
    have hp : p = z := hp
    have e3 : wr ((p : Int) + 3) = ((p + 3 : Nat) : Int) := by rw [wr_id (by unfold okI; omega)]; omega
    have no : ¬ wr ((p : Int) + 3) ≤ (z : Int) := by rw [e3]; clear e3; omega
    exact t40_14 (n1 := z) (by omega) (show tS τ o = _ from hs) (fun y => absurd y no) (fun y => absurd y no) (fun y => absurd y no) s1 (fun _ => k1 l rfl hl g hg) (fun y => absurd y no)
  | cons x V ih =>
    intro p l g hp hO hk hl hg k0 k1
    obtain ⟨s1, s2, s3⟩ := wsh F hw g (l.length : Int)
    simp only [List.length_cons] at hp
    obtain ⟨o1, o2, o3, o4⟩ := hO
    have hb3 : p + 3 < 2147483648 := by omega
    have hb1 : p + 1 < 2147483648 := by omega
    have hb2 : p + 2 < 2147483648 := by omega
    have e3 : wr ((p : Int) + 3) = ((p + 3 : Nat) : Int) := add_n (y := 3) hb3
    have e1 : wr ((p : Int) + 1) = ((p + 1 : Nat) : Int) := add_n (y := 1) hb1
    have e2 : wr ((p : Int) + 2) = ((p + 2 : Nat) : Int) := add_n (y := 2) hb2
    have eo : ∀ k, tI (wE τ w 1 (w + 1) g (l.length : Int)) o k = tI τ o k := fun k => wE_o (by unfold wP; clear e1 e2 e3; omega)
    have no : ¬ (z : Int) < wr ((p : Int) + 3) := by rw [e3]; clear e1 e2 e3; omega
    refine t40_14 (n1 := z) (by clear e1 e2 e3; omega) (show tS τ o = _ from hs) (fun _ => by clear e1 e2 e3 no; omega) (fun _ => by rw [e1]; clear e1 e2 e3 no; omega) (fun _ => by rw [e2]; clear e1 e2 e3 no; omega) s1 (fun y => absurd y no) (fun _ => ?_)
    rw [eo, eo, eo, e1, e2, Int.toNat_natCast, Int.toNat_natCast, Int.toNat_natCast, o1, o2, o3]
    simp only [wrL] at k0 k1
    refine c41 F hw hA C (by clear e1 e2 e3 no; omega) hl hg (hk x (by simp)) (fun he => t40_49 (fun y => absurd rfl y) (fun _ => ?_)) (fun l1 g1 he hg1 => t40_49 (fun _ => ?_) (fun y => absurd y (by decide)))
    · rw [he] at k0
      exact k0 rfl g _
    · rw [he] at k0 k1
      rw [e3]
      exact ih (p + 3) l1 g1 (by clear e1 e2 e3 no; omega) o4 (fun y hy => hk y (List.mem_cons_of_mem _ hy)) (eWk_o hA hl (hk x (by simp)) he) hg1 k0 k1
theorem woC_of {q o : Nat} {W : List WOP} (hq : CoA τ q) (hp : tP τ q 0 = some o) (h1 : 473 ≤ o) (h2 : o < tN τ) (so : tS τ o = (2, 0, 3 * W.length)) (hz : 3 * W.length ≤ 1200) (hW : OpW (tI τ o) 0 W) (hk : ∀ x ∈ W, okW n x) : WoC τ n q (wrk W) := ⟨hq, fun τ1 d Q w A u hd e F hw hA C _ k0 k1 => by
  obtain ⟨q1, q2, q3⟩ := hq
  have f1 := e.2 q q1 q2
  have f2 := e.2 o h1 h2
  obtain ⟨s1, s2, s3⟩ := row_sh F hw
  refine t40_0 s1 (f1.1.trans q3) ?_
  rw [tP_uI, f1.2.2, hp, wE_of (b := w + 1) wne]
  refine c40l F hw hA C (by omega) h1 (f2.1.trans so) hz W 0 [] (tI τ1 (w + 1)) (Nat.zero_add _) (by rw [f2.2.1]; exact hW) hk ⟨Nat.zero_le _, fun x hx => (by cases hx)⟩ (fun j hj => absurd hj (Nat.not_lt_zero _)) (fun he g c => k0 _ wE_oc rfl rfl he) (fun l1 he hl g hg => k1 _ l1 wE_oc rfl rfl he hl.1 wE_c (fun j hj => ?_))
  rw [wE_g wne]
  exact hg j hj⟩
end WCG
