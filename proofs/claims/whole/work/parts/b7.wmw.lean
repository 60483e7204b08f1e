/-! WORKINGS: what they do, model: all rows -/
def rwT (τ : T2) (q : Nat) : Nat → Nat → List WOP
  | _, 0 => []
  | k, j + 1 => rwW τ q k ++ rwT τ q (k + 1) j
theorem rwT_e {τ : T2} {q : Nat} : ∀ (j k : Nat), rwsW τ q k ++ rwT τ q k j = rwsW τ q (k + j)
  | 0, k => by simp [rwT]
  | j + 1, k => by
    have h := rwT_e (τ := τ) (q := q) j (k + 1)
    rw [show k + (j + 1) = k + 1 + j by omega, ← h]
    simp only [rwT, rwsW, List.append_assoc]
section WMW
variable {d : Nat} {τ : T2} {Q : RS → T2 → Prop} {n q : Nat} {A : Nat → List Int} {u : Int}
theorem wob_v (h : WOb τ q) {g : Nat → Int} {c : Int} {a j : Nat} (h1 : q ≤ a) : tI (wE τ 220 32 231 g c) a j = tI τ a j := wE_o (by have := h.1; unfold wP; omega)
/-- what is taken -/
theorem m74 (F : FX2 τ) (hA : AnL A n) (C : AnM τ A n) (wo : WOb τ q) {k t : Nat} (hk : k < 12) (ht : tI τ (q + 3) k = (t : Int)) (ht12 : t ≤ 12) (hok : ∀ i, i < t → okW n (1, tI τ (q + 5) (12 * k + i), tI τ (q + 4) (12 * k + i))) : ∀ (j i : Nat) (l : List Int) (g : Nat → Int), i + j = t → okL l → gL g l → (wrL A u (((List.range t).map fun i => ((1 : Int), tI τ (q + 5) (12 * k + i), tI τ (q + 4) (12 * k + i))).drop i) l = none → ∀ g c, Q (.inl (some (AI 0))) (wE τ 220 32 231 g c)) → (∀ l1 g1, wrL A u (((List.range t).map fun i => ((1 : Int), tI τ (q + 5) (12 * k + i), tI τ (q + 4) (12 * k + i))).drop i) l = some l1 → okL l1 → gL g1 l1 → G d 203 7 [vR 220, vR q, vI u, vI (wr ((k : Int) + 1)), none, none, none] [] (wE τ 220 32 231 g1 (l1.length : Int)) Q) → G d 203 74 [vR 220, vR q, vI u, vI (k : Int), none, vI ((12 * k + i : Nat) : Int), none] [] (wE τ 220 32 231 g (l.length : Int)) Q := by
  have h20 := hA.1
  obtain ⟨w1, w2, w3, ⟨p0, p1, p2, p3, p4⟩, v1, v2, v3, v4, v5⟩ := id wo
  intro j
  induction j with
  | zero =>
    intro i l g hi hl hg k0 k1
    obtain ⟨s1, s2, s3⟩ := msh F g (l.length : Int)
    have F1 : FX2 (wE τ 220 32 231 g (l.length : Int)) := wE_fx F
    have hi : i = t := hi
    have eb : wr (wr (12 * (k : Int)) + tI (wE τ 220 32 231 g (l.length : Int)) (q + 3) ((k : Nat) : Int).toNat) = ((12 * k + t : Nat) : Int) := by
      rw [Int.toNat_natCast, wob_v wo (by omega), ht, wr_id (x := 12 * (k : Int)) (by unfold okI; omega), wr_id (by unfold okI; omega)]
      omega
    have no : ¬ ((12 * k + i : Nat) : Int) < wr (wr (12 * (k : Int)) + tI (wE τ 220 32 231 g (l.length : Int)) (q + 3) ((k : Nat) : Int).toNat) := by rw [eb]; clear eb; omega
    have sr := shM 0 (by omega)
    have pr := ptM 0 (by omega)
    refine t203_74 (q2 := q + 3) (n4 := 12) (q9 := 221) (q11 := q + 5) (n13 := 144) (n16 := 20) (q19 := 336) (q21 := q + 4) (n23 := 144) (q29 := 231) (q32 := 337) (n34 := 12) (n37 := 37) w3 p2 v3 (by clear eb no; omega) s1 (F1.p rfl) p4 v5 (fun y => absurd y no) (F1.sh rfl (by omega) (by omega)) (fun y => absurd y no) (fun y => absurd y no) p3 v4 (fun y => absurd y no) (F1.sh sr.1 (by omega) (by omega)) s3 (F1.p pr.2.1) (F1.sh sr.2.1 (by omega) (by omega)) (fun y => absurd y no) s2 (fun y => absurd y no) (fun y => absurd y no) (fun _ => ?_) (fun y => absurd y no) (fun y => absurd y no) (fun y => absurd y no) (fun y => absurd y no)
    refine k1 l g ?_ hl hg
    rw [List.drop_eq_nil_of_le (by simp; clear eb no; omega)]
    rfl
  | succ j ih =>
    intro i l g hi hl hg k0 k1
    obtain ⟨s1, s2, s3⟩ := msh F g (l.length : Int)
    have F1 : FX2 (wE τ 220 32 231 g (l.length : Int)) := wE_fx F
    have hit : i < t := by omega
    have l24 := hl.1
    have hx := hok i hit
    obtain ⟨⟨y1, y2⟩, y3, y4⟩ := hx.2.1 rfl
    simp only at y1 y2 y3 y4
    obtain ⟨a, ea⟩ : ∃ a : Nat, tI τ (q + 5) (12 * k + i) = (a : Int) := ⟨(tI τ (q + 5) (12 * k + i)).toNat, by omega⟩
    obtain ⟨b, eb⟩ : ∃ b : Nat, tI τ (q + 4) (12 * k + i) = ((b + 1 : Nat) : Int) := ⟨(tI τ (q + 4) (12 * k + i)).toNat - 1, by omega⟩
    have hdr : ((List.range t).map fun i => ((1 : Int), tI τ (q + 5) (12 * k + i), tI τ (q + 4) (12 * k + i))).drop i = (1, (a : Int), ((b + 1 : Nat) : Int)) :: ((List.range t).map fun i => ((1 : Int), tI τ (q + 5) (12 * k + i), tI τ (q + 4) (12 * k + i))).drop (i + 1) := by
      rw [List.drop_eq_getElem_cons (by simp; exact hit), List.getElem_map, List.getElem_range, ea, eb]
    rw [hdr] at k0 k1
    clear hdr
    have hew : eWk A u l (1, (a : Int), ((b + 1 : Nat) : Int)) = if ((b + 1 : Nat) : Int) ≤ ((A a).length : Int) ∧ l.length < 24 then some (l ++ [lt1 A u a b]) else none := by
      unfold eWk
      rw [if_pos rfl]
      rfl
    simp only [wrL] at k0 k1
    have ok1 := fun l1 (h : eWk A u l (1, (a : Int), ((b + 1 : Nat) : Int)) = some l1) => eWk_o hA hl (by rw [ea, eb] at hx; exact hx) h
    rw [ea] at y1 y2
    rw [eb] at y3 y4
    have han : a < n := by omega
    have ev : tI (wE τ 220 32 231 g (l.length : Int)) (q + 5) ((12 * k + i : Nat) : Int).toNat = (a : Int) := by rw [Int.toNat_natCast, wob_v wo (by omega)]; exact ea
    have ep : tI (wE τ 220 32 231 g (l.length : Int)) (q + 4) ((12 * k + i : Nat) : Int).toNat = ((b + 1 : Nat) : Int) := by rw [Int.toNat_natCast, wob_v wo (by omega)]; exact eb
    have es : tI (wE τ 220 32 231 g (l.length : Int)) (336 + 4 * a) 2 = ((A a).length : Int) := ((mE_an C) a han).1
    have ew : wr (((b + 1 : Nat) : Int) - 1) = (b : Int) := by rw [wr_id (by unfold okI; omega)]; omega
    have ebd : wr (wr (12 * (k : Int)) + tI (wE τ 220 32 231 g (l.length : Int)) (q + 3) ((k : Nat) : Int).toNat) = ((12 * k + t : Nat) : Int) := by
      rw [Int.toNat_natCast, wob_v wo (by omega), ht, wr_id (x := 12 * (k : Int)) (by unfold okI; clear ew ev ep es; omega), wr_id (by unfold okI; clear ew ev ep es; omega)]
      clear ew ev ep es
      omega
    have no : ¬ wr (wr (12 * (k : Int)) + tI (wE τ 220 32 231 g (l.length : Int)) (q + 3) ((k : Nat) : Int).toNat) ≤ ((12 * k + i : Nat) : Int) := by rw [ebd]; clear ew ev ep es ebd; omega
    clear ebd
    have sr := shM a (by clear ew ev ep es no; omega)
    have pr := ptM a (by clear ew ev ep es no; omega)
    have bi : (0 : Int) ≤ ((12 * k + i : Nat) : Int) ∧ ((12 * k + i : Nat) : Int) < ((144 : Nat) : Int) := by clear ew ev ep es no; omega
    have bc : (0 : Int) ≤ tI (wE τ 220 32 231 g (l.length : Int)) 220 32 ∧ tI (wE τ 220 32 231 g (l.length : Int)) 220 32 < ((37 : Nat) : Int) := by rw [wE_c]; clear ew ev ep es no; omega
    have go : ∀ x, x = lt1 A u a b → b + 1 ≤ (A a).length → l.length < 24 → G d 203 74 [vR 220, vR q, vI u, vI (k : Int), none, vI (wr (((12 * k + i : Nat) : Int) + 1)), none] [] (uI (uI (wE τ 220 32 231 g (l.length : Int)) 231 (tI (wE τ 220 32 231 g (l.length : Int)) 220 32).toNat x) 220 32 (wr ((tI (uI (wE τ 220 32 231 g (l.length : Int)) 231 (tI (wE τ 220 32 231 g (l.length : Int)) 220 32).toNat x) 220 32) + 1))) Q := fun x e z1 z2 => by
      clear ew ev ep es no bi bc
      have he : eWk A u l (1, (a : Int), ((b + 1 : Nat) : Int)) = some (l ++ [lt1 A u a b]) := by rw [hew, if_pos ⟨by omega, z2⟩]
      rw [he] at k0 k1
      rw [wE_c, Int.toNat_natCast, wE_ug mne, wE_c, wr_nat (by omega), wr_nat (by omega), wE_uc, show ((l.length + 1 : Nat) : Int) = ((l ++ [lt1 A u a b]).length : Int) by simp]
      refine ih (i + 1) _ _ (by omega) (ok1 _ he) ?_ k0 k1
      rw [e]
      exact gL_ap hg
    refine t203_74 (q2 := q + 3) (n4 := 12) (q9 := 221) (q11 := q + 5) (n13 := 144) (n16 := 20) (q19 := 336 + 4 * a) (q21 := q + 4) (n23 := 144) (q29 := 231) (q32 := 337 + 4 * a) (n34 := 12) (n37 := 37) w3 p2 v3 (by clear ew ev ep es no; omega) s1 (F1.p rfl) p4 v5 (fun _ => bi) (F1.sh rfl (by omega) (by omega)) (fun _ => by rw [ev]; clear ew ev ep es no; omega) (fun _ => by rw [ev, Int.toNat_natCast]; exact F1.p pr.1) p3 v4 (fun _ => bi) (F1.sh sr.1 (by omega) (by clear ew ev ep es no; omega)) s3 (F1.p pr.2.1) (F1.sh sr.2.1 (by omega) (by clear ew ev ep es no; omega)) (fun _ _ _ _ => by rw [ep, ew]; clear ew ev ep es no; omega) s2 (fun _ _ _ _ => bc) (fun _ _ _ _ => bc) (fun y => absurd y no) (fun _ y => ?_) (fun _ y1 y2 y3 => ?_) (fun _ y1 y2 y3 => ?_) (fun _ y1 y2 => ?_)
    · rw [es, ep] at y
      rw [hew, if_neg (by clear ew ev ep es no; omega)] at k0
      exact k0 rfl _ _
    · rw [es, ep] at y1
      rw [wE_c] at y2
      rw [ev] at y3
      have hz : zand (zshr u (a : Int)) 1 = 0 := by
        rcases zand1 (zshr u (a : Int)) with z | z
        · exact z
        · exact absurd z y3
      have hin : b < (A a).length := by clear ew ev ep es no hz y3; omega
      refine go _ ?_ hin (by clear ew ev ep es no hz y3; omega)
      rw [ep, ew, Int.toNat_natCast, ((mE_an C) a han).2 b hin]
      unfold lt1
      rw [if_pos hz]
      have bb := an_g hA han hin
      exact zbyt_id (by clear ew ev ep es no hz y3; omega) (by clear ew ev ep es no hz y3; omega)
    · rw [es, ep] at y1
      rw [wE_c] at y2
      rw [ev] at y3
      refine go (zbyt 63) ?_ (by clear ew ev ep es no y3; omega) (by clear ew ev ep es no y3; omega)
      unfold lt1
      rw [zbyt_id (x := 63) (by omega) (by omega), if_neg (by rw [y3]; decide)]
    · rw [wE_c] at y2
      rw [hew, if_neg (by clear ew ev ep es no y1; omega)] at k0
      exact k0 rfl _ _
/-- a row -/
theorem m203s (F : FX2 τ) (hA : AnL A n) (C : AnM τ A n) (wo : WOb τ q) (hd : 20 ≤ d) {k mn : Nat} (hmn : tI τ q 5 = (mn : Int)) (hk : k < mn) (h12 : mn ≤ 12) (hr : (0 ≤ tI τ (q + 1) k ∧ tI τ (q + 1) k ≤ 6) ∧ 0 ≤ tI τ (q + 3) k ∧ tI τ (q + 3) k ≤ 12) (hok : ∀ x ∈ rwW τ q k, okW n x) {l : List Int} {g : Nat → Int} (hl : okL l) (hg : gL g l) (k0 : wrL A u (rwW τ q k) l = none → ∀ g c, Q (.inl (some (AI 0))) (wE τ 220 32 231 g c)) (k1 : ∀ l1 g1, wrL A u (rwW τ q k) l = some l1 → okL l1 → gL g1 l1 → G d 203 7 [vR 220, vR q, vI u, vI (wr ((k : Int) + 1)), none, none, none] [] (wE τ 220 32 231 g1 (l1.length : Int)) Q) : G d 203 7 [vR 220, vR q, vI u, vI (k : Int), none, none, none] [] (wE τ 220 32 231 g (l.length : Int)) Q := by
  have h20 := hA.1
  have l24 := hl.1
  obtain ⟨w1, w2, w3, ⟨p0, p1, p2, p3, p4⟩, v1, v2, v3, v4, v5⟩ := id wo
  obtain ⟨s1, s2, s3⟩ := msh F g (l.length : Int)
  have F1 : FX2 (wE τ 220 32 231 g (l.length : Int)) := wE_fx F
  refine t203_7 (q3 := q + 2) (n5 := 12) (q8 := q + 1) (n10 := 12) w3 p1 v2 (fun _ => by omega) p0 v1 (fun _ => by omega) (fun y => ?_) (fun _ => ?_)
  · rw [wob_v wo (Nat.le_refl _), hmn] at y
    omega
  rw [Int.toNat_natCast, wob_v wo (by omega), wob_v wo (by omega)]
  -- one step alone
  have one : ∀ x : WOP, rwW τ q k = [x] → okW n x ∧ (eWk A u l x = none → ∀ g c, Q (.inl (some (AI 0))) (wE τ 220 32 231 g c)) ∧ ∀ l1 g1, eWk A u l x = some l1 → gL g1 l1 → G d 203 7 [vR 220, vR q, vI u, vI (wr ((k : Int) + 1)), none, none, none] [] (wE τ 220 32 231 g1 (l1.length : Int)) Q := fun x hx => by
    rw [hx] at k0 k1 hok
    simp only [wrL] at k0 k1
    have ox := hok x (by simp)
    refine ⟨ox, fun he => ?_, fun l1 g1 he hg1 => ?_⟩
    · rw [he] at k0
      exact k0 rfl
    · have o1 := eWk_o hA hl ox he
      rw [he] at k1
      exact k1 l1 g1 rfl o1 hg1
  refine t203_29 (fun e1 => ?_) (fun e1 => ?_) (fun e1 => ?_) (fun e1 => ?_) (fun e1 => ?_) (fun e1 => ?_) (fun e1 => ?_)
  · clear one
    obtain ⟨t, et⟩ : ∃ t : Nat, tI τ (q + 3) k = (t : Int) := ⟨(tI τ (q + 3) k).toNat, by omega⟩
    have er : rwW τ q k = (List.range t).map fun i => ((1 : Int), tI τ (q + 5) (12 * k + i), tI τ (q + 4) (12 * k + i)) := by
      unfold rwW
      rw [if_pos e1, et, Int.toNat_natCast]
    rw [er] at k0 k1 hok
    refine t203_68 ?_
    rw [show wr (12 * (k : Int)) = ((12 * k + 0 : Nat) : Int) by rw [wr_id (by unfold okI; omega)]; omega]
    exact m74 F hA C wo (by omega) et (by omega) (fun i hi => hok _ (List.mem_map.mpr ⟨i, List.mem_range.mpr hi, rfl⟩)) t 0 l g (Nat.zero_add _) hl hg k0 k1
  · obtain ⟨⟨-, x1, x2, x3, x6⟩, k0, k1⟩ := one (2, tI τ (q + 2) k, 0) (by unfold rwW; rw [if_neg (by omega), if_neg (by omega), e1]; rfl)
    have y := x2 rfl
    simp only at y
    obtain ⟨a, ea⟩ : ∃ a : Nat, tI τ (q + 2) k = (a : Int) := ⟨(tI τ (q + 2) k).toNat, by omega⟩
    rw [ea] at k0 k1 y ⊢
    have han : a < n := by omega
    have sr := shM a (by omega)
    have pr := ptM a (by omega)
    have a12 := (hA.2 a han).2.1
    have hew : eWk A u l (2, (a : Int), 0) = if l.length + (A a).length ≤ 24 then some (l ++ (List.range (A a).length).map (lt1 A u a)) else none := by
      unfold eWk
      rw [if_neg (by simp), if_pos rfl]
      rfl
    have es : tI (wE τ 220 32 231 g (l.length : Int)) (336 + 4 * a) 2 = ((A a).length : Int) := ((mE_an C) a han).1
    have ew : wr (tI (wE τ 220 32 231 g (l.length : Int)) 220 32 + tI (wE τ 220 32 231 g (l.length : Int)) (336 + 4 * a) 2) = ((l.length + (A a).length : Nat) : Int) := by
      rw [wE_c, es, wr_id (by unfold okI; clear es; omega)]
      clear es
      omega
    refine t203_193 (q2 := 221) (n4 := 20) (q7 := 336 + 4 * a) s1 (F1.p rfl) (F1.sh rfl (by omega) (by omega)) (by clear es ew; omega) (by rw [Int.toNat_natCast]; exact F1.p pr.1) (F1.sh sr.1 (by omega) (by clear es ew; omega)) (fun y => ?_) (fun y => ?_)
    · rw [ew] at y
      clear ew es
      have h24 : l.length + (A a).length ≤ 24 := by omega
      have := m222l (r1 := some q) (x3 := (k : Int)) (d := d) (u := u) (Q := Q) F hA C han h24 (fun g1 h1 => by
        have h2 := k1 (apL A u a 0 l (A a).length) g1 (by rw [hew, if_pos h24, apL_0]) h1
        exact h2) (A a).length 0 g (Nat.zero_add _) (by rw [apL_z]; exact hg)
      rw [apL_z] at this
      exact this
    · rw [ew] at y
      rw [hew, if_neg (by clear ew es; omega)] at k0
      exact k0 rfl _ _
  · obtain ⟨⟨-, x1, x2, x3, x6⟩, -, k1⟩ := one (3, tI τ (q + 2) k, 0) (by unfold rwW; rw [if_neg (by omega), if_neg (by omega), e1]; rfl)
    have y := x3 rfl
    simp only at y
    refine t203_283 (m286 (r1 := some q) F y hl (fun g1 h1 => ?_) l.length 0 g (Nat.zero_add _) (fun k hk => by rw [if_neg (Nat.not_lt_zero _)]; exact hg k hk))
    have := k1 (l.map (sh1 (tI τ (q + 2) k))) g1 (by unfold eWk; rw [if_neg (by simp), if_neg (by simp), if_pos rfl]) h1
    rw [List.length_map] at this
    exact this
  · obtain ⟨-, -, k1⟩ := one (4, 0, 0) (by unfold rwW; rw [if_neg (by omega), if_pos (Or.inl e1), e1]; rfl)
    refine t203_343 (m346 (r1 := some q) F hl (fun g1 h1 => ?_) (l.length / 2) 0 g (Nat.zero_add _) (fun k hk => by rw [if_neg (by omega)]; exact hg k hk))
    have := k1 l.reverse g1 (by unfold eWk; rw [if_neg (by simp), if_neg (by simp), if_neg (by simp), if_pos rfl]) h1
    rw [List.length_reverse] at this
    exact this
  · obtain ⟨-, -, k1⟩ := one (5, 0, 0) (by unfold rwW; rw [if_neg (by omega), if_pos (Or.inr e1), e1]; rfl)
    refine t203_412 (r1 := some q) (by omega) s1 (m204 F hl hg (fun g1 h1 => t203_416 (r1 := some q) ?_))
    have := k1 (srL l) g1 (by unfold eWk; rw [if_neg (by simp), if_neg (by simp), if_neg (by simp), if_neg (by simp), if_pos rfl]) h1
    rw [srL_len] at this
    exact this
  · obtain ⟨⟨-, x1, x2, x3, x6⟩, -, k1⟩ := one (6, tI τ (q + 2) k, 0) (by unfold rwW; rw [if_neg (by omega), if_neg (by omega), e1]; rfl)
    have y := x6 (Or.inl rfl)
    simp only at y
    refine t203_419 (r1 := some q) (by omega) s1 ?_
    rw [wE_c, wE_uc]
    have e2 : (if tI τ (q + 2) k < (l.length : Int) then tI τ (q + 2) k else (l.length : Int)) = ((l.take (tI τ (q + 2) k).toNat).length : Int) := by
      rw [List.length_take]
      split <;> omega
    rw [e2]
    exact k1 (l.take (tI τ (q + 2) k).toNat) g (by unfold eWk; rw [if_neg (by simp), if_neg (by simp), if_neg (by simp), if_neg (by simp), if_neg (by simp), if_pos rfl]) (fun j hj => by
      rw [List.length_take] at hj
      rw [byt_take (by omega)]
      exact hg j (by omega))
  · have e6 : tI τ (q + 1) k = 6 := by omega
    obtain ⟨⟨-, x1, x2, x3, x6⟩, -, k1⟩ := one (7, tI τ (q + 2) k, 0) (by unfold rwW; rw [if_neg (by omega), if_neg (by omega), e6]; rfl)
    have y := x6 (Or.inr rfl)
    simp only at y
    obtain ⟨m, em⟩ : ∃ m : Nat, tI τ (q + 2) k = ((m + 1 : Nat) : Int) := ⟨(tI τ (q + 2) k).toNat - 1, by omega⟩
    rw [em] at k1 y ⊢
    refine t203_435 (r1 := some q) ?_
    rw [show wr (((m + 1 : Nat) : Int) - 1) = (m : Int) by rw [wr_id (by unfold okI; omega)]; omega]
    exact m444 (r1 := some q) F ⟨by omega, by omega⟩ hl (fun g1 h1 => k1 _ g1 (by unfold eWk; rw [if_neg (by simp), if_neg (by simp), if_neg (by simp), if_neg (by simp), if_neg (by simp), if_neg (by simp)]; rfl) h1) 25 0 m g (Nat.zero_add _) (by omega) (by omega) (fun k hk => absurd hk (Nat.not_lt_zero _)) (fun k _ hk => hg k hk)
theorem m203l (F : FX2 τ) (hA : AnL A n) (C : AnM τ A n) (wo : WOb τ q) (hd : 20 ≤ d) {mn : Nat} (hmn : tI τ q 5 = (mn : Int)) (h12 : mn ≤ 12) (hr : okRw τ q mn) : ∀ (j k : Nat) (l : List Int) (g : Nat → Int), k + j = mn → (∀ x ∈ rwT τ q k j, okW n x) → okL l → gL g l → (wrL A u (rwT τ q k j) l = none → ∀ g c, Q (.inl (some (AI 0))) (wE τ 220 32 231 g c)) → (∀ l1, wrL A u (rwT τ q k j) l = some l1 → okL l1 → ∀ g, gL g l1 → Q (.inl (some (AI 1))) (wE τ 220 32 231 g (l1.length : Int))) → G d 203 7 [vR 220, vR q, vI u, vI (k : Int), none, none, none] [] (wE τ 220 32 231 g (l.length : Int)) Q := by
  obtain ⟨w1, w2, w3, ⟨p0, p1, p2, p3, p4⟩, v1, v2, v3, v4, v5⟩ := id wo
  intro j
  induction j with
  | zero =>
    intro k l g hk _ hl hg _ k1
    have no : ¬ (k : Int) < tI (wE τ 220 32 231 g (l.length : Int)) q 5 := by rw [wob_v wo (Nat.le_refl _), hmn]; omega
    exact t203_7 (q3 := q + 2) (n5 := 12) (q8 := q + 1) (n10 := 12) w3 p1 v2 (fun y => absurd y no) p0 v1 (fun y => absurd y no) (fun _ => k1 l rfl hl g hg) (fun y => absurd y no)
  | succ j ih =>
    intro k l g hk hok hl hg k0 k1
    simp only [rwT] at hok k0 k1
    rw [wrL_ap] at k0
    have k1 : ∀ l1, (match wrL A u (rwW τ q k) l with | none => none | some l1 => wrL A u (rwT τ q (k + 1) j) l1) = some l1 → okL l1 → ∀ g, gL g l1 → Q (.inl (some (AI 1))) (wE τ 220 32 231 g (l1.length : Int)) := fun l1 h => k1 l1 (by rw [wrL_ap]; exact h)
    refine m203s F hA C wo hd hmn (by omega) h12 (hr k (by omega)) (fun x hx => hok x (List.mem_append.mpr (Or.inl hx))) hl hg (fun he => ?_) (fun l1 g1 he ol hg1 => ?_)
    · rw [he] at k0
      exact k0 rfl
    · rw [he] at k0 k1
      rw [wr_nat (by omega)]
      exact ih (k + 1) l1 g1 (by omega) (fun x hx => hok x (List.mem_append.mpr (Or.inr hx))) ol hg1 k0 k1
theorem woM_of {W : List WOP} {mn : Nat} (h : WkM τ q n mn W) : WoM τ n q (wrk W) := fun τ1 d Q A u hd e F hA C _ k0 k1 => by
  obtain ⟨wo, hmn, h12, hr, hW, hk, -⟩ := h
  obtain ⟨w1, w2, w3, ⟨p0, p1, p2, p3, p4⟩, v1, v2, v3, v4, v5⟩ := id wo
  have ce : ∀ a, q ≤ a → a ≤ q + 5 → tS τ1 a = tS τ a ∧ tI τ1 a = tI τ a ∧ tP τ1 a = tP τ a := fun a h1 h2 => e.2 a (by omega) (by omega)
  have wo1 : WOb τ1 q := ⟨w1, by have := e.1; omega, by rw [(ce q (by omega) (by omega)).1]; exact w3, by rw [(ce q (by omega) (by omega)).2.2]; exact ⟨p0, p1, p2, p3, p4⟩, by rw [(ce (q + 1) (by omega) (by omega)).1]; exact v1, by rw [(ce (q + 2) (by omega) (by omega)).1]; exact v2, by rw [(ce (q + 3) (by omega) (by omega)).1]; exact v3, by rw [(ce (q + 4) (by omega) (by omega)).1]; exact v4, by rw [(ce (q + 5) (by omega) (by omega)).1]; exact v5⟩
  have re : RwE τ τ1 q mn := RwE.cel fun a k h1 h2 => by rw [(ce a h1 h2).2.1]
  have hr1 := hr.e re
  have hm1 : tI τ1 q 5 = (mn : Int) := by rw [(ce q (by omega) (by omega)).2.1]; exact hmn
  have eW : rwT τ1 q 0 mn = W := by
    have h := rwT_e (τ := τ1) (q := q) mn 0
    rw [Nat.zero_add, rwsW_e mn re hr, hW] at h
    exact h
  refine t203_0 (r1 := some q) (F.sh rfl (by omega) (by omega)) ?_
  rw [wE_of (b := 231) mne]
  refine m203l (τ := τ1) F hA C wo1 (by omega) hm1 h12 hr1 mn 0 [] (tI τ1 231) (Nat.zero_add _) (by rw [eW]; exact hk) ⟨Nat.zero_le _, fun x hx => (by cases hx)⟩ (fun j hj => absurd hj (Nat.not_lt_zero _)) (fun he g c => ?_) (fun l1 he hl g hg => ?_)
  · rw [eW] at he
    exact k0 _ (wE_oc.mo fun a k z => by unfold wP at z; unfold MaM; omega) rfl rfl he
  · rw [eW] at he
    refine k1 _ l1 (wE_oc.mo fun a k z => by unfold wP at z; unfold MaM; omega) rfl rfl he hl.1 wE_c (fun j hj => ?_)
    rw [wE_g mne]
    exact hg j hj
end WMW
