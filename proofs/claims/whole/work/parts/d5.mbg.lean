/-! FORMS: what they do, model: words in any order -/
def itC : Nat → T2 → T2
  | 0, τ => τ
  | n + 1, τ => nC (itC n τ) (2, 3, 5) 5
theorem itC_st : ∀ (n : Nat) (τ : T2), toST (itC n τ) = nwr (toST τ) 5 n
  | 0, _ => rfl
  | n + 1, τ => by
    show toST (nC (itC n τ) (2, 3, 5) 5) = sN (nwr (toST τ) 5 n) _ 5
    rw [toST_nC, itC_st n τ]
    rfl
theorem itC_n : ∀ (n : Nat) (τ : T2), tN (itC n τ) = tN τ + n ∧ tZ (itC n τ) = tZ τ + 5 * n
  | 0, _ => ⟨rfl, rfl⟩
  | n + 1, τ => by
    obtain ⟨h1, h2⟩ := itC_n n τ
    refine ⟨?_, ?_⟩
    · show tN (itC n τ) + 1 = _; omega
    · show tZ (itC n τ) + 5 = _; omega
theorem itC_o : ∀ (n : Nat) (τ : T2), OC (fun _ _ => False) τ (itC n τ) ∧ (FX2 τ → FX2 (itC n τ))
  | 0, _ => ⟨OC.rf, fun h => h⟩
  | n + 1, τ => ⟨(itC_o n τ).1.n, fun h => ((itC_o n τ).2 h).n⟩
theorem itC_v : ∀ (n : Nat) (τ : T2) (j : Nat), j < n → tS (itC n τ) (tN τ + j) = (2, 3, 5) ∧ ∀ k, tI (itC n τ) (tN τ + j) k = 0
  | 0, _, _, h => absurd h (Nat.not_lt_zero _)
  | n + 1, τ, j, h => by
    have hn := (itC_n n τ).1
    by_cases y : j = n
    · subst y
      refine ⟨?_, fun k => ?_⟩
      · show tS (nC (itC j τ) (2, 3, 5) 5) _ = _
        rw [nCS, if_pos hn.symm]
      · show rw2 (tI (itC j τ)) (tN (itC j τ)) (fun _ => 0) (tN τ + j) k = 0
        rw [hn, rw2_row]
    · obtain ⟨h1, h2⟩ := itC_v n τ j (by omega)
      refine ⟨?_, fun k => ?_⟩
      · show tS (nC (itC n τ) (2, 3, 5) 5) _ = _
        rw [nCS, if_neg (by omega)]; exact h1
      · show rw2 (tI (itC n τ)) (tN (itC n τ)) (fun _ => 0) (tN τ + j) k = 0
        rw [rw2_oth _ _ (by omega)]; exact h2 k
def otC (n : Nat) (τ : T2) : T2 := rP (nC τ (3, 11, n) n) (tN τ) (fun j => if j < n then some (tN τ + 1 + j) else none)
set_option maxRecDepth 8192 in
theorem h96 {d : Nat} {τ : T2} {Q : RS → T2 → Prop} {L : LO} {n : Nat} (hn : n ≤ 16) (k : G d 195 100 L [AR (tN τ)] (itC n (otC n τ)) Q) : G d 195 96 L [AI 5, AI (n : Int)] τ Q := by
  refine g_st (i := .multianewarray 350 2) (len := 4) rfl ?_ k
  show nwm 100 L [AI 5, AI (n : Int)] (toST τ) = _
  show (if 0 ≤ (n : Int) ∧ (n : Int) ≤ 1000 ∧ (0 : Int) ≤ 5 ∧ (5 : Int) ≤ 1000 then some (.inl ((100, L, .inr (.inr (some (tN τ))) :: []), nwr (sN (toST τ) (.inr (.inr (11, (n : Int).toNat, fun j => if j < (n : Int).toNat then some (tN τ + 1 + j) else none))) (n : Int).toNat) (5 : Int).toNat (n : Int).toNat)) else none : Option SO) = _
  rw [if_pos ⟨by omega, by omega, by decide, by decide⟩, itC_st, Int.toNat_natCast]
  have e : toST (otC n τ) = sN (toST τ) (.inr (.inr (11, n, fun j => if j < n then some (tN τ + 1 + j) else none))) n := by
    unfold otC
    rw [toST_rP, toST_nC]
    have e1 : tS (nC τ (3, 11, n) n) (tN τ) = (3, 11, n) := if_pos rfl
    rw [e1]
    show sU (sN (toST τ) (.inr (.inr (11, n, fun _ => none))) n) (toST τ).2.1 (.inr (.inr (11, n, fun j => if j < n then some (tN τ + 1 + j) else none))) = _
    rw [sU_sN]
  rw [e]
  rfl
theorem bgk2 : ∀ k : Fin 5, zshl 1 (k.val : Int) = ((2 ^ k.val : Nat) : Int) ∧ wr (zshl 1 (k.val : Int) - 1) = ((2 ^ k.val - 1 : Nat) : Int) ∧ 2 ^ k.val ≤ 16 ∧ (1 ≤ k.val → 2 ≤ 2 ^ k.val ∧ 2 + 2 ^ k.val ≤ 3 * (k.val + 2) ∧ 5 + 6 * 2 ^ k.val ≤ 17 * (k.val + 2)) := by decide +kernel
theorem bglt : ∀ s : Fin 16, ∀ i : Fin 4, ∀ k : Fin 5, s.val < 2 ^ k.val → i.val < k.val → s.val / 2 ^ i.val % 2 = 0 → s.val + 2 ^ i.val < 2 ^ k.val := by decide +kernel
theorem bgfl : ∀ i : Fin 4, ∀ k : Fin 5, i.val < k.val → ¬ (2 ^ k.val - 1) / 2 ^ i.val % 2 = 0 := by decide +kernel
section MBG
variable {d : Nat} {τ : T2} {Q : RS → T2 → Prop} {R : Nat → Prop} {l : List Int}
/-- where the set of a choice lies -/
def adB (fr A s : Nat) : Nat := if s = 0 then fr else A + 1 + s
/-- the sets of choices -/
def BgS (τ0 τ1 : T2) (fr A n : Nat) (E : MSt) : Prop := OC (fun a _ => A + 2 ≤ a ∧ a < A + 1 + n) τ0 τ1 ∧ tN τ1 = tN τ0 ∧ tZ τ1 = tZ τ0 ∧ FX2 τ1 ∧ ∀ s, s < n → SetG (tI τ1 (adB fr A s)) (E s)
theorem m124 {τ0 : T2} {p ps fr A k : Nat} {W : Nat → List Int} (F0 : FX2 τ0) (H0 : HdM τ0 l) (hl : ∀ x ∈ l, 97 ≤ x ∧ x ≤ 122) (hk : 1 ≤ k ∧ k ≤ 4) (hA : 473 ≤ A ∧ A + 1 + 2 ^ k ≤ tN τ0) (sp : tS τ0 p = (1, 14, 0)) (p3 : tI τ0 p 3 = (k : Int)) (p2 : tP τ0 p 2 = some ps) (ss : tS τ0 ps = (2, 3, 4)) (hp : p < A ∧ ps < A ∧ fr < A ∧ 473 ≤ fr) (sA : tS τ0 A = (3, 11, 2 ^ k)) (pA : ∀ s, s < 2 ^ k → tP τ0 A s = some (adB fr A s)) (sE : ∀ s, s < 2 ^ k → tS τ0 (adB fr A s) = (2, 3, 5)) (hW : ∀ i, i < k → tI τ0 ps i = wen (W i) ∧ okWd (W i)) (hd : 4 ≤ d) (s : Nat) (hs : s < 2 ^ k) : ∀ (j i : Nat) (τ1 : T2) (E : MSt), i + j = k → BgS τ0 τ1 fr A (2 ^ k) E → (∀ τ2, BgS τ0 τ2 fr A (2 ^ k) (bgI W l s j i E) → G d 195 110 [vR 220, vR p, none, none, vR A, vI ((s + 1 : Nat) : Int), none] [] τ2 Q) → G d 195 124 [vR 220, vR p, none, none, vR A, vI (s : Int), vI (i : Int)] [] τ1 Q := by
  obtain ⟨ek, ek2, ek16, ek4⟩ := bgk2 ⟨k, by omega⟩
  simp only at ek ek2 ek16 ek4
  clear ek ek2
  -- what doesn't change
  have un : ∀ {τ1 : T2} {E : MSt}, BgS τ0 τ1 fr A (2 ^ k) E → (∀ a, a < A + 2 → tI τ1 a = tI τ0 a ∧ tP τ1 a = tP τ0 a) ∧ ∀ a, a < tN τ0 → tS τ1 a = tS τ0 a := fun {τ1 E} B => ⟨fun a ha => ⟨funext fun k => (B.1.2.2.2 a k (by omega) (by omega)).1, funext fun k => (B.1.2.2.2 a k (by omega) (by omega)).2⟩, B.1.2.2.1⟩
  intro j
  induction j with
  | zero =>
    intro i τ1 E hi B h
    obtain ⟨u1, u2⟩ := un B
    have q3 : tI τ1 p 3 = (k : Int) := by rw [(u1 p (by omega)).1]; exact p3
    refine t195_124 (q4 := ps) (n6 := 4) (n9 := 2 ^ k) (by omega) (by rw [u2 p (by omega)]; exact sp) (by rw [(u1 p (by omega)).2]; exact p2) (by rw [u2 ps (by omega)]; exact ss) (fun c => by rw [q3] at c; omega) (by rw [u2 A (by omega)]; exact sA) (fun c => by rw [q3] at c; omega) (fun c => by rw [q3] at c; omega) (B.2.2.2.1.sh rfl (by omega) (by omega)) (fun _ => ?_) (fun c => by rw [q3] at c; omega) (fun c => by rw [q3] at c; omega)
    rw [wr_nat (by omega)]
    exact h τ1 B
  | succ j ih =>
    intro i τ1 E hi B h
    obtain ⟨u1, u2⟩ := un B
    have q3 : tI τ1 p 3 = (k : Int) := by rw [(u1 p (by omega)).1]; exact p3
    obtain ⟨b1, b2⟩ := bgb ⟨s, by omega⟩ ⟨i, by omega⟩
    simp only at b1 b2
    have b3 := bglt ⟨s, by omega⟩ ⟨i, by omega⟩ ⟨k, by omega⟩ hs (by show i < k; omega)
    simp only at b3
    simp only [bgI] at h
    have nx : wr ((i : Int) + 1) = ((i + 1 : Nat) : Int) := wr_nat (by omega)
    refine t195_124 (q4 := ps) (n6 := 4) (n9 := 2 ^ k) (by clear nx; omega) (by rw [u2 p (by clear nx; omega)]; exact sp) (by rw [(u1 p (by clear nx; omega)).2]; exact p2) (by rw [u2 ps (by clear nx; omega)]; exact ss) (fun _ _ => by clear nx; omega) (by rw [u2 A (by clear nx; omega)]; exact sA) (fun _ _ => by clear nx; omega) (fun _ c => by rw [(b2 (b1.mp c)).1]; exact ⟨Int.natCast_nonneg _, Int.ofNat_lt.mpr (b3 (b1.mp c))⟩) (B.2.2.2.1.sh rfl (by omega) (by omega)) (fun c => by rw [q3] at c; clear nx; omega) (fun _ c => ?_) (fun _ c => ?_)
    · rw [b1] at c
      rw [if_neg c] at h
      rw [nx]
      exact ih (i + 1) τ1 E (by clear nx; omega) B h
    · have c2 := b1.mp c
      obtain ⟨y1, y2⟩ := b2 c2
      have y3 := b3 c2
      rw [if_pos c2] at h
      have hpw : 0 < 2 ^ i := Nat.two_pow_pos i
      have hsi : s + 2 ^ i ≠ 0 := by clear nx y1; omega
      have ea : adB fr A (s + 2 ^ i) = A + 1 + (s + 2 ^ i) := if_neg hsi
      have eas : adB fr A s ≠ A + 1 + (s + 2 ^ i) ∧ adB fr A s < tN τ0 := by
        unfold adB
        clear nx y1 ea
        split <;> omega
      rw [y1, Int.toNat_natCast, Int.toNat_natCast, Int.toNat_natCast, (u1 A (by clear nx y1 ea; omega)).2, pA s hs, pA (s + 2 ^ i) y3, ea, (u1 ps (by clear nx y1 ea; omega)).1, (hW i (by clear nx y1 ea; omega)).1]
      have sb := sE (s + 2 ^ i) y3
      have gb := B.2.2.2.2 (s + 2 ^ i) y3
      rw [ea] at sb gb
      have Hb : HdM τ1 l := H0.oc2 F0 B.1 (fun a _ z => by clear nx y1 ea; omega)
      have := m194 (d := d - 1) (Q := KC d 195 166 169 [vR 220, vR p, none, none, vR A, vI (s : Int), vI (i : Int)] [] Q) (a := adB fr A s) (b := A + 1 + (s + 2 ^ i)) B.2.2.2.1 Hb hl (hW i (by clear nx y1 ea; omega)).2 (by rw [u2 _ eas.2]; exact sE s hs) (B.2.2.2.2 s hs) (by rw [u2 _ (by clear nx y1 ea; omega)]; exact sb) gb eas.1 (by clear nx y1 ea; omega) (by clear nx y1 ea; omega) (fun g1 G1 => t195_169 (r1 := some p) (r4 := some A) ?_)
      · rw [rJ_id] at this
        exact this
      rw [nx]
      clear nx y1
      refine ih (i + 1) (rI τ1 (A + 1 + (s + 2 ^ i)) g1) (jnM E (s + 2 ^ i) (wS (W i) l (E s))) (by omega) ⟨B.1.r (fun _ => ⟨by omega, by omega⟩), B.2.1, B.2.2.1, B.2.2.2.1.r, fun s2 hs2 => ?_⟩ h
      by_cases z : s2 = s + 2 ^ i
      · rw [z, ea, rJ_f]
        exact G1.cg (fun e => jnM_a)
      · rw [rJ_of (by unfold adB; split <;> omega), jnM_o z]
        exact B.2.2.2.2 s2 hs2
theorem m110 {τ0 : T2} {p ps fr A k : Nat} {W : Nat → List Int} {S : BSet} (F0 : FX2 τ0) (H0 : HdM τ0 l) (hl : ∀ x ∈ l, 97 ≤ x ∧ x ≤ 122) (hk : 1 ≤ k ∧ k ≤ 4) (hA : 473 ≤ A ∧ A + 1 + 2 ^ k ≤ tN τ0) (sp : tS τ0 p = (1, 14, 0)) (p3 : tI τ0 p 3 = (k : Int)) (p2 : tP τ0 p 2 = some ps) (ss : tS τ0 ps = (2, 3, 4)) (hp : p < A ∧ ps < A ∧ fr < A ∧ 473 ≤ fr) (sA : tS τ0 A = (3, 11, 2 ^ k)) (pA : ∀ s, s < 2 ^ k → tP τ0 A s = some (adB fr A s)) (sE : ∀ s, s < 2 ^ k → tS τ0 (adB fr A s) = (2, 3, 5)) (hW : ∀ i, i < k → tI τ0 ps i = wen (W i) ∧ okWd (W i)) (hd : 4 ≤ d) (kk : ∀ τ2, BgS τ0 τ2 fr A (2 ^ k) (bgO W l k (2 ^ k - 1) 0 (bg0 S)) → Q (.inl (some (AR (A + 1 + (2 ^ k - 1))))) τ2) : ∀ (j s : Nat) (τ1 : T2) (E : MSt), s + j = 2 ^ k - 1 → BgS τ0 τ1 fr A (2 ^ k) E → bgO W l k j s E = bgO W l k (2 ^ k - 1) 0 (bg0 S) → G d 195 110 [vR 220, vR p, none, none, vR A, vI (s : Int), none] [] τ1 Q := by
  obtain ⟨ek, ek2, ek16, ek4⟩ := bgk2 ⟨k, by omega⟩
  simp only at ek ek2 ek16 ek4
  have ek4 := ek4 hk.1
  have un : ∀ {τ1 : T2} {E : MSt}, BgS τ0 τ1 fr A (2 ^ k) E → tI τ1 p 3 = (k : Int) ∧ tS τ1 p = (1, 14, 0) ∧ tS τ1 A = (3, 11, 2 ^ k) ∧ tP τ1 A = tP τ0 A := fun {τ1 E} B => ⟨by rw [(B.1.2.2.2 p 3 (by clear ek ek2; omega) (by clear ek ek2; omega)).1]; exact p3, by rw [B.1.2.2.1 p (by clear ek ek2; omega)]; exact sp, by rw [B.1.2.2.1 A (by clear ek ek2; omega)]; exact sA, funext fun j => (B.1.2.2.2 A j (by clear ek ek2; omega) (by clear ek ek2; omega)).2⟩
  have nof : ∀ (j i : Nat) (E : MSt), i + j = k → bgI W l (2 ^ k - 1) j i E = E := by
    intro j
    induction j with
    | zero => intro i E _; rfl
    | succ j ih =>
      intro i E hi
      have := bgfl ⟨i, by clear ek ek2; omega⟩ ⟨k, by clear ek ek2; omega⟩ (by show i < k; clear ek ek2; omega)
      simp only at this
      simp only [bgI]
      rw [if_neg this]
      exact ih (i + 1) E (by clear ek ek2; omega)
  -- the end
  have lst : ∀ (τ1 : T2), BgS τ0 τ1 fr A (2 ^ k) (bgO W l k (2 ^ k - 1) 0 (bg0 S)) → G d 195 110 [vR 220, vR p, none, none, vR A, vI ((2 ^ k - 1 + 1 : Nat) : Int), none] [] τ1 Q := fun τ1 B => by
    obtain ⟨u1, u2, u3, u4⟩ := un B
    refine t195_110 (n3 := 2 ^ k) u2 u3 (fun _ => by rw [u1, ek2]; clear ek ek2; omega) (fun _ => ?_) (fun c => by rw [u1, ek] at c; clear ek ek2; omega)
    rw [u1, ek2, Int.toNat_natCast, u4, pA (2 ^ k - 1) (by clear ek ek2; omega), show adB fr A (2 ^ k - 1) = A + 1 + (2 ^ k - 1) from if_neg (by clear ek ek2; omega)]
    exact kk τ1 B
  intro j
  induction j with
  | zero =>
    intro s τ1 E hs B he
    have hs : s = 2 ^ k - 1 := hs
    subst hs
    obtain ⟨u1, u2, u3, u4⟩ := un B
    have he : E = bgO W l k (2 ^ k - 1) 0 (bg0 S) := he
    refine t195_110 (n3 := 2 ^ k) u2 u3 (fun c => by rw [u1, ek] at c; clear ek ek2; omega) (fun c => by rw [u1, ek] at c; clear ek ek2; omega) (fun _ => ?_)
    refine m124 F0 H0 hl hk hA sp p3 p2 ss hp sA pA sE hW hd (2 ^ k - 1) (by clear ek ek2; omega) k 0 τ1 E (Nat.zero_add _) B (fun τ2 B2 => lst τ2 ?_)
    rw [nof k 0 E (Nat.zero_add _), he] at B2
    exact B2
  | succ j ih =>
    intro s τ1 E hs B he
    obtain ⟨u1, u2, u3, u4⟩ := un B
    refine t195_110 (n3 := 2 ^ k) u2 u3 (fun c => by rw [u1, ek] at c; clear ek ek2; omega) (fun c => by rw [u1, ek] at c; clear ek ek2; omega) (fun _ => ?_)
    exact m124 F0 H0 hl hk hA sp p3 p2 ss hp sA pA sE hW hd s (by clear ek ek2; omega) k 0 τ1 E (Nat.zero_add _) B (fun τ2 B2 => ih (s + 1) τ2 _ (by clear ek ek2; omega) B2 he)
/-- a part of words in any order -/
theorem PtM_b {p ps k : Nat} {W : Nat → List Int} (hp : R p) (hps : R ps) (sp : tS τ p = (1, 14, 0)) (h1 : tP τ p 1 = none) (h2 : tP τ p 2 = some ps) (h3 : tI τ p 3 = (k : Int)) (h4 : tI τ p 4 = 0) (ss : tS τ ps = (2, 3, 4)) (hk : 1 ≤ k ∧ k ≤ 4) (hW : ∀ i, i < k → tI τ ps i = wen (W i) ∧ okWd (W i)) : PtM R τ 20 p (bgF W k) (k + 2) := ⟨hp, sp, fun τ1 d Q fr l S hd K F H hl hS kq => by
  obtain ⟨p1, p2, p3, p4⟩ := K p hp
  obtain ⟨x1, x2, x3, x4⟩ := K ps hps
  have hS0 := hS
  obtain ⟨f1, f2, f3, f4⟩ := hS
  have N := F.1
  obtain ⟨ek, ek2, ek16, ek4⟩ := bgk2 ⟨k, by omega⟩
  simp only at ek ek2 ek16 ek4
  have ek4 := ek4 hk.1
  clear ek2
  obtain ⟨o1, F1, s1, g1⟩ := newS F
  refine t195_0 (r1 := some p) (r2 := some fr) ?_
  have n1 : tN (nC τ1 (2, 3, 5) 5) = tN τ1 + 1 := rfl
  have z1 : tZ (nC τ1 (2, 3, 5) 5) = tZ τ1 + 5 := rfl
  generalize nC τ1 (2, 3, 5) 5 = τa at *
  have oP : ∀ a, a < tN τ1 → tS τa a = tS τ1 a ∧ tI τa a = tI τ1 a ∧ tP τa a = tP τ1 a := fun a ha => ⟨o1.2.2.1 a ha, funext fun k => (o1.2.2.2 a k ha (fun z => z)).1, funext fun k => (o1.2.2.2 a k ha (fun z => z)).2⟩
  obtain ⟨q1, q2, q3⟩ := oP p p1
  have e3 : tI τa p 3 = (k : Int) := by rw [q2, p3]; exact h3
  have e1 : tP τa p 1 = none := by rw [q3, p4]; exact h1
  have e4 : tI τa p 4 = 0 := by rw [q2, p3]; exact h4
  have spa : tS τa p = (1, 14, 0) := by rw [q1, p2]; exact sp
  refine t195_3 (r2 := some fr) (s0 := some (tN τ1)) (by clear ek; omega) spa (F1.sh rfl (by omega) (by omega)) (fun _ _ c => by rw [e3] at c; clear ek; omega) (fun _ _ _ => ?_) (fun _ q c => by rw [e1] at c; cases c) (fun c => absurd e4 c)
  rw [e3, ek]
  clear ek
  refine h96 ek16 ?_
  -- the sets are made
  have N2 := F1.1
  have ot : OC (fun _ _ => False) τa (otC (2 ^ k) τa) := OC_rPn OC.rf.n (Nat.le_refl _)
  have Fo : FX2 (otC (2 ^ k) τa) := FX2_rPn F1.n N2
  have no : tN (otC (2 ^ k) τa) = tN τa + 1 := rfl
  have zo : tZ (otC (2 ^ k) τa) = tZ τa + 2 ^ k := rfl
  have So : tS (otC (2 ^ k) τa) (tN τa) = (3, 11, 2 ^ k) := if_pos rfl
  have Po : ∀ j, tP (otC (2 ^ k) τa) (tN τa) j = if j < 2 ^ k then some (tN τa + 1 + j) else none := fun j => by
    show rw2 (tP (nC τa _ _)) (tN τa) (fun j => if j < 2 ^ k then some (tN τa + 1 + j) else none) (tN τa) j = _
    rw [rw2_row]
  generalize otC (2 ^ k) τa = τo at *
  obtain ⟨oi, Fi⟩ := itC_o (2 ^ k) τo
  have Fi := Fi Fo
  obtain ⟨ni, zi⟩ := itC_n (2 ^ k) τo
  have vi := itC_v (2 ^ k) τo
  generalize itC (2 ^ k) τo = τi at *
  have o1i : OC (fun _ _ => False) τ1 τi := (o1.tr ot).tr oi
  have sI : tS τi (tN τa) = (3, 11, 2 ^ k) := (oi.2.2.1 _ (by omega)).trans So
  refine t195_100 (r1 := some p) (n1 := 2 ^ k) sI (by omega) (by rw [o1i.2.2.1 fr f2, f3]; rfl) ?_
  have oj : OC (fun _ _ => False) τ1 (uP τi (tN τa) 0 (some fr)) := o1i.qn (by omega)
  have Fj : FX2 (uP τi (tN τa) 0 (some fr)) := Fi.q (PTI_n (by omega))
  have nj : tN (uP τi (tN τa) 0 (some fr)) = tN τi := rfl
  have zj : tZ (uP τi (tN τa) 0 (some fr)) = tZ τi := rfl
  have sj : ∀ a, tS (uP τi (tN τa) 0 (some fr)) a = tS τi a := fun _ => rfl
  have pj : ∀ s, s < 2 ^ k → tP (uP τi (tN τa) 0 (some fr)) (tN τa) s = some (adB fr (tN τa) s) := fun s hs => by
    rw [tP_uP]
    unfold adB
    by_cases y : s = 0
    · rw [if_pos ⟨rfl, y⟩, if_pos y]
    · rw [if_neg (fun z => y z.2), if_neg y, (oi.2.2.2 (tN τa) s (by omega) (fun z => z)).2, Po s, if_pos hs]
  have vj : ∀ s, s < 2 ^ k → s ≠ 0 → tS τi (tN τa + 1 + s) = (2, 3, 5) ∧ ∀ x, tI (uP τi (tN τa) 0 (some fr)) (tN τa + 1 + s) x = 0 := fun s hs _ => by
    obtain ⟨y1, y2⟩ := vi s hs
    rw [no] at y1 y2
    exact ⟨y1, fun x => by rw [tI_uP]; exact y2 x⟩
  generalize uP τi (tN τa) 0 (some fr) = τj at *
  have oJ : ∀ a, a < tN τ1 → tS τj a = tS τ1 a ∧ tI τj a = tI τ1 a ∧ tP τj a = tP τ1 a := fun a ha => ⟨oj.2.2.1 a ha, funext fun k => (oj.2.2.2 a k ha (fun z => z)).1, funext fun k => (oj.2.2.2 a k ha (fun z => z)).2⟩
  obtain ⟨t1, t2, t3⟩ := oJ p p1
  obtain ⟨v1, v2, v3⟩ := oJ ps x1
  obtain ⟨w1, w2, w3⟩ := oJ fr f2
  have B0 : BgS τj τj fr (tN τa) (2 ^ k) (bg0 S) := ⟨OC.rf, rfl, rfl, Fj, fun s hs => by
    unfold adB bg0
    by_cases y : s = 0
    · rw [if_pos y, if_pos y, w2]; exact f4
    · rw [if_neg y, if_neg y]
      exact SetG_0 (fun x _ => (vj s hs y).2 x)⟩
  refine m110 (τ0 := τj) (p := p) (ps := ps) (S := S) (W := W) Fj (H.oc2 F oj (fun _ _ z => z.elim)) hl hk ⟨by omega, by omega⟩ (by rw [t1, p2]; exact sp) (by rw [t2, p3]; exact h3) (by rw [t3, p4]; exact h2) (by rw [v1, x2]; exact ss) ⟨by omega, by omega, by omega, f1⟩ (by rw [sj]; exact sI) pj (fun s hs => ?_) (fun i hi => by rw [v2, x3]; exact hW i hi) (by omega) (fun τf Bf => ?_) (2 ^ k - 1) 0 τj (bg0 S) (Nat.zero_add _) B0 rfl
  · unfold adB
    by_cases y : s = 0
    · rw [if_pos y, w1]; exact f3
    · rw [if_neg y, sj]; exact (vj s hs y).1
  · obtain ⟨c1, c2, c3, c4, c5⟩ := Bf
    have hr := c5 (2 ^ k - 1) (by omega)
    rw [show adB fr (tN τa) (2 ^ k - 1) = tN τa + 1 + (2 ^ k - 1) from if_neg (by omega)] at hr
    refine kq τf (tN τa + 1 + (2 ^ k - 1)) (oj.tn c1 (fun a _ ha z => by omega)) c4 (by omega) (by omega) (by omega) ⟨by omega, by omega, ?_, hr⟩
    rw [c1.2.2.1 _ (by omega), sj]
    exact (vj (2 ^ k - 1) (by omega) (by omega)).1⟩
end MBG
