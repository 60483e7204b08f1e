/-! OPEN; what guesses are -/
theorem PTn {a : Nat} (h : lk a PTFs = none) (k : Nat) : PTI a k = none := by
  have hz : PTF a k = none := by
    unfold PTF
    rw [h]
    rfl
  unfold PTI
  rw [hz]
  split <;> rfl
theorem lkN : lk 227 PTFs = none ∧ lk 229 PTFs = none ∧ lk 230 PTFs = none ∧ lk 78 PTFs = none ∧ lk 79 PTFs = none ∧ lk 231 PTFs = none ∧ lk 81 PTFs = none ∧ lk 83 PTFs = none := by decide +kernel
def opn (c : CO) (r : Nat) (s : Nat → Bool) (m : Int) : Bool := match cR c r with
  | none => true
  | some f => f s m (rdm c)
theorem bi_01 (b : Bool) : bi b = 0 ∨ bi b = 1 := by cases b <;> simp [bi]
theorem bi_0 {b : Bool} (h : bi b = 0) : b = false := by
  cases b with
  | false => rfl
  | true => exact absurd h (by decide)
theorem bi_1 {b : Bool} (h : ¬ bi b = 0) : b = true := by
  cases b with
  | true => rfl
  | false => exact absurd rfl h
section OPN
variable {d : Nat} {τ : T2} {Q : RS → T2 → Prop} {c : CO} {r t : Nat} {m : Int} {s : Nat → Bool}
theorem c33 (F : FX2 τ) (R : RC τ c) (w : WF c) (hr : r < cn c 0) (hd : 31 ≤ d) (h : Q (.inl (some (AI (bi (opn c r s m))))) τ) : G d 33 0 [vR (92 + 4 * r), vI ((enc s 20 : Nat) : Int), vI m, vR 67] [] τ Q := by
  have h20 := w.1.1
  have sr := F.sh (shR r (by omega)).1 (by omega) (by omega)
  have ho := (R.2.2.2 r hr).1
  refine t33_0 (r3 := some 67) sr (fun e => ?_) (fun q e => ?_)
  · have hn := ho.nn e
    unfold opn at h
    rw [hn] at h
    exact h
  · obtain ⟨f, hf, ru⟩ := ho.ss e
    unfold opn at h
    rw [hf] at h
    have h : Q (.inl (some (AI (bi (f s m (rdm c)))))) τ := h
    refine t33_7 (r3 := some 67) (by omega) sr ?_
    rw [e]
    refine ru.2 τ (d - 1) _ s m (rdm c) (by omega) Fr.rf F R.2.2.1 ?_
    refine t33_17 (fun z => ?_) (fun z => ?_)
    · rw [bi_0 z] at h; exact h
    · rw [bi_1 z] at h; exact h
theorem c141 (F : FX2 τ) (R : RC τ c) (w : WF c) (ht : t < cn c 1) (hr : r < cn c 0) (hd : 40 ≤ d) (h : Q (.inl (some (AI (bi (opn c r (slT c t (cD c 0 0 0)) (cD c 0 0 0)))))) τ) : G d 141 0 [vR 64, vR (172 + 6 * t), vI (r : Int)] [] τ Q := by
  have h20 := w.1.1
  have h8 := w.1.2.1
  have s0 : tS τ 64 = (1, 11, 0) := F.sh rfl (by omega) (by omega)
  have sr := F.sh (shR r (by omega)).1 (by omega) (by omega)
  refine t141_0 (q2 := 66) (n4 := 20) (by omega) s0 (F.p rfl) (F.sh rfl (by omega) (by omega)) (by omega) (F.sh (shT t (by omega)).1 (by omega) (by omega)) ?_
  rw [R.now, Int.toNat_natCast, F.p (ptR r (by omega)).1]
  refine c61' F R w ht (t141_14 (by omega) s0 sr ?_)
  rw [R.now, F.p (show PTI 64 4 = some 67 from rfl)]
  exact c33 F R w hr (by omega) (t141_25 (bi_01 _) h)
theorem m187 (F : FX2 τ) (R : RM τ c) (w : WF c) (hr : r < cn c 0) (hd : 31 ≤ d) (h : ∀ τ1, OC (fun a _ => a = 227) τ τ1 → FX2 τ1 → tN τ1 = tN τ → tZ τ1 = tZ τ → Q (.inl (some (AI (bi (opn c r s m))))) τ1) : G d 187 0 [vR 220, vI (r : Int), vI ((enc s 20 : Nat) : Int), vI m, none, none, none] [] τ Q := by
  have h20 := w.1.1
  have sr := F.sh (shM r (by omega)).1 (by omega) (by omega)
  have ho := (R.2.2.2.2 r hr).1
  refine t187_0 (q2 := 221) (n4 := 20) (q7 := 336 + 4 * r) (F.sh rfl (by omega) (by omega)) (F.p rfl) (F.sh rfl (by omega) (by omega)) (by omega) (by rw [Int.toNat_natCast]; exact F.p (ptM r (by omega)).1) sr (fun q e => ?_) (fun e => ?_)
  · obtain ⟨f, hf, ru⟩ := ho.ss e
    refine ru τ d _ s m (cn c 0) (rdm c) (by omega) Fr.rf F R.1.1 h20 (fun a k => ?_) (fun τ2 o n2 z2 => ?_)
    · unfold rdm
      by_cases hk : k < cn c 0
      · rw [R.rr hk (by omega)]
      · rw [decide_eq_false (fun z => hk z.1), decide_eq_false (fun z => hk z.1)]
    · have h := h τ2 o (o.fx F (fun a k z => by rw [z]; exact PTn lkN.1 k)) n2 z2
      unfold opn at h
      rw [hf] at h
      exact h
  · have hn := ho.nn e
    have h := h τ OC.rf F rfl rfl
    unfold opn at h
    rw [hn] at h
    exact h
end OPN
/-- answers stand -/
theorem ltr_len {c : CO} {r : Nat} (w : WF c) (hr : r < cn c 0) : ((ltr c r).length : Int) = cD c 1 r 2 ∧ 1 ≤ (ltr c r).length ∧ (ltr c r).length ≤ 12 := by
  have := (w.2.1 r hr).2.2.1
  unfold ltr
  rw [rm_len]
  omega
theorem ltr_get {c : CO} {r k : Nat} (h : k < (ltr c r).length) : (ltr c r).getD k 0 = cD c 2 r k := by
  unfold ltr at h ⊢
  rw [rm_len] at h
  exact rm_get _ h
theorem ltr_l {c : CO} {r : Nat} (w : WF c) (hr : r < cn c 0) : ∀ x ∈ ltr c r, 97 ≤ x ∧ x ≤ 122 := fun x hx => by
  have h1 := (ltr_len w hr).1
  obtain ⟨k, hk, e⟩ := List.getElem_of_mem hx
  have h2 := ltr_get (c := c) (r := r) hk
  rw [List.getD_eq_getElem?_getD, List.getElem?_eq_getElem hk, e] at h2
  have h2 : x = cD c 2 r k := h2
  rw [h2]
  exact (w.2.1 r hr).2.2.2.2.2.2.1 k (by omega)
theorem RC.lt {τ : T2} {c : CO} {r : Nat} (R : RC τ c) (w : WF c) (hr : r < cn c 0) : tI τ (92 + 4 * r) 3 = ((ltr c r).length : Int) ∧ Ls τ (93 + 4 * r) (ltr c r) := by
  have h1 := (ltr_len w hr).1
  exact ⟨by rw [R.r2 hr, h1], fun j hj => by rw [R.an hr (by omega), ltr_get hj]⟩
theorem RM.lt {τ : T2} {c : CO} {r : Nat} (R : RM τ c) (w : WF c) (hr : r < cn c 0) : tI τ (336 + 4 * r) 2 = ((ltr c r).length : Int) ∧ Ls τ (337 + 4 * r) (ltr c r) := by
  have h1 := (ltr_len w hr).1
  exact ⟨by rw [R.rr hr (by omega), h1], fun j hj => by rw [R.an hr (by omega), ltr_get hj]⟩
theorem lst_eq {l A : List Int} (h : l.length = A.length) (h1 : ∀ i, i < l.length → byt l i = byt A i) : l = A := by
  apply List.ext_getElem?
  intro i
  by_cases hi : i < l.length
  · have := h1 i hi
    unfold byt at this
    rw [List.getD_eq_getElem?_getD, List.getD_eq_getElem?_getD, List.getElem?_eq_getElem hi, List.getElem?_eq_getElem (show i < A.length by omega)] at this
    rw [List.getElem?_eq_getElem hi, List.getElem?_eq_getElem (show i < A.length by omega)]
    exact congrArg some this
  · rw [List.getElem?_eq_none (by omega), List.getElem?_eq_none (by omega)]
def tkn (c : CO) (r : Nat) (l : List Int) : Bool := match cF c r with
  | none => decide (l = ltr c r)
  | some f => f l
def stp (c : CO) (r : Nat) (l : List Int) : Int := lev (byt l) (byt (ltr c r)) l.length (ltr c r).length
def vrd (c : CO) (r : Nat) (l : List Int) : Int := if tkn c r l = true then 1 else if stp c r l ≤ cD c 1 r 3 then 2 else 0
section VRD
variable {d : Nat} {τ : T2} {Q : RS → T2 → Prop} {c : CO} {r : Nat} {l : List Int}
/-- isWordAt: a word of a text at a place of what was heard -/
theorem c17 (F : FX2 τ) (H : HdC τ l) {q n3 p a b : Nat} (sq : tS τ q = (2, 1, n3)) (hab : a ≤ b) (hb : b ≤ n3) (hn3 : n3 ≤ 1000) (hp : p ≤ 300) (k1 : p + (b - a) ≤ l.length → (∀ i, i < b - a → byt l (p + i) = tI τ q (a + i)) → Q (.inl (some (AI 1))) τ) (k0 : ¬ (p + (b - a) ≤ l.length ∧ ∀ i, i < b - a → byt l (p + i) = tI τ q (a + i)) → Q (.inl (some (AI 0))) τ) : G d 17 0 [vR 76, vI (p : Int), vR q, vI (a : Int), vI (b : Int), none] [] τ Q := by
  obtain ⟨H1, H2, H3⟩ := H
  have s76 : tS τ 76 = (1, 4, 0) := F.sh rfl (by omega) (by omega)
  have lp : ∀ (j i : Nat), i + j = b - a → p + (b - a) ≤ l.length → (∀ x, x < i → byt l (p + x) = tI τ q (a + x)) → G d 17 33 [vR 76, vI (p : Int), vR q, vI (a : Int), vI (b : Int), vI ((a + i : Nat) : Int)] [] τ Q := by
    intro j
    induction j with
    | zero =>
      intro i hi hl hx
      exact t17_33 (q4 := 77) (n6 := 300) (n9 := n3) s76 (F.p rfl) (F.sh rfl (by omega) (by omega)) (fun c => by omega) sq (fun c => by omega) (fun _ => k1 hl (fun x hx2 => hx x (by omega))) (fun c => by omega) (fun c => by omega) (fun c => by omega)
    | succ j ih =>
      intro i hi hl hx
      have eg : tI τ 77 (p + i) = byt l (p + i) := H3 _ (by omega)
      have e1 : wr (wr ((p : Int) + ((a + i : Nat) : Int)) - (a : Int)) = ((p + i : Nat) : Int) := by
        rw [wr_id (x := (p : Int) + ((a + i : Nat) : Int)) (by unfold okI; omega), wr_id (by unfold okI; omega)]
        omega
      refine t17_33 (q4 := 77) (n6 := 300) (n9 := n3) s76 (F.p rfl) (F.sh rfl (by omega) (by omega)) (fun _ _ => by rw [e1]; clear e1; omega) sq (fun _ _ => by clear e1; omega) (fun c => by clear e1; omega) (fun _ c => by rw [e1] at c; clear e1; omega) (fun _ _ c => ?_) (fun _ _ c => ?_)
      · rw [e1, Int.toNat_natCast, Int.toNat_natCast, eg] at c
        clear e1
        rw [wr_nat (by omega)]
        refine ih (i + 1) (by omega) hl (fun x hx2 => ?_)
        by_cases e : x = i
        · rw [e]; exact c
        · exact hx x (by omega)
      · rw [e1, Int.toNat_natCast, Int.toNat_natCast, eg] at c
        exact k0 (fun z => c (z.2 i (by omega)))
  have e0 : wr (wr ((p : Int) + (b : Int)) - (a : Int)) = ((p + (b - a) : Nat) : Int) := by
    rw [wr_id (x := (p : Int) + (b : Int)) (by unfold okI; omega), wr_id (by unfold okI; omega)]
    omega
  refine t17_0 (n3 := n3) sq s76 (fun c => by omega) (fun _ c => by omega) (fun _ _ c => by omega) (fun _ _ _ c => ?_) (fun _ _ _ c => ?_)
  · rw [e0, H1] at c
    exact lp (b - a) 0 (by omega) (by omega) (fun x hx => by omega)
  · rw [e0, H1] at c
    exact k0 (fun z => by omega)
theorem c16 (F : FX2 τ) (R : RC τ c) (w : WF c) (hr : r < cn c 0) (H : HdC τ l) (hd : 1 ≤ d) (h : Q (.inl (some (AI (bi (decide (l = ltr c r)))))) τ) : G d 16 0 [vR 76, vR (92 + 4 * r)] [] τ Q := by
  have h20 := w.1.1
  have sr := shR r (by omega)
  have hl := ltr_len w hr
  obtain ⟨e3, la⟩ := R.lt w hr
  have no : ¬ l = ltr c r → Q (.inl (some (AI 0))) τ := fun z => by
    rw [decide_eq_false z] at h; exact h
  refine t16_0 hd (F.sh rfl (by omega) (by omega)) (F.sh sr.1 (by omega) (by omega)) (fun c0 => no (fun z => c0 (by rw [H.1, e3, z]))) (fun c0 => ?_)
  rw [F.p (ptR r (by omega)).2.1, e3]
  have el : l.length = (ltr c r).length := by rw [H.1, e3] at c0; omega
  refine c17 (p := 0) (a := 0) (b := (ltr c r).length) F H (F.sh sr.2.1 (by omega) (by omega)) (Nat.zero_le _) (by omega) (by omega) (by omega) (fun _ hx => ?_) (fun hx => ?_)
  · have e : l = ltr c r := lst_eq el (fun i hi => by
      have := hx i (by omega)
      rw [Nat.zero_add, la i (by omega)] at this
      exact this)
    rw [decide_eq_true e] at h
    exact t16_25 (fun z => absurd z (by decide)) (fun _ => h)
  · refine t16_25 (fun _ => no (fun z => hx ⟨by omega, fun i hi => ?_⟩)) (fun z => absurd rfl z)
    rw [Nat.zero_add, la i (by omega), z]
    rfl
/-- verdict of the class -/
theorem c15 (F : FX2 τ) (R : RC τ c) (w : WF c) (hr : r < cn c 0) (H : HdC τ l) (hd : 40 ≤ d) (k : ∀ τ1, OC (fun a _ => a = 78 ∨ a = 79) τ τ1 → FX2 τ1 → tN τ1 = tN τ → tZ τ1 = tZ τ → Q (.inl (some (AI (vrd c r l)))) τ1) : G d 15 0 [vR 76, vR (92 + 4 * r), none] [] τ Q := by
  have h20 := w.1.1
  have N := F.1
  have sr := shR r (by omega)
  have hl := ltr_len w hr
  have s76 : ∀ τ : T2, FX2 τ → tS τ 76 = (1, 4, 0) := fun τ F => F.sh rfl (by omega) (by omega)
  have ho := (R.2.2.2 r hr).2.1
  have steps : ∀ τ1, OC (fun a _ => a = 78) τ τ1 → FX2 τ1 → tN τ1 = tN τ → tZ τ1 = tZ τ → tkn c r l = false → G (d - 1) 18 0 [vR 76, vR (92 + 4 * r), none, none, none, none, none] [] τ1 (KC d 15 32 35 [none, vR (92 + 4 * r), none] [] Q) := fun τ1 o F1 n1 z1 ht => by
    have sm : ∀ a k, a < 473 → a ≠ 78 → tI τ1 a k = tI τ a k := fun a k h1 h2 => (o.2.2.2 a k (by omega) h2).1
    obtain ⟨e3, la⟩ := R.lt w hr
    have H' : HdC τ1 l := ⟨by rw [sm 76 1 (by omega) (by omega)]; exact H.1, H.2.1, fun j hj => by rw [sm 77 j (by omega) (by omega)]; exact H.2.2 j hj⟩
    refine c18 F1 H' (by omega) hl.2.2 (by rw [sm _ _ (by omega) (by omega)]; exact e3) (fun j hj => by rw [sm _ _ (by omega) (by omega)]; exact la j hj) (by omega) fun τ2 o2 F2 n2 z2 => ?_
    have N1 := F1.1
    have es : tI τ2 (92 + 4 * r) 4 = cD c 1 r 3 := by rw [(o2.2.2.2 (92 + 4 * r) 4 (by omega) (by omega)).1, sm _ _ (by omega) (by omega)]; exact R.r3 hr
    have k := k τ2 ((o.mo fun a k z => Or.inl z).tr (o2.mo fun a k z => Or.inr z)) F2 (n2.trans n1) (z2.trans z1)
    unfold vrd at k
    rw [if_neg (by rw [ht]; decide)] at k
    refine t15_35 (F2.sh sr.1 (by omega) (by omega)) (fun c1 => ?_) (fun c1 => ?_)
    · rw [es] at c1
      rw [if_neg (show ¬ stp c r l ≤ cD c 1 r 3 by unfold stp; omega)] at k
      exact k
    · rw [es] at c1
      rw [if_pos (show stp c r l ≤ cD c 1 r 3 from c1)] at k
      exact k
  have yes : ∀ τ1, OC (fun a _ => a = 78) τ τ1 → FX2 τ1 → tN τ1 = tN τ → tZ τ1 = tZ τ → tkn c r l = true → Q (.inl (some (AI 1))) τ1 := fun τ1 o F1 n1 z1 ht => by
    have k := k τ1 (o.mo fun a k z => Or.inl z) F1 n1 z1
    unfold vrd at k
    rw [if_pos ht] at k
    exact k
  refine t15_0 (by omega) (F.sh sr.1 (by omega) (by omega)) (s76 _ F) (fun q e => ?_) (fun e => ?_)
  · obtain ⟨f, hf, fo⟩ := ho.ss e
    have et : tkn c r l = f l := by unfold tkn; rw [hf]
    refine t15_15 (by omega) (F.sh sr.1 (by omega) (by omega)) (s76 _ F) ?_
    rw [e]
    refine fo.2 τ (d - 1) _ l (by omega) Fr.rf F H (fun τ2 o n2 z2 => ?_)
    have F2 : FX2 τ2 := o.fx F (fun a k z => by rw [z]; exact PTn lkN.2.2.2.1 k)
    refine t15_23 (r1 := some (92 + 4 * r)) (by omega) (s76 _ F2) (fun z => steps τ2 o F2 n2 z2 (by rw [et]; exact bi_0 z)) (fun z => yes τ2 o F2 n2 z2 (by rw [et]; exact bi_1 z))
  · have hn := ho.nn e
    have et : tkn c r l = decide (l = ltr c r) := by unfold tkn; rw [hn]
    refine c16 F R w hr H (by omega) ?_
    refine t15_12 (r1 := some (92 + 4 * r)) (by omega) (s76 _ F) (fun z => steps τ OC.rf F rfl rfl (by rw [et]; exact bi_0 z)) (fun z => yes τ OC.rf F rfl rfl (by rw [et]; exact bi_1 z))
/-- isTaken of the model, without a form -/
theorem m197 (F : FX2 τ) (R : RM τ c) (w : WF c) (hr : r < cn c 0) (H : HdM τ l) (hlt : ∀ x ∈ l, 97 ≤ x ∧ x ≤ 122) (hd : 60 ≤ d) (k : ∀ τ1, OC (fun _ _ => False) τ τ1 → FX2 τ1 → tN τ1 ≤ tN τ + 1160 → tZ τ1 ≤ tZ τ + 12400 → Q (.inl (some (AI (bi (tkn c r l))))) τ1) : G d 197 0 [vR 220, vR (336 + 4 * r), none, none] [] τ Q := by
  have h20 := w.1.1
  have sr := shM r (by omega)
  have pr := ptM r (by omega)
  have s0 : tS τ 220 = (1, 21, 0) := F.sh rfl (by omega) (by omega)
  have s1 := F.sh sr.1 (by omega) (by omega)
  have hl := ltr_len w hr
  obtain ⟨e3, la⟩ := R.lt w hr
  have ho := (R.2.2.2.2 r hr).2.1
  have lp : tkn c r l = decide (l = ltr c r) → ∀ (j i : Nat) (x : Int), i + j = (ltr c r).length → ((x = 1 ∧ l.length = (ltr c r).length ∧ ∀ q, q < i → byt l q = byt (ltr c r) q) ∨ (x = 0 ∧ ¬ l = ltr c r)) → G d 197 26 [vR 220, vR (336 + 4 * r), vI x, vI (i : Int)] [] τ Q := by
    intro et j
    have done : ∀ x : Int, ((x = 1 ∧ l = ltr c r) ∨ (x = 0 ∧ ¬ l = ltr c r)) → Q (.inl (some (AI x))) τ := fun x hx => by
      have k := k τ OC.rf F (by omega) (by omega)
      rw [et] at k
      rcases hx with ⟨h1, h2⟩ | ⟨h1, h2⟩
      · rw [decide_eq_true h2] at k
        rw [h1]; exact k
      · rw [decide_eq_false h2] at k
        rw [h1]; exact k
    induction j with
    | zero =>
      intro i x hi hx
      refine t197_26 (q7 := 228) (n9 := 300) (q12 := 337 + 4 * r) (n14 := 12) s1 (fun _ => by omega) (fun c0 => by rw [e3] at c0; omega) s0 (F.p rfl) (F.sh rfl (by omega) (by omega)) (fun c0 => by rw [e3] at c0; omega) (F.p pr.2.1) (F.sh sr.2.1 (by omega) (by omega)) (fun c0 => by rw [e3] at c0; omega) (fun _ => ?_) (fun c0 => by rw [e3] at c0; omega) (fun c0 => by rw [e3] at c0; omega) (fun c0 => by rw [e3] at c0; omega)
      rcases hx with ⟨h1, h2, h3⟩ | h
      · exact done x (Or.inl ⟨h1, lst_eq h2 (fun q hq => h3 q (by omega))⟩)
      · exact done x (Or.inr h)
    | succ j ih =>
      intro i x hi hx
      have eg : x = 1 → tI τ 228 i = byt l i := fun hx1 => H.2.2 i (by rcases hx with h | h <;> omega)
      have ea : tI τ (337 + 4 * r) i = byt (ltr c r) i := la i (by omega)
      refine t197_26 (q7 := 228) (n9 := 300) (q12 := 337 + 4 * r) (n14 := 12) s1 (fun _ => by omega) (fun _ _ => by omega) s0 (F.p rfl) (F.sh rfl (by omega) (by omega)) (fun _ _ => by omega) (F.p pr.2.1) (F.sh sr.2.1 (by omega) (by omega)) (fun _ _ => by omega) (fun c0 => by rw [e3] at c0; omega) (fun _ c0 => ?_) (fun _ c0 c1 => ?_) (fun _ c0 c1 => ?_)
      · rcases hx with h | h
        · omega
        · exact done x (Or.inr h)
      · rcases hx with ⟨h1, h2, h3⟩ | h
        · rw [Int.toNat_natCast, eg h1, ea] at c1
          rw [wr_nat (by omega)]
          exact ih (i + 1) 0 (by omega) (Or.inr ⟨rfl, fun z => c1 (by rw [z])⟩)
        · omega
      · rcases hx with ⟨h1, h2, h3⟩ | h
        · rw [Int.toNat_natCast, eg h1, ea] at c1
          rw [wr_nat (by omega)]
          refine ih (i + 1) 1 (by omega) (Or.inl ⟨rfl, h2, fun q hq => ?_⟩)
          by_cases e : q = i
          · rw [e]; exact c1
          · exact h3 q (by omega)
        · omega
  refine t197_0 s1 s0 (fun q e => ?_) (fun e c0 => ?_) (fun e c0 => ?_)
  · obtain ⟨f, hf, fo⟩ := ho.ss e
    have et : tkn c r l = f l := by unfold tkn; rw [hf]
    refine fo τ d Q r l hd Fr.rf F (by omega) e H hlt (fun τ2 o n2 z2 => ?_)
    rw [← et]
    exact k τ2 o (o.fx F (fun a k z => z.elim)) n2 z2
  · have et : tkn c r l = decide (l = ltr c r) := by unfold tkn; rw [ho.nn e]
    refine lp et (ltr c r).length 0 0 (by omega) (Or.inr ⟨rfl, fun z => c0 ?_⟩)
    rw [H.1, e3, z]
  · have et : tkn c r l = decide (l = ltr c r) := by unfold tkn; rw [ho.nn e]
    rw [H.1, e3] at c0
    exact lp et (ltr c r).length 0 1 (by omega) (Or.inl ⟨rfl, by omega, fun q hq => by omega⟩)
/-- judged of the model -/
theorem m200 (F : FX2 τ) (R : RM τ c) (w : WF c) (hr : r < cn c 0) (H : HdM τ l) (hlt : ∀ x ∈ l, 97 ≤ x ∧ x ≤ 122) (hd : 61 ≤ d) (k : ∀ τ1, OC (fun a _ => a = 229 ∨ a = 230) τ τ1 → FX2 τ1 → tN τ1 ≤ tN τ + 1160 → tZ τ1 ≤ tZ τ + 12400 → Q (.inl (some (AI (vrd c r l)))) τ1) : G d 200 0 [vR 220, vR (336 + 4 * r)] [] τ Q := by
  have h20 := w.1.1
  have N := F.1
  have sr := shM r (by omega)
  have hl := ltr_len w hr
  have s0 : ∀ τ : T2, FX2 τ → tS τ 220 = (1, 21, 0) := fun τ F => F.sh rfl (by omega) (by omega)
  refine t200_0 (r1 := some (336 + 4 * r)) (by omega) (s0 _ F) (m197 F R w hr H hlt (by omega) fun τ1 o F1 n1 z1 => ?_)
  have sm : ∀ a k, a < 473 → tI τ1 a k = tI τ a k := fun a k h1 => (o.2.2.2 a k (by omega) (fun z => z)).1
  refine t200_5 (r1 := some (336 + 4 * r)) (by omega) (s0 _ F1) (fun z => ?_) (fun z => ?_)
  · have ht := bi_0 z
    obtain ⟨e3, la⟩ := R.lt w hr
    have H' : HdM τ1 l := ⟨by rw [sm 220 28 (by omega)]; exact H.1, H.2.1, fun j hj => by rw [sm 228 j (by omega)]; exact H.2.2 j hj⟩
    refine m199 F1 H' (by omega) hl.2.2 (by rw [sm _ _ (by omega)]; exact e3) (fun j hj => by rw [sm _ _ (by omega)]; exact la j hj) (by omega) fun τ2 o2 F2 n2 z2 => ?_
    have N1 := F1.1
    have es : tI τ2 (336 + 4 * r) 3 = cD c 1 r 3 := by rw [(o2.2.2.2 (336 + 4 * r) 3 (by omega) (by omega)).1, sm _ _ (by omega)]; exact R.rr hr (by omega)
    have k := k τ2 ((o.mo fun a k z => z.elim).tr o2) F2 (by omega) (by omega)
    unfold vrd at k
    rw [if_neg (by rw [ht]; decide)] at k
    refine t200_17 (F2.sh sr.1 (by omega) (by omega)) (fun c1 => ?_) (fun c1 => ?_)
    · rw [es] at c1
      rw [if_neg (show ¬ stp c r l ≤ cD c 1 r 3 by unfold stp; omega)] at k
      exact k
    · rw [es] at c1
      rw [if_pos (show stp c r l ≤ cD c 1 r 3 from c1)] at k
      exact k
  · have ht := bi_1 z
    have k := k τ1 (o.mo fun a k z => z.elim) F1 n1 z1
    unfold vrd at k
    rw [if_pos ht] at k
    exact k
end VRD
