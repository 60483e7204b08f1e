/-! LISTS of the library: rows, adding -/
section GRA
variable {d mi pc : Nat} {L : LO} {st : List AV} {τ : T2} {Q : RS → T2 → Prop}
theorem g_aeq {o : Int} {t : Nat} (hc : CD mi pc = some (.if_acmp .eq o, 3)) (ht : tgt pc o = some t) (k : G d mi t L st τ Q) : G d mi pc L (AR 1 :: AR 1 :: st) τ Q := by
  refine g_st hc ?_ k
  show brA (pc + 3) (tgt pc o) L true (AR 1 :: AR 1 :: st) (toST τ) = _
  rw [ht]
  rfl
theorem g_cf {ix cnt cm na rc a z : Nat} {as : List AV} {rest : List AV} (hc : CD mi pc = some (.invokeinterface ix cnt, 5)) (hml : ML mi ix = some (cm, na, rc, 3)) (hcm : cm < 1000) (hst : st.take na = as) (hdr : st.drop na = rest) (hna : na ≤ st.length) {as2 : List AV} (hr : as.reverse = .inr (.inr (some a)) :: as2) (hs : tS τ a = (1, rc, z)) (hw : (Nat.ble (wt rest) 8 && (Nat.ble 1000 cm || Nat.ble (iA as.reverse).length (MX cm))) = true) (hd : 1 ≤ d) {L0 : LO} (hL : iL (MX cm) as.reverse = L0)
    (kk : G (d - 1) cm 0 L0 [] τ (KC d mi pc (pc + 5) L rest Q)) : G d mi pc L st τ Q := by
  subst hst hdr hL
  refine g_call hc rfl hml hcm hna rfl ?_ hw hd kk
  rw [hr]
  show (match (toST τ).1 a with | .inl (ci, _) => ci == rc | _ => false) = true
  rw [toST_at, hs]
  exact beq_self_eq_true rc
theorem g_cop {ix rc a n m : Nat} {rest : List AV} (hc : CD mi pc = some (.invokestatic ix, 3)) (hml : ML mi ix = some (1006, 2, rc, 0)) (hw : Nat.ble (wt rest) 8 = true) (hd : 17 ≤ d) (ha : tS τ a = (3, 10, m)) (hmn : m ≤ n) (hn : n ≤ 100000) (he : ∀ j, j < m → tP τ a j = none ∨ ∃ b, tP τ a j = some b ∧ okEs 10 (tS τ b) = true) (kk : G d mi (pc + 3) L (AR (tN τ) :: rest) (rP (nC τ (3, 10, n) n) (tN τ) (fun j => if j < m then tP τ a j else none)) Q) : G d mi pc L (AI (n : Int) :: AR a :: rest) τ Q := by
  refine g_blt (st := .inl (n : Int) :: .inr (.inr (some a)) :: rest) hc rfl hml (by decide) (by simp) rfl rfl hw hd (v := some (.inr (.inr (some (tN τ))))) (τ1 := rP (nC τ (3, 10, n) n) (tN τ) (fun j => if j < m then tP τ a j else none)) ?_ kk
  show (match (toST τ).1 a with | .inr (.inr (10, l, f)) => if (l : Int) ≤ (n : Int) ∧ (n : Int) ≤ 100000 ∧ ((List.range l).all fun j => okEo 10 (f j) (toST τ)) = true then some (.inl (some (.inr (.inr (some (tN τ))))), sN (toST τ) (.inr (.inr (10, (n : Int).toNat, fun j => if j < l then f j else none))) (n : Int).toNat) else none | _ => none : Option (RS × ST)) = _
  rw [toST_at, ha]
  show (if (m : Int) ≤ (n : Int) ∧ (n : Int) ≤ 100000 ∧ ((List.range m).all fun j => okEo 10 (tP τ a j) (toST τ)) = true then _ else none) = _
  have hall : ((List.range m).all fun j => okEo 10 (tP τ a j) (toST τ)) = true := by
    rw [List.all_eq_true]
    intro j hj
    rcases he j (List.mem_range.mp hj) with y | ⟨b, y, z⟩
    · rw [y]; rfl
    · rw [y]
      exact okE_es z
  rw [if_pos ⟨by omega, by omega, hall⟩, toST_rP, toST_nC, Int.toNat_natCast]
  have e1 : tS (nC τ (3, 10, n) n) (tN τ) = (3, 10, n) := if_pos rfl
  rw [e1]
  show _ = some (_, sU (sN (toST τ) (.inr (.inr (10, n, fun _ => none))) n) (toST τ).2.1 (.inr (.inr (10, n, fun j => if j < m then tP τ a j else none))))
  rw [sU_sN]
end GRA
def capA (k : Nat) : Nat := if k = 0 then 0 else if k ≤ 10 then 10 else if k ≤ 15 then 15 else if k ≤ 22 then 22 else if k ≤ 33 then 33 else 49
def sltA (k : Nat) : Nat := if k = 0 then 0 else if k ≤ 10 then 10 else if k ≤ 15 then 25 else if k ≤ 22 then 47 else if k ≤ 33 then 80 else 129
theorem sltA_b (k : Nat) : sltA k ≤ 12 * k := by unfold sltA; split <;> (try split) <;> (try split) <;> (try split) <;> (try split) <;> omega
/-- a list that holds these -/
def ALs (τ : T2) (R : Nat → Prop) (al : Nat) (L : List Nat) : Prop := R al ∧ tS τ al = (1, 1, 0) ∧ L.length ≤ 40 ∧ tI τ al 2 = (L.length : Int) ∧ tI τ al 0 = (L.length : Int) ∧ (L.length = 0 → tP τ al 1 = some 1) ∧ (1 ≤ L.length → ∃ e, R e ∧ tP τ al 1 = some e ∧ e ≠ al ∧ tS τ e = (3, 10, capA L.length) ∧ ∀ j, j < capA L.length → tP τ e j = L[j]?)
theorem ALs.mo {τ τ1 : T2} {R R1 : Nat → Prop} {al : Nat} {L : List Nat} (h : ALs τ R al L) (hR : ∀ a, R a → R1 a) (hs : ∀ a, R a → tS τ1 a = tS τ a ∧ tI τ1 a = tI τ a ∧ tP τ1 a = tP τ a) : ALs τ1 R1 al L := by
  obtain ⟨h1, h2, h3, h4, h5, h6, h7⟩ := h
  obtain ⟨s1, s2, s3⟩ := hs al h1
  refine ⟨hR al h1, by rw [s1]; exact h2, h3, by rw [s2]; exact h4, by rw [s2]; exact h5, fun y => by rw [s3]; exact h6 y, fun y => ?_⟩
  obtain ⟨e, e1, e2, e3, e4, e5⟩ := h7 y
  obtain ⟨t1, t2, t3⟩ := hs e e1
  exact ⟨e, hR e e1, by rw [s3]; exact e2, e3, by rw [t1]; exact e4, fun j hj => by rw [t3]; exact e5 j hj⟩
theorem capA_f : ∀ k : Fin 40, (1 ≤ k.val → k.val < capA k.val → capA (k.val + 1) = capA k.val ∧ sltA (k.val + 1) = sltA k.val) ∧ (1 ≤ k.val → k.val = capA k.val → capA (k.val + 1) = k.val + k.val / 2 ∧ sltA (k.val + 1) = sltA k.val + (k.val + k.val / 2) ∧ 2 ≤ k.val) ∧ k.val ≤ capA k.val := by decide
theorem OC_rPn {P : Nat → Nat → Prop} {τ τ1 : T2} {a : Nat} {g : Nat → Option Nat} (h : OC P τ τ1) (h1 : tN τ ≤ a) : OC P τ (rP τ1 a g) := ⟨h.1, h.2.1, h.2.2.1, fun b j hb hn => ⟨(h.2.2.2 b j hb hn).1, by
  show rw2 (tP τ1) a g b j = _
  rw [rw2_oth _ _ (by omega)]
  exact (h.2.2.2 b j hb hn).2⟩⟩
theorem FX2_rPn {τ : T2} {a : Nat} {g : Nat → Option Nat} (F : FX2 τ) (h : 473 ≤ a) : FX2 (rP τ a g) := ⟨F.1, F.2.1, fun b k q hq => by
  show rw2 (tP τ) a g b k = _
  rw [rw2_oth _ _ (fun z => by rw [z, PTI_n h] at hq; cases hq)]
  exact F.2.2 b k q hq⟩
section ALS
variable {d : Nat} {τ : T2} {Q : RS → T2 → Prop} {al : Nat} {R : Nat → Prop}
theorem m253 (sal : tS τ al = (1, 1, 0)) (hd : 20 ≤ d) (k : Q (.inl none) (uP (uI τ al 0 0) al 1 (some 1))) : G d 253 0 [vR al] [] τ Q := t253_0 (by omega) (t248_0 (by omega) (t247_0 (by omega) (t248_4 sal (t253_4 sal k))))
theorem ALs_0 (sal : tS τ al = (1, 1, 0)) (hR : R al) (h2 : tI τ al 2 = 0) : ALs (uP (uI τ al 0 0) al 1 (some 1)) R al [] := by
  refine ⟨hR, sal, Nat.zero_le _, ?_, ?_, fun _ => ?_, fun y => absurd y (by decide)⟩
  · rw [tI_uP, tI_uI, if_neg (by omega)]; exact h2
  · rw [tI_uP, tI_uI, if_pos ⟨rfl, rfl⟩]; rfl
  · rw [tP_uP, if_pos ⟨rfl, rfl⟩]
set_option maxRecDepth 8192 in
theorem t256z {x : Nat} (hd : 1 ≤ d) (s1 : tS τ 1 = (3, 101, 0)) (sal : tS τ al = (1, 1, 0)) (k : G (d - 1) 255 0 [vR al] [] τ (KC d 256 7 10 [vR al, vR x, none, vI 0] [] Q)) : G d 256 0 [vR al, vR x, vR 1, vI 0] [] τ Q := by
  refine g_sk 2 (pc1 := 2) (st1 := [AR 1, AI 0]) rfl ?_
  refine g_al3 rfl s1 ?_
  refine g_br2 rfl (t := 11) rfl (fun c => absurd c (by decide)) (fun _ => ?_)
  refine g_sk 1 (pc1 := 7) (st1 := [AR al]) rfl ?_
  refine G_fg (lw2_k _ (lw2_k _ (lw2_f _ (lw2_k _ lw2_nil)))) ?_
  refine g_cv rfl rfl (by decide) rfl rfl (Nat.le_of_ble_eq_true rfl) (as2 := []) rfl sal rfl (by omega) (L0 := [vR al]) rfl ?_
  exact k
set_option maxRecDepth 8192 in
theorem t254z (hd : 17 ≤ d) (s1 : tS τ 1 = (3, 101, 0)) (sal : tS τ al = (1, 1, 0)) (p1 : tP τ al 1 = some 1) (hn : al < tN τ) (k : Q (.inl (some (AR (tN τ)))) (uP (nC τ (3, 10, 10) 10) al 1 (some (tN τ)))) : G d 254 0 [vR al, vI 1, none, none] [] τ Q := by
  refine g_sk 1 (pc1 := 1) (st1 := [AR al]) rfl ?_
  refine g_gQ rfl (ci := 1) (k := 1) rfl sal p1 ?_
  refine g_al3 rfl s1 ?_
  refine g_sx 2 (pc1 := 7) (L1 := [vR al, vI 1, vI ((0 : Nat) : Int), none]) (st1 := [AI ((0 : Nat) : Int)]) rfl ?_
  refine g_br1 rfl (t := 20) rfl (fun c => absurd c (by decide)) (fun _ => ?_)
  refine g_sk 1 (pc1 := 11) (st1 := [AR al]) rfl ?_
  refine g_gQ rfl (ci := 1) (k := 1) rfl sal p1 ?_
  refine g_gst (v := .inr (.inr (some 1))) rfl rfl ?_
  refine g_aeq rfl (t := 45) rfl ?_
  refine g_sk 3 (pc1 := 49) (st1 := [AI 1, AI 10, AR al]) rfl ?_
  refine g_max rfl rfl rfl hd ?_
  refine g_newq (n := 10) rfl (ty := 10) rfl (by decide) (by decide) ?_
  refine G_fg (lw2_f _ (lw2_f _ (lw2_f _ (lw2_f _ lw2_nil)))) ?_
  refine t254_55 (s0 := some (tN τ)) (s1 := al) ?_ k
  rw [nCS, if_neg (by omega)]
  exact sal
set_option maxRecDepth 8192 in
theorem t254_40 {s1 : Nat} {s0 : Option Nat} (sh1 : tS τ s1 = (1, 1, 0)) (k1 : Q (.inl (some (AP s0))) (uP τ s1 1 s0)) : G d 254 40 [none, none, none, none] [AP s0, AR s1] τ Q := by
  refine g_sk 1 (pc1 := 41) (st1 := [AP s0, AR s1, AP s0]) rfl ?_
  refine g_putP rfl (ci := 1) (k := 1) rfl sh1 ?_
  refine g_aret rfl rfl ?_
  exact k1
theorem zshr1 {c : Nat} (h : c ≤ 100) : zshr (c : Int) 1 = ((c / 2 : Nat) : Int) := by
  have e := zshr_eq (x := (c : Int)) (by unfold okI; omega) (k := 1) (by omega)
  have e1 : zshr (c : Int) 1 = (c : Int) / 2 ^ 1 := e
  rw [e1]
  omega
set_option maxRecDepth 8192 in
/-- a fuller list grows -/
theorem m254g {e c : Nat} (hd : 20 ≤ d) (sal : tS τ al = (1, 1, 0)) (p1 : tP τ al 1 = some e) (se : tS τ e = (3, 10, c)) (hc : 2 ≤ c ∧ c ≤ 40) (hn : al < tN τ) (he : ∀ j, j < c → tP τ e j = none ∨ ∃ b, tP τ e j = some b ∧ okEs 10 (tS τ b) = true) (k : Q (.inl (some (AR (tN τ)))) (uP (rP (nC τ (3, 10, c + c / 2) (c + c / 2)) (tN τ) (fun j => if j < c then tP τ e j else none)) al 1 (some (tN τ)))) : G d 254 0 [vR al, vI ((c + 1 : Nat) : Int), none, none] [] τ Q := by
  refine t254_0 (n4 := c) (by omega) sal p1 se (fun _ => ?_) (fun q => by omega)
  have e1 : wr (((c + 1 : Nat) : Int) - (c : Int)) = 1 := by rw [wr_id (by unfold okI; omega)]; omega
  rw [e1, zshr1 (by clear e1; omega)]
  clear e1
  have e2 : wr ((c : Int) + (if (1 : Int) < ((c / 2 : Nat) : Int) then ((c / 2 : Nat) : Int) else 1)) = ((c + c / 2 : Nat) : Int) := by
    have e3 : (if (1 : Int) < ((c / 2 : Nat) : Int) then ((c / 2 : Nat) : Int) else 1) = ((c / 2 : Nat) : Int) := by split <;> omega
    rw [e3]
    exact wr_a (c / 2) (by omega)
  refine t265_0 (by clear e2; omega) (fun q => by rw [e2] at q; clear e2; omega) (fun _ q => by rw [e2] at q; clear e2; omega) (fun _ _ => ?_)
  rw [e2]
  clear e2
  refine t254_30 (by omega) sal ?_
  rw [p1]
  refine g_cop rfl rfl rfl (by omega) se (by omega) (by omega) he ?_
  refine t254_40 (s0 := some (tN τ)) (s1 := al) ?_ k
  show (if al = tN τ then _ else tS τ al) = _
  rw [if_neg (by omega)]
  exact sal
/-- what adding leaves -/
def AdF (P : Nat → Nat → Prop) (τ τf : T2) (al x : Nat) (L : List Nat) (e : Nat) : Prop := OC P τ τf ∧ FX2 τf ∧ tN τf ≤ tN τ + 1 ∧ tZ τf + sltA L.length ≤ tZ τ + sltA (L.length + 1) ∧ tS τf al = (1, 1, 0) ∧ tI τf al 2 = ((L.length + 1 : Nat) : Int) ∧ tI τf al 0 = tI τ al 0 ∧ tP τf al 1 = some e ∧ (tP τ al 1 = some e ∨ (tN τ ≤ e ∧ e < tN τf)) ∧ e ≠ al ∧ tS τf e = (3, 10, capA (L.length + 1)) ∧ ∀ j, j < capA (L.length + 1) → tP τf e j = if j = L.length then some x else L[j]?
theorem m256s {x e c : Nat} {L : List Nat} {P : Nat → Nat → Prop} {τa : T2} (hP : P al 2) (o : OC P τ τa) (Fa : FX2 τa) (na : tN τa = tN τ + 1) (hz : tZ τa + sltA L.length ≤ tZ τ + sltA (L.length + 1)) (he : e = tN τ) (N4 : 473 ≤ tN τ) (hal : al < tN τ) (sal : tS τa al = (1, 1, 0)) (i0 : tI τa al 0 = tI τ al 0) (p1 : tP τa al 1 = some e) (se : tS τa e = (3, 10, c)) (hc : c = capA (L.length + 1)) (hlc : L.length < c) (hl : L.length < 100) (pe : ∀ j, j < c → tP τa e j = L[j]?) (hx : okEs 10 (tS τa x) = true) (k : ∀ τf, AdF P τ τf al x L e → Q (.inl none) τf) : G d 256 10 [vR al, vR x, none, vI (L.length : Int)] [AR e] τa Q := by
  subst he hc
  have nl : wr ((L.length : Int) + 1) = ((L.length + 1 : Nat) : Int) := wr_nat (by omega)
  refine t256_10 (n1 := capA (L.length + 1)) se (by clear nl; omega) hx sal (k _ ⟨(o.qn (Nat.le_refl _)).j hP, (Fa.q (PTI_n N4)).j, ?_, hz, sal, ?_, ?_, ?_, Or.inr ⟨Nat.le_refl _, ?_⟩, ?_, se, fun j hj => ?_⟩)
  · show tN τa ≤ _; rw [na]; exact Nat.le_refl _
  · rw [tI_uI, if_pos ⟨rfl, rfl⟩]; exact nl
  · rw [tI_uI, if_neg (fun z => absurd z.2 (by decide)), tI_uP]; exact i0
  · rw [tP_uI, tP_uP, if_neg (fun z => absurd z.1 (by clear nl; omega))]; exact p1
  · show tN τ < tN τa; rw [na]; exact Nat.lt_succ_self _
  · clear nl; omega
  · rw [tP_uI, tP_uP, Int.toNat_natCast]
    by_cases y : j = L.length
    · rw [if_pos ⟨rfl, y⟩, if_pos y]
    · rw [if_neg (fun z => y z.2), if_neg y]; exact pe j hj
theorem m256z {x : Nat} {P : Nat → Nat → Prop} (F : FX2 τ) (hP : ∀ k, P al k) (s1 : tS τ 1 = (3, 101, 0)) (h4 : 473 ≤ al) (hal : al < tN τ) (sal : tS τ al = (1, 1, 0)) (z2 : tI τ al 2 = 0) (p1 : tP τ al 1 = some 1) (hx : okEs 10 (tS τ x) = true) (hxn : x < tN τ) (hd : 25 ≤ d) (k : ∀ τf, AdF P τ τf al x [] (tN τ) → Q (.inl none) τf) : G d 256 0 [vR al, vR x, vR 1, vI 0] [] τ Q := by
  have N4 := F.1
  refine t256z (by omega) s1 sal (t255_0 (by omega) sal ?_)
  rw [z2, show wr (0 + 1) = 1 from rfl]
  refine t254z (by omega) s1 sal p1 hal (t255_10 ?_)
  refine m256s (L := []) (c := 10) (e := tN τ) (hP 2) (OC.rf.n.q (hP 1)) (F.n.q (PTI_n h4)) rfl ?_ rfl N4 hal ?_ ?_ ?_ ?_ rfl (by decide) (by decide) (fun j hj => ?_) ?_ k
  · show tZ τ + 10 + 0 ≤ tZ τ + 10
    exact Nat.le_refl _
  · show tS (nC τ (3, 10, 10) 10) al = _
    rw [nCS, if_neg (by omega)]; exact sal
  · rw [tI_uP]
    show rw2 (tI τ) (tN τ) (fun _ => 0) al 0 = _
    rw [rw2_oth _ _ (by omega)]
  · rw [tP_uP, if_pos ⟨rfl, rfl⟩]
  · show tS (nC τ (3, 10, 10) 10) (tN τ) = _
    rw [nCS, if_pos rfl]
  · rw [tP_uP, if_neg (by omega)]
    show rw2 (tP τ) (tN τ) (fun _ => none) (tN τ) j = _
    rw [rw2_row]
    rfl
  · show okEs 10 (tS (nC τ (3, 10, 10) 10) x) = true
    rw [nCS, if_neg (by omega)]; exact hx
theorem m256f {x e : Nat} {L : List Nat} {P : Nat → Nat → Prop} (F : FX2 τ) (hP : ∀ k, P al k) (h4 : 473 ≤ al) (hal : al < tN τ) (sal : tS τ al = (1, 1, 0)) (z2 : tI τ al 2 = (L.length : Int)) (p1 : tP τ al 1 = some e) (se : tS τ e = (3, 10, L.length)) (hl : 2 ≤ L.length ∧ L.length < 40) (c1 : capA (L.length + 1) = L.length + L.length / 2) (c2 : sltA (L.length + 1) = sltA L.length + (L.length + L.length / 2)) (pe : ∀ j, j < L.length → tP τ e j = L[j]?) (hel : ∀ y ∈ L, okEs 10 (tS τ y) = true) (hx : okEs 10 (tS τ x) = true) (hxn : x < tN τ) (hd : 25 ≤ d) (k : ∀ τf, AdF P τ τf al x L (tN τ) → Q (.inl none) τf) : G d 256 0 [vR al, vR x, vR e, vI (L.length : Int)] [] τ Q := by
  have N4 := F.1
  refine t256_0 (n1 := L.length) (by omega) se (fun q => absurd rfl q) (fun q => absurd rfl q) sal (fun q => absurd rfl q) (fun _ => t255_0 (by omega) sal ?_)
  rw [z2, wr_nat (by omega)]
  refine m254g (e := e) (by omega) sal p1 se ⟨hl.1, by omega⟩ hal (fun j hj => ?_) (t255_10 ?_)
  · rw [pe j hj, List.getElem?_eq_getElem hj]
    exact Or.inr ⟨_, rfl, hel _ (List.getElem_mem hj)⟩
  refine m256s (c := L.length + L.length / 2) (e := tN τ) (hP 2) ((OC_rPn OC.rf.n (Nat.le_refl _)).q (hP 1)) ((FX2_rPn F.n N4).q (PTI_n h4)) rfl ?_ rfl N4 hal ?_ ?_ ?_ ?_ c1.symm (by omega) (by omega) (fun j hj => ?_) ?_ k
  · show tZ τ + (L.length + L.length / 2) + _ ≤ _
    rw [c2]
    omega
  · show tS (nC τ _ _) al = _
    rw [nCS, if_neg (by omega)]; exact sal
  · rw [tI_uP]
    show rw2 (tI τ) (tN τ) (fun _ => 0) al 0 = _
    rw [rw2_oth _ _ (by omega)]
  · rw [tP_uP, if_pos ⟨rfl, rfl⟩]
  · show tS (nC τ _ _) (tN τ) = _
    rw [nCS, if_pos rfl]
  · rw [tP_uP, if_neg (by omega)]
    show rw2 (tP (nC τ _ _)) (tN τ) (fun j => if j < L.length then tP τ e j else none) (tN τ) j = _
    rw [rw2_row]
    by_cases z : j < L.length
    · rw [if_pos z]; exact pe j z
    · rw [if_neg z, List.getElem?_eq_none (by omega)]
  · show okEs 10 (tS (nC τ _ _) x) = true
    rw [nCS, if_neg (by omega)]; exact hx
theorem m256r {x e : Nat} {L : List Nat} {P : Nat → Nat → Prop} (F : FX2 τ) (hP : ∀ k, P al k) (hPe : ∀ k, P e k) (he4 : 473 ≤ e) (hne : e ≠ al) (sal : tS τ al = (1, 1, 0)) (p1 : tP τ al 1 = some e) (se : tS τ e = (3, 10, capA L.length)) (hl : L.length < 40) (hlt : L.length < capA L.length) (c1 : capA (L.length + 1) = capA L.length) (c2 : sltA (L.length + 1) = sltA L.length) (pe : ∀ j, j < capA L.length → tP τ e j = L[j]?) (hx : okEs 10 (tS τ x) = true) (hd : 1 ≤ d) (k : ∀ τf, AdF P τ τf al x L e → Q (.inl none) τf) : G d 256 0 [vR al, vR x, vR e, vI (L.length : Int)] [] τ Q := by
  have nl : wr ((L.length : Int) + 1) = ((L.length + 1 : Nat) : Int) := wr_nat (by omega)
  refine t256_0 (n1 := capA L.length) hd se (fun _ => by clear nl; omega) (fun _ => hx) sal (fun _ => k _ ⟨(OC.rf.q (hPe _)).j (hP 2), (F.q (PTI_n he4)).j, Nat.le_succ _, ?_, sal, ?_, ?_, ?_, Or.inl p1, hne, ?_, fun j hj => ?_⟩) (fun q => by clear nl; omega)
  · show tZ τ + _ ≤ _; rw [c2]; exact Nat.le_refl _
  · rw [tI_uI, if_pos ⟨rfl, rfl⟩]; exact nl
  · rw [tI_uI, if_neg (fun z => absurd z.2 (by decide)), tI_uP]
  · rw [tP_uI, tP_uP, if_neg (fun z => hne z.1.symm)]; exact p1
  · show tS τ e = _; rw [c1]; exact se
  · rw [tP_uI, tP_uP, Int.toNat_natCast]
    by_cases y : j = L.length
    · rw [if_pos ⟨rfl, y⟩, if_pos y]
    · rw [if_neg (fun z => y z.2), if_neg y]
      exact pe j (by rw [← c1]; exact hj)
/-- add -/
theorem m257 {x : Nat} {L : List Nat} (F : FX2 τ) (s1 : tS τ 1 = (3, 101, 0)) (h473 : ∀ a, R a → 473 ≤ a ∧ a < tN τ) (A : ALs τ R al L) (hL : L.length < 40) (hx : okEs 10 (tS τ x) = true) (hxn : x < tN τ) (hel : ∀ y ∈ L, okEs 10 (tS τ y) = true) (hd : 30 ≤ d) (k : ∀ τ1, OC (fun a _ => a = al ∨ (tP τ al 1 = some a ∧ R a)) τ τ1 → FX2 τ1 → tN τ1 ≤ tN τ + 1 → tZ τ1 + sltA L.length ≤ tZ τ + sltA (L.length + 1) → (∃ e, tP τ1 al 1 = some e ∧ ((tP τ al 1 = some e ∧ R e) ∨ tN τ ≤ e)) → ALs τ1 (fun a => R a ∨ (tN τ ≤ a ∧ a < tN τ1)) al (L ++ [x]) → Q (.inl (some (AI 1))) τ1) : G d 257 0 [vR al, vR x] [] τ Q := by
  obtain ⟨a1, a2, a3, a4, a5, a6, a7⟩ := A
  have hal := h473 al a1
  have el : (L ++ [x]).length = L.length + 1 := by simp
  have gx : ∀ j, (L ++ [x])[j]? = if j = L.length then some x else L[j]? := fun j => by
    by_cases y : j = L.length
    · rw [if_pos y, y]; simp
    · rw [if_neg y]
      by_cases z : j < L.length
      · rw [List.getElem?_append_left z]
      · rw [List.getElem?_eq_none (by simp; omega), List.getElem?_eq_none (by omega)]
  refine t257_0 (r1 := some x) (by omega) a2 ?_
  rw [show wr (tI τ al 0 + 1) = ((L.length + 1 : Nat) : Int) by rw [a5]; exact wr_nat (by omega)]
  have o0 : OC (fun a _ => a = al ∨ (tP τ al 1 = some a ∧ R a)) τ (uI τ al 0 ((L.length + 1 : Nat) : Int)) := OC.rf.j (Or.inl rfl)
  have z2 : tI (uI τ al 0 ((L.length + 1 : Nat) : Int)) al 2 = (L.length : Int) := by rw [tI_uI, if_neg (by omega)]; exact a4
  have z0 : tI (uI τ al 0 ((L.length + 1 : Nat) : Int)) al 0 = ((L.length + 1 : Nat) : Int) := by rw [tI_uI, if_pos ⟨rfl, rfl⟩]
  rw [z2, tP_uI]
  obtain ⟨cr, cf, ck⟩ := capA_f ⟨L.length, hL⟩
  simp only at cr cf ck
  have fin : ∀ τf e, (tP τ al 1 = some e → R e) → AdF (fun a _ => a = al ∨ (tP τ al 1 = some a ∧ R a)) (uI τ al 0 ((L.length + 1 : Nat) : Int)) τf al x L e → KC d 257 20 23 [none, none] [] Q (.inl none) τf := fun τf e hRe f => by
    obtain ⟨f1, f2, f3, f4, f5, f6, f7, f8, f9, f10, f11, f12⟩ := f
    have f9 : (tP τ al 1 = some e ∧ R e) ∨ (tN τ ≤ e ∧ e < tN τf) := f9.imp (fun y => ⟨y, hRe y⟩) id
    refine t257_23 (k τf (o0.tr f1) f2 f3 f4 ⟨e, f8, f9.imp id And.left⟩ ⟨Or.inl a1, f5, by rw [el]; omega, by rw [el]; exact f6, by rw [el, f7]; exact z0, fun y => by rw [el] at y; omega, fun _ => ⟨e, f9.imp And.right id, f8, f10, by rw [el]; exact f11, fun j hj => ?_⟩⟩)
    rw [el] at hj
    rw [f12 j hj, gx j]
  by_cases h0 : L.length = 0
  · have p1 := a6 h0
    obtain rfl : L = [] := List.length_eq_zero_iff.mp h0
    rw [p1]
    exact m256z (τ := uI τ al 0 _) F.j (fun _ => Or.inl rfl) s1 hal.1 hal.2 a2 z2 p1 hx hxn (by omega) (fun τf f => fin τf _ (fun y => by rw [p1] at y; exact absurd (Option.some.inj y) (by have := F.1; show ¬ 1 = tN τ; omega)) f)
  · obtain ⟨e, e1, e2, e3, e4, e5⟩ := a7 (by omega)
    have he := h473 e e1
    rw [e2]
    by_cases hf : L.length = capA L.length
    · obtain ⟨c1, c2, c3⟩ := cf (by omega) hf
      exact m256f (τ := uI τ al 0 _) F.j (fun _ => Or.inl rfl) hal.1 hal.2 a2 z2 e2 (by show tS τ e = _; rw [e4, ← hf]) ⟨c3, hL⟩ c1 c2 (fun j hj => e5 j (by rw [← hf]; exact hj)) hel hx hxn (by omega) (fun τf f => fin τf _ (fun y => by rw [e2] at y; have := Option.some.inj y; exact absurd this (by show ¬ e = tN τ; omega)) f)
    · obtain ⟨c1, c2⟩ := cr (by omega) (by omega)
      exact m256r (τ := uI τ al 0 _) F.j (fun _ => Or.inl rfl) (fun _ => Or.inr ⟨e2, e1⟩) he.1 e3 a2 e2 e4 hL (by omega) c1 c2 e5 hx (by omega) (fun τf f => fin τf e (fun _ => e1) f)
end ALS
