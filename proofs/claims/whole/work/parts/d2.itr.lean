/-! LISTS of the library: going through -/
def ItM (τ : T2) (it al i : Nat) : Prop := tS τ it = (1, 0, 0) ∧ tI τ it 0 = (i : Int) ∧ tI τ it 2 = tI τ al 0 ∧ tP τ it 3 = some al
section ITR
variable {d : Nat} {τ : T2} {Q : RS → T2 → Prop} {al it i : Nat} {R : Nat → Prop} {L : List Nat}
theorem m258 (F : FX2 τ) (sal : tS τ al = (1, 1, 0)) (hal : al < tN τ) (hd : 20 ≤ d) (k : ∀ τ1, OC (fun _ _ => False) τ τ1 → FX2 τ1 → tN τ1 = tN τ + 1 → tZ τ1 = tZ τ + 4 → ItM τ1 (tN τ) al 0 → Q (.inl (some (AR (tN τ)))) τ1) : G d 258 0 [vR al] [] τ Q := by
  have N := F.1
  refine t258_0 ?_
  have o1 : OC (fun _ _ => False) τ (nC τ (1, 0, 0) 4) := OC.rf.n
  have F1 : FX2 (nC τ (1, 0, 0) 4) := F.n
  have s1 : tS (nC τ (1, 0, 0) 4) (tN τ) = (1, 0, 0) := if_pos rfl
  have sa : tS (nC τ (1, 0, 0) 4) al = (1, 1, 0) := by rw [nCS, if_neg (by omega)]; exact sal
  have i0 : tI (nC τ (1, 0, 0) 4) (tN τ) 0 = 0 := by
    show rw2 (tI τ) (tN τ) (fun _ => 0) (tN τ) 0 = 0
    rw [rw2_row]
  have n1 : tN (nC τ (1, 0, 0) 4) = tN τ + 1 := rfl
  have z1 : tZ (nC τ (1, 0, 0) 4) = tZ τ + 4 := rfl
  generalize nC τ (1, 0, 0) 4 = τ1 at *
  have p3 : tP (uP τ1 (tN τ) 3 (some al)) (tN τ) 3 = some al := by rw [tP_uP, if_pos ⟨rfl, rfl⟩]
  refine t258_3 (by omega) (t249_0 (r1 := some al) (q2 := al) (by omega) s1 p3 sa (t258_8 (s0 := some (tN τ)) (k _ (((o1.qn (Nat.le_refl _)).jn (Nat.le_refl _)).jn (Nat.le_refl _)) ((F1.q (PTI_n N)).j.j) n1 z1 ⟨s1, ?_, ?_, ?_⟩)))
  · rw [tI_uI, if_neg (by omega), tI_uI, if_neg (by omega), tI_uP]; exact i0
  · rw [tI_uI, if_pos ⟨rfl, rfl⟩]
    rw [tI_uI (uI (uP τ1 (tN τ) 3 (some al)) (tN τ) 1 (-1)), if_neg (by omega)]
  · rw [tP_uI, tP_uI]; exact p3
/-- hasNext -/
theorem m250 (I : ItM τ it al i) (A : ALs τ R al L) (k1 : i ≠ L.length → Q (.inl (some (AI 1))) τ) (k0 : i = L.length → Q (.inl (some (AI 0))) τ) : G d 250 0 [vR it] [] τ Q := by
  obtain ⟨i1, i2, i3, i4⟩ := I
  refine t250_0 (q2 := al) i1 i4 A.2.1 (fun c => ?_) (fun c => ?_)
  · rw [i2, A.2.2.2.1] at c
    exact k0 (by omega)
  · rw [i2, A.2.2.2.1] at c
    exact k1 (by omega)
/-- next -/
theorem m251 {x : Nat} (F : FX2 τ) (h4 : 473 ≤ it) (hR : ∀ a, R a → a ≠ it) (I : ItM τ it al i) (A : ALs τ R al L) (hx : L[i]? = some x) (hd : 1 ≤ d) (k : ∀ τ1, OC (fun a _ => a = it) τ τ1 → FX2 τ1 → tN τ1 = tN τ → tZ τ1 = tZ τ → ItM τ1 it al (i + 1) → Q (.inl (some (AR x))) τ1) : G d 251 0 [vR it, none, none] [] τ Q := by
  obtain ⟨i1, i2, i3, i4⟩ := I
  obtain ⟨a1, a2, a3, a5, a6, a7, a8⟩ := A
  have hi : i < L.length := (List.getElem?_eq_some_iff.mp hx).1
  obtain ⟨e, e1, e2, e3, e4, e5⟩ := a8 (by omega)
  have ck : L.length ≤ capA L.length := by
    by_cases y : L.length = 40
    · rw [y]; decide
    · exact (capA_f ⟨L.length, by omega⟩).2.2
  refine t251_0 hd i1 (t252_0 (q2 := al) i1 i4 a2 (fun _ => ?_) (fun c => c i3.symm))
  refine t251_4 (q2 := al) (q6 := e) (n8 := capA L.length) i1 i4 a2 e2 e4 (fun _ _ => by rw [i2]; omega) (fun _ _ => ?_) (fun _ c => by rw [i2] at c; omega) (fun c => by rw [i2, a5] at c; omega)
  have nw : wr ((i : Int) + 1) = ((i + 1 : Nat) : Int) := wr_nat (by omega)
  rw [tP_uI, tP_uI, i2, Int.toNat_natCast, e5 i (by clear nw; omega), hx, nw]
  clear nw
  refine k _ (OC.j (P := fun a _ => a = it) (OC.j (P := fun a _ => a = it) OC.rf rfl) rfl) F.j.j rfl rfl ⟨i1, ?_, ?_, ?_⟩
  · rw [tI_uI, if_neg (by omega), tI_uI, if_pos ⟨rfl, rfl⟩]
  · rw [tI_uI, if_neg (by omega), tI_uI, if_neg (by omega), tI_uI, if_neg (fun z => hR al a1 z.1), tI_uI, if_neg (fun z => hR al a1 z.1)]
    exact i3
  · rw [tP_uI, tP_uI]; exact i4
end ITR
section EIC
variable {d : Nat} {τ : T2} {Q : RS → T2 → Prop} {al it i r0 : Nat} {R : Nat → Prop} {L : List Nat} {r2 r3 r4 r6 r7 : Option Nat}
set_option maxRecDepth 8192 in
theorem h12 (hs : tS τ it = (1, 0, 0)) (hd : 1 ≤ d) (k : G (d - 1) 250 0 [vR it] [] τ (KC d 196 12 17 [vR r0, none, vQ r2, vQ r3, vR it, none, none, none, none] [] Q)) : G d 196 12 [vR r0, none, vQ r2, vQ r3, vR it, none, none, none, none] [AR it] τ Q := by
  refine g_cf rfl rfl (by decide) rfl rfl (Nat.le_of_ble_eq_true rfl) (as2 := []) rfl hs rfl hd (L0 := [vR it]) rfl ?_
  exact k
set_option maxRecDepth 8192 in
theorem h22 (hs : tS τ it = (1, 0, 0)) (hd : 1 ≤ d) (k : G (d - 1) 251 0 [vR it, none, none] [] τ (KC d 196 22 27 [vR r0, none, vQ r2, vQ r3, vR it, none, none, none, none] [] Q)) : G d 196 22 [vR r0, none, vQ r2, vQ r3, vR it, none, none, none, none] [AR it] τ Q := by
  refine g_cf rfl rfl (by decide) rfl rfl (Nat.le_of_ble_eq_true rfl) (as2 := []) rfl hs rfl hd (L0 := [vR it, none, none]) rfl ?_
  exact k
set_option maxRecDepth 8192 in
theorem h27 {s0 : Nat} (hq : tS τ s0 = (1, 16, 0)) (hp : tP τ s0 0 = some al) (sal : tS τ al = (1, 1, 0)) (hd : 1 ≤ d) (k : G (d - 1) 258 0 [vR al] [] τ (KC d 196 40 43 [vR r0, none, vQ r2, vQ r3, vQ r4, none, vQ r2, none, none] [] Q)) : G d 196 27 [vR r0, none, vQ r2, vQ r3, vQ r4, none, none, none, none] [AR s0] τ Q := by
  refine g_cst rfl rfl (ci := 16) (by decide) hq ?_
  refine g_sx 4 (pc1 := 37) (L1 := [vR r0, none, vQ r2, vQ r3, vQ r4, vR s0, vQ r2, none, none]) (st1 := [AR s0]) rfl ?_
  refine g_gQ rfl (ci := 16) (k := 0) rfl hq hp ?_
  refine G_fg (lw2_k _ (lw2_k _ (lw2_k _ (lw2_k _ (lw2_k _ (lw2_f _ (lw2_k _ (lw2_k _ (lw2_k _ lw2_nil))))))))) ?_
  refine g_cv rfl rfl (by decide) rfl rfl (Nat.le_of_ble_eq_true rfl) (as2 := []) rfl sal rfl hd (L0 := [vR al]) rfl ?_
  exact k
set_option maxRecDepth 8192 in
theorem h47 (hs : tS τ it = (1, 0, 0)) (hd : 1 ≤ d) (k : G (d - 1) 250 0 [vR it] [] τ (KC d 196 47 52 [vR r0, none, vQ r2, vQ r3, vQ r4, none, vQ r6, vR it, none] [] Q)) : G d 196 47 [vR r0, none, vQ r2, vQ r3, vQ r4, none, vQ r6, vR it, none] [AR it] τ Q := by
  refine g_cf rfl rfl (by decide) rfl rfl (Nat.le_of_ble_eq_true rfl) (as2 := []) rfl hs rfl hd (L0 := [vR it]) rfl ?_
  exact k
set_option maxRecDepth 8192 in
theorem h57 (hs : tS τ it = (1, 0, 0)) (hd : 1 ≤ d) (k : G (d - 1) 251 0 [vR it, none, none] [] τ (KC d 196 57 62 [vR r0, none, vQ r2, vQ r3, vQ r4, none, vQ r6, vR it, none] [] Q)) : G d 196 57 [vR r0, none, vQ r2, vQ r3, vQ r4, none, vQ r6, vR it, none] [AR it] τ Q := by
  refine g_cf rfl rfl (by decide) rfl rfl (Nat.le_of_ble_eq_true rfl) (as2 := []) rfl hs rfl hd (L0 := [vR it, none, none]) rfl ?_
  exact k
set_option maxRecDepth 8192 in
theorem h62 {s0 q6 : Nat} (hq : tS τ s0 = (1, 14, 0)) (h0 : tS τ r0 = (1, 21, 0)) (hd : 1 ≤ d) (k : G (d - 1) 195 0 [vR r0, vR s0, vR q6, none, none, none, none] [] τ (KC d 196 72 75 [vR r0, none, vQ r2, vQ r3, vQ r4, none, none, vQ r7, none] [] Q)) : G d 196 62 [vR r0, none, vQ r2, vQ r3, vQ r4, none, vR q6, vQ r7, none] [AR s0] τ Q := by
  refine g_cst rfl rfl (ci := 14) (by decide) hq ?_
  refine g_sx 4 (pc1 := 72) (L1 := [vR r0, none, vQ r2, vQ r3, vQ r4, none, vR q6, vQ r7, vR s0]) (st1 := [AR q6, AR s0, AR r0]) rfl ?_
  refine G_fg (lw2_k _ (lw2_k _ (lw2_k _ (lw2_k _ (lw2_k _ (lw2_k _ (lw2_f _ (lw2_k _ (lw2_f _ lw2_nil))))))))) ?_
  refine g_cv rfl rfl (by decide) rfl rfl (Nat.le_of_ble_eq_true rfl) (as2 := [AR s0, AR q6]) rfl h0 rfl hd (L0 := [vR r0, vR s0, vR q6, none, none, none, none]) rfl ?_
  exact k
end EIC
