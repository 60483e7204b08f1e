/-! ONE INSTRUCTION: rows of longs; all together -/
theorem nwr_cnt (σ : ST) (k : Nat) : ∀ n, (nwr σ k n).2.1 = σ.2.1 + n ∧ (nwr σ k n).2.2 = σ.2.2 + n * k
  | 0 => ⟨rfl, by show σ.2.2 = σ.2.2 + 0 * k; omega⟩
  | n + 1 => by
    obtain ⟨h1, h2⟩ := nwr_cnt σ k n
    refine ⟨?_, ?_⟩
    · show (nwr σ k n).2.1 + 1 = _
      omega
    · show (nwr σ k n).2.2 + k = _
      rw [h2, Nat.add_mul]
      omega
theorem nwr_at (σ : ST) (k : Nat) : ∀ n b, (nwr σ k n).1 b = if σ.2.1 ≤ b ∧ b < σ.2.1 + n then .inr (.inl (3, k, fun _ => 0)) else σ.1 b
  | 0, b => by
    rw [if_neg (by omega)]
    rfl
  | n + 1, b => by
    show (if b = (nwr σ k n).2.1 then _ else (nwr σ k n).1 b) = _
    rw [(nwr_cnt σ k n).1, nwr_at σ k n b]
    by_cases e : b = σ.2.1 + n
    · rw [if_pos e, if_pos (by omega)]
    · rw [if_neg e]
      by_cases h : σ.2.1 ≤ b ∧ b < σ.2.1 + n
      · rw [if_pos h, if_pos (by omega)]
      · rw [if_neg h, if_neg (by omega)]
theorem HS.rows {E : EP} {σ : ST} {H H1 : Heap} (h : HS E σ H) {k n : Nat} (hk : k ≤ 1000000) (hz : H1.size = H.size + n) (ho : ∀ q, q < H.size → H1[q]? = H[q]?) (hc : ∀ j, j < n → H1[H.size + j]? = some (arrV (eA E 3) k (fun _ => nv 3 0))) : HS E (nwr σ k n) H1 := by
  have hA := h.nxt
  obtain ⟨k1, k2, k3, k4, k5, k6, k7, k8⟩ := h
  obtain ⟨c1, c2⟩ := nwr_cnt σ k n
  refine ⟨by omega, by rw [c1]; omega, fun q hq => (ho q (by omega)).trans (k3 q hq), fun b hb hb2 => ?_, fun b hb => ?_, fun b hb hb2 => ?_, ?_, ?_⟩
  · rw [nwr_at]
    rw [c1] at hb2
    by_cases e : σ.2.1 ≤ b ∧ b < σ.2.1 + n
    · rw [if_pos e]
      refine ⟨by omega, hk, fun j _ => okn_0 3, ?_⟩
      have ea : adr E b = H.size + (b - σ.2.1) := by
        rw [← hA, adr_hi hb, adr_hi k1]
        omega
      rw [ea]
      exact hc _ (by omega)
    · rw [if_neg e]
      have h4 := k4 b hb (by omega)
      exact h4.kept (ho _ h4.lt)
  · rw [nwr_at, if_neg (by omega)]
    exact k5 b (by omega)
  · rw [nwr_at, if_neg (by omega)]
    exact k6 b hb hb2
  · rw [nwr_at, if_neg (by omega)]
    exact k7
  · rw [nwr_at, if_neg (by omega)]
    exact k8
section GOC
variable {p : Program} {l : Launch} {e : Env} {R : Room} {s s0 : State} {m : MethodId} {args a0 : Array Value} {below : List Frame} {meth : Method} {c : Code} {H : Heap} {locs : List Loc} {cells slots : Nat} {Q : State → Prop}
variable {b : ByteArray} {pc mi : Nat} {ls : Array Slot} {rest : List Value} {E : EP} {L : LO} {st st1 : List AV} {σ σ1 : ST} {fr : FR}
theorem go_nwm (C : CX l a0 s0 E mi p s m meth c) (hb : c.code = b) (hmi : mi = MNAm) (hd : decode b pc = .ok (.multianewarray MNAi 2, 4)) (ho : nwm (pc + 4) L st σ = some (.inl (fr, σ1))) (hH : HS E σ H) (hz : s.heap.size ≤ H.size) (hs : okS st)
    (hcr : cells + (σ1.2.1 - σ.2.1) ≤ R.cells) (hsr : slots + (σ1.2.2 - σ.2.2) ≤ R.slots)
    (kk : ∀ H1 : Heap, fr = (pc + 4, L, fr.2.2) → HS E σ1 H1 → s.heap.size ≤ H1.size → okS fr.2.2 → W p l e R s m args below meth c H1 locs (cells + (σ1.2.1 - σ.2.1)) (slots + (σ1.2.2 - σ.2.2)) Q (F0 m (pc + 4) ls (fr.2.2.map (rel E)))) : W p l e R s m args below meth c H locs cells slots Q (F0 m pc ls (st.map (rel E))) := by
  unfold nwm at ho
  split at ho
  · rename_i k n r
    split at ho
    · rename_i hn
      obtain ⟨n0, n1, k0, k1⟩ := hn
      cases ho
      obtain ⟨ok, hs1⟩ := okS_cons hs
      have ok : okI k := ok
      obtain ⟨on, hs2⟩ := okS_cons hs1
      have on : okI n := on
      subst hmi
      generalize hσ1 : sN σ (.inr (.inr (11, n.toNat, fun j => if j < n.toNat then some (σ.2.1 + 1 + j) else none))) n.toNat = σ2 at hcr hsr kk
      have c1 : σ2.2.1 = σ.2.1 + 1 := by rw [← hσ1]; rfl
      have c2 : σ2.2.2 = σ.2.2 + n.toNat := by rw [← hσ1]; rfl
      obtain ⟨d1, d2⟩ := nwr_cnt σ2 k.toNat n.toNat
      have ec : (nwr σ2 k.toNat n.toNat).2.1 - σ.2.1 = 1 + n.toNat := by omega
      have es : (nwr σ2 k.toNat n.toNat).2.2 - σ.2.2 = n.toNat + n.toNat * k.toNat := by omega
      rw [ec] at hcr kk
      rw [es] at hsr kk
      have hov : (Cond.arrayOver (.array .long)).before args s = true := Stand.arrayOver_alikeB C.2.2.1.alike (C.1.1 _ ovr_8)
      have hcl : (Cond.classLink (oN (OWs.getD MNAm 0)) MNAi ("[" ++ (FieldType.array .long).toString)).before args s = true := C.word (wAt_in mna_all.2) rfl
      have hac : (Cond.arrayClass .long).before args s = true := C.word (acs_at (ty := 3) (by omega)) rfl
      have en := i3_clamp on
      have ek := i3_clamp ok
      have hA : adr E σ.2.1 = H.size := hH.nxt
      intro T hT X
      obtain ⟨vm₁, cA, comp, -, fA, fC, hO, -, X', step⟩ := X.multianewarray2F C.2.1 (C.own mna_all.1) hcl hov hac (g := F0 m pc ls (.int (i3 k) :: .int (i3 n) :: r.map (rel E))) rfl (by rw [hb]; exact hd) rfl (i3_nn on n0) (i3_nn ok k0) (by rw [en]; omega) (by rw [ek]; show k.toNat * 8 ≤ _; omega) (by rw [ek]; omega) rfl rfl (by rw [en]; exact hcr) (by rw [en, ek]; exact hsr)
      rw [en, ek] at X' step
      have ec1 : comp = eA E 3 := Option.some.inj (fC.symm.trans (TYS_RA C.KT (ty := 3) (by omega)))
      have ec2 : cA = eA E 11 := Option.some.inj (fA.symm.trans (C.KT.2.1 11 (by omega)).2)
      subst ec1
      subst ec2
      generalize hF : Jvm.Free.Multi.fill (T.setVm vm₁) (eA E 11) (eA E 3) n.toNat k.toNat (defaultValue .long) n.toNat = F at X' step
      have hTh : (T.setVm vm₁).heap = H := hT
      obtain ⟨f1, f2, -, -⟩ := Jvm.Free.Multi.fill_facts (T.setVm vm₁) (eA E 11) (eA E 3) n.toNat k.toNat (defaultValue .long) n.toNat
      rw [hF, hTh] at f1 f2
      have hold : ∀ x : Nat, x < H.size → F.heap[x]? = H[x]? := fun x hx => by
        have := Jvm.Free.Multi.fill_old (T.setVm vm₁) (eA E 11) (eA E 3) n.toNat k.toNat (defaultValue .long) (a := x) (by rw [hTh]; exact hx) n.toNat
        rw [hF, hTh] at this
        exact this
      have hrow : ∀ j : Nat, j < n.toNat → F.heap[H.size + 1 + j]? = some (arrV (eA E 3) k.toNat (fun _ => nv 3 0)) := fun j hj => by
        have := Jvm.Free.Multi.fill_inner (T.setVm vm₁) (eA E 11) (eA E 3) n.toNat k.toNat (defaultValue .long) n.toNat j hj
        rw [hF, hTh] at this
        rw [this]
        exact congrArg some (arrV_new _ _ _)
      rw [vr_outer] at f2
      have f1' : F.heap.size = H.size + 1 + n.toNat := f1
      obtain ⟨H2, hH2, hz2, hold2⟩ : ∃ H2 : Heap, HS E σ2 H2 ∧ H2.size = H.size + 1 ∧ ∀ q, q < H.size + 1 → H2[q]? = F.heap[q]? := by
        refine ⟨F.heap.extract 0 (H.size + 1), ?_, ?_, ?_⟩
        · rw [← hσ1]
          refine hH.new (by simp; omega) (fun q hq => ?_) ⟨⟨by omega, by omega⟩, by omega, ?_⟩
          · rw [Array.getElem?_extract, if_pos (by omega), Nat.zero_add]
            exact hold q hq
          · rw [hA, Array.getElem?_extract, if_pos (by omega), Nat.zero_add, f2]
            refine congrArg some (congrArg (arrV (eA E 11) n.toNat) (funext fun j => ?_))
            show va_rf (if j < n.toNat then some (H.size + 1 + j) else none) = va_rf (rf E (if j < n.toNat then some (σ.2.1 + 1 + j) else none))
            by_cases hj : j < n.toNat
            · rw [if_pos hj, if_pos hj]
              show va_rf _ = va_rf (some (adr E (σ.2.1 + 1 + j)))
              rw [adr_hi (by have := hH.1; omega), ← hA, adr_hi hH.1]
              congr 2
              have := hH.1
              omega
            · rw [if_neg hj, if_neg hj]
              rfl
        · simp; omega
        · intro q hq
          rw [Array.getElem?_extract, if_pos (by omega), Nat.zero_add]
      have hfin : HS E (nwr σ2 k.toNat n.toNat) F.heap := hH2.rows (by omega) (by rw [hz2]; omega) (fun q hq => (hold2 q (by omega)).symm) (fun j hj => by rw [hz2]; exact hrow j hj)
      obtain ⟨t, a1, b1⟩ := kk F.heap rfl hfin (by omega) (okS_push trivial hs2) F rfl (by rw [show cells + (1 + n.toNat) = cells + 1 + n.toNat by omega, show slots + (n.toNat + n.toNat * k.toNat) = slots + n.toNat + n.toNat * k.toNat by omega]; exact X')
      refine ⟨t, step t ?_, b1⟩
      have e9 : T.heap.size = H.size := by rw [hT]
      rw [e9, ← hA]
      exact a1
    · cases ho
  · cases ho
end GOC
