/-! ONE INSTRUCTION: stores into arrays -/
section GOS
variable {p : Program} {l : Launch} {e : Env} {R : Room} {s s0 : State} {m : MethodId} {args a0 : Array Value} {below : List Frame} {meth : Method} {c : Code} {H : Heap} {locs : List Loc} {cells slots : Nat} {Q : State → Prop}
variable {b : ByteArray} {pc mi : Nat} {ls : Array Slot} {rest : List Value} {E : EP} {L : LO} {st st1 : List AV} {σ σ1 : ST} {fr : FR}
theorem locs_put {a k : Nat} (hl : ∀ q ∈ locs, AE E q.base) (ha : 64 ≤ a) : ∀ q ∈ locs ++ [⟨adr E a, k⟩], AE E q.base := by
  intro q hq
  rcases List.mem_append.mp hq with h | h
  · exact hl q h
  · rw [List.mem_singleton.mp h]; exact adr_ge ha
/-- a number is stored -/
theorem go_num {a ty n j : Nat} {f : Nat → Int} {x : Int} {v : Value} {r : List AV} (hH : HS E σ H) (hz : s.heap.size ≤ H.size) (hl : ∀ q ∈ locs, AE E q.base) (hcell : σ.1 a = .inr (.inl (ty, n, f))) (h100 : ty ≠ 100) (hok : okn ty x) (hv : v = nv ty x) (hr : okS r)
    (kk : ∀ (H1 : Heap) (locs1 : List Loc), HS E (sU σ a (.inr (.inl (ty, n, aU f j x)))) H1 → s.heap.size ≤ H1.size → (∀ q ∈ locs1, AE E q.base) → okS r → W p l e R s m args below meth c H1 locs1 cells slots Q (F0 m (pc + 1) ls (r.map (rel E))))
    (H1 : Heap) (e1 : H1[adr E a]? = some ((arrV (eA E ty) n (fun j => nv ty (f j))).setSlot j v)) (e2 : H1.size = H.size) (e3 : ∀ q, q ≠ adr E a → H1[q]? = H[q]?) : W p l e R s m args below meth c H1 (locs ++ [⟨adr E a, j⟩]) cells slots Q (F0 m (pc + 1) ls (r.map (rel E))) := by
  obtain ⟨g1, g2, g3, g4, g5, g6⟩ := hH.num hcell h100
  refine kk H1 _ (hH.set g1 g2 e2 e3 ⟨g3, g4, fun k hk => ?_, ?_⟩) (by rw [e2]; exact hz) (locs_put hl g1) hr
  · unfold aU
    split
    · exact hok
    · exact g5 k hk
  · rw [e1, arrV_store, upd_nv hv]
theorem go_asI (C : CX l a0 s0 E mi p s m meth c) (hb : c.code = b) (hd : decode b pc = .ok (.iastore, 1)) (ho : asI (pc + 1) L st σ = some (.inl (fr, σ1))) (hH : HS E σ H) (hz : s.heap.size ≤ H.size) (hl : ∀ q ∈ locs, AE E q.base) (hs : okS st)
    (kk : ∀ (H1 : Heap) (locs1 : List Loc), σ1.2 = σ.2 → fr = (pc + 1, L, fr.2.2) → HS E σ1 H1 → s.heap.size ≤ H1.size → (∀ q ∈ locs1, AE E q.base) → okS fr.2.2 → W p l e R s m args below meth c H1 locs1 cells slots Q (F0 m (pc + 1) ls (fr.2.2.map (rel E)))) : W p l e R s m args below meth c H locs cells slots Q (F0 m pc ls (st.map (rel E))) := by
  unfold asI at ho
  split at ho
  · rename_i x i a r
    split at ho
    · rename_i ty n f hcell
      split at ho
      · rename_i hc
        obtain ⟨rfl, h0, h1⟩ := hc
        cases ho
        obtain ⟨ox, hs1⟩ := okS_cons hs
        obtain ⟨oi, hs2⟩ := okS_cons hs1
        have oi : okI i := oi
        obtain ⟨-, hs3⟩ := okS_cons hs2
        obtain ⟨g1, g2, g3, g4, g5, g6⟩ := hH.num hcell (by omega)
        refine W.iast (x := i3 x) C.2.1 hb g6 ((C.KT.2.1 0 (by omega)).1 _ _) (fun q => by cases q) (by rw [arrV_size]; exact i3_in oi h0 h1) rfl rfl hd fun H1 e1 e2 e3 => ?_
        rw [i3_clamp oi] at e1 ⊢
        exact go_num hH hz hl hcell (by omega) (show okn _ _ from ox) rfl hs3 (fun H1 locs1 a1 a2 a3 a4 => kk H1 locs1 rfl rfl a1 a2 a3 a4) H1 e1 e2 e3
      · cases ho
    · cases ho
  · cases ho
theorem go_asL (C : CX l a0 s0 E mi p s m meth c) (hb : c.code = b) (hd : decode b pc = .ok (.lastore, 1)) (ho : asL (pc + 1) L st σ = some (.inl (fr, σ1))) (hH : HS E σ H) (hz : s.heap.size ≤ H.size) (hl : ∀ q ∈ locs, AE E q.base) (hs : okS st)
    (kk : ∀ (H1 : Heap) (locs1 : List Loc), σ1.2 = σ.2 → fr = (pc + 1, L, fr.2.2) → HS E σ1 H1 → s.heap.size ≤ H1.size → (∀ q ∈ locs1, AE E q.base) → okS fr.2.2 → W p l e R s m args below meth c H1 locs1 cells slots Q (F0 m (pc + 1) ls (fr.2.2.map (rel E)))) : W p l e R s m args below meth c H locs cells slots Q (F0 m pc ls (st.map (rel E))) := by
  unfold asL at ho
  split at ho
  · rename_i x i a r
    split at ho
    · rename_i ty n f hcell
      split at ho
      · rename_i hc
        obtain ⟨rfl, h0, h1⟩ := hc
        cases ho
        obtain ⟨ox, hs1⟩ := okS_cons hs
        obtain ⟨oi, hs2⟩ := okS_cons hs1
        have oi : okI i := oi
        obtain ⟨-, hs3⟩ := okS_cons hs2
        obtain ⟨g1, g2, g3, g4, g5, g6⟩ := hH.num hcell (by omega)
        refine W.last (x := i6 x) C.2.1 hb g6 ((C.KT.2.1 3 (by omega)).1 _ _) (fun q => by cases q) (by rw [arrV_size]; exact i3_in oi h0 h1) rfl rfl hd fun H1 e1 e2 e3 => ?_
        rw [i3_clamp oi] at e1 ⊢
        exact go_num hH hz hl hcell (by omega) (show okn _ _ from ox) rfl hs3 (fun H1 locs1 a1 a2 a3 a4 => kk H1 locs1 rfl rfl a1 a2 a3 a4) H1 e1 e2 e3
      · cases ho
    · cases ho
  · cases ho
theorem go_asB (C : CX l a0 s0 E mi p s m meth c) (hb : c.code = b) (hd : decode b pc = .ok (.bastore, 1)) (ho : asB (pc + 1) L st σ = some (.inl (fr, σ1))) (hH : HS E σ H) (hz : s.heap.size ≤ H.size) (hl : ∀ q ∈ locs, AE E q.base) (hs : okS st)
    (kk : ∀ (H1 : Heap) (locs1 : List Loc), σ1.2 = σ.2 → fr = (pc + 1, L, fr.2.2) → HS E σ1 H1 → s.heap.size ≤ H1.size → (∀ q ∈ locs1, AE E q.base) → okS fr.2.2 → W p l e R s m args below meth c H1 locs1 cells slots Q (F0 m (pc + 1) ls (fr.2.2.map (rel E)))) : W p l e R s m args below meth c H locs cells slots Q (F0 m pc ls (st.map (rel E))) := by
  unfold asB at ho
  split at ho
  · rename_i x i a r
    split at ho
    · rename_i ty n f hcell
      split at ho
      · rename_i hc
        obtain ⟨ht, h0, h1⟩ := hc
        cases ho
        obtain ⟨ox, hs1⟩ := okS_cons hs
        obtain ⟨oi, hs2⟩ := okS_cons hs1
        have oi : okI i := oi
        obtain ⟨-, hs3⟩ := okS_cons hs2
        obtain ⟨g1, g2, g3, g4, g5, g6⟩ := hH.num hcell (by omega)
        rcases ht with rfl | ⟨rfl, hx⟩
        · refine W.bast (x := i3 x) C.2.1 hb g6 ((C.KT.2.1 1 (by omega)).1 _ _) (fun q => by cases q) (by rw [arrV_size]; exact i3_in oi h0 h1) rfl rfl hd fun H1 e1 e2 e3 => ?_
          rw [i3_clamp oi] at e1 ⊢
          refine go_num (x := zbyt x) hH hz hl hcell (by omega) (by simpa [okn] using zbyt_in x) ?_ hs3 (fun H1 locs1 a1 a2 a3 a4 => kk H1 locs1 rfl rfl a1 a2 a3 a4) H1 e1 e2 e3
          show Value.int (i3 x).toInt8.toInt32 = .int (i3 (zbyt x))
          unfold zbyt
          rw [i3_of]
        · refine W.zast (x := i3 x) C.2.1 hb g6 ((C.KT.2.1 2 (by omega)).1 _ _) (fun q => by cases q) (by rw [arrV_size]; exact i3_in oi h0 h1) rfl rfl hd fun H1 e1 e2 e3 => ?_
          rw [i3_clamp oi] at e1 ⊢
          refine go_num (x := x) hH hz hl hcell (by omega) (by simpa [okn] using hx) ?_ hs3 (fun H1 locs1 a1 a2 a3 a4 => kk H1 locs1 rfl rfl a1 a2 a3 a4) H1 e1 e2 e3
          rcases hx with rfl | rfl
          · show narrow .boolean (.int (i3 0)) = .int (i3 0)
            decide
          · show narrow .boolean (.int (i3 1)) = .int (i3 1)
            decide
      · cases ho
    · cases ho
  · cases ho
theorem upd_rf {j : Nat} {x : Option Nat} {f : Nat → Option Nat} : updV (fun j => va_rf (rf E (f j))) j (va_rf (rf E x)) = fun q => va_rf (rf E (aU f j x q)) := by
  funext q
  unfold updV aU
  split <;> rfl
/-- a reference is stored -/
theorem go_rfs {a ty n j : Nat} {f : Nat → Option Nat} {x : Option Nat} {r : List AV} (hH : HS E σ H) (hz : s.heap.size ≤ H.size) (hl : ∀ q ∈ locs, AE E q.base) (hcell : σ.1 a = .inr (.inr (ty, n, f))) (h100 : ty ≠ 101) (hr : okS r)
    (kk : ∀ (H1 : Heap) (locs1 : List Loc), HS E (sU σ a (.inr (.inr (ty, n, aU f j x)))) H1 → s.heap.size ≤ H1.size → (∀ q ∈ locs1, AE E q.base) → okS r → W p l e R s m args below meth c H1 locs1 cells slots Q (F0 m (pc + 1) ls (r.map (rel E))))
    (H1 : Heap) (e1 : H1[adr E a]? = some ((arrV (eA E ty) n (fun j => va_rf (rf E (f j)))).setSlot j (va_rf (rf E x)))) (e2 : H1.size = H.size) (e3 : ∀ q, q ≠ adr E a → H1[q]? = H[q]?) : W p l e R s m args below meth c H1 (locs ++ [⟨adr E a, j⟩]) cells slots Q (F0 m (pc + 1) ls (r.map (rel E))) := by
  obtain ⟨g1, g2, g3, g4, g5⟩ := hH.rfs hcell h100
  refine kk H1 _ (hH.set g1 g2 e2 e3 ⟨g3, g4, ?_⟩) (by rw [e2]; exact hz) (locs_put hl g1) hr
  rw [e1, arrV_store, upd_rf]
theorem TYS_obj {ty : Nat} (h1 : 4 ≤ ty) (h2 : ty < 11) : TYS ty = .object (atN ty) := by
  have h : ty = 4 ∨ ty = 5 ∨ ty = 6 ∨ ty = 7 ∨ ty = 8 ∨ ty = 9 ∨ ty = 10 := by omega
  rcases h with rfl | rfl | rfl | rfl | rfl | rfl | rfl <;> rfl
/-- which classes' things may stand in an array -/
theorem okE_obj {ty ci : Nat} {fs : List AV} (h : okE ty (.inl (ci, fs)) = true) : (∃ r, CLS[ci]? = some r ∧ 4 ≤ ty ∧ ty < 11 ∧ (r.1 = atN ty ∨ (ty = 10 ∧ Cond.castable r.1 "java/lang/Object" ∈ lw_tbl))) ∧ ci < 99 := by
  have e1 : Cond.castable "HuntHouseModel$Part" "java/lang/Object" ∈ lw_tbl := wAt_in (q := cstP.getD 0 (0, 0)) (by have := congrArg (fun l => l.getD 0 none) cst_all; simpa [cstP] using this)
  have e2 : Cond.castable "HuntHouseModel$Row" "java/lang/Object" ∈ lw_tbl := wAt_in (q := cstP.getD 1 (0, 0)) (by have := congrArg (fun l => l.getD 1 none) cst_all; simpa [cstP] using this)
  unfold okE at h
  simp only [Bool.or_eq_true, Bool.and_eq_true, beq_iff_eq] at h
  rcases h with (((((⟨rfl, rfl⟩ | ⟨rfl, rfl⟩) | ⟨rfl, rfl⟩) | ⟨rfl, rfl⟩) | ⟨rfl, rfl⟩) | ⟨rfl, rfl⟩) | ⟨rfl, rfl | rfl⟩
  · exact ⟨⟨_, rfl, by omega, by omega, Or.inl rfl⟩, by omega⟩
  · exact ⟨⟨_, rfl, by omega, by omega, Or.inl rfl⟩, by omega⟩
  · exact ⟨⟨_, rfl, by omega, by omega, Or.inl rfl⟩, by omega⟩
  · exact ⟨⟨_, rfl, by omega, by omega, Or.inl rfl⟩, by omega⟩
  · exact ⟨⟨_, rfl, by omega, by omega, Or.inl rfl⟩, by omega⟩
  · exact ⟨⟨_, rfl, by omega, by omega, Or.inl rfl⟩, by omega⟩
  · exact ⟨⟨_, rfl, by omega, by omega, Or.inr ⟨rfl, e1⟩⟩, by omega⟩
  · exact ⟨⟨_, rfl, by omega, by omega, Or.inr ⟨rfl, e2⟩⟩, by omega⟩
theorem go_asA (C : CX l a0 s0 E mi p s m meth c) (hb : c.code = b) (hd : decode b pc = .ok (.aastore, 1)) (ho : asA (pc + 1) L st σ = some (.inl (fr, σ1))) (hH : HS E σ H) (hz : s.heap.size ≤ H.size) (hl : ∀ q ∈ locs, AE E q.base) (hs : okS st)
    (kk : ∀ (H1 : Heap) (locs1 : List Loc), σ1.2 = σ.2 → fr = (pc + 1, L, fr.2.2) → HS E σ1 H1 → s.heap.size ≤ H1.size → (∀ q ∈ locs1, AE E q.base) → okS fr.2.2 → W p l e R s m args below meth c H1 locs1 cells slots Q (F0 m (pc + 1) ls (fr.2.2.map (rel E)))) : W p l e R s m args below meth c H locs cells slots Q (F0 m pc ls (st.map (rel E))) := by
  unfold asA at ho
  split at ho
  · rename_i v i a r
    split at ho
    · rename_i ty n f hcell
      split at ho
      · rename_i hc
        obtain ⟨ht, h0, h1, hv⟩ := hc
        cases ho
        obtain ⟨-, hs1⟩ := okS_cons hs
        obtain ⟨oi, hs2⟩ := okS_cons hs1
        have oi : okI i := oi
        obtain ⟨-, hs3⟩ := okS_cons hs2
        obtain ⟨g1, g2, g3, g4, g5⟩ := hH.rfs hcell (by omega)
        have hin : ¬ (i3 i < 0 ∨ (arrV (eA E ty) n (fun j => va_rf (rf E (f j)))).slots.size ≤ (i3 i).toNatClampNeg) := by rw [arrV_size]; exact i3_in oi h0 h1
        have hin2 : ¬ i3 i < 0 ∧ (i3 i).toNatClampNeg < (arrV (eA E ty) n (fun j => va_rf (rf E (f j)))).slots.size := ⟨fun q => hin (Or.inl q), Nat.not_le.mp fun q => hin (Or.inr q)⟩
        have fin : ∀ H1 : Heap, H1[adr E a]? = some ((arrV (eA E ty) n (fun j => va_rf (rf E (f j)))).setSlot i.toNat (va_rf (rf E v))) → H1.size = H.size → (∀ q, q ≠ adr E a → H1[q]? = H[q]?) → W p l e R s m args below meth c H1 (locs ++ [⟨adr E a, i.toNat⟩]) cells slots Q (F0 m (pc + 1) ls (r.map (rel E))) := go_rfs hH hz hl hcell (by omega) hs3 (fun H1 locs1 a1 a2 a3 a4 => kk H1 locs1 rfl rfl a1 a2 a3 a4)
        cases v with
        | none =>
          have h11 : ty < 11 := Nat.lt_of_lt_of_le (Nat.le_of_ble_eq_true hv) (Nat.le_refl _)
          have hA := (C.KT.2.1 ty (by omega)).1 n (fun j => va_rf (rf E (f j)))
          rw [TYS_obj g3.1 h11] at hA
          refine va_WaastN (C := atN ty) C.2.1 hb g5 hA (fun q => by cases q) hin rfl rfl hd fun H1 e1 e2 e3 => ?_
          rw [i3_clamp oi] at e1 ⊢
          exact fin H1 e1 e2 e3
        | some x =>
          have hv : okE ty (σ.1 x) = true := hv
          cases hx : σ.1 x with
          | inl o =>
            obtain ⟨ci, fs⟩ := o
            rw [hx] at hv
            obtain ⟨⟨rr, hr, t1, t2, hty⟩, hci⟩ := okE_obj hv
            obtain ⟨-, -, k3⟩ := hH.obj hx (by omega)
            rcases k3 with ⟨q1, -, -⟩ | ⟨-, -, -, q4⟩
            · omega
            · obtain ⟨r', hr', cellV, w1, w2, w3, -⟩ := q4
              have hcls := (C.KT.1 ci rr hr).2
              have hRA := (C.KT.2.1 ty (by omega)).2
              rw [TYS_obj t1 t2] at hRA
              obtain ⟨kA, comp, k1, k2, k3, -⟩ := hRA
              obtain ⟨kE, hkE, -⟩ := Vm.findClass_spec k3
              obtain ⟨kC, hkC, -⟩ := hcls.2
              have hasg : s.vm.assignable cellV.cls comp = true := by
                rw [w2]
                rcases hty with hty | ⟨rfl, hca⟩
                · rw [← hty] at k3
                  rw [Option.some.inj (hcls.1.symm.trans k3)]
                  exact va_asg _ _
                · have hN := va_Nw.warmC C.2.2.1 (va_Nw.of rfl (C.1.1 _ hca))
                  obtain ⟨c0, t1, f1, f2, f3⟩ := Cond.castable_spec (va_Nw.use (A := args) rfl hN)
                  cases hcls.1.symm.trans f1
                  cases k3.symm.trans f2
                  exact f3
              refine W.aast C.2.1 hb g5 (fun q h => by cases h) (fun h => by cases h) k1 k2 rfl hkE hin2 w1 (fun q h => by rw [w3] at h; cases h) (by rw [w2]; exact hkC) hasg rfl rfl hd fun H1 e1 e2 e3 => ?_
              rw [i3_clamp oi] at e1 ⊢
              exact fin H1 e1 e2 e3
          | inr o =>
            cases o with
            | inr o => rw [hx] at hv; cases hv
            | inl o =>
              obtain ⟨t, n2, f2⟩ := o
              rw [hx] at hv
              unfold okE at hv
              simp only [Bool.and_eq_true, beq_iff_eq] at hv
              obtain ⟨rfl, rfl⟩ := hv
              obtain ⟨-, -, k3, k4, k5, k6⟩ := hH.num hx (by omega)
              obtain ⟨kA, k7, k8⟩ := C.KT.2.2.1
              obtain ⟨-, kI, hkI, compI, hkindI⟩ := (C.KT.2.1 3 (by omega)).1 n2 (fun j => nv 3 (f2 j))
              refine W.aast C.2.1 hb g5 (fun q h => by cases h) (fun h => by cases h) k7 k8 rfl hkI hin2 k6 (fun q h => by cases h) hkI (va_asg _ _) rfl rfl hd fun H1 e1 e2 e3 => ?_
              rw [i3_clamp oi] at e1 ⊢
              exact fin H1 e1 e2 e3
      · cases ho
    · cases ho
  · cases ho
end GOS
