/-! ONE INSTRUCTION: what is left, and all together -/
theorem ovr_8 : Cond.arrayOver (.array .long) ∈ lw_tbl := wAt_in (q := ovrP.getD 7 (0, 0)) (by have := congrArg (fun l => l.getD 7 none) ovr_all; simpa [ovrP] using this)
section GOB
variable {p : Program} {l : Launch} {e : Env} {R : Room} {s s0 : State} {m : MethodId} {args a0 : Array Value} {below : List Frame} {meth : Method} {c : Code} {H : Heap} {locs : List Loc} {cells slots : Nat} {Q : State → Prop}
variable {b : ByteArray} {pc mi : Nat} {ls : Array Slot} {rest : List Value} {E : EP} {L : LO} {st st1 : List AV} {σ σ1 : ST} {fr : FR}
theorem LC_at {ix : Nat} {v : AV} (h : LC mi ix = some v) : ∃ o, OWs[mi]? = some o ∧ lk ix (LCs.getD o []) = some v ∧ lcC o ix v = true := by
  obtain ⟨o, h1, h2⟩ := allT_at LC_all h
  refine ⟨o, h1, ?_, h2⟩
  have h' : LKo LCs mi ix = some v := h
  unfold LKo at h'
  rw [h1] at h'
  cases e2 : LCs[o]? with
  | none =>
    have h'' : (LCs[o]?).bind (lk ix) = some v := h'
    rw [e2] at h''; cases h''
  | some q =>
    have h'' : (LCs[o]?).bind (lk ix) = some v := h'
    rw [e2] at h''
    rw [List.getD_eq_getElem?_getD, e2]
    exact h''
theorem va_ldcSW (hexec : p.tables.exec = Jvm.exec) (hb : c.code = b) {own tx : String} {index q : Nat} (hown : s.vm.findClass own = some m.cls) (hZ : vk_R own index tx q s) (hdg : decode b pc = .ok (.ldc_w index, 3))
    (k : W p l e R s m args below meth c H locs cells slots Q (F0 m (pc + 3) ls (.ref q :: rest))) : W p l e R s m args below meth c H locs cells slots Q (F0 m pc ls rest) := by
  intro T hT X
  obtain ⟨t, a1, b1⟩ := k T hT X
  exact ⟨t, X.ldcStringW hexec hown (text := tx) (a := q) hZ.1 hZ.2 (g := F0 m pc ls rest) rfl (by rw [hb]; exact hdg) t a1, b1⟩
theorem go_ldc (C : CX l a0 s0 E mi p s m meth c) (hb : c.code = b) {ix len : Nat} {lg : Bool} (hd : (len = 2 ∧ lg = false ∧ decode b pc = .ok (.ldc ix, 2)) ∨ (len = 3 ∧ lg = false ∧ decode b pc = .ok (.ldc_w ix, 3)) ∨ (len = 3 ∧ lg = true ∧ decode b pc = .ok (.ldc2_w ix, 3))) (ho : ldk lg (LC mi ix) st = some st1) (hs : okS st)
    (kk : okS st1 → W p l e R s m args below meth c H locs cells slots Q (F0 m (pc + len) ls (st1.map (rel E)))) : W p l e R s m args below meth c H locs cells slots Q (F0 m pc ls (st.map (rel E))) := by
  cases hv : LC mi ix with
  | none => rw [hv] at ho; cases ho
  | some v =>
  rw [hv] at ho
  simp only [ldk] at ho
  split at ho
  · rename_i hlg
    cases ho
    obtain ⟨o, h1, h2, h3⟩ := LC_at hv
    unfold lcC at h3
    split at h3
    · rename_i q x hq
      simp only [Bool.and_eq_true, decide_eq_true_eq] at h3
      have kk := kk (okS_push (show okI x from h3.2) hs)
      rcases hd with ⟨rfl, rfl, hd⟩ | ⟨rfl, rfl, hd⟩ | ⟨rfl, rfl, hd⟩
      · exact lv_ldc (v := i3 x) C.2.1 hb (C.own h1) (C.word (wAt_in h3.1) rfl) hd kk
      · exact lv_ldcw (v := i3 x) C.2.1 hb (C.own h1) (C.word (wAt_in h3.1) rfl) hd kk
      · cases hlg
    · rename_i q x hq
      simp only [Bool.and_eq_true, decide_eq_true_eq] at h3
      have kk := kk (okS_push (show okJ x from h3.2) hs)
      rcases hd with ⟨rfl, rfl, hd⟩ | ⟨rfl, rfl, hd⟩ | ⟨rfl, rfl, hd⟩
      · cases hlg
      · cases hlg
      · exact lv_ldc2 (v := i6 x) C.2.1 hb (C.own h1) (C.word (wAt_in h3.1) rfl) hd kk
    · rename_i q a hq
      split at h3
      · rename_i tx htx
        have hR := C.1.2.2.2.2.2.2.2.1.1 o ix a tx h2 htx
        have hR2 := vk_R.warm C.2.2.1 hR
        have kk := kk (okS_push trivial hs)
        have ha : adr E a = eX E a := by
          unfold adr
          rw [if_pos]
          have hm := lk_mem htx
          have : ∀ q ∈ TXs, q.1 < 64 := by decide +kernel
          exact this _ hm
        have e9 : rel E (.inr (.inr (some a))) = .ref (eX E a) := by
          show Value.ref (adr E a) = _
          rw [ha]
        rw [List.map_cons, e9] at kk
        rcases hd with ⟨rfl, rfl, hd⟩ | ⟨rfl, rfl, hd⟩ | ⟨rfl, rfl, hd⟩
        · exact va_ldcS C.2.1 hb (C.own h1) hR2 hd kk
        · exact va_ldcSW C.2.1 hb (C.own h1) hR2 hd kk
        · cases hlg
      · cases h3
    · cases h3
  · cases ho
theorem go_gst (C : CX l a0 s0 E mi p s m meth c) (hb : c.code = b) {ix : Nat} {v : AV} (hd : decode b pc = .ok (.getstatic ix, 3)) (hv : SL mi ix = some v) (hH : HS E σ H) (hz : s.heap.size ≤ H.size) (hl : ∀ q ∈ locs, AE E q.base) (hs : okS st)
    (kk : okS (v :: st) → W p l e R s m args below meth c H locs cells slots Q (F0 m (pc + 3) ls ((v :: st).map (rel E)))) : W p l e R s m args below meth c H locs cells slots Q (F0 m pc ls (st.map (rel E))) := by
  obtain ⟨o, h1, h3⟩ := allT_at SL_all hv
  unfold slC at h3
  split at h3
  · simp only [Bool.and_eq_true, decide_eq_true_eq] at h3
    obtain ⟨rfl, hw⟩ := h3
    have kk := kk (okS_push trivial hs)
    have hZ := va_Z.moved C.2.2.1.alike (va_Z.kept C.1.2.2.2.2.2.2.1.1 (H1 := s.heap) (fun q _ h2 => by
      have hq : q < eN E := Nat.not_le.mp h2
      rw [C.2.2.2.1.2 q hq, C.1.2.2.2.1]))
    exact va_gets (A := AE E) C.2.1 hb hZ (C.S hH hz hl) (C.own h1) (C.word (wAt_in hw) rfl) (fun _ h => h) hd kk
  · cases h3
theorem CC_at {ix : Nat} {cis : List Nat} (h : CC mi ix = some cis) : ∃ o, OWs[mi]? = some o ∧ ((cis = [2000] ∧ Cond.classLink (oN o) ix "[I" ∈ lw_tbl) ∨ (cis = [2001] ∧ Cond.classLink (oN o) ix "[B" ∈ lw_tbl) ∨ ∃ ci r, cis = [ci] ∧ CLS[ci]? = some r ∧ ci < 99 ∧ Cond.classLink (oN o) ix r.1 ∈ lw_tbl) := by
  obtain ⟨o, h1, h2⟩ := allT_at CC_all h
  refine ⟨o, h1, ?_⟩
  unfold ccC at h2
  split at h2
  · exact Or.inl ⟨rfl, wAt_in (of_decide_eq_true h2)⟩
  · exact Or.inr (Or.inl ⟨rfl, wAt_in (of_decide_eq_true h2)⟩)
  · split at h2
    · rename_i r hr
      simp only [Bool.and_eq_true, decide_eq_true_eq] at h2
      exact Or.inr (Or.inr ⟨_, r, rfl, hr, h2.1, wAt_in h2.2⟩)
    · cases h2
  · cases h2
theorem go_cst (C : CX l a0 s0 E mi p s m meth c) (hb : c.code = b) {ix : Nat} (hd : decode b pc = .ok (.checkcast ix, 3)) (ho : kCat (CC mi ix) st σ = some st1) (hH : HS E σ H) (hs : okS st)
    (kk : okS st1 → W p l e R s m args below meth c H locs cells slots Q (F0 m (pc + 3) ls (st1.map (rel E)))) : W p l e R s m args below meth c H locs cells slots Q (F0 m pc ls (st.map (rel E))) := by
  cases hcc : CC mi ix with
  | none =>
    rw [hcc] at ho
    unfold kCat at ho
    split at ho
    · rename_i q; cases q
    · rename_i q; cases q
    · cases ho
  | some cis =>
    obtain ⟨o, h1, h2⟩ := CC_at hcc
    rw [hcc] at ho
    unfold kCat at ho
    split at ho
    · cases ho
      exact lv_castN C.2.1 hb hd (kk hs)
    · rename_i a r cis2 q
      cases q
      split at ho
      · rename_i ci fs hcell
        split at ho
        · rename_i hm
          cases ho
          rcases h2 with ⟨rfl, -⟩ | ⟨rfl, -⟩ | ⟨ci2, rr, rfl, hr, hlt, hw⟩
          · have e2 : ci = 2000 := List.mem_singleton.mp hm
            obtain ⟨-, -, k3⟩ := hH.obj hcell (by omega)
            rcases k3 with ⟨q1, -, -⟩ | ⟨q1, -⟩ <;> omega
          · have e2 : ci = 2001 := List.mem_singleton.mp hm
            obtain ⟨-, -, k3⟩ := hH.obj hcell (by omega)
            rcases k3 with ⟨q1, -, -⟩ | ⟨q1, -⟩ <;> omega
          · have e2 : ci = ci2 := List.mem_singleton.mp hm
            subst e2
            obtain ⟨-, -, k3⟩ := hH.obj hcell (by omega)
            rcases k3 with ⟨q1, -, -⟩ | ⟨-, -, -, q4⟩
            · omega
            · obtain ⟨r', hr', cellV, w1, w2, w3, -⟩ := q4
              have hcls := (C.KT.1 ci rr hr).2
              exact va_castS C.2.1 hb (C.own h1) (C.word hw rfl) hcls ⟨cellV, w1, by rw [w3]; rfl, by rw [w2]; exact hcls.1⟩ hd (kk hs)
        · cases ho
      · rename_i ty n f hcell
        split at ho
        · rename_i hm
          cases ho
          rcases h2 with ⟨rfl, hw⟩ | ⟨rfl, hw⟩ | ⟨ci2, rr, rfl, hr, hlt, hw⟩
          · have e2 : ty = 0 := by have := List.mem_singleton.mp hm; omega
            subst e2
            obtain ⟨-, -, k3, k4, k5, k6⟩ := hH.num hcell (by omega)
            have hP : va_P (eD E) CLS [(adr E a, .inl (eA E 0, n, .inl (fun j => i3 (f j))))] H := fun j q hj => by
              match j, hj with
              | 0, hj => cases hj; exact k6
              | j + 1, hj => simp at hj
            exact va_castA C.2.1 hb (C.own h1) (C.word hw rfl) hP 0 rfl (TYS_RA C.KT (ty := 0) (by omega)) hd (kk hs)
          · have e2 : ty = 1 := by have := List.mem_singleton.mp hm; omega
            subst e2
            obtain ⟨-, -, k3, k4, k5, k6⟩ := hH.num hcell (by omega)
            have hP : va_P (eD E) CLS [(adr E a, .inl (eA E 1, n, .inl (fun j => i3 (f j))))] H := fun j q hj => by
              match j, hj with
              | 0, hj => cases hj; exact k6
              | j + 1, hj => simp at hj
            exact va_castA C.2.1 hb (C.own h1) (C.word hw rfl) hP 0 rfl (TYS_RA C.KT (ty := 1) (by omega)) hd (kk hs)
          · have := List.mem_singleton.mp hm
            omega
        · cases ho
      · cases ho
    · cases ho
end GOB
