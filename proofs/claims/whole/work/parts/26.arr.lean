/-! ONE INSTRUCTION: arrays of numbers; loads of references -/
theorem HS.scr {E : EP} {σ : ST} {H : Heap} (h : HS E σ H) {a n : Nat} {f : Nat → Int} (ha : σ.1 a = .inr (.inl (100, n, f))) : a = 0 ∧ n = eL E ∧ f = eS E := by
  by_cases h0 : a = 0
  · subst h0
    rw [h.2.2.2.2.2.2.1] at ha
    cases ha
    exact ⟨rfl, rfl, rfl⟩
  · by_cases h1 : a = 1
    · rw [h1, h.2.2.2.2.2.2.2] at ha; cases ha
    · have := (h.at (a := a) (by rw [ha]; intro e; cases e) h0 h1).2.2
      rw [ha] at this
      exact absurd this.1 (by omega)
theorem HS.dcp {E : EP} {σ : ST} {H : Heap} (h : HS E σ H) {a n : Nat} {f : Nat → Option Nat} (ha : σ.1 a = .inr (.inr (101, n, f))) : a = 1 ∧ n = 0 := by
  by_cases h1 : a = 1
  · subst h1
    rw [h.2.2.2.2.2.2.2] at ha
    cases ha
    exact ⟨rfl, rfl⟩
  · by_cases h0 : a = 0
    · rw [h0, h.2.2.2.2.2.2.1] at ha; cases ha
    · have := (h.at (a := a) (by rw [ha]; intro e; cases e) h0 h1).2.2
      rw [ha] at this
      exact absurd this.1.2 (by omega)
theorem i3_natCast (n : Nat) : Int32.ofNat n = i3 (n : Int) := rfl
theorem upd_nv {ty j : Nat} {x : Int} {f : Nat → Int} {v : Value} (hv : v = nv ty x) : updV (fun j => nv ty (f j)) j v = fun q => nv ty (aU f j x q) := by
  funext q
  unfold updV aU
  split <;> simp_all
section GOA
variable {p : Program} {l : Launch} {e : Env} {R : Room} {s s0 : State} {m : MethodId} {args a0 : Array Value} {below : List Frame} {meth : Method} {c : Code} {H : Heap} {locs : List Loc} {cells slots : Nat} {Q : State → Prop}
variable {b : ByteArray} {pc mi : Nat} {ls : Array Slot} {rest : List Value} {E : EP} {L : LO} {st st1 : List AV} {σ : ST}
theorem CX.S0 (C : CX l a0 s0 E mi p s m meth c) (hH : HS E σ H) (hl : ∀ q ∈ locs, AE E q.base) : va_S (AE E) s0.heap H locs := by
  refine ⟨?_, fun q h1 _ => ?_, hl⟩
  · rw [← C.1.2.2.1, hH.2.1]; omega
  · rw [hH.2.2.1 q (by rw [C.1.2.2.1]; exact h1), C.1.2.2.2.1]
theorem go_al (C : CX l a0 s0 E mi p s m meth c) (hb : c.code = b) (hd : decode b pc = .ok (.arraylength, 1)) (ho : al st σ = some st1) (hH : HS E σ H) (hz : s.heap.size ≤ H.size) (hl : ∀ q ∈ locs, AE E q.base) (hs : okS st)
    (kk : okS st1 → W p l e R s m args below meth c H locs cells slots Q (F0 m (pc + 1) ls (st1.map (rel E)))) : W p l e R s m args below meth c H locs cells slots Q (F0 m pc ls (st.map (rel E))) := by
  unfold al at ho
  split at ho
  · rename_i a r
    split at ho
    · rename_i ty n f hcell
      cases ho
      by_cases ht : ty = 100
      · subst ht
        obtain ⟨rfl, rfl, rfl⟩ := hH.scr hcell
        obtain ⟨g1, g2, g3, g4⟩ := C.1.2.2.2.2.2.1
        refine va_slen (A := AE E) (H0 := s0.heap) C.2.1 hb (va_X.moved C.2.2.1.alike g1) (by rw [← C.1.2.2.1]; exact g2) (Nat.not_le.mpr g2) (C.S0 hH hl) hd ?_
        exact kk (okS_push (show okI _ by unfold okI; omega) (okS_cons hs).2)
      · obtain ⟨g1, g2, g3, g4, g5, g6⟩ := hH.num hcell ht
        refine W.alen (n := i3 n) C.2.1 hb g6 ((C.KT.2.1 ty (by omega)).1 _ _) (by rw [arrV_size]; rfl) rfl rfl hd ?_
        exact kk (okS_push (show okI _ by unfold okI; omega) (okS_cons hs).2)
    · rename_i ty n f hcell
      cases ho
      by_cases ht : ty = 101
      · subst ht
        obtain ⟨rfl, rfl⟩ := hH.dcp hcell
        obtain ⟨g1, g2, g3⟩ := C.1.2.2.2.2.2.2.1
        have hk : va_T (.object "java/lang/Object") (eX E 1) 0 (fun _ => .null) (AE E) s s.heap := va_T.moved C.2.2.1.alike (va_T.kept g2 (fun q h1 h2 => by
          have hq : q < eN E := Nat.not_le.mp h2
          rw [C.2.2.2.1.2 q hq, C.1.2.2.2.1]))
        refine va_tlen (A := AE E) C.2.1 hb hk (C.S hH hz hl) (v := i3 0) rfl hd ?_
        exact kk (okS_push okI_0 (okS_cons hs).2)
      · obtain ⟨g1, g2, g3, g4, g5⟩ := hH.rfs hcell ht
        refine W.alen (n := i3 n) C.2.1 hb g5 ((C.KT.2.1 ty (by omega)).1 _ _) (by rw [arrV_size]; rfl) rfl rfl hd ?_
        exact kk (okS_push (show okI _ by unfold okI; omega) (okS_cons hs).2)
    · cases ho
  · cases ho
theorem go_ald (C : CX l a0 s0 E mi p s m meth c) (hb : c.code = b) {tys : List Nat} (hd : (tys = [0, 100] ∧ decode b pc = .ok (.iaload, 1)) ∨ (tys = [1, 2] ∧ decode b pc = .ok (.baload, 1))) (ho : ald tys st σ = some st1) (hH : HS E σ H) (hl : ∀ q ∈ locs, AE E q.base) (hs : okS st)
    (kk : okS st1 → W p l e R s m args below meth c H locs cells slots Q (F0 m (pc + 1) ls (st1.map (rel E)))) : W p l e R s m args below meth c H locs cells slots Q (F0 m pc ls (st.map (rel E))) := by
  unfold ald at ho
  split at ho
  · rename_i i a r
    split at ho
    · rename_i ty n f hcell
      split at ho
      · rename_i hc
        obtain ⟨ht, h0, h1⟩ := hc
        cases ho
        obtain ⟨oi, hs⟩ := okS_cons hs
        have oi : okI i := oi
        have hs2 := (okS_cons hs).2
        by_cases ht2 : ty = 100
        · subst ht2
          obtain ⟨rfl, rfl, rfl⟩ := hH.scr hcell
          obtain ⟨g1, g2, g3, g4⟩ := C.1.2.2.2.2.2.1
          have hd : decode b pc = .ok (.iaload, 1) := by
            rcases hd with h | h
            · exact h.2
            · rw [h.1] at ht; simp at ht
          refine va_sld (A := AE E) (H0 := s0.heap) (xs := fun j => i3 (eS E j)) C.2.1 hb (va_X.moved C.2.2.1.alike g1) (by rw [← C.1.2.2.1]; exact g2) (Nat.not_le.mpr g2) (C.S0 hH hl) (i3_in oi h0 h1) hd ?_
          have := kk (okS_push (show okI _ from g4 _) hs2)
          rw [i3_clamp oi]
          exact this
        · obtain ⟨g1, g2, g3, g4, g5, g6⟩ := hH.num hcell ht2
          have hlt : i.toNat < n := by omega
          have hin : ¬ (i3 i < 0 ∨ (arrV (eA E ty) n (fun j => nv ty (f j))).slots.size ≤ (i3 i).toNatClampNeg) := by
            rw [arrV_size]; exact i3_in oi h0 h1
          have hrd : (arrV (eA E ty) n (fun j => nv ty (f j))).slots[(i3 i).toNatClampNeg]? = some (nv ty (f i.toNat)) := by
            rw [i3_clamp oi, arrV_read _ _ hlt]
          have hok := g5 _ hlt
          rcases hd with ⟨rfl, hd⟩ | ⟨rfl, hd⟩
          · have e0 : ty = 0 := by simp at ht; omega
            subst e0
            refine W.iald (v := .int (i3 (f i.toNat))) C.2.1 hb g6 ((C.KT.2.1 0 (by omega)).1 _ _) (fun q => by cases q) hin hrd rfl rfl hd ?_
            exact kk (okS_push (show okI _ by simpa [okn] using hok) hs2)
          · have e0 : ty = 1 ∨ ty = 2 := by simpa using ht
            rcases e0 with rfl | rfl
            · refine W.bald (v := .int (i3 (f i.toNat))) C.2.1 hb g6 ((C.KT.2.1 1 (by omega)).1 _ _) (fun q => by cases q) hin hrd rfl rfl hd ?_
              exact kk (okS_push (show okI _ by simp [okn] at hok; unfold okI; omega) hs2)
            · refine W.zald (v := .int (i3 (f i.toNat))) C.2.1 hb g6 ((C.KT.2.1 2 (by omega)).1 _ _) (fun q => by cases q) hin hrd rfl rfl hd ?_
              exact kk (okS_push (show okI _ by simp [okn] at hok; unfold okI; omega) hs2)
      · cases ho
    · cases ho
  · cases ho
theorem go_aldL (C : CX l a0 s0 E mi p s m meth c) (hb : c.code = b) (hd : decode b pc = .ok (.laload, 1)) (ho : aldL st σ = some st1) (hH : HS E σ H) (hs : okS st)
    (kk : okS st1 → W p l e R s m args below meth c H locs cells slots Q (F0 m (pc + 1) ls (st1.map (rel E)))) : W p l e R s m args below meth c H locs cells slots Q (F0 m pc ls (st.map (rel E))) := by
  unfold aldL at ho
  split at ho
  · rename_i i a r
    split at ho
    · rename_i ty n f hcell
      split at ho
      · rename_i hc
        obtain ⟨rfl, h0, h1⟩ := hc
        cases ho
        obtain ⟨oi, hs⟩ := okS_cons hs
        have oi : okI i := oi
        obtain ⟨-, hs⟩ := okS_cons hs
        obtain ⟨g1, g2, g3, g4, g5, g6⟩ := hH.num hcell (by omega)
        have hlt : i.toNat < n := by omega
        have hok := g5 _ hlt
        refine W.lald (v := .long (i6 (f i.toNat))) C.2.1 hb g6 ((C.KT.2.1 3 (by omega)).1 _ _) (fun q => by cases q) (by rw [arrV_size]; exact i3_in oi h0 h1) (by rw [i3_clamp oi, arrV_read _ _ hlt]; rfl) rfl rfl hd ?_
        exact kk (okS_push (show okJ _ by simpa [okn] using hok) hs)
      · cases ho
    · cases ho
  · cases ho
theorem TYS_ref {ty : Nat} (h1 : 4 ≤ ty) (_ : ty < 12) : (TYS ty).isReference = true := by
  unfold TYS
  split <;> first | rfl | omega
theorem go_aldA (C : CX l a0 s0 E mi p s m meth c) (hb : c.code = b) (hd : decode b pc = .ok (.aaload, 1)) (ho : aldA st σ = some st1) (hH : HS E σ H) (hs : okS st)
    (kk : okS st1 → W p l e R s m args below meth c H locs cells slots Q (F0 m (pc + 1) ls (st1.map (rel E)))) : W p l e R s m args below meth c H locs cells slots Q (F0 m pc ls (st.map (rel E))) := by
  unfold aldA at ho
  split at ho
  · rename_i i a r
    split at ho
    · rename_i ty n f hcell
      split at ho
      · rename_i hc
        obtain ⟨ht, h0, h1⟩ := hc
        cases ho
        obtain ⟨oi, hs⟩ := okS_cons hs
        have oi : okI i := oi
        obtain ⟨-, hs⟩ := okS_cons hs
        obtain ⟨g1, g2, g3, g4, g5⟩ := hH.rfs hcell (by omega)
        have hlt : i.toNat < n := by omega
        refine W.aald (v := va_rf (rf E (f i.toNat))) (ty := TYS ty) C.2.1 hb g5 ((C.KT.2.1 ty (by omega)).1 _ _) (TYS_ref g3.1 g3.2) (fun q => by cases q) (by rw [arrV_size]; exact i3_in oi h0 h1) (by rw [i3_clamp oi, arrV_read _ _ hlt]) rfl rfl hd ?_
        exact kk (okS_push trivial hs)
      · cases ho
    · cases ho
  · cases ho
end GOA
