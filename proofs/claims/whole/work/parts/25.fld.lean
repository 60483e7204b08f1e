/-! ONE INSTRUCTION: fields -/
theorem u_good (C : String) (T : u_T) (k : Nat) : goodWord (u_lay C T k) = true := by
  unfold u_lay
  split <;> rfl
/-- of a putfield: a final field is written by its own class's constructor alone -/
def PCHK (mi ix : Nat) : Bool := match FL mi ix with
  | some (k, [ci], tag) => match CLS[ci]?, MTB[mi]? with
    | some r, some q => !(r.2.1 k).2.2.2 || (tag == 0 && decide (q.1.name = "<init>") && decide ((r.2.1 k).1 = q.1.cls))
    | _, _ => false
  | _ => true
set_option maxRecDepth 100000 in
theorem PF_all : (CDs.zipIdx.all fun x => x.1.all fun y => match y.2.1 with
  | .putfield ix => PCHK x.2 ix
  | _ => true) = true := by decide +kernel
theorem PF_at {mi pc len ix : Nat} (h : CD mi pc = some (.putfield ix, len)) : PCHK mi ix = true := by
  obtain ⟨t, h1, h2⟩ := CD_at h
  have h4 : (t, mi) ∈ CDs.zipIdx := by
    rw [List.mem_zipIdx_iff_getElem?]
    exact h1
  exact List.all_eq_true.mp (List.all_eq_true.mp PF_all _ h4) _ h2
section GOF
variable {p : Program} {l : Launch} {e : Env} {R : Room} {s s0 : State} {m : MethodId} {args a0 : Array Value} {below : List Frame} {meth : Method} {c : Code} {H : Heap} {locs : List Loc} {cells slots : Nat} {Q : State → Prop}
variable {b : ByteArray} {pc mi : Nat} {ls : Array Slot} {rest : List Value} {E : EP} {L : LO} {st st1 : List AV} {σ : ST}
theorem go_get (C : CX l a0 s0 E mi p s m meth c) (hb : c.code = b) {ix k tag : Nat} {cis : List Nat} (hd : decode b pc = .ok (.getfield ix, 3)) (hf : FL mi ix = some (k, cis, tag)) (ho : gfd k cis st σ = some st1) (hH : HS E σ H) (hs : okS st)
    (kk : okS st1 → W p l e R s m args below meth c H locs cells slots Q (F0 m (pc + 3) ls (st1.map (rel E)))) : W p l e R s m args below meth c H locs cells slots Q (F0 m pc ls (st.map (rel E))) := by
  obtain ⟨o, ci0, r, h1, rfl, hr, hk, hci, hw, htag⟩ := FL_at hf
  unfold gfd at ho
  split at ho
  · rename_i a rs
    split at ho
    · rename_i ci fs hcell
      split at ho
      · rename_i hmem
        have hci2 : ci = ci0 := List.mem_singleton.mp hmem
        subst hci2
        split at ho
        · rename_i v hv
          cases ho
          obtain ⟨g1, g2, g3⟩ := hH.obj hcell (by omega)
          rcases g3 with ⟨q1, -, -⟩ | ⟨-, q2, q3, q4⟩
          · omega
          · have hP : va_P (eD E) CLS [(adr E a, .inr (ci, fs.map (rel E)))] H := fun j q hj => by
              match j, hj with
              | 0, hj => cases hj; exact q4
              | j + 1, hj => simp at hj
            have hts : ∀ w ∈ u_ws r.1 r.2.1 r.2.2, w.before args s = true := fun w hw => by
              obtain ⟨j, -, rfl⟩ := List.mem_map.mp hw
              exact C.word (CL_in hr _ hw) (u_good _ _ _)
            have hvm : (fs.map (rel E))[k]? = some (rel E v) := by rw [List.getElem?_map, hv]; rfl
            have kk := kk (okS_push (q2 v (List.mem_of_getElem? hv)) (okS_cons hs).2)
            rcases htag with (rfl | rfl) | ⟨rfl, hsf⟩
            · exact va_get (C := r.1) (T := r.2.1) (N := r.2.2) C.2.1 hb hts (fun w h => h) (C.own h1) C.KT.K hP 0 rfl hr k hk (C.word hw rfl) (fun _ h => h) hvm hd kk
            · have hN := va_Nw.warmF C.2.2.1 (va_Nw.of rfl (C.1.1 _ hw))
              exact va_getN (C := r.1) (T := r.2.1) (N := r.2.2) C.2.1 hb hts (fun w h => h) (C.own h1) C.KT.K hP 0 rfl hr k hk (va_Nw.use rfl hN) (fun _ h => h) hvm hd kk
            · exact va_get (C := r.1) (T := r.2.1) (N := r.2.2) C.2.1 hb hts (fun w h => h) (C.own h1) C.KT.K hP 0 rfl hr k hk (C.word hw rfl) (u_same (C.word (args := args) hsf rfl)) hvm hd kk
        · cases ho
      · cases ho
    · cases ho
  · cases ho
theorem go_put (C : CX l a0 s0 E mi p s m meth c) (hb : c.code = b) {ix k tag : Nat} {cis : List Nat} {fr : FR} {σ1 : ST} (hd : decode b pc = .ok (.putfield ix, 3)) (hf : FL mi ix = some (k, cis, tag)) (hpc : PCHK mi ix = true) (ho : pfd (pc + 3) L k cis st σ = some (.inl (fr, σ1))) (hH : HS E σ H) (hz : s.heap.size ≤ H.size) (hl : ∀ q ∈ locs, AE E q.base) (hs : okS st)
    (kk : ∀ (H1 : Heap) (locs1 : List Loc), σ1.2 = σ.2 → fr = (pc + 3, L, fr.2.2) → HS E σ1 H1 → s.heap.size ≤ H1.size → (∀ q ∈ locs1, AE E q.base) → okS fr.2.2 → W p l e R s m args below meth c H1 locs1 cells slots Q (F0 m (pc + 3) ls (fr.2.2.map (rel E)))) : W p l e R s m args below meth c H locs cells slots Q (F0 m pc ls (st.map (rel E))) := by
  obtain ⟨o, ci0, r, h1, rfl, hr, hk, hci, hw, htag⟩ := FL_at hf
  unfold pfd at ho
  split at ho
  · rename_i v a rs
    split at ho
    · rename_i ci fs hcell
      split at ho
      · rename_i hc3
        obtain ⟨hmem, hkl, hok⟩ := hc3
        have hci2 : ci = ci0 := List.mem_singleton.mp hmem
        subst hci2
        cases ho
        obtain ⟨g1, g2, g3⟩ := hH.obj hcell (by omega)
        rcases g3 with ⟨q1, -, -⟩ | ⟨-, q2, q3, q4⟩
        · omega
        · obtain ⟨ov, hs⟩ := okS_cons hs
          obtain ⟨-, hs⟩ := okS_cons hs
          have hts : ∀ w ∈ u_ws r.1 r.2.1 r.2.2, w.before args s = true := fun w hw => by
            obtain ⟨j, -, rfl⟩ := List.mem_map.mp hw
            exact C.word (CL_in hr _ hw) (u_good _ _ _)
          have hKs := C.KT
          have hap := va_apart (own := r.1) (D := eD E) (cl := CLS) (tys := []) (C := r.1) (T := r.2.1) (N := r.2.2) hts (fun w h => h) (tyO r) (CL_tyo hr) (CL_nmv hr) hKs.K hr
          obtain ⟨r', h1', cell, p1, p2, p3, p4⟩ := q4
          have hrr : r' = r := Option.some.inj (h1'.symm.trans hr)
          subst hrr
          obtain ⟨hS, hfc, kC, hkC, hkind⟩ := hKs.1 ci _ hr
          obtain ⟨cf, kf, fi, f, hi, hsl⟩ := hS k hk
          have hst := (u_facts hfc hkC (u_lays hts (fun w h => h) hk) hi).1
          have hty := CL_tyv hr hk
          rw [CL_tyo hr k hk] at hty
          obtain ⟨hnar, hfit⟩ := okF_fits (E := E) hty hok
          have fin : ∀ (H' : Heap) (v' : Nat), H'[adr E a]? = some (cell.setSlot ((eD E).2 ci k) (rel E v)) → H'.size = H.size → (∀ q, q ≠ adr E a → H'[q]? = H[q]?) → W p l e R s m args below meth c H' (locs ++ [⟨adr E a, v'⟩]) cells slots Q (F0 m (pc + 3) ls (rs.map (rel E))) := by
            intro H' v' e1 e2 e3
            refine kk H' _ rfl rfl (hH.set g1 g2 e2 e3 (Or.inr ⟨hci, fun w hw => ?_, ⟨r', hr, by rw [List.length_set]; obtain ⟨r2, hr2, hlen⟩ := q3; rw [hlen, Option.some.inj (hr2.symm.trans hr)]⟩, ?_⟩)) (by rw [e2]; exact hz) (fun q hq => ?_) hs
            · rcases List.mem_or_eq_of_mem_set hw with h | h
              · exact q2 w h
              · rw [h]; exact ov
            · rw [List.map_set]
              exact ⟨r', hr, t_OB.to (V := updV (vp_V (fs.map (rel E))) k (rel E v)) ⟨_, e1, p2, p3, t_set p4 hap hk (rel E v)⟩ (fun j _ => vp_updV_set (by rw [List.length_map]; exact hkl) (rel E v) j)⟩
            · rcases List.mem_append.mp hq with h | h
              · exact hl q h
              · rw [List.mem_singleton.mp h]; exact adr_ge g1
          have hlay := hts _ (u_in_lay hk)
          unfold u_lay at hlay
          unfold PCHK at hpc
          rw [hf] at hpc
          obtain ⟨-, -, -, -, q, m1, m2, m3, m4, m5, m6, m7, m8⟩ := id C
          simp only [hr, m1] at hpc
          cases hfin : (r'.2.1 k).2.2.2 with
          | true =>
            rw [hfin] at hpc hlay
            simp only [Bool.not_true, Bool.false_or, Bool.and_eq_true, beq_iff_eq, decide_eq_true_eq] at hpc
            obtain ⟨⟨ht0, hin2⟩, hdecl⟩ := hpc
            subst ht0
            rw [if_pos rfl] at hlay
            have hcf : m.cls = cf := by
              obtain ⟨_, _, c', _, _, _, -, -, hf', -, -, -, hown2, -⟩ := Cond.laysFinal_spec hlay
              have e1 : c' = cf := by have := hi.symm.trans hf'; simp at this; exact this.1.symm
              rw [hdecl] at hown2
              rw [← e1]; exact Option.some.inj (m4.symm.trans hown2)
            have h6 := u_fits hfc hkC hkind (Or.inr hlay) hi (CL_tyo hr k hk) hnar hfit
            refine W.putFinK C.2.1 hb (C.own h1) (C.word hw rfl) hi hst hcf (m7.trans hin2) (by rw [p2]; exact h6) p1 p3 (by rw [hsl]; exact k2_hasslot (p4 k hk)) rfl rfl hd fun H' e1 e2 e3 => ?_
            rw [hsl] at e1
            exact fin H' _ e1 e2 e3
          | false =>
            rw [hfin] at hlay
            rw [if_neg (by decide)] at hlay
            have h6 := u_store hfc hkC hkind hlay hi (CL_tyo hr k hk) hnar hfit
            rcases htag with (rfl | rfl) | ⟨rfl, hsf⟩
            · refine W.putK C.2.1 hb (f := f) ⟨C.own h1, C.word hw rfl, ⟨_, _, _, hi⟩, hst⟩ (by rw [p2]; exact h6) p1 p3 (by rw [hsl]; exact k2_hasslot (p4 k hk)) rfl rfl hd fun H' e1 e2 e3 => ?_
              rw [hsl] at e1
              exact fin H' _ e1 e2 e3
            · have hN := va_Nw.warmF C.2.2.1 (va_Nw.of rfl (C.1.1 _ hw))
              refine va_WputK C.2.1 hb (f := f) (C.own h1) (va_Nw.use rfl hN) hi hst (by rw [p2]; exact h6) p1 p3 (by rw [hsl]; exact k2_hasslot (p4 k hk)) rfl rfl hd fun H' e1 e2 e3 => ?_
              rw [hsl] at e1
              exact fin H' _ e1 e2 e3
            · refine W.putK C.2.1 hb (f := f) ⟨C.own h1, C.word hw rfl, ⟨_, _, _, u_same (C.word (args := args) hsf rfl) _ hi⟩, hst⟩ (by rw [p2]; exact h6) p1 p3 (by rw [hsl]; exact k2_hasslot (p4 k hk)) rfl rfl hd fun H' e1 e2 e3 => ?_
              rw [hsl] at e1
              exact fin H' _ e1 e2 e3
      · cases ho
    · cases ho
  · cases ho
end GOF
