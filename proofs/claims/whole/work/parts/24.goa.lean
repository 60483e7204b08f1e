/-! ONE INSTRUCTION: stack, locals, branches -/
theorem gs_inv {pc : Nat} {L : LO} {σ σ1 : ST} {o : Option (List AV)} {fr : FR} (h : gs pc L σ o = some (.inl (fr, σ1))) : ∃ st1, o = some st1 ∧ fr = (pc, L, st1) ∧ σ1 = σ := by
  cases o with
  | none => cases h
  | some st1 => cases h; exact ⟨st1, rfl, rfl, rfl⟩
theorem p2_inv {f : Int → Int → Int} {st st1 : List AV} (h : p2 f st = some st1) : ∃ x y r, st = .inl y :: .inl x :: r ∧ st1 = .inl (f x y) :: r := by
  unfold p2 at h
  split at h
  · cases h; exact ⟨_, _, _, rfl, rfl⟩
  · cases h
theorem q2_inv {f : Int → Int → Int} {st st1 : List AV} (h : q2 f st = some st1) : ∃ x y r, st = .inr (.inl y) :: .inr (.inl x) :: r ∧ st1 = .inr (.inl (f x y)) :: r := by
  unfold q2 at h
  split at h
  · cases h; exact ⟨_, _, _, rfl, rfl⟩
  · cases h
theorem q1_inv {f : Int → Int → Int} {st st1 : List AV} (h : q1 f st = some st1) : ∃ x y r, st = .inl y :: .inr (.inl x) :: r ∧ st1 = .inr (.inl (f x y)) :: r := by
  unfold q1 at h
  split at h
  · cases h; exact ⟨_, _, _, rfl, rfl⟩
  · cases h
theorem tgt_inv {pc t : Nat} {off : Int} (h : tgt pc off = some t) : (pc : Int) + off = (t : Int) := by
  unfold tgt at h
  split at h
  · rename_i h0
    have e := Option.some.inj h
    omega
  · cases h
section GO
variable {p : Program} {l : Launch} {e : Env} {R : Room} {s : State} {m : MethodId} {args : Array Value} {below : List Frame} {meth : Method} {c : Code} {H : Heap} {locs : List Loc} {cells slots : Nat} {Q : State → Prop}
variable {b : ByteArray} {pc : Nat} {ls : Array Slot} {rest : List Value} {E : EP} {L : LO} {st st1 : List AV} {σ : ST}
theorem go_p2 {f : Int → Int → Int} (hf : ∀ x y : Int, okI (f x y)) (ho : p2 f st = some st1) (hs : okS st)
    (row : ∀ (x y : Int) (r : List Value), okI x → okI y → W p l e R s m args below meth c H locs cells slots Q (F0 m (pc + 1) ls (.int (i3 (f x y)) :: r)) → W p l e R s m args below meth c H locs cells slots Q (F0 m pc ls (.int (i3 y) :: .int (i3 x) :: r)))
    (k : okS st1 → W p l e R s m args below meth c H locs cells slots Q (F0 m (pc + 1) ls (st1.map (rel E)))) : W p l e R s m args below meth c H locs cells slots Q (F0 m pc ls (st.map (rel E))) := by
  obtain ⟨x, y, r, rfl, rfl⟩ := p2_inv ho
  obtain ⟨oy, hs⟩ := okS_cons hs
  obtain ⟨ox, hs⟩ := okS_cons hs
  exact row x y (r.map (rel E)) ox oy (k (okS_push (hf x y) hs))
theorem go_q2 {f : Int → Int → Int} (hf : ∀ x y : Int, okJ (f x y)) (ho : q2 f st = some st1) (hs : okS st)
    (row : ∀ (x y : Int) (r : List Value), okJ x → okJ y → W p l e R s m args below meth c H locs cells slots Q (F0 m (pc + 1) ls (.long (i6 (f x y)) :: r)) → W p l e R s m args below meth c H locs cells slots Q (F0 m pc ls (.long (i6 y) :: .long (i6 x) :: r)))
    (k : okS st1 → W p l e R s m args below meth c H locs cells slots Q (F0 m (pc + 1) ls (st1.map (rel E)))) : W p l e R s m args below meth c H locs cells slots Q (F0 m pc ls (st.map (rel E))) := by
  obtain ⟨x, y, r, rfl, rfl⟩ := q2_inv ho
  obtain ⟨oy, hs⟩ := okS_cons hs
  obtain ⟨ox, hs⟩ := okS_cons hs
  exact row x y (r.map (rel E)) ox oy (k (okS_push (hf x y) hs))
theorem go_q1 {f : Int → Int → Int} (hf : ∀ x y : Int, okJ (f x y)) (ho : q1 f st = some st1) (hs : okS st)
    (row : ∀ (x y : Int) (r : List Value), okJ x → okI y → W p l e R s m args below meth c H locs cells slots Q (F0 m (pc + 1) ls (.long (i6 (f x y)) :: r)) → W p l e R s m args below meth c H locs cells slots Q (F0 m pc ls (.int (i3 y) :: .long (i6 x) :: r)))
    (k : okS st1 → W p l e R s m args below meth c H locs cells slots Q (F0 m (pc + 1) ls (st1.map (rel E)))) : W p l e R s m args below meth c H locs cells slots Q (F0 m pc ls (st.map (rel E))) := by
  obtain ⟨x, y, r, rfl, rfl⟩ := q1_inv ho
  obtain ⟨oy, hs⟩ := okS_cons hs
  obtain ⟨ox, hs⟩ := okS_cons hs
  exact row x y (r.map (rel E)) ox oy (k (okS_push (hf x y) hs))
theorem go_ldI {j n : Nat} (ho : ldI L j st = some st1) (hL : LR E L ls) (hs : okS st)
    (row : ∀ x : Int, ls[j]? = some (.val (.int (i3 x))) → W p l e R s m args below meth c H locs cells slots Q (F0 m (pc + n) ls (.int (i3 x) :: st.map (rel E))) → W p l e R s m args below meth c H locs cells slots Q (F0 m pc ls (st.map (rel E))))
    (k : okS st1 → W p l e R s m args below meth c H locs cells slots Q (F0 m (pc + n) ls (st1.map (rel E)))) : W p l e R s m args below meth c H locs cells slots Q (F0 m pc ls (st.map (rel E))) := by
  unfold ldI at ho
  split at ho
  · rename_i x hx
    cases ho
    have h1 := hL.2.2 _ _ hx
    exact row x h1.1 (k (okS_push h1.2 hs))
  · cases ho
theorem go_ldL {j n : Nat} (ho : ldL L j st = some st1) (hL : LR E L ls) (hs : okS st)
    (row : ∀ x : Int, ls[j]? = some (.val (.long (i6 x))) → W p l e R s m args below meth c H locs cells slots Q (F0 m (pc + n) ls (.long (i6 x) :: st.map (rel E))) → W p l e R s m args below meth c H locs cells slots Q (F0 m pc ls (st.map (rel E))))
    (k : okS st1 → W p l e R s m args below meth c H locs cells slots Q (F0 m (pc + n) ls (st1.map (rel E)))) : W p l e R s m args below meth c H locs cells slots Q (F0 m pc ls (st.map (rel E))) := by
  unfold ldL at ho
  split at ho
  · rename_i x hx
    cases ho
    have h1 := hL.2.2 _ _ hx
    exact row x h1.1 (k (okS_push h1.2 hs))
  · cases ho
theorem go_ldA {j n : Nat} (ho : ldA L j st = some st1) (hL : LR E L ls) (hs : okS st)
    (row : ∀ x : Nat, ls[j]? = some (.val (.ref x)) → W p l e R s m args below meth c H locs cells slots Q (F0 m (pc + n) ls (.ref x :: st.map (rel E))) → W p l e R s m args below meth c H locs cells slots Q (F0 m pc ls (st.map (rel E))))
    (rowN : ls[j]? = some (.val .null) → W p l e R s m args below meth c H locs cells slots Q (F0 m (pc + n) ls (.null :: st.map (rel E))) → W p l e R s m args below meth c H locs cells slots Q (F0 m pc ls (st.map (rel E))))
    (k : okS st1 → W p l e R s m args below meth c H locs cells slots Q (F0 m (pc + n) ls (st1.map (rel E)))) : W p l e R s m args below meth c H locs cells slots Q (F0 m pc ls (st.map (rel E))) := by
  unfold ldA at ho
  split at ho
  · rename_i x hx
    cases ho
    have h1 := hL.2.2 _ _ hx
    cases x with
    | none => exact rowN h1.1 (k (okS_push trivial hs))
    | some a => exact row _ h1.1 (k (okS_push trivial hs))
  · cases ho
theorem go_br {t : Option Nat} {bb : Bool} {fr : FR} {σ1 : ST} {pc1 : Nat} (h : br pc1 t L st σ bb = some (.inl (fr, σ1))) : ∃ t0, t = some t0 ∧ fr = (cond bb t0 pc1, L, st) ∧ σ1 = σ := by
  unfold br at h
  split at h
  · cases h; exact ⟨_, rfl, rfl, rfl⟩
  · cases h
/-- the branches on ints: both roads of the machine against the one that is taken -/
theorem go_br1 {cnd : ClassFile.Cond} {off : Int} {fr : FR} {σ1 : ST} (hx : p.tables.exec = Jvm.exec) (hb : c.code = b) (hd : decode b pc = .ok (.ifCond cnd off, 3)) (h : br1 (pc + 3) (tgt pc off) L cnd st σ = some (.inl (fr, σ1))) (hs : okS st)
    (k : σ1 = σ → fr.2.1 = L → okS fr.2.2 → W p l e R s m args below meth c H locs cells slots Q (F0 m fr.1 ls (fr.2.2.map (rel E)))) : W p l e R s m args below meth c H locs cells slots Q (F0 m pc ls (st.map (rel E))) := by
  unfold br1 at h
  split at h
  · rename_i x r
    obtain ⟨t0, ht, rfl, rfl⟩ := go_br h
    obtain ⟨ox, hs⟩ := okS_cons hs
    have ox : okI x := ox
    have ht := tgt_inv ht
    have k := k rfl rfl hs
    have z0 := i3_0
    cases cnd with
    | eq =>
      refine lv_if_eq (x := i3 x) hx hb hd ht (fun q => ?_) (fun q => ?_)
      all_goals rw [← z0, i3_eq ox okI_0] at q
      all_goals simpa [cmpI, q] using k
    | ne =>
      refine lv_if_ne (x := i3 x) hx hb hd ht (fun q => ?_) (fun q => ?_)
      all_goals rw [← z0, i3_eq ox okI_0] at q
      all_goals simpa [cmpI, q] using k
    | lt =>
      refine lv_if_lt (x := i3 x) hx hb hd ht (fun q => ?_) (fun q => ?_)
      all_goals rw [← z0, i3_lt ox okI_0] at q
      all_goals simpa [cmpI, q] using k
    | ge =>
      refine lv_if_ge (x := i3 x) hx hb hd ht (fun q => ?_) (fun q => ?_)
      all_goals rw [← z0, i3_le okI_0 ox] at q
      all_goals simpa [cmpI, q] using k
    | gt =>
      refine lv_if_gt (x := i3 x) hx hb hd ht (fun q => ?_) (fun q => ?_)
      all_goals rw [← z0, i3_lt okI_0 ox] at q
      all_goals simpa [cmpI, q] using k
    | le =>
      refine lv_if_le (x := i3 x) hx hb hd ht (fun q => ?_) (fun q => ?_)
      all_goals rw [← z0, i3_le ox okI_0] at q
      all_goals simpa [cmpI, q] using k
  · cases h
theorem go_br2 {cnd : ClassFile.Cond} {off : Int} {fr : FR} {σ1 : ST} (hx : p.tables.exec = Jvm.exec) (hb : c.code = b) (hd : decode b pc = .ok (.if_icmp cnd off, 3)) (h : br2 (pc + 3) (tgt pc off) L cnd st σ = some (.inl (fr, σ1))) (hs : okS st)
    (k : σ1 = σ → fr.2.1 = L → okS fr.2.2 → W p l e R s m args below meth c H locs cells slots Q (F0 m fr.1 ls (fr.2.2.map (rel E)))) : W p l e R s m args below meth c H locs cells slots Q (F0 m pc ls (st.map (rel E))) := by
  unfold br2 at h
  split at h
  · rename_i y x r
    obtain ⟨t0, ht, rfl, rfl⟩ := go_br h
    obtain ⟨oy, hs⟩ := okS_cons hs
    obtain ⟨ox, hs⟩ := okS_cons hs
    have ox : okI x := ox
    have oy : okI y := oy
    have ht := tgt_inv ht
    have k := k rfl rfl hs
    cases cnd with
    | eq =>
      refine lv_icmp_eq (x := i3 x) (y := i3 y) hx hb hd ht (fun q => ?_) (fun q => ?_)
      all_goals rw [i3_eq ox oy] at q
      all_goals simpa [cmpI, q] using k
    | ne =>
      refine lv_icmp_ne (x := i3 x) (y := i3 y) hx hb hd ht (fun q => ?_) (fun q => ?_)
      all_goals rw [i3_eq ox oy] at q
      all_goals simpa [cmpI, q] using k
    | lt =>
      refine lv_icmp_lt (x := i3 x) (y := i3 y) hx hb hd ht (fun q => ?_) (fun q => ?_)
      all_goals rw [i3_lt ox oy] at q
      all_goals simpa [cmpI, q] using k
    | ge =>
      refine lv_icmp_ge (x := i3 x) (y := i3 y) hx hb hd ht (fun q => ?_) (fun q => ?_)
      all_goals rw [i3_le oy ox] at q
      all_goals simpa [cmpI, q] using k
    | gt =>
      refine lv_icmp_gt (x := i3 x) (y := i3 y) hx hb hd ht (fun q => ?_) (fun q => ?_)
      all_goals rw [i3_lt oy ox] at q
      all_goals simpa [cmpI, q] using k
    | le =>
      refine lv_icmp_le (x := i3 x) (y := i3 y) hx hb hd ht (fun q => ?_) (fun q => ?_)
      all_goals rw [i3_le ox oy] at q
      all_goals simpa [cmpI, q] using k
  · cases h
end GO
