/-! ALL BUILT-IN METHODS -/
def kdB (cm : Nat) : Nat := if cm = 1000 ∨ cm = 1007 then 1 else if cm = 1004 ∨ cm = 1005 then 4 else if cm = 1008 then 5 else 0
theorem kd_all : (allT MLs fun _ _ e => !(Nat.ble 1000 e.1) || e.2.2.2 == kdB e.1) = true := by decide +kernel
theorem kd_at {mi ix cm na rc kd : Nat} (h : ML mi ix = some (cm, na, rc, kd)) (hc : 1000 ≤ cm) : kd = kdB cm := by
  obtain ⟨o, h1, h2⟩ := allT_at kd_all h
  rw [Nat.ble_eq_true_of_le hc] at h2
  simpa using h2
theorem inst_at {i : ClassFile.Instr} {ix kd : Nat} (hi : i = .invokestatic ix ∨ i = .invokespecial ix ∨ i = .invokevirtual ix ∨ ∃ n, i = .invokeinterface ix n) (hk : kdOf i kd = true) : (kd = 0 → i = .invokestatic ix) ∧ (kd = 1 → i = .invokespecial ix) ∧ (kd = 4 ∨ kd = 5 → i = .invokevirtual ix) := by
  rcases hi with rfl | rfl | rfl | ⟨n, rfl⟩
  · simp only [kdOf, beq_iff_eq] at hk
    exact ⟨fun _ => rfl, fun h => by omega, fun h => by omega⟩
  · simp only [kdOf, beq_iff_eq] at hk
    exact ⟨fun h => by omega, fun _ => rfl, fun h => by omega⟩
  · simp only [kdOf, Bool.or_eq_true, beq_iff_eq] at hk
    exact ⟨fun h => by omega, fun h => by omega, fun _ => rfl⟩
  · simp only [kdOf, beq_iff_eq] at hk
    exact ⟨fun h => by omega, fun h => by omega, fun h => by omega⟩
theorem bArr_2 {σ σ1 : ST} {a b : Nat} {sp dp n : Int} (h : bArr σ a b sp dp n = some σ1) : σ1.2 = σ.2 := by
  unfold bArr at h
  split at h
  · cases h
  · split at h
    · split at h
      · cases h; rfl
      · cases h
    · cases h
theorem args_at {st as : List AV} {na : Nat} (h : (st.take na).reverse = as) : st = as.reverse ++ st.drop na := by
  rw [← h, List.reverse_reverse, List.take_append_drop]
theorem blt_ok : BLT := by
  intro p l e R s s0 m args a0 below meth c H locs cells slots Q pc mi ls E st σ σ2 cm na rc kd ix i len v C hcd hi hml hcm hna hkd hok hwt hB hH hz hl hs hsz hfr hlo hcr hsr kk
  obtain ⟨b, hb, hd⟩ := C.dec hcd
  have hlen := CD_ok hcd
  obtain ⟨j0, j1, j2⟩ := inst_at hi hkd
  have hk := kd_at hml hcm
  generalize has : (st.take na).reverse = as at hB hok
  have hst := args_at has
  generalize hrest : st.drop na = rest at hst hwt kk
  subst hst
  unfold BF at hB
  split at hB
  · cases hB
    have hi := j1 hk
    subst hi
    have e3 : len = 3 := by simpa [iOK] using hlen
    subst e3
    rw [Nat.sub_self, Nat.sub_self] at kk
    exact b1000 C hb hd hml hwt hsz hfr hlo (kk H locs hH (fun v hv => nomatch hv) hl)
  · cases hB
    have hi := j0 hk
    subst hi
    have e3 : len = 3 := by simpa [iOK] using hlen
    subst e3
    rw [Nat.sub_self, Nat.sub_self] at kk
    rw [Nat.sub_self] at hcr hsr
    rename_i x y
    have oy : okI y := hs (.inl y) (by simp)
    have ox : okI x := hs (.inl x) (by simp)
    refine b1001 C hb hd hml ox oy hwt hsz hfr hlo hcr hsr (kk H locs hH (fun v hv => ?_) hl)
    rw [List.mem_singleton.mp hv]
    show okI _
    split <;> assumption
  · cases hB
    have hi := j0 hk
    subst hi
    have e3 : len = 3 := by simpa [iOK] using hlen
    subst e3
    rw [Nat.sub_self, Nat.sub_self] at kk
    rw [Nat.sub_self] at hcr hsr
    rename_i x y
    have oy : okI y := hs (.inl y) (by simp)
    have ox : okI x := hs (.inl x) (by simp)
    refine b1002 C hb hd hml ox oy hwt hsz hfr hlo hcr hsr (kk H locs hH (fun v hv => ?_) hl)
    rw [List.mem_singleton.mp hv]
    show okI _
    split <;> assumption
  · rename_i a sp q dp n
    split at hB
    · rename_i σ1 hb1
      cases hB
      have hi := j0 hk
      subst hi
      have e3 : len = 3 := by simpa [iOK] using hlen
      subst e3
      rw [bArr_2 hb1, Nat.sub_self, Nat.sub_self] at kk
      have o1 : okI sp := hs (.inl sp) (by simp)
      have o2 : okI dp := hs (.inl dp) (by simp)
      have o3 : okI n := hs (.inl n) (by simp)
      exact b1003 C hb hd hml o1 o2 o3 hb1 hH hl hwt hsz hfr hlo fun H1 locs1 h1 h2 => kk H1 locs1 h1 (fun v hv => nomatch hv) h2
    · cases hB
  · rename_i a
    split at hB
    · rename_i t ht
      cases hB
      have hi := j2 (Or.inl hk)
      subst hi
      have e3 : len = 3 := by simpa [iOK] using hlen
      subst e3
      rw [Nat.sub_self, Nat.sub_self] at kk
      rw [Nat.sub_self] at hcr hsr
      have h9 := STR_len ht
      refine b1004 C hb hd hml ht hH hl hwt hsz hfr hlo hcr hsr fun H1 locs1 h1 h2 => kk H1 locs1 h1 (fun v hv => ?_) h2
      rw [List.mem_singleton.mp hv]
      show okI _
      unfold okI
      omega
    · cases hB
  · rename_i a k
    split at hB
    · rename_i t ht
      split at hB
      · rename_i hr
        cases hB
        have hi := j2 (Or.inl hk)
        subst hi
        have e3 : len = 3 := by simpa [iOK] using hlen
        subst e3
        rw [Nat.sub_self, Nat.sub_self] at kk
        rw [Nat.sub_self] at hcr hsr
        have h9 := STR_lt ht k.toNat
        refine b1005 C hb hd hml ht hr.1 hr.2 hH hl hwt hsz hfr hlo hcr hsr fun H1 locs1 h1 h2 => kk H1 locs1 h1 (fun v hv => ?_) h2
        rw [List.mem_singleton.mp hv]
        show okI _
        unfold okI
        omega
      · cases hB
    · cases hB
  · rename_i a n
    split at hB
    · rename_i ln f hca
      split at hB
      · rename_i hc
        cases hB
        have hi := j0 hk
        subst hi
        have e3 : len = 3 := by simpa [iOK] using hlen
        subst e3
        have ec : (sN σ (.inr (.inr (10, n.toNat, fun j => if j < ln then f j else none))) n.toNat).2.1 - σ.2.1 = 1 := by show σ.2.1 + 1 - σ.2.1 = 1; omega
        have es : (sN σ (.inr (.inr (10, n.toNat, fun j => if j < ln then f j else none))) n.toNat).2.2 - σ.2.2 = n.toNat := by show σ.2.2 + n.toNat - σ.2.2 = n.toNat; omega
        rw [ec] at hcr kk
        rw [es] at hsr kk
        exact b1006 C hb hd hml hca hc.1 hc.2.1 hc.2.2 hH hl hwt hsz hfr hlo hcr hsr fun H1 locs1 h1 h2 => kk H1 locs1 h1 (fun v hv => by rw [List.mem_singleton.mp hv]; trivial) h2
      · cases hB
    · cases hB
  · rename_i a
    split at hB
    · rename_i fs hca
      split at hB
      · rename_i hc
        cases hB
        subst hc
        have hi := j1 hk
        subst hi
        have e3 : len = 3 := by simpa [iOK] using hlen
        subst e3
        rw [Nat.sub_self, Nat.sub_self] at kk
        rw [Nat.sub_self] at hcr hsr
        exact b1007 C hb hd hml hca hH hl hwt hsz hfr hlo hcr hsr fun H1 locs1 h1 h2 => kk H1 locs1 h1 (fun v hv => nomatch hv) h2
      · cases hB
    · cases hB
  · rename_i a
    split at hB
    · rename_i ty n f hca
      split at hB
      · rename_i ht
        cases hB
        have hi := j2 (Or.inr hk)
        subst hi
        have e3 : len = 3 := by simpa [iOK] using hlen
        subst e3
        have ec : (sN σ (.inr (.inl (ty, n, f))) n).2.1 - σ.2.1 = 1 := by show σ.2.1 + 1 - σ.2.1 = 1; omega
        have es : (sN σ (.inr (.inl (ty, n, f))) n).2.2 - σ.2.2 = n := by show σ.2.2 + n - σ.2.2 = n; omega
        rw [ec] at hcr kk
        rw [es] at hsr kk
        have hk5 : kd = 5 := hk
        subst hk5
        have hrc : ty = rc := by
          simp only [okC, hca, Bool.and_eq_true, beq_iff_eq] at hok
          exact hok.2
        exact b1008 C hb hd hml hca ht hrc hH hwt hsz hfr hlo hcr hsr fun H1 h1 => kk H1 locs h1 (fun v hv => by rw [List.mem_singleton.mp hv]; trivial) hl
      · cases hB
    · cases hB
  · cases hB
/-- THE MACHINE IS SOUND -/
theorem sound_all : ∀ n, SND n := snd_all blt_ok thr0 LW_at
