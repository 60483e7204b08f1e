/-! THE LOCALS -/
def toAL (E : EP) (L : LO) : List (Nat × Value) := (List.range L.length).filterMap fun i => match L[i]? with
  | some (some v) => some (i, rel E v)
  | _ => none
theorem mem_toAL {E : EP} {L : LO} {i : Nat} {v : AV} (h : L[i]? = some (some v)) : (i, rel E v) ∈ toAL E L := by
  refine List.mem_filterMap.mpr ⟨i, List.mem_range.mpr (List.getElem?_eq_some_iff.mp h).1, ?_⟩
  rw [h]
theorem of_toAL {E : EP} {L : LO} {q : Nat × Value} (h : q ∈ toAL E L) : ∃ v, L[q.1]? = some (some v) ∧ q.2 = rel E v := by
  obtain ⟨i, -, h2⟩ := List.mem_filterMap.mp h
  split at h2
  · rename_i v hv
    cases h2
    exact ⟨v, hv, rfl⟩
  · cases h2
theorem LR.has {E : EP} {L : LO} {ls : Array Slot} (h : LR E L ls) : lv_has ls L.length (toAL E L) := by
  refine ⟨h.1, h.2.1, fun q hq => ?_⟩
  obtain ⟨v, h1, h2⟩ := of_toAL hq
  rw [h2]
  exact (h.2.2 _ _ h1).1
theorem clrL_len (L : LO) (k : Nat) : (clrL L k).length = L.length := by
  unfold clrL
  split
  · rfl
  · split
    · exact List.length_set
    · rfl
theorem clrL_get {L : LO} {i j : Nat} {w : AV} (h : (clrL L i)[j]? = some (some w)) : L[j]? = some (some w) ∧ ¬ (j + 1 = i ∧ isLg w = true) := by
  cases i with
  | zero => exact ⟨h, fun q => absurd q.1 (by omega)⟩
  | succ k =>
    simp only [clrL] at h
    split at h
    · rename_i x hx
      by_cases e : k = j
      · subst e
        rw [List.getElem?_set] at h
        split at h
        · split at h <;> cases h
        · rename_i hn; exact absurd rfl hn
      · rw [List.getElem?_set_ne e] at h
        exact ⟨h, fun q => absurd q.1 (by omega)⟩
    · rename_i hx
      refine ⟨h, fun q => ?_⟩
      have e : j = k := by omega
      subst e
      rcases w with x | x | x
      · exact absurd q.2 (by simp [isLg])
      · exact hx x h
      · exact absurd q.2 (by simp [isLg])
theorem setL_len (L : LO) (k : Nat) (v : AV) : (setL L k v).length = L.length := by
  unfold setL
  rw [List.length_set, clrL_len]
theorem setL2_len (L : LO) (k : Nat) (v : AV) : (setL2 L k v).length = L.length := by
  unfold setL2
  rw [List.length_set, List.length_set, clrL_len]
theorem LR.set1 {E : EP} {L : LO} {ls ls' : Array Slot} {i : Nat} {v : AV} (h : LR E L ls) (hi : i < L.length) (hv : okv v) (h' : lv_has ls' L.length ((i, rel E v) :: (toAL E L).filter (fun q => !(q.1 == i) && !(q.1 + 1 == i && q.2.category == 2)))) : LR E (setL L i v) ls' := by
  obtain ⟨a1, a2, a3⟩ := h'
  refine ⟨by rw [setL_len]; exact a1, a2, fun j w hj => ?_⟩
  unfold setL at hj
  by_cases e : i = j
  · subst e
    rw [List.getElem?_set_self (by rw [clrL_len]; exact hi)] at hj
    cases hj
    exact ⟨a3 _ List.mem_cons_self, hv⟩
  · rw [List.getElem?_set_ne e] at hj
    obtain ⟨h1, h2⟩ := clrL_get hj
    refine ⟨a3 (j, rel E w) (List.mem_cons_of_mem _ (List.mem_filter.mpr ⟨mem_toAL h1, ?_⟩)), (h.2.2 _ _ h1).2⟩
    have e2 : (j == i) = false := by simp; omega
    simp only [e2, Bool.not_false, Bool.true_and, Bool.not_eq_true', Bool.and_eq_false_iff]
    by_cases e3 : j + 1 = i
    · right
      rw [rel_cat]
      cases hw : isLg w with
      | false => rfl
      | true => exact absurd ⟨e3, hw⟩ h2
    · left
      simp; omega
theorem LR.set2 {E : EP} {L : LO} {ls ls' : Array Slot} {i : Nat} {v : AV} (h : LR E L ls) (hi : i + 1 < L.length) (hv : okv v) (h' : lv_has ls' L.length ((i, rel E v) :: (toAL E L).filter (fun q => !(q.1 == i) && (!(q.1 == i + 1) && !(q.1 + 1 == i && q.2.category == 2))))) : LR E (setL2 L i v) ls' := by
  obtain ⟨a1, a2, a3⟩ := h'
  refine ⟨by rw [setL2_len]; exact a1, a2, fun j w hj => ?_⟩
  unfold setL2 at hj
  by_cases e4 : i + 1 = j
  · subst e4
    rw [List.getElem?_set_self (by rw [List.length_set, clrL_len]; exact hi)] at hj
    cases hj
  · rw [List.getElem?_set_ne e4] at hj
    by_cases e : i = j
    · subst e
      rw [List.getElem?_set_self (by rw [clrL_len]; omega)] at hj
      cases hj
      exact ⟨a3 _ List.mem_cons_self, hv⟩
    · rw [List.getElem?_set_ne e] at hj
      obtain ⟨h1, h2⟩ := clrL_get hj
      refine ⟨a3 (j, rel E w) (List.mem_cons_of_mem _ (List.mem_filter.mpr ⟨mem_toAL h1, ?_⟩)), (h.2.2 _ _ h1).2⟩
      have e2 : (j == i) = false := by simp; omega
      have e5 : (j == i + 1) = false := by simp; omega
      simp only [e2, e5, Bool.not_false, Bool.true_and, Bool.not_eq_true', Bool.and_eq_false_iff]
      by_cases e3 : j + 1 = i
      · right
        rw [rel_cat]
        cases hw : isLg w with
        | false => rfl
        | true => exact absurd ⟨e3, hw⟩ h2
      · left
        simp; omega
theorem iA_len (E : EP) (as : List AV) : (iA as).length = (lg_sl (as.map (rel E))).length := by
  induction as with
  | nil => rfl
  | cons v r ih =>
    have e : lg_sl ((v :: r).map (rel E)) = (if (rel E v).category = 2 then [Slot.val (rel E v), .second] else [.val (rel E v)]) ++ lg_sl (r.map (rel E)) := by simp [lg_sl]
    rw [e, List.length_append, ← ih, rel_cat]
    simp only [iA]
    cases isLg v <;> simp <;> omega
theorem iA_args (E : EP) : ∀ (as : List AV) (b j : Nat) (v : AV), (iA as)[j]? = some (some v) → (b + j, rel E v) ∈ lv_args b (as.map (rel E)) ∧ v ∈ as
  | [], b, j, v, h => by simp [iA] at h
  | w :: r, b, j, v, h => by
    simp only [iA] at h
    have hc := rel_cat E w
    cases hw : isLg w with
    | true =>
      rw [hw] at h hc
      simp only [if_true] at h hc
      match j, h with
      | 0, h =>
        simp at h; subst h
        exact ⟨by simp [lv_args], List.mem_cons_self⟩
      | 1, h => simp at h
      | j + 2, h =>
        have := iA_args E r (b + 2) j v (by simpa using h)
        refine ⟨?_, List.mem_cons_of_mem _ this.2⟩
        simp only [List.map_cons, lv_args]
        rw [hc, if_pos rfl]
        exact List.mem_cons_of_mem _ (by rw [show b + (j + 2) = b + 2 + j by omega]; exact this.1)
    | false =>
      rw [hw] at h hc
      simp only [Bool.false_eq_true, if_false] at h hc
      match j, h with
      | 0, h =>
        simp at h; subst h
        exact ⟨by simp [lv_args], List.mem_cons_self⟩
      | j + 1, h =>
        have := iA_args E r (b + 1) j v (by simpa using h)
        refine ⟨?_, List.mem_cons_of_mem _ this.2⟩
        simp only [List.map_cons, lv_args]
        rw [hc, if_neg (by decide)]
        exact List.mem_cons_of_mem _ (by rw [show b + (j + 1) = b + 1 + j by omega]; exact this.1)
theorem LR_entry {E : EP} {as : List AV} {mx : Nat} (h : (iA as).length ≤ mx) (ok : okS as) : LR E (iL mx as) ((lg_sl (as.map (rel E)) ++ List.replicate (mx - (lg_sl (as.map (rel E))).length) Slot.unset).toArray) := by
  rw [iA_len E] at h
  obtain ⟨h1, h2, h3⟩ := lv_entry (as.map (rel E)) h
  have hlen : (iL mx as).length = mx := by
    unfold iL
    rw [List.length_append, List.length_replicate, iA_len E]
    omega
  refine ⟨by rw [hlen]; exact h1, h2, fun j v hj => ?_⟩
  have hj2 : (iA as)[j]? = some (some v) := by
    unfold iL at hj
    by_cases hl : j < (iA as).length
    · rwa [List.getElem?_append_left hl] at hj
    · rw [List.getElem?_append_right (by omega), List.getElem?_replicate] at hj
      split at hj <;> cases hj
  have := iA_args E as 0 j v hj2
  refine ⟨?_, ok v this.2⟩
  have h4 := h3 _ this.1
  simpa using h4
