/-! follows of the model -/
/-- a letter of a word's number -/
theorem wld {f : Nat → Int} {p n k : Nat} (hn : n ≤ 12) (h : ∀ q, q < n → isL (f (p + q)) = true) (hk : k < n) : land (lshr (wvl f p n) (wr (5 * (wr ((wr ((n : Int) - 1)) - (k : Int)))))) 31 = f (p + k) - 96 := by
  have hw := wvl_60 (f := f) (a := p) hn h
  rw [wr_id (x := (n : Int) - 1) (by unfold okI; omega), wr_id (x := (n : Int) - 1 - (k : Int)) (by unfold okI; omega), wr_id (x := 5 * ((n : Int) - 1 - (k : Int))) (by unfold okI; omega)]
  rw [show 5 * ((n : Int) - 1 - (k : Int)) = ((5 * (n - 1 - k) : Nat) : Int) by omega]
  rw [lshr_eq (by unfold okJ; omega) (by omega)]
  have hd := wvl_d (f := f) (a := p) (k + 1) (n - 1 - k) (fun q hq => h q (by omega))
  rw [show k + 1 + (n - 1 - k) = n by omega] at hd
  rw [hd]
  have hb := wvl_60 (f := f) (a := p) (j := k + 1) (by omega) (fun q hq => h q (by omega))
  have hl := isL_i (h k hk)
  have e1 : wvl f p (k + 1) = 32 * wvl f p k + (f (p + k) - 96) := rfl
  obtain ⟨v, hv⟩ : ∃ v : Nat, wvl f p (k + 1) = (v : Int) := ⟨(wvl f p (k + 1)).toNat, by omega⟩
  rw [hv]
  have := land_nat (x := v) (y := 31) (by omega) (by decide)
  have this : land (v : Int) 31 = ((v &&& 31 : Nat) : Int) := this
  have h31 : v &&& 31 = v % 32 := Nat.and_two_pow_sub_one_eq_mod v 5
  rw [this, h31]
  omega
theorem wr3 {a b : Int} (ha : 97 ≤ a ∧ a ≤ 122) (hb : 97 ≤ b ∧ b ≤ 122) : (wr (wr (a - 97) + 1) = wr (b - 96)) ↔ a = b := by
  rw [wr_id (x := a - 97) (by unfold okI; omega), wr_id (x := a - 97 + 1) (by unfold okI; omega), wr_id (x := b - 96) (by unfold okI; omega)]
  omega
theorem wvl_st {f : Nat → Int} {j : Nat} (hj : j + 1 ≤ 12) (h : ∀ q, q < j + 1 → isL (f (0 + q)) = true) : 0 < wvl f 0 (j + 1) ∧ lshr (wvl f 0 (j + 1)) 5 = wvl f 0 j := by
  have b60 := wvl_60 (f := f) (a := 0) (j := j + 1) hj h
  have b61 := wvl_60 (f := f) (a := 0) (j := j) (by omega) (fun p hp => h p (by omega))
  have hd1 := wvl_d (f := f) (a := 0) j 1 h
  have e2 : wvl f 0 (j + 1) = 32 * wvl f 0 j + (f (0 + j) - 96) := rfl
  have x4 := isL_i (h j (by omega))
  have e5 : lshr (wvl f 0 (j + 1)) 5 = wvl f 0 (j + 1) / 2 ^ 5 := lshr_eq (k := 5) (by unfold okJ; omega) (by omega)
  refine ⟨?_, e5.trans hd1⟩
  rw [e2]
  clear e5 hd1 e2 b60
  omega
theorem RM.wd {τ : T2} {c : CO} {i : Nat} (R : RM τ c) (w : WF c) (hi : i < cn c 2) : tI τ 223 i = wvl (cD c 11 i) 0 (wdl c i).length ∧ ∀ q, q < (wdl c i).length → isL (cD c 11 i (0 + q)) = true := by
  have h1 := (wdl_len w hi).1
  refine ⟨?_, fun q hq => ?_⟩
  · rw [R.2.2.1 i hi, ← wen_wvl]
    congr 1
    unfold wdl
    rw [rm_len]
    simp only [Nat.zero_add]
  · have := (w.2.2.2.1 i hi).2 q (by omega)
    rw [Nat.zero_add]
    exact isL_t this.1 this.2
def HD0 (p : Prop) : Prop := p
theorem mc225 {x u : Int} (hu : okI u) : MCx 225 [vR 220, vI x, vI u, none, none, none, none, none, none] (sp_follows x u) := fun d τ S Q hd F C w wx k => by
  have s0 : ∀ τ : T2, FX2 τ → tS τ 220 = (1, 21, 0) := fun τ F => F.sh rfl (by omega) (by omega)
  have w1 := w.1 S.1 (by simp)
  refine t225_0 (by omega) (s0 τ F) ?_
  have k := fun τ2 h => k τ2 (EM.bef (Kp.rf.j (a := 220) (k := 0) (x := 0) (by omega) (by omega)) rfl rfl h)
  have C := C.t0 w F (x := 0)
  have F : FX2 (uI τ 220 0 0) := F.j
  generalize uI τ 220 0 0 = τ at *
  have R := C.1
  have h20 := w1.1.1
  have h40 := w1.1.2.2.1
  have N := F.1
  unfold sp_follows at k
  refine m207 F R.1.1 (fun r hr e => ?_) (fun e => ?_)
  · subst e
    rw [if_pos (by omega), Int.toNat_natCast] at k
    have ho := (R.2.2.2.2 r hr).2.2
    refine t225_10 (q3 := 221) (n5 := 20) (q8 := 336 + 4 * r) (by omega) (s0 τ F) (F.p rfl) (F.sh rfl (by omega) (by omega)) (fun _ => by omega) (fun _ => by rw [Int.toNat_natCast]; exact F.p (ptM r (by omega)).1) (F.sh (shM r (by omega)).1 (by omega) (by omega)) (fun _ e => ?_) (fun _ q e => ?_) (fun z => absurd z (by decide))
    · have em : mak S.1 r u = none := by unfold mak; rw [ho.nn e]
      rw [em] at k
      exact m163 F (t225_48 (k _ (EM.rfs F C w)))
    · obtain ⟨f, hf, wo⟩ := ho.ss e
      have em : mak S.1 r u = f (ltr S.1) u := by unfold mak; rw [hf]
      refine t225_33 (r3 := some q) (by omega) (s0 τ F) ?_
      refine wo τ (d - 1) _ (ltr S.1) u (by omega) Fr.rf F (anl w1 hr) (R.anm w1 hr) hu (fun τ2 o n2 z2 hfn => ?_) (fun τ2 l o n2 z2 hfs hl24 e1 hL => ?_)
      all_goals
        have F2 := FX_made F o
        have C2 : MI τ2 S := C.oc w F o (fun a k z => by unfold MaM at z; unfold FM DM AMP; omega)
        have k := fun τ3 h => k τ3 (EM.bef (o.kp (fun a k z => by unfold MaM at z; omega)) n2 z2 h)
      · rw [em, hfn] at k
        exact t225_39 (by omega) (s0 _ F2) (fun z => absurd rfl z) (fun _ => m163 F2 (t225_48 (k _ (EM.rfs F2 C2 w))))
      · have hlb := (mak_b w wx hr (em.trans hfs)).2
        rw [em, hfs] at k
        have R2 : RM τ2 S.1 := C2.1
        have en := R2.1.2.2
        refine t225_39 (by omega) (s0 _ F2) (fun _ => ?_) (fun z => absurd z (by decide))
        have lp : ∀ (j i : Nat), i + j = cn S.1 2 → G d 225 55 [vR 220, none, none, none, vI ((cnt (fun i => alk (wdl S.1 i) l) i : Nat) : Int), vI (i : Int), none, none, none] [] τ2 Q := by
          intro j
          induction j with
          | zero =>
            intro i hi
            have e : i = cn S.1 2 := by omega
            rw [e]
            exact t225_55 (q3 := 223) (n5 := 40) (by omega) (s0 _ F2) (F2.p rfl) (F2.sh rfl (by omega) (by omega)) (fun z => by rw [en] at z; omega) (fun _ => m165 F2 (t225_217 (k _ (EM.rfs F2 C2 w)))) (fun z => by rw [en] at z; omega)
          | succ j ih =>
            intro i hi
            have hi2 : i < cn S.1 2 := by omega
            obtain ⟨b1, b2, b3⟩ := wdl_len w1 hi2
            obtain ⟨y1', y2⟩ := R2.wd w1 hi2
            have y1 : HD0 (tI τ2 223 i = wvl (cD S.1 11 i) 0 (wdl S.1 i).length) := y1'
            clear y1'
            have bc := cnt_le (fun i => alk (wdl S.1 i) l) i
            have nx0 : alk (wdl S.1 i) l = false → G d 225 55 [vR 220, none, none, none, vI (wr (((cnt (fun i => alk (wdl S.1 i) l) i : Nat) : Int) + 0)), vI (wr ((i : Int) + 1)), none, none, none] [] τ2 Q := fun hb => by
              rw [wr_nat (by omega), Int.add_zero, wr_id (by unfold okI; omega), ← cnt_f (p := fun i => alk (wdl S.1 i) l) (n := i) hb]
              exact ih (i + 1) (by omega)
            have nx1 : alk (wdl S.1 i) l = true → G d 225 55 [vR 220, none, none, none, vI (wr (((cnt (fun i => alk (wdl S.1 i) l) i : Nat) : Int) + 1)), vI (wr ((i : Int) + 1)), none, none, none] [] τ2 Q := fun hb => by
              rw [wr_nat (by omega), wr_nat (by omega), ← cnt_t (p := fun i => alk (wdl S.1 i) l) (n := i) hb]
              exact ih (i + 1) (by omega)
            have get : ∀ q, q < (wdl S.1 i).length → byt (wdl S.1 i) q = cD S.1 11 i (0 + q) := fun q hq => by rw [wdl_get hq, Nat.zero_add]
            generalize (cnt (fun i => alk (wdl S.1 i) l) i) = ct at *
            have out : ∀ q : Nat, alk (wdl S.1 i) l = false → G d 225 114 [vR 220, none, none, none, vI (ct : Int), vI (i : Int), vI ((wdl S.1 i).length : Int), vI 0, vI (q : Int)] [] τ2 Q := fun q hb => t225_114 (q6 := 231) (n8 := 37) (q12 := 223) (n14 := 40) (s0 _ F2) (F2.p rfl) (F2.sh rfl (by omega) (by omega)) (fun _ z => absurd rfl z) (F2.p rfl) (F2.sh rfl (by omega) (by omega)) (fun _ z => absurd rfl z) (fun _ _ => nx0 hb) (fun _ z => absurd rfl z) (fun _ _ _ => nx0 hb) (fun _ _ z => absurd rfl z) (fun _ z => absurd rfl z) (fun _ z => absurd rfl z) (fun _ z => absurd rfl z)
            generalize hW : wdl S.1 i = W at *
            have lq : W.length = l.length → ∀ (j q : Nat), q + j = l.length → (∀ p, p < q → byt l p = 63 ∨ byt l p = byt W p) → G d 225 114 [vR 220, none, none, none, vI (ct : Int), vI (i : Int), vI (W.length : Int), vI 1, vI (q : Int)] [] τ2 Q := by
              intro hWl j
              induction j with
              | zero =>
                intro q hq hp
                exact t225_114 (q6 := 231) (n8 := 37) (q12 := 223) (n14 := 40) (s0 _ F2) (F2.p rfl) (F2.sh rfl (by omega) (by omega)) (fun z _ => by rw [e1] at z; omega) (F2.p rfl) (F2.sh rfl (by omega) (by omega)) (fun z _ _ => by rw [e1] at z; omega) (fun _ z => absurd z (by decide)) (fun _ _ => nx1 (alk_t hWl (fun p hp1 => hp p (by omega)))) (fun _ z => absurd z (by decide)) (fun _ z => absurd z (by decide)) (fun z => by rw [e1] at z; omega) (fun z => by rw [e1] at z; omega) (fun z => by rw [e1] at z; omega)
              | succ j ih2 =>
                intro q hq hp
                have x1 : tI τ2 231 q = byt l q := hL q (by omega)
                have w12 : W.length ≤ 12 := by omega
                have qW : q < W.length := by omega
                have x3 := get q (by omega)
                have x4 := isL_i (y2 q (by omega))
                have x5 : byt l q = 63 ∨ (97 ≤ byt l q ∧ byt l q ≤ 122) := by
                  unfold byt
                  rw [List.getD_eq_getElem?_getD, List.getElem?_eq_getElem (show q < l.length by omega)]
                  exact hlb _ (List.getElem_mem _)
                have nx : (byt l q = 63 ∨ byt l q = byt W q) → G d 225 114 [vR 220, none, none, none, vI (ct : Int), vI (i : Int), vI (W.length : Int), vI 1, vI (wr ((q : Int) + 1))] [] τ2 Q := fun z => by
                  rw [wr_nat (by omega)]
                  refine ih2 (q + 1) (by omega) (fun p hp1 => ?_)
                  by_cases e : p = q
                  · rw [e]; exact z
                  · exact hp p (by omega)
                refine t225_114 (q6 := 231) (n8 := 37) (q12 := 223) (n14 := 40) (s0 _ F2) (F2.p rfl) (F2.sh rfl (by omega) (by omega)) (fun _ _ => by omega) (F2.p rfl) (F2.sh rfl (by omega) (by omega)) (fun _ _ _ => by omega) (fun z => by rw [e1] at z; omega) (fun z => by rw [e1] at z; omega) (fun _ z => absurd z (by decide)) (fun _ z => absurd z (by decide)) (fun _ _ z => ?_) (fun _ _ y z => ?_) (fun _ _ y z => ?_)
                · rw [Int.toNat_natCast, x1] at z
                  exact nx (Or.inl z)
                · rw [Int.toNat_natCast, x1] at y
                  rw [Int.toNat_natCast, Int.toNat_natCast, x1, (show tI τ2 223 i = wvl (cD S.1 11 i) 0 W.length from y1), wld (f := cD S.1 11 i) (p := 0) (n := W.length) (k := q) w12 y2 qW, wr3 (x5.resolve_left y) x4] at z
                  rw [wr_nat (by omega)]
                  exact out (q + 1) (alk_f (fun h => (h.2 q (by omega)).elim y (fun g => z (by rw [g, x3]))))
                · rw [Int.toNat_natCast, x1] at y
                  rw [Int.toNat_natCast, Int.toNat_natCast, x1, (show tI τ2 223 i = wvl (cD S.1 11 i) 0 W.length from y1), wld (f := cD S.1 11 i) (p := 0) (n := W.length) (k := q) w12 y2 qW, wr3 (x5.resolve_left y) x4] at z
                  exact nx (Or.inr (by rw [x3]; exact z))
            have ln : ∀ (j q : Nat), j + q = W.length → G d 225 76 [vR 220, none, none, none, vI (ct : Int), vI (i : Int), vI (q : Int), vJ (wvl (cD S.1 11 i) 0 j), none] [] τ2 Q := by
              intro j
              induction j with
              | zero =>
                intro q hq
                have eq : q = W.length := by omega
                refine t225_76 (s0 _ F2) (fun zz z => ?_) (fun zz z => ?_) (fun z => absurd z (show ¬ 0 < lcm 0 0 by decide))
                · clear zz
                  rw [e1] at z
                  rw [eq]
                  exact out 0 (alk_f (fun h => z (by omega)))
                · clear zz
                  rw [e1] at z
                  rw [eq]
                  exact lq (by omega) l.length 0 (by omega) (fun p hp => by omega)
              | succ j ih3 =>
                intro q hq
                obtain ⟨hp, e5⟩ := wvl_st (f := cD S.1 11 i) (j := j) (by omega) (fun p hp => y2 p (by omega))
                have hc := lcm_p hp
                refine t225_76 (s0 _ F2) (fun z => absurd z (by rw [hc]; decide)) (fun z => absurd z (by rw [hc]; decide)) (fun zz => ?_)
                clear zz hc hp
                rw [e5]
                clear e5
                rw [wr_nat (by omega)]
                exact ih3 (q + 1) (by omega)
            refine t225_55 (q3 := 223) (n5 := 40) (by omega) (s0 _ F2) (F2.p rfl) (F2.sh rfl (by omega) (by omega)) (fun _ => by omega) (fun z => by rw [en] at z; omega) (fun _ => ?_)
            rw [Int.toNat_natCast, (show tI τ2 223 i = wvl (cD S.1 11 i) 0 W.length from y1)]
            exact ln W.length 0 (by omega)
        exact lp (cn S.1 2) 0 (by omega)
  · rw [if_neg (by omega)] at k
    exact t225_10 (q3 := 221) (n5 := 20) (q8 := 336) (by omega) (s0 τ F) (F.p rfl) (F.sh rfl (by omega) (by omega)) (fun z => absurd rfl z) (fun z => absurd rfl z) (F.sh rfl (by omega) (by omega)) (fun z => absurd rfl z) (fun z => absurd rfl z) (fun _ => m163 F (t225_18 (k _ (EM.rfs F C w))))
