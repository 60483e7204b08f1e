/-! a text's length and its signs -/
def jStr : String := "java/lang/String"
def jLat : String := "java/lang/StringLatin1"
def jPre : String := "jdk/internal/util/Preconditions"
def yLen : MethodName := ⟨jStr, "length", "()I"⟩
def yChr : MethodName := ⟨jStr, "charAt", "(I)C"⟩
def yCod : MethodName := ⟨jStr, "coder", "()B"⟩
def yLat : MethodName := ⟨jStr, "isLatin1", "()Z"⟩
def yCkx : MethodName := ⟨jStr, "checkIndex", "(II)V"⟩
def yChl : MethodName := ⟨jLat, "charAt", "([BI)C"⟩
def yCkp : MethodName := ⟨jPre, "checkIndex", "(IILjava/util/function/BiFunction;)I"⟩
theorem dj_len_0 : decode prog_31_method_54_code 0 = .ok (.aload_n 0, 1) := by decide +kernel
theorem dj_len_1 : decode prog_31_method_54_code 1 = .ok (.getfield 9, 3) := by decide +kernel
theorem dj_len_4 : decode prog_31_method_54_code 4 = .ok (.arraylength, 1) := by decide +kernel
theorem dj_len_5 : decode prog_31_method_54_code 5 = .ok (.aload_n 0, 1) := by decide +kernel
theorem dj_len_6 : decode prog_31_method_54_code 6 = .ok (.invokevirtual 335, 3) := by decide +kernel
theorem dj_len_9 : decode prog_31_method_54_code 9 = .ok (.ishr, 1) := by decide +kernel
theorem dj_len_10 : decode prog_31_method_54_code 10 = .ok (.ireturn, 1) := by decide +kernel
theorem dj_chr_0 : decode prog_31_method_56_code 0 = .ok (.aload_n 0, 1) := by decide +kernel
theorem dj_chr_1 : decode prog_31_method_56_code 1 = .ok (.invokevirtual 492, 3) := by decide +kernel
theorem dj_chr_4 : decode prog_31_method_56_code 4 = .ok (.ifCond .eq 12, 3) := by decide +kernel
theorem dj_chr_7 : decode prog_31_method_56_code 7 = .ok (.aload_n 0, 1) := by decide +kernel
theorem dj_chr_8 : decode prog_31_method_56_code 8 = .ok (.getfield 9, 3) := by decide +kernel
theorem dj_chr_11 : decode prog_31_method_56_code 11 = .ok (.iload_n 1, 1) := by decide +kernel
theorem dj_chr_12 : decode prog_31_method_56_code 12 = .ok (.invokestatic 495, 3) := by decide +kernel
theorem dj_chr_15 : decode prog_31_method_56_code 15 = .ok (.ireturn, 1) := by decide +kernel
theorem dj_chr_16 : decode prog_31_method_56_code 16 = .ok (.aload_n 0, 1) := by decide +kernel
theorem dj_chr_17 : decode prog_31_method_56_code 17 = .ok (.getfield 9, 3) := by decide +kernel
theorem dj_chr_20 : decode prog_31_method_56_code 20 = .ok (.iload_n 1, 1) := by decide +kernel
theorem dj_chr_21 : decode prog_31_method_56_code 21 = .ok (.invokestatic 498, 3) := by decide +kernel
theorem dj_chr_24 : decode prog_31_method_56_code 24 = .ok (.ireturn, 1) := by decide +kernel
theorem dj_cod_0 : decode prog_31_method_152_code 0 = .ok (.getstatic 38, 3) := by decide +kernel
theorem dj_cod_3 : decode prog_31_method_152_code 3 = .ok (.ifCond .eq 10, 3) := by decide +kernel
theorem dj_cod_6 : decode prog_31_method_152_code 6 = .ok (.aload_n 0, 1) := by decide +kernel
theorem dj_cod_7 : decode prog_31_method_152_code 7 = .ok (.getfield 15, 3) := by decide +kernel
theorem dj_cod_10 : decode prog_31_method_152_code 10 = .ok (.goto 4, 3) := by decide +kernel
theorem dj_cod_13 : decode prog_31_method_152_code 13 = .ok (.iconst 1, 1) := by decide +kernel
theorem dj_cod_14 : decode prog_31_method_152_code 14 = .ok (.ireturn, 1) := by decide +kernel
theorem dj_lat_0 : decode prog_31_method_154_code 0 = .ok (.getstatic 38, 3) := by decide +kernel
theorem dj_lat_3 : decode prog_31_method_154_code 3 = .ok (.ifCond .eq 14, 3) := by decide +kernel
theorem dj_lat_6 : decode prog_31_method_154_code 6 = .ok (.aload_n 0, 1) := by decide +kernel
theorem dj_lat_7 : decode prog_31_method_154_code 7 = .ok (.getfield 15, 3) := by decide +kernel
theorem dj_lat_10 : decode prog_31_method_154_code 10 = .ok (.ifCond .ne 7, 3) := by decide +kernel
theorem dj_lat_13 : decode prog_31_method_154_code 13 = .ok (.iconst 1, 1) := by decide +kernel
theorem dj_lat_14 : decode prog_31_method_154_code 14 = .ok (.goto 4, 3) := by decide +kernel
theorem dj_lat_17 : decode prog_31_method_154_code 17 = .ok (.iconst 0, 1) := by decide +kernel
theorem dj_lat_18 : decode prog_31_method_154_code 18 = .ok (.ireturn, 1) := by decide +kernel
theorem dj_ckx_0 : decode prog_31_method_155_code 0 = .ok (.iload_n 0, 1) := by decide +kernel
theorem dj_ckx_1 : decode prog_31_method_155_code 1 = .ok (.iload_n 1, 1) := by decide +kernel
theorem dj_ckx_2 : decode prog_31_method_155_code 2 = .ok (.getstatic 1053, 3) := by decide +kernel
theorem dj_ckx_5 : decode prog_31_method_155_code 5 = .ok (.invokestatic 1059, 3) := by decide +kernel
theorem dj_ckx_8 : decode prog_31_method_155_code 8 = .ok (.pop, 1) := by decide +kernel
theorem dj_ckx_9 : decode prog_31_method_155_code 9 = .ok (.return_, 1) := by decide +kernel
theorem dj_chl_0 : decode prog_32_method_2_code 0 = .ok (.iload_n 1, 1) := by decide +kernel
theorem dj_chl_1 : decode prog_32_method_2_code 1 = .ok (.aload_n 0, 1) := by decide +kernel
theorem dj_chl_2 : decode prog_32_method_2_code 2 = .ok (.arraylength, 1) := by decide +kernel
theorem dj_chl_3 : decode prog_32_method_2_code 3 = .ok (.invokestatic 9, 3) := by decide +kernel
theorem dj_chl_6 : decode prog_32_method_2_code 6 = .ok (.aload_n 0, 1) := by decide +kernel
theorem dj_chl_7 : decode prog_32_method_2_code 7 = .ok (.iload_n 1, 1) := by decide +kernel
theorem dj_chl_8 : decode prog_32_method_2_code 8 = .ok (.baload, 1) := by decide +kernel
theorem dj_chl_9 : decode prog_32_method_2_code 9 = .ok (.sipush 255, 3) := by decide +kernel
theorem dj_chl_12 : decode prog_32_method_2_code 12 = .ok (.iand, 1) := by decide +kernel
theorem dj_chl_13 : decode prog_32_method_2_code 13 = .ok (.i2c, 1) := by decide +kernel
theorem dj_chl_14 : decode prog_32_method_2_code 14 = .ok (.ireturn, 1) := by decide +kernel
theorem dj_ckp_0 : decode prog_48_method_11_code 0 = .ok (.iload_n 0, 1) := by decide +kernel
theorem dj_ckp_1 : decode prog_48_method_11_code 1 = .ok (.ifCond .lt 8, 3) := by decide +kernel
theorem dj_ckp_4 : decode prog_48_method_11_code 4 = .ok (.iload_n 0, 1) := by decide +kernel
theorem dj_ckp_5 : decode prog_48_method_11_code 5 = .ok (.iload_n 1, 1) := by decide +kernel
theorem dj_ckp_6 : decode prog_48_method_11_code 6 = .ok (.if_icmp .lt 10, 3) := by decide +kernel
theorem dj_ckp_9 : decode prog_48_method_11_code 9 = .ok (.aload_n 2, 1) := by decide +kernel
theorem dj_ckp_10 : decode prog_48_method_11_code 10 = .ok (.iload_n 0, 1) := by decide +kernel
theorem dj_ckp_11 : decode prog_48_method_11_code 11 = .ok (.iload_n 1, 1) := by decide +kernel
theorem dj_ckp_12 : decode prog_48_method_11_code 12 = .ok (.invokestatic 95, 3) := by decide +kernel
theorem dj_ckp_15 : decode prog_48_method_11_code 15 = .ok (.athrow, 1) := by decide +kernel
theorem dj_ckp_16 : decode prog_48_method_11_code 16 = .ok (.iload_n 0, 1) := by decide +kernel
theorem dj_ckp_17 : decode prog_48_method_11_code 17 = .ok (.ireturn, 1) := by decide +kernel
theorem w_len1 : Cond.methodLink (oN 9) 60 yLen ∈ lw_tbl := wAt_in (q := (2, 224)) (by decide +kernel)
theorem w_len2 : Cond.methodLink (oN 21) 165 yLen ∈ lw_tbl := wAt_in (q := (7, 75)) (by decide +kernel)
theorem w_len3 : Cond.instanceMethod yLen ∈ lw_tbl := wAt_in (q := (2, 225)) (by decide +kernel)
theorem w_len4 : Cond.selects jStr yLen yLen ∈ lw_tbl := wAt_in (q := (2, 226)) (by decide +kernel)
theorem w_len5 : Cond.code yLen prog_31_method_54_code 1 (some .int) ∈ lw_tbl := wAt_in (q := (2, 227)) (by decide +kernel)
theorem w_chr1 : Cond.methodLink (oN 9) 65 yChr ∈ lw_tbl := wAt_in (q := (2, 234)) (by decide +kernel)
theorem w_chr2 : Cond.methodLink (oN 21) 171 yChr ∈ lw_tbl := wAt_in (q := (7, 76)) (by decide +kernel)
theorem w_chr3 : Cond.instanceMethod yChr ∈ lw_tbl := wAt_in (q := (2, 235)) (by decide +kernel)
theorem w_chr4 : Cond.selects jStr yChr yChr ∈ lw_tbl := wAt_in (q := (2, 236)) (by decide +kernel)
theorem w_chr5 : Cond.code yChr prog_31_method_56_code 2 (some .char) ∈ lw_tbl := wAt_in (q := (2, 237)) (by decide +kernel)
theorem w_cod1 : Cond.methodLink jStr 335 yCod ∈ lw_tbl := wAt_in (q := (2, 228)) (by decide +kernel)
theorem w_cod3 : Cond.instanceMethod yCod ∈ lw_tbl := wAt_in (q := (2, 229)) (by decide +kernel)
theorem w_cod4 : Cond.selects jStr yCod yCod ∈ lw_tbl := wAt_in (q := (2, 230)) (by decide +kernel)
theorem w_cod5 : Cond.code yCod prog_31_method_152_code 1 (some .byte) ∈ lw_tbl := wAt_in (q := (2, 231)) (by decide +kernel)
theorem w_lat1 : Cond.methodLink jStr 492 yLat ∈ lw_tbl := wAt_in (q := (2, 238)) (by decide +kernel)
theorem w_lat3 : Cond.instanceMethod yLat ∈ lw_tbl := wAt_in (q := (2, 239)) (by decide +kernel)
theorem w_lat4 : Cond.selects jStr yLat yLat ∈ lw_tbl := wAt_in (q := (3, 0)) (by decide +kernel)
theorem w_lat5 : Cond.code yLat prog_31_method_154_code 1 (some .boolean) ∈ lw_tbl := wAt_in (q := (3, 1)) (by decide +kernel)
theorem w_ckx1 : Cond.methodLink jLat 9 yCkx ∈ lw_tbl := wAt_in (q := (3, 5)) (by decide +kernel)
theorem w_ckx3 : Cond.static yCkx ∈ lw_tbl := wAt_in (q := (3, 6)) (by decide +kernel)
theorem w_ckx5 : Cond.code yCkx prog_31_method_155_code 2 none ∈ lw_tbl := wAt_in (q := (3, 7)) (by decide +kernel)
theorem w_ckp1 : Cond.methodLink jStr 1059 yCkp ∈ lw_tbl := wAt_in (q := (3, 10)) (by decide +kernel)
theorem w_ckp3 : Cond.static yCkp ∈ lw_tbl := wAt_in (q := (3, 11)) (by decide +kernel)
theorem w_ckp5 : Cond.code yCkp prog_48_method_11_code 3 (some .int) ∈ lw_tbl := wAt_in (q := (3, 12)) (by decide +kernel)
theorem w_chl1 : Cond.methodLink jStr 495 yChl ∈ lw_tbl := wAt_in (q := (3, 2)) (by decide +kernel)
theorem w_chl3 : Cond.static yChl ∈ lw_tbl := wAt_in (q := (3, 3)) (by decide +kernel)
theorem w_chl5 : Cond.code yChl prog_32_method_2_code 2 (some .char) ∈ lw_tbl := wAt_in (q := (3, 4)) (by decide +kernel)
theorem w_ini1 : Cond.initialized jStr ∈ lw_tbl := wAt_in (q := (1, 20)) (by decide +kernel)
theorem w_ini2 : Cond.initialized jLat ∈ lw_tbl := wAt_in (q := (1, 21)) (by decide +kernel)
theorem w_ini3 : Cond.initialized jPre ∈ lw_tbl := wAt_in (q := (1, 22)) (by decide +kernel)
theorem w_fld1 : Cond.fieldLink jStr 38 jStr "COMPACT_STRINGS" "Z" ∈ lw_tbl := wAt_in (q := (2, 232)) (by decide +kernel)
theorem w_fld2 : Cond.fieldLink jStr 1053 jPre "SIOOBE_FORMATTER" "Ljava/util/function/BiFunction;" ∈ lw_tbl := wAt_in (q := (3, 8)) (by decide +kernel)
theorem w_fld3 : Cond.fieldLink jStr 9 jStr "value" "[B" ∈ lw_tbl := wAt_in (q := (9, 133)) (by decide +kernel)
theorem w_fld4 : Cond.fieldLink jStr 15 jStr "coder" "B" ∈ lw_tbl := wAt_in (q := (9, 134)) (by decide +kernel)
theorem str_ln : (STRs.all fun x => decide (x.2.length < 1000)) = true := by decide +kernel
theorem str_lo : (STRs.all fun x => decide (x.1 < 64) && (x.2.all fun y => decide (y < 128))) = true := by decide +kernel
theorem ch_ok : ∀ c : Nat, c < 128 → ((i3 c &&& 255) = i3 c ∧ ((i3 c).toUInt32 % 65536).toInt32 = i3 c ∧ narrow .char (.int (i3 c)) = .int (i3 c)) := by decide +kernel
theorem STR_lt {a : Nat} {tx : List Nat} (h : STR a = some tx) (k : Nat) : tx.getD k 0 < 128 := by
  have h9 := List.all_eq_true.mp str_lo _ (lk_mem (l := STRs) h)
  simp only [Bool.and_eq_true] at h9
  rw [List.getD_eq_getElem?_getD]
  cases hk : tx[k]? with
  | none => decide
  | some y => simpa using List.all_eq_true.mp h9.2 y (List.mem_of_getElem? hk)
theorem STR_len {a : Nat} {tx : List Nat} (h : STR a = some tx) : tx.length < 1000 := by
  have h9 := List.all_eq_true.mp str_ln _ (lk_mem (l := STRs) h)
  simpa using h9
theorem np_3 : nPar yCkp = some 3 := by decide +kernel
theorem np_2 : nPar yCkx = some 2 := by decide +kernel
theorem np_2l : nPar yChl = some 2 := by decide +kernel
theorem np_1 : nPar yChr = some 1 := by decide +kernel
theorem cutS (E : EP) (a : Nat) (h : (STR a).isSome = true) : adr E a = eX E a := by
  have ha : a < 64 := by
    obtain ⟨x, hx⟩ := Option.isSome_iff_exists.mp h
    have := List.all_eq_true.mp str_lo _ (lk_mem (l := STRs) hx)
    simp only [Bool.and_eq_true, decide_eq_true_eq] at this
    exact this.1
  unfold adr
  rw [if_pos ha]
section STRS
variable {l : Launch} {s0 : State} {a0 : Array Value} {E : EP} {σ : ST} {a : Nat} {tx : List Nat}
/-- facts of a text, at a later state -/
theorem str_at {own : String} {p : Program} {s : State} {m : MethodId} (F : FX l a0 s0 E own p s m) (hst : STR a = some tx) : ∃ v : Nat, va_OF jStr "coder" "B" (.int 0) (eX E a) (AE E) s s.heap ∧ va_OF jStr "value" "[B" (.ref v) (eX E a) (AE E) s s.heap ∧ va_T .byte v tx.length (fun j => .int (i3 (tx.getD j 0 : Nat))) (AE E) s s.heap := by
  obtain ⟨v, -, h2, h3, h4⟩ := F.1.2.2.2.2.2.2.2.1.2.1 a tx hst
  have hA := F.2.2.1.alike
  exact ⟨v, (va_OF.moved hA h2).kept F.kp, (va_OF.moved hA h3).kept F.kp, (va_T.moved hA h4).kept F.kp⟩
theorem cmp_at {own : String} {p : Program} {s : State} {m : MethodId} (F : FX l a0 s0 E own p s m) : va_Z jStr "COMPACT_STRINGS" "Z" (.int 1) (AE E) s s.heap := (va_Z.moved F.2.2.1.alike F.1.2.2.2.2.2.2.2.1.2.2.1).kept F.kp
/-- coder() -/
theorem jm_cod (hE : EV l a0 s0 E) (hst : STR a = some tx) : JM l s0 E 0 yCod prog_31_method_152_code 1 (some .byte) [.ref (eX E a)] (some (.int 0)) σ := by
  refine JM_of hE (by decide) fun {p e s m below meth c} F hb hml hrt hlk hH => ?_
  obtain ⟨v, k1, k2, k3⟩ := str_at F hst
  have hx := F.2.1
  have hS := F.S hH hH (locs := []) (fun q hq => nomatch hq)
  rw [lg_entry_eq]
  refine va_gets hx hb (cmp_at F) hS F.2.2.2.2 (F.word w_fld1 rfl) (fun x h => h) dj_cod_0 ?_
  refine lv_if_eq hx hb (tgt := 13) dj_cod_3 rfl (fun h => absurd h (by decide)) fun _ => ?_
  refine lv_aload_n hx hb (i := 0) (x := eX E a) dj_cod_6 rfl rfl ?_
  refine vk_getf hx hb k1 hS F.2.2.2.2 (F.word w_fld4 rfl) (fun x h => h) dj_cod_7 ?_
  refine lv_goto hx hb (tgt := 14) dj_cod_10 rfl ?_
  exact W.zret (v := 0) hx hb hrt (by decide) (fun t ht _ => ⟨rfl, by rw [ht]; exact hH⟩) (fun q hq => nomatch hq) dj_cod_14 hlk
/-- isLatin1() -/
theorem jm_lat (hE : EV l a0 s0 E) (hst : STR a = some tx) : JM l s0 E 0 yLat prog_31_method_154_code 1 (some .boolean) [.ref (eX E a)] (some (.int 1)) σ := by
  refine JM_of hE (by decide) fun {p e s m below meth c} F hb hml hrt hlk hH => ?_
  obtain ⟨v, k1, k2, k3⟩ := str_at F hst
  have hx := F.2.1
  have hS := F.S hH hH (locs := []) (fun q hq => nomatch hq)
  rw [lg_entry_eq]
  refine va_gets hx hb (cmp_at F) hS F.2.2.2.2 (F.word w_fld1 rfl) (fun x h => h) dj_lat_0 ?_
  refine lv_if_eq hx hb (tgt := 17) dj_lat_3 rfl (fun h => absurd h (by decide)) fun _ => ?_
  refine lv_aload_n hx hb (i := 0) (x := eX E a) dj_lat_6 rfl rfl ?_
  refine vk_getf hx hb k1 hS F.2.2.2.2 (F.word w_fld4 rfl) (fun x h => h) dj_lat_7 ?_
  refine lv_if_ne hx hb (tgt := 17) dj_lat_10 rfl (fun h => absurd rfl h) fun _ => ?_
  refine lv_iconst hx hb (v := 1) dj_lat_13 rfl ?_
  refine lv_goto hx hb (tgt := 18) dj_lat_14 rfl ?_
  exact W.zret (v := 1) hx hb hrt (by decide) (fun t ht _ => ⟨rfl, by rw [ht]; exact hH⟩) (fun q hq => nomatch hq) dj_lat_18 hlk
/-- Preconditions.checkIndex -/
theorem jm_ckp (hE : EV l a0 s0 E) {i n : Int32} {w : Value} (hw : w.isRef = true) (h0 : ¬ i < 0) (h1 : i < n) : JM l s0 E 0 yCkp prog_48_method_11_code 3 (some .int) [.int i, .int n, w] (some (.int i)) σ := by
  have hcw : w.category = 1 := by cases w <;> first | rfl | simp [Value.isRef] at hw
  refine JM_of hE (by decide) fun {p e s m below meth c} F hb hml hrt hlk hH => ?_
  have hx := F.2.1
  rw [lg_entry_eq]
  refine lv_iload_n hx hb (i := 0) (x := i) dj_ckp_0 rfl rfl ?_
  refine lv_if_lt hx hb (tgt := 9) dj_ckp_1 rfl (fun h => absurd h h0) fun _ => ?_
  refine lv_iload_n hx hb (i := 0) (x := i) dj_ckp_4 rfl rfl ?_
  refine lv_iload_n hx hb (i := 1) (x := n) dj_ckp_5 rfl rfl ?_
  refine lv_icmp_lt hx hb (tgt := 16) dj_ckp_6 rfl (fun _ => ?_) fun h => absurd h1 h
  refine lv_iload_n hx hb (i := 0) (x := i) dj_ckp_16 rfl rfl ?_
  exact W.iret (v := i) hx hb hrt (fun t ht _ => ⟨rfl, by rw [ht]; exact hH⟩) (fun q hq => nomatch hq) dj_ckp_17 hlk
/-- String.checkIndex -/
theorem jm_ckx (hE : EV l a0 s0 E) {i n : Int32} (h0 : ¬ i < 0) (h1 : i < n) : JM l s0 E 1 yCkx prog_31_method_155_code 2 none [.int i, .int n] none σ := by
  obtain ⟨w, hw, hZ⟩ := hE.2.2.2.2.2.2.2.1.2.2.2.1
  have hcw : w.category = 1 := by cases w <;> first | rfl | simp [Value.isRef] at hw
  refine JM_of hE (by decide) fun {p e s m below meth c} F hb hml hrt hlk hH => ?_
  have hx := F.2.1
  have hS := F.S hH hH (locs := []) (fun q hq => nomatch hq)
  rw [lg_entry_eq]
  refine lv_iload_n hx hb (i := 0) (x := i) dj_ckx_0 rfl rfl ?_
  refine lv_iload_n hx hb (i := 1) (x := n) dj_ckx_1 rfl rfl ?_
  refine va_gets hx hb ((va_Z.moved F.2.2.1.alike hZ).kept F.kp) hS F.2.2.2.2 (F.word w_fld2 rfl) (fun x h => h) dj_ckx_2 ?_
  refine jcall_s (av := [.int i, .int n, w]) (rest := []) F hb (jm_ckp hE hw h0 h1) dj_ckx_5 w_ckp1 w_ckp3 w_ini3 w_ckp5 (by decide) np_3 hH (fun q hq => nomatch hq) (by rw [hml]; rfl) (by decide) (by decide) (Nat.le_refl _) (Nat.le_refl _) (Nat.zero_le _) (Nat.zero_le _) fun H1 locs1 hH1 hl1 => ?_
  refine lv_pop hx hb (va := .int i) dj_ckx_8 rfl ?_
  exact W.vret hx hb hrt (fun t ht _ => ⟨rfl, by rw [ht]; exact hH1⟩) hl1 dj_ckx_9 hlk
/-- StringLatin1.charAt -/
theorem jm_chl (hE : EV l a0 s0 E) (hst : STR a = some tx) {v : Nat} (hT : va_T .byte v tx.length (fun j => .int (i3 (tx.getD j 0 : Nat))) (AE E) s0 s0.heap) {k : Int} (h0 : 0 ≤ k) (h1 : k < tx.length) : JM l s0 E 2 yChl prog_32_method_2_code 2 (some .char) [.ref v, .int (i3 k)] (some (.int (i3 (tx.getD k.toNat 0 : Nat)))) σ := by
  have hln := STR_len hst
  have ok : okI k := by unfold okI; omega
  have on : okI (tx.length : Int) := by unfold okI; omega
  obtain ⟨c1, c2, c3⟩ := ch_ok _ (STR_lt hst k.toNat)
  refine JM_of hE (by decide) fun {p e s m below meth c} F hb hml hrt hlk hH => ?_
  have hx := F.2.1
  have hS := F.S hH hH (locs := []) (fun q hq => nomatch hq)
  have hT1 := (va_T.moved F.2.2.1.alike hT).kept F.kp
  rw [lg_entry_eq]
  refine lv_iload_n hx hb (i := 1) (x := i3 k) dj_chl_0 rfl rfl ?_
  refine lv_aload_n hx hb (i := 0) (x := v) dj_chl_1 rfl rfl ?_
  refine va_tlen hx hb hT1 hS (v := i3 (tx.length : Int)) rfl dj_chl_2 ?_
  refine jcall_s (av := [.int (i3 k), .int (i3 (tx.length : Int))]) (rest := []) F hb (jm_ckx hE (i3_nn ok h0) ((i3_lt ok on).mpr h1)) dj_chl_3 w_ckx1 w_ckx3 w_ini1 w_ckx5 (by decide) np_2 hH (fun q hq => nomatch hq) (by rw [hml]; rfl) (by decide) (by decide) (Nat.le_refl _) (Nat.le_refl _) (Nat.zero_le _) (Nat.zero_le _) fun H1 locs1 hH1 hl1 => ?_
  refine lv_aload_n hx hb (i := 0) (x := v) dj_chl_6 rfl rfl ?_
  refine lv_iload_n hx hb (i := 1) (x := i3 k) dj_chl_7 rfl rfl ?_
  refine va_tb hx hb hT1 (F.S hH1 hH hl1) (i3_in ok h0 h1) (v := .int (i3 (tx.getD k.toNat 0 : Nat))) (by rw [i3_clamp ok]) dj_chl_8 ?_
  refine lv_sipush hx hb (v := 255) dj_chl_9 (by decide) ?_
  refine lv_iand hx hb dj_chl_12 ?_
  rw [c1]
  refine lv_i2c hx hb dj_chl_13 c2 ?_
  exact W.zret hx hb hrt c3 (fun t ht _ => ⟨rfl, by rw [ht]; exact hH1⟩) hl1 dj_chl_14 hlk
/-- charAt -/
theorem jm_chr (hE : EV l a0 s0 E) (hst : STR a = some tx) {k : Int} (h0 : 0 ≤ k) (h1 : k < tx.length) : JM l s0 E 3 yChr prog_31_method_56_code 2 (some .char) [.ref (eX E a), .int (i3 k)] (some (.int (i3 (tx.getD k.toNat 0 : Nat)))) σ := by
  obtain ⟨v, g1, g2, g3, g4⟩ := hE.2.2.2.2.2.2.2.1.2.1 a tx hst
  obtain ⟨c1, c2, c3⟩ := ch_ok _ (STR_lt hst k.toNat)
  refine JM_of hE (by decide) fun {p e s m below meth c} F hb hml hrt hlk hH => ?_
  have hx := F.2.1
  have hA := F.2.2.1.alike
  have k3 := (va_OF.moved hA g3).kept F.kp
  rw [lg_entry_eq]
  refine lv_aload_n hx hb (i := 0) (x := eX E a) dj_chr_0 rfl rfl ?_
  refine jcall_v (av := []) (rest := []) (d := 0) F hb (jm_lat hE hst) dj_chr_1 w_lat1 w_lat3 w_lat4 w_ini1 w_lat5 (by decide) (by decide +kernel) g1 hH (fun q hq => nomatch hq) (by rw [hml]; rfl) (by decide) (by decide) (by decide) (by decide) (Nat.zero_le _) (Nat.zero_le _) fun H1 locs1 hH1 hl1 => ?_
  refine lv_if_eq hx hb (x := 1) (tgt := 16) dj_chr_4 rfl (fun h => absurd h (by decide)) fun _ => ?_
  refine lv_aload_n hx hb (i := 0) (x := eX E a) dj_chr_7 rfl rfl ?_
  refine vk_getf hx hb k3 (F.S hH1 hH hl1) F.2.2.2.2 (F.word w_fld3 rfl) (fun x h => h) dj_chr_8 ?_
  refine lv_iload_n hx hb (i := 1) (x := i3 k) dj_chr_11 rfl rfl ?_
  refine jcall_s (av := [.ref v, .int (i3 k)]) (rest := []) F hb (jm_chl hE hst g4 h0 h1) dj_chr_12 w_chl1 w_chl3 w_ini2 w_chl5 (by decide) np_2l hH1 hl1 (by rw [hml]; rfl) (by decide) (by decide) (Nat.le_refl _) (Nat.le_refl _) (Nat.zero_le _) (Nat.zero_le _) fun H2 locs2 hH2 hl2 => ?_
  exact W.zret hx hb hrt c3 (fun t ht _ => ⟨rfl, by rw [ht]; exact hH2⟩) hl2 dj_chr_15 hlk
/-- length -/
theorem jm_len (hE : EV l a0 s0 E) (hst : STR a = some tx) : JM l s0 E 1 yLen prog_31_method_54_code 1 (some .int) [.ref (eX E a)] (some (.int (i3 (tx.length : Int)))) σ := by
  obtain ⟨v, g1, g2, g3, g4⟩ := hE.2.2.2.2.2.2.2.1.2.1 a tx hst
  refine JM_of hE (by decide) fun {p e s m below meth c} F hb hml hrt hlk hH => ?_
  have hx := F.2.1
  have hA := F.2.2.1.alike
  have hS := F.S hH hH (locs := []) (fun q hq => nomatch hq)
  have k3 := (va_OF.moved hA g3).kept F.kp
  have k4 := (va_T.moved hA g4).kept F.kp
  rw [lg_entry_eq]
  refine lv_aload_n hx hb (i := 0) (x := eX E a) dj_len_0 rfl rfl ?_
  refine vk_getf hx hb k3 hS F.2.2.2.2 (F.word w_fld3 rfl) (fun x h => h) dj_len_1 ?_
  refine va_tlen hx hb k4 hS (v := i3 (tx.length : Int)) rfl dj_len_4 ?_
  refine lv_aload_n hx hb (i := 0) (x := eX E a) dj_len_5 rfl rfl ?_
  refine jcall_v (av := []) (rest := [.int (i3 (tx.length : Int))]) (d := 0) F hb (jm_cod hE hst) dj_len_6 w_cod1 w_cod3 w_cod4 w_ini1 w_cod5 (by decide) (by decide +kernel) g1 hH (fun q hq => nomatch hq) (by rw [hml]; rfl) (by show 1 + 0 ≤ 8; decide) (by decide) (Nat.le_refl _) (Nat.le_refl _) (Nat.zero_le _) (Nat.zero_le _) fun H1 locs1 hH1 hl1 => ?_
  refine lv_ishr hx hb (x := i3 (tx.length : Int)) (y := 0) dj_len_9 ?_
  rw [show (i3 (tx.length : Int)) >>> ((0 : Int32) &&& 31) = i3 (tx.length : Int) by simp]
  exact W.iret hx hb hrt (fun t ht _ => ⟨rfl, by rw [ht]; exact hH1⟩) hl1 dj_len_10 hlk
end STRS
theorem st4_all : (allT MLs fun o ix e => !(e.1 == 1004) || (e.2.1 == 1 && (e.2.2.2 == 4 && ((o == 9 && ix == 60) || (o == 21 && ix == 165))))) = true := by decide +kernel
theorem st5_all : (allT MLs fun o ix e => !(e.1 == 1005) || (e.2.1 == 2 && (e.2.2.2 == 4 && ((o == 9 && ix == 65) || (o == 21 && ix == 171))))) = true := by decide +kernel
section STRB
variable {p : Program} {l : Launch} {e : Env} {R : Room} {s s0 : State} {m : MethodId} {args a0 : Array Value} {below : List Frame} {meth : Method} {c : Code} {H : Heap} {locs : List Loc} {cells slots : Nat} {Q : State → Prop}
variable {b : ByteArray} {pc mi : Nat} {ls : Array Slot} {E : EP} {rest : List AV} {ix na rc kd : Nat} {σ : ST} {a : Nat} {tx : List Nat}
theorem b1004 (C : CX l a0 s0 E mi p s m meth c) (hb : c.code = b) (hd : decode b pc = .ok (.invokevirtual ix, 3)) (hml : ML mi ix = some (1004, na, rc, kd)) (hst : STR a = some tx) (hH : HS E σ H) (hl : ∀ q ∈ locs, AE E q.base) (hwt : wt rest ≤ 8) (hsz : ls.size = c.maxLocals) (hfr : 17 ≤ R.frames) (hlo : 680 ≤ R.locals) (hcr : cells ≤ R.cells) (hsr : slots ≤ R.slots)
    (kk : ∀ (H1 : Heap) (locs1 : List Loc), HS E σ H1 → (∀ q ∈ locs1, AE E q.base) → W p l e R s m args below meth c H1 locs1 cells slots Q (F0 m (pc + 3) ls (.int (i3 (tx.length : Int)) :: rest.map (rel E)))) : W p l e R s m args below meth c H locs cells slots Q (F0 m pc ls (.ref (adr E a) :: rest.map (rel E))) := by
  obtain ⟨o, h1, h2⟩ := allT_at st4_all hml
  simp only [beq_self_eq_true, Bool.not_true, Bool.false_or, Bool.and_eq_true, beq_iff_eq, Bool.or_eq_true] at h2
  have w1 : Cond.methodLink (oN o) ix yLen ∈ lw_tbl := by
    rcases h2.2.2 with ⟨r1, r2⟩ | ⟨r1, r2⟩
    · rw [r1, r2]; exact w_len1
    · rw [r1, r2]; exact w_len2
  obtain ⟨v, g1, -⟩ := C.1.2.2.2.2.2.2.2.1.2.1 a tx hst
  rw [cutS E a (by rw [hst]; rfl)]
  exact jcall_v (av := []) (v := some (.int (i3 (tx.length : Int)))) (C.FX h1) hb (jm_len C.1 hst) hd w1 w_len3 w_len4 w_ini1 w_len5 (by decide) (by decide +kernel) g1 hH hl hsz (by rw [wt_cat]; exact hwt) (by decide) (by omega) (by omega) hcr hsr kk
theorem b1005 (C : CX l a0 s0 E mi p s m meth c) (hb : c.code = b) (hd : decode b pc = .ok (.invokevirtual ix, 3)) (hml : ML mi ix = some (1005, na, rc, kd)) (hst : STR a = some tx) {k : Int} (h0 : 0 ≤ k) (h1 : k < tx.length) (hH : HS E σ H) (hl : ∀ q ∈ locs, AE E q.base) (hwt : wt rest ≤ 8) (hsz : ls.size = c.maxLocals) (hfr : 17 ≤ R.frames) (hlo : 680 ≤ R.locals) (hcr : cells ≤ R.cells) (hsr : slots ≤ R.slots)
    (kk : ∀ (H1 : Heap) (locs1 : List Loc), HS E σ H1 → (∀ q ∈ locs1, AE E q.base) → W p l e R s m args below meth c H1 locs1 cells slots Q (F0 m (pc + 3) ls (.int (i3 (tx.getD k.toNat 0 : Nat)) :: rest.map (rel E)))) : W p l e R s m args below meth c H locs cells slots Q (F0 m pc ls (.int (i3 k) :: .ref (adr E a) :: rest.map (rel E))) := by
  obtain ⟨o, h3, h2⟩ := allT_at st5_all hml
  simp only [beq_self_eq_true, Bool.not_true, Bool.false_or, Bool.and_eq_true, beq_iff_eq, Bool.or_eq_true] at h2
  have w1 : Cond.methodLink (oN o) ix yChr ∈ lw_tbl := by
    rcases h2.2.2 with ⟨r1, r2⟩ | ⟨r1, r2⟩
    · rw [r1, r2]; exact w_chr1
    · rw [r1, r2]; exact w_chr2
  obtain ⟨v, g1, -⟩ := C.1.2.2.2.2.2.2.2.1.2.1 a tx hst
  rw [cutS E a (by rw [hst]; rfl)]
  exact jcall_v (av := [.int (i3 k)]) (v := some (.int (i3 (tx.getD k.toNat 0 : Nat)))) (C.FX h3) hb (jm_chr C.1 hst h0 h1) hd w1 w_chr3 w_chr4 w_ini1 w_chr5 (by decide) np_1 g1 hH hl hsz (by rw [wt_cat]; exact hwt) (by decide) (by omega) (by omega) hcr hsr kk
end STRB
