abbrev b_R_in : ByteArray := prog_10_method_3_code
def y_R_in : MethodName := ⟨nC8, "in", "(III)Z"⟩
theorem d_R_in_0 : decode b_R_in 0 = .ok (.iload_n 0, 1) := by decide +kernel
theorem d_R_in_1 : decode b_R_in 1 = .ok (.iload_n 1, 1) := by decide +kernel
theorem d_R_in_2 : decode b_R_in 2 = .ok (.if_icmp .lt 12, 3) := by decide +kernel
theorem d_R_in_5 : decode b_R_in 5 = .ok (.iload_n 0, 1) := by decide +kernel
theorem d_R_in_6 : decode b_R_in 6 = .ok (.iload_n 2, 1) := by decide +kernel
theorem d_R_in_7 : decode b_R_in 7 = .ok (.if_icmp .gt 7, 3) := by decide +kernel
theorem d_R_in_10 : decode b_R_in 10 = .ok (.iconst 1, 1) := by decide +kernel
theorem d_R_in_11 : decode b_R_in 11 = .ok (.goto 4, 3) := by decide +kernel
theorem d_R_in_14 : decode b_R_in 14 = .ok (.iconst 0, 1) := by decide +kernel
theorem d_R_in_15 : decode b_R_in 15 = .ok (.ireturn, 1) := by decide +kernel
theorem mo_R_in : MokS y_R_in b_R_in 3 (some .boolean) 3 := ⟨⟨(tbl_in 984 (by decide +kernel) rfl), (tbl_in 70 (by decide +kernel) rfl)⟩, (tbl_in 983 (by decide +kernel) rfl), ⟨by decide +kernel, by decide +kernel⟩, by decide +kernel⟩
def wp_R_in (σ : Hp) (a1 : Int32) (a2 : Int32) (a3 : Int32) (P : Int32 → Hp → Prop) : Prop :=
  ((a1 < a2 → P (0 : Int32) σ) ∧ (¬ a1 < a2 → ((a3 < a1 → P (0 : Int32) σ) ∧ (¬ a3 < a1 → P (1 : Int32) σ))))
set_option maxHeartbeats 4000000 in
set_option maxRecDepth 100000 in
theorem w_R_in (w : Wd) (σ : Hp) (a1 : Int32) (a2 : Int32) (a3 : Int32) (P : Int32 → Hp → Prop) (h : wp_R_in σ a1 a2 a3 P) : CtI μR w y_R_in b_R_in 3 (some .boolean) 0 [.int a1, .int a2, .int a3] σ P := by
  unfold wp_R_in at h
  refine CtI.ofV (C := nC8) (lo := [some (.int a1), some (.int a2), some (.int a3)]) exR (by decide +kernel) rfl rfl rfl (fun κ hC hR => ?_)
  refine V.iload_n hC d_R_in_0 rfl rfl ?_
  refine V.iload_n hC d_R_in_1 rfl rfl ?_
  refine V.icmp_lt (tgt := 14) hC d_R_in_2 (by decide) (fun c1 => ?_) (fun c1 => ?_)
  · replace h := h.1 c1
    refine V.iconst (v := 0) hC d_R_in_14 (by decide) ?_
    exact hR _ _ _ _ h (by decide) d_R_in_15
  · replace h := h.2 c1
    refine V.iload_n hC d_R_in_5 rfl rfl ?_
    refine V.iload_n hC d_R_in_6 rfl rfl ?_
    refine V.icmp_gt (tgt := 14) hC d_R_in_7 (by decide) (fun c2 => ?_) (fun c2 => ?_)
    · replace h := h.1 c2
      refine V.iconst (v := 0) hC d_R_in_14 (by decide) ?_
      exact hR _ _ _ _ h (by decide) d_R_in_15
    · replace h := h.2 c2
      refine V.iconst (v := 1) hC d_R_in_10 (by decide) ?_
      refine V.goto (tgt := 15) hC d_R_in_11 (by decide) ?_
      exact hR _ _ _ _ h (by decide) d_R_in_15
abbrev b_R_isIn : ByteArray := prog_10_method_4_code
def y_R_isIn : MethodName := ⟨nC8, "isIn", "(II)Z"⟩
theorem d_R_isIn_0 : decode b_R_isIn 0 = .ok (.iload_n 0, 1) := by decide +kernel
theorem d_R_isIn_1 : decode b_R_isIn 1 = .ok (.iload_n 1, 1) := by decide +kernel
theorem d_R_isIn_2 : decode b_R_isIn 2 = .ok (.ishr, 1) := by decide +kernel
theorem d_R_isIn_3 : decode b_R_isIn 3 = .ok (.iconst 1, 1) := by decide +kernel
theorem d_R_isIn_4 : decode b_R_isIn 4 = .ok (.iand, 1) := by decide +kernel
theorem d_R_isIn_5 : decode b_R_isIn 5 = .ok (.iconst 1, 1) := by decide +kernel
theorem d_R_isIn_6 : decode b_R_isIn 6 = .ok (.if_icmp .ne 7, 3) := by decide +kernel
theorem d_R_isIn_9 : decode b_R_isIn 9 = .ok (.iconst 1, 1) := by decide +kernel
theorem d_R_isIn_10 : decode b_R_isIn 10 = .ok (.goto 4, 3) := by decide +kernel
theorem d_R_isIn_13 : decode b_R_isIn 13 = .ok (.iconst 0, 1) := by decide +kernel
theorem d_R_isIn_14 : decode b_R_isIn 14 = .ok (.ireturn, 1) := by decide +kernel
theorem mo_R_isIn : MokS y_R_isIn b_R_isIn 2 (some .boolean) 2 := ⟨⟨(tbl_in 1116 (by decide +kernel) rfl), (tbl_in 70 (by decide +kernel) rfl)⟩, (tbl_in 1115 (by decide +kernel) rfl), ⟨by decide +kernel, by decide +kernel⟩, by decide +kernel⟩
def wp_R_isIn (σ : Hp) (a1 : Int32) (a2 : Int32) (P : Int32 → Hp → Prop) : Prop :=
  ((¬ ((a1 >>> (a2 &&& 31)) &&& (1 : Int32)) = (1 : Int32) → P (0 : Int32) σ) ∧ (((a1 >>> (a2 &&& 31)) &&& (1 : Int32)) = (1 : Int32) → P (1 : Int32) σ))
set_option maxHeartbeats 4000000 in
set_option maxRecDepth 100000 in
theorem w_R_isIn (w : Wd) (σ : Hp) (a1 : Int32) (a2 : Int32) (P : Int32 → Hp → Prop) (h : wp_R_isIn σ a1 a2 P) : CtI μR w y_R_isIn b_R_isIn 2 (some .boolean) 0 [.int a1, .int a2] σ P := by
  unfold wp_R_isIn at h
  refine CtI.ofV (C := nC8) (lo := [some (.int a1), some (.int a2)]) exR (by decide +kernel) rfl rfl rfl (fun κ hC hR => ?_)
  refine V.iload_n hC d_R_isIn_0 rfl rfl ?_
  refine V.iload_n hC d_R_isIn_1 rfl rfl ?_
  refine V.ishr hC d_R_isIn_2 ?_
  refine V.iconst (v := 1) hC d_R_isIn_3 (by decide) ?_
  refine V.iand hC d_R_isIn_4 ?_
  refine V.iconst (v := 1) hC d_R_isIn_5 (by decide) ?_
  refine V.icmp_ne (tgt := 13) hC d_R_isIn_6 (by decide) (fun c1 => ?_) (fun c1 => ?_)
  · replace h := h.1 c1
    refine V.iconst (v := 0) hC d_R_isIn_13 (by decide) ?_
    exact hR _ _ _ _ h (by decide) d_R_isIn_14
  · replace h := h.2 c1
    refine V.iconst (v := 1) hC d_R_isIn_9 (by decide) ?_
    refine V.goto (tgt := 14) hC d_R_isIn_10 (by decide) ?_
    exact hR _ _ _ _ h (by decide) d_R_isIn_14
abbrev b_R_no : ByteArray := prog_10_method_5_code
def y_R_no : MethodName := ⟨nC8, "no", "(I)J"⟩
theorem d_R_no_0 : decode b_R_no 0 = .ok (.ldc2_w 95, 3) := by decide +kernel
theorem d_R_no_3 : decode b_R_no 3 = .ok (.iload_n 0, 1) := by decide +kernel
theorem d_R_no_4 : decode b_R_no 4 = .ok (.i2l, 1) := by decide +kernel
theorem d_R_no_5 : decode b_R_no 5 = .ok (.lsub, 1) := by decide +kernel
theorem d_R_no_6 : decode b_R_no 6 = .ok (.lreturn, 1) := by decide +kernel
theorem ql_R_95 : Cond.constantLong nC8 95 (-9223372036854775808) ∈ tbl := tbl_in 1277 (by decide +kernel) rfl
theorem mo_R_no : MokS y_R_no b_R_no 1 (some .long) 1 := ⟨⟨(tbl_in 1276 (by decide +kernel) rfl), (tbl_in 70 (by decide +kernel) rfl)⟩, (tbl_in 1275 (by decide +kernel) rfl), ⟨by decide +kernel, by decide +kernel⟩, by decide +kernel⟩
def wp_R_no (σ : Hp) (a1 : Int32) (P : Int64 → Hp → Prop) : Prop :=
  P ((-9223372036854775808 : Int64) - (a1.toInt64)) σ
set_option maxHeartbeats 4000000 in
set_option maxRecDepth 100000 in
theorem w_R_no (w : Wd) (σ : Hp) (a1 : Int32) (P : Int64 → Hp → Prop) (h : wp_R_no σ a1 P) : CtL μR w y_R_no b_R_no 1 (some .long) 0 [.int a1] σ P := by
  unfold wp_R_no at h
  refine CtL.ofV (C := nC8) (lo := [some (.int a1)]) exR (by decide +kernel) rfl rfl rfl (fun κ hC hR => ?_)
  refine V.ldc2 (v := -9223372036854775808) hC d_R_no_0 ql_R_95 ?_
  refine V.iload_n hC d_R_no_3 rfl rfl ?_
  refine V.i2l hC d_R_no_4 ?_
  refine V.lsub hC d_R_no_5 ?_
  exact hR _ _ _ _ h d_R_no_6
abbrev b_R_lowest : ByteArray := prog_10_method_6_code
def y_R_lowest : MethodName := ⟨nC8, "lowest", "(JJI)J"⟩
theorem d_R_lowest_0 : decode b_R_lowest 0 = .ok (.lload_n 0, 1) := by decide +kernel
theorem d_R_lowest_1 : decode b_R_lowest 1 = .ok (.lstore 5, 2) := by decide +kernel
theorem d_R_lowest_3 : decode b_R_lowest 3 = .ok (.lload_n 2, 1) := by decide +kernel
theorem d_R_lowest_4 : decode b_R_lowest 4 = .ok (.lstore 7, 2) := by decide +kernel
theorem d_R_lowest_6 : decode b_R_lowest 6 = .ok (.lload 7, 2) := by decide +kernel
theorem d_R_lowest_8 : decode b_R_lowest 8 = .ok (.lconst 0, 1) := by decide +kernel
theorem d_R_lowest_9 : decode b_R_lowest 9 = .ok (.lcmp, 1) := by decide +kernel
theorem d_R_lowest_10 : decode b_R_lowest 10 = .ok (.ifCond .eq 21, 3) := by decide +kernel
theorem d_R_lowest_13 : decode b_R_lowest 13 = .ok (.lload 5, 2) := by decide +kernel
theorem d_R_lowest_15 : decode b_R_lowest 15 = .ok (.lload 7, 2) := by decide +kernel
theorem d_R_lowest_17 : decode b_R_lowest 17 = .ok (.lrem, 1) := by decide +kernel
theorem d_R_lowest_18 : decode b_R_lowest 18 = .ok (.lstore 9, 2) := by decide +kernel
theorem d_R_lowest_20 : decode b_R_lowest 20 = .ok (.lload 7, 2) := by decide +kernel
theorem d_R_lowest_22 : decode b_R_lowest 22 = .ok (.lstore 5, 2) := by decide +kernel
theorem d_R_lowest_24 : decode b_R_lowest 24 = .ok (.lload 9, 2) := by decide +kernel
theorem d_R_lowest_26 : decode b_R_lowest 26 = .ok (.lstore 7, 2) := by decide +kernel
theorem d_R_lowest_28 : decode b_R_lowest 28 = .ok (.goto (-22), 3) := by decide +kernel
theorem d_R_lowest_31 : decode b_R_lowest 31 = .ok (.iload 4, 2) := by decide +kernel
theorem d_R_lowest_33 : decode b_R_lowest 33 = .ok (.ifCond .ne 10, 3) := by decide +kernel
theorem d_R_lowest_36 : decode b_R_lowest 36 = .ok (.lload_n 0, 1) := by decide +kernel
theorem d_R_lowest_37 : decode b_R_lowest 37 = .ok (.lload 5, 2) := by decide +kernel
theorem d_R_lowest_39 : decode b_R_lowest 39 = .ok (.ldiv, 1) := by decide +kernel
theorem d_R_lowest_40 : decode b_R_lowest 40 = .ok (.goto 7, 3) := by decide +kernel
theorem d_R_lowest_43 : decode b_R_lowest 43 = .ok (.lload_n 2, 1) := by decide +kernel
theorem d_R_lowest_44 : decode b_R_lowest 44 = .ok (.lload 5, 2) := by decide +kernel
theorem d_R_lowest_46 : decode b_R_lowest 46 = .ok (.ldiv, 1) := by decide +kernel
theorem d_R_lowest_47 : decode b_R_lowest 47 = .ok (.lreturn, 1) := by decide +kernel
theorem mo_R_lowest : MokS y_R_lowest b_R_lowest 11 (some .long) 3 := ⟨⟨(tbl_in 1273 (by decide +kernel) rfl), (tbl_in 70 (by decide +kernel) rfl)⟩, (tbl_in 1272 (by decide +kernel) rfl), ⟨by decide +kernel, by decide +kernel⟩, by decide +kernel⟩
def b_R_lowest_6_ (P : Int64 → Hp → Prop)  (I6 : Hp → Int64 → Int64 → Int32 → Int64 → Int64 → Prop) (σ : Hp) (x0 : Int64) (x2 : Int64) (x4 : Int32) (x5 : Int64) (x7 : Int64) : Prop :=
  (((lg_cmp x7 (0 : Int64)) = 0 → ((¬ x4 = 0 → (¬ x5 = 0) ∧ P (x2 / x5) σ) ∧ (x4 = 0 → (¬ x5 = 0) ∧ P (x0 / x5) σ))) ∧ (¬ (lg_cmp x7 (0 : Int64)) = 0 → (¬ x7 = 0) ∧ (∀ v6 : Int64, v6 = x5 - x5 / x7 * x7 → I6 σ x0 x2 x4 x7 v6)))
def j_R_lowest_6 (P : Int64 → Hp → Prop)  (σ : Hp) (x0 : Int64) (x2 : Int64) (x4 : Int32) (x5 : Int64) (x7 : Int64) : Prop := ∀ I6 : Hp → Int64 → Int64 → Int32 → Int64 → Int64 → Prop, (∀ (σ : Hp) (x0 : Int64) (x2 : Int64) (x4 : Int32) (x5 : Int64) (x7 : Int64), b_R_lowest_6_  P  I6 σ x0 x2 x4 x5 x7 → I6 σ x0 x2 x4 x5 x7) → I6 σ x0 x2 x4 x5 x7
def wp_R_lowest (σ : Hp) (a1 : Int64) (a2 : Int64) (a3 : Int32) (P : Int64 → Hp → Prop) : Prop :=
  j_R_lowest_6 P σ a1 a2 a3 a1 a2
set_option maxHeartbeats 4000000 in
set_option maxRecDepth 100000 in
theorem wj_R_lowest_6 {w : Wd} {κ : Kx} {P : Int64 → Hp → Prop} (hC : Cx μR w 11 κ nC8 b_R_lowest 0) (hR : RtL μR w 11 κ b_R_lowest P)  : ∀ (σ : Hp) (x0 : Int64) (x2 : Int64) (x4 : Int32) (x5 : Int64) (x7 : Int64), j_R_lowest_6  P  σ x0 x2 x4 x5 x7 → V μR w 11 κ σ [some (.long x0), none, some (.long x2), none, some (.int x4), some (.long x5), none, some (.long x7), none, none, none] 6 [] := by
  intro σ x0 x2 x4 x5 x7 h
  refine h (fun σ x0 x2 x4 x5 x7 => V μR w 11 κ σ [some (.long x0), none, some (.long x2), none, some (.int x4), some (.long x5), none, some (.long x7), none, none, none] 6 []) (fun σ x0 x2 x4 x5 x7 h => ?_)
  unfold b_R_lowest_6_ at h
  refine V.lload hC d_R_lowest_6 rfl ?_
  refine V.lconst (v := 0) hC d_R_lowest_8 (by decide) ?_
  refine V.lcmp hC d_R_lowest_9 ?_
  refine V.if_eq (tgt := 31) hC d_R_lowest_10 (by decide) (fun c1 => ?_) (fun c1 => ?_)
  · replace h := h.1 c1
    refine V.iload hC d_R_lowest_31 rfl ?_
    refine V.if_ne (tgt := 43) hC d_R_lowest_33 (by decide) (fun c2 => ?_) (fun c2 => ?_)
    · replace h := h.1 c2
      refine V.lload_n hC d_R_lowest_43 rfl rfl ?_
      refine V.lload hC d_R_lowest_44 rfl ?_
      obtain ⟨z3, h⟩ := h
      refine V.ldiv hC d_R_lowest_46 z3 ?_
      exact hR _ _ _ _ h d_R_lowest_47
    · replace h := h.2 c2
      refine V.lload_n hC d_R_lowest_36 rfl rfl ?_
      refine V.lload hC d_R_lowest_37 rfl ?_
      obtain ⟨z4, h⟩ := h
      refine V.ldiv hC d_R_lowest_39 z4 ?_
      refine V.goto (tgt := 47) hC d_R_lowest_40 (by decide) ?_
      exact hR _ _ _ _ h d_R_lowest_47
  · replace h := h.2 c1
    refine V.lload hC d_R_lowest_13 rfl ?_
    refine V.lload hC d_R_lowest_15 rfl ?_
    obtain ⟨z5, h⟩ := h
    refine V.lrem hC d_R_lowest_17 z5 ?_
    obtain ⟨v6, ev6⟩ : ∃ y : Int64, y = x5 - x5 / x7 * x7 := ⟨_, rfl⟩
    replace h := h v6 ev6
    refine V.lstore (y := v6) (lo' := [some (.long x0), none, some (.long x2), none, some (.int x4), some (.long x5), none, some (.long x7), none, some (.long v6), none]) hC d_R_lowest_18 rfl ev6 rfl ?_
    refine V.lload hC d_R_lowest_20 rfl ?_
    refine V.lstore (y := x7) (lo' := [some (.long x0), none, some (.long x2), none, some (.int x4), some (.long x7), none, some (.long x7), none, some (.long v6), none]) hC d_R_lowest_22 rfl rfl rfl ?_
    refine V.lload hC d_R_lowest_24 rfl ?_
    refine V.lstore (y := v6) (lo' := [some (.long x0), none, some (.long x2), none, some (.int x4), some (.long x7), none, some (.long v6), none, some (.long v6), none]) hC d_R_lowest_26 rfl rfl rfl ?_
    refine V.goto (tgt := 6) hC d_R_lowest_28 (by decide) ?_
    exact V.msk [true, false, true, false, true, true, false, true, false, false, false] rfl h
set_option maxHeartbeats 4000000 in
set_option maxRecDepth 100000 in
theorem w_R_lowest (w : Wd) (σ : Hp) (a1 : Int64) (a2 : Int64) (a3 : Int32) (P : Int64 → Hp → Prop) (h : wp_R_lowest σ a1 a2 a3 P) : CtL μR w y_R_lowest b_R_lowest 11 (some .long) 0 [.long a1, .long a2, .int a3] σ P := by
  unfold wp_R_lowest at h
  refine CtL.ofV (C := nC8) (lo := [some (.long a1), none, some (.long a2), none, some (.int a3), none, none, none, none, none, none]) exR (by decide +kernel) rfl rfl rfl (fun κ hC hR => ?_)
  refine V.lload_n hC d_R_lowest_0 rfl rfl ?_
  refine V.lstore (y := a1) (lo' := [some (.long a1), none, some (.long a2), none, some (.int a3), some (.long a1), none, none, none, none, none]) hC d_R_lowest_1 rfl rfl rfl ?_
  refine V.lload_n hC d_R_lowest_3 rfl rfl ?_
  refine V.lstore (y := a2) (lo' := [some (.long a1), none, some (.long a2), none, some (.int a3), some (.long a1), none, some (.long a2), none, none, none]) hC d_R_lowest_4 rfl rfl rfl ?_
  exact V.msk [true, false, true, false, true, true, false, true, false, false, false] rfl (wj_R_lowest_6  hC hR  σ a1 a2 a3 a1 a2 h)
abbrev b_R_isText : ByteArray := prog_10_method_7_code
def y_R_isText : MethodName := ⟨nC8, "isText", "(I)Z"⟩
theorem d_R_isText_0 : decode b_R_isText 0 = .ok (.iload_n 0, 1) := by decide +kernel
theorem d_R_isText_1 : decode b_R_isText 1 = .ok (.iconst 0, 1) := by decide +kernel
theorem d_R_isText_2 : decode b_R_isText 2 = .ok (.iconst 1, 1) := by decide +kernel
theorem d_R_isText_3 : decode b_R_isText 3 = .ok (.invokestatic 97, 3) := by decide +kernel
theorem d_R_isText_6 : decode b_R_isText 6 = .ok (.ireturn, 1) := by decide +kernel
theorem qm_R_97 : Cond.methodLink nC8 97 y_R_in ∈ tbl := tbl_in 982 (by decide +kernel) rfl
theorem mo_R_isText : MokS y_R_isText b_R_isText 1 (some .boolean) 1 := ⟨⟨(tbl_in 981 (by decide +kernel) rfl), (tbl_in 70 (by decide +kernel) rfl)⟩, (tbl_in 980 (by decide +kernel) rfl), ⟨by decide +kernel, by decide +kernel⟩, by decide +kernel⟩
def wp_R_isText (σ : Hp) (a1 : Int32) (P : Int32 → Hp → Prop) : Prop :=
  wp_R_in σ a1 (0 : Int32) (1 : Int32) (fun (r1 : Int32) (t2 : Hp) => (r1 &&& 1 = r1) ∧ P r1 t2)
set_option maxHeartbeats 4000000 in
set_option maxRecDepth 100000 in
theorem w_R_isText (w : Wd) (σ : Hp) (a1 : Int32) (P : Int32 → Hp → Prop) (h : wp_R_isText σ a1 P) : CtI μR w y_R_isText b_R_isText 1 (some .boolean) 1 [.int a1] σ P := by
  unfold wp_R_isText at h
  refine CtI.ofV (C := nC8) (lo := [some (.int a1)]) exR (by decide +kernel) rfl rfl rfl (fun κ hC hR => ?_)
  refine V.iload_n hC d_R_isText_0 rfl rfl ?_
  refine V.iconst (v := 0) hC d_R_isText_1 (by decide) ?_
  refine V.iconst (v := 1) hC d_R_isText_2 (by decide) ?_
  refine V.callSI hC exR (w_R_in w σ a1 (0 : Int32) (1 : Int32) _ h) d_R_isText_3 mo_R_in qm_R_97 rfl rfl rfl rfl (Nat.le_of_ble_eq_true rfl) (fun r1 t2 h => ?_)
  obtain ⟨z3, h⟩ := h
  exact hR _ _ _ _ h (congrArg Value.int z3) d_R_isText_6
abbrev b_R_isEight : ByteArray := prog_10_method_8_code
def y_R_isEight : MethodName := ⟨nC8, "isEight", "(I)Z"⟩
theorem d_R_isEight_0 : decode b_R_isEight 0 = .ok (.iload_n 0, 1) := by decide +kernel
theorem d_R_isEight_1 : decode b_R_isEight 1 = .ok (.iconst 0, 1) := by decide +kernel
theorem d_R_isEight_2 : decode b_R_isEight 2 = .ok (.bipush 7, 2) := by decide +kernel
theorem d_R_isEight_4 : decode b_R_isEight 4 = .ok (.invokestatic 97, 3) := by decide +kernel
theorem d_R_isEight_7 : decode b_R_isEight 7 = .ok (.ireturn, 1) := by decide +kernel
theorem mo_R_isEight : MokS y_R_isEight b_R_isEight 1 (some .boolean) 1 := ⟨⟨(tbl_in 1065 (by decide +kernel) rfl), (tbl_in 70 (by decide +kernel) rfl)⟩, (tbl_in 1064 (by decide +kernel) rfl), ⟨by decide +kernel, by decide +kernel⟩, by decide +kernel⟩
def wp_R_isEight (σ : Hp) (a1 : Int32) (P : Int32 → Hp → Prop) : Prop :=
  wp_R_in σ a1 (0 : Int32) (7 : Int32) (fun (r1 : Int32) (t2 : Hp) => (r1 &&& 1 = r1) ∧ P r1 t2)
set_option maxHeartbeats 4000000 in
set_option maxRecDepth 100000 in
theorem w_R_isEight (w : Wd) (σ : Hp) (a1 : Int32) (P : Int32 → Hp → Prop) (h : wp_R_isEight σ a1 P) : CtI μR w y_R_isEight b_R_isEight 1 (some .boolean) 1 [.int a1] σ P := by
  unfold wp_R_isEight at h
  refine CtI.ofV (C := nC8) (lo := [some (.int a1)]) exR (by decide +kernel) rfl rfl rfl (fun κ hC hR => ?_)
  refine V.iload_n hC d_R_isEight_0 rfl rfl ?_
  refine V.iconst (v := 0) hC d_R_isEight_1 (by decide) ?_
  refine V.bipush (v := 7) hC d_R_isEight_2 (by decide) ?_
  refine V.callSI hC exR (w_R_in w σ a1 (0 : Int32) (7 : Int32) _ h) d_R_isEight_4 mo_R_in qm_R_97 rfl rfl rfl rfl (Nat.le_of_ble_eq_true rfl) (fun r1 t2 h => ?_)
  obtain ⟨z3, h⟩ := h
  exact hR _ _ _ _ h (congrArg Value.int z3) d_R_isEight_7
abbrev b_R_isDay : ByteArray := prog_10_method_9_code
def y_R_isDay : MethodName := ⟨nC8, "isDay", "(I)Z"⟩
theorem d_R_isDay_0 : decode b_R_isDay 0 = .ok (.iload_n 0, 1) := by decide +kernel
theorem d_R_isDay_1 : decode b_R_isDay 1 = .ok (.iconst 0, 1) := by decide +kernel
theorem d_R_isDay_2 : decode b_R_isDay 2 = .ok (.bipush 29, 2) := by decide +kernel
theorem d_R_isDay_4 : decode b_R_isDay 4 = .ok (.invokestatic 97, 3) := by decide +kernel
theorem d_R_isDay_7 : decode b_R_isDay 7 = .ok (.ireturn, 1) := by decide +kernel
theorem mo_R_isDay : MokS y_R_isDay b_R_isDay 1 (some .boolean) 1 := ⟨⟨(tbl_in 1062 (by decide +kernel) rfl), (tbl_in 70 (by decide +kernel) rfl)⟩, (tbl_in 1061 (by decide +kernel) rfl), ⟨by decide +kernel, by decide +kernel⟩, by decide +kernel⟩
def wp_R_isDay (σ : Hp) (a1 : Int32) (P : Int32 → Hp → Prop) : Prop :=
  wp_R_in σ a1 (0 : Int32) (29 : Int32) (fun (r1 : Int32) (t2 : Hp) => (r1 &&& 1 = r1) ∧ P r1 t2)
set_option maxHeartbeats 4000000 in
set_option maxRecDepth 100000 in
theorem w_R_isDay (w : Wd) (σ : Hp) (a1 : Int32) (P : Int32 → Hp → Prop) (h : wp_R_isDay σ a1 P) : CtI μR w y_R_isDay b_R_isDay 1 (some .boolean) 1 [.int a1] σ P := by
  unfold wp_R_isDay at h
  refine CtI.ofV (C := nC8) (lo := [some (.int a1)]) exR (by decide +kernel) rfl rfl rfl (fun κ hC hR => ?_)
  refine V.iload_n hC d_R_isDay_0 rfl rfl ?_
  refine V.iconst (v := 0) hC d_R_isDay_1 (by decide) ?_
  refine V.bipush (v := 29) hC d_R_isDay_2 (by decide) ?_
  refine V.callSI hC exR (w_R_in w σ a1 (0 : Int32) (29 : Int32) _ h) d_R_isDay_4 mo_R_in qm_R_97 rfl rfl rfl rfl (Nat.le_of_ble_eq_true rfl) (fun r1 t2 h => ?_)
  obtain ⟨z3, h⟩ := h
  exact hR _ _ _ _ h (congrArg Value.int z3) d_R_isDay_7
abbrev b_R_type : ByteArray := prog_10_method_10_code
def y_R_type : MethodName := ⟨nC8, "type", "(II)I"⟩
theorem d_R_type_0 : decode b_R_type 0 = .ok (.iload_n 1, 1) := by decide +kernel
theorem d_R_type_1 : decode b_R_type 1 = .ok (.invokestatic 101, 3) := by decide +kernel
theorem d_R_type_4 : decode b_R_type 4 = .ok (.ifCond .eq 14, 3) := by decide +kernel
theorem d_R_type_7 : decode b_R_type 7 = .ok (.iload_n 2, 1) := by decide +kernel
theorem d_R_type_8 : decode b_R_type 8 = .ok (.iconst 0, 1) := by decide +kernel
theorem d_R_type_9 : decode b_R_type 9 = .ok (.sipush 255, 3) := by decide +kernel
theorem d_R_type_12 : decode b_R_type 12 = .ok (.invokestatic 97, 3) := by decide +kernel
theorem d_R_type_15 : decode b_R_type 15 = .ok (.ifCond .ne 6, 3) := by decide +kernel
theorem d_R_type_18 : decode b_R_type 18 = .ok (.bipush (-2), 2) := by decide +kernel
theorem d_R_type_20 : decode b_R_type 20 = .ok (.ireturn, 1) := by decide +kernel
theorem d_R_type_21 : decode b_R_type 21 = .ok (.aload_n 0, 1) := by decide +kernel
theorem d_R_type_22 : decode b_R_type 22 = .ok (.getfield 7, 3) := by decide +kernel
theorem d_R_type_25 : decode b_R_type 25 = .ok (.iload_n 1, 1) := by decide +kernel
theorem d_R_type_26 : decode b_R_type 26 = .ok (.iaload, 1) := by decide +kernel
theorem d_R_type_27 : decode b_R_type 27 = .ok (.iload_n 1, 1) := by decide +kernel
theorem d_R_type_28 : decode b_R_type 28 = .ok (.ifCond .ne 8, 3) := by decide +kernel
theorem d_R_type_31 : decode b_R_type 31 = .ok (.bipush 39, 2) := by decide +kernel
theorem d_R_type_33 : decode b_R_type 33 = .ok (.goto 5, 3) := by decide +kernel
theorem d_R_type_36 : decode b_R_type 36 = .ok (.bipush 17, 2) := by decide +kernel
theorem d_R_type_38 : decode b_R_type 38 = .ok (.if_icmp .ne 6, 3) := by decide +kernel
theorem d_R_type_41 : decode b_R_type 41 = .ok (.bipush (-4), 2) := by decide +kernel
theorem d_R_type_43 : decode b_R_type 43 = .ok (.ireturn, 1) := by decide +kernel
theorem d_R_type_44 : decode b_R_type 44 = .ok (.aload_n 0, 1) := by decide +kernel
theorem d_R_type_45 : decode b_R_type 45 = .ok (.getfield 13, 3) := by decide +kernel
theorem d_R_type_48 : decode b_R_type 48 = .ok (.bipush 39, 2) := by decide +kernel
theorem d_R_type_50 : decode b_R_type 50 = .ok (.iload_n 1, 1) := by decide +kernel
theorem d_R_type_51 : decode b_R_type 51 = .ok (.imul, 1) := by decide +kernel
theorem d_R_type_52 : decode b_R_type 52 = .ok (.aload_n 0, 1) := by decide +kernel
theorem d_R_type_53 : decode b_R_type 53 = .ok (.getfield 7, 3) := by decide +kernel
theorem d_R_type_56 : decode b_R_type 56 = .ok (.iload_n 1, 1) := by decide +kernel
theorem d_R_type_57 : decode b_R_type 57 = .ok (.iaload, 1) := by decide +kernel
theorem d_R_type_58 : decode b_R_type 58 = .ok (.iadd, 1) := by decide +kernel
theorem d_R_type_59 : decode b_R_type 59 = .ok (.iload_n 2, 1) := by decide +kernel
theorem d_R_type_60 : decode b_R_type 60 = .ok (.iastore, 1) := by decide +kernel
theorem d_R_type_61 : decode b_R_type 61 = .ok (.aload_n 0, 1) := by decide +kernel
theorem d_R_type_62 : decode b_R_type 62 = .ok (.getfield 7, 3) := by decide +kernel
theorem d_R_type_65 : decode b_R_type 65 = .ok (.iload_n 1, 1) := by decide +kernel
theorem d_R_type_66 : decode b_R_type 66 = .ok (.dup2, 1) := by decide +kernel
theorem d_R_type_67 : decode b_R_type 67 = .ok (.iaload, 1) := by decide +kernel
theorem d_R_type_68 : decode b_R_type 68 = .ok (.iconst 1, 1) := by decide +kernel
theorem d_R_type_69 : decode b_R_type 69 = .ok (.iadd, 1) := by decide +kernel
theorem d_R_type_70 : decode b_R_type 70 = .ok (.iastore, 1) := by decide +kernel
theorem d_R_type_71 : decode b_R_type 71 = .ok (.aload_n 0, 1) := by decide +kernel
theorem d_R_type_72 : decode b_R_type 72 = .ok (.getfield 7, 3) := by decide +kernel
theorem d_R_type_75 : decode b_R_type 75 = .ok (.iload_n 1, 1) := by decide +kernel
theorem d_R_type_76 : decode b_R_type 76 = .ok (.iaload, 1) := by decide +kernel
theorem d_R_type_77 : decode b_R_type 77 = .ok (.ireturn, 1) := by decide +kernel
theorem qf_R_13 : Cond.fieldLink nC8 13 (fC8 1).1 (fC8 1).2.1 (fC8 1).2.2.1 ∈ tbl := tbl_in 869 (by decide +kernel) rfl
theorem qf_R_7 : Cond.fieldLink nC8 7 (fC8 0).1 (fC8 0).2.1 (fC8 0).2.2.1 ∈ tbl := tbl_in 868 (by decide +kernel) rfl
theorem qm_R_101 : Cond.methodLink nC8 101 y_R_isText ∈ tbl := tbl_in 979 (by decide +kernel) rfl
def j_R_type_38 (P : Int32 → Hp → Prop)  (σ : Hp) (x1 : Int32) (x2 : Int32) (s0 : Int32) (s1 : Int32) : Prop :=
  ((¬ s0 = s1 → (vp_in x1 2) ∧ (vp_in (((39 : Int32) * x1) + (σ 1 (ix x1))) 78) ∧ (vp_in x1 2) ∧ (vp_in x1 2) ∧ (vp_in x1 2) ∧ P ((st (st σ 2 (ix (((39 : Int32) * x1) + (σ 1 (ix x1)))) x2) 1 (ix x1) (((st σ 2 (ix (((39 : Int32) * x1) + (σ 1 (ix x1)))) x2) 1 (ix x1)) + (1 : Int32))) 1 (ix x1)) (st (st σ 2 (ix (((39 : Int32) * x1) + (σ 1 (ix x1)))) x2) 1 (ix x1) (((st σ 2 (ix (((39 : Int32) * x1) + (σ 1 (ix x1)))) x2) 1 (ix x1)) + (1 : Int32)))) ∧ (s0 = s1 → P (-4 : Int32) σ))
def wp_R_type (σ : Hp) (a1 : Int32) (a2 : Int32) (P : Int32 → Hp → Prop) : Prop :=
  wp_R_isText σ a1 (fun (r7 : Int32) (t8 : Hp) => ((r7 = 0 → P (-2 : Int32) t8) ∧ (¬ r7 = 0 → wp_R_in t8 a2 (0 : Int32) (255 : Int32) (fun (r10 : Int32) (t11 : Hp) => ((¬ r10 = 0 → (vp_in a1 2) ∧ ((¬ a1 = 0 → j_R_type_38 P t11 a1 a2 (t11 1 (ix a1)) (17 : Int32)) ∧ (a1 = 0 → j_R_type_38 P t11 a1 a2 (t11 1 (ix a1)) (39 : Int32)))) ∧ (r10 = 0 → P (-2 : Int32) t11))))))
set_option maxHeartbeats 4000000 in
set_option maxRecDepth 100000 in
theorem wj_R_type_38 {w : Wd} {κ : Kx} {P : Int32 → Hp → Prop} (hC : Cx μR w 3 κ nC8 b_R_type 2) (hR : RtI μR w 3 κ b_R_type .int P)  : ∀ (σ : Hp) (x1 : Int32) (x2 : Int32) (s0 : Int32) (s1 : Int32), j_R_type_38  P  σ x1 x2 s0 s1 → V μR w 3 κ σ [some (.ref (w.1 0)), some (.int x1), some (.int x2)] 38 [.int s1, .int s0] := by
  intro σ x1 x2 s0 s1 h
  unfold j_R_type_38 at h
  refine V.icmp_ne (tgt := 44) hC d_R_type_38 (by decide) (fun c1 => ?_) (fun c1 => ?_)
  · replace h := h.1 c1
    refine V.aload_n hC d_R_type_44 rfl rfl ?_
    refine V.getR (j := 1) hC d_R_type_45 rfl rfl uC8 rfl rfl qf_R_13 ?_
    refine V.bipush (v := 39) hC d_R_type_48 (by decide) ?_
    refine V.iload_n hC d_R_type_50 rfl rfl ?_
    refine V.imul hC d_R_type_51 ?_
    refine V.aload_n hC d_R_type_52 rfl rfl ?_
    refine V.getR (j := 0) hC d_R_type_53 rfl rfl uC8 rfl rfl qf_R_7 ?_
    refine V.iload_n hC d_R_type_56 rfl rfl ?_
    obtain ⟨b2, h⟩ := h
    refine V.iald hC d_R_type_57 rfl b2 ?_
    refine V.iadd hC d_R_type_58 ?_
    refine V.iload_n hC d_R_type_59 rfl rfl ?_
    obtain ⟨b3, h⟩ := h
    refine V.iast hC d_R_type_60 rfl b3 ?_
    refine V.aload_n hC d_R_type_61 rfl rfl ?_
    refine V.getR (j := 0) hC d_R_type_62 rfl rfl uC8 rfl rfl qf_R_7 ?_
    refine V.iload_n hC d_R_type_65 rfl rfl ?_
    refine V.dup2_11 hC d_R_type_66 rfl rfl ?_
    obtain ⟨b4, h⟩ := h
    refine V.iald hC d_R_type_67 rfl b4 ?_
    refine V.iconst (v := 1) hC d_R_type_68 (by decide) ?_
    refine V.iadd hC d_R_type_69 ?_
    obtain ⟨b5, h⟩ := h
    refine V.iast hC d_R_type_70 rfl b5 ?_
    refine V.aload_n hC d_R_type_71 rfl rfl ?_
    refine V.getR (j := 0) hC d_R_type_72 rfl rfl uC8 rfl rfl qf_R_7 ?_
    refine V.iload_n hC d_R_type_75 rfl rfl ?_
    obtain ⟨b6, h⟩ := h
    refine V.iald hC d_R_type_76 rfl b6 ?_
    exact hR _ _ _ _ h rfl d_R_type_77
  · replace h := h.2 c1
    refine V.bipush (v := -4) hC d_R_type_41 (by decide) ?_
    exact hR _ _ _ _ h rfl d_R_type_43
set_option maxHeartbeats 4000000 in
set_option maxRecDepth 100000 in
theorem w_R_type (w : Wd) (σ : Hp) (a1 : Int32) (a2 : Int32) (P : Int32 → Hp → Prop) (h : wp_R_type σ a1 a2 P) : CtI μR w y_R_type b_R_type 3 (some .int) 2 [.ref (w.1 0), .int a1, .int a2] σ P := by
  unfold wp_R_type at h
  refine CtI.ofV (C := nC8) (lo := [some (.ref (w.1 0)), some (.int a1), some (.int a2)]) exR (by decide +kernel) rfl rfl rfl (fun κ hC hR => ?_)
  refine V.iload_n hC d_R_type_0 rfl rfl ?_
  refine V.callSI hC exR (w_R_isText w σ a1 _ h) d_R_type_1 mo_R_isText qm_R_101 rfl rfl rfl rfl (Nat.le_of_ble_eq_true rfl) (fun r7 t8 h => ?_)
  refine V.if_eq (tgt := 18) hC d_R_type_4 (by decide) (fun c9 => ?_) (fun c9 => ?_)
  · replace h := h.1 c9
    refine V.bipush (v := -2) hC d_R_type_18 (by decide) ?_
    exact hR _ _ _ _ h rfl d_R_type_20
  · replace h := h.2 c9
    refine V.iload_n hC d_R_type_7 rfl rfl ?_
    refine V.iconst (v := 0) hC d_R_type_8 (by decide) ?_
    refine V.sipush (v := 255) hC d_R_type_9 (by decide) ?_
    refine V.callSI hC exR (w_R_in w t8 a2 (0 : Int32) (255 : Int32) _ h) d_R_type_12 mo_R_in qm_R_97 rfl rfl rfl rfl (Nat.le_of_ble_eq_true rfl) (fun r10 t11 h => ?_)
    refine V.if_ne (tgt := 21) hC d_R_type_15 (by decide) (fun c12 => ?_) (fun c12 => ?_)
    · replace h := h.1 c12
      refine V.aload_n hC d_R_type_21 rfl rfl ?_
      refine V.getR (j := 0) hC d_R_type_22 rfl rfl uC8 rfl rfl qf_R_7 ?_
      refine V.iload_n hC d_R_type_25 rfl rfl ?_
      obtain ⟨b13, h⟩ := h
      refine V.iald hC d_R_type_26 rfl b13 ?_
      refine V.iload_n hC d_R_type_27 rfl rfl ?_
      refine V.if_ne (tgt := 36) hC d_R_type_28 (by decide) (fun c14 => ?_) (fun c14 => ?_)
      · replace h := h.1 c14
        refine V.bipush (v := 17) hC d_R_type_36 (by decide) ?_
        exact V.msk [true, true, true] rfl (wj_R_type_38  hC hR  t11 a1 a2 (t11 1 (ix a1)) (17 : Int32) h)
      · replace h := h.2 c14
        refine V.bipush (v := 39) hC d_R_type_31 (by decide) ?_
        refine V.goto (tgt := 38) hC d_R_type_33 (by decide) ?_
        exact V.msk [true, true, true] rfl (wj_R_type_38  hC hR  t11 a1 a2 (t11 1 (ix a1)) (39 : Int32) h)
    · replace h := h.2 c12
      refine V.bipush (v := -2) hC d_R_type_18 (by decide) ?_
      exact hR _ _ _ _ h rfl d_R_type_20
abbrev b_R_wipe : ByteArray := prog_10_method_11_code
def y_R_wipe : MethodName := ⟨nC8, "wipe", "(I)I"⟩
theorem d_R_wipe_0 : decode b_R_wipe 0 = .ok (.iload_n 1, 1) := by decide +kernel
theorem d_R_wipe_1 : decode b_R_wipe 1 = .ok (.invokestatic 101, 3) := by decide +kernel
theorem d_R_wipe_4 : decode b_R_wipe 4 = .ok (.ifCond .ne 6, 3) := by decide +kernel
theorem d_R_wipe_7 : decode b_R_wipe 7 = .ok (.bipush (-2), 2) := by decide +kernel
theorem d_R_wipe_9 : decode b_R_wipe 9 = .ok (.ireturn, 1) := by decide +kernel
theorem d_R_wipe_10 : decode b_R_wipe 10 = .ok (.aload_n 0, 1) := by decide +kernel
theorem d_R_wipe_11 : decode b_R_wipe 11 = .ok (.getfield 7, 3) := by decide +kernel
theorem d_R_wipe_14 : decode b_R_wipe 14 = .ok (.iload_n 1, 1) := by decide +kernel
theorem d_R_wipe_15 : decode b_R_wipe 15 = .ok (.iaload, 1) := by decide +kernel
theorem d_R_wipe_16 : decode b_R_wipe 16 = .ok (.istore_n 2, 1) := by decide +kernel
theorem d_R_wipe_17 : decode b_R_wipe 17 = .ok (.aload_n 0, 1) := by decide +kernel
theorem d_R_wipe_18 : decode b_R_wipe 18 = .ok (.getfield 7, 3) := by decide +kernel
theorem d_R_wipe_21 : decode b_R_wipe 21 = .ok (.iload_n 1, 1) := by decide +kernel
theorem d_R_wipe_22 : decode b_R_wipe 22 = .ok (.iconst 0, 1) := by decide +kernel
theorem d_R_wipe_23 : decode b_R_wipe 23 = .ok (.iastore, 1) := by decide +kernel
theorem d_R_wipe_24 : decode b_R_wipe 24 = .ok (.iload_n 2, 1) := by decide +kernel
theorem d_R_wipe_25 : decode b_R_wipe 25 = .ok (.ireturn, 1) := by decide +kernel
def wp_R_wipe (σ : Hp) (a1 : Int32) (P : Int32 → Hp → Prop) : Prop :=
  wp_R_isText σ a1 (fun (r1 : Int32) (t2 : Hp) => ((¬ r1 = 0 → (vp_in a1 2) ∧ (∀ v5 : Int32, v5 = t2 1 (ix a1) → (vp_in a1 2) ∧ P v5 (st t2 1 (ix a1) (0 : Int32)))) ∧ (r1 = 0 → P (-2 : Int32) t2)))
set_option maxHeartbeats 4000000 in
set_option maxRecDepth 100000 in
theorem w_R_wipe (w : Wd) (σ : Hp) (a1 : Int32) (P : Int32 → Hp → Prop) (h : wp_R_wipe σ a1 P) : CtI μR w y_R_wipe b_R_wipe 3 (some .int) 2 [.ref (w.1 0), .int a1] σ P := by
  unfold wp_R_wipe at h
  refine CtI.ofV (C := nC8) (lo := [some (.ref (w.1 0)), some (.int a1), none]) exR (by decide +kernel) rfl rfl rfl (fun κ hC hR => ?_)
  refine V.iload_n hC d_R_wipe_0 rfl rfl ?_
  refine V.callSI hC exR (w_R_isText w σ a1 _ h) d_R_wipe_1 mo_R_isText qm_R_101 rfl rfl rfl rfl (Nat.le_of_ble_eq_true rfl) (fun r1 t2 h => ?_)
  refine V.if_ne (tgt := 10) hC d_R_wipe_4 (by decide) (fun c3 => ?_) (fun c3 => ?_)
  · replace h := h.1 c3
    refine V.aload_n hC d_R_wipe_10 rfl rfl ?_
    refine V.getR (j := 0) hC d_R_wipe_11 rfl rfl uC8 rfl rfl qf_R_7 ?_
    refine V.iload_n hC d_R_wipe_14 rfl rfl ?_
    obtain ⟨b4, h⟩ := h
    refine V.iald hC d_R_wipe_15 rfl b4 ?_
    obtain ⟨v5, ev5⟩ : ∃ y : Int32, y = t2 1 (ix a1) := ⟨_, rfl⟩
    replace h := h v5 ev5
    refine V.istore_n (y := v5) (lo' := [some (.ref (w.1 0)), some (.int a1), some (.int v5)]) hC d_R_wipe_16 rfl rfl ev5 rfl ?_
    refine V.aload_n hC d_R_wipe_17 rfl rfl ?_
    refine V.getR (j := 0) hC d_R_wipe_18 rfl rfl uC8 rfl rfl qf_R_7 ?_
    refine V.iload_n hC d_R_wipe_21 rfl rfl ?_
    refine V.iconst (v := 0) hC d_R_wipe_22 (by decide) ?_
    obtain ⟨b6, h⟩ := h
    refine V.iast hC d_R_wipe_23 rfl b6 ?_
    refine V.iload_n hC d_R_wipe_24 rfl rfl ?_
    exact hR _ _ _ _ h rfl d_R_wipe_25
  · replace h := h.2 c3
    refine V.bipush (v := -2) hC d_R_wipe_7 (by decide) ?_
    exact hR _ _ _ _ h rfl d_R_wipe_9
abbrev b_R_undo : ByteArray := prog_10_method_12_code
def y_R_undo : MethodName := ⟨nC8, "undo", "(I)I"⟩
theorem d_R_undo_0 : decode b_R_undo 0 = .ok (.iload_n 1, 1) := by decide +kernel
theorem d_R_undo_1 : decode b_R_undo 1 = .ok (.invokestatic 101, 3) := by decide +kernel
theorem d_R_undo_4 : decode b_R_undo 4 = .ok (.ifCond .ne 6, 3) := by decide +kernel
theorem d_R_undo_7 : decode b_R_undo 7 = .ok (.bipush (-2), 2) := by decide +kernel
theorem d_R_undo_9 : decode b_R_undo 9 = .ok (.ireturn, 1) := by decide +kernel
theorem d_R_undo_10 : decode b_R_undo 10 = .ok (.aload_n 0, 1) := by decide +kernel
theorem d_R_undo_11 : decode b_R_undo 11 = .ok (.getfield 7, 3) := by decide +kernel
theorem d_R_undo_14 : decode b_R_undo 14 = .ok (.iload_n 1, 1) := by decide +kernel
theorem d_R_undo_15 : decode b_R_undo 15 = .ok (.iaload, 1) := by decide +kernel
theorem d_R_undo_16 : decode b_R_undo 16 = .ok (.ifCond .ne 6, 3) := by decide +kernel
theorem d_R_undo_19 : decode b_R_undo 19 = .ok (.bipush (-3), 2) := by decide +kernel
theorem d_R_undo_21 : decode b_R_undo 21 = .ok (.ireturn, 1) := by decide +kernel
theorem d_R_undo_22 : decode b_R_undo 22 = .ok (.aload_n 0, 1) := by decide +kernel
theorem d_R_undo_23 : decode b_R_undo 23 = .ok (.getfield 7, 3) := by decide +kernel
theorem d_R_undo_26 : decode b_R_undo 26 = .ok (.iload_n 1, 1) := by decide +kernel
theorem d_R_undo_27 : decode b_R_undo 27 = .ok (.dup2, 1) := by decide +kernel
theorem d_R_undo_28 : decode b_R_undo 28 = .ok (.iaload, 1) := by decide +kernel
theorem d_R_undo_29 : decode b_R_undo 29 = .ok (.iconst 1, 1) := by decide +kernel
theorem d_R_undo_30 : decode b_R_undo 30 = .ok (.isub, 1) := by decide +kernel
theorem d_R_undo_31 : decode b_R_undo 31 = .ok (.iastore, 1) := by decide +kernel
theorem d_R_undo_32 : decode b_R_undo 32 = .ok (.aload_n 0, 1) := by decide +kernel
theorem d_R_undo_33 : decode b_R_undo 33 = .ok (.getfield 7, 3) := by decide +kernel
theorem d_R_undo_36 : decode b_R_undo 36 = .ok (.iload_n 1, 1) := by decide +kernel
theorem d_R_undo_37 : decode b_R_undo 37 = .ok (.iaload, 1) := by decide +kernel
theorem d_R_undo_38 : decode b_R_undo 38 = .ok (.ireturn, 1) := by decide +kernel
def wp_R_undo (σ : Hp) (a1 : Int32) (P : Int32 → Hp → Prop) : Prop :=
  wp_R_isText σ a1 (fun (r1 : Int32) (t2 : Hp) => ((¬ r1 = 0 → (vp_in a1 2) ∧ ((¬ (t2 1 (ix a1)) = 0 → (vp_in a1 2) ∧ (vp_in a1 2) ∧ (vp_in a1 2) ∧ P ((st t2 1 (ix a1) ((t2 1 (ix a1)) - (1 : Int32))) 1 (ix a1)) (st t2 1 (ix a1) ((t2 1 (ix a1)) - (1 : Int32)))) ∧ ((t2 1 (ix a1)) = 0 → P (-3 : Int32) t2))) ∧ (r1 = 0 → P (-2 : Int32) t2)))
set_option maxHeartbeats 4000000 in
set_option maxRecDepth 100000 in
theorem w_R_undo (w : Wd) (σ : Hp) (a1 : Int32) (P : Int32 → Hp → Prop) (h : wp_R_undo σ a1 P) : CtI μR w y_R_undo b_R_undo 2 (some .int) 2 [.ref (w.1 0), .int a1] σ P := by
  unfold wp_R_undo at h
  refine CtI.ofV (C := nC8) (lo := [some (.ref (w.1 0)), some (.int a1)]) exR (by decide +kernel) rfl rfl rfl (fun κ hC hR => ?_)
  refine V.iload_n hC d_R_undo_0 rfl rfl ?_
  refine V.callSI hC exR (w_R_isText w σ a1 _ h) d_R_undo_1 mo_R_isText qm_R_101 rfl rfl rfl rfl (Nat.le_of_ble_eq_true rfl) (fun r1 t2 h => ?_)
  refine V.if_ne (tgt := 10) hC d_R_undo_4 (by decide) (fun c3 => ?_) (fun c3 => ?_)
  · replace h := h.1 c3
    refine V.aload_n hC d_R_undo_10 rfl rfl ?_
    refine V.getR (j := 0) hC d_R_undo_11 rfl rfl uC8 rfl rfl qf_R_7 ?_
    refine V.iload_n hC d_R_undo_14 rfl rfl ?_
    obtain ⟨b4, h⟩ := h
    refine V.iald hC d_R_undo_15 rfl b4 ?_
    refine V.if_ne (tgt := 22) hC d_R_undo_16 (by decide) (fun c5 => ?_) (fun c5 => ?_)
    · replace h := h.1 c5
      refine V.aload_n hC d_R_undo_22 rfl rfl ?_
      refine V.getR (j := 0) hC d_R_undo_23 rfl rfl uC8 rfl rfl qf_R_7 ?_
      refine V.iload_n hC d_R_undo_26 rfl rfl ?_
      refine V.dup2_11 hC d_R_undo_27 rfl rfl ?_
      obtain ⟨b6, h⟩ := h
      refine V.iald hC d_R_undo_28 rfl b6 ?_
      refine V.iconst (v := 1) hC d_R_undo_29 (by decide) ?_
      refine V.isub hC d_R_undo_30 ?_
      obtain ⟨b7, h⟩ := h
      refine V.iast hC d_R_undo_31 rfl b7 ?_
      refine V.aload_n hC d_R_undo_32 rfl rfl ?_
      refine V.getR (j := 0) hC d_R_undo_33 rfl rfl uC8 rfl rfl qf_R_7 ?_
      refine V.iload_n hC d_R_undo_36 rfl rfl ?_
      obtain ⟨b8, h⟩ := h
      refine V.iald hC d_R_undo_37 rfl b8 ?_
      exact hR _ _ _ _ h rfl d_R_undo_38
    · replace h := h.2 c5
      refine V.bipush (v := -3) hC d_R_undo_19 (by decide) ?_
      exact hR _ _ _ _ h rfl d_R_undo_21
  · replace h := h.2 c3
    refine V.bipush (v := -2) hC d_R_undo_7 (by decide) ?_
    exact hR _ _ _ _ h rfl d_R_undo_9
abbrev b_R_byteAt : ByteArray := prog_10_method_13_code
def y_R_byteAt : MethodName := ⟨nC8, "byteAt", "(II)I"⟩
theorem d_R_byteAt_0 : decode b_R_byteAt 0 = .ok (.iload_n 2, 1) := by decide +kernel
theorem d_R_byteAt_1 : decode b_R_byteAt 1 = .ok (.aload_n 0, 1) := by decide +kernel
theorem d_R_byteAt_2 : decode b_R_byteAt 2 = .ok (.getfield 7, 3) := by decide +kernel
theorem d_R_byteAt_5 : decode b_R_byteAt 5 = .ok (.iload_n 1, 1) := by decide +kernel
theorem d_R_byteAt_6 : decode b_R_byteAt 6 = .ok (.iaload, 1) := by decide +kernel
theorem d_R_byteAt_7 : decode b_R_byteAt 7 = .ok (.if_icmp .ge 17, 3) := by decide +kernel
theorem d_R_byteAt_10 : decode b_R_byteAt 10 = .ok (.aload_n 0, 1) := by decide +kernel
theorem d_R_byteAt_11 : decode b_R_byteAt 11 = .ok (.getfield 13, 3) := by decide +kernel
theorem d_R_byteAt_14 : decode b_R_byteAt 14 = .ok (.bipush 39, 2) := by decide +kernel
theorem d_R_byteAt_16 : decode b_R_byteAt 16 = .ok (.iload_n 1, 1) := by decide +kernel
theorem d_R_byteAt_17 : decode b_R_byteAt 17 = .ok (.imul, 1) := by decide +kernel
theorem d_R_byteAt_18 : decode b_R_byteAt 18 = .ok (.iload_n 2, 1) := by decide +kernel
theorem d_R_byteAt_19 : decode b_R_byteAt 19 = .ok (.iadd, 1) := by decide +kernel
theorem d_R_byteAt_20 : decode b_R_byteAt 20 = .ok (.iaload, 1) := by decide +kernel
theorem d_R_byteAt_21 : decode b_R_byteAt 21 = .ok (.goto 4, 3) := by decide +kernel
theorem d_R_byteAt_24 : decode b_R_byteAt 24 = .ok (.iconst (-1), 1) := by decide +kernel
theorem d_R_byteAt_25 : decode b_R_byteAt 25 = .ok (.ireturn, 1) := by decide +kernel
theorem mo_R_byteAt : MokV y_R_byteAt b_R_byteAt 3 (some .int) 2 := ⟨⟨(tbl_in 1012 (by decide +kernel) rfl), (tbl_in 70 (by decide +kernel) rfl)⟩, ⟨(tbl_in 1011 (by decide +kernel) rfl), tbl_lw _ (tbl_in 17 (by decide +kernel) rfl), (tbl_in 17 (by decide +kernel) rfl)⟩, ⟨by decide +kernel, by decide +kernel⟩, by decide +kernel⟩
def wp_R_byteAt (σ : Hp) (a1 : Int32) (a2 : Int32) (P : Int32 → Hp → Prop) : Prop :=
  (vp_in a1 2) ∧ (((σ 1 (ix a1)) ≤ a2 → P (-1 : Int32) σ) ∧ (¬ (σ 1 (ix a1)) ≤ a2 → (vp_in (((39 : Int32) * a1) + a2) 78) ∧ P (σ 2 (ix (((39 : Int32) * a1) + a2))) σ))
set_option maxHeartbeats 4000000 in
set_option maxRecDepth 100000 in
theorem w_R_byteAt (w : Wd) (σ : Hp) (a1 : Int32) (a2 : Int32) (P : Int32 → Hp → Prop) (h : wp_R_byteAt σ a1 a2 P) : CtI μR w y_R_byteAt b_R_byteAt 3 (some .int) 0 [.ref (w.1 0), .int a1, .int a2] σ P := by
  unfold wp_R_byteAt at h
  refine CtI.ofV (C := nC8) (lo := [some (.ref (w.1 0)), some (.int a1), some (.int a2)]) exR (by decide +kernel) rfl rfl rfl (fun κ hC hR => ?_)
  refine V.iload_n hC d_R_byteAt_0 rfl rfl ?_
  refine V.aload_n hC d_R_byteAt_1 rfl rfl ?_
  refine V.getR (j := 0) hC d_R_byteAt_2 rfl rfl uC8 rfl rfl qf_R_7 ?_
  refine V.iload_n hC d_R_byteAt_5 rfl rfl ?_
  obtain ⟨b1, h⟩ := h
  refine V.iald hC d_R_byteAt_6 rfl b1 ?_
  refine V.icmp_ge (tgt := 24) hC d_R_byteAt_7 (by decide) (fun c2 => ?_) (fun c2 => ?_)
  · replace h := h.1 c2
    refine V.iconst (v := -1) hC d_R_byteAt_24 (by decide) ?_
    exact hR _ _ _ _ h rfl d_R_byteAt_25
  · replace h := h.2 c2
    refine V.aload_n hC d_R_byteAt_10 rfl rfl ?_
    refine V.getR (j := 1) hC d_R_byteAt_11 rfl rfl uC8 rfl rfl qf_R_13 ?_
    refine V.bipush (v := 39) hC d_R_byteAt_14 (by decide) ?_
    refine V.iload_n hC d_R_byteAt_16 rfl rfl ?_
    refine V.imul hC d_R_byteAt_17 ?_
    refine V.iload_n hC d_R_byteAt_18 rfl rfl ?_
    refine V.iadd hC d_R_byteAt_19 ?_
    obtain ⟨b3, h⟩ := h
    refine V.iald hC d_R_byteAt_20 rfl b3 ?_
    refine V.goto (tgt := 25) hC d_R_byteAt_21 (by decide) ?_
    exact hR _ _ _ _ h rfl d_R_byteAt_25
abbrev b_R_kindOf : ByteArray := prog_10_method_14_code
def y_R_kindOf : MethodName := ⟨nC8, "kindOf", "(I)I"⟩
theorem d_R_kindOf_0 : decode b_R_kindOf 0 = .ok (.iload_n 0, 1) := by decide +kernel
theorem d_R_kindOf_1 : decode b_R_kindOf 1 = .ok (.bipush 99, 2) := by decide +kernel
theorem d_R_kindOf_3 : decode b_R_kindOf 3 = .ok (.if_icmp .ne 7, 3) := by decide +kernel
theorem d_R_kindOf_6 : decode b_R_kindOf 6 = .ok (.iconst 0, 1) := by decide +kernel
theorem d_R_kindOf_7 : decode b_R_kindOf 7 = .ok (.goto 34, 3) := by decide +kernel
theorem d_R_kindOf_10 : decode b_R_kindOf 10 = .ok (.iload_n 0, 1) := by decide +kernel
theorem d_R_kindOf_11 : decode b_R_kindOf 11 = .ok (.bipush 109, 2) := by decide +kernel
theorem d_R_kindOf_13 : decode b_R_kindOf 13 = .ok (.if_icmp .ne 7, 3) := by decide +kernel
theorem d_R_kindOf_16 : decode b_R_kindOf 16 = .ok (.iconst 1, 1) := by decide +kernel
theorem d_R_kindOf_17 : decode b_R_kindOf 17 = .ok (.goto 24, 3) := by decide +kernel
theorem d_R_kindOf_20 : decode b_R_kindOf 20 = .ok (.iload_n 0, 1) := by decide +kernel
theorem d_R_kindOf_21 : decode b_R_kindOf 21 = .ok (.bipush 104, 2) := by decide +kernel
theorem d_R_kindOf_23 : decode b_R_kindOf 23 = .ok (.if_icmp .ne 7, 3) := by decide +kernel
theorem d_R_kindOf_26 : decode b_R_kindOf 26 = .ok (.iconst 2, 1) := by decide +kernel
theorem d_R_kindOf_27 : decode b_R_kindOf 27 = .ok (.goto 14, 3) := by decide +kernel
theorem d_R_kindOf_30 : decode b_R_kindOf 30 = .ok (.iload_n 0, 1) := by decide +kernel
theorem d_R_kindOf_31 : decode b_R_kindOf 31 = .ok (.bipush 111, 2) := by decide +kernel
theorem d_R_kindOf_33 : decode b_R_kindOf 33 = .ok (.if_icmp .ne 7, 3) := by decide +kernel
theorem d_R_kindOf_36 : decode b_R_kindOf 36 = .ok (.iconst 3, 1) := by decide +kernel
theorem d_R_kindOf_37 : decode b_R_kindOf 37 = .ok (.goto 4, 3) := by decide +kernel
theorem d_R_kindOf_40 : decode b_R_kindOf 40 = .ok (.iconst (-1), 1) := by decide +kernel
theorem d_R_kindOf_41 : decode b_R_kindOf 41 = .ok (.ireturn, 1) := by decide +kernel
theorem mo_R_kindOf : MokS y_R_kindOf b_R_kindOf 1 (some .int) 1 := ⟨⟨(tbl_in 1015 (by decide +kernel) rfl), (tbl_in 70 (by decide +kernel) rfl)⟩, (tbl_in 1014 (by decide +kernel) rfl), ⟨by decide +kernel, by decide +kernel⟩, by decide +kernel⟩
def wp_R_kindOf (σ : Hp) (a1 : Int32) (P : Int32 → Hp → Prop) : Prop :=
  ((¬ a1 = (99 : Int32) → ((¬ a1 = (109 : Int32) → ((¬ a1 = (104 : Int32) → ((¬ a1 = (111 : Int32) → P (-1 : Int32) σ) ∧ (a1 = (111 : Int32) → P (3 : Int32) σ))) ∧ (a1 = (104 : Int32) → P (2 : Int32) σ))) ∧ (a1 = (109 : Int32) → P (1 : Int32) σ))) ∧ (a1 = (99 : Int32) → P (0 : Int32) σ))
set_option maxHeartbeats 4000000 in
set_option maxRecDepth 100000 in
theorem w_R_kindOf (w : Wd) (σ : Hp) (a1 : Int32) (P : Int32 → Hp → Prop) (h : wp_R_kindOf σ a1 P) : CtI μR w y_R_kindOf b_R_kindOf 1 (some .int) 0 [.int a1] σ P := by
  unfold wp_R_kindOf at h
  refine CtI.ofV (C := nC8) (lo := [some (.int a1)]) exR (by decide +kernel) rfl rfl rfl (fun κ hC hR => ?_)
  refine V.iload_n hC d_R_kindOf_0 rfl rfl ?_
  refine V.bipush (v := 99) hC d_R_kindOf_1 (by decide) ?_
  refine V.icmp_ne (tgt := 10) hC d_R_kindOf_3 (by decide) (fun c1 => ?_) (fun c1 => ?_)
  · replace h := h.1 c1
    refine V.iload_n hC d_R_kindOf_10 rfl rfl ?_
    refine V.bipush (v := 109) hC d_R_kindOf_11 (by decide) ?_
    refine V.icmp_ne (tgt := 20) hC d_R_kindOf_13 (by decide) (fun c2 => ?_) (fun c2 => ?_)
    · replace h := h.1 c2
      refine V.iload_n hC d_R_kindOf_20 rfl rfl ?_
      refine V.bipush (v := 104) hC d_R_kindOf_21 (by decide) ?_
      refine V.icmp_ne (tgt := 30) hC d_R_kindOf_23 (by decide) (fun c3 => ?_) (fun c3 => ?_)
      · replace h := h.1 c3
        refine V.iload_n hC d_R_kindOf_30 rfl rfl ?_
        refine V.bipush (v := 111) hC d_R_kindOf_31 (by decide) ?_
        refine V.icmp_ne (tgt := 40) hC d_R_kindOf_33 (by decide) (fun c4 => ?_) (fun c4 => ?_)
        · replace h := h.1 c4
          refine V.iconst (v := -1) hC d_R_kindOf_40 (by decide) ?_
          exact hR _ _ _ _ h rfl d_R_kindOf_41
        · replace h := h.2 c4
          refine V.iconst (v := 3) hC d_R_kindOf_36 (by decide) ?_
          refine V.goto (tgt := 41) hC d_R_kindOf_37 (by decide) ?_
          exact hR _ _ _ _ h rfl d_R_kindOf_41
      · replace h := h.2 c3
        refine V.iconst (v := 2) hC d_R_kindOf_26 (by decide) ?_
        refine V.goto (tgt := 41) hC d_R_kindOf_27 (by decide) ?_
        exact hR _ _ _ _ h rfl d_R_kindOf_41
    · replace h := h.2 c2
      refine V.iconst (v := 1) hC d_R_kindOf_16 (by decide) ?_
      refine V.goto (tgt := 41) hC d_R_kindOf_17 (by decide) ?_
      exact hR _ _ _ _ h rfl d_R_kindOf_41
  · replace h := h.2 c1
    refine V.iconst (v := 0) hC d_R_kindOf_6 (by decide) ?_
    refine V.goto (tgt := 41) hC d_R_kindOf_7 (by decide) ?_
    exact hR _ _ _ _ h rfl d_R_kindOf_41
abbrev b_R_figureAt : ByteArray := prog_10_method_15_code
def y_R_figureAt : MethodName := ⟨nC8, "figureAt", "(II)I"⟩
theorem d_R_figureAt_0 : decode b_R_figureAt 0 = .ok (.aload_n 0, 1) := by decide +kernel
theorem d_R_figureAt_1 : decode b_R_figureAt 1 = .ok (.iload_n 1, 1) := by decide +kernel
theorem d_R_figureAt_2 : decode b_R_figureAt 2 = .ok (.iload_n 2, 1) := by decide +kernel
theorem d_R_figureAt_3 : decode b_R_figureAt 3 = .ok (.invokevirtual 105, 3) := by decide +kernel
theorem d_R_figureAt_6 : decode b_R_figureAt 6 = .ok (.bipush 48, 2) := by decide +kernel
theorem d_R_figureAt_8 : decode b_R_figureAt 8 = .ok (.isub, 1) := by decide +kernel
theorem d_R_figureAt_9 : decode b_R_figureAt 9 = .ok (.istore_n 3, 1) := by decide +kernel
theorem d_R_figureAt_10 : decode b_R_figureAt 10 = .ok (.iload_n 3, 1) := by decide +kernel
theorem d_R_figureAt_11 : decode b_R_figureAt 11 = .ok (.iconst 0, 1) := by decide +kernel
theorem d_R_figureAt_12 : decode b_R_figureAt 12 = .ok (.bipush 9, 2) := by decide +kernel
theorem d_R_figureAt_14 : decode b_R_figureAt 14 = .ok (.invokestatic 97, 3) := by decide +kernel
theorem d_R_figureAt_17 : decode b_R_figureAt 17 = .ok (.ifCond .eq 7, 3) := by decide +kernel
theorem d_R_figureAt_20 : decode b_R_figureAt 20 = .ok (.iload_n 3, 1) := by decide +kernel
theorem d_R_figureAt_21 : decode b_R_figureAt 21 = .ok (.goto 4, 3) := by decide +kernel
theorem d_R_figureAt_24 : decode b_R_figureAt 24 = .ok (.iconst (-1), 1) := by decide +kernel
theorem d_R_figureAt_25 : decode b_R_figureAt 25 = .ok (.ireturn, 1) := by decide +kernel
theorem qm_R_105 : Cond.methodLink nC8 105 y_R_byteAt ∈ tbl := tbl_in 1009 (by decide +kernel) rfl
theorem mo_R_figureAt : MokV y_R_figureAt b_R_figureAt 4 (some .int) 2 := ⟨⟨(tbl_in 1019 (by decide +kernel) rfl), (tbl_in 70 (by decide +kernel) rfl)⟩, ⟨(tbl_in 1018 (by decide +kernel) rfl), tbl_lw _ (tbl_in 18 (by decide +kernel) rfl), (tbl_in 18 (by decide +kernel) rfl)⟩, ⟨by decide +kernel, by decide +kernel⟩, by decide +kernel⟩
def wp_R_figureAt (σ : Hp) (a1 : Int32) (a2 : Int32) (P : Int32 → Hp → Prop) : Prop :=
  wp_R_byteAt σ a1 a2 (fun (r1 : Int32) (t2 : Hp) => (∀ v3 : Int32, v3 = r1 - (48 : Int32) → wp_R_in t2 v3 (0 : Int32) (9 : Int32) (fun (r4 : Int32) (t5 : Hp) => ((r4 = 0 → P (-1 : Int32) t5) ∧ (¬ r4 = 0 → P v3 t5)))))
set_option maxHeartbeats 4000000 in
set_option maxRecDepth 100000 in
theorem w_R_figureAt (w : Wd) (σ : Hp) (a1 : Int32) (a2 : Int32) (P : Int32 → Hp → Prop) (h : wp_R_figureAt σ a1 a2 P) : CtI μR w y_R_figureAt b_R_figureAt 4 (some .int) 1 [.ref (w.1 0), .int a1, .int a2] σ P := by
  unfold wp_R_figureAt at h
  refine CtI.ofV (C := nC8) (lo := [some (.ref (w.1 0)), some (.int a1), some (.int a2), none]) exR (by decide +kernel) rfl rfl rfl (fun κ hC hR => ?_)
  refine V.aload_n hC d_R_figureAt_0 rfl rfl ?_
  refine V.iload_n hC d_R_figureAt_1 rfl rfl ?_
  refine V.iload_n hC d_R_figureAt_2 rfl rfl ?_
  refine V.callVI hC exR (w_R_byteAt w σ a1 a2 _ h) d_R_figureAt_3 mo_R_byteAt qm_R_105 rfl rfl rfl rfl rfl rfl rfl (Nat.le_of_ble_eq_true rfl) (fun r1 t2 h => ?_)
  refine V.bipush (v := 48) hC d_R_figureAt_6 (by decide) ?_
  refine V.isub hC d_R_figureAt_8 ?_
  obtain ⟨v3, ev3⟩ : ∃ y : Int32, y = r1 - (48 : Int32) := ⟨_, rfl⟩
  replace h := h v3 ev3
  refine V.istore_n (y := v3) (lo' := [some (.ref (w.1 0)), some (.int a1), some (.int a2), some (.int v3)]) hC d_R_figureAt_9 rfl rfl ev3 rfl ?_
  refine V.iload_n hC d_R_figureAt_10 rfl rfl ?_
  refine V.iconst (v := 0) hC d_R_figureAt_11 (by decide) ?_
  refine V.bipush (v := 9) hC d_R_figureAt_12 (by decide) ?_
  refine V.callSI hC exR (w_R_in w t2 v3 (0 : Int32) (9 : Int32) _ h) d_R_figureAt_14 mo_R_in qm_R_97 rfl rfl rfl rfl (Nat.le_of_ble_eq_true rfl) (fun r4 t5 h => ?_)
  refine V.if_eq (tgt := 24) hC d_R_figureAt_17 (by decide) (fun c6 => ?_) (fun c6 => ?_)
  · replace h := h.1 c6
    refine V.iconst (v := -1) hC d_R_figureAt_24 (by decide) ?_
    exact hR _ _ _ _ h rfl d_R_figureAt_25
  · replace h := h.2 c6
    refine V.iload_n hC d_R_figureAt_20 rfl rfl ?_
    refine V.goto (tgt := 25) hC d_R_figureAt_21 (by decide) ?_
    exact hR _ _ _ _ h rfl d_R_figureAt_25
abbrev b_R_readsHouse : ByteArray := prog_10_method_16_code
def y_R_readsHouse : MethodName := ⟨nC8, "readsHouse", "(II)I"⟩
theorem d_R_readsHouse_0 : decode b_R_readsHouse 0 = .ok (.aload_n 0, 1) := by decide +kernel
theorem d_R_readsHouse_1 : decode b_R_readsHouse 1 = .ok (.iconst 0, 1) := by decide +kernel
theorem d_R_readsHouse_2 : decode b_R_readsHouse 2 = .ok (.iload_n 2, 1) := by decide +kernel
theorem d_R_readsHouse_3 : decode b_R_readsHouse 3 = .ok (.invokevirtual 105, 3) := by decide +kernel
theorem d_R_readsHouse_6 : decode b_R_readsHouse 6 = .ok (.invokestatic 109, 3) := by decide +kernel
theorem d_R_readsHouse_9 : decode b_R_readsHouse 9 = .ok (.istore_n 3, 1) := by decide +kernel
theorem d_R_readsHouse_10 : decode b_R_readsHouse 10 = .ok (.aload_n 0, 1) := by decide +kernel
theorem d_R_readsHouse_11 : decode b_R_readsHouse 11 = .ok (.iconst 0, 1) := by decide +kernel
theorem d_R_readsHouse_12 : decode b_R_readsHouse 12 = .ok (.iload_n 2, 1) := by decide +kernel
theorem d_R_readsHouse_13 : decode b_R_readsHouse 13 = .ok (.iconst 1, 1) := by decide +kernel
theorem d_R_readsHouse_14 : decode b_R_readsHouse 14 = .ok (.iadd, 1) := by decide +kernel
theorem d_R_readsHouse_15 : decode b_R_readsHouse 15 = .ok (.invokevirtual 113, 3) := by decide +kernel
theorem d_R_readsHouse_18 : decode b_R_readsHouse 18 = .ok (.istore 4, 2) := by decide +kernel
theorem d_R_readsHouse_20 : decode b_R_readsHouse 20 = .ok (.aload_n 0, 1) := by decide +kernel
theorem d_R_readsHouse_21 : decode b_R_readsHouse 21 = .ok (.iconst 0, 1) := by decide +kernel
theorem d_R_readsHouse_22 : decode b_R_readsHouse 22 = .ok (.iload_n 2, 1) := by decide +kernel
theorem d_R_readsHouse_23 : decode b_R_readsHouse 23 = .ok (.iconst 2, 1) := by decide +kernel
theorem d_R_readsHouse_24 : decode b_R_readsHouse 24 = .ok (.iadd, 1) := by decide +kernel
theorem d_R_readsHouse_25 : decode b_R_readsHouse 25 = .ok (.invokevirtual 105, 3) := by decide +kernel
theorem d_R_readsHouse_28 : decode b_R_readsHouse 28 = .ok (.invokestatic 109, 3) := by decide +kernel
theorem d_R_readsHouse_31 : decode b_R_readsHouse 31 = .ok (.istore 5, 2) := by decide +kernel
theorem d_R_readsHouse_33 : decode b_R_readsHouse 33 = .ok (.aload_n 0, 1) := by decide +kernel
theorem d_R_readsHouse_34 : decode b_R_readsHouse 34 = .ok (.iconst 0, 1) := by decide +kernel
theorem d_R_readsHouse_35 : decode b_R_readsHouse 35 = .ok (.iload_n 2, 1) := by decide +kernel
theorem d_R_readsHouse_36 : decode b_R_readsHouse 36 = .ok (.iconst 3, 1) := by decide +kernel
theorem d_R_readsHouse_37 : decode b_R_readsHouse 37 = .ok (.iadd, 1) := by decide +kernel
theorem d_R_readsHouse_38 : decode b_R_readsHouse 38 = .ok (.invokevirtual 113, 3) := by decide +kernel
theorem d_R_readsHouse_41 : decode b_R_readsHouse 41 = .ok (.istore 6, 2) := by decide +kernel
theorem d_R_readsHouse_43 : decode b_R_readsHouse 43 = .ok (.iload_n 3, 1) := by decide +kernel
theorem d_R_readsHouse_44 : decode b_R_readsHouse 44 = .ok (.iconst (-1), 1) := by decide +kernel
theorem d_R_readsHouse_45 : decode b_R_readsHouse 45 = .ok (.if_icmp .ne 5, 3) := by decide +kernel
theorem d_R_readsHouse_48 : decode b_R_readsHouse 48 = .ok (.iconst 0, 1) := by decide +kernel
theorem d_R_readsHouse_49 : decode b_R_readsHouse 49 = .ok (.ireturn, 1) := by decide +kernel
theorem d_R_readsHouse_50 : decode b_R_readsHouse 50 = .ok (.iload 4, 2) := by decide +kernel
theorem d_R_readsHouse_52 : decode b_R_readsHouse 52 = .ok (.iconst (-1), 1) := by decide +kernel
theorem d_R_readsHouse_53 : decode b_R_readsHouse 53 = .ok (.if_icmp .ne 5, 3) := by decide +kernel
theorem d_R_readsHouse_56 : decode b_R_readsHouse 56 = .ok (.iconst 1, 1) := by decide +kernel
theorem d_R_readsHouse_57 : decode b_R_readsHouse 57 = .ok (.ireturn, 1) := by decide +kernel
theorem d_R_readsHouse_58 : decode b_R_readsHouse 58 = .ok (.iload 5, 2) := by decide +kernel
theorem d_R_readsHouse_60 : decode b_R_readsHouse 60 = .ok (.iconst (-1), 1) := by decide +kernel
theorem d_R_readsHouse_61 : decode b_R_readsHouse 61 = .ok (.if_icmp .ne 5, 3) := by decide +kernel
theorem d_R_readsHouse_64 : decode b_R_readsHouse 64 = .ok (.iconst 2, 1) := by decide +kernel
theorem d_R_readsHouse_65 : decode b_R_readsHouse 65 = .ok (.ireturn, 1) := by decide +kernel
theorem d_R_readsHouse_66 : decode b_R_readsHouse 66 = .ok (.iload 6, 2) := by decide +kernel
theorem d_R_readsHouse_68 : decode b_R_readsHouse 68 = .ok (.iconst (-1), 1) := by decide +kernel
theorem d_R_readsHouse_69 : decode b_R_readsHouse 69 = .ok (.if_icmp .ne 5, 3) := by decide +kernel
theorem d_R_readsHouse_72 : decode b_R_readsHouse 72 = .ok (.iconst 3, 1) := by decide +kernel
theorem d_R_readsHouse_73 : decode b_R_readsHouse 73 = .ok (.ireturn, 1) := by decide +kernel
theorem d_R_readsHouse_74 : decode b_R_readsHouse 74 = .ok (.aload_n 0, 1) := by decide +kernel
theorem d_R_readsHouse_75 : decode b_R_readsHouse 75 = .ok (.getfield 16, 3) := by decide +kernel
theorem d_R_readsHouse_78 : decode b_R_readsHouse 78 = .ok (.iload_n 1, 1) := by decide +kernel
theorem d_R_readsHouse_79 : decode b_R_readsHouse 79 = .ok (.iload_n 3, 1) := by decide +kernel
theorem d_R_readsHouse_80 : decode b_R_readsHouse 80 = .ok (.iastore, 1) := by decide +kernel
theorem d_R_readsHouse_81 : decode b_R_readsHouse 81 = .ok (.aload_n 0, 1) := by decide +kernel
theorem d_R_readsHouse_82 : decode b_R_readsHouse 82 = .ok (.getfield 19, 3) := by decide +kernel
theorem d_R_readsHouse_85 : decode b_R_readsHouse 85 = .ok (.iload_n 1, 1) := by decide +kernel
theorem d_R_readsHouse_86 : decode b_R_readsHouse 86 = .ok (.iload 4, 2) := by decide +kernel
theorem d_R_readsHouse_88 : decode b_R_readsHouse 88 = .ok (.iastore, 1) := by decide +kernel
theorem d_R_readsHouse_89 : decode b_R_readsHouse 89 = .ok (.aload_n 0, 1) := by decide +kernel
theorem d_R_readsHouse_90 : decode b_R_readsHouse 90 = .ok (.getfield 22, 3) := by decide +kernel
theorem d_R_readsHouse_93 : decode b_R_readsHouse 93 = .ok (.iload_n 1, 1) := by decide +kernel
theorem d_R_readsHouse_94 : decode b_R_readsHouse 94 = .ok (.iload 5, 2) := by decide +kernel
theorem d_R_readsHouse_96 : decode b_R_readsHouse 96 = .ok (.iastore, 1) := by decide +kernel
theorem d_R_readsHouse_97 : decode b_R_readsHouse 97 = .ok (.aload_n 0, 1) := by decide +kernel
theorem d_R_readsHouse_98 : decode b_R_readsHouse 98 = .ok (.getfield 25, 3) := by decide +kernel
theorem d_R_readsHouse_101 : decode b_R_readsHouse 101 = .ok (.iload_n 1, 1) := by decide +kernel
theorem d_R_readsHouse_102 : decode b_R_readsHouse 102 = .ok (.iload 6, 2) := by decide +kernel
theorem d_R_readsHouse_104 : decode b_R_readsHouse 104 = .ok (.iastore, 1) := by decide +kernel
theorem d_R_readsHouse_105 : decode b_R_readsHouse 105 = .ok (.iconst 4, 1) := by decide +kernel
theorem d_R_readsHouse_106 : decode b_R_readsHouse 106 = .ok (.ireturn, 1) := by decide +kernel
theorem qf_R_16 : Cond.fieldLink nC8 16 (fC8 3).1 (fC8 3).2.1 (fC8 3).2.2.1 ∈ tbl := tbl_in 871 (by decide +kernel) rfl
theorem qf_R_19 : Cond.fieldLink nC8 19 (fC8 4).1 (fC8 4).2.1 (fC8 4).2.2.1 ∈ tbl := tbl_in 872 (by decide +kernel) rfl
theorem qf_R_22 : Cond.fieldLink nC8 22 (fC8 5).1 (fC8 5).2.1 (fC8 5).2.2.1 ∈ tbl := tbl_in 873 (by decide +kernel) rfl
theorem qf_R_25 : Cond.fieldLink nC8 25 (fC8 6).1 (fC8 6).2.1 (fC8 6).2.2.1 ∈ tbl := tbl_in 874 (by decide +kernel) rfl
theorem qm_R_109 : Cond.methodLink nC8 109 y_R_kindOf ∈ tbl := tbl_in 1013 (by decide +kernel) rfl
theorem qm_R_113 : Cond.methodLink nC8 113 y_R_figureAt ∈ tbl := tbl_in 1016 (by decide +kernel) rfl
theorem mo_R_readsHouse : MokV y_R_readsHouse b_R_readsHouse 7 (some .int) 2 := ⟨⟨(tbl_in 1008 (by decide +kernel) rfl), (tbl_in 70 (by decide +kernel) rfl)⟩, ⟨(tbl_in 1007 (by decide +kernel) rfl), tbl_lw _ (tbl_in 16 (by decide +kernel) rfl), (tbl_in 16 (by decide +kernel) rfl)⟩, ⟨by decide +kernel, by decide +kernel⟩, by decide +kernel⟩
def wp_R_readsHouse (σ : Hp) (a1 : Int32) (a2 : Int32) (P : Int32 → Hp → Prop) : Prop :=
  wp_R_byteAt σ (0 : Int32) a2 (fun (r1 : Int32) (t2 : Hp) => wp_R_kindOf t2 r1 (fun (r3 : Int32) (t4 : Hp) => wp_R_figureAt t4 (0 : Int32) (a2 + (1 : Int32)) (fun (r5 : Int32) (t6 : Hp) => wp_R_byteAt t6 (0 : Int32) (a2 + (2 : Int32)) (fun (r7 : Int32) (t8 : Hp) => wp_R_kindOf t8 r7 (fun (r9 : Int32) (t10 : Hp) => wp_R_figureAt t10 (0 : Int32) (a2 + (3 : Int32)) (fun (r11 : Int32) (t12 : Hp) => ((¬ r3 = (-1 : Int32) → ((¬ r5 = (-1 : Int32) → ((¬ r9 = (-1 : Int32) → ((¬ r11 = (-1 : Int32) → (vp_in a1 9) ∧ (vp_in a1 9) ∧ (vp_in a1 9) ∧ (vp_in a1 9) ∧ P (4 : Int32) (st (st (st (st t12 3 (ix a1) r3) 4 (ix a1) r5) 5 (ix a1) r9) 6 (ix a1) r11)) ∧ (r11 = (-1 : Int32) → P (3 : Int32) t12))) ∧ (r9 = (-1 : Int32) → P (2 : Int32) t12))) ∧ (r5 = (-1 : Int32) → P (1 : Int32) t12))) ∧ (r3 = (-1 : Int32) → P (0 : Int32) t12))))))))
set_option maxHeartbeats 4000000 in
set_option maxRecDepth 100000 in
theorem w_R_readsHouse (w : Wd) (σ : Hp) (a1 : Int32) (a2 : Int32) (P : Int32 → Hp → Prop) (h : wp_R_readsHouse σ a1 a2 P) : CtI μR w y_R_readsHouse b_R_readsHouse 7 (some .int) 2 [.ref (w.1 0), .int a1, .int a2] σ P := by
  unfold wp_R_readsHouse at h
  refine CtI.ofV (C := nC8) (lo := [some (.ref (w.1 0)), some (.int a1), some (.int a2), none, none, none, none]) exR (by decide +kernel) rfl rfl rfl (fun κ hC hR => ?_)
  refine V.aload_n hC d_R_readsHouse_0 rfl rfl ?_
  refine V.iconst (v := 0) hC d_R_readsHouse_1 (by decide) ?_
  refine V.iload_n hC d_R_readsHouse_2 rfl rfl ?_
  refine V.callVI hC exR (w_R_byteAt w σ (0 : Int32) a2 _ h) d_R_readsHouse_3 mo_R_byteAt qm_R_105 rfl rfl rfl rfl rfl rfl rfl (Nat.le_of_ble_eq_true rfl) (fun r1 t2 h => ?_)
  refine V.callSI hC exR (w_R_kindOf w t2 r1 _ h) d_R_readsHouse_6 mo_R_kindOf qm_R_109 rfl rfl rfl rfl (Nat.le_of_ble_eq_true rfl) (fun r3 t4 h => ?_)
  refine V.istore_n (y := r3) (lo' := [some (.ref (w.1 0)), some (.int a1), some (.int a2), some (.int r3), none, none, none]) hC d_R_readsHouse_9 rfl rfl rfl rfl ?_
  refine V.aload_n hC d_R_readsHouse_10 rfl rfl ?_
  refine V.iconst (v := 0) hC d_R_readsHouse_11 (by decide) ?_
  refine V.iload_n hC d_R_readsHouse_12 rfl rfl ?_
  refine V.iconst (v := 1) hC d_R_readsHouse_13 (by decide) ?_
  refine V.iadd hC d_R_readsHouse_14 ?_
  refine V.callVI hC exR (w_R_figureAt w t4 (0 : Int32) (a2 + (1 : Int32)) _ h) d_R_readsHouse_15 mo_R_figureAt qm_R_113 rfl rfl rfl rfl rfl rfl rfl (Nat.le_of_ble_eq_true rfl) (fun r5 t6 h => ?_)
  refine V.istore (y := r5) (lo' := [some (.ref (w.1 0)), some (.int a1), some (.int a2), some (.int r3), some (.int r5), none, none]) hC d_R_readsHouse_18 rfl rfl rfl ?_
  refine V.aload_n hC d_R_readsHouse_20 rfl rfl ?_
  refine V.iconst (v := 0) hC d_R_readsHouse_21 (by decide) ?_
  refine V.iload_n hC d_R_readsHouse_22 rfl rfl ?_
  refine V.iconst (v := 2) hC d_R_readsHouse_23 (by decide) ?_
  refine V.iadd hC d_R_readsHouse_24 ?_
  refine V.callVI hC exR (w_R_byteAt w t6 (0 : Int32) (a2 + (2 : Int32)) _ h) d_R_readsHouse_25 mo_R_byteAt qm_R_105 rfl rfl rfl rfl rfl rfl rfl (Nat.le_of_ble_eq_true rfl) (fun r7 t8 h => ?_)
  refine V.callSI hC exR (w_R_kindOf w t8 r7 _ h) d_R_readsHouse_28 mo_R_kindOf qm_R_109 rfl rfl rfl rfl (Nat.le_of_ble_eq_true rfl) (fun r9 t10 h => ?_)
  refine V.istore (y := r9) (lo' := [some (.ref (w.1 0)), some (.int a1), some (.int a2), some (.int r3), some (.int r5), some (.int r9), none]) hC d_R_readsHouse_31 rfl rfl rfl ?_
  refine V.aload_n hC d_R_readsHouse_33 rfl rfl ?_
  refine V.iconst (v := 0) hC d_R_readsHouse_34 (by decide) ?_
  refine V.iload_n hC d_R_readsHouse_35 rfl rfl ?_
  refine V.iconst (v := 3) hC d_R_readsHouse_36 (by decide) ?_
  refine V.iadd hC d_R_readsHouse_37 ?_
  refine V.callVI hC exR (w_R_figureAt w t10 (0 : Int32) (a2 + (3 : Int32)) _ h) d_R_readsHouse_38 mo_R_figureAt qm_R_113 rfl rfl rfl rfl rfl rfl rfl (Nat.le_of_ble_eq_true rfl) (fun r11 t12 h => ?_)
  refine V.istore (y := r11) (lo' := [some (.ref (w.1 0)), some (.int a1), some (.int a2), some (.int r3), some (.int r5), some (.int r9), some (.int r11)]) hC d_R_readsHouse_41 rfl rfl rfl ?_
  refine V.iload_n hC d_R_readsHouse_43 rfl rfl ?_
  refine V.iconst (v := -1) hC d_R_readsHouse_44 (by decide) ?_
  refine V.icmp_ne (tgt := 50) hC d_R_readsHouse_45 (by decide) (fun c13 => ?_) (fun c13 => ?_)
  · replace h := h.1 c13
    refine V.iload hC d_R_readsHouse_50 rfl ?_
    refine V.iconst (v := -1) hC d_R_readsHouse_52 (by decide) ?_
    refine V.icmp_ne (tgt := 58) hC d_R_readsHouse_53 (by decide) (fun c14 => ?_) (fun c14 => ?_)
    · replace h := h.1 c14
      refine V.iload hC d_R_readsHouse_58 rfl ?_
      refine V.iconst (v := -1) hC d_R_readsHouse_60 (by decide) ?_
      refine V.icmp_ne (tgt := 66) hC d_R_readsHouse_61 (by decide) (fun c15 => ?_) (fun c15 => ?_)
      · replace h := h.1 c15
        refine V.iload hC d_R_readsHouse_66 rfl ?_
        refine V.iconst (v := -1) hC d_R_readsHouse_68 (by decide) ?_
        refine V.icmp_ne (tgt := 74) hC d_R_readsHouse_69 (by decide) (fun c16 => ?_) (fun c16 => ?_)
        · replace h := h.1 c16
          refine V.aload_n hC d_R_readsHouse_74 rfl rfl ?_
          refine V.getR (j := 3) hC d_R_readsHouse_75 rfl rfl uC8 rfl rfl qf_R_16 ?_
          refine V.iload_n hC d_R_readsHouse_78 rfl rfl ?_
          refine V.iload_n hC d_R_readsHouse_79 rfl rfl ?_
          obtain ⟨b17, h⟩ := h
          refine V.iast hC d_R_readsHouse_80 rfl b17 ?_
          refine V.aload_n hC d_R_readsHouse_81 rfl rfl ?_
          refine V.getR (j := 4) hC d_R_readsHouse_82 rfl rfl uC8 rfl rfl qf_R_19 ?_
          refine V.iload_n hC d_R_readsHouse_85 rfl rfl ?_
          refine V.iload hC d_R_readsHouse_86 rfl ?_
          obtain ⟨b18, h⟩ := h
          refine V.iast hC d_R_readsHouse_88 rfl b18 ?_
          refine V.aload_n hC d_R_readsHouse_89 rfl rfl ?_
          refine V.getR (j := 5) hC d_R_readsHouse_90 rfl rfl uC8 rfl rfl qf_R_22 ?_
          refine V.iload_n hC d_R_readsHouse_93 rfl rfl ?_
          refine V.iload hC d_R_readsHouse_94 rfl ?_
          obtain ⟨b19, h⟩ := h
          refine V.iast hC d_R_readsHouse_96 rfl b19 ?_
          refine V.aload_n hC d_R_readsHouse_97 rfl rfl ?_
          refine V.getR (j := 6) hC d_R_readsHouse_98 rfl rfl uC8 rfl rfl qf_R_25 ?_
          refine V.iload_n hC d_R_readsHouse_101 rfl rfl ?_
          refine V.iload hC d_R_readsHouse_102 rfl ?_
          obtain ⟨b20, h⟩ := h
          refine V.iast hC d_R_readsHouse_104 rfl b20 ?_
          refine V.iconst (v := 4) hC d_R_readsHouse_105 (by decide) ?_
          exact hR _ _ _ _ h rfl d_R_readsHouse_106
        · replace h := h.2 c16
          refine V.iconst (v := 3) hC d_R_readsHouse_72 (by decide) ?_
          exact hR _ _ _ _ h rfl d_R_readsHouse_73
      · replace h := h.2 c15
        refine V.iconst (v := 2) hC d_R_readsHouse_64 (by decide) ?_
        exact hR _ _ _ _ h rfl d_R_readsHouse_65
    · replace h := h.2 c14
      refine V.iconst (v := 1) hC d_R_readsHouse_56 (by decide) ?_
      exact hR _ _ _ _ h rfl d_R_readsHouse_57
  · replace h := h.2 c13
    refine V.iconst (v := 0) hC d_R_readsHouse_48 (by decide) ?_
    exact hR _ _ _ _ h rfl d_R_readsHouse_49
abbrev b_R_readsHouses : ByteArray := prog_10_method_17_code
def y_R_readsHouses : MethodName := ⟨nC8, "readsHouses", "()I"⟩
theorem d_R_readsHouses_0 : decode b_R_readsHouses 0 = .ok (.iconst 0, 1) := by decide +kernel
theorem d_R_readsHouses_1 : decode b_R_readsHouses 1 = .ok (.istore_n 1, 1) := by decide +kernel
theorem d_R_readsHouses_2 : decode b_R_readsHouses 2 = .ok (.iconst 0, 1) := by decide +kernel
theorem d_R_readsHouses_3 : decode b_R_readsHouses 3 = .ok (.istore_n 2, 1) := by decide +kernel
theorem d_R_readsHouses_4 : decode b_R_readsHouses 4 = .ok (.aload_n 0, 1) := by decide +kernel
theorem d_R_readsHouses_5 : decode b_R_readsHouses 5 = .ok (.iconst 0, 1) := by decide +kernel
theorem d_R_readsHouses_6 : decode b_R_readsHouses 6 = .ok (.putfield 116, 3) := by decide +kernel
theorem d_R_readsHouses_9 : decode b_R_readsHouses 9 = .ok (.iload_n 2, 1) := by decide +kernel
theorem d_R_readsHouses_10 : decode b_R_readsHouses 10 = .ok (.aload_n 0, 1) := by decide +kernel
theorem d_R_readsHouses_11 : decode b_R_readsHouses 11 = .ok (.getfield 7, 3) := by decide +kernel
theorem d_R_readsHouses_14 : decode b_R_readsHouses 14 = .ok (.iconst 0, 1) := by decide +kernel
theorem d_R_readsHouses_15 : decode b_R_readsHouses 15 = .ok (.iaload, 1) := by decide +kernel
theorem d_R_readsHouses_16 : decode b_R_readsHouses 16 = .ok (.if_icmp .lt 7, 3) := by decide +kernel
theorem d_R_readsHouses_19 : decode b_R_readsHouses 19 = .ok (.iload_n 2, 1) := by decide +kernel
theorem d_R_readsHouses_20 : decode b_R_readsHouses 20 = .ok (.ifCond .le 71, 3) := by decide +kernel
theorem d_R_readsHouses_23 : decode b_R_readsHouses 23 = .ok (.iload_n 1, 1) := by decide +kernel
theorem d_R_readsHouses_24 : decode b_R_readsHouses 24 = .ok (.bipush 8, 2) := by decide +kernel
theorem d_R_readsHouses_26 : decode b_R_readsHouses 26 = .ok (.if_icmp .ne 7, 3) := by decide +kernel
theorem d_R_readsHouses_29 : decode b_R_readsHouses 29 = .ok (.iconst 0, 1) := by decide +kernel
theorem d_R_readsHouses_30 : decode b_R_readsHouses 30 = .ok (.goto 9, 3) := by decide +kernel
theorem d_R_readsHouses_33 : decode b_R_readsHouses 33 = .ok (.aload_n 0, 1) := by decide +kernel
theorem d_R_readsHouses_34 : decode b_R_readsHouses 34 = .ok (.iload_n 1, 1) := by decide +kernel
theorem d_R_readsHouses_35 : decode b_R_readsHouses 35 = .ok (.iload_n 2, 1) := by decide +kernel
theorem d_R_readsHouses_36 : decode b_R_readsHouses 36 = .ok (.invokevirtual 120, 3) := by decide +kernel
theorem d_R_readsHouses_39 : decode b_R_readsHouses 39 = .ok (.istore_n 3, 1) := by decide +kernel
theorem d_R_readsHouses_40 : decode b_R_readsHouses 40 = .ok (.iload_n 3, 1) := by decide +kernel
theorem d_R_readsHouses_41 : decode b_R_readsHouses 41 = .ok (.iconst 4, 1) := by decide +kernel
theorem d_R_readsHouses_42 : decode b_R_readsHouses 42 = .ok (.if_icmp .ge 7, 3) := by decide +kernel
theorem d_R_readsHouses_45 : decode b_R_readsHouses 45 = .ok (.iload_n 2, 1) := by decide +kernel
theorem d_R_readsHouses_46 : decode b_R_readsHouses 46 = .ok (.iload_n 3, 1) := by decide +kernel
theorem d_R_readsHouses_47 : decode b_R_readsHouses 47 = .ok (.iadd, 1) := by decide +kernel
theorem d_R_readsHouses_48 : decode b_R_readsHouses 48 = .ok (.ireturn, 1) := by decide +kernel
theorem d_R_readsHouses_49 : decode b_R_readsHouses 49 = .ok (.iinc 1 1, 3) := by decide +kernel
theorem d_R_readsHouses_52 : decode b_R_readsHouses 52 = .ok (.iinc 2 4, 3) := by decide +kernel
theorem d_R_readsHouses_55 : decode b_R_readsHouses 55 = .ok (.iload_n 2, 1) := by decide +kernel
theorem d_R_readsHouses_56 : decode b_R_readsHouses 56 = .ok (.aload_n 0, 1) := by decide +kernel
theorem d_R_readsHouses_57 : decode b_R_readsHouses 57 = .ok (.getfield 7, 3) := by decide +kernel
theorem d_R_readsHouses_60 : decode b_R_readsHouses 60 = .ok (.iconst 0, 1) := by decide +kernel
theorem d_R_readsHouses_61 : decode b_R_readsHouses 61 = .ok (.iaload, 1) := by decide +kernel
theorem d_R_readsHouses_62 : decode b_R_readsHouses 62 = .ok (.if_icmp .ne 10, 3) := by decide +kernel
theorem d_R_readsHouses_65 : decode b_R_readsHouses 65 = .ok (.aload_n 0, 1) := by decide +kernel
theorem d_R_readsHouses_66 : decode b_R_readsHouses 66 = .ok (.iload_n 1, 1) := by decide +kernel
theorem d_R_readsHouses_67 : decode b_R_readsHouses 67 = .ok (.putfield 116, 3) := by decide +kernel
theorem d_R_readsHouses_70 : decode b_R_readsHouses 70 = .ok (.iconst (-1), 1) := by decide +kernel
theorem d_R_readsHouses_71 : decode b_R_readsHouses 71 = .ok (.ireturn, 1) := by decide +kernel
theorem d_R_readsHouses_72 : decode b_R_readsHouses 72 = .ok (.aload_n 0, 1) := by decide +kernel
theorem d_R_readsHouses_73 : decode b_R_readsHouses 73 = .ok (.iconst 0, 1) := by decide +kernel
theorem d_R_readsHouses_74 : decode b_R_readsHouses 74 = .ok (.iload_n 2, 1) := by decide +kernel
theorem d_R_readsHouses_75 : decode b_R_readsHouses 75 = .ok (.invokevirtual 105, 3) := by decide +kernel
theorem d_R_readsHouses_78 : decode b_R_readsHouses 78 = .ok (.bipush 59, 2) := by decide +kernel
theorem d_R_readsHouses_80 : decode b_R_readsHouses 80 = .ok (.if_icmp .eq 5, 3) := by decide +kernel
theorem d_R_readsHouses_83 : decode b_R_readsHouses 83 = .ok (.iload_n 2, 1) := by decide +kernel
theorem d_R_readsHouses_84 : decode b_R_readsHouses 84 = .ok (.ireturn, 1) := by decide +kernel
theorem d_R_readsHouses_85 : decode b_R_readsHouses 85 = .ok (.iinc 2 1, 3) := by decide +kernel
theorem d_R_readsHouses_88 : decode b_R_readsHouses 88 = .ok (.goto (-79), 3) := by decide +kernel
theorem d_R_readsHouses_91 : decode b_R_readsHouses 91 = .ok (.iconst (-1), 1) := by decide +kernel
theorem d_R_readsHouses_92 : decode b_R_readsHouses 92 = .ok (.ireturn, 1) := by decide +kernel
theorem qf_R_116 : Cond.fieldLink nC8 116 (fC8 2).1 (fC8 2).2.1 (fC8 2).2.2.1 ∈ tbl := tbl_in 870 (by decide +kernel) rfl
theorem qm_R_120 : Cond.methodLink nC8 120 y_R_readsHouse ∈ tbl := tbl_in 1005 (by decide +kernel) rfl
theorem mo_R_readsHouses : MokV y_R_readsHouses b_R_readsHouses 4 (some .int) 0 := ⟨⟨(tbl_in 1004 (by decide +kernel) rfl), (tbl_in 70 (by decide +kernel) rfl)⟩, ⟨(tbl_in 1003 (by decide +kernel) rfl), tbl_lw _ (tbl_in 15 (by decide +kernel) rfl), (tbl_in 15 (by decide +kernel) rfl)⟩, ⟨by decide +kernel, by decide +kernel⟩, by decide +kernel⟩
def j_R_readsHouses_39 (P : Int32 → Hp → Prop) (I9 : Hp → Int32 → Int32 → Prop) (σ : Hp) (x1 : Int32) (x2 : Int32) (s0 : Int32) : Prop :=
  (((4 : Int32) ≤ s0 → (∀ v2 : Int32, v2 = x1 + (1 : Int32) → (∀ v3 : Int32, v3 = x2 + (4 : Int32) → (vp_in (0 : Int32) 2) ∧ ((¬ v3 = (σ 1 (ix (0 : Int32))) → wp_R_byteAt σ (0 : Int32) v3 (fun (r6 : Int32) (t7 : Hp) => ((r6 = (59 : Int32) → (∀ v9 : Int32, v9 = v3 + (1 : Int32) → I9 t7 v2 v9)) ∧ (¬ r6 = (59 : Int32) → P v3 t7)))) ∧ (v3 = (σ 1 (ix (0 : Int32))) → P (-1 : Int32) (st σ 0 2 v2)))))) ∧ (¬ (4 : Int32) ≤ s0 → P (x2 + s0) σ))
def j_R_readsHouses_23 (P : Int32 → Hp → Prop) (I9 : Hp → Int32 → Int32 → Prop) (σ : Hp) (x1 : Int32) (x2 : Int32) : Prop :=
  ((¬ x1 = (8 : Int32) → wp_R_readsHouse σ x1 x2 (fun (r11 : Int32) (t12 : Hp) => j_R_readsHouses_39 P I9 t12 x1 x2 r11)) ∧ (x1 = (8 : Int32) → j_R_readsHouses_39 P I9 σ x1 x2 (0 : Int32)))
def b_R_readsHouses_9_ (P : Int32 → Hp → Prop)  (I9 : Hp → Int32 → Int32 → Prop) (σ : Hp) (x1 : Int32) (x2 : Int32) : Prop :=
  (vp_in (0 : Int32) 2) ∧ ((x2 < (σ 1 (ix (0 : Int32))) → j_R_readsHouses_23 P I9 σ x1 x2) ∧ (¬ x2 < (σ 1 (ix (0 : Int32))) → ((x2 ≤ 0 → P (-1 : Int32) σ) ∧ (¬ x2 ≤ 0 → j_R_readsHouses_23 P I9 σ x1 x2))))
def j_R_readsHouses_9 (P : Int32 → Hp → Prop)  (σ : Hp) (x1 : Int32) (x2 : Int32) : Prop := ∀ I9 : Hp → Int32 → Int32 → Prop, (∀ (σ : Hp) (x1 : Int32) (x2 : Int32), b_R_readsHouses_9_  P  I9 σ x1 x2 → I9 σ x1 x2) → I9 σ x1 x2
def wp_R_readsHouses (σ : Hp)  (P : Int32 → Hp → Prop) : Prop :=
  j_R_readsHouses_9 P (st σ 0 2 (0 : Int32)) (0 : Int32) (0 : Int32)
set_option maxHeartbeats 4000000 in
set_option maxRecDepth 100000 in
theorem wj_R_readsHouses_39 {w : Wd} {κ : Kx} {P : Int32 → Hp → Prop} (hC : Cx μR w 4 κ nC8 b_R_readsHouses 3) (hR : RtI μR w 4 κ b_R_readsHouses .int P) {I9 : Hp → Int32 → Int32 → Prop} (hI9 : ∀ σ x1 x2, I9 σ x1 x2 → V μR w 4 κ σ [some (.ref (w.1 0)), some (.int x1), some (.int x2), none] 9 []) : ∀ (σ : Hp) (x1 : Int32) (x2 : Int32) (s0 : Int32), j_R_readsHouses_39  P I9 σ x1 x2 s0 → V μR w 4 κ σ [some (.ref (w.1 0)), some (.int x1), some (.int x2), none] 39 [.int s0] := by
  intro σ x1 x2 s0 h
  unfold j_R_readsHouses_39 at h
  refine V.istore_n (y := s0) (lo' := [some (.ref (w.1 0)), some (.int x1), some (.int x2), some (.int s0)]) hC d_R_readsHouses_39 rfl rfl rfl rfl ?_
  refine V.iload_n hC d_R_readsHouses_40 rfl rfl ?_
  refine V.iconst (v := 4) hC d_R_readsHouses_41 (by decide) ?_
  refine V.icmp_ge (tgt := 49) hC d_R_readsHouses_42 (by decide) (fun c1 => ?_) (fun c1 => ?_)
  · replace h := h.1 c1
    obtain ⟨v2, ev2⟩ : ∃ y : Int32, y = x1 + (1 : Int32) := ⟨_, rfl⟩
    replace h := h v2 ev2
    refine V.iinc (y := v2) (lo' := [some (.ref (w.1 0)), some (.int v2), some (.int x2), some (.int s0)]) hC d_R_readsHouses_49 rfl rfl (show v2 = _ + Int32.ofInt (1) from ev2) rfl ?_
    obtain ⟨v3, ev3⟩ : ∃ y : Int32, y = x2 + (4 : Int32) := ⟨_, rfl⟩
    replace h := h v3 ev3
    refine V.iinc (y := v3) (lo' := [some (.ref (w.1 0)), some (.int v2), some (.int v3), some (.int s0)]) hC d_R_readsHouses_52 rfl rfl (show v3 = _ + Int32.ofInt (4) from ev3) rfl ?_
    refine V.iload_n hC d_R_readsHouses_55 rfl rfl ?_
    refine V.aload_n hC d_R_readsHouses_56 rfl rfl ?_
    refine V.getR (j := 0) hC d_R_readsHouses_57 rfl rfl uC8 rfl rfl qf_R_7 ?_
    refine V.iconst (v := 0) hC d_R_readsHouses_60 (by decide) ?_
    obtain ⟨b4, h⟩ := h
    refine V.iald hC d_R_readsHouses_61 rfl b4 ?_
    refine V.icmp_ne (tgt := 72) hC d_R_readsHouses_62 (by decide) (fun c5 => ?_) (fun c5 => ?_)
    · replace h := h.1 c5
      refine V.aload_n hC d_R_readsHouses_72 rfl rfl ?_
      refine V.iconst (v := 0) hC d_R_readsHouses_73 (by decide) ?_
      refine V.iload_n hC d_R_readsHouses_74 rfl rfl ?_
      refine V.callVI hC exR (w_R_byteAt w σ (0 : Int32) v3 _ h) d_R_readsHouses_75 mo_R_byteAt qm_R_105 rfl rfl rfl rfl rfl rfl rfl (Nat.le_of_ble_eq_true rfl) (fun r6 t7 h => ?_)
      refine V.bipush (v := 59) hC d_R_readsHouses_78 (by decide) ?_
      refine V.icmp_eq (tgt := 85) hC d_R_readsHouses_80 (by decide) (fun c8 => ?_) (fun c8 => ?_)
      · replace h := h.1 c8
        obtain ⟨v9, ev9⟩ : ∃ y : Int32, y = v3 + (1 : Int32) := ⟨_, rfl⟩
        replace h := h v9 ev9
        refine V.iinc (y := v9) (lo' := [some (.ref (w.1 0)), some (.int v2), some (.int v9), some (.int s0)]) hC d_R_readsHouses_85 rfl rfl (show v9 = _ + Int32.ofInt (1) from ev9) rfl ?_
        refine V.goto (tgt := 9) hC d_R_readsHouses_88 (by decide) ?_
        exact V.msk [true, true, true, false] rfl (hI9 t7 v2 v9 h)
      · replace h := h.2 c8
        refine V.iload_n hC d_R_readsHouses_83 rfl rfl ?_
        exact hR _ _ _ _ h rfl d_R_readsHouses_84
    · replace h := h.2 c5
      refine V.aload_n hC d_R_readsHouses_65 rfl rfl ?_
      refine V.iload_n hC d_R_readsHouses_66 rfl rfl ?_
      refine V.put (j := 2) hC d_R_readsHouses_67 rfl rfl uC8 pC8 dC8 rfl rfl rfl rfl rfl qf_R_116 ?_
      refine V.iconst (v := -1) hC d_R_readsHouses_70 (by decide) ?_
      exact hR _ _ _ _ h rfl d_R_readsHouses_71
  · replace h := h.2 c1
    refine V.iload_n hC d_R_readsHouses_45 rfl rfl ?_
    refine V.iload_n hC d_R_readsHouses_46 rfl rfl ?_
    refine V.iadd hC d_R_readsHouses_47 ?_
    exact hR _ _ _ _ h rfl d_R_readsHouses_48
set_option maxHeartbeats 4000000 in
set_option maxRecDepth 100000 in
theorem wj_R_readsHouses_23 {w : Wd} {κ : Kx} {P : Int32 → Hp → Prop} (hC : Cx μR w 4 κ nC8 b_R_readsHouses 3) (hR : RtI μR w 4 κ b_R_readsHouses .int P) {I9 : Hp → Int32 → Int32 → Prop} (hI9 : ∀ σ x1 x2, I9 σ x1 x2 → V μR w 4 κ σ [some (.ref (w.1 0)), some (.int x1), some (.int x2), none] 9 []) : ∀ (σ : Hp) (x1 : Int32) (x2 : Int32), j_R_readsHouses_23  P I9 σ x1 x2 → V μR w 4 κ σ [some (.ref (w.1 0)), some (.int x1), some (.int x2), none] 23 [] := by
  intro σ x1 x2 h
  unfold j_R_readsHouses_23 at h
  refine V.iload_n hC d_R_readsHouses_23 rfl rfl ?_
  refine V.bipush (v := 8) hC d_R_readsHouses_24 (by decide) ?_
  refine V.icmp_ne (tgt := 33) hC d_R_readsHouses_26 (by decide) (fun c10 => ?_) (fun c10 => ?_)
  · replace h := h.1 c10
    refine V.aload_n hC d_R_readsHouses_33 rfl rfl ?_
    refine V.iload_n hC d_R_readsHouses_34 rfl rfl ?_
    refine V.iload_n hC d_R_readsHouses_35 rfl rfl ?_
    refine V.callVI hC exR (w_R_readsHouse w σ x1 x2 _ h) d_R_readsHouses_36 mo_R_readsHouse qm_R_120 rfl rfl rfl rfl rfl rfl rfl (Nat.le_of_ble_eq_true rfl) (fun r11 t12 h => ?_)
    exact V.msk [true, true, true, false] rfl (wj_R_readsHouses_39  hC hR hI9 t12 x1 x2 r11 h)
  · replace h := h.2 c10
    refine V.iconst (v := 0) hC d_R_readsHouses_29 (by decide) ?_
    refine V.goto (tgt := 39) hC d_R_readsHouses_30 (by decide) ?_
    exact V.msk [true, true, true, false] rfl (wj_R_readsHouses_39  hC hR hI9 σ x1 x2 (0 : Int32) h)
set_option maxHeartbeats 4000000 in
set_option maxRecDepth 100000 in
theorem wj_R_readsHouses_9 {w : Wd} {κ : Kx} {P : Int32 → Hp → Prop} (hC : Cx μR w 4 κ nC8 b_R_readsHouses 3) (hR : RtI μR w 4 κ b_R_readsHouses .int P)  : ∀ (σ : Hp) (x1 : Int32) (x2 : Int32), j_R_readsHouses_9  P  σ x1 x2 → V μR w 4 κ σ [some (.ref (w.1 0)), some (.int x1), some (.int x2), none] 9 [] := by
  intro σ x1 x2 h
  refine h (fun σ x1 x2 => V μR w 4 κ σ [some (.ref (w.1 0)), some (.int x1), some (.int x2), none] 9 []) (fun σ x1 x2 h => ?_)
  unfold b_R_readsHouses_9_ at h
  refine V.iload_n hC d_R_readsHouses_9 rfl rfl ?_
  refine V.aload_n hC d_R_readsHouses_10 rfl rfl ?_
  refine V.getR (j := 0) hC d_R_readsHouses_11 rfl rfl uC8 rfl rfl qf_R_7 ?_
  refine V.iconst (v := 0) hC d_R_readsHouses_14 (by decide) ?_
  obtain ⟨b13, h⟩ := h
  refine V.iald hC d_R_readsHouses_15 rfl b13 ?_
  refine V.icmp_lt (tgt := 23) hC d_R_readsHouses_16 (by decide) (fun c14 => ?_) (fun c14 => ?_)
  · replace h := h.1 c14
    exact V.msk [true, true, true, false] rfl (wj_R_readsHouses_23  hC hR (fun _ _ _ h => h) σ x1 x2 h)
  · replace h := h.2 c14
    refine V.iload_n hC d_R_readsHouses_19 rfl rfl ?_
    refine V.if_le (tgt := 91) hC d_R_readsHouses_20 (by decide) (fun c15 => ?_) (fun c15 => ?_)
    · replace h := h.1 c15
      refine V.iconst (v := -1) hC d_R_readsHouses_91 (by decide) ?_
      exact hR _ _ _ _ h rfl d_R_readsHouses_92
    · replace h := h.2 c15
      exact V.msk [true, true, true, false] rfl (wj_R_readsHouses_23  hC hR (fun _ _ _ h => h) σ x1 x2 h)
set_option maxHeartbeats 4000000 in
set_option maxRecDepth 100000 in
theorem w_R_readsHouses (w : Wd) (σ : Hp)  (P : Int32 → Hp → Prop) (h : wp_R_readsHouses σ  P) : CtI μR w y_R_readsHouses b_R_readsHouses 4 (some .int) 3 [.ref (w.1 0)] σ P := by
  unfold wp_R_readsHouses at h
  refine CtI.ofV (C := nC8) (lo := [some (.ref (w.1 0)), none, none, none]) exR (by decide +kernel) rfl rfl rfl (fun κ hC hR => ?_)
  refine V.iconst (v := 0) hC d_R_readsHouses_0 (by decide) ?_
  refine V.istore_n (y := (0 : Int32)) (lo' := [some (.ref (w.1 0)), some (.int (0 : Int32)), none, none]) hC d_R_readsHouses_1 rfl rfl rfl rfl ?_
  refine V.iconst (v := 0) hC d_R_readsHouses_2 (by decide) ?_
  refine V.istore_n (y := (0 : Int32)) (lo' := [some (.ref (w.1 0)), some (.int (0 : Int32)), some (.int (0 : Int32)), none]) hC d_R_readsHouses_3 rfl rfl rfl rfl ?_
  refine V.aload_n hC d_R_readsHouses_4 rfl rfl ?_
  refine V.iconst (v := 0) hC d_R_readsHouses_5 (by decide) ?_
  refine V.put (j := 2) hC d_R_readsHouses_6 rfl rfl uC8 pC8 dC8 rfl rfl rfl rfl rfl qf_R_116 ?_
  exact V.msk [true, true, true, false] rfl (wj_R_readsHouses_9  hC hR  (st σ 0 2 (0 : Int32)) (0 : Int32) (0 : Int32) h)
abbrev b_R_noRates : ByteArray := prog_10_method_18_code
def y_R_noRates : MethodName := ⟨nC8, "noRates", "()V"⟩
theorem d_R_noRates_0 : decode b_R_noRates 0 = .ok (.aload_n 0, 1) := by decide +kernel
theorem d_R_noRates_1 : decode b_R_noRates 1 = .ok (.iconst 0, 1) := by decide +kernel
theorem d_R_noRates_2 : decode b_R_noRates 2 = .ok (.putfield 123, 3) := by decide +kernel
theorem d_R_noRates_5 : decode b_R_noRates 5 = .ok (.iconst 0, 1) := by decide +kernel
theorem d_R_noRates_6 : decode b_R_noRates 6 = .ok (.istore_n 1, 1) := by decide +kernel
theorem d_R_noRates_7 : decode b_R_noRates 7 = .ok (.iload_n 1, 1) := by decide +kernel
theorem d_R_noRates_8 : decode b_R_noRates 8 = .ok (.iconst 3, 1) := by decide +kernel
theorem d_R_noRates_9 : decode b_R_noRates 9 = .ok (.if_icmp .ge 16, 3) := by decide +kernel
theorem d_R_noRates_12 : decode b_R_noRates 12 = .ok (.aload_n 0, 1) := by decide +kernel
theorem d_R_noRates_13 : decode b_R_noRates 13 = .ok (.getfield 28, 3) := by decide +kernel
theorem d_R_noRates_16 : decode b_R_noRates 16 = .ok (.iload_n 1, 1) := by decide +kernel
theorem d_R_noRates_17 : decode b_R_noRates 17 = .ok (.iconst 0, 1) := by decide +kernel
theorem d_R_noRates_18 : decode b_R_noRates 18 = .ok (.iastore, 1) := by decide +kernel
theorem d_R_noRates_19 : decode b_R_noRates 19 = .ok (.iinc 1 1, 3) := by decide +kernel
theorem d_R_noRates_22 : decode b_R_noRates 22 = .ok (.goto (-15), 3) := by decide +kernel
theorem d_R_noRates_25 : decode b_R_noRates 25 = .ok (.return_, 1) := by decide +kernel
theorem qf_R_123 : Cond.fieldLink nC8 123 (fC8 7).1 (fC8 7).2.1 (fC8 7).2.2.1 ∈ tbl := tbl_in 875 (by decide +kernel) rfl
theorem qf_R_28 : Cond.fieldLink nC8 28 (fC8 8).1 (fC8 8).2.1 (fC8 8).2.2.1 ∈ tbl := tbl_in 876 (by decide +kernel) rfl
theorem mo_R_noRates : MokV y_R_noRates b_R_noRates 2 none 0 := ⟨⟨(tbl_in 1027 (by decide +kernel) rfl), (tbl_in 70 (by decide +kernel) rfl)⟩, ⟨(tbl_in 1026 (by decide +kernel) rfl), tbl_lw _ (tbl_in 20 (by decide +kernel) rfl), (tbl_in 20 (by decide +kernel) rfl)⟩, ⟨by decide +kernel, by decide +kernel⟩, by decide +kernel⟩
def b_R_noRates_7_ (P : Hp → Prop)  (I7 : Hp → Int32 → Prop) (σ : Hp) (x1 : Int32) : Prop :=
  (((3 : Int32) ≤ x1 → P σ) ∧ (¬ (3 : Int32) ≤ x1 → (vp_in x1 3) ∧ (∀ v3 : Int32, v3 = x1 + (1 : Int32) → I7 (st σ 7 (ix x1) (0 : Int32)) v3)))
def j_R_noRates_7 (P : Hp → Prop)  (σ : Hp) (x1 : Int32) : Prop := ∀ I7 : Hp → Int32 → Prop, (∀ (σ : Hp) (x1 : Int32), b_R_noRates_7_  P  I7 σ x1 → I7 σ x1) → I7 σ x1
def wp_R_noRates (σ : Hp)  (P : Hp → Prop) : Prop :=
  j_R_noRates_7 P (st σ 0 7 (0 : Int32)) (0 : Int32)
set_option maxHeartbeats 4000000 in
set_option maxRecDepth 100000 in
theorem wj_R_noRates_7 {w : Wd} {κ : Kx} {P : Hp → Prop} (hC : Cx μR w 2 κ nC8 b_R_noRates 0) (hR : RtN μR w 2 κ b_R_noRates P)  : ∀ (σ : Hp) (x1 : Int32), j_R_noRates_7  P  σ x1 → V μR w 2 κ σ [some (.ref (w.1 0)), some (.int x1)] 7 [] := by
  intro σ x1 h
  refine h (fun σ x1 => V μR w 2 κ σ [some (.ref (w.1 0)), some (.int x1)] 7 []) (fun σ x1 h => ?_)
  unfold b_R_noRates_7_ at h
  refine V.iload_n hC d_R_noRates_7 rfl rfl ?_
  refine V.iconst (v := 3) hC d_R_noRates_8 (by decide) ?_
  refine V.icmp_ge (tgt := 25) hC d_R_noRates_9 (by decide) (fun c1 => ?_) (fun c1 => ?_)
  · replace h := h.1 c1
    exact hR _ _ _ h d_R_noRates_25
  · replace h := h.2 c1
    refine V.aload_n hC d_R_noRates_12 rfl rfl ?_
    refine V.getR (j := 8) hC d_R_noRates_13 rfl rfl uC8 rfl rfl qf_R_28 ?_
    refine V.iload_n hC d_R_noRates_16 rfl rfl ?_
    refine V.iconst (v := 0) hC d_R_noRates_17 (by decide) ?_
    obtain ⟨b2, h⟩ := h
    refine V.iast hC d_R_noRates_18 rfl b2 ?_
    obtain ⟨v3, ev3⟩ : ∃ y : Int32, y = x1 + (1 : Int32) := ⟨_, rfl⟩
    replace h := h v3 ev3
    refine V.iinc (y := v3) (lo' := [some (.ref (w.1 0)), some (.int v3)]) hC d_R_noRates_19 rfl rfl (show v3 = _ + Int32.ofInt (1) from ev3) rfl ?_
    refine V.goto (tgt := 7) hC d_R_noRates_22 (by decide) ?_
    exact V.msk [true, true] rfl h
set_option maxHeartbeats 4000000 in
set_option maxRecDepth 100000 in
theorem w_R_noRates (w : Wd) (σ : Hp)  (P : Hp → Prop) (h : wp_R_noRates σ  P) : CtN μR w y_R_noRates b_R_noRates 2 none 0 [.ref (w.1 0)] σ P := by
  unfold wp_R_noRates at h
  refine CtN.ofV (C := nC8) (lo := [some (.ref (w.1 0)), none]) exR (by decide +kernel) rfl rfl rfl (fun κ hC hR => ?_)
  refine V.aload_n hC d_R_noRates_0 rfl rfl ?_
  refine V.iconst (v := 0) hC d_R_noRates_1 (by decide) ?_
  refine V.put (j := 7) hC d_R_noRates_2 rfl rfl uC8 pC8 dC8 rfl rfl rfl rfl rfl qf_R_123 ?_
  refine V.iconst (v := 0) hC d_R_noRates_5 (by decide) ?_
  refine V.istore_n (y := (0 : Int32)) (lo' := [some (.ref (w.1 0)), some (.int (0 : Int32))]) hC d_R_noRates_6 rfl rfl rfl rfl ?_
  exact V.msk [true, true] rfl (wj_R_noRates_7  hC hR  (st σ 0 7 (0 : Int32)) (0 : Int32) h)
abbrev b_R_readsRulings : ByteArray := prog_10_method_19_code
def y_R_readsRulings : MethodName := ⟨nC8, "readsRulings", "()I"⟩
theorem d_R_readsRulings_0 : decode b_R_readsRulings 0 = .ok (.iconst 0, 1) := by decide +kernel
theorem d_R_readsRulings_1 : decode b_R_readsRulings 1 = .ok (.istore_n 1, 1) := by decide +kernel
theorem d_R_readsRulings_2 : decode b_R_readsRulings 2 = .ok (.iconst 0, 1) := by decide +kernel
theorem d_R_readsRulings_3 : decode b_R_readsRulings 3 = .ok (.istore_n 2, 1) := by decide +kernel
theorem d_R_readsRulings_4 : decode b_R_readsRulings 4 = .ok (.aload_n 0, 1) := by decide +kernel
theorem d_R_readsRulings_5 : decode b_R_readsRulings 5 = .ok (.invokevirtual 126, 3) := by decide +kernel
theorem d_R_readsRulings_8 : decode b_R_readsRulings 8 = .ok (.iload_n 2, 1) := by decide +kernel
theorem d_R_readsRulings_9 : decode b_R_readsRulings 9 = .ok (.aload_n 0, 1) := by decide +kernel
theorem d_R_readsRulings_10 : decode b_R_readsRulings 10 = .ok (.getfield 7, 3) := by decide +kernel
theorem d_R_readsRulings_13 : decode b_R_readsRulings 13 = .ok (.iconst 1, 1) := by decide +kernel
theorem d_R_readsRulings_14 : decode b_R_readsRulings 14 = .ok (.iaload, 1) := by decide +kernel
theorem d_R_readsRulings_15 : decode b_R_readsRulings 15 = .ok (.if_icmp .lt 7, 3) := by decide +kernel
theorem d_R_readsRulings_18 : decode b_R_readsRulings 18 = .ok (.iload_n 2, 1) := by decide +kernel
theorem d_R_readsRulings_19 : decode b_R_readsRulings 19 = .ok (.ifCond .le 123, 3) := by decide +kernel
theorem d_R_readsRulings_22 : decode b_R_readsRulings 22 = .ok (.iload_n 1, 1) := by decide +kernel
theorem d_R_readsRulings_23 : decode b_R_readsRulings 23 = .ok (.bipush 6, 2) := by decide +kernel
theorem d_R_readsRulings_25 : decode b_R_readsRulings 25 = .ok (.if_icmp .ne 7, 3) := by decide +kernel
theorem d_R_readsRulings_28 : decode b_R_readsRulings 28 = .ok (.iconst (-1), 1) := by decide +kernel
theorem d_R_readsRulings_29 : decode b_R_readsRulings 29 = .ok (.goto 12, 3) := by decide +kernel
theorem d_R_readsRulings_32 : decode b_R_readsRulings 32 = .ok (.aload_n 0, 1) := by decide +kernel
theorem d_R_readsRulings_33 : decode b_R_readsRulings 33 = .ok (.iconst 1, 1) := by decide +kernel
theorem d_R_readsRulings_34 : decode b_R_readsRulings 34 = .ok (.iload_n 2, 1) := by decide +kernel
theorem d_R_readsRulings_35 : decode b_R_readsRulings 35 = .ok (.invokevirtual 105, 3) := by decide +kernel
theorem d_R_readsRulings_38 : decode b_R_readsRulings 38 = .ok (.invokestatic 109, 3) := by decide +kernel
theorem d_R_readsRulings_41 : decode b_R_readsRulings 41 = .ok (.istore_n 3, 1) := by decide +kernel
theorem d_R_readsRulings_42 : decode b_R_readsRulings 42 = .ok (.aload_n 0, 1) := by decide +kernel
theorem d_R_readsRulings_43 : decode b_R_readsRulings 43 = .ok (.iconst 1, 1) := by decide +kernel
theorem d_R_readsRulings_44 : decode b_R_readsRulings 44 = .ok (.iload_n 2, 1) := by decide +kernel
theorem d_R_readsRulings_45 : decode b_R_readsRulings 45 = .ok (.iconst 1, 1) := by decide +kernel
theorem d_R_readsRulings_46 : decode b_R_readsRulings 46 = .ok (.iadd, 1) := by decide +kernel
theorem d_R_readsRulings_47 : decode b_R_readsRulings 47 = .ok (.invokevirtual 113, 3) := by decide +kernel
theorem d_R_readsRulings_50 : decode b_R_readsRulings 50 = .ok (.istore 4, 2) := by decide +kernel
theorem d_R_readsRulings_52 : decode b_R_readsRulings 52 = .ok (.iload_n 3, 1) := by decide +kernel
theorem d_R_readsRulings_53 : decode b_R_readsRulings 53 = .ok (.iconst 0, 1) := by decide +kernel
theorem d_R_readsRulings_54 : decode b_R_readsRulings 54 = .ok (.iconst 2, 1) := by decide +kernel
theorem d_R_readsRulings_55 : decode b_R_readsRulings 55 = .ok (.invokestatic 97, 3) := by decide +kernel
theorem d_R_readsRulings_58 : decode b_R_readsRulings 58 = .ok (.ifCond .eq 9, 3) := by decide +kernel
theorem d_R_readsRulings_61 : decode b_R_readsRulings 61 = .ok (.iload 4, 2) := by decide +kernel
theorem d_R_readsRulings_63 : decode b_R_readsRulings 63 = .ok (.iconst (-1), 1) := by decide +kernel
theorem d_R_readsRulings_64 : decode b_R_readsRulings 64 = .ok (.if_icmp .ne 24, 3) := by decide +kernel
theorem d_R_readsRulings_67 : decode b_R_readsRulings 67 = .ok (.aload_n 0, 1) := by decide +kernel
theorem d_R_readsRulings_68 : decode b_R_readsRulings 68 = .ok (.invokevirtual 126, 3) := by decide +kernel
theorem d_R_readsRulings_71 : decode b_R_readsRulings 71 = .ok (.iload_n 3, 1) := by decide +kernel
theorem d_R_readsRulings_72 : decode b_R_readsRulings 72 = .ok (.iconst 0, 1) := by decide +kernel
theorem d_R_readsRulings_73 : decode b_R_readsRulings 73 = .ok (.iconst 2, 1) := by decide +kernel
theorem d_R_readsRulings_74 : decode b_R_readsRulings 74 = .ok (.invokestatic 97, 3) := by decide +kernel
theorem d_R_readsRulings_77 : decode b_R_readsRulings 77 = .ok (.ifCond .eq 9, 3) := by decide +kernel
theorem d_R_readsRulings_80 : decode b_R_readsRulings 80 = .ok (.iload_n 2, 1) := by decide +kernel
theorem d_R_readsRulings_81 : decode b_R_readsRulings 81 = .ok (.iconst 1, 1) := by decide +kernel
theorem d_R_readsRulings_82 : decode b_R_readsRulings 82 = .ok (.iadd, 1) := by decide +kernel
theorem d_R_readsRulings_83 : decode b_R_readsRulings 83 = .ok (.goto 4, 3) := by decide +kernel
theorem d_R_readsRulings_86 : decode b_R_readsRulings 86 = .ok (.iload_n 2, 1) := by decide +kernel
theorem d_R_readsRulings_87 : decode b_R_readsRulings 87 = .ok (.ireturn, 1) := by decide +kernel
theorem d_R_readsRulings_88 : decode b_R_readsRulings 88 = .ok (.aload_n 0, 1) := by decide +kernel
theorem d_R_readsRulings_89 : decode b_R_readsRulings 89 = .ok (.getfield 28, 3) := by decide +kernel
theorem d_R_readsRulings_92 : decode b_R_readsRulings 92 = .ok (.iload_n 3, 1) := by decide +kernel
theorem d_R_readsRulings_93 : decode b_R_readsRulings 93 = .ok (.iload 4, 2) := by decide +kernel
theorem d_R_readsRulings_95 : decode b_R_readsRulings 95 = .ok (.iastore, 1) := by decide +kernel
theorem d_R_readsRulings_96 : decode b_R_readsRulings 96 = .ok (.iinc 1 1, 3) := by decide +kernel
theorem d_R_readsRulings_99 : decode b_R_readsRulings 99 = .ok (.iinc 2 2, 3) := by decide +kernel
theorem d_R_readsRulings_102 : decode b_R_readsRulings 102 = .ok (.iload_n 2, 1) := by decide +kernel
theorem d_R_readsRulings_103 : decode b_R_readsRulings 103 = .ok (.aload_n 0, 1) := by decide +kernel
theorem d_R_readsRulings_104 : decode b_R_readsRulings 104 = .ok (.getfield 7, 3) := by decide +kernel
theorem d_R_readsRulings_107 : decode b_R_readsRulings 107 = .ok (.iconst 1, 1) := by decide +kernel
theorem d_R_readsRulings_108 : decode b_R_readsRulings 108 = .ok (.iaload, 1) := by decide +kernel
theorem d_R_readsRulings_109 : decode b_R_readsRulings 109 = .ok (.if_icmp .ne 10, 3) := by decide +kernel
theorem d_R_readsRulings_112 : decode b_R_readsRulings 112 = .ok (.aload_n 0, 1) := by decide +kernel
theorem d_R_readsRulings_113 : decode b_R_readsRulings 113 = .ok (.iload_n 1, 1) := by decide +kernel
theorem d_R_readsRulings_114 : decode b_R_readsRulings 114 = .ok (.putfield 123, 3) := by decide +kernel
theorem d_R_readsRulings_117 : decode b_R_readsRulings 117 = .ok (.iconst (-1), 1) := by decide +kernel
theorem d_R_readsRulings_118 : decode b_R_readsRulings 118 = .ok (.ireturn, 1) := by decide +kernel
theorem d_R_readsRulings_119 : decode b_R_readsRulings 119 = .ok (.aload_n 0, 1) := by decide +kernel
theorem d_R_readsRulings_120 : decode b_R_readsRulings 120 = .ok (.iconst 1, 1) := by decide +kernel
theorem d_R_readsRulings_121 : decode b_R_readsRulings 121 = .ok (.iload_n 2, 1) := by decide +kernel
theorem d_R_readsRulings_122 : decode b_R_readsRulings 122 = .ok (.invokevirtual 105, 3) := by decide +kernel
theorem d_R_readsRulings_125 : decode b_R_readsRulings 125 = .ok (.bipush 59, 2) := by decide +kernel
theorem d_R_readsRulings_127 : decode b_R_readsRulings 127 = .ok (.if_icmp .eq 9, 3) := by decide +kernel
theorem d_R_readsRulings_130 : decode b_R_readsRulings 130 = .ok (.aload_n 0, 1) := by decide +kernel
theorem d_R_readsRulings_131 : decode b_R_readsRulings 131 = .ok (.invokevirtual 126, 3) := by decide +kernel
theorem d_R_readsRulings_134 : decode b_R_readsRulings 134 = .ok (.iload_n 2, 1) := by decide +kernel
theorem d_R_readsRulings_135 : decode b_R_readsRulings 135 = .ok (.ireturn, 1) := by decide +kernel
theorem d_R_readsRulings_136 : decode b_R_readsRulings 136 = .ok (.iinc 2 1, 3) := by decide +kernel
theorem d_R_readsRulings_139 : decode b_R_readsRulings 139 = .ok (.goto (-131), 3) := by decide +kernel
theorem d_R_readsRulings_142 : decode b_R_readsRulings 142 = .ok (.iconst (-1), 1) := by decide +kernel
theorem d_R_readsRulings_143 : decode b_R_readsRulings 143 = .ok (.ireturn, 1) := by decide +kernel
theorem qm_R_126 : Cond.methodLink nC8 126 y_R_noRates ∈ tbl := tbl_in 1024 (by decide +kernel) rfl
theorem mo_R_readsRulings : MokV y_R_readsRulings b_R_readsRulings 5 (some .int) 0 := ⟨⟨(tbl_in 1023 (by decide +kernel) rfl), (tbl_in 70 (by decide +kernel) rfl)⟩, ⟨(tbl_in 1022 (by decide +kernel) rfl), tbl_lw _ (tbl_in 19 (by decide +kernel) rfl), (tbl_in 19 (by decide +kernel) rfl)⟩, ⟨by decide +kernel, by decide +kernel⟩, by decide +kernel⟩
def j_R_readsRulings_67 (P : Int32 → Hp → Prop)  (σ : Hp) (x2 : Int32) (x3 : Int32) : Prop :=
  wp_R_noRates σ (fun (t2 : Hp) => wp_R_in t2 x3 (0 : Int32) (2 : Int32) (fun (r3 : Int32) (t4 : Hp) => ((r3 = 0 → P x2 t4) ∧ (¬ r3 = 0 → P (x2 + (1 : Int32)) t4))))
def j_R_readsRulings_41 (P : Int32 → Hp → Prop) (I8 : Hp → Int32 → Int32 → Prop) (σ : Hp) (x1 : Int32) (x2 : Int32) (s0 : Int32) : Prop :=
  wp_R_figureAt σ (1 : Int32) (x2 + (1 : Int32)) (fun (r6 : Int32) (t7 : Hp) => wp_R_in t7 s0 (0 : Int32) (2 : Int32) (fun (r8 : Int32) (t9 : Hp) => ((r8 = 0 → j_R_readsRulings_67 P t9 x2 s0) ∧ (¬ r8 = 0 → ((¬ r6 = (-1 : Int32) → (vp_in s0 3) ∧ (∀ v13 : Int32, v13 = x1 + (1 : Int32) → (∀ v14 : Int32, v14 = x2 + (2 : Int32) → (vp_in (1 : Int32) 2) ∧ ((¬ v14 = ((st t9 7 (ix s0) r6) 1 (ix (1 : Int32))) → wp_R_byteAt (st t9 7 (ix s0) r6) (1 : Int32) v14 (fun (r17 : Int32) (t18 : Hp) => ((r17 = (59 : Int32) → (∀ v20 : Int32, v20 = v14 + (1 : Int32) → I8 t18 v13 v20)) ∧ (¬ r17 = (59 : Int32) → wp_R_noRates t18 (fun (t22 : Hp) => P v14 t22))))) ∧ (v14 = ((st t9 7 (ix s0) r6) 1 (ix (1 : Int32))) → P (-1 : Int32) (st (st t9 7 (ix s0) r6) 0 7 v13)))))) ∧ (r6 = (-1 : Int32) → j_R_readsRulings_67 P t9 x2 s0))))))
def j_R_readsRulings_22 (P : Int32 → Hp → Prop) (I8 : Hp → Int32 → Int32 → Prop) (σ : Hp) (x1 : Int32) (x2 : Int32) : Prop :=
  ((¬ x1 = (6 : Int32) → wp_R_byteAt σ (1 : Int32) x2 (fun (r24 : Int32) (t25 : Hp) => wp_R_kindOf t25 r24 (fun (r26 : Int32) (t27 : Hp) => j_R_readsRulings_41 P I8 t27 x1 x2 r26))) ∧ (x1 = (6 : Int32) → j_R_readsRulings_41 P I8 σ x1 x2 (-1 : Int32)))
def b_R_readsRulings_8_ (P : Int32 → Hp → Prop)  (I8 : Hp → Int32 → Int32 → Prop) (σ : Hp) (x1 : Int32) (x2 : Int32) : Prop :=
  (vp_in (1 : Int32) 2) ∧ ((x2 < (σ 1 (ix (1 : Int32))) → j_R_readsRulings_22 P I8 σ x1 x2) ∧ (¬ x2 < (σ 1 (ix (1 : Int32))) → ((x2 ≤ 0 → P (-1 : Int32) σ) ∧ (¬ x2 ≤ 0 → j_R_readsRulings_22 P I8 σ x1 x2))))
def j_R_readsRulings_8 (P : Int32 → Hp → Prop)  (σ : Hp) (x1 : Int32) (x2 : Int32) : Prop := ∀ I8 : Hp → Int32 → Int32 → Prop, (∀ (σ : Hp) (x1 : Int32) (x2 : Int32), b_R_readsRulings_8_  P  I8 σ x1 x2 → I8 σ x1 x2) → I8 σ x1 x2
def wp_R_readsRulings (σ : Hp)  (P : Int32 → Hp → Prop) : Prop :=
  wp_R_noRates σ (fun (t32 : Hp) => j_R_readsRulings_8 P t32 (0 : Int32) (0 : Int32))
set_option maxHeartbeats 4000000 in
set_option maxRecDepth 100000 in
theorem wj_R_readsRulings_67 {w : Wd} {κ : Kx} {P : Int32 → Hp → Prop} (hC : Cx μR w 5 κ nC8 b_R_readsRulings 2) (hR : RtI μR w 5 κ b_R_readsRulings .int P)  : ∀ (σ : Hp) (x2 : Int32) (x3 : Int32), j_R_readsRulings_67  P  σ x2 x3 → V μR w 5 κ σ [some (.ref (w.1 0)), none, some (.int x2), some (.int x3), none] 67 [] := by
  intro σ x2 x3 h
  unfold j_R_readsRulings_67 at h
  refine V.aload_n hC d_R_readsRulings_67 rfl rfl ?_
  refine V.callVN hC exR (w_R_noRates w σ  _ h) d_R_readsRulings_68 mo_R_noRates qm_R_126 rfl rfl rfl rfl rfl rfl rfl (Nat.le_of_ble_eq_true rfl) (fun t2 h => ?_)
  refine V.iload_n hC d_R_readsRulings_71 rfl rfl ?_
  refine V.iconst (v := 0) hC d_R_readsRulings_72 (by decide) ?_
  refine V.iconst (v := 2) hC d_R_readsRulings_73 (by decide) ?_
  refine V.callSI hC exR (w_R_in w t2 x3 (0 : Int32) (2 : Int32) _ h) d_R_readsRulings_74 mo_R_in qm_R_97 rfl rfl rfl rfl (Nat.le_of_ble_eq_true rfl) (fun r3 t4 h => ?_)
  refine V.if_eq (tgt := 86) hC d_R_readsRulings_77 (by decide) (fun c5 => ?_) (fun c5 => ?_)
  · replace h := h.1 c5
    refine V.iload_n hC d_R_readsRulings_86 rfl rfl ?_
    exact hR _ _ _ _ h rfl d_R_readsRulings_87
  · replace h := h.2 c5
    refine V.iload_n hC d_R_readsRulings_80 rfl rfl ?_
    refine V.iconst (v := 1) hC d_R_readsRulings_81 (by decide) ?_
    refine V.iadd hC d_R_readsRulings_82 ?_
    refine V.goto (tgt := 87) hC d_R_readsRulings_83 (by decide) ?_
    exact hR _ _ _ _ h rfl d_R_readsRulings_87
set_option maxHeartbeats 4000000 in
set_option maxRecDepth 100000 in
theorem wj_R_readsRulings_41 {w : Wd} {κ : Kx} {P : Int32 → Hp → Prop} (hC : Cx μR w 5 κ nC8 b_R_readsRulings 2) (hR : RtI μR w 5 κ b_R_readsRulings .int P) {I8 : Hp → Int32 → Int32 → Prop} (hI8 : ∀ σ x1 x2, I8 σ x1 x2 → V μR w 5 κ σ [some (.ref (w.1 0)), some (.int x1), some (.int x2), none, none] 8 []) : ∀ (σ : Hp) (x1 : Int32) (x2 : Int32) (s0 : Int32), j_R_readsRulings_41  P I8 σ x1 x2 s0 → V μR w 5 κ σ [some (.ref (w.1 0)), some (.int x1), some (.int x2), none, none] 41 [.int s0] := by
  intro σ x1 x2 s0 h
  unfold j_R_readsRulings_41 at h
  refine V.istore_n (y := s0) (lo' := [some (.ref (w.1 0)), some (.int x1), some (.int x2), some (.int s0), none]) hC d_R_readsRulings_41 rfl rfl rfl rfl ?_
  refine V.aload_n hC d_R_readsRulings_42 rfl rfl ?_
  refine V.iconst (v := 1) hC d_R_readsRulings_43 (by decide) ?_
  refine V.iload_n hC d_R_readsRulings_44 rfl rfl ?_
  refine V.iconst (v := 1) hC d_R_readsRulings_45 (by decide) ?_
  refine V.iadd hC d_R_readsRulings_46 ?_
  refine V.callVI hC exR (w_R_figureAt w σ (1 : Int32) (x2 + (1 : Int32)) _ h) d_R_readsRulings_47 mo_R_figureAt qm_R_113 rfl rfl rfl rfl rfl rfl rfl (Nat.le_of_ble_eq_true rfl) (fun r6 t7 h => ?_)
  refine V.istore (y := r6) (lo' := [some (.ref (w.1 0)), some (.int x1), some (.int x2), some (.int s0), some (.int r6)]) hC d_R_readsRulings_50 rfl rfl rfl ?_
  refine V.iload_n hC d_R_readsRulings_52 rfl rfl ?_
  refine V.iconst (v := 0) hC d_R_readsRulings_53 (by decide) ?_
  refine V.iconst (v := 2) hC d_R_readsRulings_54 (by decide) ?_
  refine V.callSI hC exR (w_R_in w t7 s0 (0 : Int32) (2 : Int32) _ h) d_R_readsRulings_55 mo_R_in qm_R_97 rfl rfl rfl rfl (Nat.le_of_ble_eq_true rfl) (fun r8 t9 h => ?_)
  refine V.if_eq (tgt := 67) hC d_R_readsRulings_58 (by decide) (fun c10 => ?_) (fun c10 => ?_)
  · replace h := h.1 c10
    exact V.msk [true, false, true, true, false] rfl (wj_R_readsRulings_67  hC hR  t9 x2 s0 h)
  · replace h := h.2 c10
    refine V.iload hC d_R_readsRulings_61 rfl ?_
    refine V.iconst (v := -1) hC d_R_readsRulings_63 (by decide) ?_
    refine V.icmp_ne (tgt := 88) hC d_R_readsRulings_64 (by decide) (fun c11 => ?_) (fun c11 => ?_)
    · replace h := h.1 c11
      refine V.aload_n hC d_R_readsRulings_88 rfl rfl ?_
      refine V.getR (j := 8) hC d_R_readsRulings_89 rfl rfl uC8 rfl rfl qf_R_28 ?_
      refine V.iload_n hC d_R_readsRulings_92 rfl rfl ?_
      refine V.iload hC d_R_readsRulings_93 rfl ?_
      obtain ⟨b12, h⟩ := h
      refine V.iast hC d_R_readsRulings_95 rfl b12 ?_
      obtain ⟨v13, ev13⟩ : ∃ y : Int32, y = x1 + (1 : Int32) := ⟨_, rfl⟩
      replace h := h v13 ev13
      refine V.iinc (y := v13) (lo' := [some (.ref (w.1 0)), some (.int v13), some (.int x2), some (.int s0), some (.int r6)]) hC d_R_readsRulings_96 rfl rfl (show v13 = _ + Int32.ofInt (1) from ev13) rfl ?_
      obtain ⟨v14, ev14⟩ : ∃ y : Int32, y = x2 + (2 : Int32) := ⟨_, rfl⟩
      replace h := h v14 ev14
      refine V.iinc (y := v14) (lo' := [some (.ref (w.1 0)), some (.int v13), some (.int v14), some (.int s0), some (.int r6)]) hC d_R_readsRulings_99 rfl rfl (show v14 = _ + Int32.ofInt (2) from ev14) rfl ?_
      refine V.iload_n hC d_R_readsRulings_102 rfl rfl ?_
      refine V.aload_n hC d_R_readsRulings_103 rfl rfl ?_
      refine V.getR (j := 0) hC d_R_readsRulings_104 rfl rfl uC8 rfl rfl qf_R_7 ?_
      refine V.iconst (v := 1) hC d_R_readsRulings_107 (by decide) ?_
      obtain ⟨b15, h⟩ := h
      refine V.iald hC d_R_readsRulings_108 rfl b15 ?_
      refine V.icmp_ne (tgt := 119) hC d_R_readsRulings_109 (by decide) (fun c16 => ?_) (fun c16 => ?_)
      · replace h := h.1 c16
        refine V.aload_n hC d_R_readsRulings_119 rfl rfl ?_
        refine V.iconst (v := 1) hC d_R_readsRulings_120 (by decide) ?_
        refine V.iload_n hC d_R_readsRulings_121 rfl rfl ?_
        refine V.callVI hC exR (w_R_byteAt w (st t9 7 (ix s0) r6) (1 : Int32) v14 _ h) d_R_readsRulings_122 mo_R_byteAt qm_R_105 rfl rfl rfl rfl rfl rfl rfl (Nat.le_of_ble_eq_true rfl) (fun r17 t18 h => ?_)
        refine V.bipush (v := 59) hC d_R_readsRulings_125 (by decide) ?_
        refine V.icmp_eq (tgt := 136) hC d_R_readsRulings_127 (by decide) (fun c19 => ?_) (fun c19 => ?_)
        · replace h := h.1 c19
          obtain ⟨v20, ev20⟩ : ∃ y : Int32, y = v14 + (1 : Int32) := ⟨_, rfl⟩
          replace h := h v20 ev20
          refine V.iinc (y := v20) (lo' := [some (.ref (w.1 0)), some (.int v13), some (.int v20), some (.int s0), some (.int r6)]) hC d_R_readsRulings_136 rfl rfl (show v20 = _ + Int32.ofInt (1) from ev20) rfl ?_
          refine V.goto (tgt := 8) hC d_R_readsRulings_139 (by decide) ?_
          exact V.msk [true, true, true, false, false] rfl (hI8 t18 v13 v20 h)
        · replace h := h.2 c19
          refine V.aload_n hC d_R_readsRulings_130 rfl rfl ?_
          refine V.callVN hC exR (w_R_noRates w t18  _ h) d_R_readsRulings_131 mo_R_noRates qm_R_126 rfl rfl rfl rfl rfl rfl rfl (Nat.le_of_ble_eq_true rfl) (fun t22 h => ?_)
          refine V.iload_n hC d_R_readsRulings_134 rfl rfl ?_
          exact hR _ _ _ _ h rfl d_R_readsRulings_135
      · replace h := h.2 c16
        refine V.aload_n hC d_R_readsRulings_112 rfl rfl ?_
        refine V.iload_n hC d_R_readsRulings_113 rfl rfl ?_
        refine V.put (j := 7) hC d_R_readsRulings_114 rfl rfl uC8 pC8 dC8 rfl rfl rfl rfl rfl qf_R_123 ?_
        refine V.iconst (v := -1) hC d_R_readsRulings_117 (by decide) ?_
        exact hR _ _ _ _ h rfl d_R_readsRulings_118
    · replace h := h.2 c11
      exact V.msk [true, false, true, true, false] rfl (wj_R_readsRulings_67  hC hR  t9 x2 s0 h)
set_option maxHeartbeats 4000000 in
set_option maxRecDepth 100000 in
theorem wj_R_readsRulings_22 {w : Wd} {κ : Kx} {P : Int32 → Hp → Prop} (hC : Cx μR w 5 κ nC8 b_R_readsRulings 2) (hR : RtI μR w 5 κ b_R_readsRulings .int P) {I8 : Hp → Int32 → Int32 → Prop} (hI8 : ∀ σ x1 x2, I8 σ x1 x2 → V μR w 5 κ σ [some (.ref (w.1 0)), some (.int x1), some (.int x2), none, none] 8 []) : ∀ (σ : Hp) (x1 : Int32) (x2 : Int32), j_R_readsRulings_22  P I8 σ x1 x2 → V μR w 5 κ σ [some (.ref (w.1 0)), some (.int x1), some (.int x2), none, none] 22 [] := by
  intro σ x1 x2 h
  unfold j_R_readsRulings_22 at h
  refine V.iload_n hC d_R_readsRulings_22 rfl rfl ?_
  refine V.bipush (v := 6) hC d_R_readsRulings_23 (by decide) ?_
  refine V.icmp_ne (tgt := 32) hC d_R_readsRulings_25 (by decide) (fun c23 => ?_) (fun c23 => ?_)
  · replace h := h.1 c23
    refine V.aload_n hC d_R_readsRulings_32 rfl rfl ?_
    refine V.iconst (v := 1) hC d_R_readsRulings_33 (by decide) ?_
    refine V.iload_n hC d_R_readsRulings_34 rfl rfl ?_
    refine V.callVI hC exR (w_R_byteAt w σ (1 : Int32) x2 _ h) d_R_readsRulings_35 mo_R_byteAt qm_R_105 rfl rfl rfl rfl rfl rfl rfl (Nat.le_of_ble_eq_true rfl) (fun r24 t25 h => ?_)
    refine V.callSI hC exR (w_R_kindOf w t25 r24 _ h) d_R_readsRulings_38 mo_R_kindOf qm_R_109 rfl rfl rfl rfl (Nat.le_of_ble_eq_true rfl) (fun r26 t27 h => ?_)
    exact V.msk [true, true, true, false, false] rfl (wj_R_readsRulings_41  hC hR hI8 t27 x1 x2 r26 h)
  · replace h := h.2 c23
    refine V.iconst (v := -1) hC d_R_readsRulings_28 (by decide) ?_
    refine V.goto (tgt := 41) hC d_R_readsRulings_29 (by decide) ?_
    exact V.msk [true, true, true, false, false] rfl (wj_R_readsRulings_41  hC hR hI8 σ x1 x2 (-1 : Int32) h)
set_option maxHeartbeats 4000000 in
set_option maxRecDepth 100000 in
theorem wj_R_readsRulings_8 {w : Wd} {κ : Kx} {P : Int32 → Hp → Prop} (hC : Cx μR w 5 κ nC8 b_R_readsRulings 2) (hR : RtI μR w 5 κ b_R_readsRulings .int P)  : ∀ (σ : Hp) (x1 : Int32) (x2 : Int32), j_R_readsRulings_8  P  σ x1 x2 → V μR w 5 κ σ [some (.ref (w.1 0)), some (.int x1), some (.int x2), none, none] 8 [] := by
  intro σ x1 x2 h
  refine h (fun σ x1 x2 => V μR w 5 κ σ [some (.ref (w.1 0)), some (.int x1), some (.int x2), none, none] 8 []) (fun σ x1 x2 h => ?_)
  unfold b_R_readsRulings_8_ at h
  refine V.iload_n hC d_R_readsRulings_8 rfl rfl ?_
  refine V.aload_n hC d_R_readsRulings_9 rfl rfl ?_
  refine V.getR (j := 0) hC d_R_readsRulings_10 rfl rfl uC8 rfl rfl qf_R_7 ?_
  refine V.iconst (v := 1) hC d_R_readsRulings_13 (by decide) ?_
  obtain ⟨b28, h⟩ := h
  refine V.iald hC d_R_readsRulings_14 rfl b28 ?_
  refine V.icmp_lt (tgt := 22) hC d_R_readsRulings_15 (by decide) (fun c29 => ?_) (fun c29 => ?_)
  · replace h := h.1 c29
    exact V.msk [true, true, true, false, false] rfl (wj_R_readsRulings_22  hC hR (fun _ _ _ h => h) σ x1 x2 h)
  · replace h := h.2 c29
    refine V.iload_n hC d_R_readsRulings_18 rfl rfl ?_
    refine V.if_le (tgt := 142) hC d_R_readsRulings_19 (by decide) (fun c30 => ?_) (fun c30 => ?_)
    · replace h := h.1 c30
      refine V.iconst (v := -1) hC d_R_readsRulings_142 (by decide) ?_
      exact hR _ _ _ _ h rfl d_R_readsRulings_143
    · replace h := h.2 c30
      exact V.msk [true, true, true, false, false] rfl (wj_R_readsRulings_22  hC hR (fun _ _ _ h => h) σ x1 x2 h)
set_option maxHeartbeats 4000000 in
set_option maxRecDepth 100000 in
theorem w_R_readsRulings (w : Wd) (σ : Hp)  (P : Int32 → Hp → Prop) (h : wp_R_readsRulings σ  P) : CtI μR w y_R_readsRulings b_R_readsRulings 5 (some .int) 2 [.ref (w.1 0)] σ P := by
  unfold wp_R_readsRulings at h
  refine CtI.ofV (C := nC8) (lo := [some (.ref (w.1 0)), none, none, none, none]) exR (by decide +kernel) rfl rfl rfl (fun κ hC hR => ?_)
  refine V.iconst (v := 0) hC d_R_readsRulings_0 (by decide) ?_
  refine V.istore_n (y := (0 : Int32)) (lo' := [some (.ref (w.1 0)), some (.int (0 : Int32)), none, none, none]) hC d_R_readsRulings_1 rfl rfl rfl rfl ?_
  refine V.iconst (v := 0) hC d_R_readsRulings_2 (by decide) ?_
  refine V.istore_n (y := (0 : Int32)) (lo' := [some (.ref (w.1 0)), some (.int (0 : Int32)), some (.int (0 : Int32)), none, none]) hC d_R_readsRulings_3 rfl rfl rfl rfl ?_
  refine V.aload_n hC d_R_readsRulings_4 rfl rfl ?_
  refine V.callVN hC exR (w_R_noRates w σ  _ h) d_R_readsRulings_5 mo_R_noRates qm_R_126 rfl rfl rfl rfl rfl rfl rfl (Nat.le_of_ble_eq_true rfl) (fun t32 h => ?_)
  exact V.msk [true, true, true, false, false] rfl (wj_R_readsRulings_8  hC hR  t32 (0 : Int32) (0 : Int32) h)
abbrev b_R_faultOf : ByteArray := prog_10_method_20_code
def y_R_faultOf : MethodName := ⟨nC8, "faultOf", "(I)I"⟩
theorem d_R_faultOf_0 : decode b_R_faultOf 0 = .ok (.aload_n 0, 1) := by decide +kernel
theorem d_R_faultOf_1 : decode b_R_faultOf 1 = .ok (.invokevirtual 129, 3) := by decide +kernel
theorem d_R_faultOf_4 : decode b_R_faultOf 4 = .ok (.istore_n 2, 1) := by decide +kernel
theorem d_R_faultOf_5 : decode b_R_faultOf 5 = .ok (.aload_n 0, 1) := by decide +kernel
theorem d_R_faultOf_6 : decode b_R_faultOf 6 = .ok (.invokevirtual 133, 3) := by decide +kernel
theorem d_R_faultOf_9 : decode b_R_faultOf 9 = .ok (.istore_n 3, 1) := by decide +kernel
theorem d_R_faultOf_10 : decode b_R_faultOf 10 = .ok (.iload_n 1, 1) := by decide +kernel
theorem d_R_faultOf_11 : decode b_R_faultOf 11 = .ok (.ifCond .ne 7, 3) := by decide +kernel
theorem d_R_faultOf_14 : decode b_R_faultOf 14 = .ok (.iload_n 2, 1) := by decide +kernel
theorem d_R_faultOf_15 : decode b_R_faultOf 15 = .ok (.goto 4, 3) := by decide +kernel
theorem d_R_faultOf_18 : decode b_R_faultOf 18 = .ok (.iload_n 3, 1) := by decide +kernel
theorem d_R_faultOf_19 : decode b_R_faultOf 19 = .ok (.ireturn, 1) := by decide +kernel
theorem qm_R_129 : Cond.methodLink nC8 129 y_R_readsHouses ∈ tbl := tbl_in 1001 (by decide +kernel) rfl
theorem qm_R_133 : Cond.methodLink nC8 133 y_R_readsRulings ∈ tbl := tbl_in 1020 (by decide +kernel) rfl
theorem mo_R_faultOf : MokV y_R_faultOf b_R_faultOf 4 (some .int) 1 := ⟨⟨(tbl_in 1000 (by decide +kernel) rfl), (tbl_in 70 (by decide +kernel) rfl)⟩, ⟨(tbl_in 999 (by decide +kernel) rfl), tbl_lw _ (tbl_in 14 (by decide +kernel) rfl), (tbl_in 14 (by decide +kernel) rfl)⟩, ⟨by decide +kernel, by decide +kernel⟩, by decide +kernel⟩
def wp_R_faultOf (σ : Hp) (a1 : Int32) (P : Int32 → Hp → Prop) : Prop :=
  wp_R_readsHouses σ (fun (r1 : Int32) (t2 : Hp) => wp_R_readsRulings t2 (fun (r3 : Int32) (t4 : Hp) => ((¬ a1 = 0 → P r3 t4) ∧ (a1 = 0 → P r1 t4))))
set_option maxHeartbeats 4000000 in
set_option maxRecDepth 100000 in
theorem w_R_faultOf (w : Wd) (σ : Hp) (a1 : Int32) (P : Int32 → Hp → Prop) (h : wp_R_faultOf σ a1 P) : CtI μR w y_R_faultOf b_R_faultOf 4 (some .int) 4 [.ref (w.1 0), .int a1] σ P := by
  unfold wp_R_faultOf at h
  refine CtI.ofV (C := nC8) (lo := [some (.ref (w.1 0)), some (.int a1), none, none]) exR (by decide +kernel) rfl rfl rfl (fun κ hC hR => ?_)
  refine V.aload_n hC d_R_faultOf_0 rfl rfl ?_
  refine V.callVI hC exR (w_R_readsHouses w σ  _ h) d_R_faultOf_1 mo_R_readsHouses qm_R_129 rfl rfl rfl rfl rfl rfl rfl (Nat.le_of_ble_eq_true rfl) (fun r1 t2 h => ?_)
  refine V.istore_n (y := r1) (lo' := [some (.ref (w.1 0)), some (.int a1), some (.int r1), none]) hC d_R_faultOf_4 rfl rfl rfl rfl ?_
  refine V.aload_n hC d_R_faultOf_5 rfl rfl ?_
  refine V.callVI hC exR (w_R_readsRulings w t2  _ h) d_R_faultOf_6 mo_R_readsRulings qm_R_133 rfl rfl rfl rfl rfl rfl rfl (Nat.le_of_ble_eq_true rfl) (fun r3 t4 h => ?_)
  refine V.istore_n (y := r3) (lo' := [some (.ref (w.1 0)), some (.int a1), some (.int r1), some (.int r3)]) hC d_R_faultOf_9 rfl rfl rfl rfl ?_
  refine V.iload_n hC d_R_faultOf_10 rfl rfl ?_
  refine V.if_ne (tgt := 18) hC d_R_faultOf_11 (by decide) (fun c5 => ?_) (fun c5 => ?_)
  · replace h := h.1 c5
    refine V.iload_n hC d_R_faultOf_18 rfl rfl ?_
    exact hR _ _ _ _ h rfl d_R_faultOf_19
  · replace h := h.2 c5
    refine V.iload_n hC d_R_faultOf_14 rfl rfl ?_
    refine V.goto (tgt := 19) hC d_R_faultOf_15 (by decide) ?_
    exact hR _ _ _ _ h rfl d_R_faultOf_19
abbrev b_R_reads : ByteArray := prog_10_method_21_code
def y_R_reads : MethodName := ⟨nC8, "reads", "()V"⟩
theorem d_R_reads_0 : decode b_R_reads 0 = .ok (.aload_n 0, 1) := by decide +kernel
theorem d_R_reads_1 : decode b_R_reads 1 = .ok (.iconst 0, 1) := by decide +kernel
theorem d_R_reads_2 : decode b_R_reads 2 = .ok (.invokevirtual 136, 3) := by decide +kernel
theorem d_R_reads_5 : decode b_R_reads 5 = .ok (.istore_n 1, 1) := by decide +kernel
theorem d_R_reads_6 : decode b_R_reads 6 = .ok (.return_, 1) := by decide +kernel
theorem qm_R_136 : Cond.methodLink nC8 136 y_R_faultOf ∈ tbl := tbl_in 997 (by decide +kernel) rfl
theorem mo_R_reads : MokV y_R_reads b_R_reads 2 none 0 := ⟨⟨(tbl_in 1039 (by decide +kernel) rfl), (tbl_in 70 (by decide +kernel) rfl)⟩, ⟨(tbl_in 1038 (by decide +kernel) rfl), tbl_lw _ (tbl_in 22 (by decide +kernel) rfl), (tbl_in 22 (by decide +kernel) rfl)⟩, ⟨by decide +kernel, by decide +kernel⟩, by decide +kernel⟩
def wp_R_reads (σ : Hp)  (P : Hp → Prop) : Prop :=
  wp_R_faultOf σ (0 : Int32) (fun (r1 : Int32) (t2 : Hp) => P t2)
set_option maxHeartbeats 4000000 in
set_option maxRecDepth 100000 in
theorem w_R_reads (w : Wd) (σ : Hp)  (P : Hp → Prop) (h : wp_R_reads σ  P) : CtN μR w y_R_reads b_R_reads 2 none 5 [.ref (w.1 0)] σ P := by
  unfold wp_R_reads at h
  refine CtN.ofV (C := nC8) (lo := [some (.ref (w.1 0)), none]) exR (by decide +kernel) rfl rfl rfl (fun κ hC hR => ?_)
  refine V.aload_n hC d_R_reads_0 rfl rfl ?_
  refine V.iconst (v := 0) hC d_R_reads_1 (by decide) ?_
  refine V.callVI hC exR (w_R_faultOf w σ (0 : Int32) _ h) d_R_reads_2 mo_R_faultOf qm_R_136 rfl rfl rfl rfl rfl rfl rfl (Nat.le_of_ble_eq_true rfl) (fun r1 t2 h => ?_)
  refine V.istore_n (y := r1) (lo' := [some (.ref (w.1 0)), some (.int r1)]) hC d_R_reads_5 rfl rfl rfl rfl ?_
  exact hR _ _ _ h d_R_reads_6
abbrev b_R_fault : ByteArray := prog_10_method_22_code
def y_R_fault : MethodName := ⟨nC8, "fault", "(I)I"⟩
theorem d_R_fault_0 : decode b_R_fault 0 = .ok (.iload_n 1, 1) := by decide +kernel
theorem d_R_fault_1 : decode b_R_fault 1 = .ok (.invokestatic 101, 3) := by decide +kernel
theorem d_R_fault_4 : decode b_R_fault 4 = .ok (.ifCond .eq 11, 3) := by decide +kernel
theorem d_R_fault_7 : decode b_R_fault 7 = .ok (.aload_n 0, 1) := by decide +kernel
theorem d_R_fault_8 : decode b_R_fault 8 = .ok (.iload_n 1, 1) := by decide +kernel
theorem d_R_fault_9 : decode b_R_fault 9 = .ok (.invokevirtual 136, 3) := by decide +kernel
theorem d_R_fault_12 : decode b_R_fault 12 = .ok (.goto 5, 3) := by decide +kernel
theorem d_R_fault_15 : decode b_R_fault 15 = .ok (.bipush (-2), 2) := by decide +kernel
theorem d_R_fault_17 : decode b_R_fault 17 = .ok (.ireturn, 1) := by decide +kernel
def wp_R_fault (σ : Hp) (a1 : Int32) (P : Int32 → Hp → Prop) : Prop :=
  wp_R_isText σ a1 (fun (r1 : Int32) (t2 : Hp) => ((r1 = 0 → P (-2 : Int32) t2) ∧ (¬ r1 = 0 → wp_R_faultOf t2 a1 (fun (r4 : Int32) (t5 : Hp) => P r4 t5))))
set_option maxHeartbeats 4000000 in
set_option maxRecDepth 100000 in
theorem w_R_fault (w : Wd) (σ : Hp) (a1 : Int32) (P : Int32 → Hp → Prop) (h : wp_R_fault σ a1 P) : CtI μR w y_R_fault b_R_fault 2 (some .int) 5 [.ref (w.1 0), .int a1] σ P := by
  unfold wp_R_fault at h
  refine CtI.ofV (C := nC8) (lo := [some (.ref (w.1 0)), some (.int a1)]) exR (by decide +kernel) rfl rfl rfl (fun κ hC hR => ?_)
  refine V.iload_n hC d_R_fault_0 rfl rfl ?_
  refine V.callSI hC exR (w_R_isText w σ a1 _ h) d_R_fault_1 mo_R_isText qm_R_101 rfl rfl rfl rfl (Nat.le_of_ble_eq_true rfl) (fun r1 t2 h => ?_)
  refine V.if_eq (tgt := 15) hC d_R_fault_4 (by decide) (fun c3 => ?_) (fun c3 => ?_)
  · replace h := h.1 c3
    refine V.bipush (v := -2) hC d_R_fault_15 (by decide) ?_
    exact hR _ _ _ _ h rfl d_R_fault_17
  · replace h := h.2 c3
    refine V.aload_n hC d_R_fault_7 rfl rfl ?_
    refine V.iload_n hC d_R_fault_8 rfl rfl ?_
    refine V.callVI hC exR (w_R_faultOf w t2 a1 _ h) d_R_fault_9 mo_R_faultOf qm_R_136 rfl rfl rfl rfl rfl rfl rfl (Nat.le_of_ble_eq_true rfl) (fun r4 t5 h => ?_)
    refine V.goto (tgt := 17) hC d_R_fault_12 (by decide) ?_
    exact hR _ _ _ _ h rfl d_R_fault_17
abbrev b_R_isHouse : ByteArray := prog_10_method_23_code
def y_R_isHouse : MethodName := ⟨nC8, "isHouse", "(I)Z"⟩
theorem d_R_isHouse_0 : decode b_R_isHouse 0 = .ok (.aload_n 0, 1) := by decide +kernel
theorem d_R_isHouse_1 : decode b_R_isHouse 1 = .ok (.invokevirtual 139, 3) := by decide +kernel
theorem d_R_isHouse_4 : decode b_R_isHouse 4 = .ok (.iload_n 1, 1) := by decide +kernel
theorem d_R_isHouse_5 : decode b_R_isHouse 5 = .ok (.iconst 0, 1) := by decide +kernel
theorem d_R_isHouse_6 : decode b_R_isHouse 6 = .ok (.aload_n 0, 1) := by decide +kernel
theorem d_R_isHouse_7 : decode b_R_isHouse 7 = .ok (.getfield 116, 3) := by decide +kernel
theorem d_R_isHouse_10 : decode b_R_isHouse 10 = .ok (.iconst 1, 1) := by decide +kernel
theorem d_R_isHouse_11 : decode b_R_isHouse 11 = .ok (.isub, 1) := by decide +kernel
theorem d_R_isHouse_12 : decode b_R_isHouse 12 = .ok (.invokestatic 97, 3) := by decide +kernel
theorem d_R_isHouse_15 : decode b_R_isHouse 15 = .ok (.ireturn, 1) := by decide +kernel
theorem qm_R_139 : Cond.methodLink nC8 139 y_R_reads ∈ tbl := tbl_in 1036 (by decide +kernel) rfl
theorem mo_R_isHouse : MokV y_R_isHouse b_R_isHouse 2 (some .boolean) 1 := ⟨⟨(tbl_in 1035 (by decide +kernel) rfl), (tbl_in 70 (by decide +kernel) rfl)⟩, ⟨(tbl_in 1034 (by decide +kernel) rfl), tbl_lw _ (tbl_in 21 (by decide +kernel) rfl), (tbl_in 21 (by decide +kernel) rfl)⟩, ⟨by decide +kernel, by decide +kernel⟩, by decide +kernel⟩
def wp_R_isHouse (σ : Hp) (a1 : Int32) (P : Int32 → Hp → Prop) : Prop :=
  wp_R_reads σ (fun (t2 : Hp) => wp_R_in t2 a1 (0 : Int32) ((t2 0 2) - (1 : Int32)) (fun (r3 : Int32) (t4 : Hp) => (r3 &&& 1 = r3) ∧ P r3 t4))
set_option maxHeartbeats 4000000 in
set_option maxRecDepth 100000 in
theorem w_R_isHouse (w : Wd) (σ : Hp) (a1 : Int32) (P : Int32 → Hp → Prop) (h : wp_R_isHouse σ a1 P) : CtI μR w y_R_isHouse b_R_isHouse 2 (some .boolean) 6 [.ref (w.1 0), .int a1] σ P := by
  unfold wp_R_isHouse at h
  refine CtI.ofV (C := nC8) (lo := [some (.ref (w.1 0)), some (.int a1)]) exR (by decide +kernel) rfl rfl rfl (fun κ hC hR => ?_)
  refine V.aload_n hC d_R_isHouse_0 rfl rfl ?_
  refine V.callVN hC exR (w_R_reads w σ  _ h) d_R_isHouse_1 mo_R_reads qm_R_139 rfl rfl rfl rfl rfl rfl rfl (Nat.le_of_ble_eq_true rfl) (fun t2 h => ?_)
  refine V.iload_n hC d_R_isHouse_4 rfl rfl ?_
  refine V.iconst (v := 0) hC d_R_isHouse_5 (by decide) ?_
  refine V.aload_n hC d_R_isHouse_6 rfl rfl ?_
  refine V.getI (j := 2) hC d_R_isHouse_7 rfl rfl uC8 rfl rfl qf_R_116 ?_
  refine V.iconst (v := 1) hC d_R_isHouse_10 (by decide) ?_
  refine V.isub hC d_R_isHouse_11 ?_
  refine V.callSI hC exR (w_R_in w t2 a1 (0 : Int32) ((t2 0 2) - (1 : Int32)) _ h) d_R_isHouse_12 mo_R_in qm_R_97 rfl rfl rfl rfl (Nat.le_of_ble_eq_true rfl) (fun r3 t4 h => ?_)
  obtain ⟨z5, h⟩ := h
  exact hR _ _ _ _ h (congrArg Value.int z5) d_R_isHouse_15
abbrev b_R_houseOf : ByteArray := prog_10_method_24_code
def y_R_houseOf : MethodName := ⟨nC8, "houseOf", "(II)I"⟩
theorem d_R_houseOf_0 : decode b_R_houseOf 0 = .ok (.iload_n 2, 1) := by decide +kernel
theorem d_R_houseOf_1 : decode b_R_houseOf 1 = .ok (.ifCond .ne 12, 3) := by decide +kernel
theorem d_R_houseOf_4 : decode b_R_houseOf 4 = .ok (.aload_n 0, 1) := by decide +kernel
theorem d_R_houseOf_5 : decode b_R_houseOf 5 = .ok (.getfield 16, 3) := by decide +kernel
theorem d_R_houseOf_8 : decode b_R_houseOf 8 = .ok (.iload_n 1, 1) := by decide +kernel
theorem d_R_houseOf_9 : decode b_R_houseOf 9 = .ok (.iaload, 1) := by decide +kernel
theorem d_R_houseOf_10 : decode b_R_houseOf 10 = .ok (.goto 37, 3) := by decide +kernel
theorem d_R_houseOf_13 : decode b_R_houseOf 13 = .ok (.iload_n 2, 1) := by decide +kernel
theorem d_R_houseOf_14 : decode b_R_houseOf 14 = .ok (.iconst 1, 1) := by decide +kernel
theorem d_R_houseOf_15 : decode b_R_houseOf 15 = .ok (.if_icmp .ne 12, 3) := by decide +kernel
theorem d_R_houseOf_18 : decode b_R_houseOf 18 = .ok (.aload_n 0, 1) := by decide +kernel
theorem d_R_houseOf_19 : decode b_R_houseOf 19 = .ok (.getfield 19, 3) := by decide +kernel
theorem d_R_houseOf_22 : decode b_R_houseOf 22 = .ok (.iload_n 1, 1) := by decide +kernel
theorem d_R_houseOf_23 : decode b_R_houseOf 23 = .ok (.iaload, 1) := by decide +kernel
theorem d_R_houseOf_24 : decode b_R_houseOf 24 = .ok (.goto 23, 3) := by decide +kernel
theorem d_R_houseOf_27 : decode b_R_houseOf 27 = .ok (.iload_n 2, 1) := by decide +kernel
theorem d_R_houseOf_28 : decode b_R_houseOf 28 = .ok (.iconst 2, 1) := by decide +kernel
theorem d_R_houseOf_29 : decode b_R_houseOf 29 = .ok (.if_icmp .ne 12, 3) := by decide +kernel
theorem d_R_houseOf_32 : decode b_R_houseOf 32 = .ok (.aload_n 0, 1) := by decide +kernel
theorem d_R_houseOf_33 : decode b_R_houseOf 33 = .ok (.getfield 22, 3) := by decide +kernel
theorem d_R_houseOf_36 : decode b_R_houseOf 36 = .ok (.iload_n 1, 1) := by decide +kernel
theorem d_R_houseOf_37 : decode b_R_houseOf 37 = .ok (.iaload, 1) := by decide +kernel
theorem d_R_houseOf_38 : decode b_R_houseOf 38 = .ok (.goto 9, 3) := by decide +kernel
theorem d_R_houseOf_41 : decode b_R_houseOf 41 = .ok (.aload_n 0, 1) := by decide +kernel
theorem d_R_houseOf_42 : decode b_R_houseOf 42 = .ok (.getfield 25, 3) := by decide +kernel
theorem d_R_houseOf_45 : decode b_R_houseOf 45 = .ok (.iload_n 1, 1) := by decide +kernel
theorem d_R_houseOf_46 : decode b_R_houseOf 46 = .ok (.iaload, 1) := by decide +kernel
theorem d_R_houseOf_47 : decode b_R_houseOf 47 = .ok (.ireturn, 1) := by decide +kernel
theorem mo_R_houseOf : MokV y_R_houseOf b_R_houseOf 3 (some .int) 2 := ⟨⟨(tbl_in 1043 (by decide +kernel) rfl), (tbl_in 70 (by decide +kernel) rfl)⟩, ⟨(tbl_in 1042 (by decide +kernel) rfl), tbl_lw _ (tbl_in 23 (by decide +kernel) rfl), (tbl_in 23 (by decide +kernel) rfl)⟩, ⟨by decide +kernel, by decide +kernel⟩, by decide +kernel⟩
def wp_R_houseOf (σ : Hp) (a1 : Int32) (a2 : Int32) (P : Int32 → Hp → Prop) : Prop :=
  ((¬ a2 = 0 → ((¬ a2 = (1 : Int32) → ((¬ a2 = (2 : Int32) → (vp_in a1 9) ∧ P (σ 6 (ix a1)) σ) ∧ (a2 = (2 : Int32) → (vp_in a1 9) ∧ P (σ 5 (ix a1)) σ))) ∧ (a2 = (1 : Int32) → (vp_in a1 9) ∧ P (σ 4 (ix a1)) σ))) ∧ (a2 = 0 → (vp_in a1 9) ∧ P (σ 3 (ix a1)) σ))
set_option maxHeartbeats 4000000 in
set_option maxRecDepth 100000 in
theorem w_R_houseOf (w : Wd) (σ : Hp) (a1 : Int32) (a2 : Int32) (P : Int32 → Hp → Prop) (h : wp_R_houseOf σ a1 a2 P) : CtI μR w y_R_houseOf b_R_houseOf 3 (some .int) 0 [.ref (w.1 0), .int a1, .int a2] σ P := by
  unfold wp_R_houseOf at h
  refine CtI.ofV (C := nC8) (lo := [some (.ref (w.1 0)), some (.int a1), some (.int a2)]) exR (by decide +kernel) rfl rfl rfl (fun κ hC hR => ?_)
  refine V.iload_n hC d_R_houseOf_0 rfl rfl ?_
  refine V.if_ne (tgt := 13) hC d_R_houseOf_1 (by decide) (fun c1 => ?_) (fun c1 => ?_)
  · replace h := h.1 c1
    refine V.iload_n hC d_R_houseOf_13 rfl rfl ?_
    refine V.iconst (v := 1) hC d_R_houseOf_14 (by decide) ?_
    refine V.icmp_ne (tgt := 27) hC d_R_houseOf_15 (by decide) (fun c2 => ?_) (fun c2 => ?_)
    · replace h := h.1 c2
      refine V.iload_n hC d_R_houseOf_27 rfl rfl ?_
      refine V.iconst (v := 2) hC d_R_houseOf_28 (by decide) ?_
      refine V.icmp_ne (tgt := 41) hC d_R_houseOf_29 (by decide) (fun c3 => ?_) (fun c3 => ?_)
      · replace h := h.1 c3
        refine V.aload_n hC d_R_houseOf_41 rfl rfl ?_
        refine V.getR (j := 6) hC d_R_houseOf_42 rfl rfl uC8 rfl rfl qf_R_25 ?_
        refine V.iload_n hC d_R_houseOf_45 rfl rfl ?_
        obtain ⟨b4, h⟩ := h
        refine V.iald hC d_R_houseOf_46 rfl b4 ?_
        exact hR _ _ _ _ h rfl d_R_houseOf_47
      · replace h := h.2 c3
        refine V.aload_n hC d_R_houseOf_32 rfl rfl ?_
        refine V.getR (j := 5) hC d_R_houseOf_33 rfl rfl uC8 rfl rfl qf_R_22 ?_
        refine V.iload_n hC d_R_houseOf_36 rfl rfl ?_
        obtain ⟨b5, h⟩ := h
        refine V.iald hC d_R_houseOf_37 rfl b5 ?_
        refine V.goto (tgt := 47) hC d_R_houseOf_38 (by decide) ?_
        exact hR _ _ _ _ h rfl d_R_houseOf_47
    · replace h := h.2 c2
      refine V.aload_n hC d_R_houseOf_18 rfl rfl ?_
      refine V.getR (j := 4) hC d_R_houseOf_19 rfl rfl uC8 rfl rfl qf_R_19 ?_
      refine V.iload_n hC d_R_houseOf_22 rfl rfl ?_
      obtain ⟨b6, h⟩ := h
      refine V.iald hC d_R_houseOf_23 rfl b6 ?_
      refine V.goto (tgt := 47) hC d_R_houseOf_24 (by decide) ?_
      exact hR _ _ _ _ h rfl d_R_houseOf_47
  · replace h := h.2 c1
    refine V.aload_n hC d_R_houseOf_4 rfl rfl ?_
    refine V.getR (j := 3) hC d_R_houseOf_5 rfl rfl uC8 rfl rfl qf_R_16 ?_
    refine V.iload_n hC d_R_houseOf_8 rfl rfl ?_
    obtain ⟨b7, h⟩ := h
    refine V.iald hC d_R_houseOf_9 rfl b7 ?_
    refine V.goto (tgt := 47) hC d_R_houseOf_10 (by decide) ?_
    exact hR _ _ _ _ h rfl d_R_houseOf_47
abbrev b_R_house : ByteArray := prog_10_method_25_code
def y_R_house : MethodName := ⟨nC8, "house", "(II)I"⟩
theorem d_R_house_0 : decode b_R_house 0 = .ok (.aload_n 0, 1) := by decide +kernel
theorem d_R_house_1 : decode b_R_house 1 = .ok (.iload_n 1, 1) := by decide +kernel
theorem d_R_house_2 : decode b_R_house 2 = .ok (.invokevirtual 142, 3) := by decide +kernel
theorem d_R_house_5 : decode b_R_house 5 = .ok (.ifCond .eq 21, 3) := by decide +kernel
theorem d_R_house_8 : decode b_R_house 8 = .ok (.iload_n 2, 1) := by decide +kernel
theorem d_R_house_9 : decode b_R_house 9 = .ok (.iconst 0, 1) := by decide +kernel
theorem d_R_house_10 : decode b_R_house 10 = .ok (.iconst 3, 1) := by decide +kernel
theorem d_R_house_11 : decode b_R_house 11 = .ok (.invokestatic 97, 3) := by decide +kernel
theorem d_R_house_14 : decode b_R_house 14 = .ok (.ifCond .eq 12, 3) := by decide +kernel
theorem d_R_house_17 : decode b_R_house 17 = .ok (.aload_n 0, 1) := by decide +kernel
theorem d_R_house_18 : decode b_R_house 18 = .ok (.iload_n 1, 1) := by decide +kernel
theorem d_R_house_19 : decode b_R_house 19 = .ok (.iload_n 2, 1) := by decide +kernel
theorem d_R_house_20 : decode b_R_house 20 = .ok (.invokevirtual 145, 3) := by decide +kernel
theorem d_R_house_23 : decode b_R_house 23 = .ok (.goto 5, 3) := by decide +kernel
theorem d_R_house_26 : decode b_R_house 26 = .ok (.bipush (-2), 2) := by decide +kernel
theorem d_R_house_28 : decode b_R_house 28 = .ok (.ireturn, 1) := by decide +kernel
theorem qm_R_142 : Cond.methodLink nC8 142 y_R_isHouse ∈ tbl := tbl_in 1032 (by decide +kernel) rfl
theorem qm_R_145 : Cond.methodLink nC8 145 y_R_houseOf ∈ tbl := tbl_in 1040 (by decide +kernel) rfl
def wp_R_house (σ : Hp) (a1 : Int32) (a2 : Int32) (P : Int32 → Hp → Prop) : Prop :=
  wp_R_isHouse σ a1 (fun (r1 : Int32) (t2 : Hp) => ((r1 = 0 → P (-2 : Int32) t2) ∧ (¬ r1 = 0 → wp_R_in t2 a2 (0 : Int32) (3 : Int32) (fun (r4 : Int32) (t5 : Hp) => ((r4 = 0 → P (-2 : Int32) t5) ∧ (¬ r4 = 0 → wp_R_houseOf t5 a1 a2 (fun (r7 : Int32) (t8 : Hp) => P r7 t8)))))))
set_option maxHeartbeats 4000000 in
set_option maxRecDepth 100000 in
theorem w_R_house (w : Wd) (σ : Hp) (a1 : Int32) (a2 : Int32) (P : Int32 → Hp → Prop) (h : wp_R_house σ a1 a2 P) : CtI μR w y_R_house b_R_house 3 (some .int) 7 [.ref (w.1 0), .int a1, .int a2] σ P := by
  unfold wp_R_house at h
  refine CtI.ofV (C := nC8) (lo := [some (.ref (w.1 0)), some (.int a1), some (.int a2)]) exR (by decide +kernel) rfl rfl rfl (fun κ hC hR => ?_)
  refine V.aload_n hC d_R_house_0 rfl rfl ?_
  refine V.iload_n hC d_R_house_1 rfl rfl ?_
  refine V.callVI hC exR (w_R_isHouse w σ a1 _ h) d_R_house_2 mo_R_isHouse qm_R_142 rfl rfl rfl rfl rfl rfl rfl (Nat.le_of_ble_eq_true rfl) (fun r1 t2 h => ?_)
  refine V.if_eq (tgt := 26) hC d_R_house_5 (by decide) (fun c3 => ?_) (fun c3 => ?_)
  · replace h := h.1 c3
    refine V.bipush (v := -2) hC d_R_house_26 (by decide) ?_
    exact hR _ _ _ _ h rfl d_R_house_28
  · replace h := h.2 c3
    refine V.iload_n hC d_R_house_8 rfl rfl ?_
    refine V.iconst (v := 0) hC d_R_house_9 (by decide) ?_
    refine V.iconst (v := 3) hC d_R_house_10 (by decide) ?_
    refine V.callSI hC exR (w_R_in w t2 a2 (0 : Int32) (3 : Int32) _ h) d_R_house_11 mo_R_in qm_R_97 rfl rfl rfl rfl (Nat.le_of_ble_eq_true rfl) (fun r4 t5 h => ?_)
    refine V.if_eq (tgt := 26) hC d_R_house_14 (by decide) (fun c6 => ?_) (fun c6 => ?_)
    · replace h := h.1 c6
      refine V.bipush (v := -2) hC d_R_house_26 (by decide) ?_
      exact hR _ _ _ _ h rfl d_R_house_28
    · replace h := h.2 c6
      refine V.aload_n hC d_R_house_17 rfl rfl ?_
      refine V.iload_n hC d_R_house_18 rfl rfl ?_
      refine V.iload_n hC d_R_house_19 rfl rfl ?_
      refine V.callVI hC exR (w_R_houseOf w t5 a1 a2 _ h) d_R_house_20 mo_R_houseOf qm_R_145 rfl rfl rfl rfl rfl rfl rfl (Nat.le_of_ble_eq_true rfl) (fun r7 t8 h => ?_)
      refine V.goto (tgt := 28) hC d_R_house_23 (by decide) ?_
      exact hR _ _ _ _ h rfl d_R_house_28
abbrev b_R_rateOf : ByteArray := prog_10_method_26_code
def y_R_rateOf : MethodName := ⟨nC8, "rateOf", "(I)I"⟩
theorem d_R_rateOf_0 : decode b_R_rateOf 0 = .ok (.aload_n 0, 1) := by decide +kernel
theorem d_R_rateOf_1 : decode b_R_rateOf 1 = .ok (.invokevirtual 139, 3) := by decide +kernel
theorem d_R_rateOf_4 : decode b_R_rateOf 4 = .ok (.aload_n 0, 1) := by decide +kernel
theorem d_R_rateOf_5 : decode b_R_rateOf 5 = .ok (.getfield 28, 3) := by decide +kernel
theorem d_R_rateOf_8 : decode b_R_rateOf 8 = .ok (.iload_n 1, 1) := by decide +kernel
theorem d_R_rateOf_9 : decode b_R_rateOf 9 = .ok (.iaload, 1) := by decide +kernel
theorem d_R_rateOf_10 : decode b_R_rateOf 10 = .ok (.ireturn, 1) := by decide +kernel
theorem mo_R_rateOf : MokV y_R_rateOf b_R_rateOf 2 (some .int) 1 := ⟨⟨(tbl_in 1051 (by decide +kernel) rfl), (tbl_in 70 (by decide +kernel) rfl)⟩, ⟨(tbl_in 1050 (by decide +kernel) rfl), tbl_lw _ (tbl_in 24 (by decide +kernel) rfl), (tbl_in 24 (by decide +kernel) rfl)⟩, ⟨by decide +kernel, by decide +kernel⟩, by decide +kernel⟩
def wp_R_rateOf (σ : Hp) (a1 : Int32) (P : Int32 → Hp → Prop) : Prop :=
  wp_R_reads σ (fun (t2 : Hp) => (vp_in a1 3) ∧ P (t2 7 (ix a1)) t2)
set_option maxHeartbeats 4000000 in
set_option maxRecDepth 100000 in
theorem w_R_rateOf (w : Wd) (σ : Hp) (a1 : Int32) (P : Int32 → Hp → Prop) (h : wp_R_rateOf σ a1 P) : CtI μR w y_R_rateOf b_R_rateOf 2 (some .int) 6 [.ref (w.1 0), .int a1] σ P := by
  unfold wp_R_rateOf at h
  refine CtI.ofV (C := nC8) (lo := [some (.ref (w.1 0)), some (.int a1)]) exR (by decide +kernel) rfl rfl rfl (fun κ hC hR => ?_)
  refine V.aload_n hC d_R_rateOf_0 rfl rfl ?_
  refine V.callVN hC exR (w_R_reads w σ  _ h) d_R_rateOf_1 mo_R_reads qm_R_139 rfl rfl rfl rfl rfl rfl rfl (Nat.le_of_ble_eq_true rfl) (fun t2 h => ?_)
  refine V.aload_n hC d_R_rateOf_4 rfl rfl ?_
  refine V.getR (j := 8) hC d_R_rateOf_5 rfl rfl uC8 rfl rfl qf_R_28 ?_
  refine V.iload_n hC d_R_rateOf_8 rfl rfl ?_
  obtain ⟨b3, h⟩ := h
  refine V.iald hC d_R_rateOf_9 rfl b3 ?_
  exact hR _ _ _ _ h rfl d_R_rateOf_10
abbrev b_R_rate : ByteArray := prog_10_method_27_code
def y_R_rate : MethodName := ⟨nC8, "rate", "(I)I"⟩
theorem d_R_rate_0 : decode b_R_rate 0 = .ok (.iload_n 1, 1) := by decide +kernel
theorem d_R_rate_1 : decode b_R_rate 1 = .ok (.iconst 0, 1) := by decide +kernel
theorem d_R_rate_2 : decode b_R_rate 2 = .ok (.iconst 2, 1) := by decide +kernel
theorem d_R_rate_3 : decode b_R_rate 3 = .ok (.invokestatic 97, 3) := by decide +kernel
theorem d_R_rate_6 : decode b_R_rate 6 = .ok (.ifCond .eq 11, 3) := by decide +kernel
theorem d_R_rate_9 : decode b_R_rate 9 = .ok (.aload_n 0, 1) := by decide +kernel
theorem d_R_rate_10 : decode b_R_rate 10 = .ok (.iload_n 1, 1) := by decide +kernel
theorem d_R_rate_11 : decode b_R_rate 11 = .ok (.invokevirtual 148, 3) := by decide +kernel
theorem d_R_rate_14 : decode b_R_rate 14 = .ok (.goto 5, 3) := by decide +kernel
theorem d_R_rate_17 : decode b_R_rate 17 = .ok (.bipush (-2), 2) := by decide +kernel
theorem d_R_rate_19 : decode b_R_rate 19 = .ok (.ireturn, 1) := by decide +kernel
theorem qm_R_148 : Cond.methodLink nC8 148 y_R_rateOf ∈ tbl := tbl_in 1048 (by decide +kernel) rfl
def wp_R_rate (σ : Hp) (a1 : Int32) (P : Int32 → Hp → Prop) : Prop :=
  wp_R_in σ a1 (0 : Int32) (2 : Int32) (fun (r1 : Int32) (t2 : Hp) => ((r1 = 0 → P (-2 : Int32) t2) ∧ (¬ r1 = 0 → wp_R_rateOf t2 a1 (fun (r4 : Int32) (t5 : Hp) => P r4 t5))))
set_option maxHeartbeats 4000000 in
set_option maxRecDepth 100000 in
theorem w_R_rate (w : Wd) (σ : Hp) (a1 : Int32) (P : Int32 → Hp → Prop) (h : wp_R_rate σ a1 P) : CtI μR w y_R_rate b_R_rate 2 (some .int) 7 [.ref (w.1 0), .int a1] σ P := by
  unfold wp_R_rate at h
  refine CtI.ofV (C := nC8) (lo := [some (.ref (w.1 0)), some (.int a1)]) exR (by decide +kernel) rfl rfl rfl (fun κ hC hR => ?_)
  refine V.iload_n hC d_R_rate_0 rfl rfl ?_
  refine V.iconst (v := 0) hC d_R_rate_1 (by decide) ?_
  refine V.iconst (v := 2) hC d_R_rate_2 (by decide) ?_
  refine V.callSI hC exR (w_R_in w σ a1 (0 : Int32) (2 : Int32) _ h) d_R_rate_3 mo_R_in qm_R_97 rfl rfl rfl rfl (Nat.le_of_ble_eq_true rfl) (fun r1 t2 h => ?_)
  refine V.if_eq (tgt := 17) hC d_R_rate_6 (by decide) (fun c3 => ?_) (fun c3 => ?_)
  · replace h := h.1 c3
    refine V.bipush (v := -2) hC d_R_rate_17 (by decide) ?_
    exact hR _ _ _ _ h rfl d_R_rate_19
  · replace h := h.2 c3
    refine V.aload_n hC d_R_rate_9 rfl rfl ?_
    refine V.iload_n hC d_R_rate_10 rfl rfl ?_
    refine V.callVI hC exR (w_R_rateOf w t2 a1 _ h) d_R_rate_11 mo_R_rateOf qm_R_148 rfl rfl rfl rfl rfl rfl rfl (Nat.le_of_ble_eq_true rfl) (fun r4 t5 h => ?_)
    refine V.goto (tgt := 19) hC d_R_rate_14 (by decide) ?_
    exact hR _ _ _ _ h rfl d_R_rate_19
abbrev b_R_wall : ByteArray := prog_10_method_28_code
def y_R_wall : MethodName := ⟨nC8, "wall", "(II)I"⟩
theorem d_R_wall_0 : decode b_R_wall 0 = .ok (.iload_n 1, 1) := by decide +kernel
theorem d_R_wall_1 : decode b_R_wall 1 = .ok (.iconst 0, 1) := by decide +kernel
theorem d_R_wall_2 : decode b_R_wall 2 = .ok (.bipush 6, 2) := by decide +kernel
theorem d_R_wall_4 : decode b_R_wall 4 = .ok (.invokestatic 97, 3) := by decide +kernel
theorem d_R_wall_7 : decode b_R_wall 7 = .ok (.ifCond .eq 13, 3) := by decide +kernel
theorem d_R_wall_10 : decode b_R_wall 10 = .ok (.iload_n 2, 1) := by decide +kernel
theorem d_R_wall_11 : decode b_R_wall 11 = .ok (.iconst 0, 1) := by decide +kernel
theorem d_R_wall_12 : decode b_R_wall 12 = .ok (.bipush 9, 2) := by decide +kernel
theorem d_R_wall_14 : decode b_R_wall 14 = .ok (.invokestatic 97, 3) := by decide +kernel
theorem d_R_wall_17 : decode b_R_wall 17 = .ok (.ifCond .ne 6, 3) := by decide +kernel
theorem d_R_wall_20 : decode b_R_wall 20 = .ok (.bipush (-2), 2) := by decide +kernel
theorem d_R_wall_22 : decode b_R_wall 22 = .ok (.ireturn, 1) := by decide +kernel
theorem d_R_wall_23 : decode b_R_wall 23 = .ok (.aload_n 0, 1) := by decide +kernel
theorem d_R_wall_24 : decode b_R_wall 24 = .ok (.getfield 31, 3) := by decide +kernel
theorem d_R_wall_27 : decode b_R_wall 27 = .ok (.iload_n 1, 1) := by decide +kernel
theorem d_R_wall_28 : decode b_R_wall 28 = .ok (.iaload, 1) := by decide +kernel
theorem d_R_wall_29 : decode b_R_wall 29 = .ok (.istore_n 3, 1) := by decide +kernel
theorem d_R_wall_30 : decode b_R_wall 30 = .ok (.aload_n 0, 1) := by decide +kernel
theorem d_R_wall_31 : decode b_R_wall 31 = .ok (.getfield 31, 3) := by decide +kernel
theorem d_R_wall_34 : decode b_R_wall 34 = .ok (.iload_n 1, 1) := by decide +kernel
theorem d_R_wall_35 : decode b_R_wall 35 = .ok (.iload_n 2, 1) := by decide +kernel
theorem d_R_wall_36 : decode b_R_wall 36 = .ok (.iastore, 1) := by decide +kernel
theorem d_R_wall_37 : decode b_R_wall 37 = .ok (.iload_n 3, 1) := by decide +kernel
theorem d_R_wall_38 : decode b_R_wall 38 = .ok (.ireturn, 1) := by decide +kernel
theorem qf_R_31 : Cond.fieldLink nC8 31 (fC8 9).1 (fC8 9).2.1 (fC8 9).2.2.1 ∈ tbl := tbl_in 877 (by decide +kernel) rfl
def wp_R_wall (σ : Hp) (a1 : Int32) (a2 : Int32) (P : Int32 → Hp → Prop) : Prop :=
  wp_R_in σ a1 (0 : Int32) (6 : Int32) (fun (r1 : Int32) (t2 : Hp) => ((r1 = 0 → P (-2 : Int32) t2) ∧ (¬ r1 = 0 → wp_R_in t2 a2 (0 : Int32) (9 : Int32) (fun (r4 : Int32) (t5 : Hp) => ((¬ r4 = 0 → (vp_in a1 7) ∧ (∀ v8 : Int32, v8 = t5 8 (ix a1) → (vp_in a1 7) ∧ P v8 (st t5 8 (ix a1) a2))) ∧ (r4 = 0 → P (-2 : Int32) t5))))))
set_option maxHeartbeats 4000000 in
set_option maxRecDepth 100000 in
theorem w_R_wall (w : Wd) (σ : Hp) (a1 : Int32) (a2 : Int32) (P : Int32 → Hp → Prop) (h : wp_R_wall σ a1 a2 P) : CtI μR w y_R_wall b_R_wall 4 (some .int) 1 [.ref (w.1 0), .int a1, .int a2] σ P := by
  unfold wp_R_wall at h
  refine CtI.ofV (C := nC8) (lo := [some (.ref (w.1 0)), some (.int a1), some (.int a2), none]) exR (by decide +kernel) rfl rfl rfl (fun κ hC hR => ?_)
  refine V.iload_n hC d_R_wall_0 rfl rfl ?_
  refine V.iconst (v := 0) hC d_R_wall_1 (by decide) ?_
  refine V.bipush (v := 6) hC d_R_wall_2 (by decide) ?_
  refine V.callSI hC exR (w_R_in w σ a1 (0 : Int32) (6 : Int32) _ h) d_R_wall_4 mo_R_in qm_R_97 rfl rfl rfl rfl (Nat.le_of_ble_eq_true rfl) (fun r1 t2 h => ?_)
  refine V.if_eq (tgt := 20) hC d_R_wall_7 (by decide) (fun c3 => ?_) (fun c3 => ?_)
  · replace h := h.1 c3
    refine V.bipush (v := -2) hC d_R_wall_20 (by decide) ?_
    exact hR _ _ _ _ h rfl d_R_wall_22
  · replace h := h.2 c3
    refine V.iload_n hC d_R_wall_10 rfl rfl ?_
    refine V.iconst (v := 0) hC d_R_wall_11 (by decide) ?_
    refine V.bipush (v := 9) hC d_R_wall_12 (by decide) ?_
    refine V.callSI hC exR (w_R_in w t2 a2 (0 : Int32) (9 : Int32) _ h) d_R_wall_14 mo_R_in qm_R_97 rfl rfl rfl rfl (Nat.le_of_ble_eq_true rfl) (fun r4 t5 h => ?_)
    refine V.if_ne (tgt := 23) hC d_R_wall_17 (by decide) (fun c6 => ?_) (fun c6 => ?_)
    · replace h := h.1 c6
      refine V.aload_n hC d_R_wall_23 rfl rfl ?_
      refine V.getR (j := 9) hC d_R_wall_24 rfl rfl uC8 rfl rfl qf_R_31 ?_
      refine V.iload_n hC d_R_wall_27 rfl rfl ?_
      obtain ⟨b7, h⟩ := h
      refine V.iald hC d_R_wall_28 rfl b7 ?_
      obtain ⟨v8, ev8⟩ : ∃ y : Int32, y = t5 8 (ix a1) := ⟨_, rfl⟩
      replace h := h v8 ev8
      refine V.istore_n (y := v8) (lo' := [some (.ref (w.1 0)), some (.int a1), some (.int a2), some (.int v8)]) hC d_R_wall_29 rfl rfl ev8 rfl ?_
      refine V.aload_n hC d_R_wall_30 rfl rfl ?_
      refine V.getR (j := 9) hC d_R_wall_31 rfl rfl uC8 rfl rfl qf_R_31 ?_
      refine V.iload_n hC d_R_wall_34 rfl rfl ?_
      refine V.iload_n hC d_R_wall_35 rfl rfl ?_
      obtain ⟨b9, h⟩ := h
      refine V.iast hC d_R_wall_36 rfl b9 ?_
      refine V.iload_n hC d_R_wall_37 rfl rfl ?_
      exact hR _ _ _ _ h rfl d_R_wall_38
    · replace h := h.2 c6
      refine V.bipush (v := -2) hC d_R_wall_20 (by decide) ?_
      exact hR _ _ _ _ h rfl d_R_wall_22
