abbrev b_P_isText : ByteArray := prog_1_method_41_code
def y_P_isText : MethodName := ⟨nC7, "isText", "(I)Z"⟩
theorem d_P_isText_0 : decode b_P_isText 0 = .ok (.iload_n 0, 1) := by decide +kernel
theorem d_P_isText_1 : decode b_P_isText 1 = .ok (.ifCond .eq 8, 3) := by decide +kernel
theorem d_P_isText_4 : decode b_P_isText 4 = .ok (.iload_n 0, 1) := by decide +kernel
theorem d_P_isText_5 : decode b_P_isText 5 = .ok (.iconst 1, 1) := by decide +kernel
theorem d_P_isText_6 : decode b_P_isText 6 = .ok (.if_icmp .ne 7, 3) := by decide +kernel
theorem d_P_isText_9 : decode b_P_isText 9 = .ok (.iconst 1, 1) := by decide +kernel
theorem d_P_isText_10 : decode b_P_isText 10 = .ok (.goto 4, 3) := by decide +kernel
theorem d_P_isText_13 : decode b_P_isText 13 = .ok (.iconst 0, 1) := by decide +kernel
theorem d_P_isText_14 : decode b_P_isText 14 = .ok (.ireturn, 1) := by decide +kernel
theorem mo_P_isText : MokS y_P_isText b_P_isText 1 (some .boolean) 1 := ⟨⟨(tbl_in 322 (by decide +kernel) rfl), (tbl_in 62 (by decide +kernel) rfl)⟩, (tbl_in 321 (by decide +kernel) rfl), ⟨by decide +kernel, by decide +kernel⟩, by decide +kernel⟩
def wp_P_isText (σ : Hp) (a1 : Int32) (P : Int32 → Hp → Prop) : Prop :=
  ((a1 = 0 → P (1 : Int32) σ) ∧ (¬ a1 = 0 → ((¬ a1 = (1 : Int32) → P (0 : Int32) σ) ∧ (a1 = (1 : Int32) → P (1 : Int32) σ))))
set_option maxHeartbeats 4000000 in
set_option maxRecDepth 100000 in
theorem w_P_isText (w : Wd) (σ : Hp) (a1 : Int32) (P : Int32 → Hp → Prop) (h : wp_P_isText σ a1 P) : CtI μC w y_P_isText b_P_isText 1 (some .boolean) 0 [.int a1] σ P := by
  unfold wp_P_isText at h
  refine CtI.ofV (C := nC7) (lo := [some (.int a1)]) exC (by decide +kernel) rfl rfl rfl (fun κ hC hR => ?_)
  refine V.iload_n hC d_P_isText_0 rfl rfl ?_
  refine V.if_eq (tgt := 9) hC d_P_isText_1 (by decide) (fun c1 => ?_) (fun c1 => ?_)
  · replace h := h.1 c1
    refine V.iconst (v := 1) hC d_P_isText_9 (by decide) ?_
    refine V.goto (tgt := 14) hC d_P_isText_10 (by decide) ?_
    exact hR _ _ _ _ h (by decide) d_P_isText_14
  · replace h := h.2 c1
    refine V.iload_n hC d_P_isText_4 rfl rfl ?_
    refine V.iconst (v := 1) hC d_P_isText_5 (by decide) ?_
    refine V.icmp_ne (tgt := 13) hC d_P_isText_6 (by decide) (fun c2 => ?_) (fun c2 => ?_)
    · replace h := h.1 c2
      refine V.iconst (v := 0) hC d_P_isText_13 (by decide) ?_
      exact hR _ _ _ _ h (by decide) d_P_isText_14
    · replace h := h.2 c2
      refine V.iconst (v := 1) hC d_P_isText_9 (by decide) ?_
      refine V.goto (tgt := 14) hC d_P_isText_10 (by decide) ?_
      exact hR _ _ _ _ h (by decide) d_P_isText_14
abbrev b_P_textOf : ByteArray := prog_1_method_49_code
def y_P_textOf : MethodName := ⟨nC7, "textOf", "(I)LSoundPaid$Text;"⟩
theorem d_P_textOf_0 : decode b_P_textOf 0 = .ok (.iload_n 1, 1) := by decide +kernel
theorem d_P_textOf_1 : decode b_P_textOf 1 = .ok (.ifCond .ne 10, 3) := by decide +kernel
theorem d_P_textOf_4 : decode b_P_textOf 4 = .ok (.aload_n 0, 1) := by decide +kernel
theorem d_P_textOf_5 : decode b_P_textOf 5 = .ok (.getfield 16, 3) := by decide +kernel
theorem d_P_textOf_8 : decode b_P_textOf 8 = .ok (.goto 7, 3) := by decide +kernel
theorem d_P_textOf_11 : decode b_P_textOf 11 = .ok (.aload_n 0, 1) := by decide +kernel
theorem d_P_textOf_12 : decode b_P_textOf 12 = .ok (.getfield 22, 3) := by decide +kernel
theorem d_P_textOf_15 : decode b_P_textOf 15 = .ok (.areturn, 1) := by decide +kernel
theorem qf_P_16 : Cond.fieldLink nC7 16 (fC7 0).1 (fC7 0).2.1 (fC7 0).2.2.1 ∈ tbl := tbl_in 285 (by decide +kernel) rfl
theorem qf_P_22 : Cond.fieldLink nC7 22 (fC7 1).1 (fC7 1).2.1 (fC7 1).2.2.1 ∈ tbl := tbl_in 286 (by decide +kernel) rfl
theorem mo_P_textOf : MokV y_P_textOf b_P_textOf 2 (some (.object "SoundPaid$Text")) 1 := ⟨⟨(tbl_in 326 (by decide +kernel) rfl), (tbl_in 62 (by decide +kernel) rfl)⟩, ⟨(tbl_in 325 (by decide +kernel) rfl), tbl_lw _ (tbl_in 0 (by decide +kernel) rfl), (tbl_in 0 (by decide +kernel) rfl)⟩, ⟨by decide +kernel, by decide +kernel⟩, by decide +kernel⟩
def wp_P_textOf (σ : Hp) (a1 : Int32) (P : Nat → Hp → Prop) : Prop :=
  ((¬ a1 = 0 → P 2 σ) ∧ (a1 = 0 → P 1 σ))
set_option maxHeartbeats 4000000 in
set_option maxRecDepth 100000 in
theorem w_P_textOf (w : Wd) (σ : Hp) (a1 : Int32) (P : Nat → Hp → Prop) (h : wp_P_textOf σ a1 P) : CtR μC w y_P_textOf b_P_textOf 2 (some (.object "SoundPaid$Text")) 0 [.ref (w.1 0), .int a1] σ P := by
  unfold wp_P_textOf at h
  refine CtR.ofV (C := nC7) (lo := [some (.ref (w.1 0)), some (.int a1)]) exC (by decide +kernel) rfl rfl rfl (fun κ hC hR => ?_)
  refine V.iload_n hC d_P_textOf_0 rfl rfl ?_
  refine V.if_ne (tgt := 11) hC d_P_textOf_1 (by decide) (fun c1 => ?_) (fun c1 => ?_)
  · replace h := h.1 c1
    refine V.aload_n hC d_P_textOf_11 rfl rfl ?_
    refine V.getR (j := 1) hC d_P_textOf_12 rfl rfl uC7 rfl rfl qf_P_22 ?_
    exact hR _ _ _ _ h d_P_textOf_15
  · replace h := h.2 c1
    refine V.aload_n hC d_P_textOf_4 rfl rfl ?_
    refine V.getR (j := 0) hC d_P_textOf_5 rfl rfl uC7 rfl rfl qf_P_16 ?_
    refine V.goto (tgt := 15) hC d_P_textOf_8 (by decide) ?_
    exact hR _ _ _ _ h d_P_textOf_15
abbrev b_T_isFull : ByteArray := prog_8_method_2_code
def y_T_isFull : MethodName := ⟨nC6, "isFull", "()Z"⟩
theorem d_T_isFull_0 : decode b_T_isFull 0 = .ok (.aload_n 0, 1) := by decide +kernel
theorem d_T_isFull_1 : decode b_T_isFull 1 = .ok (.getfield 23, 3) := by decide +kernel
theorem d_T_isFull_4 : decode b_T_isFull 4 = .ok (.aload_n 0, 1) := by decide +kernel
theorem d_T_isFull_5 : decode b_T_isFull 5 = .ok (.getfield 9, 3) := by decide +kernel
theorem d_T_isFull_8 : decode b_T_isFull 8 = .ok (.arraylength, 1) := by decide +kernel
theorem d_T_isFull_9 : decode b_T_isFull 9 = .ok (.if_icmp .lt 7, 3) := by decide +kernel
theorem d_T_isFull_12 : decode b_T_isFull 12 = .ok (.iconst 1, 1) := by decide +kernel
theorem d_T_isFull_13 : decode b_T_isFull 13 = .ok (.goto 4, 3) := by decide +kernel
theorem d_T_isFull_16 : decode b_T_isFull 16 = .ok (.iconst 0, 1) := by decide +kernel
theorem d_T_isFull_17 : decode b_T_isFull 17 = .ok (.ireturn, 1) := by decide +kernel
theorem qf_T_23 : Cond.fieldLink nC6 23 (fC6 3).1 (fC6 3).2.1 (fC6 3).2.2.1 ∈ tbl := tbl_in 98 (by decide +kernel) rfl
theorem qf_T_9 : Cond.fieldLink nC6 9 (fC6 0).1 (fC6 0).2.1 (fC6 0).2.2.1 ∈ tbl := tbl_in 95 (by decide +kernel) rfl
theorem mo_T_isFull : MokV y_T_isFull b_T_isFull 1 (some .boolean) 0 := ⟨⟨(tbl_in 330 (by decide +kernel) rfl), (tbl_in 63 (by decide +kernel) rfl)⟩, ⟨(tbl_in 328 (by decide +kernel) rfl), tbl_lw _ (tbl_in 329 (by decide +kernel) rfl), (tbl_in 329 (by decide +kernel) rfl)⟩, ⟨by decide +kernel, by decide +kernel⟩, by decide +kernel⟩
def wp_T_isFull (σ : Hp) (o0 : Nat) (P : Int32 → Hp → Prop) : Prop :=
  (isT o0) ∧ (((σ o0 3) < (Int32.ofNat (tlen o0)) → P (0 : Int32) σ) ∧ (¬ (σ o0 3) < (Int32.ofNat (tlen o0)) → P (1 : Int32) σ))
set_option maxHeartbeats 4000000 in
set_option maxRecDepth 100000 in
theorem w_T_isFull (w : Wd) (σ : Hp) (o0 : Nat) (P : Int32 → Hp → Prop) (h : wp_T_isFull σ o0 P) : CtI μC w y_T_isFull b_T_isFull 1 (some .boolean) 0 [.ref (w.1 o0)] σ P := by
  unfold wp_T_isFull at h
  refine CtI.ofV (C := nC6) (lo := [some (.ref (w.1 o0))]) exC (by decide +kernel) rfl rfl rfl (fun κ hC hR => ?_)
  obtain ⟨m1, h⟩ := h
  refine V.aload_n hC d_T_isFull_0 rfl rfl ?_
  refine V.getI (j := 3) hC d_T_isFull_1 (shT m1) rfl uC6 rfl rfl qf_T_23 ?_
  refine V.aload_n hC d_T_isFull_4 rfl rfl ?_
  refine V.getR (j := 0) hC d_T_isFull_5 (shT m1) rfl uC6 rfl rfl qf_T_9 ?_
  refine V.alen0 hC d_T_isFull_8 (shTA m1) rfl ?_
  refine V.icmp_lt (tgt := 16) hC d_T_isFull_9 (by decide) (fun c2 => ?_) (fun c2 => ?_)
  · replace h := h.1 c2
    refine V.iconst (v := 0) hC d_T_isFull_16 (by decide) ?_
    exact hR _ _ _ _ h (by decide) d_T_isFull_17
  · replace h := h.2 c2
    refine V.iconst (v := 1) hC d_T_isFull_12 (by decide) ?_
    refine V.goto (tgt := 17) hC d_T_isFull_13 (by decide) ?_
    exact hR _ _ _ _ h (by decide) d_T_isFull_17
abbrev b_T_append : ByteArray := prog_8_method_3_code
def y_T_append : MethodName := ⟨nC6, "append", "(I)V"⟩
theorem d_T_append_0 : decode b_T_append 0 = .ok (.aload_n 0, 1) := by decide +kernel
theorem d_T_append_1 : decode b_T_append 1 = .ok (.getfield 9, 3) := by decide +kernel
theorem d_T_append_4 : decode b_T_append 4 = .ok (.aload_n 0, 1) := by decide +kernel
theorem d_T_append_5 : decode b_T_append 5 = .ok (.getfield 23, 3) := by decide +kernel
theorem d_T_append_8 : decode b_T_append 8 = .ok (.iload_n 1, 1) := by decide +kernel
theorem d_T_append_9 : decode b_T_append 9 = .ok (.iastore, 1) := by decide +kernel
theorem d_T_append_10 : decode b_T_append 10 = .ok (.aload_n 0, 1) := by decide +kernel
theorem d_T_append_11 : decode b_T_append 11 = .ok (.dup, 1) := by decide +kernel
theorem d_T_append_12 : decode b_T_append 12 = .ok (.getfield 23, 3) := by decide +kernel
theorem d_T_append_15 : decode b_T_append 15 = .ok (.iconst 1, 1) := by decide +kernel
theorem d_T_append_16 : decode b_T_append 16 = .ok (.iadd, 1) := by decide +kernel
theorem d_T_append_17 : decode b_T_append 17 = .ok (.putfield 23, 3) := by decide +kernel
theorem d_T_append_20 : decode b_T_append 20 = .ok (.return_, 1) := by decide +kernel
theorem mo_T_append : MokV y_T_append b_T_append 2 none 1 := ⟨⟨(tbl_in 334 (by decide +kernel) rfl), (tbl_in 63 (by decide +kernel) rfl)⟩, ⟨(tbl_in 332 (by decide +kernel) rfl), tbl_lw _ (tbl_in 333 (by decide +kernel) rfl), (tbl_in 333 (by decide +kernel) rfl)⟩, ⟨by decide +kernel, by decide +kernel⟩, by decide +kernel⟩
def wp_T_append (σ : Hp) (o0 : Nat) (a1 : Int32) (P : Hp → Prop) : Prop :=
  (isT o0) ∧ (vp_in (σ o0 3) (tlen o0)) ∧ P (st (st σ (o0 + 13) (ix (σ o0 3)) a1) o0 3 (((st σ (o0 + 13) (ix (σ o0 3)) a1) o0 3) + (1 : Int32)))
set_option maxHeartbeats 4000000 in
set_option maxRecDepth 100000 in
theorem w_T_append (w : Wd) (σ : Hp) (o0 : Nat) (a1 : Int32) (P : Hp → Prop) (h : wp_T_append σ o0 a1 P) : CtN μC w y_T_append b_T_append 2 none 0 [.ref (w.1 o0), .int a1] σ P := by
  unfold wp_T_append at h
  refine CtN.ofV (C := nC6) (lo := [some (.ref (w.1 o0)), some (.int a1)]) exC (by decide +kernel) rfl rfl rfl (fun κ hC hR => ?_)
  obtain ⟨m1, h⟩ := h
  refine V.aload_n hC d_T_append_0 rfl rfl ?_
  refine V.getR (j := 0) hC d_T_append_1 (shT m1) rfl uC6 rfl rfl qf_T_9 ?_
  refine V.aload_n hC d_T_append_4 rfl rfl ?_
  refine V.getI (j := 3) hC d_T_append_5 (shT m1) rfl uC6 rfl rfl qf_T_23 ?_
  refine V.iload_n hC d_T_append_8 rfl rfl ?_
  obtain ⟨b2, h⟩ := h
  refine V.iast hC d_T_append_9 (shTA m1) b2 ?_
  refine V.aload_n hC d_T_append_10 rfl rfl ?_
  refine V.dup hC d_T_append_11 rfl ?_
  refine V.getI (j := 3) hC d_T_append_12 (shT m1) rfl uC6 rfl rfl qf_T_23 ?_
  refine V.iconst (v := 1) hC d_T_append_15 (by decide) ?_
  refine V.iadd hC d_T_append_16 ?_
  refine V.put (j := 3) hC d_T_append_17 (shT m1) rfl uC6 pC6 dC6 rfl rfl rfl rfl rfl qf_T_23 ?_
  exact hR _ _ _ h d_T_append_20
abbrev b_JS_isLatin1 : ByteArray := prog_14_method_154_code
def y_JS_isLatin1 : MethodName := ⟨"java/lang/String", "isLatin1", "()Z"⟩
theorem d_JS_isLatin1_0 : decode b_JS_isLatin1 0 = .ok (.getstatic 38, 3) := by decide +kernel
theorem d_JS_isLatin1_3 : decode b_JS_isLatin1 3 = .ok (.ifCond .eq 14, 3) := by decide +kernel
theorem d_JS_isLatin1_6 : decode b_JS_isLatin1 6 = .ok (.aload_n 0, 1) := by decide +kernel
theorem d_JS_isLatin1_7 : decode b_JS_isLatin1 7 = .ok (.getfield 15, 3) := by decide +kernel
theorem d_JS_isLatin1_10 : decode b_JS_isLatin1 10 = .ok (.ifCond .ne 7, 3) := by decide +kernel
theorem d_JS_isLatin1_13 : decode b_JS_isLatin1 13 = .ok (.iconst 1, 1) := by decide +kernel
theorem d_JS_isLatin1_14 : decode b_JS_isLatin1 14 = .ok (.goto 4, 3) := by decide +kernel
theorem d_JS_isLatin1_17 : decode b_JS_isLatin1 17 = .ok (.iconst 0, 1) := by decide +kernel
theorem d_JS_isLatin1_18 : decode b_JS_isLatin1 18 = .ok (.ireturn, 1) := by decide +kernel
theorem qf_JS_15 : Cond.fieldLink "java/lang/String" 15 "java/lang/String" "coder" "B" ∈ tbl := tbl_in 1349 (by decide +kernel) rfl
theorem qf_JS_38 : Cond.fieldLink "java/lang/String" 38 "java/lang/String" "COMPACT_STRINGS" "Z" ∈ tbl := tbl_in 367 (by decide +kernel) rfl
theorem mo_JS_isLatin1 : MokV y_JS_isLatin1 b_JS_isLatin1 1 (some .boolean) 0 := ⟨⟨(tbl_in 366 (by decide +kernel) rfl), (tbl_in 71 (by decide +kernel) rfl)⟩, ⟨(tbl_in 364 (by decide +kernel) rfl), tbl_lw _ (tbl_in 365 (by decide +kernel) rfl), (tbl_in 365 (by decide +kernel) rfl)⟩, ⟨by decide +kernel, by decide +kernel⟩, by decide +kernel⟩
def wp_JS_isLatin1 (σ : Hp) (o0 : Nat) (P : Int32 → Hp → Prop) : Prop :=
  (isN o0) ∧ (((1 : Int32) = 0 → P (0 : Int32) σ) ∧ (¬ (1 : Int32) = 0 → ((¬ (0 : Int32) = 0 → P (0 : Int32) σ) ∧ ((0 : Int32) = 0 → P (1 : Int32) σ))))
set_option maxHeartbeats 4000000 in
set_option maxRecDepth 100000 in
theorem w_JS_isLatin1 (w : Wd) (σ : Hp) (o0 : Nat) (P : Int32 → Hp → Prop) (h : wp_JS_isLatin1 σ o0 P) : CtI μC w y_JS_isLatin1 b_JS_isLatin1 1 (some .boolean) 0 [.ref (w.1 o0)] σ P := by
  unfold wp_JS_isLatin1 at h
  refine CtI.ofV (C := "java/lang/String") (lo := [some (.ref (w.1 o0))]) exC (by decide +kernel) rfl rfl rfl (fun κ hC hR => ?_)
  obtain ⟨m1, h⟩ := h
  refine V.gets hC d_JS_isLatin1_0 (exComp w) qf_JS_38 ?_
  refine V.if_eq (tgt := 17) hC d_JS_isLatin1_3 (by decide) (fun c2 => ?_) (fun c2 => ?_)
  · replace h := h.1 c2
    refine V.iconst (v := 0) hC d_JS_isLatin1_17 (by decide) ?_
    exact hR _ _ _ _ h (by decide) d_JS_isLatin1_18
  · replace h := h.2 c2
    refine V.aload_n hC d_JS_isLatin1_6 rfl rfl ?_
    refine V.getX hC d_JS_isLatin1_7 (fun A U H z => (exStr w m1 A U H z).2.1) qf_JS_15 ?_
    refine V.if_ne (tgt := 17) hC d_JS_isLatin1_10 (by decide) (fun c3 => ?_) (fun c3 => ?_)
    · replace h := h.1 c3
      refine V.iconst (v := 0) hC d_JS_isLatin1_17 (by decide) ?_
      exact hR _ _ _ _ h (by decide) d_JS_isLatin1_18
    · replace h := h.2 c3
      refine V.iconst (v := 1) hC d_JS_isLatin1_13 (by decide) ?_
      refine V.goto (tgt := 18) hC d_JS_isLatin1_14 (by decide) ?_
      exact hR _ _ _ _ h (by decide) d_JS_isLatin1_18
abbrev b_JS_coder : ByteArray := prog_14_method_152_code
def y_JS_coder : MethodName := ⟨"java/lang/String", "coder", "()B"⟩
theorem d_JS_coder_0 : decode b_JS_coder 0 = .ok (.getstatic 38, 3) := by decide +kernel
theorem d_JS_coder_3 : decode b_JS_coder 3 = .ok (.ifCond .eq 10, 3) := by decide +kernel
theorem d_JS_coder_6 : decode b_JS_coder 6 = .ok (.aload_n 0, 1) := by decide +kernel
theorem d_JS_coder_7 : decode b_JS_coder 7 = .ok (.getfield 15, 3) := by decide +kernel
theorem d_JS_coder_10 : decode b_JS_coder 10 = .ok (.goto 4, 3) := by decide +kernel
theorem d_JS_coder_13 : decode b_JS_coder 13 = .ok (.iconst 1, 1) := by decide +kernel
theorem d_JS_coder_14 : decode b_JS_coder 14 = .ok (.ireturn, 1) := by decide +kernel
theorem mo_JS_coder : MokV y_JS_coder b_JS_coder 1 (some .byte) 0 := ⟨⟨(tbl_in 376 (by decide +kernel) rfl), (tbl_in 71 (by decide +kernel) rfl)⟩, ⟨(tbl_in 374 (by decide +kernel) rfl), tbl_lw _ (tbl_in 375 (by decide +kernel) rfl), (tbl_in 375 (by decide +kernel) rfl)⟩, ⟨by decide +kernel, by decide +kernel⟩, by decide +kernel⟩
def wp_JS_coder (σ : Hp) (o0 : Nat) (P : Int32 → Hp → Prop) : Prop :=
  (isN o0) ∧ (((1 : Int32) = 0 → P (1 : Int32) σ) ∧ (¬ (1 : Int32) = 0 → P (0 : Int32) σ))
set_option maxHeartbeats 4000000 in
set_option maxRecDepth 100000 in
theorem w_JS_coder (w : Wd) (σ : Hp) (o0 : Nat) (P : Int32 → Hp → Prop) (h : wp_JS_coder σ o0 P) : CtI μC w y_JS_coder b_JS_coder 1 (some .byte) 0 [.ref (w.1 o0)] σ P := by
  unfold wp_JS_coder at h
  refine CtI.ofV (C := "java/lang/String") (lo := [some (.ref (w.1 o0))]) exC (by decide +kernel) rfl rfl rfl (fun κ hC hR => ?_)
  obtain ⟨m1, h⟩ := h
  refine V.gets hC d_JS_coder_0 (exComp w) qf_JS_38 ?_
  refine V.if_eq (tgt := 13) hC d_JS_coder_3 (by decide) (fun c2 => ?_) (fun c2 => ?_)
  · replace h := h.1 c2
    refine V.iconst (v := 1) hC d_JS_coder_13 (by decide) ?_
    exact hR _ _ _ _ h (by decide) d_JS_coder_14
  · replace h := h.2 c2
    refine V.aload_n hC d_JS_coder_6 rfl rfl ?_
    refine V.getX hC d_JS_coder_7 (fun A U H z => (exStr w m1 A U H z).2.1) qf_JS_15 ?_
    refine V.goto (tgt := 14) hC d_JS_coder_10 (by decide) ?_
    exact hR _ _ _ _ h (by decide) d_JS_coder_14
abbrev b_JS_length : ByteArray := prog_14_method_54_code
def y_JS_length : MethodName := ⟨"java/lang/String", "length", "()I"⟩
theorem d_JS_length_0 : decode b_JS_length 0 = .ok (.aload_n 0, 1) := by decide +kernel
theorem d_JS_length_1 : decode b_JS_length 1 = .ok (.getfield 9, 3) := by decide +kernel
theorem d_JS_length_4 : decode b_JS_length 4 = .ok (.arraylength, 1) := by decide +kernel
theorem d_JS_length_5 : decode b_JS_length 5 = .ok (.aload_n 0, 1) := by decide +kernel
theorem d_JS_length_6 : decode b_JS_length 6 = .ok (.invokevirtual 335, 3) := by decide +kernel
theorem d_JS_length_9 : decode b_JS_length 9 = .ok (.ishr, 1) := by decide +kernel
theorem d_JS_length_10 : decode b_JS_length 10 = .ok (.ireturn, 1) := by decide +kernel
theorem qf_JS_9 : Cond.fieldLink "java/lang/String" 9 "java/lang/String" "value" "[B" ∈ tbl := tbl_in 1350 (by decide +kernel) rfl
theorem qm_JS_335 : Cond.methodLink "java/lang/String" 335 y_JS_coder ∈ tbl := tbl_in 373 (by decide +kernel) rfl
theorem mo_JS_length : MokV y_JS_length b_JS_length 1 (some .int) 0 := ⟨⟨(tbl_in 372 (by decide +kernel) rfl), (tbl_in 71 (by decide +kernel) rfl)⟩, ⟨(tbl_in 370 (by decide +kernel) rfl), tbl_lw _ (tbl_in 371 (by decide +kernel) rfl), (tbl_in 371 (by decide +kernel) rfl)⟩, ⟨by decide +kernel, by decide +kernel⟩, by decide +kernel⟩
def wp_JS_length (σ : Hp) (o0 : Nat) (P : Int32 → Hp → Prop) : Prop :=
  (isN o0) ∧ (isV (o0 + 2)) ∧ wp_JS_coder σ o0 (fun (r3 : Int32) (t4 : Hp) => P ((Int32.ofNat (strN ((o0 + 2) - 2))) >>> (r3 &&& 31)) t4)
set_option maxHeartbeats 4000000 in
set_option maxRecDepth 100000 in
theorem w_JS_length (w : Wd) (σ : Hp) (o0 : Nat) (P : Int32 → Hp → Prop) (h : wp_JS_length σ o0 P) : CtI μC w y_JS_length b_JS_length 1 (some .int) 1 [.ref (w.1 o0)] σ P := by
  unfold wp_JS_length at h
  refine CtI.ofV (C := "java/lang/String") (lo := [some (.ref (w.1 o0))]) exC (by decide +kernel) rfl rfl rfl (fun κ hC hR => ?_)
  obtain ⟨m1, h⟩ := h
  refine V.aload_n hC d_JS_length_0 rfl rfl ?_
  refine V.getX hC d_JS_length_1 (fun A U H z => (exStr w m1 A U H z).2.2.1) qf_JS_9 ?_
  obtain ⟨m2, h⟩ := h
  refine V.tlen hC d_JS_length_4 (exStrV w m2) rfl ?_
  refine V.aload_n hC d_JS_length_5 rfl rfl ?_
  refine V.callXI hC exC (w_JS_coder w σ o0 _ h) d_JS_length_6 mo_JS_coder qm_JS_335 (fun A U H z => (exStr w m1 A U H z).1) rfl rfl rfl rfl (Nat.le_of_ble_eq_true rfl) (fun r3 t4 h => ?_)
  refine V.ishr hC d_JS_length_9 ?_
  exact hR _ _ _ _ h rfl d_JS_length_10
abbrev b_JL_canEncode : ByteArray := prog_15_method_4_code
def y_JL_canEncode : MethodName := ⟨"java/lang/StringLatin1", "canEncode", "(I)Z"⟩
theorem d_JL_canEncode_0 : decode b_JL_canEncode 0 = .ok (.iload_n 0, 1) := by decide +kernel
theorem d_JL_canEncode_1 : decode b_JL_canEncode 1 = .ok (.ifCond .lt 14, 3) := by decide +kernel
theorem d_JL_canEncode_4 : decode b_JL_canEncode 4 = .ok (.iload_n 0, 1) := by decide +kernel
theorem d_JL_canEncode_5 : decode b_JL_canEncode 5 = .ok (.sipush 255, 3) := by decide +kernel
theorem d_JL_canEncode_8 : decode b_JL_canEncode 8 = .ok (.if_icmp .gt 7, 3) := by decide +kernel
theorem d_JL_canEncode_11 : decode b_JL_canEncode 11 = .ok (.iconst 1, 1) := by decide +kernel
theorem d_JL_canEncode_12 : decode b_JL_canEncode 12 = .ok (.goto 4, 3) := by decide +kernel
theorem d_JL_canEncode_15 : decode b_JL_canEncode 15 = .ok (.iconst 0, 1) := by decide +kernel
theorem d_JL_canEncode_16 : decode b_JL_canEncode 16 = .ok (.ireturn, 1) := by decide +kernel
theorem mo_JL_canEncode : MokS y_JL_canEncode b_JL_canEncode 1 (some .boolean) 1 := ⟨⟨(tbl_in 382 (by decide +kernel) rfl), (tbl_in 72 (by decide +kernel) rfl)⟩, (tbl_in 381 (by decide +kernel) rfl), ⟨by decide +kernel, by decide +kernel⟩, by decide +kernel⟩
def wp_JL_canEncode (σ : Hp) (a1 : Int32) (P : Int32 → Hp → Prop) : Prop :=
  ((a1 < 0 → P (0 : Int32) σ) ∧ (¬ a1 < 0 → (((255 : Int32) < a1 → P (0 : Int32) σ) ∧ (¬ (255 : Int32) < a1 → P (1 : Int32) σ))))
set_option maxHeartbeats 4000000 in
set_option maxRecDepth 100000 in
theorem w_JL_canEncode (w : Wd) (σ : Hp) (a1 : Int32) (P : Int32 → Hp → Prop) (h : wp_JL_canEncode σ a1 P) : CtI μC w y_JL_canEncode b_JL_canEncode 1 (some .boolean) 0 [.int a1] σ P := by
  unfold wp_JL_canEncode at h
  refine CtI.ofV (C := "java/lang/StringLatin1") (lo := [some (.int a1)]) exC (by decide +kernel) rfl rfl rfl (fun κ hC hR => ?_)
  refine V.iload_n hC d_JL_canEncode_0 rfl rfl ?_
  refine V.if_lt (tgt := 15) hC d_JL_canEncode_1 (by decide) (fun c1 => ?_) (fun c1 => ?_)
  · replace h := h.1 c1
    refine V.iconst (v := 0) hC d_JL_canEncode_15 (by decide) ?_
    exact hR _ _ _ _ h (by decide) d_JL_canEncode_16
  · replace h := h.2 c1
    refine V.iload_n hC d_JL_canEncode_4 rfl rfl ?_
    refine V.sipush (v := 255) hC d_JL_canEncode_5 (by decide) ?_
    refine V.icmp_gt (tgt := 15) hC d_JL_canEncode_8 (by decide) (fun c2 => ?_) (fun c2 => ?_)
    · replace h := h.1 c2
      refine V.iconst (v := 0) hC d_JL_canEncode_15 (by decide) ?_
      exact hR _ _ _ _ h (by decide) d_JL_canEncode_16
    · replace h := h.2 c2
      refine V.iconst (v := 1) hC d_JL_canEncode_11 (by decide) ?_
      refine V.goto (tgt := 16) hC d_JL_canEncode_12 (by decide) ?_
      exact hR _ _ _ _ h (by decide) d_JL_canEncode_16
abbrev b_JL_indexOfChar : ByteArray := prog_15_method_23_code
def y_JL_indexOfChar : MethodName := ⟨"java/lang/StringLatin1", "indexOfChar", "([BIII)I"⟩
theorem d_JL_indexOfChar_0 : decode b_JL_indexOfChar 0 = .ok (.iload_n 1, 1) := by decide +kernel
theorem d_JL_indexOfChar_1 : decode b_JL_indexOfChar 1 = .ok (.i2b, 1) := by decide +kernel
theorem d_JL_indexOfChar_2 : decode b_JL_indexOfChar 2 = .ok (.istore 4, 2) := by decide +kernel
theorem d_JL_indexOfChar_4 : decode b_JL_indexOfChar 4 = .ok (.iload_n 2, 1) := by decide +kernel
theorem d_JL_indexOfChar_5 : decode b_JL_indexOfChar 5 = .ok (.istore 5, 2) := by decide +kernel
theorem d_JL_indexOfChar_7 : decode b_JL_indexOfChar 7 = .ok (.iload 5, 2) := by decide +kernel
theorem d_JL_indexOfChar_9 : decode b_JL_indexOfChar 9 = .ok (.iload_n 3, 1) := by decide +kernel
theorem d_JL_indexOfChar_10 : decode b_JL_indexOfChar 10 = .ok (.if_icmp .ge 21, 3) := by decide +kernel
theorem d_JL_indexOfChar_13 : decode b_JL_indexOfChar 13 = .ok (.aload_n 0, 1) := by decide +kernel
theorem d_JL_indexOfChar_14 : decode b_JL_indexOfChar 14 = .ok (.iload 5, 2) := by decide +kernel
theorem d_JL_indexOfChar_16 : decode b_JL_indexOfChar 16 = .ok (.baload, 1) := by decide +kernel
theorem d_JL_indexOfChar_17 : decode b_JL_indexOfChar 17 = .ok (.iload 4, 2) := by decide +kernel
theorem d_JL_indexOfChar_19 : decode b_JL_indexOfChar 19 = .ok (.if_icmp .ne 6, 3) := by decide +kernel
theorem d_JL_indexOfChar_22 : decode b_JL_indexOfChar 22 = .ok (.iload 5, 2) := by decide +kernel
theorem d_JL_indexOfChar_24 : decode b_JL_indexOfChar 24 = .ok (.ireturn, 1) := by decide +kernel
theorem d_JL_indexOfChar_25 : decode b_JL_indexOfChar 25 = .ok (.iinc 5 1, 3) := by decide +kernel
theorem d_JL_indexOfChar_28 : decode b_JL_indexOfChar 28 = .ok (.goto (-21), 3) := by decide +kernel
theorem d_JL_indexOfChar_31 : decode b_JL_indexOfChar 31 = .ok (.iconst (-1), 1) := by decide +kernel
theorem d_JL_indexOfChar_32 : decode b_JL_indexOfChar 32 = .ok (.ireturn, 1) := by decide +kernel
theorem mo_JL_indexOfChar : MokS y_JL_indexOfChar b_JL_indexOfChar 6 (some .int) 4 := ⟨⟨(tbl_in 391 (by decide +kernel) rfl), (tbl_in 72 (by decide +kernel) rfl)⟩, (tbl_in 390 (by decide +kernel) rfl), ⟨by decide +kernel, by decide +kernel⟩, by decide +kernel⟩
def b_JL_indexOfChar_7_ (P : Int32 → Hp → Prop)  (I7 : Hp → Nat → Int32 → Int32 → Int32 → Prop) (σ : Hp) (x0 : Nat) (x3 : Int32) (x4 : Int32) (x5 : Int32) : Prop :=
  (isV x0) ∧ ((x3 ≤ x5 → P (-1 : Int32) σ) ∧ (¬ x3 ≤ x5 → (vp_in x5 (strN (x0 - 2))) ∧ ((¬ (strB (x0 - 2) (ix x5)) = x4 → (∀ v5 : Int32, v5 = x5 + (1 : Int32) → I7 σ x0 x3 x4 v5)) ∧ ((strB (x0 - 2) (ix x5)) = x4 → P x5 σ))))
def j_JL_indexOfChar_7 (P : Int32 → Hp → Prop)  (σ : Hp) (x0 : Nat) (x3 : Int32) (x4 : Int32) (x5 : Int32) : Prop := ∀ I7 : Hp → Nat → Int32 → Int32 → Int32 → Prop, (∀ (σ : Hp) (x0 : Nat) (x3 : Int32) (x4 : Int32) (x5 : Int32), b_JL_indexOfChar_7_  P  I7 σ x0 x3 x4 x5 → I7 σ x0 x3 x4 x5) → I7 σ x0 x3 x4 x5
def wp_JL_indexOfChar (σ : Hp) (o1 : Nat) (a2 : Int32) (a3 : Int32) (a4 : Int32) (P : Int32 → Hp → Prop) : Prop :=
  (isV o1) ∧ (∀ v7 : Int32, v7 = a2.toInt8.toInt32 → j_JL_indexOfChar_7 P σ o1 a4 v7 a3)
set_option maxHeartbeats 4000000 in
set_option maxRecDepth 100000 in
theorem wj_JL_indexOfChar_7 {w : Wd} {κ : Kx} {P : Int32 → Hp → Prop} (hC : Cx μC w 6 κ "java/lang/StringLatin1" b_JL_indexOfChar 0) (hR : RtI μC w 6 κ b_JL_indexOfChar .int P)  : ∀ (σ : Hp) (x0 : Nat) (x3 : Int32) (x4 : Int32) (x5 : Int32), j_JL_indexOfChar_7  P  σ x0 x3 x4 x5 → V μC w 6 κ σ [some (.ref (w.1 x0)), none, none, some (.int x3), some (.int x4), some (.int x5)] 7 [] := by
  intro σ x0 x3 x4 x5 h
  refine h (fun σ x0 x3 x4 x5 => V μC w 6 κ σ [some (.ref (w.1 x0)), none, none, some (.int x3), some (.int x4), some (.int x5)] 7 []) (fun σ x0 x3 x4 x5 h => ?_)
  unfold b_JL_indexOfChar_7_ at h
  obtain ⟨m1, h⟩ := h
  refine V.iload hC d_JL_indexOfChar_7 rfl ?_
  refine V.iload_n hC d_JL_indexOfChar_9 rfl rfl ?_
  refine V.icmp_ge (tgt := 31) hC d_JL_indexOfChar_10 (by decide) (fun c2 => ?_) (fun c2 => ?_)
  · replace h := h.1 c2
    refine V.iconst (v := -1) hC d_JL_indexOfChar_31 (by decide) ?_
    exact hR _ _ _ _ h rfl d_JL_indexOfChar_32
  · replace h := h.2 c2
    refine V.aload_n hC d_JL_indexOfChar_13 rfl rfl ?_
    refine V.iload hC d_JL_indexOfChar_14 rfl ?_
    obtain ⟨b3, h⟩ := h
    refine V.tabb hC d_JL_indexOfChar_16 (exStrV w m1) b3 rfl ?_
    refine V.iload hC d_JL_indexOfChar_17 rfl ?_
    refine V.icmp_ne (tgt := 25) hC d_JL_indexOfChar_19 (by decide) (fun c4 => ?_) (fun c4 => ?_)
    · replace h := h.1 c4
      obtain ⟨v5, ev5⟩ : ∃ y : Int32, y = x5 + (1 : Int32) := ⟨_, rfl⟩
      replace h := h v5 ev5
      refine V.iinc (y := v5) (lo' := [some (.ref (w.1 x0)), none, none, some (.int x3), some (.int x4), some (.int v5)]) hC d_JL_indexOfChar_25 rfl rfl (show v5 = _ + Int32.ofInt (1) from ev5) rfl ?_
      refine V.goto (tgt := 7) hC d_JL_indexOfChar_28 (by decide) ?_
      exact V.msk [true, false, false, true, true, true] rfl h
    · replace h := h.2 c4
      refine V.iload hC d_JL_indexOfChar_22 rfl ?_
      exact hR _ _ _ _ h rfl d_JL_indexOfChar_24
set_option maxHeartbeats 4000000 in
set_option maxRecDepth 100000 in
theorem w_JL_indexOfChar (w : Wd) (σ : Hp) (o1 : Nat) (a2 : Int32) (a3 : Int32) (a4 : Int32) (P : Int32 → Hp → Prop) (h : wp_JL_indexOfChar σ o1 a2 a3 a4 P) : CtI μC w y_JL_indexOfChar b_JL_indexOfChar 6 (some .int) 0 [.ref (w.1 o1), .int a2, .int a3, .int a4] σ P := by
  unfold wp_JL_indexOfChar at h
  refine CtI.ofV (C := "java/lang/StringLatin1") (lo := [some (.ref (w.1 o1)), some (.int a2), some (.int a3), some (.int a4), none, none]) exC (by decide +kernel) rfl rfl rfl (fun κ hC hR => ?_)
  obtain ⟨m6, h⟩ := h
  refine V.iload_n hC d_JL_indexOfChar_0 rfl rfl ?_
  refine V.i2b hC d_JL_indexOfChar_1 ?_
  obtain ⟨v7, ev7⟩ : ∃ y : Int32, y = a2.toInt8.toInt32 := ⟨_, rfl⟩
  replace h := h v7 ev7
  refine V.istore (y := v7) (lo' := [some (.ref (w.1 o1)), some (.int a2), some (.int a3), some (.int a4), some (.int v7), none]) hC d_JL_indexOfChar_2 rfl ev7 rfl ?_
  refine V.iload_n hC d_JL_indexOfChar_4 rfl rfl ?_
  refine V.istore (y := a3) (lo' := [some (.ref (w.1 o1)), some (.int a2), some (.int a3), some (.int a4), some (.int v7), some (.int a3)]) hC d_JL_indexOfChar_5 rfl rfl rfl ?_
  exact V.msk [true, false, false, true, true, true] rfl (wj_JL_indexOfChar_7  hC hR  σ o1 a4 v7 a3 h)
abbrev b_JL_indexOf : ByteArray := prog_15_method_22_code
def y_JL_indexOf : MethodName := ⟨"java/lang/StringLatin1", "indexOf", "([BIII)I"⟩
theorem d_JL_indexOf_0 : decode b_JL_indexOf 0 = .ok (.iload_n 1, 1) := by decide +kernel
theorem d_JL_indexOf_1 : decode b_JL_indexOf 1 = .ok (.invokestatic 88, 3) := by decide +kernel
theorem d_JL_indexOf_4 : decode b_JL_indexOf 4 = .ok (.ifCond .ne 5, 3) := by decide +kernel
theorem d_JL_indexOf_7 : decode b_JL_indexOf 7 = .ok (.iconst (-1), 1) := by decide +kernel
theorem d_JL_indexOf_8 : decode b_JL_indexOf 8 = .ok (.ireturn, 1) := by decide +kernel
theorem d_JL_indexOf_9 : decode b_JL_indexOf 9 = .ok (.iload_n 2, 1) := by decide +kernel
theorem d_JL_indexOf_10 : decode b_JL_indexOf 10 = .ok (.iconst 0, 1) := by decide +kernel
theorem d_JL_indexOf_11 : decode b_JL_indexOf 11 = .ok (.invokestatic 92, 3) := by decide +kernel
theorem d_JL_indexOf_14 : decode b_JL_indexOf 14 = .ok (.istore_n 2, 1) := by decide +kernel
theorem d_JL_indexOf_15 : decode b_JL_indexOf 15 = .ok (.iload_n 3, 1) := by decide +kernel
theorem d_JL_indexOf_16 : decode b_JL_indexOf 16 = .ok (.aload_n 0, 1) := by decide +kernel
theorem d_JL_indexOf_17 : decode b_JL_indexOf 17 = .ok (.arraylength, 1) := by decide +kernel
theorem d_JL_indexOf_18 : decode b_JL_indexOf 18 = .ok (.invokestatic 38, 3) := by decide +kernel
theorem d_JL_indexOf_21 : decode b_JL_indexOf 21 = .ok (.istore_n 3, 1) := by decide +kernel
theorem d_JL_indexOf_22 : decode b_JL_indexOf 22 = .ok (.iload_n 2, 1) := by decide +kernel
theorem d_JL_indexOf_23 : decode b_JL_indexOf 23 = .ok (.iload_n 3, 1) := by decide +kernel
theorem d_JL_indexOf_24 : decode b_JL_indexOf 24 = .ok (.if_icmp .lt 5, 3) := by decide +kernel
theorem d_JL_indexOf_27 : decode b_JL_indexOf 27 = .ok (.iconst (-1), 1) := by decide +kernel
theorem d_JL_indexOf_28 : decode b_JL_indexOf 28 = .ok (.ireturn, 1) := by decide +kernel
theorem d_JL_indexOf_29 : decode b_JL_indexOf 29 = .ok (.aload_n 0, 1) := by decide +kernel
theorem d_JL_indexOf_30 : decode b_JL_indexOf 30 = .ok (.iload_n 1, 1) := by decide +kernel
theorem d_JL_indexOf_31 : decode b_JL_indexOf 31 = .ok (.iload_n 2, 1) := by decide +kernel
theorem d_JL_indexOf_32 : decode b_JL_indexOf 32 = .ok (.iload_n 3, 1) := by decide +kernel
theorem d_JL_indexOf_33 : decode b_JL_indexOf 33 = .ok (.invokestatic 95, 3) := by decide +kernel
theorem d_JL_indexOf_36 : decode b_JL_indexOf 36 = .ok (.ireturn, 1) := by decide +kernel
theorem qm_JL_38 : Cond.methodLink "java/lang/StringLatin1" 38 Lib.Math.min.name ∈ tbl := tbl_in 386 (by decide +kernel) rfl
theorem qm_JL_88 : Cond.methodLink "java/lang/StringLatin1" 88 y_JL_canEncode ∈ tbl := tbl_in 380 (by decide +kernel) rfl
theorem qm_JL_92 : Cond.methodLink "java/lang/StringLatin1" 92 Lib.Math.max.name ∈ tbl := tbl_in 383 (by decide +kernel) rfl
theorem qm_JL_95 : Cond.methodLink "java/lang/StringLatin1" 95 y_JL_indexOfChar ∈ tbl := tbl_in 389 (by decide +kernel) rfl
theorem mo_JL_indexOf : MokS y_JL_indexOf b_JL_indexOf 4 (some .int) 4 := ⟨⟨(tbl_in 379 (by decide +kernel) rfl), (tbl_in 72 (by decide +kernel) rfl)⟩, (tbl_in 378 (by decide +kernel) rfl), ⟨by decide +kernel, by decide +kernel⟩, by decide +kernel⟩
def wp_JL_indexOf (σ : Hp) (o1 : Nat) (a2 : Int32) (a3 : Int32) (a4 : Int32) (P : Int32 → Hp → Prop) : Prop :=
  (isV o1) ∧ wp_JL_canEncode σ a2 (fun (r2 : Int32) (t3 : Hp) => ((¬ r2 = 0 → (∀ v5 : Int32, v5 = (if a3 < (0 : Int32) then (0 : Int32) else a3) → (∀ v6 : Int32, v6 = (if (Int32.ofNat (strN (o1 - 2))) < a4 then (Int32.ofNat (strN (o1 - 2))) else a4) → ((v5 < v6 → wp_JL_indexOfChar t3 o1 a2 v5 v6 (fun (r8 : Int32) (t9 : Hp) => P r8 t9)) ∧ (¬ v5 < v6 → P (-1 : Int32) t3))))) ∧ (r2 = 0 → P (-1 : Int32) t3)))
set_option maxHeartbeats 4000000 in
set_option maxRecDepth 100000 in
theorem w_JL_indexOf (w : Wd) (σ : Hp) (o1 : Nat) (a2 : Int32) (a3 : Int32) (a4 : Int32) (P : Int32 → Hp → Prop) (h : wp_JL_indexOf σ o1 a2 a3 a4 P) : CtI μC w y_JL_indexOf b_JL_indexOf 4 (some .int) 1 [.ref (w.1 o1), .int a2, .int a3, .int a4] σ P := by
  unfold wp_JL_indexOf at h
  refine CtI.ofV (C := "java/lang/StringLatin1") (lo := [some (.ref (w.1 o1)), some (.int a2), some (.int a3), some (.int a4)]) exC (by decide +kernel) rfl rfl rfl (fun κ hC hR => ?_)
  obtain ⟨m1, h⟩ := h
  refine V.iload_n hC d_JL_indexOf_0 rfl rfl ?_
  refine V.callSI hC exC (w_JL_canEncode w σ a2 _ h) d_JL_indexOf_1 mo_JL_canEncode qm_JL_88 rfl rfl rfl rfl (Nat.le_of_ble_eq_true rfl) (fun r2 t3 h => ?_)
  refine V.if_ne (tgt := 9) hC d_JL_indexOf_4 (by decide) (fun c4 => ?_) (fun c4 => ?_)
  · replace h := h.1 c4
    refine V.iload_n hC d_JL_indexOf_9 rfl rfl ?_
    refine V.iconst (v := 0) hC d_JL_indexOf_10 (by decide) ?_
    refine V.mmax hC d_JL_indexOf_11 qm_JL_92 qmax_s qmath_i qmax_c rfl rfl ?_
    obtain ⟨v5, ev5⟩ : ∃ y : Int32, y = if a3 < (0 : Int32) then (0 : Int32) else a3 := ⟨_, rfl⟩
    replace h := h v5 ev5
    refine V.istore_n (y := v5) (lo' := [some (.ref (w.1 o1)), some (.int a2), some (.int v5), some (.int a4)]) hC d_JL_indexOf_14 rfl rfl ev5 rfl ?_
    refine V.iload_n hC d_JL_indexOf_15 rfl rfl ?_
    refine V.aload_n hC d_JL_indexOf_16 rfl rfl ?_
    refine V.tlen hC d_JL_indexOf_17 (exStrV w m1) rfl ?_
    refine V.mmin hC d_JL_indexOf_18 qm_JL_38 qmin_s qmath_i qmin_c rfl rfl ?_
    obtain ⟨v6, ev6⟩ : ∃ y : Int32, y = if (Int32.ofNat (strN (o1 - 2))) < a4 then (Int32.ofNat (strN (o1 - 2))) else a4 := ⟨_, rfl⟩
    replace h := h v6 ev6
    refine V.istore_n (y := v6) (lo' := [some (.ref (w.1 o1)), some (.int a2), some (.int v5), some (.int v6)]) hC d_JL_indexOf_21 rfl rfl ev6 rfl ?_
    refine V.iload_n hC d_JL_indexOf_22 rfl rfl ?_
    refine V.iload_n hC d_JL_indexOf_23 rfl rfl ?_
    refine V.icmp_lt (tgt := 29) hC d_JL_indexOf_24 (by decide) (fun c7 => ?_) (fun c7 => ?_)
    · replace h := h.1 c7
      refine V.aload_n hC d_JL_indexOf_29 rfl rfl ?_
      refine V.iload_n hC d_JL_indexOf_30 rfl rfl ?_
      refine V.iload_n hC d_JL_indexOf_31 rfl rfl ?_
      refine V.iload_n hC d_JL_indexOf_32 rfl rfl ?_
      refine V.callSI hC exC (w_JL_indexOfChar w t3 o1 a2 v5 v6 _ h) d_JL_indexOf_33 mo_JL_indexOfChar qm_JL_95 rfl rfl rfl rfl (Nat.le_of_ble_eq_true rfl) (fun r8 t9 h => ?_)
      exact hR _ _ _ _ h rfl d_JL_indexOf_36
    · replace h := h.2 c7
      refine V.iconst (v := -1) hC d_JL_indexOf_27 (by decide) ?_
      exact hR _ _ _ _ h rfl d_JL_indexOf_28
  · replace h := h.2 c4
    refine V.iconst (v := -1) hC d_JL_indexOf_7 (by decide) ?_
    exact hR _ _ _ _ h rfl d_JL_indexOf_8
abbrev b_JS_indexOf2 : ByteArray := prog_14_method_80_code
def y_JS_indexOf2 : MethodName := ⟨"java/lang/String", "indexOf", "(II)I"⟩
theorem d_JS_indexOf2_0 : decode b_JS_indexOf2 0 = .ok (.aload_n 0, 1) := by decide +kernel
theorem d_JS_indexOf2_1 : decode b_JS_indexOf2 1 = .ok (.invokevirtual 492, 3) := by decide +kernel
theorem d_JS_indexOf2_4 : decode b_JS_indexOf2 4 = .ok (.ifCond .eq 19, 3) := by decide +kernel
theorem d_JS_indexOf2_7 : decode b_JS_indexOf2 7 = .ok (.aload_n 0, 1) := by decide +kernel
theorem d_JS_indexOf2_8 : decode b_JS_indexOf2 8 = .ok (.getfield 9, 3) := by decide +kernel
theorem d_JS_indexOf2_11 : decode b_JS_indexOf2 11 = .ok (.iload_n 1, 1) := by decide +kernel
theorem d_JS_indexOf2_12 : decode b_JS_indexOf2 12 = .ok (.iload_n 2, 1) := by decide +kernel
theorem d_JS_indexOf2_13 : decode b_JS_indexOf2 13 = .ok (.aload_n 0, 1) := by decide +kernel
theorem d_JS_indexOf2_14 : decode b_JS_indexOf2 14 = .ok (.invokevirtual 505, 3) := by decide +kernel
theorem d_JS_indexOf2_17 : decode b_JS_indexOf2 17 = .ok (.invokestatic 637, 3) := by decide +kernel
theorem d_JS_indexOf2_20 : decode b_JS_indexOf2 20 = .ok (.goto 16, 3) := by decide +kernel
theorem d_JS_indexOf2_23 : decode b_JS_indexOf2 23 = .ok (.aload_n 0, 1) := by decide +kernel
theorem d_JS_indexOf2_24 : decode b_JS_indexOf2 24 = .ok (.getfield 9, 3) := by decide +kernel
theorem d_JS_indexOf2_27 : decode b_JS_indexOf2 27 = .ok (.iload_n 1, 1) := by decide +kernel
theorem d_JS_indexOf2_28 : decode b_JS_indexOf2 28 = .ok (.iload_n 2, 1) := by decide +kernel
theorem d_JS_indexOf2_29 : decode b_JS_indexOf2 29 = .ok (.aload_n 0, 1) := by decide +kernel
theorem d_JS_indexOf2_30 : decode b_JS_indexOf2 30 = .ok (.invokevirtual 505, 3) := by decide +kernel
theorem d_JS_indexOf2_33 : decode b_JS_indexOf2 33 = .ok (.invokestatic 640, 3) := by decide +kernel
theorem d_JS_indexOf2_36 : decode b_JS_indexOf2 36 = .ok (.ireturn, 1) := by decide +kernel
theorem qm_JS_492 : Cond.methodLink "java/lang/String" 492 y_JS_isLatin1 ∈ tbl := tbl_in 363 (by decide +kernel) rfl
theorem qm_JS_505 : Cond.methodLink "java/lang/String" 505 y_JS_length ∈ tbl := tbl_in 369 (by decide +kernel) rfl
theorem qm_JS_637 : Cond.methodLink "java/lang/String" 637 y_JL_indexOf ∈ tbl := tbl_in 377 (by decide +kernel) rfl
theorem mo_JS_indexOf2 : MokV y_JS_indexOf2 b_JS_indexOf2 3 (some .int) 2 := ⟨⟨(tbl_in 362 (by decide +kernel) rfl), (tbl_in 71 (by decide +kernel) rfl)⟩, ⟨(tbl_in 360 (by decide +kernel) rfl), tbl_lw _ (tbl_in 361 (by decide +kernel) rfl), (tbl_in 361 (by decide +kernel) rfl)⟩, ⟨by decide +kernel, by decide +kernel⟩, by decide +kernel⟩
def wp_JS_indexOf2 (σ : Hp) (o0 : Nat) (a1 : Int32) (a2 : Int32) (P : Int32 → Hp → Prop) : Prop :=
  (isN o0) ∧ wp_JS_isLatin1 σ o0 (fun (r2 : Int32) (t3 : Hp) => ((r2 = 0 → wp_JS_length t3 o0 (fun (r5 : Int32) (t6 : Hp) => False)) ∧ (¬ r2 = 0 → wp_JS_length t3 o0 (fun (r7 : Int32) (t8 : Hp) => wp_JL_indexOf t8 (o0 + 2) a1 a2 r7 (fun (r9 : Int32) (t10 : Hp) => P r9 t10)))))
set_option maxHeartbeats 4000000 in
set_option maxRecDepth 100000 in
theorem w_JS_indexOf2 (w : Wd) (σ : Hp) (o0 : Nat) (a1 : Int32) (a2 : Int32) (P : Int32 → Hp → Prop) (h : wp_JS_indexOf2 σ o0 a1 a2 P) : CtI μC w y_JS_indexOf2 b_JS_indexOf2 3 (some .int) 2 [.ref (w.1 o0), .int a1, .int a2] σ P := by
  unfold wp_JS_indexOf2 at h
  refine CtI.ofV (C := "java/lang/String") (lo := [some (.ref (w.1 o0)), some (.int a1), some (.int a2)]) exC (by decide +kernel) rfl rfl rfl (fun κ hC hR => ?_)
  obtain ⟨m1, h⟩ := h
  refine V.aload_n hC d_JS_indexOf2_0 rfl rfl ?_
  refine V.callXI hC exC (w_JS_isLatin1 w σ o0 _ h) d_JS_indexOf2_1 mo_JS_isLatin1 qm_JS_492 (fun A U H z => (exStr w m1 A U H z).1) rfl rfl rfl rfl (Nat.le_of_ble_eq_true rfl) (fun r2 t3 h => ?_)
  refine V.if_eq (tgt := 23) hC d_JS_indexOf2_4 (by decide) (fun c4 => ?_) (fun c4 => ?_)
  · replace h := h.1 c4
    refine V.aload_n hC d_JS_indexOf2_23 rfl rfl ?_
    refine V.getX hC d_JS_indexOf2_24 (fun A U H z => (exStr w m1 A U H z).2.2.1) qf_JS_9 ?_
    refine V.iload_n hC d_JS_indexOf2_27 rfl rfl ?_
    refine V.iload_n hC d_JS_indexOf2_28 rfl rfl ?_
    refine V.aload_n hC d_JS_indexOf2_29 rfl rfl ?_
    refine V.callXI hC exC (w_JS_length w t3 o0 _ h) d_JS_indexOf2_30 mo_JS_length qm_JS_505 (fun A U H z => (exStr w m1 A U H z).1) rfl rfl rfl rfl (Nat.le_of_ble_eq_true rfl) (fun r5 t6 h => ?_)
    exact h.elim
  · replace h := h.2 c4
    refine V.aload_n hC d_JS_indexOf2_7 rfl rfl ?_
    refine V.getX hC d_JS_indexOf2_8 (fun A U H z => (exStr w m1 A U H z).2.2.1) qf_JS_9 ?_
    refine V.iload_n hC d_JS_indexOf2_11 rfl rfl ?_
    refine V.iload_n hC d_JS_indexOf2_12 rfl rfl ?_
    refine V.aload_n hC d_JS_indexOf2_13 rfl rfl ?_
    refine V.callXI hC exC (w_JS_length w t3 o0 _ h) d_JS_indexOf2_14 mo_JS_length qm_JS_505 (fun A U H z => (exStr w m1 A U H z).1) rfl rfl rfl rfl (Nat.le_of_ble_eq_true rfl) (fun r7 t8 h => ?_)
    refine V.callSI hC exC (w_JL_indexOf w t8 (o0 + 2) a1 a2 r7 _ h) d_JS_indexOf2_17 mo_JL_indexOf qm_JS_637 rfl rfl rfl rfl (Nat.le_of_ble_eq_true rfl) (fun r9 t10 h => ?_)
    refine V.goto (tgt := 36) hC d_JS_indexOf2_20 (by decide) ?_
    exact hR _ _ _ _ h rfl d_JS_indexOf2_36
abbrev b_JS_indexOf1 : ByteArray := prog_14_method_79_code
def y_JS_indexOf1 : MethodName := ⟨"java/lang/String", "indexOf", "(I)I"⟩
theorem d_JS_indexOf1_0 : decode b_JS_indexOf1 0 = .ok (.aload_n 0, 1) := by decide +kernel
theorem d_JS_indexOf1_1 : decode b_JS_indexOf1 1 = .ok (.iload_n 1, 1) := by decide +kernel
theorem d_JS_indexOf1_2 : decode b_JS_indexOf1 2 = .ok (.iconst 0, 1) := by decide +kernel
theorem d_JS_indexOf1_3 : decode b_JS_indexOf1 3 = .ok (.invokevirtual 633, 3) := by decide +kernel
theorem d_JS_indexOf1_6 : decode b_JS_indexOf1 6 = .ok (.ireturn, 1) := by decide +kernel
theorem qm_JS_633 : Cond.methodLink "java/lang/String" 633 y_JS_indexOf2 ∈ tbl := tbl_in 359 (by decide +kernel) rfl
theorem mo_JS_indexOf1 : MokV y_JS_indexOf1 b_JS_indexOf1 2 (some .int) 1 := ⟨⟨(tbl_in 358 (by decide +kernel) rfl), (tbl_in 71 (by decide +kernel) rfl)⟩, ⟨(tbl_in 356 (by decide +kernel) rfl), tbl_lw _ (tbl_in 357 (by decide +kernel) rfl), (tbl_in 357 (by decide +kernel) rfl)⟩, ⟨by decide +kernel, by decide +kernel⟩, by decide +kernel⟩
def wp_JS_indexOf1 (σ : Hp) (o0 : Nat) (a1 : Int32) (P : Int32 → Hp → Prop) : Prop :=
  (isN o0) ∧ wp_JS_indexOf2 σ o0 a1 (0 : Int32) (fun (r2 : Int32) (t3 : Hp) => P r2 t3)
set_option maxHeartbeats 4000000 in
set_option maxRecDepth 100000 in
theorem w_JS_indexOf1 (w : Wd) (σ : Hp) (o0 : Nat) (a1 : Int32) (P : Int32 → Hp → Prop) (h : wp_JS_indexOf1 σ o0 a1 P) : CtI μC w y_JS_indexOf1 b_JS_indexOf1 2 (some .int) 3 [.ref (w.1 o0), .int a1] σ P := by
  unfold wp_JS_indexOf1 at h
  refine CtI.ofV (C := "java/lang/String") (lo := [some (.ref (w.1 o0)), some (.int a1)]) exC (by decide +kernel) rfl rfl rfl (fun κ hC hR => ?_)
  obtain ⟨m1, h⟩ := h
  refine V.aload_n hC d_JS_indexOf1_0 rfl rfl ?_
  refine V.iload_n hC d_JS_indexOf1_1 rfl rfl ?_
  refine V.iconst (v := 0) hC d_JS_indexOf1_2 (by decide) ?_
  refine V.callXI hC exC (w_JS_indexOf2 w σ o0 a1 (0 : Int32) _ h) d_JS_indexOf1_3 mo_JS_indexOf2 qm_JS_633 (fun A U H z => (exStr w m1 A U H z).1) rfl rfl rfl rfl (Nat.le_of_ble_eq_true rfl) (fun r2 t3 h => ?_)
  exact hR _ _ _ _ h rfl d_JS_indexOf1_6
abbrev b_T_goesOn : ByteArray := prog_8_method_5_code
def y_T_goesOn : MethodName := ⟨nC6, "goesOn", "(I)Z"⟩
theorem d_T_goesOn_0 : decode b_T_goesOn 0 = .ok (.iload_n 1, 1) := by decide +kernel
theorem d_T_goesOn_1 : decode b_T_goesOn 1 = .ok (.aload_n 0, 1) := by decide +kernel
theorem d_T_goesOn_2 : decode b_T_goesOn 2 = .ok (.getfield 15, 3) := by decide +kernel
theorem d_T_goesOn_5 : decode b_T_goesOn 5 = .ok (.irem, 1) := by decide +kernel
theorem d_T_goesOn_6 : decode b_T_goesOn 6 = .ok (.istore_n 2, 1) := by decide +kernel
theorem d_T_goesOn_7 : decode b_T_goesOn 7 = .ok (.aload_n 0, 1) := by decide +kernel
theorem d_T_goesOn_8 : decode b_T_goesOn 8 = .ok (.getfield 9, 3) := by decide +kernel
theorem d_T_goesOn_11 : decode b_T_goesOn 11 = .ok (.iload_n 1, 1) := by decide +kernel
theorem d_T_goesOn_12 : decode b_T_goesOn 12 = .ok (.iaload, 1) := by decide +kernel
theorem d_T_goesOn_13 : decode b_T_goesOn 13 = .ok (.istore_n 3, 1) := by decide +kernel
theorem d_T_goesOn_14 : decode b_T_goesOn 14 = .ok (.iload_n 2, 1) := by decide +kernel
theorem d_T_goesOn_15 : decode b_T_goesOn 15 = .ok (.aload_n 0, 1) := by decide +kernel
theorem d_T_goesOn_16 : decode b_T_goesOn 16 = .ok (.getfield 15, 3) := by decide +kernel
theorem d_T_goesOn_19 : decode b_T_goesOn 19 = .ok (.iconst 1, 1) := by decide +kernel
theorem d_T_goesOn_20 : decode b_T_goesOn 20 = .ok (.isub, 1) := by decide +kernel
theorem d_T_goesOn_21 : decode b_T_goesOn 21 = .ok (.if_icmp .ne 15, 3) := by decide +kernel
theorem d_T_goesOn_24 : decode b_T_goesOn 24 = .ok (.iload_n 3, 1) := by decide +kernel
theorem d_T_goesOn_25 : decode b_T_goesOn 25 = .ok (.bipush 59, 2) := by decide +kernel
theorem d_T_goesOn_27 : decode b_T_goesOn 27 = .ok (.if_icmp .ne 7, 3) := by decide +kernel
theorem d_T_goesOn_30 : decode b_T_goesOn 30 = .ok (.iconst 1, 1) := by decide +kernel
theorem d_T_goesOn_31 : decode b_T_goesOn 31 = .ok (.goto 4, 3) := by decide +kernel
theorem d_T_goesOn_34 : decode b_T_goesOn 34 = .ok (.iconst 0, 1) := by decide +kernel
theorem d_T_goesOn_35 : decode b_T_goesOn 35 = .ok (.ireturn, 1) := by decide +kernel
theorem d_T_goesOn_36 : decode b_T_goesOn 36 = .ok (.iload_n 2, 1) := by decide +kernel
theorem d_T_goesOn_37 : decode b_T_goesOn 37 = .ok (.iconst 2, 1) := by decide +kernel
theorem d_T_goesOn_38 : decode b_T_goesOn 38 = .ok (.irem, 1) := by decide +kernel
theorem d_T_goesOn_39 : decode b_T_goesOn 39 = .ok (.iconst 1, 1) := by decide +kernel
theorem d_T_goesOn_40 : decode b_T_goesOn 40 = .ok (.if_icmp .ne 21, 3) := by decide +kernel
theorem d_T_goesOn_43 : decode b_T_goesOn 43 = .ok (.iload_n 3, 1) := by decide +kernel
theorem d_T_goesOn_44 : decode b_T_goesOn 44 = .ok (.bipush 48, 2) := by decide +kernel
theorem d_T_goesOn_46 : decode b_T_goesOn 46 = .ok (.if_icmp .lt 13, 3) := by decide +kernel
theorem d_T_goesOn_49 : decode b_T_goesOn 49 = .ok (.iload_n 3, 1) := by decide +kernel
theorem d_T_goesOn_50 : decode b_T_goesOn 50 = .ok (.bipush 57, 2) := by decide +kernel
theorem d_T_goesOn_52 : decode b_T_goesOn 52 = .ok (.if_icmp .gt 7, 3) := by decide +kernel
theorem d_T_goesOn_55 : decode b_T_goesOn 55 = .ok (.iconst 1, 1) := by decide +kernel
theorem d_T_goesOn_56 : decode b_T_goesOn 56 = .ok (.goto 4, 3) := by decide +kernel
theorem d_T_goesOn_59 : decode b_T_goesOn 59 = .ok (.iconst 0, 1) := by decide +kernel
theorem d_T_goesOn_60 : decode b_T_goesOn 60 = .ok (.ireturn, 1) := by decide +kernel
theorem d_T_goesOn_61 : decode b_T_goesOn 61 = .ok (.aload_n 0, 1) := by decide +kernel
theorem d_T_goesOn_62 : decode b_T_goesOn 62 = .ok (.getfield 19, 3) := by decide +kernel
theorem d_T_goesOn_65 : decode b_T_goesOn 65 = .ok (.iload_n 3, 1) := by decide +kernel
theorem d_T_goesOn_66 : decode b_T_goesOn 66 = .ok (.i2c, 1) := by decide +kernel
theorem d_T_goesOn_67 : decode b_T_goesOn 67 = .ok (.invokevirtual 30, 3) := by decide +kernel
theorem d_T_goesOn_70 : decode b_T_goesOn 70 = .ok (.ifCond .lt 7, 3) := by decide +kernel
theorem d_T_goesOn_73 : decode b_T_goesOn 73 = .ok (.iconst 1, 1) := by decide +kernel
theorem d_T_goesOn_74 : decode b_T_goesOn 74 = .ok (.goto 4, 3) := by decide +kernel
theorem d_T_goesOn_77 : decode b_T_goesOn 77 = .ok (.iconst 0, 1) := by decide +kernel
theorem d_T_goesOn_78 : decode b_T_goesOn 78 = .ok (.ireturn, 1) := by decide +kernel
theorem qf_T_15 : Cond.fieldLink nC6 15 (fC6 1).1 (fC6 1).2.1 (fC6 1).2.2.1 ∈ tbl := tbl_in 96 (by decide +kernel) rfl
theorem qf_T_19 : Cond.fieldLink nC6 19 (fC6 2).1 (fC6 2).2.1 (fC6 2).2.2.1 ∈ tbl := tbl_in 97 (by decide +kernel) rfl
theorem qm_T_30 : Cond.methodLink nC6 30 y_JS_indexOf1 ∈ tbl := tbl_in 355 (by decide +kernel) rfl
theorem mo_T_goesOn : MokV y_T_goesOn b_T_goesOn 4 (some .boolean) 1 := ⟨⟨(tbl_in 354 (by decide +kernel) rfl), (tbl_in 63 (by decide +kernel) rfl)⟩, ⟨(tbl_in 353 (by decide +kernel) rfl), tbl_lw _ (tbl_in 2 (by decide +kernel) rfl), (tbl_in 2 (by decide +kernel) rfl)⟩, ⟨by decide +kernel, by decide +kernel⟩, by decide +kernel⟩
def wp_T_goesOn (σ : Hp) (o0 : Nat) (a1 : Int32) (P : Int32 → Hp → Prop) : Prop :=
  (isT o0) ∧ (¬ (σ o0 1) = 0) ∧ (∀ v3 : Int32, v3 = a1 - a1 / (σ o0 1) * (σ o0 1) → (vp_in a1 (tlen o0)) ∧ (∀ v5 : Int32, v5 = σ (o0 + 13) (ix a1) → ((¬ v3 = ((σ o0 1) - (1 : Int32)) → ((¬ (v3 - v3 / (2 : Int32) * (2 : Int32)) = (1 : Int32) → wp_JS_indexOf1 σ (o0 + 49) ((v5.toUInt32 % 65536).toInt32) (fun (r8 : Int32) (t9 : Hp) => ((r8 < 0 → P (0 : Int32) t9) ∧ (¬ r8 < 0 → P (1 : Int32) t9)))) ∧ ((v3 - v3 / (2 : Int32) * (2 : Int32)) = (1 : Int32) → ((v5 < (48 : Int32) → P (0 : Int32) σ) ∧ (¬ v5 < (48 : Int32) → (((57 : Int32) < v5 → P (0 : Int32) σ) ∧ (¬ (57 : Int32) < v5 → P (1 : Int32) σ))))))) ∧ (v3 = ((σ o0 1) - (1 : Int32)) → ((¬ v5 = (59 : Int32) → P (0 : Int32) σ) ∧ (v5 = (59 : Int32) → P (1 : Int32) σ))))))
set_option maxHeartbeats 4000000 in
set_option maxRecDepth 100000 in
theorem w_T_goesOn (w : Wd) (σ : Hp) (o0 : Nat) (a1 : Int32) (P : Int32 → Hp → Prop) (h : wp_T_goesOn σ o0 a1 P) : CtI μC w y_T_goesOn b_T_goesOn 4 (some .boolean) 4 [.ref (w.1 o0), .int a1] σ P := by
  unfold wp_T_goesOn at h
  refine CtI.ofV (C := nC6) (lo := [some (.ref (w.1 o0)), some (.int a1), none, none]) exC (by decide +kernel) rfl rfl rfl (fun κ hC hR => ?_)
  obtain ⟨m1, h⟩ := h
  refine V.iload_n hC d_T_goesOn_0 rfl rfl ?_
  refine V.aload_n hC d_T_goesOn_1 rfl rfl ?_
  refine V.getI (j := 1) hC d_T_goesOn_2 (shT m1) rfl uC6 rfl rfl qf_T_15 ?_
  obtain ⟨z2, h⟩ := h
  refine V.irem hC d_T_goesOn_5 z2 ?_
  obtain ⟨v3, ev3⟩ : ∃ y : Int32, y = a1 - a1 / (σ o0 1) * (σ o0 1) := ⟨_, rfl⟩
  replace h := h v3 ev3
  refine V.istore_n (y := v3) (lo' := [some (.ref (w.1 o0)), some (.int a1), some (.int v3), none]) hC d_T_goesOn_6 rfl rfl ev3 rfl ?_
  refine V.aload_n hC d_T_goesOn_7 rfl rfl ?_
  refine V.getR (j := 0) hC d_T_goesOn_8 (shT m1) rfl uC6 rfl rfl qf_T_9 ?_
  refine V.iload_n hC d_T_goesOn_11 rfl rfl ?_
  obtain ⟨b4, h⟩ := h
  refine V.iald hC d_T_goesOn_12 (shTA m1) b4 ?_
  obtain ⟨v5, ev5⟩ : ∃ y : Int32, y = σ (o0 + 13) (ix a1) := ⟨_, rfl⟩
  replace h := h v5 ev5
  refine V.istore_n (y := v5) (lo' := [some (.ref (w.1 o0)), some (.int a1), some (.int v3), some (.int v5)]) hC d_T_goesOn_13 rfl rfl ev5 rfl ?_
  refine V.iload_n hC d_T_goesOn_14 rfl rfl ?_
  refine V.aload_n hC d_T_goesOn_15 rfl rfl ?_
  refine V.getI (j := 1) hC d_T_goesOn_16 (shT m1) rfl uC6 rfl rfl qf_T_15 ?_
  refine V.iconst (v := 1) hC d_T_goesOn_19 (by decide) ?_
  refine V.isub hC d_T_goesOn_20 ?_
  refine V.icmp_ne (tgt := 36) hC d_T_goesOn_21 (by decide) (fun c6 => ?_) (fun c6 => ?_)
  · replace h := h.1 c6
    refine V.iload_n hC d_T_goesOn_36 rfl rfl ?_
    refine V.iconst (v := 2) hC d_T_goesOn_37 (by decide) ?_
    refine V.irem hC d_T_goesOn_38 (by decide) ?_
    refine V.iconst (v := 1) hC d_T_goesOn_39 (by decide) ?_
    refine V.icmp_ne (tgt := 61) hC d_T_goesOn_40 (by decide) (fun c7 => ?_) (fun c7 => ?_)
    · replace h := h.1 c7
      refine V.aload_n hC d_T_goesOn_61 rfl rfl ?_
      refine V.getR (j := 2) hC d_T_goesOn_62 (shT m1) rfl uC6 rfl rfl qf_T_19 ?_
      refine V.iload_n hC d_T_goesOn_65 rfl rfl ?_
      refine V.i2c hC d_T_goesOn_66 ?_
      refine V.callXI hC exC (w_JS_indexOf1 w σ (o0 + 49) ((v5.toUInt32 % 65536).toInt32) _ h) d_T_goesOn_67 mo_JS_indexOf1 qm_T_30 (fun A U H z => (exStr w (isN_T m1) A U H z).1) rfl rfl rfl rfl (Nat.le_of_ble_eq_true rfl) (fun r8 t9 h => ?_)
      refine V.if_lt (tgt := 77) hC d_T_goesOn_70 (by decide) (fun c10 => ?_) (fun c10 => ?_)
      · replace h := h.1 c10
        refine V.iconst (v := 0) hC d_T_goesOn_77 (by decide) ?_
        exact hR _ _ _ _ h (by decide) d_T_goesOn_78
      · replace h := h.2 c10
        refine V.iconst (v := 1) hC d_T_goesOn_73 (by decide) ?_
        refine V.goto (tgt := 78) hC d_T_goesOn_74 (by decide) ?_
        exact hR _ _ _ _ h (by decide) d_T_goesOn_78
    · replace h := h.2 c7
      refine V.iload_n hC d_T_goesOn_43 rfl rfl ?_
      refine V.bipush (v := 48) hC d_T_goesOn_44 (by decide) ?_
      refine V.icmp_lt (tgt := 59) hC d_T_goesOn_46 (by decide) (fun c11 => ?_) (fun c11 => ?_)
      · replace h := h.1 c11
        refine V.iconst (v := 0) hC d_T_goesOn_59 (by decide) ?_
        exact hR _ _ _ _ h (by decide) d_T_goesOn_60
      · replace h := h.2 c11
        refine V.iload_n hC d_T_goesOn_49 rfl rfl ?_
        refine V.bipush (v := 57) hC d_T_goesOn_50 (by decide) ?_
        refine V.icmp_gt (tgt := 59) hC d_T_goesOn_52 (by decide) (fun c12 => ?_) (fun c12 => ?_)
        · replace h := h.1 c12
          refine V.iconst (v := 0) hC d_T_goesOn_59 (by decide) ?_
          exact hR _ _ _ _ h (by decide) d_T_goesOn_60
        · replace h := h.2 c12
          refine V.iconst (v := 1) hC d_T_goesOn_55 (by decide) ?_
          refine V.goto (tgt := 60) hC d_T_goesOn_56 (by decide) ?_
          exact hR _ _ _ _ h (by decide) d_T_goesOn_60
  · replace h := h.2 c6
    refine V.iload_n hC d_T_goesOn_24 rfl rfl ?_
    refine V.bipush (v := 59) hC d_T_goesOn_25 (by decide) ?_
    refine V.icmp_ne (tgt := 34) hC d_T_goesOn_27 (by decide) (fun c13 => ?_) (fun c13 => ?_)
    · replace h := h.1 c13
      refine V.iconst (v := 0) hC d_T_goesOn_34 (by decide) ?_
      exact hR _ _ _ _ h (by decide) d_T_goesOn_35
    · replace h := h.2 c13
      refine V.iconst (v := 1) hC d_T_goesOn_30 (by decide) ?_
      refine V.goto (tgt := 35) hC d_T_goesOn_31 (by decide) ?_
      exact hR _ _ _ _ h (by decide) d_T_goesOn_35
abbrev b_T_faultPlace : ByteArray := prog_8_method_4_code
def y_T_faultPlace : MethodName := ⟨nC6, "faultPlace", "()I"⟩
theorem d_T_faultPlace_0 : decode b_T_faultPlace 0 = .ok (.iconst 0, 1) := by decide +kernel
theorem d_T_faultPlace_1 : decode b_T_faultPlace 1 = .ok (.istore_n 1, 1) := by decide +kernel
theorem d_T_faultPlace_2 : decode b_T_faultPlace 2 = .ok (.iload_n 1, 1) := by decide +kernel
theorem d_T_faultPlace_3 : decode b_T_faultPlace 3 = .ok (.aload_n 0, 1) := by decide +kernel
theorem d_T_faultPlace_4 : decode b_T_faultPlace 4 = .ok (.getfield 23, 3) := by decide +kernel
theorem d_T_faultPlace_7 : decode b_T_faultPlace 7 = .ok (.if_icmp .ge 19, 3) := by decide +kernel
theorem d_T_faultPlace_10 : decode b_T_faultPlace 10 = .ok (.aload_n 0, 1) := by decide +kernel
theorem d_T_faultPlace_11 : decode b_T_faultPlace 11 = .ok (.iload_n 1, 1) := by decide +kernel
theorem d_T_faultPlace_12 : decode b_T_faultPlace 12 = .ok (.invokevirtual 26, 3) := by decide +kernel
theorem d_T_faultPlace_15 : decode b_T_faultPlace 15 = .ok (.ifCond .ne 5, 3) := by decide +kernel
theorem d_T_faultPlace_18 : decode b_T_faultPlace 18 = .ok (.iload_n 1, 1) := by decide +kernel
theorem d_T_faultPlace_19 : decode b_T_faultPlace 19 = .ok (.ireturn, 1) := by decide +kernel
theorem d_T_faultPlace_20 : decode b_T_faultPlace 20 = .ok (.iinc 1 1, 3) := by decide +kernel
theorem d_T_faultPlace_23 : decode b_T_faultPlace 23 = .ok (.goto (-21), 3) := by decide +kernel
theorem d_T_faultPlace_26 : decode b_T_faultPlace 26 = .ok (.aload_n 0, 1) := by decide +kernel
theorem d_T_faultPlace_27 : decode b_T_faultPlace 27 = .ok (.getfield 23, 3) := by decide +kernel
theorem d_T_faultPlace_30 : decode b_T_faultPlace 30 = .ok (.ifCond .eq 21, 3) := by decide +kernel
theorem d_T_faultPlace_33 : decode b_T_faultPlace 33 = .ok (.aload_n 0, 1) := by decide +kernel
theorem d_T_faultPlace_34 : decode b_T_faultPlace 34 = .ok (.getfield 23, 3) := by decide +kernel
theorem d_T_faultPlace_37 : decode b_T_faultPlace 37 = .ok (.aload_n 0, 1) := by decide +kernel
theorem d_T_faultPlace_38 : decode b_T_faultPlace 38 = .ok (.getfield 15, 3) := by decide +kernel
theorem d_T_faultPlace_41 : decode b_T_faultPlace 41 = .ok (.irem, 1) := by decide +kernel
theorem d_T_faultPlace_42 : decode b_T_faultPlace 42 = .ok (.aload_n 0, 1) := by decide +kernel
theorem d_T_faultPlace_43 : decode b_T_faultPlace 43 = .ok (.getfield 15, 3) := by decide +kernel
theorem d_T_faultPlace_46 : decode b_T_faultPlace 46 = .ok (.iconst 1, 1) := by decide +kernel
theorem d_T_faultPlace_47 : decode b_T_faultPlace 47 = .ok (.isub, 1) := by decide +kernel
theorem d_T_faultPlace_48 : decode b_T_faultPlace 48 = .ok (.if_icmp .ne 7, 3) := by decide +kernel
theorem d_T_faultPlace_51 : decode b_T_faultPlace 51 = .ok (.iconst 1, 1) := by decide +kernel
theorem d_T_faultPlace_52 : decode b_T_faultPlace 52 = .ok (.goto 4, 3) := by decide +kernel
theorem d_T_faultPlace_55 : decode b_T_faultPlace 55 = .ok (.iconst 0, 1) := by decide +kernel
theorem d_T_faultPlace_56 : decode b_T_faultPlace 56 = .ok (.istore_n 1, 1) := by decide +kernel
theorem d_T_faultPlace_57 : decode b_T_faultPlace 57 = .ok (.iload_n 1, 1) := by decide +kernel
theorem d_T_faultPlace_58 : decode b_T_faultPlace 58 = .ok (.ifCond .eq 7, 3) := by decide +kernel
theorem d_T_faultPlace_61 : decode b_T_faultPlace 61 = .ok (.iconst (-1), 1) := by decide +kernel
theorem d_T_faultPlace_62 : decode b_T_faultPlace 62 = .ok (.goto 7, 3) := by decide +kernel
theorem d_T_faultPlace_65 : decode b_T_faultPlace 65 = .ok (.aload_n 0, 1) := by decide +kernel
theorem d_T_faultPlace_66 : decode b_T_faultPlace 66 = .ok (.getfield 23, 3) := by decide +kernel
theorem d_T_faultPlace_69 : decode b_T_faultPlace 69 = .ok (.ireturn, 1) := by decide +kernel
theorem qm_T_26 : Cond.methodLink nC6 26 y_T_goesOn ∈ tbl := tbl_in 351 (by decide +kernel) rfl
theorem mo_T_faultPlace : MokV y_T_faultPlace b_T_faultPlace 2 (some .int) 0 := ⟨⟨(tbl_in 350 (by decide +kernel) rfl), (tbl_in 63 (by decide +kernel) rfl)⟩, ⟨(tbl_in 348 (by decide +kernel) rfl), tbl_lw _ (tbl_in 349 (by decide +kernel) rfl), (tbl_in 349 (by decide +kernel) rfl)⟩, ⟨by decide +kernel, by decide +kernel⟩, by decide +kernel⟩
def j_T_faultPlace_56 (P : Int32 → Hp → Prop)  (σ : Hp) (x0 : Nat) (s0 : Int32) : Prop :=
  (isT x0) ∧ ((s0 = 0 → P (σ x0 3) σ) ∧ (¬ s0 = 0 → P (-1 : Int32) σ))
def j_T_faultPlace_51 (P : Int32 → Hp → Prop)  (σ : Hp) (x0 : Nat) : Prop :=
  (isT x0) ∧ j_T_faultPlace_56 P σ x0 (1 : Int32)
def b_T_faultPlace_2_ (P : Int32 → Hp → Prop)  (I2 : Hp → Nat → Int32 → Prop) (σ : Hp) (x0 : Nat) (x1 : Int32) : Prop :=
  (isT x0) ∧ (((σ x0 3) ≤ x1 → (((σ x0 3) = 0 → j_T_faultPlace_51 P σ x0) ∧ (¬ (σ x0 3) = 0 → (¬ (σ x0 1) = 0) ∧ ((¬ ((σ x0 3) - (σ x0 3) / (σ x0 1) * (σ x0 1)) = ((σ x0 1) - (1 : Int32)) → j_T_faultPlace_56 P σ x0 (0 : Int32)) ∧ (((σ x0 3) - (σ x0 3) / (σ x0 1) * (σ x0 1)) = ((σ x0 1) - (1 : Int32)) → j_T_faultPlace_51 P σ x0))))) ∧ (¬ (σ x0 3) ≤ x1 → wp_T_goesOn σ x0 x1 (fun (r9 : Int32) (t10 : Hp) => ((¬ r9 = 0 → (∀ v12 : Int32, v12 = x1 + (1 : Int32) → I2 t10 x0 v12)) ∧ (r9 = 0 → P x1 t10)))))
def j_T_faultPlace_2 (P : Int32 → Hp → Prop)  (σ : Hp) (x0 : Nat) (x1 : Int32) : Prop := ∀ I2 : Hp → Nat → Int32 → Prop, (∀ (σ : Hp) (x0 : Nat) (x1 : Int32), b_T_faultPlace_2_  P  I2 σ x0 x1 → I2 σ x0 x1) → I2 σ x0 x1
def wp_T_faultPlace (σ : Hp) (o0 : Nat) (P : Int32 → Hp → Prop) : Prop :=
  (isT o0) ∧ j_T_faultPlace_2 P σ o0 (0 : Int32)
set_option maxHeartbeats 4000000 in
set_option maxRecDepth 100000 in
theorem wj_T_faultPlace_56 {w : Wd} {κ : Kx} {P : Int32 → Hp → Prop} (hC : Cx μC w 2 κ nC6 b_T_faultPlace 5) (hR : RtI μC w 2 κ b_T_faultPlace .int P)  : ∀ (σ : Hp) (x0 : Nat) (s0 : Int32), j_T_faultPlace_56  P  σ x0 s0 → V μC w 2 κ σ [some (.ref (w.1 x0)), none] 56 [.int s0] := by
  intro σ x0 s0 h
  unfold j_T_faultPlace_56 at h
  obtain ⟨m1, h⟩ := h
  refine V.istore_n (y := s0) (lo' := [some (.ref (w.1 x0)), some (.int s0)]) hC d_T_faultPlace_56 rfl rfl rfl rfl ?_
  refine V.iload_n hC d_T_faultPlace_57 rfl rfl ?_
  refine V.if_eq (tgt := 65) hC d_T_faultPlace_58 (by decide) (fun c2 => ?_) (fun c2 => ?_)
  · replace h := h.1 c2
    refine V.aload_n hC d_T_faultPlace_65 rfl rfl ?_
    refine V.getI (j := 3) hC d_T_faultPlace_66 (shT m1) rfl uC6 rfl rfl qf_T_23 ?_
    exact hR _ _ _ _ h rfl d_T_faultPlace_69
  · replace h := h.2 c2
    refine V.iconst (v := -1) hC d_T_faultPlace_61 (by decide) ?_
    refine V.goto (tgt := 69) hC d_T_faultPlace_62 (by decide) ?_
    exact hR _ _ _ _ h rfl d_T_faultPlace_69
set_option maxHeartbeats 4000000 in
set_option maxRecDepth 100000 in
theorem wj_T_faultPlace_51 {w : Wd} {κ : Kx} {P : Int32 → Hp → Prop} (hC : Cx μC w 2 κ nC6 b_T_faultPlace 5) (hR : RtI μC w 2 κ b_T_faultPlace .int P)  : ∀ (σ : Hp) (x0 : Nat), j_T_faultPlace_51  P  σ x0 → V μC w 2 κ σ [some (.ref (w.1 x0)), none] 51 [] := by
  intro σ x0 h
  unfold j_T_faultPlace_51 at h
  obtain ⟨m3, h⟩ := h
  refine V.iconst (v := 1) hC d_T_faultPlace_51 (by decide) ?_
  refine V.goto (tgt := 56) hC d_T_faultPlace_52 (by decide) ?_
  exact V.msk [true, false] rfl (wj_T_faultPlace_56  hC hR  σ x0 (1 : Int32) h)
set_option maxHeartbeats 4000000 in
set_option maxRecDepth 100000 in
theorem wj_T_faultPlace_2 {w : Wd} {κ : Kx} {P : Int32 → Hp → Prop} (hC : Cx μC w 2 κ nC6 b_T_faultPlace 5) (hR : RtI μC w 2 κ b_T_faultPlace .int P)  : ∀ (σ : Hp) (x0 : Nat) (x1 : Int32), j_T_faultPlace_2  P  σ x0 x1 → V μC w 2 κ σ [some (.ref (w.1 x0)), some (.int x1)] 2 [] := by
  intro σ x0 x1 h
  refine h (fun σ x0 x1 => V μC w 2 κ σ [some (.ref (w.1 x0)), some (.int x1)] 2 []) (fun σ x0 x1 h => ?_)
  unfold b_T_faultPlace_2_ at h
  obtain ⟨m4, h⟩ := h
  refine V.iload_n hC d_T_faultPlace_2 rfl rfl ?_
  refine V.aload_n hC d_T_faultPlace_3 rfl rfl ?_
  refine V.getI (j := 3) hC d_T_faultPlace_4 (shT m4) rfl uC6 rfl rfl qf_T_23 ?_
  refine V.icmp_ge (tgt := 26) hC d_T_faultPlace_7 (by decide) (fun c5 => ?_) (fun c5 => ?_)
  · replace h := h.1 c5
    refine V.aload_n hC d_T_faultPlace_26 rfl rfl ?_
    refine V.getI (j := 3) hC d_T_faultPlace_27 (shT m4) rfl uC6 rfl rfl qf_T_23 ?_
    refine V.if_eq (tgt := 51) hC d_T_faultPlace_30 (by decide) (fun c6 => ?_) (fun c6 => ?_)
    · replace h := h.1 c6
      exact V.msk [true, false] rfl (wj_T_faultPlace_51  hC hR  σ x0 h)
    · replace h := h.2 c6
      refine V.aload_n hC d_T_faultPlace_33 rfl rfl ?_
      refine V.getI (j := 3) hC d_T_faultPlace_34 (shT m4) rfl uC6 rfl rfl qf_T_23 ?_
      refine V.aload_n hC d_T_faultPlace_37 rfl rfl ?_
      refine V.getI (j := 1) hC d_T_faultPlace_38 (shT m4) rfl uC6 rfl rfl qf_T_15 ?_
      obtain ⟨z7, h⟩ := h
      refine V.irem hC d_T_faultPlace_41 z7 ?_
      refine V.aload_n hC d_T_faultPlace_42 rfl rfl ?_
      refine V.getI (j := 1) hC d_T_faultPlace_43 (shT m4) rfl uC6 rfl rfl qf_T_15 ?_
      refine V.iconst (v := 1) hC d_T_faultPlace_46 (by decide) ?_
      refine V.isub hC d_T_faultPlace_47 ?_
      refine V.icmp_ne (tgt := 55) hC d_T_faultPlace_48 (by decide) (fun c8 => ?_) (fun c8 => ?_)
      · replace h := h.1 c8
        refine V.iconst (v := 0) hC d_T_faultPlace_55 (by decide) ?_
        exact V.msk [true, false] rfl (wj_T_faultPlace_56  hC hR  σ x0 (0 : Int32) h)
      · replace h := h.2 c8
        exact V.msk [true, false] rfl (wj_T_faultPlace_51  hC hR  σ x0 h)
  · replace h := h.2 c5
    refine V.aload_n hC d_T_faultPlace_10 rfl rfl ?_
    refine V.iload_n hC d_T_faultPlace_11 rfl rfl ?_
    refine V.callVI hC exC (w_T_goesOn w σ x0 x1 _ h) d_T_faultPlace_12 mo_T_goesOn qm_T_26 (shT m4) rfl rfl rfl rfl rfl rfl (Nat.le_of_ble_eq_true rfl) (fun r9 t10 h => ?_)
    refine V.if_ne (tgt := 20) hC d_T_faultPlace_15 (by decide) (fun c11 => ?_) (fun c11 => ?_)
    · replace h := h.1 c11
      obtain ⟨v12, ev12⟩ : ∃ y : Int32, y = x1 + (1 : Int32) := ⟨_, rfl⟩
      replace h := h v12 ev12
      refine V.iinc (y := v12) (lo' := [some (.ref (w.1 x0)), some (.int v12)]) hC d_T_faultPlace_20 rfl rfl (show v12 = _ + Int32.ofInt (1) from ev12) rfl ?_
      refine V.goto (tgt := 2) hC d_T_faultPlace_23 (by decide) ?_
      exact V.msk [true, true] rfl h
    · replace h := h.2 c11
      refine V.iload_n hC d_T_faultPlace_18 rfl rfl ?_
      exact hR _ _ _ _ h rfl d_T_faultPlace_19
set_option maxHeartbeats 4000000 in
set_option maxRecDepth 100000 in
theorem w_T_faultPlace (w : Wd) (σ : Hp) (o0 : Nat) (P : Int32 → Hp → Prop) (h : wp_T_faultPlace σ o0 P) : CtI μC w y_T_faultPlace b_T_faultPlace 2 (some .int) 5 [.ref (w.1 o0)] σ P := by
  unfold wp_T_faultPlace at h
  refine CtI.ofV (C := nC6) (lo := [some (.ref (w.1 o0)), none]) exC (by decide +kernel) rfl rfl rfl (fun κ hC hR => ?_)
  obtain ⟨m13, h⟩ := h
  refine V.iconst (v := 0) hC d_T_faultPlace_0 (by decide) ?_
  refine V.istore_n (y := (0 : Int32)) (lo' := [some (.ref (w.1 o0)), some (.int (0 : Int32))]) hC d_T_faultPlace_1 rfl rfl rfl rfl ?_
  exact V.msk [true, true] rfl (wj_T_faultPlace_2  hC hR  σ o0 (0 : Int32) h)
abbrev b_T_rows : ByteArray := prog_8_method_6_code
def y_T_rows : MethodName := ⟨nC6, "rows", "()I"⟩
theorem d_T_rows_0 : decode b_T_rows 0 = .ok (.aload_n 0, 1) := by decide +kernel
theorem d_T_rows_1 : decode b_T_rows 1 = .ok (.invokevirtual 36, 3) := by decide +kernel
theorem d_T_rows_4 : decode b_T_rows 4 = .ok (.iconst (-1), 1) := by decide +kernel
theorem d_T_rows_5 : decode b_T_rows 5 = .ok (.if_icmp .ne 17, 3) := by decide +kernel
theorem d_T_rows_8 : decode b_T_rows 8 = .ok (.aload_n 0, 1) := by decide +kernel
theorem d_T_rows_9 : decode b_T_rows 9 = .ok (.getfield 23, 3) := by decide +kernel
theorem d_T_rows_12 : decode b_T_rows 12 = .ok (.iconst 1, 1) := by decide +kernel
theorem d_T_rows_13 : decode b_T_rows 13 = .ok (.iadd, 1) := by decide +kernel
theorem d_T_rows_14 : decode b_T_rows 14 = .ok (.aload_n 0, 1) := by decide +kernel
theorem d_T_rows_15 : decode b_T_rows 15 = .ok (.getfield 15, 3) := by decide +kernel
theorem d_T_rows_18 : decode b_T_rows 18 = .ok (.idiv, 1) := by decide +kernel
theorem d_T_rows_19 : decode b_T_rows 19 = .ok (.goto 4, 3) := by decide +kernel
theorem d_T_rows_22 : decode b_T_rows 22 = .ok (.iconst 0, 1) := by decide +kernel
theorem d_T_rows_23 : decode b_T_rows 23 = .ok (.ireturn, 1) := by decide +kernel
theorem qm_T_36 : Cond.methodLink nC6 36 y_T_faultPlace ∈ tbl := tbl_in 347 (by decide +kernel) rfl
theorem mo_T_rows : MokV y_T_rows b_T_rows 1 (some .int) 0 := ⟨⟨(tbl_in 346 (by decide +kernel) rfl), (tbl_in 63 (by decide +kernel) rfl)⟩, ⟨(tbl_in 344 (by decide +kernel) rfl), tbl_lw _ (tbl_in 345 (by decide +kernel) rfl), (tbl_in 345 (by decide +kernel) rfl)⟩, ⟨by decide +kernel, by decide +kernel⟩, by decide +kernel⟩
def wp_T_rows (σ : Hp) (o0 : Nat) (P : Int32 → Hp → Prop) : Prop :=
  (isT o0) ∧ wp_T_faultPlace σ o0 (fun (r2 : Int32) (t3 : Hp) => ((¬ r2 = (-1 : Int32) → P (0 : Int32) t3) ∧ (r2 = (-1 : Int32) → (¬ (t3 o0 1) = 0) ∧ P (((t3 o0 3) + (1 : Int32)) / (t3 o0 1)) t3)))
set_option maxHeartbeats 4000000 in
set_option maxRecDepth 100000 in
theorem w_T_rows (w : Wd) (σ : Hp) (o0 : Nat) (P : Int32 → Hp → Prop) (h : wp_T_rows σ o0 P) : CtI μC w y_T_rows b_T_rows 1 (some .int) 6 [.ref (w.1 o0)] σ P := by
  unfold wp_T_rows at h
  refine CtI.ofV (C := nC6) (lo := [some (.ref (w.1 o0))]) exC (by decide +kernel) rfl rfl rfl (fun κ hC hR => ?_)
  obtain ⟨m1, h⟩ := h
  refine V.aload_n hC d_T_rows_0 rfl rfl ?_
  refine V.callVI hC exC (w_T_faultPlace w σ o0 _ h) d_T_rows_1 mo_T_faultPlace qm_T_36 (shT m1) rfl rfl rfl rfl rfl rfl (Nat.le_of_ble_eq_true rfl) (fun r2 t3 h => ?_)
  refine V.iconst (v := -1) hC d_T_rows_4 (by decide) ?_
  refine V.icmp_ne (tgt := 22) hC d_T_rows_5 (by decide) (fun c4 => ?_) (fun c4 => ?_)
  · replace h := h.1 c4
    refine V.iconst (v := 0) hC d_T_rows_22 (by decide) ?_
    exact hR _ _ _ _ h rfl d_T_rows_23
  · replace h := h.2 c4
    refine V.aload_n hC d_T_rows_8 rfl rfl ?_
    refine V.getI (j := 3) hC d_T_rows_9 (shT m1) rfl uC6 rfl rfl qf_T_23 ?_
    refine V.iconst (v := 1) hC d_T_rows_12 (by decide) ?_
    refine V.iadd hC d_T_rows_13 ?_
    refine V.aload_n hC d_T_rows_14 rfl rfl ?_
    refine V.getI (j := 1) hC d_T_rows_15 (shT m1) rfl uC6 rfl rfl qf_T_15 ?_
    obtain ⟨z5, h⟩ := h
    refine V.idiv hC d_T_rows_18 z5 ?_
    refine V.goto (tgt := 23) hC d_T_rows_19 (by decide) ?_
    exact hR _ _ _ _ h rfl d_T_rows_23
abbrev b_T_kindAt : ByteArray := prog_8_method_7_code
def y_T_kindAt : MethodName := ⟨nC6, "kindAt", "(II)I"⟩
theorem d_T_kindAt_0 : decode b_T_kindAt 0 = .ok (.aload_n 0, 1) := by decide +kernel
theorem d_T_kindAt_1 : decode b_T_kindAt 1 = .ok (.getfield 19, 3) := by decide +kernel
theorem d_T_kindAt_4 : decode b_T_kindAt 4 = .ok (.aload_n 0, 1) := by decide +kernel
theorem d_T_kindAt_5 : decode b_T_kindAt 5 = .ok (.getfield 9, 3) := by decide +kernel
theorem d_T_kindAt_8 : decode b_T_kindAt 8 = .ok (.iload_n 1, 1) := by decide +kernel
theorem d_T_kindAt_9 : decode b_T_kindAt 9 = .ok (.aload_n 0, 1) := by decide +kernel
theorem d_T_kindAt_10 : decode b_T_kindAt 10 = .ok (.getfield 15, 3) := by decide +kernel
theorem d_T_kindAt_13 : decode b_T_kindAt 13 = .ok (.imul, 1) := by decide +kernel
theorem d_T_kindAt_14 : decode b_T_kindAt 14 = .ok (.iload_n 2, 1) := by decide +kernel
theorem d_T_kindAt_15 : decode b_T_kindAt 15 = .ok (.iadd, 1) := by decide +kernel
theorem d_T_kindAt_16 : decode b_T_kindAt 16 = .ok (.iaload, 1) := by decide +kernel
theorem d_T_kindAt_17 : decode b_T_kindAt 17 = .ok (.i2c, 1) := by decide +kernel
theorem d_T_kindAt_18 : decode b_T_kindAt 18 = .ok (.invokevirtual 30, 3) := by decide +kernel
theorem d_T_kindAt_21 : decode b_T_kindAt 21 = .ok (.ireturn, 1) := by decide +kernel
theorem mo_T_kindAt : MokV y_T_kindAt b_T_kindAt 3 (some .int) 2 := ⟨⟨(tbl_in 445 (by decide +kernel) rfl), (tbl_in 63 (by decide +kernel) rfl)⟩, ⟨(tbl_in 443 (by decide +kernel) rfl), tbl_lw _ (tbl_in 444 (by decide +kernel) rfl), (tbl_in 444 (by decide +kernel) rfl)⟩, ⟨by decide +kernel, by decide +kernel⟩, by decide +kernel⟩
def wp_T_kindAt (σ : Hp) (o0 : Nat) (a1 : Int32) (a2 : Int32) (P : Int32 → Hp → Prop) : Prop :=
  (isT o0) ∧ (vp_in ((a1 * (σ o0 1)) + a2) (tlen o0)) ∧ wp_JS_indexOf1 σ (o0 + 49) (((σ (o0 + 13) (ix ((a1 * (σ o0 1)) + a2))).toUInt32 % 65536).toInt32) (fun (r3 : Int32) (t4 : Hp) => P r3 t4)
set_option maxHeartbeats 4000000 in
set_option maxRecDepth 100000 in
theorem w_T_kindAt (w : Wd) (σ : Hp) (o0 : Nat) (a1 : Int32) (a2 : Int32) (P : Int32 → Hp → Prop) (h : wp_T_kindAt σ o0 a1 a2 P) : CtI μC w y_T_kindAt b_T_kindAt 3 (some .int) 4 [.ref (w.1 o0), .int a1, .int a2] σ P := by
  unfold wp_T_kindAt at h
  refine CtI.ofV (C := nC6) (lo := [some (.ref (w.1 o0)), some (.int a1), some (.int a2)]) exC (by decide +kernel) rfl rfl rfl (fun κ hC hR => ?_)
  obtain ⟨m1, h⟩ := h
  refine V.aload_n hC d_T_kindAt_0 rfl rfl ?_
  refine V.getR (j := 2) hC d_T_kindAt_1 (shT m1) rfl uC6 rfl rfl qf_T_19 ?_
  refine V.aload_n hC d_T_kindAt_4 rfl rfl ?_
  refine V.getR (j := 0) hC d_T_kindAt_5 (shT m1) rfl uC6 rfl rfl qf_T_9 ?_
  refine V.iload_n hC d_T_kindAt_8 rfl rfl ?_
  refine V.aload_n hC d_T_kindAt_9 rfl rfl ?_
  refine V.getI (j := 1) hC d_T_kindAt_10 (shT m1) rfl uC6 rfl rfl qf_T_15 ?_
  refine V.imul hC d_T_kindAt_13 ?_
  refine V.iload_n hC d_T_kindAt_14 rfl rfl ?_
  refine V.iadd hC d_T_kindAt_15 ?_
  obtain ⟨b2, h⟩ := h
  refine V.iald hC d_T_kindAt_16 (shTA m1) b2 ?_
  refine V.i2c hC d_T_kindAt_17 ?_
  refine V.callXI hC exC (w_JS_indexOf1 w σ (o0 + 49) (((σ (o0 + 13) (ix ((a1 * (σ o0 1)) + a2))).toUInt32 % 65536).toInt32) _ h) d_T_kindAt_18 mo_JS_indexOf1 qm_T_30 (fun A U H z => (exStr w (isN_T m1) A U H z).1) rfl rfl rfl rfl (Nat.le_of_ble_eq_true rfl) (fun r3 t4 h => ?_)
  exact hR _ _ _ _ h rfl d_T_kindAt_21
abbrev b_T_figureAt : ByteArray := prog_8_method_8_code
def y_T_figureAt : MethodName := ⟨nC6, "figureAt", "(II)I"⟩
theorem d_T_figureAt_0 : decode b_T_figureAt 0 = .ok (.aload_n 0, 1) := by decide +kernel
theorem d_T_figureAt_1 : decode b_T_figureAt 1 = .ok (.getfield 9, 3) := by decide +kernel
theorem d_T_figureAt_4 : decode b_T_figureAt 4 = .ok (.iload_n 1, 1) := by decide +kernel
theorem d_T_figureAt_5 : decode b_T_figureAt 5 = .ok (.aload_n 0, 1) := by decide +kernel
theorem d_T_figureAt_6 : decode b_T_figureAt 6 = .ok (.getfield 15, 3) := by decide +kernel
theorem d_T_figureAt_9 : decode b_T_figureAt 9 = .ok (.imul, 1) := by decide +kernel
theorem d_T_figureAt_10 : decode b_T_figureAt 10 = .ok (.iload_n 2, 1) := by decide +kernel
theorem d_T_figureAt_11 : decode b_T_figureAt 11 = .ok (.iadd, 1) := by decide +kernel
theorem d_T_figureAt_12 : decode b_T_figureAt 12 = .ok (.iaload, 1) := by decide +kernel
theorem d_T_figureAt_13 : decode b_T_figureAt 13 = .ok (.bipush 48, 2) := by decide +kernel
theorem d_T_figureAt_15 : decode b_T_figureAt 15 = .ok (.isub, 1) := by decide +kernel
theorem d_T_figureAt_16 : decode b_T_figureAt 16 = .ok (.ireturn, 1) := by decide +kernel
theorem mo_T_figureAt : MokV y_T_figureAt b_T_figureAt 3 (some .int) 2 := ⟨⟨(tbl_in 449 (by decide +kernel) rfl), (tbl_in 63 (by decide +kernel) rfl)⟩, ⟨(tbl_in 447 (by decide +kernel) rfl), tbl_lw _ (tbl_in 448 (by decide +kernel) rfl), (tbl_in 448 (by decide +kernel) rfl)⟩, ⟨by decide +kernel, by decide +kernel⟩, by decide +kernel⟩
def wp_T_figureAt (σ : Hp) (o0 : Nat) (a1 : Int32) (a2 : Int32) (P : Int32 → Hp → Prop) : Prop :=
  (isT o0) ∧ (vp_in ((a1 * (σ o0 1)) + a2) (tlen o0)) ∧ P ((σ (o0 + 13) (ix ((a1 * (σ o0 1)) + a2))) - (48 : Int32)) σ
set_option maxHeartbeats 4000000 in
set_option maxRecDepth 100000 in
theorem w_T_figureAt (w : Wd) (σ : Hp) (o0 : Nat) (a1 : Int32) (a2 : Int32) (P : Int32 → Hp → Prop) (h : wp_T_figureAt σ o0 a1 a2 P) : CtI μC w y_T_figureAt b_T_figureAt 3 (some .int) 0 [.ref (w.1 o0), .int a1, .int a2] σ P := by
  unfold wp_T_figureAt at h
  refine CtI.ofV (C := nC6) (lo := [some (.ref (w.1 o0)), some (.int a1), some (.int a2)]) exC (by decide +kernel) rfl rfl rfl (fun κ hC hR => ?_)
  obtain ⟨m1, h⟩ := h
  refine V.aload_n hC d_T_figureAt_0 rfl rfl ?_
  refine V.getR (j := 0) hC d_T_figureAt_1 (shT m1) rfl uC6 rfl rfl qf_T_9 ?_
  refine V.iload_n hC d_T_figureAt_4 rfl rfl ?_
  refine V.aload_n hC d_T_figureAt_5 rfl rfl ?_
  refine V.getI (j := 1) hC d_T_figureAt_6 (shT m1) rfl uC6 rfl rfl qf_T_15 ?_
  refine V.imul hC d_T_figureAt_9 ?_
  refine V.iload_n hC d_T_figureAt_10 rfl rfl ?_
  refine V.iadd hC d_T_figureAt_11 ?_
  obtain ⟨b2, h⟩ := h
  refine V.iald hC d_T_figureAt_12 (shTA m1) b2 ?_
  refine V.bipush (v := 48) hC d_T_figureAt_13 (by decide) ?_
  refine V.isub hC d_T_figureAt_15 ?_
  exact hR _ _ _ _ h rfl d_T_figureAt_16
abbrev b_U_takeHouses : ByteArray := prog_7_method_2_code
def y_U_takeHouses : MethodName := ⟨nC5, "takeHouses", "(LSoundPaid$Text;)V"⟩
theorem d_U_takeHouses_0 : decode b_U_takeHouses 0 = .ok (.aload_n 0, 1) := by decide +kernel
theorem d_U_takeHouses_1 : decode b_U_takeHouses 1 = .ok (.aload_n 1, 1) := by decide +kernel
theorem d_U_takeHouses_2 : decode b_U_takeHouses 2 = .ok (.invokevirtual 30, 3) := by decide +kernel
theorem d_U_takeHouses_5 : decode b_U_takeHouses 5 = .ok (.bipush 8, 2) := by decide +kernel
theorem d_U_takeHouses_7 : decode b_U_takeHouses 7 = .ok (.invokestatic 36, 3) := by decide +kernel
theorem d_U_takeHouses_10 : decode b_U_takeHouses 10 = .ok (.putfield 42, 3) := by decide +kernel
theorem d_U_takeHouses_13 : decode b_U_takeHouses 13 = .ok (.iconst 0, 1) := by decide +kernel
theorem d_U_takeHouses_14 : decode b_U_takeHouses 14 = .ok (.istore_n 2, 1) := by decide +kernel
theorem d_U_takeHouses_15 : decode b_U_takeHouses 15 = .ok (.iload_n 2, 1) := by decide +kernel
theorem d_U_takeHouses_16 : decode b_U_takeHouses 16 = .ok (.aload_n 0, 1) := by decide +kernel
theorem d_U_takeHouses_17 : decode b_U_takeHouses 17 = .ok (.getfield 42, 3) := by decide +kernel
theorem d_U_takeHouses_20 : decode b_U_takeHouses 20 = .ok (.if_icmp .ge 57, 3) := by decide +kernel
theorem d_U_takeHouses_23 : decode b_U_takeHouses 23 = .ok (.aload_n 0, 1) := by decide +kernel
theorem d_U_takeHouses_24 : decode b_U_takeHouses 24 = .ok (.getfield 9, 3) := by decide +kernel
theorem d_U_takeHouses_27 : decode b_U_takeHouses 27 = .ok (.iload_n 2, 1) := by decide +kernel
theorem d_U_takeHouses_28 : decode b_U_takeHouses 28 = .ok (.aload_n 1, 1) := by decide +kernel
theorem d_U_takeHouses_29 : decode b_U_takeHouses 29 = .ok (.iload_n 2, 1) := by decide +kernel
theorem d_U_takeHouses_30 : decode b_U_takeHouses 30 = .ok (.iconst 0, 1) := by decide +kernel
theorem d_U_takeHouses_31 : decode b_U_takeHouses 31 = .ok (.invokevirtual 46, 3) := by decide +kernel
theorem d_U_takeHouses_34 : decode b_U_takeHouses 34 = .ok (.iastore, 1) := by decide +kernel
theorem d_U_takeHouses_35 : decode b_U_takeHouses 35 = .ok (.aload_n 0, 1) := by decide +kernel
theorem d_U_takeHouses_36 : decode b_U_takeHouses 36 = .ok (.getfield 15, 3) := by decide +kernel
theorem d_U_takeHouses_39 : decode b_U_takeHouses 39 = .ok (.iload_n 2, 1) := by decide +kernel
theorem d_U_takeHouses_40 : decode b_U_takeHouses 40 = .ok (.aload_n 1, 1) := by decide +kernel
theorem d_U_takeHouses_41 : decode b_U_takeHouses 41 = .ok (.iload_n 2, 1) := by decide +kernel
theorem d_U_takeHouses_42 : decode b_U_takeHouses 42 = .ok (.iconst 1, 1) := by decide +kernel
theorem d_U_takeHouses_43 : decode b_U_takeHouses 43 = .ok (.invokevirtual 49, 3) := by decide +kernel
theorem d_U_takeHouses_46 : decode b_U_takeHouses 46 = .ok (.iastore, 1) := by decide +kernel
theorem d_U_takeHouses_47 : decode b_U_takeHouses 47 = .ok (.aload_n 0, 1) := by decide +kernel
theorem d_U_takeHouses_48 : decode b_U_takeHouses 48 = .ok (.getfield 18, 3) := by decide +kernel
theorem d_U_takeHouses_51 : decode b_U_takeHouses 51 = .ok (.iload_n 2, 1) := by decide +kernel
theorem d_U_takeHouses_52 : decode b_U_takeHouses 52 = .ok (.aload_n 1, 1) := by decide +kernel
theorem d_U_takeHouses_53 : decode b_U_takeHouses 53 = .ok (.iload_n 2, 1) := by decide +kernel
theorem d_U_takeHouses_54 : decode b_U_takeHouses 54 = .ok (.iconst 2, 1) := by decide +kernel
theorem d_U_takeHouses_55 : decode b_U_takeHouses 55 = .ok (.invokevirtual 46, 3) := by decide +kernel
theorem d_U_takeHouses_58 : decode b_U_takeHouses 58 = .ok (.iastore, 1) := by decide +kernel
theorem d_U_takeHouses_59 : decode b_U_takeHouses 59 = .ok (.aload_n 0, 1) := by decide +kernel
theorem d_U_takeHouses_60 : decode b_U_takeHouses 60 = .ok (.getfield 21, 3) := by decide +kernel
theorem d_U_takeHouses_63 : decode b_U_takeHouses 63 = .ok (.iload_n 2, 1) := by decide +kernel
theorem d_U_takeHouses_64 : decode b_U_takeHouses 64 = .ok (.aload_n 1, 1) := by decide +kernel
theorem d_U_takeHouses_65 : decode b_U_takeHouses 65 = .ok (.iload_n 2, 1) := by decide +kernel
theorem d_U_takeHouses_66 : decode b_U_takeHouses 66 = .ok (.iconst 3, 1) := by decide +kernel
theorem d_U_takeHouses_67 : decode b_U_takeHouses 67 = .ok (.invokevirtual 49, 3) := by decide +kernel
theorem d_U_takeHouses_70 : decode b_U_takeHouses 70 = .ok (.iastore, 1) := by decide +kernel
theorem d_U_takeHouses_71 : decode b_U_takeHouses 71 = .ok (.iinc 2 1, 3) := by decide +kernel
theorem d_U_takeHouses_74 : decode b_U_takeHouses 74 = .ok (.goto (-59), 3) := by decide +kernel
theorem d_U_takeHouses_77 : decode b_U_takeHouses 77 = .ok (.return_, 1) := by decide +kernel
theorem qf_U_15 : Cond.fieldLink nC5 15 (fC5 1).1 (fC5 1).2.1 (fC5 1).2.2.1 ∈ tbl := tbl_in 126 (by decide +kernel) rfl
theorem qf_U_18 : Cond.fieldLink nC5 18 (fC5 2).1 (fC5 2).2.1 (fC5 2).2.2.1 ∈ tbl := tbl_in 128 (by decide +kernel) rfl
theorem qf_U_21 : Cond.fieldLink nC5 21 (fC5 3).1 (fC5 3).2.1 (fC5 3).2.2.1 ∈ tbl := tbl_in 130 (by decide +kernel) rfl
theorem qf_U_42 : Cond.fieldLink nC5 42 (fC5 6).1 (fC5 6).2.1 (fC5 6).2.2.1 ∈ tbl := tbl_in 137 (by decide +kernel) rfl
theorem qf_U_9 : Cond.fieldLink nC5 9 (fC5 0).1 (fC5 0).2.1 (fC5 0).2.2.1 ∈ tbl := tbl_in 124 (by decide +kernel) rfl
theorem qm_U_30 : Cond.methodLink nC5 30 y_T_rows ∈ tbl := tbl_in 343 (by decide +kernel) rfl
theorem qm_U_36 : Cond.methodLink nC5 36 Lib.Math.min.name ∈ tbl := tbl_in 441 (by decide +kernel) rfl
theorem qm_U_46 : Cond.methodLink nC5 46 y_T_kindAt ∈ tbl := tbl_in 442 (by decide +kernel) rfl
theorem qm_U_49 : Cond.methodLink nC5 49 y_T_figureAt ∈ tbl := tbl_in 446 (by decide +kernel) rfl
theorem mo_U_takeHouses : MokV y_U_takeHouses b_U_takeHouses 3 none 1 := ⟨⟨(tbl_in 342 (by decide +kernel) rfl), (tbl_in 65 (by decide +kernel) rfl)⟩, ⟨(tbl_in 340 (by decide +kernel) rfl), tbl_lw _ (tbl_in 341 (by decide +kernel) rfl), (tbl_in 341 (by decide +kernel) rfl)⟩, ⟨by decide +kernel, by decide +kernel⟩, by decide +kernel⟩
def b_U_takeHouses_15_ (P : Hp → Prop)  (I15 : Hp → Int32 → Prop) (σ : Hp) (x2 : Int32) : Prop :=
  (((σ 4 6) ≤ x2 → P σ) ∧ (¬ (σ 4 6) ≤ x2 → wp_T_kindAt σ 1 x2 (0 : Int32) (fun (r2 : Int32) (t3 : Hp) => (vp_in x2 8) ∧ wp_T_figureAt (st t3 21 (ix x2) r2) 1 x2 (1 : Int32) (fun (r5 : Int32) (t6 : Hp) => (vp_in x2 8) ∧ wp_T_kindAt (st t6 22 (ix x2) r5) 1 x2 (2 : Int32) (fun (r8 : Int32) (t9 : Hp) => (vp_in x2 8) ∧ wp_T_figureAt (st t9 23 (ix x2) r8) 1 x2 (3 : Int32) (fun (r11 : Int32) (t12 : Hp) => (vp_in x2 8) ∧ (∀ v14 : Int32, v14 = x2 + (1 : Int32) → I15 (st t12 24 (ix x2) r11) v14)))))))
def j_U_takeHouses_15 (P : Hp → Prop)  (σ : Hp) (x2 : Int32) : Prop := ∀ I15 : Hp → Int32 → Prop, (∀ (σ : Hp) (x2 : Int32), b_U_takeHouses_15_  P  I15 σ x2 → I15 σ x2) → I15 σ x2
def wp_U_takeHouses (σ : Hp)  (P : Hp → Prop) : Prop :=
  wp_T_rows σ 1 (fun (r15 : Int32) (t16 : Hp) => j_U_takeHouses_15 P (st t16 4 6 (if (8 : Int32) < r15 then (8 : Int32) else r15)) (0 : Int32))
set_option maxHeartbeats 4000000 in
set_option maxRecDepth 100000 in
theorem wj_U_takeHouses_15 {w : Wd} {κ : Kx} {P : Hp → Prop} (hC : Cx μC w 3 κ nC5 b_U_takeHouses 7) (hR : RtN μC w 3 κ b_U_takeHouses P)  : ∀ (σ : Hp) (x2 : Int32), j_U_takeHouses_15  P  σ x2 → V μC w 3 κ σ [some (.ref (w.1 4)), some (.ref (w.1 1)), some (.int x2)] 15 [] := by
  intro σ x2 h
  refine h (fun σ x2 => V μC w 3 κ σ [some (.ref (w.1 4)), some (.ref (w.1 1)), some (.int x2)] 15 []) (fun σ x2 h => ?_)
  unfold b_U_takeHouses_15_ at h
  refine V.iload_n hC d_U_takeHouses_15 rfl rfl ?_
  refine V.aload_n hC d_U_takeHouses_16 rfl rfl ?_
  refine V.getI (j := 6) hC d_U_takeHouses_17 rfl rfl uC5 rfl rfl qf_U_42 ?_
  refine V.icmp_ge (tgt := 77) hC d_U_takeHouses_20 (by decide) (fun c1 => ?_) (fun c1 => ?_)
  · replace h := h.1 c1
    exact hR _ _ _ h d_U_takeHouses_77
  · replace h := h.2 c1
    refine V.aload_n hC d_U_takeHouses_23 rfl rfl ?_
    refine V.getR (j := 0) hC d_U_takeHouses_24 rfl rfl uC5 rfl rfl qf_U_9 ?_
    refine V.iload_n hC d_U_takeHouses_27 rfl rfl ?_
    refine V.aload_n hC d_U_takeHouses_28 rfl rfl ?_
    refine V.iload_n hC d_U_takeHouses_29 rfl rfl ?_
    refine V.iconst (v := 0) hC d_U_takeHouses_30 (by decide) ?_
    refine V.callVI hC exC (w_T_kindAt w σ 1 x2 (0 : Int32) _ h) d_U_takeHouses_31 mo_T_kindAt qm_U_46 rfl rfl rfl rfl rfl rfl rfl (Nat.le_of_ble_eq_true rfl) (fun r2 t3 h => ?_)
    obtain ⟨b4, h⟩ := h
    refine V.iast hC d_U_takeHouses_34 rfl b4 ?_
    refine V.aload_n hC d_U_takeHouses_35 rfl rfl ?_
    refine V.getR (j := 1) hC d_U_takeHouses_36 rfl rfl uC5 rfl rfl qf_U_15 ?_
    refine V.iload_n hC d_U_takeHouses_39 rfl rfl ?_
    refine V.aload_n hC d_U_takeHouses_40 rfl rfl ?_
    refine V.iload_n hC d_U_takeHouses_41 rfl rfl ?_
    refine V.iconst (v := 1) hC d_U_takeHouses_42 (by decide) ?_
    refine V.callVI hC exC (w_T_figureAt w (st t3 21 (ix x2) r2) 1 x2 (1 : Int32) _ h) d_U_takeHouses_43 mo_T_figureAt qm_U_49 rfl rfl rfl rfl rfl rfl rfl (Nat.le_of_ble_eq_true rfl) (fun r5 t6 h => ?_)
    obtain ⟨b7, h⟩ := h
    refine V.iast hC d_U_takeHouses_46 rfl b7 ?_
    refine V.aload_n hC d_U_takeHouses_47 rfl rfl ?_
    refine V.getR (j := 2) hC d_U_takeHouses_48 rfl rfl uC5 rfl rfl qf_U_18 ?_
    refine V.iload_n hC d_U_takeHouses_51 rfl rfl ?_
    refine V.aload_n hC d_U_takeHouses_52 rfl rfl ?_
    refine V.iload_n hC d_U_takeHouses_53 rfl rfl ?_
    refine V.iconst (v := 2) hC d_U_takeHouses_54 (by decide) ?_
    refine V.callVI hC exC (w_T_kindAt w (st t6 22 (ix x2) r5) 1 x2 (2 : Int32) _ h) d_U_takeHouses_55 mo_T_kindAt qm_U_46 rfl rfl rfl rfl rfl rfl rfl (Nat.le_of_ble_eq_true rfl) (fun r8 t9 h => ?_)
    obtain ⟨b10, h⟩ := h
    refine V.iast hC d_U_takeHouses_58 rfl b10 ?_
    refine V.aload_n hC d_U_takeHouses_59 rfl rfl ?_
    refine V.getR (j := 3) hC d_U_takeHouses_60 rfl rfl uC5 rfl rfl qf_U_21 ?_
    refine V.iload_n hC d_U_takeHouses_63 rfl rfl ?_
    refine V.aload_n hC d_U_takeHouses_64 rfl rfl ?_
    refine V.iload_n hC d_U_takeHouses_65 rfl rfl ?_
    refine V.iconst (v := 3) hC d_U_takeHouses_66 (by decide) ?_
    refine V.callVI hC exC (w_T_figureAt w (st t9 23 (ix x2) r8) 1 x2 (3 : Int32) _ h) d_U_takeHouses_67 mo_T_figureAt qm_U_49 rfl rfl rfl rfl rfl rfl rfl (Nat.le_of_ble_eq_true rfl) (fun r11 t12 h => ?_)
    obtain ⟨b13, h⟩ := h
    refine V.iast hC d_U_takeHouses_70 rfl b13 ?_
    obtain ⟨v14, ev14⟩ : ∃ y : Int32, y = x2 + (1 : Int32) := ⟨_, rfl⟩
    replace h := h v14 ev14
    refine V.iinc (y := v14) (lo' := [some (.ref (w.1 4)), some (.ref (w.1 1)), some (.int v14)]) hC d_U_takeHouses_71 rfl rfl (show v14 = _ + Int32.ofInt (1) from ev14) rfl ?_
    refine V.goto (tgt := 15) hC d_U_takeHouses_74 (by decide) ?_
    exact V.msk [true, true, true] rfl h
set_option maxHeartbeats 4000000 in
set_option maxRecDepth 100000 in
theorem w_U_takeHouses (w : Wd) (σ : Hp)  (P : Hp → Prop) (h : wp_U_takeHouses σ  P) : CtN μC w y_U_takeHouses b_U_takeHouses 3 none 7 [.ref (w.1 4), .ref (w.1 1)] σ P := by
  unfold wp_U_takeHouses at h
  refine CtN.ofV (C := nC5) (lo := [some (.ref (w.1 4)), some (.ref (w.1 1)), none]) exC (by decide +kernel) rfl rfl rfl (fun κ hC hR => ?_)
  refine V.aload_n hC d_U_takeHouses_0 rfl rfl ?_
  refine V.aload_n hC d_U_takeHouses_1 rfl rfl ?_
  refine V.callVI hC exC (w_T_rows w σ 1 _ h) d_U_takeHouses_2 mo_T_rows qm_U_30 rfl rfl rfl rfl rfl rfl rfl (Nat.le_of_ble_eq_true rfl) (fun r15 t16 h => ?_)
  refine V.bipush (v := 8) hC d_U_takeHouses_5 (by decide) ?_
  refine V.mmin hC d_U_takeHouses_7 qm_U_36 qmin_s qmath_i qmin_c rfl rfl ?_
  refine V.put (j := 6) hC d_U_takeHouses_10 rfl rfl uC5 pC5 dC5 rfl rfl rfl rfl rfl qf_U_42 ?_
  refine V.iconst (v := 0) hC d_U_takeHouses_13 (by decide) ?_
  refine V.istore_n (y := (0 : Int32)) (lo' := [some (.ref (w.1 4)), some (.ref (w.1 1)), some (.int (0 : Int32))]) hC d_U_takeHouses_14 rfl rfl rfl rfl ?_
  exact V.msk [true, true, true] rfl (wj_U_takeHouses_15  hC hR  (st t16 4 6 (if (8 : Int32) < r15 then (8 : Int32) else r15)) (0 : Int32) h)
abbrev b_JA_fill : ByteArray := prog_18_method_103_code
def y_JA_fill : MethodName := ⟨"java/util/Arrays", "fill", "([II)V"⟩
theorem d_JA_fill_0 : decode b_JA_fill 0 = .ok (.iconst 0, 1) := by decide +kernel
theorem d_JA_fill_1 : decode b_JA_fill 1 = .ok (.istore_n 2, 1) := by decide +kernel
theorem d_JA_fill_2 : decode b_JA_fill 2 = .ok (.aload_n 0, 1) := by decide +kernel
theorem d_JA_fill_3 : decode b_JA_fill 3 = .ok (.arraylength, 1) := by decide +kernel
theorem d_JA_fill_4 : decode b_JA_fill 4 = .ok (.istore_n 3, 1) := by decide +kernel
theorem d_JA_fill_5 : decode b_JA_fill 5 = .ok (.iload_n 2, 1) := by decide +kernel
theorem d_JA_fill_6 : decode b_JA_fill 6 = .ok (.iload_n 3, 1) := by decide +kernel
theorem d_JA_fill_7 : decode b_JA_fill 7 = .ok (.if_icmp .ge 13, 3) := by decide +kernel
theorem d_JA_fill_10 : decode b_JA_fill 10 = .ok (.aload_n 0, 1) := by decide +kernel
theorem d_JA_fill_11 : decode b_JA_fill 11 = .ok (.iload_n 2, 1) := by decide +kernel
theorem d_JA_fill_12 : decode b_JA_fill 12 = .ok (.iload_n 1, 1) := by decide +kernel
theorem d_JA_fill_13 : decode b_JA_fill 13 = .ok (.iastore, 1) := by decide +kernel
theorem d_JA_fill_14 : decode b_JA_fill 14 = .ok (.iinc 2 1, 3) := by decide +kernel
theorem d_JA_fill_17 : decode b_JA_fill 17 = .ok (.goto (-12), 3) := by decide +kernel
theorem d_JA_fill_20 : decode b_JA_fill 20 = .ok (.return_, 1) := by decide +kernel
theorem mo_JA_fill : MokS y_JA_fill b_JA_fill 4 none 2 := ⟨⟨(tbl_in 456 (by decide +kernel) rfl), (tbl_in 77 (by decide +kernel) rfl)⟩, (tbl_in 455 (by decide +kernel) rfl), ⟨by decide +kernel, by decide +kernel⟩, by decide +kernel⟩
def b_JA_fill_5_ (n1 : Nat) (P : Hp → Prop)  (I5 : Hp → Nat → Int32 → Int32 → Int32 → Prop) (σ : Hp) (x0 : Nat) (x1 : Int32) (x2 : Int32) (x3 : Int32) : Prop :=
  (μC.1[x0]? = some (.inr (0, n1))) ∧ ((x3 ≤ x2 → P σ) ∧ (¬ x3 ≤ x2 → (vp_in x2 n1) ∧ (∀ v4 : Int32, v4 = x2 + (1 : Int32) → I5 (st σ x0 (ix x2) x1) x0 x1 v4 x3)))
def j_JA_fill_5 (n1 : Nat) (P : Hp → Prop)  (σ : Hp) (x0 : Nat) (x1 : Int32) (x2 : Int32) (x3 : Int32) : Prop := ∀ I5 : Hp → Nat → Int32 → Int32 → Int32 → Prop, (∀ (σ : Hp) (x0 : Nat) (x1 : Int32) (x2 : Int32) (x3 : Int32), b_JA_fill_5_ n1 P  I5 σ x0 x1 x2 x3 → I5 σ x0 x1 x2 x3) → I5 σ x0 x1 x2 x3
def wp_JA_fill (σ : Hp) (o1 : Nat) (n1 : Nat) (a2 : Int32) (P : Hp → Prop) : Prop :=
  (μC.1[o1]? = some (.inr (0, n1))) ∧ (∀ v6 : Int32, v6 = Int32.ofNat n1 → j_JA_fill_5 n1 P σ o1 a2 (0 : Int32) v6)
set_option maxHeartbeats 4000000 in
set_option maxRecDepth 100000 in
theorem wj_JA_fill_5 (n1 : Nat) {w : Wd} {κ : Kx} {P : Hp → Prop} (hC : Cx μC w 4 κ "java/util/Arrays" b_JA_fill 0) (hR : RtN μC w 4 κ b_JA_fill P)  : ∀ (σ : Hp) (x0 : Nat) (x1 : Int32) (x2 : Int32) (x3 : Int32), j_JA_fill_5 n1 P  σ x0 x1 x2 x3 → V μC w 4 κ σ [some (.ref (w.1 x0)), some (.int x1), some (.int x2), some (.int x3)] 5 [] := by
  intro σ x0 x1 x2 x3 h
  refine h (fun σ x0 x1 x2 x3 => V μC w 4 κ σ [some (.ref (w.1 x0)), some (.int x1), some (.int x2), some (.int x3)] 5 []) (fun σ x0 x1 x2 x3 h => ?_)
  unfold b_JA_fill_5_ at h
  obtain ⟨m1, h⟩ := h
  refine V.iload_n hC d_JA_fill_5 rfl rfl ?_
  refine V.iload_n hC d_JA_fill_6 rfl rfl ?_
  refine V.icmp_ge (tgt := 20) hC d_JA_fill_7 (by decide) (fun c2 => ?_) (fun c2 => ?_)
  · replace h := h.1 c2
    exact hR _ _ _ h d_JA_fill_20
  · replace h := h.2 c2
    refine V.aload_n hC d_JA_fill_10 rfl rfl ?_
    refine V.iload_n hC d_JA_fill_11 rfl rfl ?_
    refine V.iload_n hC d_JA_fill_12 rfl rfl ?_
    obtain ⟨b3, h⟩ := h
    refine V.iast hC d_JA_fill_13 m1 b3 ?_
    obtain ⟨v4, ev4⟩ : ∃ y : Int32, y = x2 + (1 : Int32) := ⟨_, rfl⟩
    replace h := h v4 ev4
    refine V.iinc (y := v4) (lo' := [some (.ref (w.1 x0)), some (.int x1), some (.int v4), some (.int x3)]) hC d_JA_fill_14 rfl rfl (show v4 = _ + Int32.ofInt (1) from ev4) rfl ?_
    refine V.goto (tgt := 5) hC d_JA_fill_17 (by decide) ?_
    exact V.msk [true, true, true, true] rfl h
set_option maxHeartbeats 4000000 in
set_option maxRecDepth 100000 in
theorem w_JA_fill (w : Wd) (σ : Hp) (o1 : Nat) (n1 : Nat) (a2 : Int32) (P : Hp → Prop) (h : wp_JA_fill σ o1 n1 a2 P) : CtN μC w y_JA_fill b_JA_fill 4 none 0 [.ref (w.1 o1), .int a2] σ P := by
  unfold wp_JA_fill at h
  refine CtN.ofV (C := "java/util/Arrays") (lo := [some (.ref (w.1 o1)), some (.int a2), none, none]) exC (by decide +kernel) rfl rfl rfl (fun κ hC hR => ?_)
  obtain ⟨m5, h⟩ := h
  refine V.iconst (v := 0) hC d_JA_fill_0 (by decide) ?_
  refine V.istore_n (y := (0 : Int32)) (lo' := [some (.ref (w.1 o1)), some (.int a2), some (.int (0 : Int32)), none]) hC d_JA_fill_1 rfl rfl rfl rfl ?_
  refine V.aload_n hC d_JA_fill_2 rfl rfl ?_
  refine V.alen0 hC d_JA_fill_3 m5 rfl ?_
  obtain ⟨v6, ev6⟩ : ∃ y : Int32, y = Int32.ofNat n1 := ⟨_, rfl⟩
  replace h := h v6 ev6
  refine V.istore_n (y := v6) (lo' := [some (.ref (w.1 o1)), some (.int a2), some (.int (0 : Int32)), some (.int v6)]) hC d_JA_fill_4 rfl rfl ev6 rfl ?_
  exact V.msk [true, true, true, true] rfl (wj_JA_fill_5 n1 hC hR  σ o1 a2 (0 : Int32) v6 h)
abbrev b_P_isKind : ByteArray := prog_1_method_43_code
def y_P_isKind : MethodName := ⟨nC7, "isKind", "(I)Z"⟩
theorem d_P_isKind_0 : decode b_P_isKind 0 = .ok (.iload_n 0, 1) := by decide +kernel
theorem d_P_isKind_1 : decode b_P_isKind 1 = .ok (.ifCond .lt 12, 3) := by decide +kernel
theorem d_P_isKind_4 : decode b_P_isKind 4 = .ok (.iload_n 0, 1) := by decide +kernel
theorem d_P_isKind_5 : decode b_P_isKind 5 = .ok (.iconst 3, 1) := by decide +kernel
theorem d_P_isKind_6 : decode b_P_isKind 6 = .ok (.if_icmp .ge 7, 3) := by decide +kernel
theorem d_P_isKind_9 : decode b_P_isKind 9 = .ok (.iconst 1, 1) := by decide +kernel
theorem d_P_isKind_10 : decode b_P_isKind 10 = .ok (.goto 4, 3) := by decide +kernel
theorem d_P_isKind_13 : decode b_P_isKind 13 = .ok (.iconst 0, 1) := by decide +kernel
theorem d_P_isKind_14 : decode b_P_isKind 14 = .ok (.ireturn, 1) := by decide +kernel
theorem mo_P_isKind : MokS y_P_isKind b_P_isKind 1 (some .boolean) 1 := ⟨⟨(tbl_in 459 (by decide +kernel) rfl), (tbl_in 62 (by decide +kernel) rfl)⟩, (tbl_in 458 (by decide +kernel) rfl), ⟨by decide +kernel, by decide +kernel⟩, by decide +kernel⟩
def wp_P_isKind (σ : Hp) (a1 : Int32) (P : Int32 → Hp → Prop) : Prop :=
  ((a1 < 0 → P (0 : Int32) σ) ∧ (¬ a1 < 0 → (((3 : Int32) ≤ a1 → P (0 : Int32) σ) ∧ (¬ (3 : Int32) ≤ a1 → P (1 : Int32) σ))))
set_option maxHeartbeats 4000000 in
set_option maxRecDepth 100000 in
theorem w_P_isKind (w : Wd) (σ : Hp) (a1 : Int32) (P : Int32 → Hp → Prop) (h : wp_P_isKind σ a1 P) : CtI μC w y_P_isKind b_P_isKind 1 (some .boolean) 0 [.int a1] σ P := by
  unfold wp_P_isKind at h
  refine CtI.ofV (C := nC7) (lo := [some (.int a1)]) exC (by decide +kernel) rfl rfl rfl (fun κ hC hR => ?_)
  refine V.iload_n hC d_P_isKind_0 rfl rfl ?_
  refine V.if_lt (tgt := 13) hC d_P_isKind_1 (by decide) (fun c1 => ?_) (fun c1 => ?_)
  · replace h := h.1 c1
    refine V.iconst (v := 0) hC d_P_isKind_13 (by decide) ?_
    exact hR _ _ _ _ h (by decide) d_P_isKind_14
  · replace h := h.2 c1
    refine V.iload_n hC d_P_isKind_4 rfl rfl ?_
    refine V.iconst (v := 3) hC d_P_isKind_5 (by decide) ?_
    refine V.icmp_ge (tgt := 13) hC d_P_isKind_6 (by decide) (fun c2 => ?_) (fun c2 => ?_)
    · replace h := h.1 c2
      refine V.iconst (v := 0) hC d_P_isKind_13 (by decide) ?_
      exact hR _ _ _ _ h (by decide) d_P_isKind_14
    · replace h := h.2 c2
      refine V.iconst (v := 1) hC d_P_isKind_9 (by decide) ?_
      refine V.goto (tgt := 14) hC d_P_isKind_10 (by decide) ?_
      exact hR _ _ _ _ h (by decide) d_P_isKind_14
abbrev b_U_takeRulings : ByteArray := prog_7_method_3_code
def y_U_takeRulings : MethodName := ⟨nC5, "takeRulings", "(LSoundPaid$Text;)V"⟩
theorem d_U_takeRulings_0 : decode b_U_takeRulings 0 = .ok (.aload_n 0, 1) := by decide +kernel
theorem d_U_takeRulings_1 : decode b_U_takeRulings 1 = .ok (.getfield 24, 3) := by decide +kernel
theorem d_U_takeRulings_4 : decode b_U_takeRulings 4 = .ok (.iconst 0, 1) := by decide +kernel
theorem d_U_takeRulings_5 : decode b_U_takeRulings 5 = .ok (.invokestatic 52, 3) := by decide +kernel
theorem d_U_takeRulings_8 : decode b_U_takeRulings 8 = .ok (.aload_n 0, 1) := by decide +kernel
theorem d_U_takeRulings_9 : decode b_U_takeRulings 9 = .ok (.aload_n 1, 1) := by decide +kernel
theorem d_U_takeRulings_10 : decode b_U_takeRulings 10 = .ok (.invokevirtual 30, 3) := by decide +kernel
theorem d_U_takeRulings_13 : decode b_U_takeRulings 13 = .ok (.putfield 58, 3) := by decide +kernel
theorem d_U_takeRulings_16 : decode b_U_takeRulings 16 = .ok (.iconst 0, 1) := by decide +kernel
theorem d_U_takeRulings_17 : decode b_U_takeRulings 17 = .ok (.istore_n 2, 1) := by decide +kernel
theorem d_U_takeRulings_18 : decode b_U_takeRulings 18 = .ok (.iload_n 2, 1) := by decide +kernel
theorem d_U_takeRulings_19 : decode b_U_takeRulings 19 = .ok (.aload_n 0, 1) := by decide +kernel
theorem d_U_takeRulings_20 : decode b_U_takeRulings 20 = .ok (.getfield 58, 3) := by decide +kernel
theorem d_U_takeRulings_23 : decode b_U_takeRulings 23 = .ok (.if_icmp .ge 35, 3) := by decide +kernel
theorem d_U_takeRulings_26 : decode b_U_takeRulings 26 = .ok (.aload_n 1, 1) := by decide +kernel
theorem d_U_takeRulings_27 : decode b_U_takeRulings 27 = .ok (.iload_n 2, 1) := by decide +kernel
theorem d_U_takeRulings_28 : decode b_U_takeRulings 28 = .ok (.iconst 0, 1) := by decide +kernel
theorem d_U_takeRulings_29 : decode b_U_takeRulings 29 = .ok (.invokevirtual 46, 3) := by decide +kernel
theorem d_U_takeRulings_32 : decode b_U_takeRulings 32 = .ok (.istore_n 3, 1) := by decide +kernel
theorem d_U_takeRulings_33 : decode b_U_takeRulings 33 = .ok (.iload_n 3, 1) := by decide +kernel
theorem d_U_takeRulings_34 : decode b_U_takeRulings 34 = .ok (.invokestatic 61, 3) := by decide +kernel
theorem d_U_takeRulings_37 : decode b_U_takeRulings 37 = .ok (.ifCond .eq 15, 3) := by decide +kernel
theorem d_U_takeRulings_40 : decode b_U_takeRulings 40 = .ok (.aload_n 0, 1) := by decide +kernel
theorem d_U_takeRulings_41 : decode b_U_takeRulings 41 = .ok (.getfield 24, 3) := by decide +kernel
theorem d_U_takeRulings_44 : decode b_U_takeRulings 44 = .ok (.iload_n 3, 1) := by decide +kernel
theorem d_U_takeRulings_45 : decode b_U_takeRulings 45 = .ok (.aload_n 1, 1) := by decide +kernel
theorem d_U_takeRulings_46 : decode b_U_takeRulings 46 = .ok (.iload_n 2, 1) := by decide +kernel
theorem d_U_takeRulings_47 : decode b_U_takeRulings 47 = .ok (.iconst 1, 1) := by decide +kernel
theorem d_U_takeRulings_48 : decode b_U_takeRulings 48 = .ok (.invokevirtual 49, 3) := by decide +kernel
theorem d_U_takeRulings_51 : decode b_U_takeRulings 51 = .ok (.iastore, 1) := by decide +kernel
theorem d_U_takeRulings_52 : decode b_U_takeRulings 52 = .ok (.iinc 2 1, 3) := by decide +kernel
theorem d_U_takeRulings_55 : decode b_U_takeRulings 55 = .ok (.goto (-37), 3) := by decide +kernel
theorem d_U_takeRulings_58 : decode b_U_takeRulings 58 = .ok (.return_, 1) := by decide +kernel
theorem qf_U_24 : Cond.fieldLink nC5 24 (fC5 4).1 (fC5 4).2.1 (fC5 4).2.2.1 ∈ tbl := tbl_in 133 (by decide +kernel) rfl
theorem qf_U_58 : Cond.fieldLink nC5 58 (fC5 7).1 (fC5 7).2.1 (fC5 7).2.2.1 ∈ tbl := tbl_in 141 (by decide +kernel) rfl
theorem qm_U_52 : Cond.methodLink nC5 52 y_JA_fill ∈ tbl := tbl_in 454 (by decide +kernel) rfl
theorem mo_U_takeRulings : MokV y_U_takeRulings b_U_takeRulings 4 none 1 := ⟨⟨(tbl_in 453 (by decide +kernel) rfl), (tbl_in 65 (by decide +kernel) rfl)⟩, ⟨(tbl_in 451 (by decide +kernel) rfl), tbl_lw _ (tbl_in 452 (by decide +kernel) rfl), (tbl_in 452 (by decide +kernel) rfl)⟩, ⟨by decide +kernel, by decide +kernel⟩, by decide +kernel⟩
def b_U_takeRulings_18_ (P : Hp → Prop)  (I18 : Hp → Int32 → Prop) (σ : Hp) (x2 : Int32) : Prop :=
  (((σ 4 7) ≤ x2 → P σ) ∧ (¬ (σ 4 7) ≤ x2 → wp_T_kindAt σ 2 x2 (0 : Int32) (fun (r2 : Int32) (t3 : Hp) => wp_P_isKind t3 r2 (fun (r4 : Int32) (t5 : Hp) => ((r4 = 0 → (∀ v7 : Int32, v7 = x2 + (1 : Int32) → I18 t5 v7)) ∧ (¬ r4 = 0 → wp_T_figureAt t5 2 x2 (1 : Int32) (fun (r8 : Int32) (t9 : Hp) => (vp_in r2 3) ∧ (∀ v11 : Int32, v11 = x2 + (1 : Int32) → I18 (st t9 25 (ix r2) r8) v11))))))))
def j_U_takeRulings_18 (P : Hp → Prop)  (σ : Hp) (x2 : Int32) : Prop := ∀ I18 : Hp → Int32 → Prop, (∀ (σ : Hp) (x2 : Int32), b_U_takeRulings_18_  P  I18 σ x2 → I18 σ x2) → I18 σ x2
def wp_U_takeRulings (σ : Hp)  (P : Hp → Prop) : Prop :=
  wp_JA_fill σ 25 3 (0 : Int32) (fun (t13 : Hp) => wp_T_rows t13 2 (fun (r14 : Int32) (t15 : Hp) => j_U_takeRulings_18 P (st t15 4 7 r14) (0 : Int32)))
set_option maxHeartbeats 4000000 in
set_option maxRecDepth 100000 in
theorem wj_U_takeRulings_18 {w : Wd} {κ : Kx} {P : Hp → Prop} (hC : Cx μC w 4 κ nC5 b_U_takeRulings 7) (hR : RtN μC w 4 κ b_U_takeRulings P)  : ∀ (σ : Hp) (x2 : Int32), j_U_takeRulings_18  P  σ x2 → V μC w 4 κ σ [some (.ref (w.1 4)), some (.ref (w.1 2)), some (.int x2), none] 18 [] := by
  intro σ x2 h
  refine h (fun σ x2 => V μC w 4 κ σ [some (.ref (w.1 4)), some (.ref (w.1 2)), some (.int x2), none] 18 []) (fun σ x2 h => ?_)
  unfold b_U_takeRulings_18_ at h
  refine V.iload_n hC d_U_takeRulings_18 rfl rfl ?_
  refine V.aload_n hC d_U_takeRulings_19 rfl rfl ?_
  refine V.getI (j := 7) hC d_U_takeRulings_20 rfl rfl uC5 rfl rfl qf_U_58 ?_
  refine V.icmp_ge (tgt := 58) hC d_U_takeRulings_23 (by decide) (fun c1 => ?_) (fun c1 => ?_)
  · replace h := h.1 c1
    exact hR _ _ _ h d_U_takeRulings_58
  · replace h := h.2 c1
    refine V.aload_n hC d_U_takeRulings_26 rfl rfl ?_
    refine V.iload_n hC d_U_takeRulings_27 rfl rfl ?_
    refine V.iconst (v := 0) hC d_U_takeRulings_28 (by decide) ?_
    refine V.callVI hC exC (w_T_kindAt w σ 2 x2 (0 : Int32) _ h) d_U_takeRulings_29 mo_T_kindAt qm_U_46 rfl rfl rfl rfl rfl rfl rfl (Nat.le_of_ble_eq_true rfl) (fun r2 t3 h => ?_)
    refine V.istore_n (y := r2) (lo' := [some (.ref (w.1 4)), some (.ref (w.1 2)), some (.int x2), some (.int r2)]) hC d_U_takeRulings_32 rfl rfl rfl rfl ?_
    refine V.iload_n hC d_U_takeRulings_33 rfl rfl ?_
    refine V.callHI hC exC (w_P_isKind w t3 r2 _ h) d_U_takeRulings_34 mo_P_isKind (exNest w) rfl rfl rfl rfl (Nat.le_of_ble_eq_true rfl) (fun r4 t5 h => ?_)
    refine V.if_eq (tgt := 52) hC d_U_takeRulings_37 (by decide) (fun c6 => ?_) (fun c6 => ?_)
    · replace h := h.1 c6
      obtain ⟨v7, ev7⟩ : ∃ y : Int32, y = x2 + (1 : Int32) := ⟨_, rfl⟩
      replace h := h v7 ev7
      refine V.iinc (y := v7) (lo' := [some (.ref (w.1 4)), some (.ref (w.1 2)), some (.int v7), some (.int r2)]) hC d_U_takeRulings_52 rfl rfl (show v7 = _ + Int32.ofInt (1) from ev7) rfl ?_
      refine V.goto (tgt := 18) hC d_U_takeRulings_55 (by decide) ?_
      exact V.msk [true, true, true, false] rfl h
    · replace h := h.2 c6
      refine V.aload_n hC d_U_takeRulings_40 rfl rfl ?_
      refine V.getR (j := 4) hC d_U_takeRulings_41 rfl rfl uC5 rfl rfl qf_U_24 ?_
      refine V.iload_n hC d_U_takeRulings_44 rfl rfl ?_
      refine V.aload_n hC d_U_takeRulings_45 rfl rfl ?_
      refine V.iload_n hC d_U_takeRulings_46 rfl rfl ?_
      refine V.iconst (v := 1) hC d_U_takeRulings_47 (by decide) ?_
      refine V.callVI hC exC (w_T_figureAt w t5 2 x2 (1 : Int32) _ h) d_U_takeRulings_48 mo_T_figureAt qm_U_49 rfl rfl rfl rfl rfl rfl rfl (Nat.le_of_ble_eq_true rfl) (fun r8 t9 h => ?_)
      obtain ⟨b10, h⟩ := h
      refine V.iast hC d_U_takeRulings_51 rfl b10 ?_
      obtain ⟨v11, ev11⟩ : ∃ y : Int32, y = x2 + (1 : Int32) := ⟨_, rfl⟩
      replace h := h v11 ev11
      refine V.iinc (y := v11) (lo' := [some (.ref (w.1 4)), some (.ref (w.1 2)), some (.int v11), some (.int r2)]) hC d_U_takeRulings_52 rfl rfl (show v11 = _ + Int32.ofInt (1) from ev11) rfl ?_
      refine V.goto (tgt := 18) hC d_U_takeRulings_55 (by decide) ?_
      exact V.msk [true, true, true, false] rfl h
set_option maxHeartbeats 4000000 in
set_option maxRecDepth 100000 in
theorem w_U_takeRulings (w : Wd) (σ : Hp)  (P : Hp → Prop) (h : wp_U_takeRulings σ  P) : CtN μC w y_U_takeRulings b_U_takeRulings 4 none 7 [.ref (w.1 4), .ref (w.1 2)] σ P := by
  unfold wp_U_takeRulings at h
  refine CtN.ofV (C := nC5) (lo := [some (.ref (w.1 4)), some (.ref (w.1 2)), none, none]) exC (by decide +kernel) rfl rfl rfl (fun κ hC hR => ?_)
  refine V.aload_n hC d_U_takeRulings_0 rfl rfl ?_
  refine V.getR (j := 4) hC d_U_takeRulings_1 rfl rfl uC5 rfl rfl qf_U_24 ?_
  refine V.iconst (v := 0) hC d_U_takeRulings_4 (by decide) ?_
  refine V.callSN hC exC (w_JA_fill w σ 25 3 (0 : Int32) _ h) d_U_takeRulings_5 mo_JA_fill qm_U_52 rfl rfl rfl rfl (Nat.le_of_ble_eq_true rfl) (fun t13 h => ?_)
  refine V.aload_n hC d_U_takeRulings_8 rfl rfl ?_
  refine V.aload_n hC d_U_takeRulings_9 rfl rfl ?_
  refine V.callVI hC exC (w_T_rows w t13 2 _ h) d_U_takeRulings_10 mo_T_rows qm_U_30 rfl rfl rfl rfl rfl rfl rfl (Nat.le_of_ble_eq_true rfl) (fun r14 t15 h => ?_)
  refine V.put (j := 7) hC d_U_takeRulings_13 rfl rfl uC5 pC5 dC5 rfl rfl rfl rfl rfl qf_U_58 ?_
  refine V.iconst (v := 0) hC d_U_takeRulings_16 (by decide) ?_
  refine V.istore_n (y := (0 : Int32)) (lo' := [some (.ref (w.1 4)), some (.ref (w.1 2)), some (.int (0 : Int32)), none]) hC d_U_takeRulings_17 rfl rfl rfl rfl ?_
  exact V.msk [true, true, true, false] rfl (wj_U_takeRulings_18  hC hR  (st t15 4 7 r14) (0 : Int32) h)
abbrev b_U_stopped : ByteArray := prog_7_method_6_code
def y_U_stopped : MethodName := ⟨nC5, "stopped", "(III)I"⟩
theorem d_U_stopped_0 : decode b_U_stopped 0 = .ok (.iload_n 3, 1) := by decide +kernel
theorem d_U_stopped_1 : decode b_U_stopped 1 = .ok (.iload_n 2, 1) := by decide +kernel
theorem d_U_stopped_2 : decode b_U_stopped 2 = .ok (.isub, 1) := by decide +kernel
theorem d_U_stopped_3 : decode b_U_stopped 3 = .ok (.iconst 1, 1) := by decide +kernel
theorem d_U_stopped_4 : decode b_U_stopped 4 = .ok (.isub, 1) := by decide +kernel
theorem d_U_stopped_5 : decode b_U_stopped 5 = .ok (.istore 4, 2) := by decide +kernel
theorem d_U_stopped_7 : decode b_U_stopped 7 = .ok (.iconst 0, 1) := by decide +kernel
theorem d_U_stopped_8 : decode b_U_stopped 8 = .ok (.istore 5, 2) := by decide +kernel
theorem d_U_stopped_10 : decode b_U_stopped 10 = .ok (.iconst 0, 1) := by decide +kernel
theorem d_U_stopped_11 : decode b_U_stopped 11 = .ok (.istore 6, 2) := by decide +kernel
theorem d_U_stopped_13 : decode b_U_stopped 13 = .ok (.iload_n 2, 1) := by decide +kernel
theorem d_U_stopped_14 : decode b_U_stopped 14 = .ok (.istore 7, 2) := by decide +kernel
theorem d_U_stopped_16 : decode b_U_stopped 16 = .ok (.iload 7, 2) := by decide +kernel
theorem d_U_stopped_18 : decode b_U_stopped 18 = .ok (.iload_n 3, 1) := by decide +kernel
theorem d_U_stopped_19 : decode b_U_stopped 19 = .ok (.if_icmp .ge 35, 3) := by decide +kernel
theorem d_U_stopped_22 : decode b_U_stopped 22 = .ok (.iload 5, 2) := by decide +kernel
theorem d_U_stopped_24 : decode b_U_stopped 24 = .ok (.aload_n 0, 1) := by decide +kernel
theorem d_U_stopped_25 : decode b_U_stopped 25 = .ok (.getfield 27, 3) := by decide +kernel
theorem d_U_stopped_28 : decode b_U_stopped 28 = .ok (.iload 7, 2) := by decide +kernel
theorem d_U_stopped_30 : decode b_U_stopped 30 = .ok (.iaload, 1) := by decide +kernel
theorem d_U_stopped_31 : decode b_U_stopped 31 = .ok (.iadd, 1) := by decide +kernel
theorem d_U_stopped_32 : decode b_U_stopped 32 = .ok (.istore 5, 2) := by decide +kernel
theorem d_U_stopped_34 : decode b_U_stopped 34 = .ok (.iload 6, 2) := by decide +kernel
theorem d_U_stopped_36 : decode b_U_stopped 36 = .ok (.aload_n 0, 1) := by decide +kernel
theorem d_U_stopped_37 : decode b_U_stopped 37 = .ok (.getfield 27, 3) := by decide +kernel
theorem d_U_stopped_40 : decode b_U_stopped 40 = .ok (.iload 7, 2) := by decide +kernel
theorem d_U_stopped_42 : decode b_U_stopped 42 = .ok (.iaload, 1) := by decide +kernel
theorem d_U_stopped_43 : decode b_U_stopped 43 = .ok (.iconst 2, 1) := by decide +kernel
theorem d_U_stopped_44 : decode b_U_stopped 44 = .ok (.idiv, 1) := by decide +kernel
theorem d_U_stopped_45 : decode b_U_stopped 45 = .ok (.iadd, 1) := by decide +kernel
theorem d_U_stopped_46 : decode b_U_stopped 46 = .ok (.istore 6, 2) := by decide +kernel
theorem d_U_stopped_48 : decode b_U_stopped 48 = .ok (.iinc 7 1, 3) := by decide +kernel
theorem d_U_stopped_51 : decode b_U_stopped 51 = .ok (.goto (-35), 3) := by decide +kernel
theorem d_U_stopped_54 : decode b_U_stopped 54 = .ok (.iload_n 1, 1) := by decide +kernel
theorem d_U_stopped_55 : decode b_U_stopped 55 = .ok (.tableswitch 56 0 2 #[25, 33, 39], 25) := by decide +kernel
theorem d_U_stopped_80 : decode b_U_stopped 80 = .ok (.iconst 2, 1) := by decide +kernel
theorem d_U_stopped_81 : decode b_U_stopped 81 = .ok (.iload 4, 2) := by decide +kernel
theorem d_U_stopped_83 : decode b_U_stopped 83 = .ok (.imul, 1) := by decide +kernel
theorem d_U_stopped_84 : decode b_U_stopped 84 = .ok (.iload 5, 2) := by decide +kernel
theorem d_U_stopped_86 : decode b_U_stopped 86 = .ok (.iadd, 1) := by decide +kernel
theorem d_U_stopped_87 : decode b_U_stopped 87 = .ok (.ireturn, 1) := by decide +kernel
theorem d_U_stopped_88 : decode b_U_stopped 88 = .ok (.iload 4, 2) := by decide +kernel
theorem d_U_stopped_90 : decode b_U_stopped 90 = .ok (.iload 6, 2) := by decide +kernel
theorem d_U_stopped_92 : decode b_U_stopped 92 = .ok (.iadd, 1) := by decide +kernel
theorem d_U_stopped_93 : decode b_U_stopped 93 = .ok (.ireturn, 1) := by decide +kernel
theorem d_U_stopped_94 : decode b_U_stopped 94 = .ok (.iload 4, 2) := by decide +kernel
theorem d_U_stopped_96 : decode b_U_stopped 96 = .ok (.ifCond .ne 12, 3) := by decide +kernel
theorem d_U_stopped_99 : decode b_U_stopped 99 = .ok (.iload 5, 2) := by decide +kernel
theorem d_U_stopped_101 : decode b_U_stopped 101 = .ok (.ifCond .ne 7, 3) := by decide +kernel
theorem d_U_stopped_104 : decode b_U_stopped 104 = .ok (.iconst 0, 1) := by decide +kernel
theorem d_U_stopped_105 : decode b_U_stopped 105 = .ok (.goto 5, 3) := by decide +kernel
theorem d_U_stopped_108 : decode b_U_stopped 108 = .ok (.bipush 9, 2) := by decide +kernel
theorem d_U_stopped_110 : decode b_U_stopped 110 = .ok (.ireturn, 1) := by decide +kernel
theorem d_U_stopped_111 : decode b_U_stopped 111 = .ok (.bipush 9, 2) := by decide +kernel
theorem d_U_stopped_113 : decode b_U_stopped 113 = .ok (.ireturn, 1) := by decide +kernel
theorem qf_U_27 : Cond.fieldLink nC5 27 (fC5 5).1 (fC5 5).2.1 (fC5 5).2.2.1 ∈ tbl := tbl_in 135 (by decide +kernel) rfl
theorem mo_U_stopped : MokV y_U_stopped b_U_stopped 8 (some .int) 3 := ⟨⟨(tbl_in 476 (by decide +kernel) rfl), (tbl_in 65 (by decide +kernel) rfl)⟩, ⟨(tbl_in 475 (by decide +kernel) rfl), tbl_lw _ (tbl_in 3 (by decide +kernel) rfl), (tbl_in 3 (by decide +kernel) rfl)⟩, ⟨by decide +kernel, by decide +kernel⟩, by decide +kernel⟩
def b_U_stopped_16_ (P : Int32 → Hp → Prop)  (I16 : Hp → Int32 → Int32 → Int32 → Int32 → Int32 → Int32 → Prop) (σ : Hp) (x1 : Int32) (x3 : Int32) (x4 : Int32) (x5 : Int32) (x6 : Int32) (x7 : Int32) : Prop :=
  ((x3 ≤ x7 → (((x1.toInt < 0 ∨ (2 : Int) < x1.toInt) → P (9 : Int32) σ) ∧ (x1 = 0 → P (((2 : Int32) * x4) + x5) σ) ∧ (x1 = 1 → P (x4 + x6) σ) ∧ (x1 = 2 → ((¬ x4 = 0 → P (9 : Int32) σ) ∧ (x4 = 0 → ((¬ x5 = 0 → P (9 : Int32) σ) ∧ (x5 = 0 → P (0 : Int32) σ))))))) ∧ (¬ x3 ≤ x7 → (vp_in x7 7) ∧ (∀ v6 : Int32, v6 = x5 + (σ 26 (ix x7)) → (vp_in x7 7) ∧ (∀ v8 : Int32, v8 = x6 + ((σ 26 (ix x7)) / (2 : Int32)) → (∀ v9 : Int32, v9 = x7 + (1 : Int32) → I16 σ x1 x3 x4 v6 v8 v9)))))
def j_U_stopped_16 (P : Int32 → Hp → Prop)  (σ : Hp) (x1 : Int32) (x3 : Int32) (x4 : Int32) (x5 : Int32) (x6 : Int32) (x7 : Int32) : Prop := ∀ I16 : Hp → Int32 → Int32 → Int32 → Int32 → Int32 → Int32 → Prop, (∀ (σ : Hp) (x1 : Int32) (x3 : Int32) (x4 : Int32) (x5 : Int32) (x6 : Int32) (x7 : Int32), b_U_stopped_16_  P  I16 σ x1 x3 x4 x5 x6 x7 → I16 σ x1 x3 x4 x5 x6 x7) → I16 σ x1 x3 x4 x5 x6 x7
def wp_U_stopped (σ : Hp) (a1 : Int32) (a2 : Int32) (a3 : Int32) (P : Int32 → Hp → Prop) : Prop :=
  (∀ v10 : Int32, v10 = (a3 - a2) - (1 : Int32) → j_U_stopped_16 P σ a1 a3 v10 (0 : Int32) (0 : Int32) a2)
set_option maxHeartbeats 4000000 in
set_option maxRecDepth 100000 in
theorem wj_U_stopped_16 {w : Wd} {κ : Kx} {P : Int32 → Hp → Prop} (hC : Cx μC w 8 κ nC5 b_U_stopped 0) (hR : RtI μC w 8 κ b_U_stopped .int P)  : ∀ (σ : Hp) (x1 : Int32) (x3 : Int32) (x4 : Int32) (x5 : Int32) (x6 : Int32) (x7 : Int32), j_U_stopped_16  P  σ x1 x3 x4 x5 x6 x7 → V μC w 8 κ σ [some (.ref (w.1 4)), some (.int x1), none, some (.int x3), some (.int x4), some (.int x5), some (.int x6), some (.int x7)] 16 [] := by
  intro σ x1 x3 x4 x5 x6 x7 h
  refine h (fun σ x1 x3 x4 x5 x6 x7 => V μC w 8 κ σ [some (.ref (w.1 4)), some (.int x1), none, some (.int x3), some (.int x4), some (.int x5), some (.int x6), some (.int x7)] 16 []) (fun σ x1 x3 x4 x5 x6 x7 h => ?_)
  unfold b_U_stopped_16_ at h
  refine V.iload hC d_U_stopped_16 rfl ?_
  refine V.iload_n hC d_U_stopped_18 rfl rfl ?_
  refine V.icmp_ge (tgt := 54) hC d_U_stopped_19 (by decide) (fun c1 => ?_) (fun c1 => ?_)
  · replace h := h.1 c1
    refine V.iload_n hC d_U_stopped_54 rfl rfl ?_
    rcases sw_cases x1 2 with c2 | ⟨k9, hk9, c2⟩
    · refine V.tabOut (tgt := 111) hC d_U_stopped_55 c2 (by decide) ?_
      replace h := h.1 c2
      refine V.bipush (v := 9) hC d_U_stopped_111 (by decide) ?_
      exact hR _ _ _ _ h rfl d_U_stopped_113
    · rcases (show k9 = 0 ∨ k9 = 1 ∨ k9 = 2 by omega) with rfl | rfl | rfl
      · refine V.tabIn (tgt := 80) hC d_U_stopped_55 (by rw [c2]; decide) (by rw [c2]; decide) (by rw [c2]; rfl) (by decide) ?_
        replace h := h.2.1 c2
        refine V.iconst (v := 2) hC d_U_stopped_80 (by decide) ?_
        refine V.iload hC d_U_stopped_81 rfl ?_
        refine V.imul hC d_U_stopped_83 ?_
        refine V.iload hC d_U_stopped_84 rfl ?_
        refine V.iadd hC d_U_stopped_86 ?_
        exact hR _ _ _ _ h rfl d_U_stopped_87
      · refine V.tabIn (tgt := 88) hC d_U_stopped_55 (by rw [c2]; decide) (by rw [c2]; decide) (by rw [c2]; rfl) (by decide) ?_
        replace h := h.2.2.1 c2
        refine V.iload hC d_U_stopped_88 rfl ?_
        refine V.iload hC d_U_stopped_90 rfl ?_
        refine V.iadd hC d_U_stopped_92 ?_
        exact hR _ _ _ _ h rfl d_U_stopped_93
      · refine V.tabIn (tgt := 94) hC d_U_stopped_55 (by rw [c2]; decide) (by rw [c2]; decide) (by rw [c2]; rfl) (by decide) ?_
        replace h := h.2.2.2 c2
        refine V.iload hC d_U_stopped_94 rfl ?_
        refine V.if_ne (tgt := 108) hC d_U_stopped_96 (by decide) (fun c3 => ?_) (fun c3 => ?_)
        · replace h := h.1 c3
          refine V.bipush (v := 9) hC d_U_stopped_108 (by decide) ?_
          exact hR _ _ _ _ h rfl d_U_stopped_110
        · replace h := h.2 c3
          refine V.iload hC d_U_stopped_99 rfl ?_
          refine V.if_ne (tgt := 108) hC d_U_stopped_101 (by decide) (fun c4 => ?_) (fun c4 => ?_)
          · replace h := h.1 c4
            refine V.bipush (v := 9) hC d_U_stopped_108 (by decide) ?_
            exact hR _ _ _ _ h rfl d_U_stopped_110
          · replace h := h.2 c4
            refine V.iconst (v := 0) hC d_U_stopped_104 (by decide) ?_
            refine V.goto (tgt := 110) hC d_U_stopped_105 (by decide) ?_
            exact hR _ _ _ _ h rfl d_U_stopped_110
  · replace h := h.2 c1
    refine V.iload hC d_U_stopped_22 rfl ?_
    refine V.aload_n hC d_U_stopped_24 rfl rfl ?_
    refine V.getR (j := 5) hC d_U_stopped_25 rfl rfl uC5 rfl rfl qf_U_27 ?_
    refine V.iload hC d_U_stopped_28 rfl ?_
    obtain ⟨b5, h⟩ := h
    refine V.iald hC d_U_stopped_30 rfl b5 ?_
    refine V.iadd hC d_U_stopped_31 ?_
    obtain ⟨v6, ev6⟩ : ∃ y : Int32, y = x5 + (σ 26 (ix x7)) := ⟨_, rfl⟩
    replace h := h v6 ev6
    refine V.istore (y := v6) (lo' := [some (.ref (w.1 4)), some (.int x1), none, some (.int x3), some (.int x4), some (.int v6), some (.int x6), some (.int x7)]) hC d_U_stopped_32 rfl ev6 rfl ?_
    refine V.iload hC d_U_stopped_34 rfl ?_
    refine V.aload_n hC d_U_stopped_36 rfl rfl ?_
    refine V.getR (j := 5) hC d_U_stopped_37 rfl rfl uC5 rfl rfl qf_U_27 ?_
    refine V.iload hC d_U_stopped_40 rfl ?_
    obtain ⟨b7, h⟩ := h
    refine V.iald hC d_U_stopped_42 rfl b7 ?_
    refine V.iconst (v := 2) hC d_U_stopped_43 (by decide) ?_
    refine V.idiv hC d_U_stopped_44 (by decide) ?_
    refine V.iadd hC d_U_stopped_45 ?_
    obtain ⟨v8, ev8⟩ : ∃ y : Int32, y = x6 + ((σ 26 (ix x7)) / (2 : Int32)) := ⟨_, rfl⟩
    replace h := h v8 ev8
    refine V.istore (y := v8) (lo' := [some (.ref (w.1 4)), some (.int x1), none, some (.int x3), some (.int x4), some (.int v6), some (.int v8), some (.int x7)]) hC d_U_stopped_46 rfl ev8 rfl ?_
    obtain ⟨v9, ev9⟩ : ∃ y : Int32, y = x7 + (1 : Int32) := ⟨_, rfl⟩
    replace h := h v9 ev9
    refine V.iinc (y := v9) (lo' := [some (.ref (w.1 4)), some (.int x1), none, some (.int x3), some (.int x4), some (.int v6), some (.int v8), some (.int v9)]) hC d_U_stopped_48 rfl rfl (show v9 = _ + Int32.ofInt (1) from ev9) rfl ?_
    refine V.goto (tgt := 16) hC d_U_stopped_51 (by decide) ?_
    exact V.msk [true, true, false, true, true, true, true, true] rfl h
set_option maxHeartbeats 4000000 in
set_option maxRecDepth 100000 in
theorem w_U_stopped (w : Wd) (σ : Hp) (a1 : Int32) (a2 : Int32) (a3 : Int32) (P : Int32 → Hp → Prop) (h : wp_U_stopped σ a1 a2 a3 P) : CtI μC w y_U_stopped b_U_stopped 8 (some .int) 0 [.ref (w.1 4), .int a1, .int a2, .int a3] σ P := by
  unfold wp_U_stopped at h
  refine CtI.ofV (C := nC5) (lo := [some (.ref (w.1 4)), some (.int a1), some (.int a2), some (.int a3), none, none, none, none]) exC (by decide +kernel) rfl rfl rfl (fun κ hC hR => ?_)
  refine V.iload_n hC d_U_stopped_0 rfl rfl ?_
  refine V.iload_n hC d_U_stopped_1 rfl rfl ?_
  refine V.isub hC d_U_stopped_2 ?_
  refine V.iconst (v := 1) hC d_U_stopped_3 (by decide) ?_
  refine V.isub hC d_U_stopped_4 ?_
  obtain ⟨v10, ev10⟩ : ∃ y : Int32, y = (a3 - a2) - (1 : Int32) := ⟨_, rfl⟩
  replace h := h v10 ev10
  refine V.istore (y := v10) (lo' := [some (.ref (w.1 4)), some (.int a1), some (.int a2), some (.int a3), some (.int v10), none, none, none]) hC d_U_stopped_5 rfl ev10 rfl ?_
  refine V.iconst (v := 0) hC d_U_stopped_7 (by decide) ?_
  refine V.istore (y := (0 : Int32)) (lo' := [some (.ref (w.1 4)), some (.int a1), some (.int a2), some (.int a3), some (.int v10), some (.int (0 : Int32)), none, none]) hC d_U_stopped_8 rfl rfl rfl ?_
  refine V.iconst (v := 0) hC d_U_stopped_10 (by decide) ?_
  refine V.istore (y := (0 : Int32)) (lo' := [some (.ref (w.1 4)), some (.int a1), some (.int a2), some (.int a3), some (.int v10), some (.int (0 : Int32)), some (.int (0 : Int32)), none]) hC d_U_stopped_11 rfl rfl rfl ?_
  refine V.iload_n hC d_U_stopped_13 rfl rfl ?_
  refine V.istore (y := a2) (lo' := [some (.ref (w.1 4)), some (.int a1), some (.int a2), some (.int a3), some (.int v10), some (.int (0 : Int32)), some (.int (0 : Int32)), some (.int a2)]) hC d_U_stopped_14 rfl rfl rfl ?_
  exact V.msk [true, true, false, true, true, true, true, true] rfl (wj_U_stopped_16  hC hR  σ a1 a3 v10 (0 : Int32) (0 : Int32) a2 h)
abbrev b_U_comesThrough : ByteArray := prog_7_method_5_code
def y_U_comesThrough : MethodName := ⟨nC5, "comesThrough", "(II)I"⟩
theorem d_U_comesThrough_0 : decode b_U_comesThrough 0 = .ok (.iconst 0, 1) := by decide +kernel
theorem d_U_comesThrough_1 : decode b_U_comesThrough 1 = .ok (.aload_n 0, 1) := by decide +kernel
theorem d_U_comesThrough_2 : decode b_U_comesThrough 2 = .ok (.getfield 15, 3) := by decide +kernel
theorem d_U_comesThrough_5 : decode b_U_comesThrough 5 = .ok (.iload_n 1, 1) := by decide +kernel
theorem d_U_comesThrough_6 : decode b_U_comesThrough 6 = .ok (.iaload, 1) := by decide +kernel
theorem d_U_comesThrough_7 : decode b_U_comesThrough 7 = .ok (.aload_n 0, 1) := by decide +kernel
theorem d_U_comesThrough_8 : decode b_U_comesThrough 8 = .ok (.aload_n 0, 1) := by decide +kernel
theorem d_U_comesThrough_9 : decode b_U_comesThrough 9 = .ok (.getfield 9, 3) := by decide +kernel
theorem d_U_comesThrough_12 : decode b_U_comesThrough 12 = .ok (.iload_n 1, 1) := by decide +kernel
theorem d_U_comesThrough_13 : decode b_U_comesThrough 13 = .ok (.iaload, 1) := by decide +kernel
theorem d_U_comesThrough_14 : decode b_U_comesThrough 14 = .ok (.iload_n 1, 1) := by decide +kernel
theorem d_U_comesThrough_15 : decode b_U_comesThrough 15 = .ok (.iload_n 2, 1) := by decide +kernel
theorem d_U_comesThrough_16 : decode b_U_comesThrough 16 = .ok (.invokestatic 36, 3) := by decide +kernel
theorem d_U_comesThrough_19 : decode b_U_comesThrough 19 = .ok (.iload_n 1, 1) := by decide +kernel
theorem d_U_comesThrough_20 : decode b_U_comesThrough 20 = .ok (.iload_n 2, 1) := by decide +kernel
theorem d_U_comesThrough_21 : decode b_U_comesThrough 21 = .ok (.invokestatic 65, 3) := by decide +kernel
theorem d_U_comesThrough_24 : decode b_U_comesThrough 24 = .ok (.invokevirtual 68, 3) := by decide +kernel
theorem d_U_comesThrough_27 : decode b_U_comesThrough 27 = .ok (.isub, 1) := by decide +kernel
theorem d_U_comesThrough_28 : decode b_U_comesThrough 28 = .ok (.invokestatic 65, 3) := by decide +kernel
theorem d_U_comesThrough_31 : decode b_U_comesThrough 31 = .ok (.ireturn, 1) := by decide +kernel
theorem qm_U_65 : Cond.methodLink nC5 65 Lib.Math.max.name ∈ tbl := tbl_in 472 (by decide +kernel) rfl
theorem qm_U_68 : Cond.methodLink nC5 68 y_U_stopped ∈ tbl := tbl_in 473 (by decide +kernel) rfl
theorem mo_U_comesThrough : MokV y_U_comesThrough b_U_comesThrough 3 (some .int) 2 := ⟨⟨(tbl_in 471 (by decide +kernel) rfl), (tbl_in 65 (by decide +kernel) rfl)⟩, ⟨(tbl_in 469 (by decide +kernel) rfl), tbl_lw _ (tbl_in 470 (by decide +kernel) rfl), (tbl_in 470 (by decide +kernel) rfl)⟩, ⟨by decide +kernel, by decide +kernel⟩, by decide +kernel⟩
def wp_U_comesThrough (σ : Hp) (a1 : Int32) (a2 : Int32) (P : Int32 → Hp → Prop) : Prop :=
  (vp_in a1 8) ∧ (vp_in a1 8) ∧ wp_U_stopped σ (σ 21 (ix a1)) (if a2 < a1 then a2 else a1) (if a1 < a2 then a2 else a1) (fun (r3 : Int32) (t4 : Hp) => P (if (0 : Int32) < ((σ 22 (ix a1)) - r3) then ((σ 22 (ix a1)) - r3) else (0 : Int32)) t4)
set_option maxHeartbeats 4000000 in
set_option maxRecDepth 100000 in
theorem w_U_comesThrough (w : Wd) (σ : Hp) (a1 : Int32) (a2 : Int32) (P : Int32 → Hp → Prop) (h : wp_U_comesThrough σ a1 a2 P) : CtI μC w y_U_comesThrough b_U_comesThrough 3 (some .int) 1 [.ref (w.1 4), .int a1, .int a2] σ P := by
  unfold wp_U_comesThrough at h
  refine CtI.ofV (C := nC5) (lo := [some (.ref (w.1 4)), some (.int a1), some (.int a2)]) exC (by decide +kernel) rfl rfl rfl (fun κ hC hR => ?_)
  refine V.iconst (v := 0) hC d_U_comesThrough_0 (by decide) ?_
  refine V.aload_n hC d_U_comesThrough_1 rfl rfl ?_
  refine V.getR (j := 1) hC d_U_comesThrough_2 rfl rfl uC5 rfl rfl qf_U_15 ?_
  refine V.iload_n hC d_U_comesThrough_5 rfl rfl ?_
  obtain ⟨b1, h⟩ := h
  refine V.iald hC d_U_comesThrough_6 rfl b1 ?_
  refine V.aload_n hC d_U_comesThrough_7 rfl rfl ?_
  refine V.aload_n hC d_U_comesThrough_8 rfl rfl ?_
  refine V.getR (j := 0) hC d_U_comesThrough_9 rfl rfl uC5 rfl rfl qf_U_9 ?_
  refine V.iload_n hC d_U_comesThrough_12 rfl rfl ?_
  obtain ⟨b2, h⟩ := h
  refine V.iald hC d_U_comesThrough_13 rfl b2 ?_
  refine V.iload_n hC d_U_comesThrough_14 rfl rfl ?_
  refine V.iload_n hC d_U_comesThrough_15 rfl rfl ?_
  refine V.mmin hC d_U_comesThrough_16 qm_U_36 qmin_s qmath_i qmin_c rfl rfl ?_
  refine V.iload_n hC d_U_comesThrough_19 rfl rfl ?_
  refine V.iload_n hC d_U_comesThrough_20 rfl rfl ?_
  refine V.mmax hC d_U_comesThrough_21 qm_U_65 qmax_s qmath_i qmax_c rfl rfl ?_
  refine V.callVI hC exC (w_U_stopped w σ (σ 21 (ix a1)) (if a2 < a1 then a2 else a1) (if a1 < a2 then a2 else a1) _ h) d_U_comesThrough_24 mo_U_stopped qm_U_68 rfl rfl rfl rfl rfl rfl rfl (Nat.le_of_ble_eq_true rfl) (fun r3 t4 h => ?_)
  refine V.isub hC d_U_comesThrough_27 ?_
  refine V.mmax hC d_U_comesThrough_28 qm_U_65 qmax_s qmath_i qmax_c rfl rfl ?_
  exact hR _ _ _ _ h rfl d_U_comesThrough_31
abbrev b_U_duePerDay : ByteArray := prog_7_method_7_code
def y_U_duePerDay : MethodName := ⟨nC5, "duePerDay", "(II)I"⟩
theorem d_U_duePerDay_0 : decode b_U_duePerDay 0 = .ok (.iload_n 1, 1) := by decide +kernel
theorem d_U_duePerDay_1 : decode b_U_duePerDay 1 = .ok (.aload_n 0, 1) := by decide +kernel
theorem d_U_duePerDay_2 : decode b_U_duePerDay 2 = .ok (.getfield 42, 3) := by decide +kernel
theorem d_U_duePerDay_5 : decode b_U_duePerDay 5 = .ok (.if_icmp .ge 11, 3) := by decide +kernel
theorem d_U_duePerDay_8 : decode b_U_duePerDay 8 = .ok (.iload_n 2, 1) := by decide +kernel
theorem d_U_duePerDay_9 : decode b_U_duePerDay 9 = .ok (.aload_n 0, 1) := by decide +kernel
theorem d_U_duePerDay_10 : decode b_U_duePerDay 10 = .ok (.getfield 42, 3) := by decide +kernel
theorem d_U_duePerDay_13 : decode b_U_duePerDay 13 = .ok (.if_icmp .lt 5, 3) := by decide +kernel
theorem d_U_duePerDay_16 : decode b_U_duePerDay 16 = .ok (.iconst 0, 1) := by decide +kernel
theorem d_U_duePerDay_17 : decode b_U_duePerDay 17 = .ok (.ireturn, 1) := by decide +kernel
theorem d_U_duePerDay_18 : decode b_U_duePerDay 18 = .ok (.aload_n 0, 1) := by decide +kernel
theorem d_U_duePerDay_19 : decode b_U_duePerDay 19 = .ok (.getfield 9, 3) := by decide +kernel
theorem d_U_duePerDay_22 : decode b_U_duePerDay 22 = .ok (.iload_n 1, 1) := by decide +kernel
theorem d_U_duePerDay_23 : decode b_U_duePerDay 23 = .ok (.iaload, 1) := by decide +kernel
theorem d_U_duePerDay_24 : decode b_U_duePerDay 24 = .ok (.istore_n 3, 1) := by decide +kernel
theorem d_U_duePerDay_25 : decode b_U_duePerDay 25 = .ok (.iload_n 3, 1) := by decide +kernel
theorem d_U_duePerDay_26 : decode b_U_duePerDay 26 = .ok (.invokestatic 61, 3) := by decide +kernel
theorem d_U_duePerDay_29 : decode b_U_duePerDay 29 = .ok (.ifCond .eq 13, 3) := by decide +kernel
theorem d_U_duePerDay_32 : decode b_U_duePerDay 32 = .ok (.aload_n 0, 1) := by decide +kernel
theorem d_U_duePerDay_33 : decode b_U_duePerDay 33 = .ok (.getfield 18, 3) := by decide +kernel
theorem d_U_duePerDay_36 : decode b_U_duePerDay 36 = .ok (.iload_n 2, 1) := by decide +kernel
theorem d_U_duePerDay_37 : decode b_U_duePerDay 37 = .ok (.iaload, 1) := by decide +kernel
theorem d_U_duePerDay_38 : decode b_U_duePerDay 38 = .ok (.iload_n 3, 1) := by decide +kernel
theorem d_U_duePerDay_39 : decode b_U_duePerDay 39 = .ok (.if_icmp .eq 5, 3) := by decide +kernel
theorem d_U_duePerDay_42 : decode b_U_duePerDay 42 = .ok (.iconst 0, 1) := by decide +kernel
theorem d_U_duePerDay_43 : decode b_U_duePerDay 43 = .ok (.ireturn, 1) := by decide +kernel
theorem d_U_duePerDay_44 : decode b_U_duePerDay 44 = .ok (.aload_n 0, 1) := by decide +kernel
theorem d_U_duePerDay_45 : decode b_U_duePerDay 45 = .ok (.iload_n 1, 1) := by decide +kernel
theorem d_U_duePerDay_46 : decode b_U_duePerDay 46 = .ok (.iload_n 2, 1) := by decide +kernel
theorem d_U_duePerDay_47 : decode b_U_duePerDay 47 = .ok (.invokevirtual 72, 3) := by decide +kernel
theorem d_U_duePerDay_50 : decode b_U_duePerDay 50 = .ok (.aload_n 0, 1) := by decide +kernel
theorem d_U_duePerDay_51 : decode b_U_duePerDay 51 = .ok (.getfield 24, 3) := by decide +kernel
theorem d_U_duePerDay_54 : decode b_U_duePerDay 54 = .ok (.iload_n 3, 1) := by decide +kernel
theorem d_U_duePerDay_55 : decode b_U_duePerDay 55 = .ok (.iaload, 1) := by decide +kernel
theorem d_U_duePerDay_56 : decode b_U_duePerDay 56 = .ok (.imul, 1) := by decide +kernel
theorem d_U_duePerDay_57 : decode b_U_duePerDay 57 = .ok (.ireturn, 1) := by decide +kernel
theorem qm_U_72 : Cond.methodLink nC5 72 y_U_comesThrough ∈ tbl := tbl_in 468 (by decide +kernel) rfl
theorem mo_U_duePerDay : MokV y_U_duePerDay b_U_duePerDay 4 (some .int) 2 := ⟨⟨(tbl_in 467 (by decide +kernel) rfl), (tbl_in 65 (by decide +kernel) rfl)⟩, ⟨(tbl_in 465 (by decide +kernel) rfl), tbl_lw _ (tbl_in 466 (by decide +kernel) rfl), (tbl_in 466 (by decide +kernel) rfl)⟩, ⟨by decide +kernel, by decide +kernel⟩, by decide +kernel⟩
def wp_U_duePerDay (σ : Hp) (a1 : Int32) (a2 : Int32) (P : Int32 → Hp → Prop) : Prop :=
  (((σ 4 6) ≤ a1 → P (0 : Int32) σ) ∧ (¬ (σ 4 6) ≤ a1 → ((a2 < (σ 4 6) → (vp_in a1 8) ∧ (∀ v4 : Int32, v4 = σ 21 (ix a1) → wp_P_isKind σ v4 (fun (r5 : Int32) (t6 : Hp) => ((r5 = 0 → P (0 : Int32) t6) ∧ (¬ r5 = 0 → (vp_in a2 8) ∧ (((t6 23 (ix a2)) = v4 → wp_U_comesThrough t6 a1 a2 (fun (r10 : Int32) (t11 : Hp) => (vp_in v4 3) ∧ P (r10 * (t11 25 (ix v4))) t11)) ∧ (¬ (t6 23 (ix a2)) = v4 → P (0 : Int32) t6))))))) ∧ (¬ a2 < (σ 4 6) → P (0 : Int32) σ))))
set_option maxHeartbeats 4000000 in
set_option maxRecDepth 100000 in
theorem w_U_duePerDay (w : Wd) (σ : Hp) (a1 : Int32) (a2 : Int32) (P : Int32 → Hp → Prop) (h : wp_U_duePerDay σ a1 a2 P) : CtI μC w y_U_duePerDay b_U_duePerDay 4 (some .int) 2 [.ref (w.1 4), .int a1, .int a2] σ P := by
  unfold wp_U_duePerDay at h
  refine CtI.ofV (C := nC5) (lo := [some (.ref (w.1 4)), some (.int a1), some (.int a2), none]) exC (by decide +kernel) rfl rfl rfl (fun κ hC hR => ?_)
  refine V.iload_n hC d_U_duePerDay_0 rfl rfl ?_
  refine V.aload_n hC d_U_duePerDay_1 rfl rfl ?_
  refine V.getI (j := 6) hC d_U_duePerDay_2 rfl rfl uC5 rfl rfl qf_U_42 ?_
  refine V.icmp_ge (tgt := 16) hC d_U_duePerDay_5 (by decide) (fun c1 => ?_) (fun c1 => ?_)
  · replace h := h.1 c1
    refine V.iconst (v := 0) hC d_U_duePerDay_16 (by decide) ?_
    exact hR _ _ _ _ h rfl d_U_duePerDay_17
  · replace h := h.2 c1
    refine V.iload_n hC d_U_duePerDay_8 rfl rfl ?_
    refine V.aload_n hC d_U_duePerDay_9 rfl rfl ?_
    refine V.getI (j := 6) hC d_U_duePerDay_10 rfl rfl uC5 rfl rfl qf_U_42 ?_
    refine V.icmp_lt (tgt := 18) hC d_U_duePerDay_13 (by decide) (fun c2 => ?_) (fun c2 => ?_)
    · replace h := h.1 c2
      refine V.aload_n hC d_U_duePerDay_18 rfl rfl ?_
      refine V.getR (j := 0) hC d_U_duePerDay_19 rfl rfl uC5 rfl rfl qf_U_9 ?_
      refine V.iload_n hC d_U_duePerDay_22 rfl rfl ?_
      obtain ⟨b3, h⟩ := h
      refine V.iald hC d_U_duePerDay_23 rfl b3 ?_
      obtain ⟨v4, ev4⟩ : ∃ y : Int32, y = σ 21 (ix a1) := ⟨_, rfl⟩
      replace h := h v4 ev4
      refine V.istore_n (y := v4) (lo' := [some (.ref (w.1 4)), some (.int a1), some (.int a2), some (.int v4)]) hC d_U_duePerDay_24 rfl rfl ev4 rfl ?_
      refine V.iload_n hC d_U_duePerDay_25 rfl rfl ?_
      refine V.callHI hC exC (w_P_isKind w σ v4 _ h) d_U_duePerDay_26 mo_P_isKind (exNest w) rfl rfl rfl rfl (Nat.le_of_ble_eq_true rfl) (fun r5 t6 h => ?_)
      refine V.if_eq (tgt := 42) hC d_U_duePerDay_29 (by decide) (fun c7 => ?_) (fun c7 => ?_)
      · replace h := h.1 c7
        refine V.iconst (v := 0) hC d_U_duePerDay_42 (by decide) ?_
        exact hR _ _ _ _ h rfl d_U_duePerDay_43
      · replace h := h.2 c7
        refine V.aload_n hC d_U_duePerDay_32 rfl rfl ?_
        refine V.getR (j := 2) hC d_U_duePerDay_33 rfl rfl uC5 rfl rfl qf_U_18 ?_
        refine V.iload_n hC d_U_duePerDay_36 rfl rfl ?_
        obtain ⟨b8, h⟩ := h
        refine V.iald hC d_U_duePerDay_37 rfl b8 ?_
        refine V.iload_n hC d_U_duePerDay_38 rfl rfl ?_
        refine V.icmp_eq (tgt := 44) hC d_U_duePerDay_39 (by decide) (fun c9 => ?_) (fun c9 => ?_)
        · replace h := h.1 c9
          refine V.aload_n hC d_U_duePerDay_44 rfl rfl ?_
          refine V.iload_n hC d_U_duePerDay_45 rfl rfl ?_
          refine V.iload_n hC d_U_duePerDay_46 rfl rfl ?_
          refine V.callVI hC exC (w_U_comesThrough w t6 a1 a2 _ h) d_U_duePerDay_47 mo_U_comesThrough qm_U_72 rfl rfl rfl rfl rfl rfl rfl (Nat.le_of_ble_eq_true rfl) (fun r10 t11 h => ?_)
          refine V.aload_n hC d_U_duePerDay_50 rfl rfl ?_
          refine V.getR (j := 4) hC d_U_duePerDay_51 rfl rfl uC5 rfl rfl qf_U_24 ?_
          refine V.iload_n hC d_U_duePerDay_54 rfl rfl ?_
          obtain ⟨b12, h⟩ := h
          refine V.iald hC d_U_duePerDay_55 rfl b12 ?_
          refine V.imul hC d_U_duePerDay_56 ?_
          exact hR _ _ _ _ h rfl d_U_duePerDay_57
        · replace h := h.2 c9
          refine V.iconst (v := 0) hC d_U_duePerDay_42 (by decide) ?_
          exact hR _ _ _ _ h rfl d_U_duePerDay_43
    · replace h := h.2 c2
      refine V.iconst (v := 0) hC d_U_duePerDay_16 (by decide) ?_
      exact hR _ _ _ _ h rfl d_U_duePerDay_17
abbrev b_D_priceSuits : ByteArray := prog_3_method_2_code
def y_D_priceSuits : MethodName := ⟨nC1, "priceSuits", "()V"⟩
theorem d_D_priceSuits_0 : decode b_D_priceSuits 0 = .ok (.iconst 0, 1) := by decide +kernel
theorem d_D_priceSuits_1 : decode b_D_priceSuits 1 = .ok (.istore_n 1, 1) := by decide +kernel
theorem d_D_priceSuits_2 : decode b_D_priceSuits 2 = .ok (.iload_n 1, 1) := by decide +kernel
theorem d_D_priceSuits_3 : decode b_D_priceSuits 3 = .ok (.aload_n 0, 1) := by decide +kernel
theorem d_D_priceSuits_4 : decode b_D_priceSuits 4 = .ok (.getfield 21, 3) := by decide +kernel
theorem d_D_priceSuits_7 : decode b_D_priceSuits 7 = .ok (.getfield 41, 3) := by decide +kernel
theorem d_D_priceSuits_10 : decode b_D_priceSuits 10 = .ok (.if_icmp .ge 40, 3) := by decide +kernel
theorem d_D_priceSuits_13 : decode b_D_priceSuits 13 = .ok (.aload_n 0, 1) := by decide +kernel
theorem d_D_priceSuits_14 : decode b_D_priceSuits 14 = .ok (.getfield 29, 3) := by decide +kernel
theorem d_D_priceSuits_17 : decode b_D_priceSuits 17 = .ok (.iload_n 1, 1) := by decide +kernel
theorem d_D_priceSuits_18 : decode b_D_priceSuits 18 = .ok (.aload_n 0, 1) := by decide +kernel
theorem d_D_priceSuits_19 : decode b_D_priceSuits 19 = .ok (.getfield 12, 3) := by decide +kernel
theorem d_D_priceSuits_22 : decode b_D_priceSuits 22 = .ok (.aload_n 0, 1) := by decide +kernel
theorem d_D_priceSuits_23 : decode b_D_priceSuits 23 = .ok (.getfield 21, 3) := by decide +kernel
theorem d_D_priceSuits_26 : decode b_D_priceSuits 26 = .ok (.getfield 45, 3) := by decide +kernel
theorem d_D_priceSuits_29 : decode b_D_priceSuits 29 = .ok (.iload_n 1, 1) := by decide +kernel
theorem d_D_priceSuits_30 : decode b_D_priceSuits 30 = .ok (.iaload, 1) := by decide +kernel
theorem d_D_priceSuits_31 : decode b_D_priceSuits 31 = .ok (.aload_n 0, 1) := by decide +kernel
theorem d_D_priceSuits_32 : decode b_D_priceSuits 32 = .ok (.getfield 21, 3) := by decide +kernel
theorem d_D_priceSuits_35 : decode b_D_priceSuits 35 = .ok (.getfield 48, 3) := by decide +kernel
theorem d_D_priceSuits_38 : decode b_D_priceSuits 38 = .ok (.iload_n 1, 1) := by decide +kernel
theorem d_D_priceSuits_39 : decode b_D_priceSuits 39 = .ok (.iaload, 1) := by decide +kernel
theorem d_D_priceSuits_40 : decode b_D_priceSuits 40 = .ok (.invokevirtual 51, 3) := by decide +kernel
theorem d_D_priceSuits_43 : decode b_D_priceSuits 43 = .ok (.iastore, 1) := by decide +kernel
theorem d_D_priceSuits_44 : decode b_D_priceSuits 44 = .ok (.iinc 1 1, 3) := by decide +kernel
theorem d_D_priceSuits_47 : decode b_D_priceSuits 47 = .ok (.goto (-45), 3) := by decide +kernel
theorem d_D_priceSuits_50 : decode b_D_priceSuits 50 = .ok (.return_, 1) := by decide +kernel
theorem qf_D_12 : Cond.fieldLink nC1 12 (fC1 0).1 (fC1 0).2.1 (fC1 0).2.2.1 ∈ tbl := tbl_in 202 (by decide +kernel) rfl
theorem qf_D_21 : Cond.fieldLink nC1 21 (fC1 1).1 (fC1 1).2.1 (fC1 1).2.2.1 ∈ tbl := tbl_in 205 (by decide +kernel) rfl
theorem qf_D_29 : Cond.fieldLink nC1 29 (fC1 3).1 (fC1 3).2.1 (fC1 3).2.2.1 ∈ tbl := tbl_in 210 (by decide +kernel) rfl
theorem qf_D_41 : Cond.fieldLink nC1 41 (fC2 6).1 (fC2 6).2.1 (fC2 6).2.2.1 ∈ tbl := tbl_in 180 (by decide +kernel) rfl
theorem qf_D_45 : Cond.fieldLink nC1 45 (fC2 1).1 (fC2 1).2.1 (fC2 1).2.2.1 ∈ tbl := tbl_in 170 (by decide +kernel) rfl
theorem qf_D_48 : Cond.fieldLink nC1 48 (fC2 2).1 (fC2 2).2.1 (fC2 2).2.2.1 ∈ tbl := tbl_in 173 (by decide +kernel) rfl
theorem qm_D_51 : Cond.methodLink nC1 51 y_U_duePerDay ∈ tbl := tbl_in 464 (by decide +kernel) rfl
theorem mo_D_priceSuits : MokV y_D_priceSuits b_D_priceSuits 2 none 0 := ⟨⟨(tbl_in 463 (by decide +kernel) rfl), (tbl_in 64 (by decide +kernel) rfl)⟩, ⟨(tbl_in 461 (by decide +kernel) rfl), tbl_lw _ (tbl_in 462 (by decide +kernel) rfl), (tbl_in 462 (by decide +kernel) rfl)⟩, ⟨by decide +kernel, by decide +kernel⟩, by decide +kernel⟩
def b_D_priceSuits_2_ (P : Hp → Prop)  (I2 : Hp → Int32 → Prop) (σ : Hp) (x1 : Int32) : Prop :=
  (((σ 5 6) ≤ x1 → P σ) ∧ (¬ (σ 5 6) ≤ x1 → (vp_in x1 12) ∧ (vp_in x1 12) ∧ wp_U_duePerDay σ (σ 28 (ix x1)) (σ 29 (ix x1)) (fun (r4 : Int32) (t5 : Hp) => (vp_in x1 12) ∧ (∀ v7 : Int32, v7 = x1 + (1 : Int32) → I2 (st t5 17 (ix x1) r4) v7))))
def j_D_priceSuits_2 (P : Hp → Prop)  (σ : Hp) (x1 : Int32) : Prop := ∀ I2 : Hp → Int32 → Prop, (∀ (σ : Hp) (x1 : Int32), b_D_priceSuits_2_  P  I2 σ x1 → I2 σ x1) → I2 σ x1
def wp_D_priceSuits (σ : Hp)  (P : Hp → Prop) : Prop :=
  j_D_priceSuits_2 P σ (0 : Int32)
set_option maxHeartbeats 4000000 in
set_option maxRecDepth 100000 in
theorem wj_D_priceSuits_2 {w : Wd} {κ : Kx} {P : Hp → Prop} (hC : Cx μC w 2 κ nC1 b_D_priceSuits 3) (hR : RtN μC w 2 κ b_D_priceSuits P)  : ∀ (σ : Hp) (x1 : Int32), j_D_priceSuits_2  P  σ x1 → V μC w 2 κ σ [some (.ref (w.1 3)), some (.int x1)] 2 [] := by
  intro σ x1 h
  refine h (fun σ x1 => V μC w 2 κ σ [some (.ref (w.1 3)), some (.int x1)] 2 []) (fun σ x1 h => ?_)
  unfold b_D_priceSuits_2_ at h
  refine V.iload_n hC d_D_priceSuits_2 rfl rfl ?_
  refine V.aload_n hC d_D_priceSuits_3 rfl rfl ?_
  refine V.getR (j := 1) hC d_D_priceSuits_4 rfl rfl uC1 rfl rfl qf_D_21 ?_
  refine V.getI (j := 6) hC d_D_priceSuits_7 rfl rfl uC2 rfl rfl qf_D_41 ?_
  refine V.icmp_ge (tgt := 50) hC d_D_priceSuits_10 (by decide) (fun c1 => ?_) (fun c1 => ?_)
  · replace h := h.1 c1
    exact hR _ _ _ h d_D_priceSuits_50
  · replace h := h.2 c1
    refine V.aload_n hC d_D_priceSuits_13 rfl rfl ?_
    refine V.getR (j := 3) hC d_D_priceSuits_14 rfl rfl uC1 rfl rfl qf_D_29 ?_
    refine V.iload_n hC d_D_priceSuits_17 rfl rfl ?_
    refine V.aload_n hC d_D_priceSuits_18 rfl rfl ?_
    refine V.getR (j := 0) hC d_D_priceSuits_19 rfl rfl uC1 rfl rfl qf_D_12 ?_
    refine V.aload_n hC d_D_priceSuits_22 rfl rfl ?_
    refine V.getR (j := 1) hC d_D_priceSuits_23 rfl rfl uC1 rfl rfl qf_D_21 ?_
    refine V.getR (j := 1) hC d_D_priceSuits_26 rfl rfl uC2 rfl rfl qf_D_45 ?_
    refine V.iload_n hC d_D_priceSuits_29 rfl rfl ?_
    obtain ⟨b2, h⟩ := h
    refine V.iald hC d_D_priceSuits_30 rfl b2 ?_
    refine V.aload_n hC d_D_priceSuits_31 rfl rfl ?_
    refine V.getR (j := 1) hC d_D_priceSuits_32 rfl rfl uC1 rfl rfl qf_D_21 ?_
    refine V.getR (j := 2) hC d_D_priceSuits_35 rfl rfl uC2 rfl rfl qf_D_48 ?_
    refine V.iload_n hC d_D_priceSuits_38 rfl rfl ?_
    obtain ⟨b3, h⟩ := h
    refine V.iald hC d_D_priceSuits_39 rfl b3 ?_
    refine V.callVI hC exC (w_U_duePerDay w σ (σ 28 (ix x1)) (σ 29 (ix x1)) _ h) d_D_priceSuits_40 mo_U_duePerDay qm_D_51 rfl rfl rfl rfl rfl rfl rfl (Nat.le_of_ble_eq_true rfl) (fun r4 t5 h => ?_)
    obtain ⟨b6, h⟩ := h
    refine V.iast hC d_D_priceSuits_43 rfl b6 ?_
    obtain ⟨v7, ev7⟩ : ∃ y : Int32, y = x1 + (1 : Int32) := ⟨_, rfl⟩
    replace h := h v7 ev7
    refine V.iinc (y := v7) (lo' := [some (.ref (w.1 3)), some (.int v7)]) hC d_D_priceSuits_44 rfl rfl (show v7 = _ + Int32.ofInt (1) from ev7) rfl ?_
    refine V.goto (tgt := 2) hC d_D_priceSuits_47 (by decide) ?_
    exact V.msk [true, true] rfl h
set_option maxHeartbeats 4000000 in
set_option maxRecDepth 100000 in
theorem w_D_priceSuits (w : Wd) (σ : Hp)  (P : Hp → Prop) (h : wp_D_priceSuits σ  P) : CtN μC w y_D_priceSuits b_D_priceSuits 2 none 3 [.ref (w.1 3)] σ P := by
  unfold wp_D_priceSuits at h
  refine CtN.ofV (C := nC1) (lo := [some (.ref (w.1 3)), none]) exC (by decide +kernel) rfl rfl rfl (fun κ hC hR => ?_)
  refine V.iconst (v := 0) hC d_D_priceSuits_0 (by decide) ?_
  refine V.istore_n (y := (0 : Int32)) (lo' := [some (.ref (w.1 3)), some (.int (0 : Int32))]) hC d_D_priceSuits_1 rfl rfl rfl rfl ?_
  exact V.msk [true, true] rfl (wj_D_priceSuits_2  hC hR  σ (0 : Int32) h)
abbrev b_P_takeText : ByteArray := prog_1_method_50_code
def y_P_takeText : MethodName := ⟨nC7, "takeText", "(I)V"⟩
theorem d_P_takeText_0 : decode b_P_takeText 0 = .ok (.iload_n 1, 1) := by decide +kernel
theorem d_P_takeText_1 : decode b_P_takeText 1 = .ok (.ifCond .ne 17, 3) := by decide +kernel
theorem d_P_takeText_4 : decode b_P_takeText 4 = .ok (.aload_n 0, 1) := by decide +kernel
theorem d_P_takeText_5 : decode b_P_takeText 5 = .ok (.getfield 36, 3) := by decide +kernel
theorem d_P_takeText_8 : decode b_P_takeText 8 = .ok (.aload_n 0, 1) := by decide +kernel
theorem d_P_takeText_9 : decode b_P_takeText 9 = .ok (.getfield 16, 3) := by decide +kernel
theorem d_P_takeText_12 : decode b_P_takeText 12 = .ok (.invokevirtual 379, 3) := by decide +kernel
theorem d_P_takeText_15 : decode b_P_takeText 15 = .ok (.goto 14, 3) := by decide +kernel
theorem d_P_takeText_18 : decode b_P_takeText 18 = .ok (.aload_n 0, 1) := by decide +kernel
theorem d_P_takeText_19 : decode b_P_takeText 19 = .ok (.getfield 36, 3) := by decide +kernel
theorem d_P_takeText_22 : decode b_P_takeText 22 = .ok (.aload_n 0, 1) := by decide +kernel
theorem d_P_takeText_23 : decode b_P_takeText 23 = .ok (.getfield 22, 3) := by decide +kernel
theorem d_P_takeText_26 : decode b_P_takeText 26 = .ok (.invokevirtual 383, 3) := by decide +kernel
theorem d_P_takeText_29 : decode b_P_takeText 29 = .ok (.aload_n 0, 1) := by decide +kernel
theorem d_P_takeText_30 : decode b_P_takeText 30 = .ok (.getfield 28, 3) := by decide +kernel
theorem d_P_takeText_33 : decode b_P_takeText 33 = .ok (.invokevirtual 123, 3) := by decide +kernel
theorem d_P_takeText_36 : decode b_P_takeText 36 = .ok (.return_, 1) := by decide +kernel
theorem qf_P_28 : Cond.fieldLink nC7 28 (fC7 2).1 (fC7 2).2.1 (fC7 2).2.2.1 ∈ tbl := tbl_in 287 (by decide +kernel) rfl
theorem qf_P_36 : Cond.fieldLink nC7 36 (fC7 3).1 (fC7 3).2.1 (fC7 3).2.2.1 ∈ tbl := tbl_in 288 (by decide +kernel) rfl
theorem qm_P_123 : Cond.methodLink nC7 123 y_D_priceSuits ∈ tbl := tbl_in 460 (by decide +kernel) rfl
theorem qm_P_379 : Cond.methodLink nC7 379 y_U_takeHouses ∈ tbl := tbl_in 339 (by decide +kernel) rfl
theorem qm_P_383 : Cond.methodLink nC7 383 y_U_takeRulings ∈ tbl := tbl_in 450 (by decide +kernel) rfl
theorem mo_P_takeText : MokV y_P_takeText b_P_takeText 2 none 1 := ⟨⟨(tbl_in 338 (by decide +kernel) rfl), (tbl_in 62 (by decide +kernel) rfl)⟩, ⟨(tbl_in 337 (by decide +kernel) rfl), tbl_lw _ (tbl_in 1 (by decide +kernel) rfl), (tbl_in 1 (by decide +kernel) rfl)⟩, ⟨by decide +kernel, by decide +kernel⟩, by decide +kernel⟩
def j_P_takeText_29 (P : Hp → Prop)  (σ : Hp)  : Prop :=
  wp_D_priceSuits σ (fun (t2 : Hp) => P t2)
def wp_P_takeText (σ : Hp) (a1 : Int32) (P : Hp → Prop) : Prop :=
  ((¬ a1 = 0 → wp_U_takeRulings σ (fun (t5 : Hp) => j_P_takeText_29 P t5 )) ∧ (a1 = 0 → wp_U_takeHouses σ (fun (t7 : Hp) => j_P_takeText_29 P t7 )))
set_option maxHeartbeats 4000000 in
set_option maxRecDepth 100000 in
theorem wj_P_takeText_29 {w : Wd} {κ : Kx} {P : Hp → Prop} (hC : Cx μC w 2 κ nC7 b_P_takeText 8) (hR : RtN μC w 2 κ b_P_takeText P)  : ∀ (σ : Hp) , j_P_takeText_29  P  σ  → V μC w 2 κ σ [some (.ref (w.1 0)), none] 29 [] := by
  intro σ  h
  unfold j_P_takeText_29 at h
  refine V.aload_n hC d_P_takeText_29 rfl rfl ?_
  refine V.getR (j := 2) hC d_P_takeText_30 rfl rfl uC7 rfl rfl qf_P_28 ?_
  refine V.callVN hC exC (w_D_priceSuits w σ  _ h) d_P_takeText_33 mo_D_priceSuits qm_P_123 rfl rfl rfl rfl rfl rfl rfl (Nat.le_of_ble_eq_true rfl) (fun t2 h => ?_)
  exact hR _ _ _ h d_P_takeText_36
set_option maxHeartbeats 4000000 in
set_option maxRecDepth 100000 in
theorem w_P_takeText (w : Wd) (σ : Hp) (a1 : Int32) (P : Hp → Prop) (h : wp_P_takeText σ a1 P) : CtN μC w y_P_takeText b_P_takeText 2 none 8 [.ref (w.1 0), .int a1] σ P := by
  unfold wp_P_takeText at h
  refine CtN.ofV (C := nC7) (lo := [some (.ref (w.1 0)), some (.int a1)]) exC (by decide +kernel) rfl rfl rfl (fun κ hC hR => ?_)
  refine V.iload_n hC d_P_takeText_0 rfl rfl ?_
  refine V.if_ne (tgt := 18) hC d_P_takeText_1 (by decide) (fun c3 => ?_) (fun c3 => ?_)
  · replace h := h.1 c3
    refine V.aload_n hC d_P_takeText_18 rfl rfl ?_
    refine V.getR (j := 3) hC d_P_takeText_19 rfl rfl uC7 rfl rfl qf_P_36 ?_
    refine V.aload_n hC d_P_takeText_22 rfl rfl ?_
    refine V.getR (j := 1) hC d_P_takeText_23 rfl rfl uC7 rfl rfl qf_P_22 ?_
    refine V.callVN hC exC (w_U_takeRulings w σ  _ h) d_P_takeText_26 mo_U_takeRulings qm_P_383 rfl rfl rfl rfl rfl rfl rfl (Nat.le_of_ble_eq_true rfl) (fun t5 h => ?_)
    exact V.msk [true, false] rfl (wj_P_takeText_29  hC hR  t5  h)
  · replace h := h.2 c3
    refine V.aload_n hC d_P_takeText_4 rfl rfl ?_
    refine V.getR (j := 3) hC d_P_takeText_5 rfl rfl uC7 rfl rfl qf_P_36 ?_
    refine V.aload_n hC d_P_takeText_8 rfl rfl ?_
    refine V.getR (j := 0) hC d_P_takeText_9 rfl rfl uC7 rfl rfl qf_P_16 ?_
    refine V.callVN hC exC (w_U_takeHouses w σ  _ h) d_P_takeText_12 mo_U_takeHouses qm_P_379 rfl rfl rfl rfl rfl rfl rfl (Nat.le_of_ble_eq_true rfl) (fun t7 h => ?_)
    refine V.goto (tgt := 29) hC d_P_takeText_15 (by decide) ?_
    exact V.msk [true, false] rfl (wj_P_takeText_29  hC hR  t7  h)
