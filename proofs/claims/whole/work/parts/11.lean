abbrev b_P_type : ByteArray := prog_1_method_2_code
def y_P_type : MethodName := ⟨nC7, "type", "(II)I"⟩
theorem d_P_type_0 : decode b_P_type 0 = .ok (.iload_n 1, 1) := by decide +kernel
theorem d_P_type_1 : decode b_P_type 1 = .ok (.invokestatic 71, 3) := by decide +kernel
theorem d_P_type_4 : decode b_P_type 4 = .ok (.ifCond .eq 14, 3) := by decide +kernel
theorem d_P_type_7 : decode b_P_type 7 = .ok (.iload_n 2, 1) := by decide +kernel
theorem d_P_type_8 : decode b_P_type 8 = .ok (.ifCond .lt 10, 3) := by decide +kernel
theorem d_P_type_11 : decode b_P_type 11 = .ok (.iload_n 2, 1) := by decide +kernel
theorem d_P_type_12 : decode b_P_type 12 = .ok (.sipush 255, 3) := by decide +kernel
theorem d_P_type_15 : decode b_P_type 15 = .ok (.if_icmp .le 6, 3) := by decide +kernel
theorem d_P_type_18 : decode b_P_type 18 = .ok (.bipush (-2), 2) := by decide +kernel
theorem d_P_type_20 : decode b_P_type 20 = .ok (.ireturn, 1) := by decide +kernel
theorem d_P_type_21 : decode b_P_type 21 = .ok (.aload_n 0, 1) := by decide +kernel
theorem d_P_type_22 : decode b_P_type 22 = .ok (.iload_n 1, 1) := by decide +kernel
theorem d_P_type_23 : decode b_P_type 23 = .ok (.invokevirtual 75, 3) := by decide +kernel
theorem d_P_type_26 : decode b_P_type 26 = .ok (.astore_n 3, 1) := by decide +kernel
theorem d_P_type_27 : decode b_P_type 27 = .ok (.aload_n 3, 1) := by decide +kernel
theorem d_P_type_28 : decode b_P_type 28 = .ok (.invokevirtual 79, 3) := by decide +kernel
theorem d_P_type_31 : decode b_P_type 31 = .ok (.ifCond .eq 6, 3) := by decide +kernel
theorem d_P_type_34 : decode b_P_type 34 = .ok (.bipush (-4), 2) := by decide +kernel
theorem d_P_type_36 : decode b_P_type 36 = .ok (.ireturn, 1) := by decide +kernel
theorem d_P_type_37 : decode b_P_type 37 = .ok (.aload_n 3, 1) := by decide +kernel
theorem d_P_type_38 : decode b_P_type 38 = .ok (.iload_n 2, 1) := by decide +kernel
theorem d_P_type_39 : decode b_P_type 39 = .ok (.invokevirtual 83, 3) := by decide +kernel
theorem d_P_type_42 : decode b_P_type 42 = .ok (.aload_n 0, 1) := by decide +kernel
theorem d_P_type_43 : decode b_P_type 43 = .ok (.iload_n 1, 1) := by decide +kernel
theorem d_P_type_44 : decode b_P_type 44 = .ok (.invokevirtual 87, 3) := by decide +kernel
theorem d_P_type_47 : decode b_P_type 47 = .ok (.aload_n 3, 1) := by decide +kernel
theorem d_P_type_48 : decode b_P_type 48 = .ok (.getfield 90, 3) := by decide +kernel
theorem d_P_type_51 : decode b_P_type 51 = .ok (.ireturn, 1) := by decide +kernel
theorem qf_P_90 : Cond.fieldLink nC7 90 (fC6 3).1 (fC6 3).2.1 (fC6 3).2.2.1 ∈ tbl := tbl_in 99 (by decide +kernel) rfl
theorem qm_P_71 : Cond.methodLink nC7 71 y_P_isText ∈ tbl := tbl_in 320 (by decide +kernel) rfl
theorem qm_P_75 : Cond.methodLink nC7 75 y_P_textOf ∈ tbl := tbl_in 323 (by decide +kernel) rfl
theorem qm_P_79 : Cond.methodLink nC7 79 y_T_isFull ∈ tbl := tbl_in 327 (by decide +kernel) rfl
theorem qm_P_83 : Cond.methodLink nC7 83 y_T_append ∈ tbl := tbl_in 331 (by decide +kernel) rfl
theorem qm_P_87 : Cond.methodLink nC7 87 y_P_takeText ∈ tbl := tbl_in 335 (by decide +kernel) rfl
def wp_P_type (σ : Hp) (a1 : Int32) (a2 : Int32) (P : Int32 → Hp → Prop) : Prop :=
  wp_P_isText σ a1 (fun (r1 : Int32) (t2 : Hp) => ((r1 = 0 → P (-2 : Int32) t2) ∧ (¬ r1 = 0 → ((a2 < 0 → P (-2 : Int32) t2) ∧ (¬ a2 < 0 → ((a2 ≤ (255 : Int32) → wp_P_textOf t2 a1 (fun (r6 : Nat) (t7 : Hp) => (isT r6) ∧ wp_T_isFull t7 r6 (fun (r9 : Int32) (t10 : Hp) => ((r9 = 0 → wp_T_append t10 r6 a2 (fun (t13 : Hp) => wp_P_takeText t13 a1 (fun (t15 : Hp) => P (t15 r6 3) t15))) ∧ (¬ r9 = 0 → P (-4 : Int32) t10))))) ∧ (¬ a2 ≤ (255 : Int32) → P (-2 : Int32) t2)))))))
set_option maxHeartbeats 4000000 in
set_option maxRecDepth 100000 in
theorem w_P_type (w : Wd) (σ : Hp) (a1 : Int32) (a2 : Int32) (P : Int32 → Hp → Prop) (h : wp_P_type σ a1 a2 P) : CtI μC w y_P_type b_P_type 4 (some .int) 9 [.ref (w.1 0), .int a1, .int a2] σ P := by
  unfold wp_P_type at h
  refine CtI.ofV (C := nC7) (lo := [some (.ref (w.1 0)), some (.int a1), some (.int a2), none]) exC (by decide +kernel) rfl rfl rfl (fun κ hC hR => ?_)
  refine V.iload_n hC d_P_type_0 rfl rfl ?_
  refine V.callSI hC exC (w_P_isText w σ a1 _ h) d_P_type_1 mo_P_isText qm_P_71 rfl rfl rfl rfl (Nat.le_of_ble_eq_true rfl) (fun r1 t2 h => ?_)
  refine V.if_eq (tgt := 18) hC d_P_type_4 (by decide) (fun c3 => ?_) (fun c3 => ?_)
  · replace h := h.1 c3
    refine V.bipush (v := -2) hC d_P_type_18 (by decide) ?_
    exact hR _ _ _ _ h rfl d_P_type_20
  · replace h := h.2 c3
    refine V.iload_n hC d_P_type_7 rfl rfl ?_
    refine V.if_lt (tgt := 18) hC d_P_type_8 (by decide) (fun c4 => ?_) (fun c4 => ?_)
    · replace h := h.1 c4
      refine V.bipush (v := -2) hC d_P_type_18 (by decide) ?_
      exact hR _ _ _ _ h rfl d_P_type_20
    · replace h := h.2 c4
      refine V.iload_n hC d_P_type_11 rfl rfl ?_
      refine V.sipush (v := 255) hC d_P_type_12 (by decide) ?_
      refine V.icmp_le (tgt := 21) hC d_P_type_15 (by decide) (fun c5 => ?_) (fun c5 => ?_)
      · replace h := h.1 c5
        refine V.aload_n hC d_P_type_21 rfl rfl ?_
        refine V.iload_n hC d_P_type_22 rfl rfl ?_
        refine V.callVR hC exC (w_P_textOf w t2 a1 _ h) d_P_type_23 mo_P_textOf qm_P_75 rfl rfl rfl rfl rfl rfl rfl (Nat.le_of_ble_eq_true rfl) (fun r6 t7 h => ?_)
        obtain ⟨m8, h⟩ := h
        refine V.astore_n (lo' := [some (.ref (w.1 0)), some (.int a1), some (.int a2), some (.ref (w.1 r6))]) hC d_P_type_26 rfl rfl rfl ?_
        refine V.aload_n hC d_P_type_27 rfl rfl ?_
        refine V.callVI hC exC (w_T_isFull w t7 r6 _ h) d_P_type_28 mo_T_isFull qm_P_79 (shT m8) rfl rfl rfl rfl rfl rfl (Nat.le_of_ble_eq_true rfl) (fun r9 t10 h => ?_)
        refine V.if_eq (tgt := 37) hC d_P_type_31 (by decide) (fun c11 => ?_) (fun c11 => ?_)
        · replace h := h.1 c11
          refine V.aload_n hC d_P_type_37 rfl rfl ?_
          refine V.iload_n hC d_P_type_38 rfl rfl ?_
          refine V.callVN hC exC (w_T_append w t10 r6 a2 _ h) d_P_type_39 mo_T_append qm_P_83 (shT m8) rfl rfl rfl rfl rfl rfl (Nat.le_of_ble_eq_true rfl) (fun t13 h => ?_)
          refine V.aload_n hC d_P_type_42 rfl rfl ?_
          refine V.iload_n hC d_P_type_43 rfl rfl ?_
          refine V.callVN hC exC (w_P_takeText w t13 a1 _ h) d_P_type_44 mo_P_takeText qm_P_87 rfl rfl rfl rfl rfl rfl rfl (Nat.le_of_ble_eq_true rfl) (fun t15 h => ?_)
          refine V.aload_n hC d_P_type_47 rfl rfl ?_
          refine V.getI (j := 3) hC d_P_type_48 (shT m8) rfl uC6 rfl rfl qf_P_90 ?_
          exact hR _ _ _ _ h rfl d_P_type_51
        · replace h := h.2 c11
          refine V.bipush (v := -4) hC d_P_type_34 (by decide) ?_
          exact hR _ _ _ _ h rfl d_P_type_36
      · replace h := h.2 c5
        refine V.bipush (v := -2) hC d_P_type_18 (by decide) ?_
        exact hR _ _ _ _ h rfl d_P_type_20
abbrev b_P_wipe : ByteArray := prog_1_method_3_code
def y_P_wipe : MethodName := ⟨nC7, "wipe", "(I)I"⟩
theorem d_P_wipe_0 : decode b_P_wipe 0 = .ok (.iload_n 1, 1) := by decide +kernel
theorem d_P_wipe_1 : decode b_P_wipe 1 = .ok (.invokestatic 71, 3) := by decide +kernel
theorem d_P_wipe_4 : decode b_P_wipe 4 = .ok (.ifCond .ne 6, 3) := by decide +kernel
theorem d_P_wipe_7 : decode b_P_wipe 7 = .ok (.bipush (-2), 2) := by decide +kernel
theorem d_P_wipe_9 : decode b_P_wipe 9 = .ok (.ireturn, 1) := by decide +kernel
theorem d_P_wipe_10 : decode b_P_wipe 10 = .ok (.aload_n 0, 1) := by decide +kernel
theorem d_P_wipe_11 : decode b_P_wipe 11 = .ok (.iload_n 1, 1) := by decide +kernel
theorem d_P_wipe_12 : decode b_P_wipe 12 = .ok (.invokevirtual 75, 3) := by decide +kernel
theorem d_P_wipe_15 : decode b_P_wipe 15 = .ok (.getfield 90, 3) := by decide +kernel
theorem d_P_wipe_18 : decode b_P_wipe 18 = .ok (.istore_n 2, 1) := by decide +kernel
theorem d_P_wipe_19 : decode b_P_wipe 19 = .ok (.aload_n 0, 1) := by decide +kernel
theorem d_P_wipe_20 : decode b_P_wipe 20 = .ok (.iload_n 1, 1) := by decide +kernel
theorem d_P_wipe_21 : decode b_P_wipe 21 = .ok (.invokevirtual 75, 3) := by decide +kernel
theorem d_P_wipe_24 : decode b_P_wipe 24 = .ok (.iconst 0, 1) := by decide +kernel
theorem d_P_wipe_25 : decode b_P_wipe 25 = .ok (.putfield 90, 3) := by decide +kernel
theorem d_P_wipe_28 : decode b_P_wipe 28 = .ok (.aload_n 0, 1) := by decide +kernel
theorem d_P_wipe_29 : decode b_P_wipe 29 = .ok (.iload_n 1, 1) := by decide +kernel
theorem d_P_wipe_30 : decode b_P_wipe 30 = .ok (.invokevirtual 87, 3) := by decide +kernel
theorem d_P_wipe_33 : decode b_P_wipe 33 = .ok (.iload_n 2, 1) := by decide +kernel
theorem d_P_wipe_34 : decode b_P_wipe 34 = .ok (.ireturn, 1) := by decide +kernel
def wp_P_wipe (σ : Hp) (a1 : Int32) (P : Int32 → Hp → Prop) : Prop :=
  wp_P_isText σ a1 (fun (r1 : Int32) (t2 : Hp) => ((¬ r1 = 0 → wp_P_textOf t2 a1 (fun (r4 : Nat) (t5 : Hp) => (isT r4) ∧ (∀ v7 : Int32, v7 = t5 r4 3 → wp_P_textOf t5 a1 (fun (r8 : Nat) (t9 : Hp) => (isT r8) ∧ wp_P_takeText (st t9 r8 3 (0 : Int32)) a1 (fun (t12 : Hp) => P v7 t12))))) ∧ (r1 = 0 → P (-2 : Int32) t2)))
set_option maxHeartbeats 4000000 in
set_option maxRecDepth 100000 in
theorem w_P_wipe (w : Wd) (σ : Hp) (a1 : Int32) (P : Int32 → Hp → Prop) (h : wp_P_wipe σ a1 P) : CtI μC w y_P_wipe b_P_wipe 3 (some .int) 9 [.ref (w.1 0), .int a1] σ P := by
  unfold wp_P_wipe at h
  refine CtI.ofV (C := nC7) (lo := [some (.ref (w.1 0)), some (.int a1), none]) exC (by decide +kernel) rfl rfl rfl (fun κ hC hR => ?_)
  refine V.iload_n hC d_P_wipe_0 rfl rfl ?_
  refine V.callSI hC exC (w_P_isText w σ a1 _ h) d_P_wipe_1 mo_P_isText qm_P_71 rfl rfl rfl rfl (Nat.le_of_ble_eq_true rfl) (fun r1 t2 h => ?_)
  refine V.if_ne (tgt := 10) hC d_P_wipe_4 (by decide) (fun c3 => ?_) (fun c3 => ?_)
  · replace h := h.1 c3
    refine V.aload_n hC d_P_wipe_10 rfl rfl ?_
    refine V.iload_n hC d_P_wipe_11 rfl rfl ?_
    refine V.callVR hC exC (w_P_textOf w t2 a1 _ h) d_P_wipe_12 mo_P_textOf qm_P_75 rfl rfl rfl rfl rfl rfl rfl (Nat.le_of_ble_eq_true rfl) (fun r4 t5 h => ?_)
    obtain ⟨m6, h⟩ := h
    refine V.getI (j := 3) hC d_P_wipe_15 (shT m6) rfl uC6 rfl rfl qf_P_90 ?_
    obtain ⟨v7, ev7⟩ : ∃ y : Int32, y = t5 r4 3 := ⟨_, rfl⟩
    replace h := h v7 ev7
    refine V.istore_n (y := v7) (lo' := [some (.ref (w.1 0)), some (.int a1), some (.int v7)]) hC d_P_wipe_18 rfl rfl ev7 rfl ?_
    refine V.aload_n hC d_P_wipe_19 rfl rfl ?_
    refine V.iload_n hC d_P_wipe_20 rfl rfl ?_
    refine V.callVR hC exC (w_P_textOf w t5 a1 _ h) d_P_wipe_21 mo_P_textOf qm_P_75 rfl rfl rfl rfl rfl rfl rfl (Nat.le_of_ble_eq_true rfl) (fun r8 t9 h => ?_)
    obtain ⟨m10, h⟩ := h
    refine V.iconst (v := 0) hC d_P_wipe_24 (by decide) ?_
    refine V.put (j := 3) hC d_P_wipe_25 (shT m10) rfl uC6 pC6 dC6 rfl rfl rfl rfl rfl qf_P_90 ?_
    refine V.aload_n hC d_P_wipe_28 rfl rfl ?_
    refine V.iload_n hC d_P_wipe_29 rfl rfl ?_
    refine V.callVN hC exC (w_P_takeText w (st t9 r8 3 (0 : Int32)) a1 _ h) d_P_wipe_30 mo_P_takeText qm_P_87 rfl rfl rfl rfl rfl rfl rfl (Nat.le_of_ble_eq_true rfl) (fun t12 h => ?_)
    refine V.iload_n hC d_P_wipe_33 rfl rfl ?_
    exact hR _ _ _ _ h rfl d_P_wipe_34
  · replace h := h.2 c3
    refine V.bipush (v := -2) hC d_P_wipe_7 (by decide) ?_
    exact hR _ _ _ _ h rfl d_P_wipe_9
abbrev b_P_undo : ByteArray := prog_1_method_4_code
def y_P_undo : MethodName := ⟨nC7, "undo", "(I)I"⟩
theorem d_P_undo_0 : decode b_P_undo 0 = .ok (.iload_n 1, 1) := by decide +kernel
theorem d_P_undo_1 : decode b_P_undo 1 = .ok (.invokestatic 71, 3) := by decide +kernel
theorem d_P_undo_4 : decode b_P_undo 4 = .ok (.ifCond .ne 6, 3) := by decide +kernel
theorem d_P_undo_7 : decode b_P_undo 7 = .ok (.bipush (-2), 2) := by decide +kernel
theorem d_P_undo_9 : decode b_P_undo 9 = .ok (.ireturn, 1) := by decide +kernel
theorem d_P_undo_10 : decode b_P_undo 10 = .ok (.aload_n 0, 1) := by decide +kernel
theorem d_P_undo_11 : decode b_P_undo 11 = .ok (.iload_n 1, 1) := by decide +kernel
theorem d_P_undo_12 : decode b_P_undo 12 = .ok (.invokevirtual 75, 3) := by decide +kernel
theorem d_P_undo_15 : decode b_P_undo 15 = .ok (.astore_n 2, 1) := by decide +kernel
theorem d_P_undo_16 : decode b_P_undo 16 = .ok (.aload_n 2, 1) := by decide +kernel
theorem d_P_undo_17 : decode b_P_undo 17 = .ok (.getfield 90, 3) := by decide +kernel
theorem d_P_undo_20 : decode b_P_undo 20 = .ok (.ifCond .ne 6, 3) := by decide +kernel
theorem d_P_undo_23 : decode b_P_undo 23 = .ok (.bipush (-3), 2) := by decide +kernel
theorem d_P_undo_25 : decode b_P_undo 25 = .ok (.ireturn, 1) := by decide +kernel
theorem d_P_undo_26 : decode b_P_undo 26 = .ok (.aload_n 2, 1) := by decide +kernel
theorem d_P_undo_27 : decode b_P_undo 27 = .ok (.dup, 1) := by decide +kernel
theorem d_P_undo_28 : decode b_P_undo 28 = .ok (.getfield 90, 3) := by decide +kernel
theorem d_P_undo_31 : decode b_P_undo 31 = .ok (.iconst 1, 1) := by decide +kernel
theorem d_P_undo_32 : decode b_P_undo 32 = .ok (.isub, 1) := by decide +kernel
theorem d_P_undo_33 : decode b_P_undo 33 = .ok (.putfield 90, 3) := by decide +kernel
theorem d_P_undo_36 : decode b_P_undo 36 = .ok (.aload_n 0, 1) := by decide +kernel
theorem d_P_undo_37 : decode b_P_undo 37 = .ok (.iload_n 1, 1) := by decide +kernel
theorem d_P_undo_38 : decode b_P_undo 38 = .ok (.invokevirtual 87, 3) := by decide +kernel
theorem d_P_undo_41 : decode b_P_undo 41 = .ok (.aload_n 2, 1) := by decide +kernel
theorem d_P_undo_42 : decode b_P_undo 42 = .ok (.getfield 90, 3) := by decide +kernel
theorem d_P_undo_45 : decode b_P_undo 45 = .ok (.ireturn, 1) := by decide +kernel
def wp_P_undo (σ : Hp) (a1 : Int32) (P : Int32 → Hp → Prop) : Prop :=
  wp_P_isText σ a1 (fun (r1 : Int32) (t2 : Hp) => ((¬ r1 = 0 → wp_P_textOf t2 a1 (fun (r4 : Nat) (t5 : Hp) => (isT r4) ∧ ((¬ (t5 r4 3) = 0 → wp_P_takeText (st t5 r4 3 ((t5 r4 3) - (1 : Int32))) a1 (fun (t9 : Hp) => P (t9 r4 3) t9)) ∧ ((t5 r4 3) = 0 → P (-3 : Int32) t5)))) ∧ (r1 = 0 → P (-2 : Int32) t2)))
set_option maxHeartbeats 4000000 in
set_option maxRecDepth 100000 in
theorem w_P_undo (w : Wd) (σ : Hp) (a1 : Int32) (P : Int32 → Hp → Prop) (h : wp_P_undo σ a1 P) : CtI μC w y_P_undo b_P_undo 3 (some .int) 9 [.ref (w.1 0), .int a1] σ P := by
  unfold wp_P_undo at h
  refine CtI.ofV (C := nC7) (lo := [some (.ref (w.1 0)), some (.int a1), none]) exC (by decide +kernel) rfl rfl rfl (fun κ hC hR => ?_)
  refine V.iload_n hC d_P_undo_0 rfl rfl ?_
  refine V.callSI hC exC (w_P_isText w σ a1 _ h) d_P_undo_1 mo_P_isText qm_P_71 rfl rfl rfl rfl (Nat.le_of_ble_eq_true rfl) (fun r1 t2 h => ?_)
  refine V.if_ne (tgt := 10) hC d_P_undo_4 (by decide) (fun c3 => ?_) (fun c3 => ?_)
  · replace h := h.1 c3
    refine V.aload_n hC d_P_undo_10 rfl rfl ?_
    refine V.iload_n hC d_P_undo_11 rfl rfl ?_
    refine V.callVR hC exC (w_P_textOf w t2 a1 _ h) d_P_undo_12 mo_P_textOf qm_P_75 rfl rfl rfl rfl rfl rfl rfl (Nat.le_of_ble_eq_true rfl) (fun r4 t5 h => ?_)
    obtain ⟨m6, h⟩ := h
    refine V.astore_n (lo' := [some (.ref (w.1 0)), some (.int a1), some (.ref (w.1 r4))]) hC d_P_undo_15 rfl rfl rfl ?_
    refine V.aload_n hC d_P_undo_16 rfl rfl ?_
    refine V.getI (j := 3) hC d_P_undo_17 (shT m6) rfl uC6 rfl rfl qf_P_90 ?_
    refine V.if_ne (tgt := 26) hC d_P_undo_20 (by decide) (fun c7 => ?_) (fun c7 => ?_)
    · replace h := h.1 c7
      refine V.aload_n hC d_P_undo_26 rfl rfl ?_
      refine V.dup hC d_P_undo_27 rfl ?_
      refine V.getI (j := 3) hC d_P_undo_28 (shT m6) rfl uC6 rfl rfl qf_P_90 ?_
      refine V.iconst (v := 1) hC d_P_undo_31 (by decide) ?_
      refine V.isub hC d_P_undo_32 ?_
      refine V.put (j := 3) hC d_P_undo_33 (shT m6) rfl uC6 pC6 dC6 rfl rfl rfl rfl rfl qf_P_90 ?_
      refine V.aload_n hC d_P_undo_36 rfl rfl ?_
      refine V.iload_n hC d_P_undo_37 rfl rfl ?_
      refine V.callVN hC exC (w_P_takeText w (st t5 r4 3 ((t5 r4 3) - (1 : Int32))) a1 _ h) d_P_undo_38 mo_P_takeText qm_P_87 rfl rfl rfl rfl rfl rfl rfl (Nat.le_of_ble_eq_true rfl) (fun t9 h => ?_)
      refine V.aload_n hC d_P_undo_41 rfl rfl ?_
      refine V.getI (j := 3) hC d_P_undo_42 (shT m6) rfl uC6 rfl rfl qf_P_90 ?_
      exact hR _ _ _ _ h rfl d_P_undo_45
    · replace h := h.2 c7
      refine V.bipush (v := -3) hC d_P_undo_23 (by decide) ?_
      exact hR _ _ _ _ h rfl d_P_undo_25
  · replace h := h.2 c3
    refine V.bipush (v := -2) hC d_P_undo_7 (by decide) ?_
    exact hR _ _ _ _ h rfl d_P_undo_9
abbrev b_P_fault : ByteArray := prog_1_method_5_code
def y_P_fault : MethodName := ⟨nC7, "fault", "(I)I"⟩
theorem d_P_fault_0 : decode b_P_fault 0 = .ok (.iload_n 1, 1) := by decide +kernel
theorem d_P_fault_1 : decode b_P_fault 1 = .ok (.invokestatic 71, 3) := by decide +kernel
theorem d_P_fault_4 : decode b_P_fault 4 = .ok (.ifCond .eq 14, 3) := by decide +kernel
theorem d_P_fault_7 : decode b_P_fault 7 = .ok (.aload_n 0, 1) := by decide +kernel
theorem d_P_fault_8 : decode b_P_fault 8 = .ok (.iload_n 1, 1) := by decide +kernel
theorem d_P_fault_9 : decode b_P_fault 9 = .ok (.invokevirtual 75, 3) := by decide +kernel
theorem d_P_fault_12 : decode b_P_fault 12 = .ok (.invokevirtual 93, 3) := by decide +kernel
theorem d_P_fault_15 : decode b_P_fault 15 = .ok (.goto 5, 3) := by decide +kernel
theorem d_P_fault_18 : decode b_P_fault 18 = .ok (.bipush (-2), 2) := by decide +kernel
theorem d_P_fault_20 : decode b_P_fault 20 = .ok (.ireturn, 1) := by decide +kernel
theorem qm_P_93 : Cond.methodLink nC7 93 y_T_faultPlace ∈ tbl := tbl_in 489 (by decide +kernel) rfl
theorem mo_P_fault : MokV y_P_fault b_P_fault 2 (some .int) 1 := ⟨⟨(tbl_in 488 (by decide +kernel) rfl), (tbl_in 62 (by decide +kernel) rfl)⟩, ⟨(tbl_in 486 (by decide +kernel) rfl), tbl_lw _ (tbl_in 487 (by decide +kernel) rfl), (tbl_in 487 (by decide +kernel) rfl)⟩, ⟨by decide +kernel, by decide +kernel⟩, by decide +kernel⟩
def wp_P_fault (σ : Hp) (a1 : Int32) (P : Int32 → Hp → Prop) : Prop :=
  wp_P_isText σ a1 (fun (r1 : Int32) (t2 : Hp) => ((r1 = 0 → P (-2 : Int32) t2) ∧ (¬ r1 = 0 → wp_P_textOf t2 a1 (fun (r4 : Nat) (t5 : Hp) => (isT r4) ∧ wp_T_faultPlace t5 r4 (fun (r7 : Int32) (t8 : Hp) => P r7 t8)))))
set_option maxHeartbeats 4000000 in
set_option maxRecDepth 100000 in
theorem w_P_fault (w : Wd) (σ : Hp) (a1 : Int32) (P : Int32 → Hp → Prop) (h : wp_P_fault σ a1 P) : CtI μC w y_P_fault b_P_fault 2 (some .int) 6 [.ref (w.1 0), .int a1] σ P := by
  unfold wp_P_fault at h
  refine CtI.ofV (C := nC7) (lo := [some (.ref (w.1 0)), some (.int a1)]) exC (by decide +kernel) rfl rfl rfl (fun κ hC hR => ?_)
  refine V.iload_n hC d_P_fault_0 rfl rfl ?_
  refine V.callSI hC exC (w_P_isText w σ a1 _ h) d_P_fault_1 mo_P_isText qm_P_71 rfl rfl rfl rfl (Nat.le_of_ble_eq_true rfl) (fun r1 t2 h => ?_)
  refine V.if_eq (tgt := 18) hC d_P_fault_4 (by decide) (fun c3 => ?_) (fun c3 => ?_)
  · replace h := h.1 c3
    refine V.bipush (v := -2) hC d_P_fault_18 (by decide) ?_
    exact hR _ _ _ _ h rfl d_P_fault_20
  · replace h := h.2 c3
    refine V.aload_n hC d_P_fault_7 rfl rfl ?_
    refine V.iload_n hC d_P_fault_8 rfl rfl ?_
    refine V.callVR hC exC (w_P_textOf w t2 a1 _ h) d_P_fault_9 mo_P_textOf qm_P_75 rfl rfl rfl rfl rfl rfl rfl (Nat.le_of_ble_eq_true rfl) (fun r4 t5 h => ?_)
    obtain ⟨m6, h⟩ := h
    refine V.callVI hC exC (w_T_faultPlace w t5 r4 _ h) d_P_fault_12 mo_T_faultPlace qm_P_93 (shT m6) rfl rfl rfl rfl rfl rfl (Nat.le_of_ble_eq_true rfl) (fun r7 t8 h => ?_)
    refine V.goto (tgt := 20) hC d_P_fault_15 (by decide) ?_
    exact hR _ _ _ _ h rfl d_P_fault_20
abbrev b_P_isHouse : ByteArray := prog_1_method_47_code
def y_P_isHouse : MethodName := ⟨nC7, "isHouse", "(I)Z"⟩
theorem d_P_isHouse_0 : decode b_P_isHouse 0 = .ok (.iload_n 1, 1) := by decide +kernel
theorem d_P_isHouse_1 : decode b_P_isHouse 1 = .ok (.ifCond .lt 18, 3) := by decide +kernel
theorem d_P_isHouse_4 : decode b_P_isHouse 4 = .ok (.iload_n 1, 1) := by decide +kernel
theorem d_P_isHouse_5 : decode b_P_isHouse 5 = .ok (.aload_n 0, 1) := by decide +kernel
theorem d_P_isHouse_6 : decode b_P_isHouse 6 = .ok (.getfield 36, 3) := by decide +kernel
theorem d_P_isHouse_9 : decode b_P_isHouse 9 = .ok (.getfield 196, 3) := by decide +kernel
theorem d_P_isHouse_12 : decode b_P_isHouse 12 = .ok (.if_icmp .ge 7, 3) := by decide +kernel
theorem d_P_isHouse_15 : decode b_P_isHouse 15 = .ok (.iconst 1, 1) := by decide +kernel
theorem d_P_isHouse_16 : decode b_P_isHouse 16 = .ok (.goto 4, 3) := by decide +kernel
theorem d_P_isHouse_19 : decode b_P_isHouse 19 = .ok (.iconst 0, 1) := by decide +kernel
theorem d_P_isHouse_20 : decode b_P_isHouse 20 = .ok (.ireturn, 1) := by decide +kernel
theorem qf_P_196 : Cond.fieldLink nC7 196 (fC5 6).1 (fC5 6).2.1 (fC5 6).2.2.1 ∈ tbl := tbl_in 140 (by decide +kernel) rfl
theorem mo_P_isHouse : MokV y_P_isHouse b_P_isHouse 2 (some .boolean) 1 := ⟨⟨(tbl_in 497 (by decide +kernel) rfl), (tbl_in 62 (by decide +kernel) rfl)⟩, ⟨(tbl_in 496 (by decide +kernel) rfl), tbl_lw _ (tbl_in 4 (by decide +kernel) rfl), (tbl_in 4 (by decide +kernel) rfl)⟩, ⟨by decide +kernel, by decide +kernel⟩, by decide +kernel⟩
def wp_P_isHouse (σ : Hp) (a1 : Int32) (P : Int32 → Hp → Prop) : Prop :=
  ((a1 < 0 → P (0 : Int32) σ) ∧ (¬ a1 < 0 → (((σ 4 6) ≤ a1 → P (0 : Int32) σ) ∧ (¬ (σ 4 6) ≤ a1 → P (1 : Int32) σ))))
set_option maxHeartbeats 4000000 in
set_option maxRecDepth 100000 in
theorem w_P_isHouse (w : Wd) (σ : Hp) (a1 : Int32) (P : Int32 → Hp → Prop) (h : wp_P_isHouse σ a1 P) : CtI μC w y_P_isHouse b_P_isHouse 2 (some .boolean) 0 [.ref (w.1 0), .int a1] σ P := by
  unfold wp_P_isHouse at h
  refine CtI.ofV (C := nC7) (lo := [some (.ref (w.1 0)), some (.int a1)]) exC (by decide +kernel) rfl rfl rfl (fun κ hC hR => ?_)
  refine V.iload_n hC d_P_isHouse_0 rfl rfl ?_
  refine V.if_lt (tgt := 19) hC d_P_isHouse_1 (by decide) (fun c1 => ?_) (fun c1 => ?_)
  · replace h := h.1 c1
    refine V.iconst (v := 0) hC d_P_isHouse_19 (by decide) ?_
    exact hR _ _ _ _ h (by decide) d_P_isHouse_20
  · replace h := h.2 c1
    refine V.iload_n hC d_P_isHouse_4 rfl rfl ?_
    refine V.aload_n hC d_P_isHouse_5 rfl rfl ?_
    refine V.getR (j := 3) hC d_P_isHouse_6 rfl rfl uC7 rfl rfl qf_P_36 ?_
    refine V.getI (j := 6) hC d_P_isHouse_9 rfl rfl uC5 rfl rfl qf_P_196 ?_
    refine V.icmp_ge (tgt := 19) hC d_P_isHouse_12 (by decide) (fun c2 => ?_) (fun c2 => ?_)
    · replace h := h.1 c2
      refine V.iconst (v := 0) hC d_P_isHouse_19 (by decide) ?_
      exact hR _ _ _ _ h (by decide) d_P_isHouse_20
    · replace h := h.2 c2
      refine V.iconst (v := 1) hC d_P_isHouse_15 (by decide) ?_
      refine V.goto (tgt := 20) hC d_P_isHouse_16 (by decide) ?_
      exact hR _ _ _ _ h (by decide) d_P_isHouse_20
abbrev b_P_house : ByteArray := prog_1_method_6_code
def y_P_house : MethodName := ⟨nC7, "house", "(II)I"⟩
theorem d_P_house_0 : decode b_P_house 0 = .ok (.aload_n 0, 1) := by decide +kernel
theorem d_P_house_1 : decode b_P_house 1 = .ok (.iload_n 1, 1) := by decide +kernel
theorem d_P_house_2 : decode b_P_house 2 = .ok (.invokevirtual 97, 3) := by decide +kernel
theorem d_P_house_5 : decode b_P_house 5 = .ok (.ifCond .ne 6, 3) := by decide +kernel
theorem d_P_house_8 : decode b_P_house 8 = .ok (.bipush (-2), 2) := by decide +kernel
theorem d_P_house_10 : decode b_P_house 10 = .ok (.ireturn, 1) := by decide +kernel
theorem d_P_house_11 : decode b_P_house 11 = .ok (.iload_n 2, 1) := by decide +kernel
theorem d_P_house_12 : decode b_P_house 12 = .ok (.tableswitch 72 0 3 #[32, 42, 52, 62], 32) := by decide +kernel
theorem d_P_house_44 : decode b_P_house 44 = .ok (.aload_n 0, 1) := by decide +kernel
theorem d_P_house_45 : decode b_P_house 45 = .ok (.getfield 36, 3) := by decide +kernel
theorem d_P_house_48 : decode b_P_house 48 = .ok (.getfield 100, 3) := by decide +kernel
theorem d_P_house_51 : decode b_P_house 51 = .ok (.iload_n 1, 1) := by decide +kernel
theorem d_P_house_52 : decode b_P_house 52 = .ok (.iaload, 1) := by decide +kernel
theorem d_P_house_53 : decode b_P_house 53 = .ok (.ireturn, 1) := by decide +kernel
theorem d_P_house_54 : decode b_P_house 54 = .ok (.aload_n 0, 1) := by decide +kernel
theorem d_P_house_55 : decode b_P_house 55 = .ok (.getfield 36, 3) := by decide +kernel
theorem d_P_house_58 : decode b_P_house 58 = .ok (.getfield 105, 3) := by decide +kernel
theorem d_P_house_61 : decode b_P_house 61 = .ok (.iload_n 1, 1) := by decide +kernel
theorem d_P_house_62 : decode b_P_house 62 = .ok (.iaload, 1) := by decide +kernel
theorem d_P_house_63 : decode b_P_house 63 = .ok (.ireturn, 1) := by decide +kernel
theorem d_P_house_64 : decode b_P_house 64 = .ok (.aload_n 0, 1) := by decide +kernel
theorem d_P_house_65 : decode b_P_house 65 = .ok (.getfield 36, 3) := by decide +kernel
theorem d_P_house_68 : decode b_P_house 68 = .ok (.getfield 108, 3) := by decide +kernel
theorem d_P_house_71 : decode b_P_house 71 = .ok (.iload_n 1, 1) := by decide +kernel
theorem d_P_house_72 : decode b_P_house 72 = .ok (.iaload, 1) := by decide +kernel
theorem d_P_house_73 : decode b_P_house 73 = .ok (.ireturn, 1) := by decide +kernel
theorem d_P_house_74 : decode b_P_house 74 = .ok (.aload_n 0, 1) := by decide +kernel
theorem d_P_house_75 : decode b_P_house 75 = .ok (.getfield 36, 3) := by decide +kernel
theorem d_P_house_78 : decode b_P_house 78 = .ok (.getfield 111, 3) := by decide +kernel
theorem d_P_house_81 : decode b_P_house 81 = .ok (.iload_n 1, 1) := by decide +kernel
theorem d_P_house_82 : decode b_P_house 82 = .ok (.iaload, 1) := by decide +kernel
theorem d_P_house_83 : decode b_P_house 83 = .ok (.ireturn, 1) := by decide +kernel
theorem d_P_house_84 : decode b_P_house 84 = .ok (.bipush (-2), 2) := by decide +kernel
theorem d_P_house_86 : decode b_P_house 86 = .ok (.ireturn, 1) := by decide +kernel
theorem qf_P_100 : Cond.fieldLink nC7 100 (fC5 0).1 (fC5 0).2.1 (fC5 0).2.2.1 ∈ tbl := tbl_in 125 (by decide +kernel) rfl
theorem qf_P_105 : Cond.fieldLink nC7 105 (fC5 1).1 (fC5 1).2.1 (fC5 1).2.2.1 ∈ tbl := tbl_in 127 (by decide +kernel) rfl
theorem qf_P_108 : Cond.fieldLink nC7 108 (fC5 2).1 (fC5 2).2.1 (fC5 2).2.2.1 ∈ tbl := tbl_in 129 (by decide +kernel) rfl
theorem qf_P_111 : Cond.fieldLink nC7 111 (fC5 3).1 (fC5 3).2.1 (fC5 3).2.2.1 ∈ tbl := tbl_in 131 (by decide +kernel) rfl
theorem qm_P_97 : Cond.methodLink nC7 97 y_P_isHouse ∈ tbl := tbl_in 494 (by decide +kernel) rfl
theorem mo_P_house : MokV y_P_house b_P_house 3 (some .int) 2 := ⟨⟨(tbl_in 493 (by decide +kernel) rfl), (tbl_in 62 (by decide +kernel) rfl)⟩, ⟨(tbl_in 491 (by decide +kernel) rfl), tbl_lw _ (tbl_in 492 (by decide +kernel) rfl), (tbl_in 492 (by decide +kernel) rfl)⟩, ⟨by decide +kernel, by decide +kernel⟩, by decide +kernel⟩
def wp_P_house (σ : Hp) (a1 : Int32) (a2 : Int32) (P : Int32 → Hp → Prop) : Prop :=
  wp_P_isHouse σ a1 (fun (r1 : Int32) (t2 : Hp) => ((¬ r1 = 0 → (((a2.toInt < 0 ∨ (3 : Int) < a2.toInt) → P (-2 : Int32) t2) ∧ (a2 = 0 → (vp_in a1 8) ∧ P (t2 21 (ix a1)) t2) ∧ (a2 = 1 → (vp_in a1 8) ∧ P (t2 22 (ix a1)) t2) ∧ (a2 = 2 → (vp_in a1 8) ∧ P (t2 23 (ix a1)) t2) ∧ (a2 = 3 → (vp_in a1 8) ∧ P (t2 24 (ix a1)) t2))) ∧ (r1 = 0 → P (-2 : Int32) t2)))
set_option maxHeartbeats 4000000 in
set_option maxRecDepth 100000 in
theorem w_P_house (w : Wd) (σ : Hp) (a1 : Int32) (a2 : Int32) (P : Int32 → Hp → Prop) (h : wp_P_house σ a1 a2 P) : CtI μC w y_P_house b_P_house 3 (some .int) 1 [.ref (w.1 0), .int a1, .int a2] σ P := by
  unfold wp_P_house at h
  refine CtI.ofV (C := nC7) (lo := [some (.ref (w.1 0)), some (.int a1), some (.int a2)]) exC (by decide +kernel) rfl rfl rfl (fun κ hC hR => ?_)
  refine V.aload_n hC d_P_house_0 rfl rfl ?_
  refine V.iload_n hC d_P_house_1 rfl rfl ?_
  refine V.callVI hC exC (w_P_isHouse w σ a1 _ h) d_P_house_2 mo_P_isHouse qm_P_97 rfl rfl rfl rfl rfl rfl rfl (Nat.le_of_ble_eq_true rfl) (fun r1 t2 h => ?_)
  refine V.if_ne (tgt := 11) hC d_P_house_5 (by decide) (fun c3 => ?_) (fun c3 => ?_)
  · replace h := h.1 c3
    refine V.iload_n hC d_P_house_11 rfl rfl ?_
    rcases sw_cases a2 3 with c4 | ⟨k9, hk9, c4⟩
    · refine V.tabOut (tgt := 84) hC d_P_house_12 c4 (by decide) ?_
      replace h := h.1 c4
      refine V.bipush (v := -2) hC d_P_house_84 (by decide) ?_
      exact hR _ _ _ _ h rfl d_P_house_86
    · rcases (show k9 = 0 ∨ k9 = 1 ∨ k9 = 2 ∨ k9 = 3 by omega) with rfl | rfl | rfl | rfl
      · refine V.tabIn (tgt := 44) hC d_P_house_12 (by rw [c4]; decide) (by rw [c4]; decide) (by rw [c4]; rfl) (by decide) ?_
        replace h := h.2.1 c4
        refine V.aload_n hC d_P_house_44 rfl rfl ?_
        refine V.getR (j := 3) hC d_P_house_45 rfl rfl uC7 rfl rfl qf_P_36 ?_
        refine V.getR (j := 0) hC d_P_house_48 rfl rfl uC5 rfl rfl qf_P_100 ?_
        refine V.iload_n hC d_P_house_51 rfl rfl ?_
        obtain ⟨b5, h⟩ := h
        refine V.iald hC d_P_house_52 rfl b5 ?_
        exact hR _ _ _ _ h rfl d_P_house_53
      · refine V.tabIn (tgt := 54) hC d_P_house_12 (by rw [c4]; decide) (by rw [c4]; decide) (by rw [c4]; rfl) (by decide) ?_
        replace h := h.2.2.1 c4
        refine V.aload_n hC d_P_house_54 rfl rfl ?_
        refine V.getR (j := 3) hC d_P_house_55 rfl rfl uC7 rfl rfl qf_P_36 ?_
        refine V.getR (j := 1) hC d_P_house_58 rfl rfl uC5 rfl rfl qf_P_105 ?_
        refine V.iload_n hC d_P_house_61 rfl rfl ?_
        obtain ⟨b6, h⟩ := h
        refine V.iald hC d_P_house_62 rfl b6 ?_
        exact hR _ _ _ _ h rfl d_P_house_63
      · refine V.tabIn (tgt := 64) hC d_P_house_12 (by rw [c4]; decide) (by rw [c4]; decide) (by rw [c4]; rfl) (by decide) ?_
        replace h := h.2.2.2.1 c4
        refine V.aload_n hC d_P_house_64 rfl rfl ?_
        refine V.getR (j := 3) hC d_P_house_65 rfl rfl uC7 rfl rfl qf_P_36 ?_
        refine V.getR (j := 2) hC d_P_house_68 rfl rfl uC5 rfl rfl qf_P_108 ?_
        refine V.iload_n hC d_P_house_71 rfl rfl ?_
        obtain ⟨b7, h⟩ := h
        refine V.iald hC d_P_house_72 rfl b7 ?_
        exact hR _ _ _ _ h rfl d_P_house_73
      · refine V.tabIn (tgt := 74) hC d_P_house_12 (by rw [c4]; decide) (by rw [c4]; decide) (by rw [c4]; rfl) (by decide) ?_
        replace h := h.2.2.2.2 c4
        refine V.aload_n hC d_P_house_74 rfl rfl ?_
        refine V.getR (j := 3) hC d_P_house_75 rfl rfl uC7 rfl rfl qf_P_36 ?_
        refine V.getR (j := 3) hC d_P_house_78 rfl rfl uC5 rfl rfl qf_P_111 ?_
        refine V.iload_n hC d_P_house_81 rfl rfl ?_
        obtain ⟨b8, h⟩ := h
        refine V.iald hC d_P_house_82 rfl b8 ?_
        exact hR _ _ _ _ h rfl d_P_house_83
  · replace h := h.2 c3
    refine V.bipush (v := -2) hC d_P_house_8 (by decide) ?_
    exact hR _ _ _ _ h rfl d_P_house_10
abbrev b_P_rate : ByteArray := prog_1_method_7_code
def y_P_rate : MethodName := ⟨nC7, "rate", "(I)I"⟩
theorem d_P_rate_0 : decode b_P_rate 0 = .ok (.iload_n 1, 1) := by decide +kernel
theorem d_P_rate_1 : decode b_P_rate 1 = .ok (.invokestatic 114, 3) := by decide +kernel
theorem d_P_rate_4 : decode b_P_rate 4 = .ok (.ifCond .eq 15, 3) := by decide +kernel
theorem d_P_rate_7 : decode b_P_rate 7 = .ok (.aload_n 0, 1) := by decide +kernel
theorem d_P_rate_8 : decode b_P_rate 8 = .ok (.getfield 36, 3) := by decide +kernel
theorem d_P_rate_11 : decode b_P_rate 11 = .ok (.getfield 117, 3) := by decide +kernel
theorem d_P_rate_14 : decode b_P_rate 14 = .ok (.iload_n 1, 1) := by decide +kernel
theorem d_P_rate_15 : decode b_P_rate 15 = .ok (.iaload, 1) := by decide +kernel
theorem d_P_rate_16 : decode b_P_rate 16 = .ok (.goto 5, 3) := by decide +kernel
theorem d_P_rate_19 : decode b_P_rate 19 = .ok (.bipush (-2), 2) := by decide +kernel
theorem d_P_rate_21 : decode b_P_rate 21 = .ok (.ireturn, 1) := by decide +kernel
theorem qf_P_117 : Cond.fieldLink nC7 117 (fC5 4).1 (fC5 4).2.1 (fC5 4).2.2.1 ∈ tbl := tbl_in 134 (by decide +kernel) rfl
theorem qm_P_114 : Cond.methodLink nC7 114 y_P_isKind ∈ tbl := tbl_in 502 (by decide +kernel) rfl
theorem mo_P_rate : MokV y_P_rate b_P_rate 2 (some .int) 1 := ⟨⟨(tbl_in 501 (by decide +kernel) rfl), (tbl_in 62 (by decide +kernel) rfl)⟩, ⟨(tbl_in 499 (by decide +kernel) rfl), tbl_lw _ (tbl_in 500 (by decide +kernel) rfl), (tbl_in 500 (by decide +kernel) rfl)⟩, ⟨by decide +kernel, by decide +kernel⟩, by decide +kernel⟩
def wp_P_rate (σ : Hp) (a1 : Int32) (P : Int32 → Hp → Prop) : Prop :=
  wp_P_isKind σ a1 (fun (r1 : Int32) (t2 : Hp) => ((r1 = 0 → P (-2 : Int32) t2) ∧ (¬ r1 = 0 → (vp_in a1 3) ∧ P (t2 25 (ix a1)) t2)))
set_option maxHeartbeats 4000000 in
set_option maxRecDepth 100000 in
theorem w_P_rate (w : Wd) (σ : Hp) (a1 : Int32) (P : Int32 → Hp → Prop) (h : wp_P_rate σ a1 P) : CtI μC w y_P_rate b_P_rate 2 (some .int) 1 [.ref (w.1 0), .int a1] σ P := by
  unfold wp_P_rate at h
  refine CtI.ofV (C := nC7) (lo := [some (.ref (w.1 0)), some (.int a1)]) exC (by decide +kernel) rfl rfl rfl (fun κ hC hR => ?_)
  refine V.iload_n hC d_P_rate_0 rfl rfl ?_
  refine V.callSI hC exC (w_P_isKind w σ a1 _ h) d_P_rate_1 mo_P_isKind qm_P_114 rfl rfl rfl rfl (Nat.le_of_ble_eq_true rfl) (fun r1 t2 h => ?_)
  refine V.if_eq (tgt := 19) hC d_P_rate_4 (by decide) (fun c3 => ?_) (fun c3 => ?_)
  · replace h := h.1 c3
    refine V.bipush (v := -2) hC d_P_rate_19 (by decide) ?_
    exact hR _ _ _ _ h rfl d_P_rate_21
  · replace h := h.2 c3
    refine V.aload_n hC d_P_rate_7 rfl rfl ?_
    refine V.getR (j := 3) hC d_P_rate_8 rfl rfl uC7 rfl rfl qf_P_36 ?_
    refine V.getR (j := 4) hC d_P_rate_11 rfl rfl uC5 rfl rfl qf_P_117 ?_
    refine V.iload_n hC d_P_rate_14 rfl rfl ?_
    obtain ⟨b4, h⟩ := h
    refine V.iald hC d_P_rate_15 rfl b4 ?_
    refine V.goto (tgt := 21) hC d_P_rate_16 (by decide) ?_
    exact hR _ _ _ _ h rfl d_P_rate_21
abbrev b_P_wall : ByteArray := prog_1_method_8_code
def y_P_wall : MethodName := ⟨nC7, "wall", "(II)I"⟩
theorem d_P_wall_0 : decode b_P_wall 0 = .ok (.iload_n 1, 1) := by decide +kernel
theorem d_P_wall_1 : decode b_P_wall 1 = .ok (.ifCond .lt 19, 3) := by decide +kernel
theorem d_P_wall_4 : decode b_P_wall 4 = .ok (.iload_n 1, 1) := by decide +kernel
theorem d_P_wall_5 : decode b_P_wall 5 = .ok (.bipush 7, 2) := by decide +kernel
theorem d_P_wall_7 : decode b_P_wall 7 = .ok (.if_icmp .ge 13, 3) := by decide +kernel
theorem d_P_wall_10 : decode b_P_wall 10 = .ok (.iload_n 2, 1) := by decide +kernel
theorem d_P_wall_11 : decode b_P_wall 11 = .ok (.ifCond .lt 9, 3) := by decide +kernel
theorem d_P_wall_14 : decode b_P_wall 14 = .ok (.iload_n 2, 1) := by decide +kernel
theorem d_P_wall_15 : decode b_P_wall 15 = .ok (.bipush 10, 2) := by decide +kernel
theorem d_P_wall_17 : decode b_P_wall 17 = .ok (.if_icmp .lt 6, 3) := by decide +kernel
theorem d_P_wall_20 : decode b_P_wall 20 = .ok (.bipush (-2), 2) := by decide +kernel
theorem d_P_wall_22 : decode b_P_wall 22 = .ok (.ireturn, 1) := by decide +kernel
theorem d_P_wall_23 : decode b_P_wall 23 = .ok (.aload_n 0, 1) := by decide +kernel
theorem d_P_wall_24 : decode b_P_wall 24 = .ok (.getfield 36, 3) := by decide +kernel
theorem d_P_wall_27 : decode b_P_wall 27 = .ok (.getfield 120, 3) := by decide +kernel
theorem d_P_wall_30 : decode b_P_wall 30 = .ok (.iload_n 1, 1) := by decide +kernel
theorem d_P_wall_31 : decode b_P_wall 31 = .ok (.iaload, 1) := by decide +kernel
theorem d_P_wall_32 : decode b_P_wall 32 = .ok (.istore_n 3, 1) := by decide +kernel
theorem d_P_wall_33 : decode b_P_wall 33 = .ok (.aload_n 0, 1) := by decide +kernel
theorem d_P_wall_34 : decode b_P_wall 34 = .ok (.getfield 36, 3) := by decide +kernel
theorem d_P_wall_37 : decode b_P_wall 37 = .ok (.getfield 120, 3) := by decide +kernel
theorem d_P_wall_40 : decode b_P_wall 40 = .ok (.iload_n 1, 1) := by decide +kernel
theorem d_P_wall_41 : decode b_P_wall 41 = .ok (.iload_n 2, 1) := by decide +kernel
theorem d_P_wall_42 : decode b_P_wall 42 = .ok (.iastore, 1) := by decide +kernel
theorem d_P_wall_43 : decode b_P_wall 43 = .ok (.aload_n 0, 1) := by decide +kernel
theorem d_P_wall_44 : decode b_P_wall 44 = .ok (.getfield 28, 3) := by decide +kernel
theorem d_P_wall_47 : decode b_P_wall 47 = .ok (.invokevirtual 123, 3) := by decide +kernel
theorem d_P_wall_50 : decode b_P_wall 50 = .ok (.iload_n 3, 1) := by decide +kernel
theorem d_P_wall_51 : decode b_P_wall 51 = .ok (.ireturn, 1) := by decide +kernel
theorem qf_P_120 : Cond.fieldLink nC7 120 (fC5 5).1 (fC5 5).2.1 (fC5 5).2.2.1 ∈ tbl := tbl_in 136 (by decide +kernel) rfl
def wp_P_wall (σ : Hp) (a1 : Int32) (a2 : Int32) (P : Int32 → Hp → Prop) : Prop :=
  ((a1 < 0 → P (-2 : Int32) σ) ∧ (¬ a1 < 0 → (((7 : Int32) ≤ a1 → P (-2 : Int32) σ) ∧ (¬ (7 : Int32) ≤ a1 → ((a2 < 0 → P (-2 : Int32) σ) ∧ (¬ a2 < 0 → ((a2 < (10 : Int32) → (vp_in a1 7) ∧ (∀ v6 : Int32, v6 = σ 26 (ix a1) → (vp_in a1 7) ∧ wp_D_priceSuits (st σ 26 (ix a1) a2) (fun (t9 : Hp) => P v6 t9))) ∧ (¬ a2 < (10 : Int32) → P (-2 : Int32) σ))))))))
set_option maxHeartbeats 4000000 in
set_option maxRecDepth 100000 in
theorem w_P_wall (w : Wd) (σ : Hp) (a1 : Int32) (a2 : Int32) (P : Int32 → Hp → Prop) (h : wp_P_wall σ a1 a2 P) : CtI μC w y_P_wall b_P_wall 4 (some .int) 4 [.ref (w.1 0), .int a1, .int a2] σ P := by
  unfold wp_P_wall at h
  refine CtI.ofV (C := nC7) (lo := [some (.ref (w.1 0)), some (.int a1), some (.int a2), none]) exC (by decide +kernel) rfl rfl rfl (fun κ hC hR => ?_)
  refine V.iload_n hC d_P_wall_0 rfl rfl ?_
  refine V.if_lt (tgt := 20) hC d_P_wall_1 (by decide) (fun c1 => ?_) (fun c1 => ?_)
  · replace h := h.1 c1
    refine V.bipush (v := -2) hC d_P_wall_20 (by decide) ?_
    exact hR _ _ _ _ h rfl d_P_wall_22
  · replace h := h.2 c1
    refine V.iload_n hC d_P_wall_4 rfl rfl ?_
    refine V.bipush (v := 7) hC d_P_wall_5 (by decide) ?_
    refine V.icmp_ge (tgt := 20) hC d_P_wall_7 (by decide) (fun c2 => ?_) (fun c2 => ?_)
    · replace h := h.1 c2
      refine V.bipush (v := -2) hC d_P_wall_20 (by decide) ?_
      exact hR _ _ _ _ h rfl d_P_wall_22
    · replace h := h.2 c2
      refine V.iload_n hC d_P_wall_10 rfl rfl ?_
      refine V.if_lt (tgt := 20) hC d_P_wall_11 (by decide) (fun c3 => ?_) (fun c3 => ?_)
      · replace h := h.1 c3
        refine V.bipush (v := -2) hC d_P_wall_20 (by decide) ?_
        exact hR _ _ _ _ h rfl d_P_wall_22
      · replace h := h.2 c3
        refine V.iload_n hC d_P_wall_14 rfl rfl ?_
        refine V.bipush (v := 10) hC d_P_wall_15 (by decide) ?_
        refine V.icmp_lt (tgt := 23) hC d_P_wall_17 (by decide) (fun c4 => ?_) (fun c4 => ?_)
        · replace h := h.1 c4
          refine V.aload_n hC d_P_wall_23 rfl rfl ?_
          refine V.getR (j := 3) hC d_P_wall_24 rfl rfl uC7 rfl rfl qf_P_36 ?_
          refine V.getR (j := 5) hC d_P_wall_27 rfl rfl uC5 rfl rfl qf_P_120 ?_
          refine V.iload_n hC d_P_wall_30 rfl rfl ?_
          obtain ⟨b5, h⟩ := h
          refine V.iald hC d_P_wall_31 rfl b5 ?_
          obtain ⟨v6, ev6⟩ : ∃ y : Int32, y = σ 26 (ix a1) := ⟨_, rfl⟩
          replace h := h v6 ev6
          refine V.istore_n (y := v6) (lo' := [some (.ref (w.1 0)), some (.int a1), some (.int a2), some (.int v6)]) hC d_P_wall_32 rfl rfl ev6 rfl ?_
          refine V.aload_n hC d_P_wall_33 rfl rfl ?_
          refine V.getR (j := 3) hC d_P_wall_34 rfl rfl uC7 rfl rfl qf_P_36 ?_
          refine V.getR (j := 5) hC d_P_wall_37 rfl rfl uC5 rfl rfl qf_P_120 ?_
          refine V.iload_n hC d_P_wall_40 rfl rfl ?_
          refine V.iload_n hC d_P_wall_41 rfl rfl ?_
          obtain ⟨b7, h⟩ := h
          refine V.iast hC d_P_wall_42 rfl b7 ?_
          refine V.aload_n hC d_P_wall_43 rfl rfl ?_
          refine V.getR (j := 2) hC d_P_wall_44 rfl rfl uC7 rfl rfl qf_P_28 ?_
          refine V.callVN hC exC (w_D_priceSuits w (st σ 26 (ix a1) a2)  _ h) d_P_wall_47 mo_D_priceSuits qm_P_123 rfl rfl rfl rfl rfl rfl rfl (Nat.le_of_ble_eq_true rfl) (fun t9 h => ?_)
          refine V.iload_n hC d_P_wall_50 rfl rfl ?_
          exact hR _ _ _ _ h rfl d_P_wall_51
        · replace h := h.2 c4
          refine V.bipush (v := -2) hC d_P_wall_20 (by decide) ?_
          exact hR _ _ _ _ h rfl d_P_wall_22
abbrev b_P_isDay : ByteArray := prog_1_method_42_code
def y_P_isDay : MethodName := ⟨nC7, "isDay", "(I)Z"⟩
theorem d_P_isDay_0 : decode b_P_isDay 0 = .ok (.iload_n 0, 1) := by decide +kernel
theorem d_P_isDay_1 : decode b_P_isDay 1 = .ok (.ifCond .lt 13, 3) := by decide +kernel
theorem d_P_isDay_4 : decode b_P_isDay 4 = .ok (.iload_n 0, 1) := by decide +kernel
theorem d_P_isDay_5 : decode b_P_isDay 5 = .ok (.bipush 30, 2) := by decide +kernel
theorem d_P_isDay_7 : decode b_P_isDay 7 = .ok (.if_icmp .ge 7, 3) := by decide +kernel
theorem d_P_isDay_10 : decode b_P_isDay 10 = .ok (.iconst 1, 1) := by decide +kernel
theorem d_P_isDay_11 : decode b_P_isDay 11 = .ok (.goto 4, 3) := by decide +kernel
theorem d_P_isDay_14 : decode b_P_isDay 14 = .ok (.iconst 0, 1) := by decide +kernel
theorem d_P_isDay_15 : decode b_P_isDay 15 = .ok (.ireturn, 1) := by decide +kernel
theorem mo_P_isDay : MokS y_P_isDay b_P_isDay 1 (some .boolean) 1 := ⟨⟨(tbl_in 513 (by decide +kernel) rfl), (tbl_in 62 (by decide +kernel) rfl)⟩, (tbl_in 512 (by decide +kernel) rfl), ⟨by decide +kernel, by decide +kernel⟩, by decide +kernel⟩
def wp_P_isDay (σ : Hp) (a1 : Int32) (P : Int32 → Hp → Prop) : Prop :=
  ((a1 < 0 → P (0 : Int32) σ) ∧ (¬ a1 < 0 → (((30 : Int32) ≤ a1 → P (0 : Int32) σ) ∧ (¬ (30 : Int32) ≤ a1 → P (1 : Int32) σ))))
set_option maxHeartbeats 4000000 in
set_option maxRecDepth 100000 in
theorem w_P_isDay (w : Wd) (σ : Hp) (a1 : Int32) (P : Int32 → Hp → Prop) (h : wp_P_isDay σ a1 P) : CtI μC w y_P_isDay b_P_isDay 1 (some .boolean) 0 [.int a1] σ P := by
  unfold wp_P_isDay at h
  refine CtI.ofV (C := nC7) (lo := [some (.int a1)]) exC (by decide +kernel) rfl rfl rfl (fun κ hC hR => ?_)
  refine V.iload_n hC d_P_isDay_0 rfl rfl ?_
  refine V.if_lt (tgt := 14) hC d_P_isDay_1 (by decide) (fun c1 => ?_) (fun c1 => ?_)
  · replace h := h.1 c1
    refine V.iconst (v := 0) hC d_P_isDay_14 (by decide) ?_
    exact hR _ _ _ _ h (by decide) d_P_isDay_15
  · replace h := h.2 c1
    refine V.iload_n hC d_P_isDay_4 rfl rfl ?_
    refine V.bipush (v := 30) hC d_P_isDay_5 (by decide) ?_
    refine V.icmp_ge (tgt := 14) hC d_P_isDay_7 (by decide) (fun c2 => ?_) (fun c2 => ?_)
    · replace h := h.1 c2
      refine V.iconst (v := 0) hC d_P_isDay_14 (by decide) ?_
      exact hR _ _ _ _ h (by decide) d_P_isDay_15
    · replace h := h.2 c2
      refine V.iconst (v := 1) hC d_P_isDay_10 (by decide) ?_
      refine V.goto (tgt := 15) hC d_P_isDay_11 (by decide) ?_
      exact hR _ _ _ _ h (by decide) d_P_isDay_15
abbrev b_P_isPlace : ByteArray := prog_1_method_46_code
def y_P_isPlace : MethodName := ⟨nC7, "isPlace", "(I)Z"⟩
theorem d_P_isPlace_0 : decode b_P_isPlace 0 = .ok (.iload_n 0, 1) := by decide +kernel
theorem d_P_isPlace_1 : decode b_P_isPlace 1 = .ok (.ifCond .lt 13, 3) := by decide +kernel
theorem d_P_isPlace_4 : decode b_P_isPlace 4 = .ok (.iload_n 0, 1) := by decide +kernel
theorem d_P_isPlace_5 : decode b_P_isPlace 5 = .ok (.bipush 8, 2) := by decide +kernel
theorem d_P_isPlace_7 : decode b_P_isPlace 7 = .ok (.if_icmp .ge 7, 3) := by decide +kernel
theorem d_P_isPlace_10 : decode b_P_isPlace 10 = .ok (.iconst 1, 1) := by decide +kernel
theorem d_P_isPlace_11 : decode b_P_isPlace 11 = .ok (.goto 4, 3) := by decide +kernel
theorem d_P_isPlace_14 : decode b_P_isPlace 14 = .ok (.iconst 0, 1) := by decide +kernel
theorem d_P_isPlace_15 : decode b_P_isPlace 15 = .ok (.ireturn, 1) := by decide +kernel
theorem mo_P_isPlace : MokS y_P_isPlace b_P_isPlace 1 (some .boolean) 1 := ⟨⟨(tbl_in 516 (by decide +kernel) rfl), (tbl_in 62 (by decide +kernel) rfl)⟩, (tbl_in 515 (by decide +kernel) rfl), ⟨by decide +kernel, by decide +kernel⟩, by decide +kernel⟩
def wp_P_isPlace (σ : Hp) (a1 : Int32) (P : Int32 → Hp → Prop) : Prop :=
  ((a1 < 0 → P (0 : Int32) σ) ∧ (¬ a1 < 0 → (((8 : Int32) ≤ a1 → P (0 : Int32) σ) ∧ (¬ (8 : Int32) ≤ a1 → P (1 : Int32) σ))))
set_option maxHeartbeats 4000000 in
set_option maxRecDepth 100000 in
theorem w_P_isPlace (w : Wd) (σ : Hp) (a1 : Int32) (P : Int32 → Hp → Prop) (h : wp_P_isPlace σ a1 P) : CtI μC w y_P_isPlace b_P_isPlace 1 (some .boolean) 0 [.int a1] σ P := by
  unfold wp_P_isPlace at h
  refine CtI.ofV (C := nC7) (lo := [some (.int a1)]) exC (by decide +kernel) rfl rfl rfl (fun κ hC hR => ?_)
  refine V.iload_n hC d_P_isPlace_0 rfl rfl ?_
  refine V.if_lt (tgt := 14) hC d_P_isPlace_1 (by decide) (fun c1 => ?_) (fun c1 => ?_)
  · replace h := h.1 c1
    refine V.iconst (v := 0) hC d_P_isPlace_14 (by decide) ?_
    exact hR _ _ _ _ h (by decide) d_P_isPlace_15
  · replace h := h.2 c1
    refine V.iload_n hC d_P_isPlace_4 rfl rfl ?_
    refine V.bipush (v := 8) hC d_P_isPlace_5 (by decide) ?_
    refine V.icmp_ge (tgt := 14) hC d_P_isPlace_7 (by decide) (fun c2 => ?_) (fun c2 => ?_)
    · replace h := h.1 c2
      refine V.iconst (v := 0) hC d_P_isPlace_14 (by decide) ?_
      exact hR _ _ _ _ h (by decide) d_P_isPlace_15
    · replace h := h.2 c2
      refine V.iconst (v := 1) hC d_P_isPlace_10 (by decide) ?_
      refine V.goto (tgt := 15) hC d_P_isPlace_11 (by decide) ?_
      exact hR _ _ _ _ h (by decide) d_P_isPlace_15
abbrev b_K_addSuit : ByteArray := prog_4_method_2_code
def y_K_addSuit : MethodName := ⟨nC2, "addSuit", "(III)V"⟩
theorem d_K_addSuit_0 : decode b_K_addSuit 0 = .ok (.aload_n 0, 1) := by decide +kernel
theorem d_K_addSuit_1 : decode b_K_addSuit 1 = .ok (.getfield 9, 3) := by decide +kernel
theorem d_K_addSuit_4 : decode b_K_addSuit 4 = .ok (.aload_n 0, 1) := by decide +kernel
theorem d_K_addSuit_5 : decode b_K_addSuit 5 = .ok (.getfield 30, 3) := by decide +kernel
theorem d_K_addSuit_8 : decode b_K_addSuit 8 = .ok (.iload_n 1, 1) := by decide +kernel
theorem d_K_addSuit_9 : decode b_K_addSuit 9 = .ok (.iastore, 1) := by decide +kernel
theorem d_K_addSuit_10 : decode b_K_addSuit 10 = .ok (.aload_n 0, 1) := by decide +kernel
theorem d_K_addSuit_11 : decode b_K_addSuit 11 = .ok (.getfield 15, 3) := by decide +kernel
theorem d_K_addSuit_14 : decode b_K_addSuit 14 = .ok (.aload_n 0, 1) := by decide +kernel
theorem d_K_addSuit_15 : decode b_K_addSuit 15 = .ok (.getfield 30, 3) := by decide +kernel
theorem d_K_addSuit_18 : decode b_K_addSuit 18 = .ok (.iload_n 2, 1) := by decide +kernel
theorem d_K_addSuit_19 : decode b_K_addSuit 19 = .ok (.iastore, 1) := by decide +kernel
theorem d_K_addSuit_20 : decode b_K_addSuit 20 = .ok (.aload_n 0, 1) := by decide +kernel
theorem d_K_addSuit_21 : decode b_K_addSuit 21 = .ok (.getfield 18, 3) := by decide +kernel
theorem d_K_addSuit_24 : decode b_K_addSuit 24 = .ok (.aload_n 0, 1) := by decide +kernel
theorem d_K_addSuit_25 : decode b_K_addSuit 25 = .ok (.getfield 30, 3) := by decide +kernel
theorem d_K_addSuit_28 : decode b_K_addSuit 28 = .ok (.iload_n 3, 1) := by decide +kernel
theorem d_K_addSuit_29 : decode b_K_addSuit 29 = .ok (.iastore, 1) := by decide +kernel
theorem d_K_addSuit_30 : decode b_K_addSuit 30 = .ok (.aload_n 0, 1) := by decide +kernel
theorem d_K_addSuit_31 : decode b_K_addSuit 31 = .ok (.dup, 1) := by decide +kernel
theorem d_K_addSuit_32 : decode b_K_addSuit 32 = .ok (.getfield 30, 3) := by decide +kernel
theorem d_K_addSuit_35 : decode b_K_addSuit 35 = .ok (.iconst 1, 1) := by decide +kernel
theorem d_K_addSuit_36 : decode b_K_addSuit 36 = .ok (.iadd, 1) := by decide +kernel
theorem d_K_addSuit_37 : decode b_K_addSuit 37 = .ok (.putfield 30, 3) := by decide +kernel
theorem d_K_addSuit_40 : decode b_K_addSuit 40 = .ok (.return_, 1) := by decide +kernel
theorem qf_K_15 : Cond.fieldLink nC2 15 (fC2 1).1 (fC2 1).2.1 (fC2 1).2.2.1 ∈ tbl := tbl_in 169 (by decide +kernel) rfl
theorem qf_K_18 : Cond.fieldLink nC2 18 (fC2 2).1 (fC2 2).2.1 (fC2 2).2.2.1 ∈ tbl := tbl_in 172 (by decide +kernel) rfl
theorem qf_K_30 : Cond.fieldLink nC2 30 (fC2 6).1 (fC2 6).2.1 (fC2 6).2.2.1 ∈ tbl := tbl_in 179 (by decide +kernel) rfl
theorem qf_K_9 : Cond.fieldLink nC2 9 (fC2 0).1 (fC2 0).2.1 (fC2 0).2.2.1 ∈ tbl := tbl_in 166 (by decide +kernel) rfl
theorem mo_K_addSuit : MokV y_K_addSuit b_K_addSuit 4 none 3 := ⟨⟨(tbl_in 520 (by decide +kernel) rfl), (tbl_in 66 (by decide +kernel) rfl)⟩, ⟨(tbl_in 518 (by decide +kernel) rfl), tbl_lw _ (tbl_in 519 (by decide +kernel) rfl), (tbl_in 519 (by decide +kernel) rfl)⟩, ⟨by decide +kernel, by decide +kernel⟩, by decide +kernel⟩
def wp_K_addSuit (σ : Hp) (a1 : Int32) (a2 : Int32) (a3 : Int32) (P : Hp → Prop) : Prop :=
  (vp_in (σ 5 6) 12) ∧ (vp_in ((st σ 27 (ix (σ 5 6)) a1) 5 6) 12) ∧ (vp_in ((st (st σ 27 (ix (σ 5 6)) a1) 28 (ix ((st σ 27 (ix (σ 5 6)) a1) 5 6)) a2) 5 6) 12) ∧ P (st (st (st (st σ 27 (ix (σ 5 6)) a1) 28 (ix ((st σ 27 (ix (σ 5 6)) a1) 5 6)) a2) 29 (ix ((st (st σ 27 (ix (σ 5 6)) a1) 28 (ix ((st σ 27 (ix (σ 5 6)) a1) 5 6)) a2) 5 6)) a3) 5 6 (((st (st (st σ 27 (ix (σ 5 6)) a1) 28 (ix ((st σ 27 (ix (σ 5 6)) a1) 5 6)) a2) 29 (ix ((st (st σ 27 (ix (σ 5 6)) a1) 28 (ix ((st σ 27 (ix (σ 5 6)) a1) 5 6)) a2) 5 6)) a3) 5 6) + (1 : Int32)))
set_option maxHeartbeats 4000000 in
set_option maxRecDepth 100000 in
theorem w_K_addSuit (w : Wd) (σ : Hp) (a1 : Int32) (a2 : Int32) (a3 : Int32) (P : Hp → Prop) (h : wp_K_addSuit σ a1 a2 a3 P) : CtN μC w y_K_addSuit b_K_addSuit 4 none 0 [.ref (w.1 5), .int a1, .int a2, .int a3] σ P := by
  unfold wp_K_addSuit at h
  refine CtN.ofV (C := nC2) (lo := [some (.ref (w.1 5)), some (.int a1), some (.int a2), some (.int a3)]) exC (by decide +kernel) rfl rfl rfl (fun κ hC hR => ?_)
  refine V.aload_n hC d_K_addSuit_0 rfl rfl ?_
  refine V.getR (j := 0) hC d_K_addSuit_1 rfl rfl uC2 rfl rfl qf_K_9 ?_
  refine V.aload_n hC d_K_addSuit_4 rfl rfl ?_
  refine V.getI (j := 6) hC d_K_addSuit_5 rfl rfl uC2 rfl rfl qf_K_30 ?_
  refine V.iload_n hC d_K_addSuit_8 rfl rfl ?_
  obtain ⟨b1, h⟩ := h
  refine V.iast hC d_K_addSuit_9 rfl b1 ?_
  refine V.aload_n hC d_K_addSuit_10 rfl rfl ?_
  refine V.getR (j := 1) hC d_K_addSuit_11 rfl rfl uC2 rfl rfl qf_K_15 ?_
  refine V.aload_n hC d_K_addSuit_14 rfl rfl ?_
  refine V.getI (j := 6) hC d_K_addSuit_15 rfl rfl uC2 rfl rfl qf_K_30 ?_
  refine V.iload_n hC d_K_addSuit_18 rfl rfl ?_
  obtain ⟨b2, h⟩ := h
  refine V.iast hC d_K_addSuit_19 rfl b2 ?_
  refine V.aload_n hC d_K_addSuit_20 rfl rfl ?_
  refine V.getR (j := 2) hC d_K_addSuit_21 rfl rfl uC2 rfl rfl qf_K_18 ?_
  refine V.aload_n hC d_K_addSuit_24 rfl rfl ?_
  refine V.getI (j := 6) hC d_K_addSuit_25 rfl rfl uC2 rfl rfl qf_K_30 ?_
  refine V.iload_n hC d_K_addSuit_28 rfl rfl ?_
  obtain ⟨b3, h⟩ := h
  refine V.iast hC d_K_addSuit_29 rfl b3 ?_
  refine V.aload_n hC d_K_addSuit_30 rfl rfl ?_
  refine V.dup hC d_K_addSuit_31 rfl ?_
  refine V.getI (j := 6) hC d_K_addSuit_32 rfl rfl uC2 rfl rfl qf_K_30 ?_
  refine V.iconst (v := 1) hC d_K_addSuit_35 (by decide) ?_
  refine V.iadd hC d_K_addSuit_36 ?_
  refine V.put (j := 6) hC d_K_addSuit_37 rfl rfl uC2 pC2 dC2 rfl rfl rfl rfl rfl qf_K_30 ?_
  exact hR _ _ _ h d_K_addSuit_40
abbrev b_P_suit : ByteArray := prog_1_method_9_code
def y_P_suit : MethodName := ⟨nC7, "suit", "(III)I"⟩
theorem d_P_suit_0 : decode b_P_suit 0 = .ok (.iload_n 1, 1) := by decide +kernel
theorem d_P_suit_1 : decode b_P_suit 1 = .ok (.invokestatic 126, 3) := by decide +kernel
theorem d_P_suit_4 : decode b_P_suit 4 = .ok (.ifCond .eq 22, 3) := by decide +kernel
theorem d_P_suit_7 : decode b_P_suit 7 = .ok (.iload_n 2, 1) := by decide +kernel
theorem d_P_suit_8 : decode b_P_suit 8 = .ok (.invokestatic 129, 3) := by decide +kernel
theorem d_P_suit_11 : decode b_P_suit 11 = .ok (.ifCond .eq 15, 3) := by decide +kernel
theorem d_P_suit_14 : decode b_P_suit 14 = .ok (.iload_n 3, 1) := by decide +kernel
theorem d_P_suit_15 : decode b_P_suit 15 = .ok (.invokestatic 129, 3) := by decide +kernel
theorem d_P_suit_18 : decode b_P_suit 18 = .ok (.ifCond .eq 8, 3) := by decide +kernel
theorem d_P_suit_21 : decode b_P_suit 21 = .ok (.iload_n 2, 1) := by decide +kernel
theorem d_P_suit_22 : decode b_P_suit 22 = .ok (.iload_n 3, 1) := by decide +kernel
theorem d_P_suit_23 : decode b_P_suit 23 = .ok (.if_icmp .ne 6, 3) := by decide +kernel
theorem d_P_suit_26 : decode b_P_suit 26 = .ok (.bipush (-2), 2) := by decide +kernel
theorem d_P_suit_28 : decode b_P_suit 28 = .ok (.ireturn, 1) := by decide +kernel
theorem d_P_suit_29 : decode b_P_suit 29 = .ok (.aload_n 0, 1) := by decide +kernel
theorem d_P_suit_30 : decode b_P_suit 30 = .ok (.getfield 41, 3) := by decide +kernel
theorem d_P_suit_33 : decode b_P_suit 33 = .ok (.getfield 132, 3) := by decide +kernel
theorem d_P_suit_36 : decode b_P_suit 36 = .ok (.bipush 12, 2) := by decide +kernel
theorem d_P_suit_38 : decode b_P_suit 38 = .ok (.if_icmp .lt 6, 3) := by decide +kernel
theorem d_P_suit_41 : decode b_P_suit 41 = .ok (.bipush (-4), 2) := by decide +kernel
theorem d_P_suit_43 : decode b_P_suit 43 = .ok (.ireturn, 1) := by decide +kernel
theorem d_P_suit_44 : decode b_P_suit 44 = .ok (.aload_n 0, 1) := by decide +kernel
theorem d_P_suit_45 : decode b_P_suit 45 = .ok (.getfield 41, 3) := by decide +kernel
theorem d_P_suit_48 : decode b_P_suit 48 = .ok (.iload_n 1, 1) := by decide +kernel
theorem d_P_suit_49 : decode b_P_suit 49 = .ok (.iload_n 2, 1) := by decide +kernel
theorem d_P_suit_50 : decode b_P_suit 50 = .ok (.iload_n 3, 1) := by decide +kernel
theorem d_P_suit_51 : decode b_P_suit 51 = .ok (.invokevirtual 137, 3) := by decide +kernel
theorem d_P_suit_54 : decode b_P_suit 54 = .ok (.aload_n 0, 1) := by decide +kernel
theorem d_P_suit_55 : decode b_P_suit 55 = .ok (.getfield 28, 3) := by decide +kernel
theorem d_P_suit_58 : decode b_P_suit 58 = .ok (.invokevirtual 123, 3) := by decide +kernel
theorem d_P_suit_61 : decode b_P_suit 61 = .ok (.aload_n 0, 1) := by decide +kernel
theorem d_P_suit_62 : decode b_P_suit 62 = .ok (.getfield 41, 3) := by decide +kernel
theorem d_P_suit_65 : decode b_P_suit 65 = .ok (.getfield 132, 3) := by decide +kernel
theorem d_P_suit_68 : decode b_P_suit 68 = .ok (.ireturn, 1) := by decide +kernel
theorem qf_P_132 : Cond.fieldLink nC7 132 (fC2 6).1 (fC2 6).2.1 (fC2 6).2.2.1 ∈ tbl := tbl_in 182 (by decide +kernel) rfl
theorem qf_P_41 : Cond.fieldLink nC7 41 (fC7 4).1 (fC7 4).2.1 (fC7 4).2.2.1 ∈ tbl := tbl_in 289 (by decide +kernel) rfl
theorem qm_P_126 : Cond.methodLink nC7 126 y_P_isDay ∈ tbl := tbl_in 511 (by decide +kernel) rfl
theorem qm_P_129 : Cond.methodLink nC7 129 y_P_isPlace ∈ tbl := tbl_in 514 (by decide +kernel) rfl
theorem qm_P_137 : Cond.methodLink nC7 137 y_K_addSuit ∈ tbl := tbl_in 517 (by decide +kernel) rfl
theorem mo_P_suit : MokV y_P_suit b_P_suit 4 (some .int) 3 := ⟨⟨(tbl_in 510 (by decide +kernel) rfl), (tbl_in 62 (by decide +kernel) rfl)⟩, ⟨(tbl_in 508 (by decide +kernel) rfl), tbl_lw _ (tbl_in 509 (by decide +kernel) rfl), (tbl_in 509 (by decide +kernel) rfl)⟩, ⟨by decide +kernel, by decide +kernel⟩, by decide +kernel⟩
def wp_P_suit (σ : Hp) (a1 : Int32) (a2 : Int32) (a3 : Int32) (P : Int32 → Hp → Prop) : Prop :=
  wp_P_isDay σ a1 (fun (r1 : Int32) (t2 : Hp) => ((r1 = 0 → P (-2 : Int32) t2) ∧ (¬ r1 = 0 → wp_P_isPlace t2 a2 (fun (r4 : Int32) (t5 : Hp) => ((r4 = 0 → P (-2 : Int32) t5) ∧ (¬ r4 = 0 → wp_P_isPlace t5 a3 (fun (r7 : Int32) (t8 : Hp) => ((r7 = 0 → P (-2 : Int32) t8) ∧ (¬ r7 = 0 → ((¬ a2 = a3 → (((t8 5 6) < (12 : Int32) → wp_K_addSuit t8 a1 a2 a3 (fun (t13 : Hp) => wp_D_priceSuits t13 (fun (t15 : Hp) => P (t15 5 6) t15))) ∧ (¬ (t8 5 6) < (12 : Int32) → P (-4 : Int32) t8))) ∧ (a2 = a3 → P (-2 : Int32) t8)))))))))))
set_option maxHeartbeats 4000000 in
set_option maxRecDepth 100000 in
theorem w_P_suit (w : Wd) (σ : Hp) (a1 : Int32) (a2 : Int32) (a3 : Int32) (P : Int32 → Hp → Prop) (h : wp_P_suit σ a1 a2 a3 P) : CtI μC w y_P_suit b_P_suit 4 (some .int) 4 [.ref (w.1 0), .int a1, .int a2, .int a3] σ P := by
  unfold wp_P_suit at h
  refine CtI.ofV (C := nC7) (lo := [some (.ref (w.1 0)), some (.int a1), some (.int a2), some (.int a3)]) exC (by decide +kernel) rfl rfl rfl (fun κ hC hR => ?_)
  refine V.iload_n hC d_P_suit_0 rfl rfl ?_
  refine V.callSI hC exC (w_P_isDay w σ a1 _ h) d_P_suit_1 mo_P_isDay qm_P_126 rfl rfl rfl rfl (Nat.le_of_ble_eq_true rfl) (fun r1 t2 h => ?_)
  refine V.if_eq (tgt := 26) hC d_P_suit_4 (by decide) (fun c3 => ?_) (fun c3 => ?_)
  · replace h := h.1 c3
    refine V.bipush (v := -2) hC d_P_suit_26 (by decide) ?_
    exact hR _ _ _ _ h rfl d_P_suit_28
  · replace h := h.2 c3
    refine V.iload_n hC d_P_suit_7 rfl rfl ?_
    refine V.callSI hC exC (w_P_isPlace w t2 a2 _ h) d_P_suit_8 mo_P_isPlace qm_P_129 rfl rfl rfl rfl (Nat.le_of_ble_eq_true rfl) (fun r4 t5 h => ?_)
    refine V.if_eq (tgt := 26) hC d_P_suit_11 (by decide) (fun c6 => ?_) (fun c6 => ?_)
    · replace h := h.1 c6
      refine V.bipush (v := -2) hC d_P_suit_26 (by decide) ?_
      exact hR _ _ _ _ h rfl d_P_suit_28
    · replace h := h.2 c6
      refine V.iload_n hC d_P_suit_14 rfl rfl ?_
      refine V.callSI hC exC (w_P_isPlace w t5 a3 _ h) d_P_suit_15 mo_P_isPlace qm_P_129 rfl rfl rfl rfl (Nat.le_of_ble_eq_true rfl) (fun r7 t8 h => ?_)
      refine V.if_eq (tgt := 26) hC d_P_suit_18 (by decide) (fun c9 => ?_) (fun c9 => ?_)
      · replace h := h.1 c9
        refine V.bipush (v := -2) hC d_P_suit_26 (by decide) ?_
        exact hR _ _ _ _ h rfl d_P_suit_28
      · replace h := h.2 c9
        refine V.iload_n hC d_P_suit_21 rfl rfl ?_
        refine V.iload_n hC d_P_suit_22 rfl rfl ?_
        refine V.icmp_ne (tgt := 29) hC d_P_suit_23 (by decide) (fun c10 => ?_) (fun c10 => ?_)
        · replace h := h.1 c10
          refine V.aload_n hC d_P_suit_29 rfl rfl ?_
          refine V.getR (j := 4) hC d_P_suit_30 rfl rfl uC7 rfl rfl qf_P_41 ?_
          refine V.getI (j := 6) hC d_P_suit_33 rfl rfl uC2 rfl rfl qf_P_132 ?_
          refine V.bipush (v := 12) hC d_P_suit_36 (by decide) ?_
          refine V.icmp_lt (tgt := 44) hC d_P_suit_38 (by decide) (fun c11 => ?_) (fun c11 => ?_)
          · replace h := h.1 c11
            refine V.aload_n hC d_P_suit_44 rfl rfl ?_
            refine V.getR (j := 4) hC d_P_suit_45 rfl rfl uC7 rfl rfl qf_P_41 ?_
            refine V.iload_n hC d_P_suit_48 rfl rfl ?_
            refine V.iload_n hC d_P_suit_49 rfl rfl ?_
            refine V.iload_n hC d_P_suit_50 rfl rfl ?_
            refine V.callVN hC exC (w_K_addSuit w t8 a1 a2 a3 _ h) d_P_suit_51 mo_K_addSuit qm_P_137 rfl rfl rfl rfl rfl rfl rfl (Nat.le_of_ble_eq_true rfl) (fun t13 h => ?_)
            refine V.aload_n hC d_P_suit_54 rfl rfl ?_
            refine V.getR (j := 2) hC d_P_suit_55 rfl rfl uC7 rfl rfl qf_P_28 ?_
            refine V.callVN hC exC (w_D_priceSuits w t13  _ h) d_P_suit_58 mo_D_priceSuits qm_P_123 rfl rfl rfl rfl rfl rfl rfl (Nat.le_of_ble_eq_true rfl) (fun t15 h => ?_)
            refine V.aload_n hC d_P_suit_61 rfl rfl ?_
            refine V.getR (j := 4) hC d_P_suit_62 rfl rfl uC7 rfl rfl qf_P_41 ?_
            refine V.getI (j := 6) hC d_P_suit_65 rfl rfl uC2 rfl rfl qf_P_132 ?_
            exact hR _ _ _ _ h rfl d_P_suit_68
          · replace h := h.2 c11
            refine V.bipush (v := -4) hC d_P_suit_41 (by decide) ?_
            exact hR _ _ _ _ h rfl d_P_suit_43
        · replace h := h.2 c10
          refine V.bipush (v := -2) hC d_P_suit_26 (by decide) ?_
          exact hR _ _ _ _ h rfl d_P_suit_28
abbrev b_K_closeAsTold : ByteArray := prog_4_method_6_code
def y_K_closeAsTold : MethodName := ⟨nC2, "closeAsTold", "()V"⟩
theorem d_K_closeAsTold_0 : decode b_K_closeAsTold 0 = .ok (.aload_n 0, 1) := by decide +kernel
theorem d_K_closeAsTold_1 : decode b_K_closeAsTold 1 = .ok (.getfield 27, 3) := by decide +kernel
theorem d_K_closeAsTold_4 : decode b_K_closeAsTold 4 = .ok (.iconst 0, 1) := by decide +kernel
theorem d_K_closeAsTold_5 : decode b_K_closeAsTold 5 = .ok (.invokestatic 40, 3) := by decide +kernel
theorem d_K_closeAsTold_8 : decode b_K_closeAsTold 8 = .ok (.iconst 0, 1) := by decide +kernel
theorem d_K_closeAsTold_9 : decode b_K_closeAsTold 9 = .ok (.istore_n 1, 1) := by decide +kernel
theorem d_K_closeAsTold_10 : decode b_K_closeAsTold 10 = .ok (.iload_n 1, 1) := by decide +kernel
theorem d_K_closeAsTold_11 : decode b_K_closeAsTold 11 = .ok (.aload_n 0, 1) := by decide +kernel
theorem d_K_closeAsTold_12 : decode b_K_closeAsTold 12 = .ok (.getfield 34, 3) := by decide +kernel
theorem d_K_closeAsTold_15 : decode b_K_closeAsTold 15 = .ok (.if_icmp .ge 31, 3) := by decide +kernel
theorem d_K_closeAsTold_18 : decode b_K_closeAsTold 18 = .ok (.aload_n 0, 1) := by decide +kernel
theorem d_K_closeAsTold_19 : decode b_K_closeAsTold 19 = .ok (.getfield 27, 3) := by decide +kernel
theorem d_K_closeAsTold_22 : decode b_K_closeAsTold 22 = .ok (.aload_n 0, 1) := by decide +kernel
theorem d_K_closeAsTold_23 : decode b_K_closeAsTold 23 = .ok (.getfield 24, 3) := by decide +kernel
theorem d_K_closeAsTold_26 : decode b_K_closeAsTold 26 = .ok (.iload_n 1, 1) := by decide +kernel
theorem d_K_closeAsTold_27 : decode b_K_closeAsTold 27 = .ok (.iaload, 1) := by decide +kernel
theorem d_K_closeAsTold_28 : decode b_K_closeAsTold 28 = .ok (.dup2, 1) := by decide +kernel
theorem d_K_closeAsTold_29 : decode b_K_closeAsTold 29 = .ok (.iaload, 1) := by decide +kernel
theorem d_K_closeAsTold_30 : decode b_K_closeAsTold 30 = .ok (.iconst 1, 1) := by decide +kernel
theorem d_K_closeAsTold_31 : decode b_K_closeAsTold 31 = .ok (.aload_n 0, 1) := by decide +kernel
theorem d_K_closeAsTold_32 : decode b_K_closeAsTold 32 = .ok (.getfield 21, 3) := by decide +kernel
theorem d_K_closeAsTold_35 : decode b_K_closeAsTold 35 = .ok (.iload_n 1, 1) := by decide +kernel
theorem d_K_closeAsTold_36 : decode b_K_closeAsTold 36 = .ok (.iaload, 1) := by decide +kernel
theorem d_K_closeAsTold_37 : decode b_K_closeAsTold 37 = .ok (.ishl, 1) := by decide +kernel
theorem d_K_closeAsTold_38 : decode b_K_closeAsTold 38 = .ok (.ior, 1) := by decide +kernel
theorem d_K_closeAsTold_39 : decode b_K_closeAsTold 39 = .ok (.iastore, 1) := by decide +kernel
theorem d_K_closeAsTold_40 : decode b_K_closeAsTold 40 = .ok (.iinc 1 1, 3) := by decide +kernel
theorem d_K_closeAsTold_43 : decode b_K_closeAsTold 43 = .ok (.goto (-33), 3) := by decide +kernel
theorem d_K_closeAsTold_46 : decode b_K_closeAsTold 46 = .ok (.return_, 1) := by decide +kernel
theorem qf_K_21 : Cond.fieldLink nC2 21 (fC2 3).1 (fC2 3).2.1 (fC2 3).2.2.1 ∈ tbl := tbl_in 175 (by decide +kernel) rfl
theorem qf_K_24 : Cond.fieldLink nC2 24 (fC2 4).1 (fC2 4).2.1 (fC2 4).2.2.1 ∈ tbl := tbl_in 176 (by decide +kernel) rfl
theorem qf_K_27 : Cond.fieldLink nC2 27 (fC2 5).1 (fC2 5).2.1 (fC2 5).2.2.1 ∈ tbl := tbl_in 177 (by decide +kernel) rfl
theorem qf_K_34 : Cond.fieldLink nC2 34 (fC2 7).1 (fC2 7).2.1 (fC2 7).2.2.1 ∈ tbl := tbl_in 183 (by decide +kernel) rfl
theorem qm_K_40 : Cond.methodLink nC2 40 y_JA_fill ∈ tbl := tbl_in 533 (by decide +kernel) rfl
theorem mo_K_closeAsTold : MokV y_K_closeAsTold b_K_closeAsTold 2 none 0 := ⟨⟨(tbl_in 532 (by decide +kernel) rfl), (tbl_in 66 (by decide +kernel) rfl)⟩, ⟨(tbl_in 530 (by decide +kernel) rfl), tbl_lw _ (tbl_in 531 (by decide +kernel) rfl), (tbl_in 531 (by decide +kernel) rfl)⟩, ⟨by decide +kernel, by decide +kernel⟩, by decide +kernel⟩
def b_K_closeAsTold_10_ (P : Hp → Prop)  (I10 : Hp → Int32 → Prop) (σ : Hp) (x1 : Int32) : Prop :=
  (((σ 5 7) ≤ x1 → P σ) ∧ (¬ (σ 5 7) ≤ x1 → (vp_in x1 8) ∧ (vp_in (σ 31 (ix x1)) 8) ∧ (vp_in x1 8) ∧ (vp_in (σ 31 (ix x1)) 8) ∧ (∀ v6 : Int32, v6 = x1 + (1 : Int32) → I10 (st σ 32 (ix (σ 31 (ix x1))) ((σ 32 (ix (σ 31 (ix x1)))) ||| ((1 : Int32) <<< ((σ 30 (ix x1)) &&& 31)))) v6)))
def j_K_closeAsTold_10 (P : Hp → Prop)  (σ : Hp) (x1 : Int32) : Prop := ∀ I10 : Hp → Int32 → Prop, (∀ (σ : Hp) (x1 : Int32), b_K_closeAsTold_10_  P  I10 σ x1 → I10 σ x1) → I10 σ x1
def wp_K_closeAsTold (σ : Hp)  (P : Hp → Prop) : Prop :=
  wp_JA_fill σ 32 8 (0 : Int32) (fun (t8 : Hp) => j_K_closeAsTold_10 P t8 (0 : Int32))
set_option maxHeartbeats 4000000 in
set_option maxRecDepth 100000 in
theorem wj_K_closeAsTold_10 {w : Wd} {κ : Kx} {P : Hp → Prop} (hC : Cx μC w 2 κ nC2 b_K_closeAsTold 1) (hR : RtN μC w 2 κ b_K_closeAsTold P)  : ∀ (σ : Hp) (x1 : Int32), j_K_closeAsTold_10  P  σ x1 → V μC w 2 κ σ [some (.ref (w.1 5)), some (.int x1)] 10 [] := by
  intro σ x1 h
  refine h (fun σ x1 => V μC w 2 κ σ [some (.ref (w.1 5)), some (.int x1)] 10 []) (fun σ x1 h => ?_)
  unfold b_K_closeAsTold_10_ at h
  refine V.iload_n hC d_K_closeAsTold_10 rfl rfl ?_
  refine V.aload_n hC d_K_closeAsTold_11 rfl rfl ?_
  refine V.getI (j := 7) hC d_K_closeAsTold_12 rfl rfl uC2 rfl rfl qf_K_34 ?_
  refine V.icmp_ge (tgt := 46) hC d_K_closeAsTold_15 (by decide) (fun c1 => ?_) (fun c1 => ?_)
  · replace h := h.1 c1
    exact hR _ _ _ h d_K_closeAsTold_46
  · replace h := h.2 c1
    refine V.aload_n hC d_K_closeAsTold_18 rfl rfl ?_
    refine V.getR (j := 5) hC d_K_closeAsTold_19 rfl rfl uC2 rfl rfl qf_K_27 ?_
    refine V.aload_n hC d_K_closeAsTold_22 rfl rfl ?_
    refine V.getR (j := 4) hC d_K_closeAsTold_23 rfl rfl uC2 rfl rfl qf_K_24 ?_
    refine V.iload_n hC d_K_closeAsTold_26 rfl rfl ?_
    obtain ⟨b2, h⟩ := h
    refine V.iald hC d_K_closeAsTold_27 rfl b2 ?_
    refine V.dup2_11 hC d_K_closeAsTold_28 rfl rfl ?_
    obtain ⟨b3, h⟩ := h
    refine V.iald hC d_K_closeAsTold_29 rfl b3 ?_
    refine V.iconst (v := 1) hC d_K_closeAsTold_30 (by decide) ?_
    refine V.aload_n hC d_K_closeAsTold_31 rfl rfl ?_
    refine V.getR (j := 3) hC d_K_closeAsTold_32 rfl rfl uC2 rfl rfl qf_K_21 ?_
    refine V.iload_n hC d_K_closeAsTold_35 rfl rfl ?_
    obtain ⟨b4, h⟩ := h
    refine V.iald hC d_K_closeAsTold_36 rfl b4 ?_
    refine V.ishl hC d_K_closeAsTold_37 ?_
    refine V.ior hC d_K_closeAsTold_38 ?_
    obtain ⟨b5, h⟩ := h
    refine V.iast hC d_K_closeAsTold_39 rfl b5 ?_
    obtain ⟨v6, ev6⟩ : ∃ y : Int32, y = x1 + (1 : Int32) := ⟨_, rfl⟩
    replace h := h v6 ev6
    refine V.iinc (y := v6) (lo' := [some (.ref (w.1 5)), some (.int v6)]) hC d_K_closeAsTold_40 rfl rfl (show v6 = _ + Int32.ofInt (1) from ev6) rfl ?_
    refine V.goto (tgt := 10) hC d_K_closeAsTold_43 (by decide) ?_
    exact V.msk [true, true] rfl h
set_option maxHeartbeats 4000000 in
set_option maxRecDepth 100000 in
theorem w_K_closeAsTold (w : Wd) (σ : Hp)  (P : Hp → Prop) (h : wp_K_closeAsTold σ  P) : CtN μC w y_K_closeAsTold b_K_closeAsTold 2 none 1 [.ref (w.1 5)] σ P := by
  unfold wp_K_closeAsTold at h
  refine CtN.ofV (C := nC2) (lo := [some (.ref (w.1 5)), none]) exC (by decide +kernel) rfl rfl rfl (fun κ hC hR => ?_)
  refine V.aload_n hC d_K_closeAsTold_0 rfl rfl ?_
  refine V.getR (j := 5) hC d_K_closeAsTold_1 rfl rfl uC2 rfl rfl qf_K_27 ?_
  refine V.iconst (v := 0) hC d_K_closeAsTold_4 (by decide) ?_
  refine V.callSN hC exC (w_JA_fill w σ 32 8 (0 : Int32) _ h) d_K_closeAsTold_5 mo_JA_fill qm_K_40 rfl rfl rfl rfl (Nat.le_of_ble_eq_true rfl) (fun t8 h => ?_)
  refine V.iconst (v := 0) hC d_K_closeAsTold_8 (by decide) ?_
  refine V.istore_n (y := (0 : Int32)) (lo' := [some (.ref (w.1 5)), some (.int (0 : Int32))]) hC d_K_closeAsTold_9 rfl rfl rfl rfl ?_
  exact V.msk [true, true] rfl (wj_K_closeAsTold_10  hC hR  t8 (0 : Int32) h)
abbrev b_K_addShut : ByteArray := prog_4_method_4_code
def y_K_addShut : MethodName := ⟨nC2, "addShut", "(II)V"⟩
theorem d_K_addShut_0 : decode b_K_addShut 0 = .ok (.aload_n 0, 1) := by decide +kernel
theorem d_K_addShut_1 : decode b_K_addShut 1 = .ok (.getfield 21, 3) := by decide +kernel
theorem d_K_addShut_4 : decode b_K_addShut 4 = .ok (.aload_n 0, 1) := by decide +kernel
theorem d_K_addShut_5 : decode b_K_addShut 5 = .ok (.getfield 34, 3) := by decide +kernel
theorem d_K_addShut_8 : decode b_K_addShut 8 = .ok (.iload_n 1, 1) := by decide +kernel
theorem d_K_addShut_9 : decode b_K_addShut 9 = .ok (.iastore, 1) := by decide +kernel
theorem d_K_addShut_10 : decode b_K_addShut 10 = .ok (.aload_n 0, 1) := by decide +kernel
theorem d_K_addShut_11 : decode b_K_addShut 11 = .ok (.getfield 24, 3) := by decide +kernel
theorem d_K_addShut_14 : decode b_K_addShut 14 = .ok (.aload_n 0, 1) := by decide +kernel
theorem d_K_addShut_15 : decode b_K_addShut 15 = .ok (.getfield 34, 3) := by decide +kernel
theorem d_K_addShut_18 : decode b_K_addShut 18 = .ok (.iload_n 2, 1) := by decide +kernel
theorem d_K_addShut_19 : decode b_K_addShut 19 = .ok (.iastore, 1) := by decide +kernel
theorem d_K_addShut_20 : decode b_K_addShut 20 = .ok (.aload_n 0, 1) := by decide +kernel
theorem d_K_addShut_21 : decode b_K_addShut 21 = .ok (.dup, 1) := by decide +kernel
theorem d_K_addShut_22 : decode b_K_addShut 22 = .ok (.getfield 34, 3) := by decide +kernel
theorem d_K_addShut_25 : decode b_K_addShut 25 = .ok (.iconst 1, 1) := by decide +kernel
theorem d_K_addShut_26 : decode b_K_addShut 26 = .ok (.iadd, 1) := by decide +kernel
theorem d_K_addShut_27 : decode b_K_addShut 27 = .ok (.putfield 34, 3) := by decide +kernel
theorem d_K_addShut_30 : decode b_K_addShut 30 = .ok (.aload_n 0, 1) := by decide +kernel
theorem d_K_addShut_31 : decode b_K_addShut 31 = .ok (.invokevirtual 37, 3) := by decide +kernel
theorem d_K_addShut_34 : decode b_K_addShut 34 = .ok (.return_, 1) := by decide +kernel
theorem qm_K_37 : Cond.methodLink nC2 37 y_K_closeAsTold ∈ tbl := tbl_in 529 (by decide +kernel) rfl
theorem mo_K_addShut : MokV y_K_addShut b_K_addShut 3 none 2 := ⟨⟨(tbl_in 528 (by decide +kernel) rfl), (tbl_in 66 (by decide +kernel) rfl)⟩, ⟨(tbl_in 526 (by decide +kernel) rfl), tbl_lw _ (tbl_in 527 (by decide +kernel) rfl), (tbl_in 527 (by decide +kernel) rfl)⟩, ⟨by decide +kernel, by decide +kernel⟩, by decide +kernel⟩
def wp_K_addShut (σ : Hp) (a1 : Int32) (a2 : Int32) (P : Hp → Prop) : Prop :=
  (vp_in (σ 5 7) 8) ∧ (vp_in ((st σ 30 (ix (σ 5 7)) a1) 5 7) 8) ∧ wp_K_closeAsTold (st (st (st σ 30 (ix (σ 5 7)) a1) 31 (ix ((st σ 30 (ix (σ 5 7)) a1) 5 7)) a2) 5 7 (((st (st σ 30 (ix (σ 5 7)) a1) 31 (ix ((st σ 30 (ix (σ 5 7)) a1) 5 7)) a2) 5 7) + (1 : Int32))) (fun (t4 : Hp) => P t4)
set_option maxHeartbeats 4000000 in
set_option maxRecDepth 100000 in
theorem w_K_addShut (w : Wd) (σ : Hp) (a1 : Int32) (a2 : Int32) (P : Hp → Prop) (h : wp_K_addShut σ a1 a2 P) : CtN μC w y_K_addShut b_K_addShut 3 none 2 [.ref (w.1 5), .int a1, .int a2] σ P := by
  unfold wp_K_addShut at h
  refine CtN.ofV (C := nC2) (lo := [some (.ref (w.1 5)), some (.int a1), some (.int a2)]) exC (by decide +kernel) rfl rfl rfl (fun κ hC hR => ?_)
  refine V.aload_n hC d_K_addShut_0 rfl rfl ?_
  refine V.getR (j := 3) hC d_K_addShut_1 rfl rfl uC2 rfl rfl qf_K_21 ?_
  refine V.aload_n hC d_K_addShut_4 rfl rfl ?_
  refine V.getI (j := 7) hC d_K_addShut_5 rfl rfl uC2 rfl rfl qf_K_34 ?_
  refine V.iload_n hC d_K_addShut_8 rfl rfl ?_
  obtain ⟨b1, h⟩ := h
  refine V.iast hC d_K_addShut_9 rfl b1 ?_
  refine V.aload_n hC d_K_addShut_10 rfl rfl ?_
  refine V.getR (j := 4) hC d_K_addShut_11 rfl rfl uC2 rfl rfl qf_K_24 ?_
  refine V.aload_n hC d_K_addShut_14 rfl rfl ?_
  refine V.getI (j := 7) hC d_K_addShut_15 rfl rfl uC2 rfl rfl qf_K_34 ?_
  refine V.iload_n hC d_K_addShut_18 rfl rfl ?_
  obtain ⟨b2, h⟩ := h
  refine V.iast hC d_K_addShut_19 rfl b2 ?_
  refine V.aload_n hC d_K_addShut_20 rfl rfl ?_
  refine V.dup hC d_K_addShut_21 rfl ?_
  refine V.getI (j := 7) hC d_K_addShut_22 rfl rfl uC2 rfl rfl qf_K_34 ?_
  refine V.iconst (v := 1) hC d_K_addShut_25 (by decide) ?_
  refine V.iadd hC d_K_addShut_26 ?_
  refine V.put (j := 7) hC d_K_addShut_27 rfl rfl uC2 pC2 dC2 rfl rfl rfl rfl rfl qf_K_34 ?_
  refine V.aload_n hC d_K_addShut_30 rfl rfl ?_
  refine V.callVN hC exC (w_K_closeAsTold w (st (st (st σ 30 (ix (σ 5 7)) a1) 31 (ix ((st σ 30 (ix (σ 5 7)) a1) 5 7)) a2) 5 7 (((st (st σ 30 (ix (σ 5 7)) a1) 31 (ix ((st σ 30 (ix (σ 5 7)) a1) 5 7)) a2) 5 7) + (1 : Int32)))  _ h) d_K_addShut_31 mo_K_closeAsTold qm_K_37 rfl rfl rfl rfl rfl rfl rfl (Nat.le_of_ble_eq_true rfl) (fun t4 h => ?_)
  exact hR _ _ _ h d_K_addShut_34
abbrev b_P_shut : ByteArray := prog_1_method_10_code
def y_P_shut : MethodName := ⟨nC7, "shut", "(II)I"⟩
theorem d_P_shut_0 : decode b_P_shut 0 = .ok (.iload_n 1, 1) := by decide +kernel
theorem d_P_shut_1 : decode b_P_shut 1 = .ok (.invokestatic 126, 3) := by decide +kernel
theorem d_P_shut_4 : decode b_P_shut 4 = .ok (.ifCond .eq 10, 3) := by decide +kernel
theorem d_P_shut_7 : decode b_P_shut 7 = .ok (.iload_n 2, 1) := by decide +kernel
theorem d_P_shut_8 : decode b_P_shut 8 = .ok (.invokestatic 129, 3) := by decide +kernel
theorem d_P_shut_11 : decode b_P_shut 11 = .ok (.ifCond .ne 6, 3) := by decide +kernel
theorem d_P_shut_14 : decode b_P_shut 14 = .ok (.bipush (-2), 2) := by decide +kernel
theorem d_P_shut_16 : decode b_P_shut 16 = .ok (.ireturn, 1) := by decide +kernel
theorem d_P_shut_17 : decode b_P_shut 17 = .ok (.aload_n 0, 1) := by decide +kernel
theorem d_P_shut_18 : decode b_P_shut 18 = .ok (.getfield 41, 3) := by decide +kernel
theorem d_P_shut_21 : decode b_P_shut 21 = .ok (.getfield 141, 3) := by decide +kernel
theorem d_P_shut_24 : decode b_P_shut 24 = .ok (.bipush 8, 2) := by decide +kernel
theorem d_P_shut_26 : decode b_P_shut 26 = .ok (.if_icmp .lt 6, 3) := by decide +kernel
theorem d_P_shut_29 : decode b_P_shut 29 = .ok (.bipush (-4), 2) := by decide +kernel
theorem d_P_shut_31 : decode b_P_shut 31 = .ok (.ireturn, 1) := by decide +kernel
theorem d_P_shut_32 : decode b_P_shut 32 = .ok (.aload_n 0, 1) := by decide +kernel
theorem d_P_shut_33 : decode b_P_shut 33 = .ok (.getfield 41, 3) := by decide +kernel
theorem d_P_shut_36 : decode b_P_shut 36 = .ok (.iload_n 1, 1) := by decide +kernel
theorem d_P_shut_37 : decode b_P_shut 37 = .ok (.iload_n 2, 1) := by decide +kernel
theorem d_P_shut_38 : decode b_P_shut 38 = .ok (.invokevirtual 144, 3) := by decide +kernel
theorem d_P_shut_41 : decode b_P_shut 41 = .ok (.aload_n 0, 1) := by decide +kernel
theorem d_P_shut_42 : decode b_P_shut 42 = .ok (.getfield 41, 3) := by decide +kernel
theorem d_P_shut_45 : decode b_P_shut 45 = .ok (.getfield 141, 3) := by decide +kernel
theorem d_P_shut_48 : decode b_P_shut 48 = .ok (.ireturn, 1) := by decide +kernel
theorem qf_P_141 : Cond.fieldLink nC7 141 (fC2 7).1 (fC2 7).2.1 (fC2 7).2.2.1 ∈ tbl := tbl_in 184 (by decide +kernel) rfl
theorem qm_P_144 : Cond.methodLink nC7 144 y_K_addShut ∈ tbl := tbl_in 525 (by decide +kernel) rfl
def wp_P_shut (σ : Hp) (a1 : Int32) (a2 : Int32) (P : Int32 → Hp → Prop) : Prop :=
  wp_P_isDay σ a1 (fun (r1 : Int32) (t2 : Hp) => ((r1 = 0 → P (-2 : Int32) t2) ∧ (¬ r1 = 0 → wp_P_isPlace t2 a2 (fun (r4 : Int32) (t5 : Hp) => ((¬ r4 = 0 → (((t5 5 7) < (8 : Int32) → wp_K_addShut t5 a1 a2 (fun (t9 : Hp) => P (t9 5 7) t9)) ∧ (¬ (t5 5 7) < (8 : Int32) → P (-4 : Int32) t5))) ∧ (r4 = 0 → P (-2 : Int32) t5))))))
set_option maxHeartbeats 4000000 in
set_option maxRecDepth 100000 in
theorem w_P_shut (w : Wd) (σ : Hp) (a1 : Int32) (a2 : Int32) (P : Int32 → Hp → Prop) (h : wp_P_shut σ a1 a2 P) : CtI μC w y_P_shut b_P_shut 3 (some .int) 3 [.ref (w.1 0), .int a1, .int a2] σ P := by
  unfold wp_P_shut at h
  refine CtI.ofV (C := nC7) (lo := [some (.ref (w.1 0)), some (.int a1), some (.int a2)]) exC (by decide +kernel) rfl rfl rfl (fun κ hC hR => ?_)
  refine V.iload_n hC d_P_shut_0 rfl rfl ?_
  refine V.callSI hC exC (w_P_isDay w σ a1 _ h) d_P_shut_1 mo_P_isDay qm_P_126 rfl rfl rfl rfl (Nat.le_of_ble_eq_true rfl) (fun r1 t2 h => ?_)
  refine V.if_eq (tgt := 14) hC d_P_shut_4 (by decide) (fun c3 => ?_) (fun c3 => ?_)
  · replace h := h.1 c3
    refine V.bipush (v := -2) hC d_P_shut_14 (by decide) ?_
    exact hR _ _ _ _ h rfl d_P_shut_16
  · replace h := h.2 c3
    refine V.iload_n hC d_P_shut_7 rfl rfl ?_
    refine V.callSI hC exC (w_P_isPlace w t2 a2 _ h) d_P_shut_8 mo_P_isPlace qm_P_129 rfl rfl rfl rfl (Nat.le_of_ble_eq_true rfl) (fun r4 t5 h => ?_)
    refine V.if_ne (tgt := 17) hC d_P_shut_11 (by decide) (fun c6 => ?_) (fun c6 => ?_)
    · replace h := h.1 c6
      refine V.aload_n hC d_P_shut_17 rfl rfl ?_
      refine V.getR (j := 4) hC d_P_shut_18 rfl rfl uC7 rfl rfl qf_P_41 ?_
      refine V.getI (j := 7) hC d_P_shut_21 rfl rfl uC2 rfl rfl qf_P_141 ?_
      refine V.bipush (v := 8) hC d_P_shut_24 (by decide) ?_
      refine V.icmp_lt (tgt := 32) hC d_P_shut_26 (by decide) (fun c7 => ?_) (fun c7 => ?_)
      · replace h := h.1 c7
        refine V.aload_n hC d_P_shut_32 rfl rfl ?_
        refine V.getR (j := 4) hC d_P_shut_33 rfl rfl uC7 rfl rfl qf_P_41 ?_
        refine V.iload_n hC d_P_shut_36 rfl rfl ?_
        refine V.iload_n hC d_P_shut_37 rfl rfl ?_
        refine V.callVN hC exC (w_K_addShut w t5 a1 a2 _ h) d_P_shut_38 mo_K_addShut qm_P_144 rfl rfl rfl rfl rfl rfl rfl (Nat.le_of_ble_eq_true rfl) (fun t9 h => ?_)
        refine V.aload_n hC d_P_shut_41 rfl rfl ?_
        refine V.getR (j := 4) hC d_P_shut_42 rfl rfl uC7 rfl rfl qf_P_41 ?_
        refine V.getI (j := 7) hC d_P_shut_45 rfl rfl uC2 rfl rfl qf_P_141 ?_
        exact hR _ _ _ _ h rfl d_P_shut_48
      · replace h := h.2 c7
        refine V.bipush (v := -4) hC d_P_shut_29 (by decide) ?_
        exact hR _ _ _ _ h rfl d_P_shut_31
    · replace h := h.2 c6
      refine V.bipush (v := -2) hC d_P_shut_14 (by decide) ?_
      exact hR _ _ _ _ h rfl d_P_shut_16
abbrev b_K_undoSuit : ByteArray := prog_4_method_3_code
def y_K_undoSuit : MethodName := ⟨nC2, "undoSuit", "()I"⟩
theorem d_K_undoSuit_0 : decode b_K_undoSuit 0 = .ok (.aload_n 0, 1) := by decide +kernel
theorem d_K_undoSuit_1 : decode b_K_undoSuit 1 = .ok (.dup, 1) := by decide +kernel
theorem d_K_undoSuit_2 : decode b_K_undoSuit 2 = .ok (.getfield 30, 3) := by decide +kernel
theorem d_K_undoSuit_5 : decode b_K_undoSuit 5 = .ok (.iconst 1, 1) := by decide +kernel
theorem d_K_undoSuit_6 : decode b_K_undoSuit 6 = .ok (.isub, 1) := by decide +kernel
theorem d_K_undoSuit_7 : decode b_K_undoSuit 7 = .ok (.putfield 30, 3) := by decide +kernel
theorem d_K_undoSuit_10 : decode b_K_undoSuit 10 = .ok (.aload_n 0, 1) := by decide +kernel
theorem d_K_undoSuit_11 : decode b_K_undoSuit 11 = .ok (.getfield 30, 3) := by decide +kernel
theorem d_K_undoSuit_14 : decode b_K_undoSuit 14 = .ok (.ireturn, 1) := by decide +kernel
theorem mo_K_undoSuit : MokV y_K_undoSuit b_K_undoSuit 1 (some .int) 0 := ⟨⟨(tbl_in 541 (by decide +kernel) rfl), (tbl_in 66 (by decide +kernel) rfl)⟩, ⟨(tbl_in 539 (by decide +kernel) rfl), tbl_lw _ (tbl_in 540 (by decide +kernel) rfl), (tbl_in 540 (by decide +kernel) rfl)⟩, ⟨by decide +kernel, by decide +kernel⟩, by decide +kernel⟩
def wp_K_undoSuit (σ : Hp)  (P : Int32 → Hp → Prop) : Prop :=
  P ((st σ 5 6 ((σ 5 6) - (1 : Int32))) 5 6) (st σ 5 6 ((σ 5 6) - (1 : Int32)))
set_option maxHeartbeats 4000000 in
set_option maxRecDepth 100000 in
theorem w_K_undoSuit (w : Wd) (σ : Hp)  (P : Int32 → Hp → Prop) (h : wp_K_undoSuit σ  P) : CtI μC w y_K_undoSuit b_K_undoSuit 1 (some .int) 0 [.ref (w.1 5)] σ P := by
  unfold wp_K_undoSuit at h
  refine CtI.ofV (C := nC2) (lo := [some (.ref (w.1 5))]) exC (by decide +kernel) rfl rfl rfl (fun κ hC hR => ?_)
  refine V.aload_n hC d_K_undoSuit_0 rfl rfl ?_
  refine V.dup hC d_K_undoSuit_1 rfl ?_
  refine V.getI (j := 6) hC d_K_undoSuit_2 rfl rfl uC2 rfl rfl qf_K_30 ?_
  refine V.iconst (v := 1) hC d_K_undoSuit_5 (by decide) ?_
  refine V.isub hC d_K_undoSuit_6 ?_
  refine V.put (j := 6) hC d_K_undoSuit_7 rfl rfl uC2 pC2 dC2 rfl rfl rfl rfl rfl qf_K_30 ?_
  refine V.aload_n hC d_K_undoSuit_10 rfl rfl ?_
  refine V.getI (j := 6) hC d_K_undoSuit_11 rfl rfl uC2 rfl rfl qf_K_30 ?_
  exact hR _ _ _ _ h rfl d_K_undoSuit_14
abbrev b_K_undoShut : ByteArray := prog_4_method_5_code
def y_K_undoShut : MethodName := ⟨nC2, "undoShut", "()I"⟩
theorem d_K_undoShut_0 : decode b_K_undoShut 0 = .ok (.aload_n 0, 1) := by decide +kernel
theorem d_K_undoShut_1 : decode b_K_undoShut 1 = .ok (.dup, 1) := by decide +kernel
theorem d_K_undoShut_2 : decode b_K_undoShut 2 = .ok (.getfield 34, 3) := by decide +kernel
theorem d_K_undoShut_5 : decode b_K_undoShut 5 = .ok (.iconst 1, 1) := by decide +kernel
theorem d_K_undoShut_6 : decode b_K_undoShut 6 = .ok (.isub, 1) := by decide +kernel
theorem d_K_undoShut_7 : decode b_K_undoShut 7 = .ok (.putfield 34, 3) := by decide +kernel
theorem d_K_undoShut_10 : decode b_K_undoShut 10 = .ok (.aload_n 0, 1) := by decide +kernel
theorem d_K_undoShut_11 : decode b_K_undoShut 11 = .ok (.invokevirtual 37, 3) := by decide +kernel
theorem d_K_undoShut_14 : decode b_K_undoShut 14 = .ok (.aload_n 0, 1) := by decide +kernel
theorem d_K_undoShut_15 : decode b_K_undoShut 15 = .ok (.getfield 34, 3) := by decide +kernel
theorem d_K_undoShut_18 : decode b_K_undoShut 18 = .ok (.ireturn, 1) := by decide +kernel
theorem mo_K_undoShut : MokV y_K_undoShut b_K_undoShut 1 (some .int) 0 := ⟨⟨(tbl_in 545 (by decide +kernel) rfl), (tbl_in 66 (by decide +kernel) rfl)⟩, ⟨(tbl_in 543 (by decide +kernel) rfl), tbl_lw _ (tbl_in 544 (by decide +kernel) rfl), (tbl_in 544 (by decide +kernel) rfl)⟩, ⟨by decide +kernel, by decide +kernel⟩, by decide +kernel⟩
def wp_K_undoShut (σ : Hp)  (P : Int32 → Hp → Prop) : Prop :=
  wp_K_closeAsTold (st σ 5 7 ((σ 5 7) - (1 : Int32))) (fun (t2 : Hp) => P (t2 5 7) t2)
set_option maxHeartbeats 4000000 in
set_option maxRecDepth 100000 in
theorem w_K_undoShut (w : Wd) (σ : Hp)  (P : Int32 → Hp → Prop) (h : wp_K_undoShut σ  P) : CtI μC w y_K_undoShut b_K_undoShut 1 (some .int) 2 [.ref (w.1 5)] σ P := by
  unfold wp_K_undoShut at h
  refine CtI.ofV (C := nC2) (lo := [some (.ref (w.1 5))]) exC (by decide +kernel) rfl rfl rfl (fun κ hC hR => ?_)
  refine V.aload_n hC d_K_undoShut_0 rfl rfl ?_
  refine V.dup hC d_K_undoShut_1 rfl ?_
  refine V.getI (j := 7) hC d_K_undoShut_2 rfl rfl uC2 rfl rfl qf_K_34 ?_
  refine V.iconst (v := 1) hC d_K_undoShut_5 (by decide) ?_
  refine V.isub hC d_K_undoShut_6 ?_
  refine V.put (j := 7) hC d_K_undoShut_7 rfl rfl uC2 pC2 dC2 rfl rfl rfl rfl rfl qf_K_34 ?_
  refine V.aload_n hC d_K_undoShut_10 rfl rfl ?_
  refine V.callVN hC exC (w_K_closeAsTold w (st σ 5 7 ((σ 5 7) - (1 : Int32)))  _ h) d_K_undoShut_11 mo_K_closeAsTold qm_K_37 rfl rfl rfl rfl rfl rfl rfl (Nat.le_of_ble_eq_true rfl) (fun t2 h => ?_)
  refine V.aload_n hC d_K_undoShut_14 rfl rfl ?_
  refine V.getI (j := 7) hC d_K_undoShut_15 rfl rfl uC2 rfl rfl qf_K_34 ?_
  exact hR _ _ _ _ h rfl d_K_undoShut_18
abbrev b_P_back : ByteArray := prog_1_method_11_code
def y_P_back : MethodName := ⟨nC7, "back", "(I)I"⟩
theorem d_P_back_0 : decode b_P_back 0 = .ok (.iload_n 1, 1) := by decide +kernel
theorem d_P_back_1 : decode b_P_back 1 = .ok (.ifCond .eq 11, 3) := by decide +kernel
theorem d_P_back_4 : decode b_P_back 4 = .ok (.iload_n 1, 1) := by decide +kernel
theorem d_P_back_5 : decode b_P_back 5 = .ok (.iconst 1, 1) := by decide +kernel
theorem d_P_back_6 : decode b_P_back 6 = .ok (.if_icmp .eq 6, 3) := by decide +kernel
theorem d_P_back_9 : decode b_P_back 9 = .ok (.bipush (-2), 2) := by decide +kernel
theorem d_P_back_11 : decode b_P_back 11 = .ok (.ireturn, 1) := by decide +kernel
theorem d_P_back_12 : decode b_P_back 12 = .ok (.iload_n 1, 1) := by decide +kernel
theorem d_P_back_13 : decode b_P_back 13 = .ok (.ifCond .ne 13, 3) := by decide +kernel
theorem d_P_back_16 : decode b_P_back 16 = .ok (.aload_n 0, 1) := by decide +kernel
theorem d_P_back_17 : decode b_P_back 17 = .ok (.getfield 41, 3) := by decide +kernel
theorem d_P_back_20 : decode b_P_back 20 = .ok (.getfield 132, 3) := by decide +kernel
theorem d_P_back_23 : decode b_P_back 23 = .ok (.goto 10, 3) := by decide +kernel
theorem d_P_back_26 : decode b_P_back 26 = .ok (.aload_n 0, 1) := by decide +kernel
theorem d_P_back_27 : decode b_P_back 27 = .ok (.getfield 41, 3) := by decide +kernel
theorem d_P_back_30 : decode b_P_back 30 = .ok (.getfield 141, 3) := by decide +kernel
theorem d_P_back_33 : decode b_P_back 33 = .ok (.ifCond .ne 6, 3) := by decide +kernel
theorem d_P_back_36 : decode b_P_back 36 = .ok (.bipush (-3), 2) := by decide +kernel
theorem d_P_back_38 : decode b_P_back 38 = .ok (.ireturn, 1) := by decide +kernel
theorem d_P_back_39 : decode b_P_back 39 = .ok (.iload_n 1, 1) := by decide +kernel
theorem d_P_back_40 : decode b_P_back 40 = .ok (.ifCond .ne 13, 3) := by decide +kernel
theorem d_P_back_43 : decode b_P_back 43 = .ok (.aload_n 0, 1) := by decide +kernel
theorem d_P_back_44 : decode b_P_back 44 = .ok (.getfield 41, 3) := by decide +kernel
theorem d_P_back_47 : decode b_P_back 47 = .ok (.invokevirtual 148, 3) := by decide +kernel
theorem d_P_back_50 : decode b_P_back 50 = .ok (.goto 10, 3) := by decide +kernel
theorem d_P_back_53 : decode b_P_back 53 = .ok (.aload_n 0, 1) := by decide +kernel
theorem d_P_back_54 : decode b_P_back 54 = .ok (.getfield 41, 3) := by decide +kernel
theorem d_P_back_57 : decode b_P_back 57 = .ok (.invokevirtual 151, 3) := by decide +kernel
theorem d_P_back_60 : decode b_P_back 60 = .ok (.ireturn, 1) := by decide +kernel
theorem qm_P_148 : Cond.methodLink nC7 148 y_K_undoSuit ∈ tbl := tbl_in 538 (by decide +kernel) rfl
theorem qm_P_151 : Cond.methodLink nC7 151 y_K_undoShut ∈ tbl := tbl_in 542 (by decide +kernel) rfl
def j_P_back_33 (P : Int32 → Hp → Prop)  (σ : Hp) (x1 : Int32) (s0 : Int32) : Prop :=
  ((¬ s0 = 0 → ((¬ x1 = 0 → wp_K_undoShut σ (fun (r3 : Int32) (t4 : Hp) => P r3 t4)) ∧ (x1 = 0 → wp_K_undoSuit σ (fun (r5 : Int32) (t6 : Hp) => P r5 t6)))) ∧ (s0 = 0 → P (-3 : Int32) σ))
def j_P_back_12 (P : Int32 → Hp → Prop)  (σ : Hp) (x1 : Int32) : Prop :=
  ((¬ x1 = 0 → j_P_back_33 P σ x1 (σ 5 7)) ∧ (x1 = 0 → j_P_back_33 P σ x1 (σ 5 6)))
def wp_P_back (σ : Hp) (a1 : Int32) (P : Int32 → Hp → Prop) : Prop :=
  ((a1 = 0 → j_P_back_12 P σ a1) ∧ (¬ a1 = 0 → ((a1 = (1 : Int32) → j_P_back_12 P σ a1) ∧ (¬ a1 = (1 : Int32) → P (-2 : Int32) σ))))
set_option maxHeartbeats 4000000 in
set_option maxRecDepth 100000 in
theorem wj_P_back_33 {w : Wd} {κ : Kx} {P : Int32 → Hp → Prop} (hC : Cx μC w 2 κ nC7 b_P_back 3) (hR : RtI μC w 2 κ b_P_back .int P)  : ∀ (σ : Hp) (x1 : Int32) (s0 : Int32), j_P_back_33  P  σ x1 s0 → V μC w 2 κ σ [some (.ref (w.1 0)), some (.int x1)] 33 [.int s0] := by
  intro σ x1 s0 h
  unfold j_P_back_33 at h
  refine V.if_ne (tgt := 39) hC d_P_back_33 (by decide) (fun c1 => ?_) (fun c1 => ?_)
  · replace h := h.1 c1
    refine V.iload_n hC d_P_back_39 rfl rfl ?_
    refine V.if_ne (tgt := 53) hC d_P_back_40 (by decide) (fun c2 => ?_) (fun c2 => ?_)
    · replace h := h.1 c2
      refine V.aload_n hC d_P_back_53 rfl rfl ?_
      refine V.getR (j := 4) hC d_P_back_54 rfl rfl uC7 rfl rfl qf_P_41 ?_
      refine V.callVI hC exC (w_K_undoShut w σ  _ h) d_P_back_57 mo_K_undoShut qm_P_151 rfl rfl rfl rfl rfl rfl rfl (Nat.le_of_ble_eq_true rfl) (fun r3 t4 h => ?_)
      exact hR _ _ _ _ h rfl d_P_back_60
    · replace h := h.2 c2
      refine V.aload_n hC d_P_back_43 rfl rfl ?_
      refine V.getR (j := 4) hC d_P_back_44 rfl rfl uC7 rfl rfl qf_P_41 ?_
      refine V.callVI hC exC (w_K_undoSuit w σ  _ h) d_P_back_47 mo_K_undoSuit qm_P_148 rfl rfl rfl rfl rfl rfl rfl (Nat.le_of_ble_eq_true rfl) (fun r5 t6 h => ?_)
      refine V.goto (tgt := 60) hC d_P_back_50 (by decide) ?_
      exact hR _ _ _ _ h rfl d_P_back_60
  · replace h := h.2 c1
    refine V.bipush (v := -3) hC d_P_back_36 (by decide) ?_
    exact hR _ _ _ _ h rfl d_P_back_38
set_option maxHeartbeats 4000000 in
set_option maxRecDepth 100000 in
theorem wj_P_back_12 {w : Wd} {κ : Kx} {P : Int32 → Hp → Prop} (hC : Cx μC w 2 κ nC7 b_P_back 3) (hR : RtI μC w 2 κ b_P_back .int P)  : ∀ (σ : Hp) (x1 : Int32), j_P_back_12  P  σ x1 → V μC w 2 κ σ [some (.ref (w.1 0)), some (.int x1)] 12 [] := by
  intro σ x1 h
  unfold j_P_back_12 at h
  refine V.iload_n hC d_P_back_12 rfl rfl ?_
  refine V.if_ne (tgt := 26) hC d_P_back_13 (by decide) (fun c7 => ?_) (fun c7 => ?_)
  · replace h := h.1 c7
    refine V.aload_n hC d_P_back_26 rfl rfl ?_
    refine V.getR (j := 4) hC d_P_back_27 rfl rfl uC7 rfl rfl qf_P_41 ?_
    refine V.getI (j := 7) hC d_P_back_30 rfl rfl uC2 rfl rfl qf_P_141 ?_
    exact V.msk [true, true] rfl (wj_P_back_33  hC hR  σ x1 (σ 5 7) h)
  · replace h := h.2 c7
    refine V.aload_n hC d_P_back_16 rfl rfl ?_
    refine V.getR (j := 4) hC d_P_back_17 rfl rfl uC7 rfl rfl qf_P_41 ?_
    refine V.getI (j := 6) hC d_P_back_20 rfl rfl uC2 rfl rfl qf_P_132 ?_
    refine V.goto (tgt := 33) hC d_P_back_23 (by decide) ?_
    exact V.msk [true, true] rfl (wj_P_back_33  hC hR  σ x1 (σ 5 6) h)
set_option maxHeartbeats 4000000 in
set_option maxRecDepth 100000 in
theorem w_P_back (w : Wd) (σ : Hp) (a1 : Int32) (P : Int32 → Hp → Prop) (h : wp_P_back σ a1 P) : CtI μC w y_P_back b_P_back 2 (some .int) 3 [.ref (w.1 0), .int a1] σ P := by
  unfold wp_P_back at h
  refine CtI.ofV (C := nC7) (lo := [some (.ref (w.1 0)), some (.int a1)]) exC (by decide +kernel) rfl rfl rfl (fun κ hC hR => ?_)
  refine V.iload_n hC d_P_back_0 rfl rfl ?_
  refine V.if_eq (tgt := 12) hC d_P_back_1 (by decide) (fun c8 => ?_) (fun c8 => ?_)
  · replace h := h.1 c8
    exact V.msk [true, true] rfl (wj_P_back_12  hC hR  σ a1 h)
  · replace h := h.2 c8
    refine V.iload_n hC d_P_back_4 rfl rfl ?_
    refine V.iconst (v := 1) hC d_P_back_5 (by decide) ?_
    refine V.icmp_eq (tgt := 12) hC d_P_back_6 (by decide) (fun c9 => ?_) (fun c9 => ?_)
    · replace h := h.1 c9
      exact V.msk [true, true] rfl (wj_P_back_12  hC hR  σ a1 h)
    · replace h := h.2 c9
      refine V.bipush (v := -2) hC d_P_back_9 (by decide) ?_
      exact hR _ _ _ _ h rfl d_P_back_11
abbrev b_P_isSheet : ByteArray := prog_1_method_45_code
def y_P_isSheet : MethodName := ⟨nC7, "isSheet", "(I)Z"⟩
theorem d_P_isSheet_0 : decode b_P_isSheet 0 = .ok (.iload_n 1, 1) := by decide +kernel
theorem d_P_isSheet_1 : decode b_P_isSheet 1 = .ok (.ifCond .lt 16, 3) := by decide +kernel
theorem d_P_isSheet_4 : decode b_P_isSheet 4 = .ok (.iload_n 1, 1) := by decide +kernel
theorem d_P_isSheet_5 : decode b_P_isSheet 5 = .ok (.aload_n 0, 1) := by decide +kernel
theorem d_P_isSheet_6 : decode b_P_isSheet 6 = .ok (.getfield 59, 3) := by decide +kernel
theorem d_P_isSheet_9 : decode b_P_isSheet 9 = .ok (.arraylength, 1) := by decide +kernel
theorem d_P_isSheet_10 : decode b_P_isSheet 10 = .ok (.if_icmp .ge 7, 3) := by decide +kernel
theorem d_P_isSheet_13 : decode b_P_isSheet 13 = .ok (.iconst 1, 1) := by decide +kernel
theorem d_P_isSheet_14 : decode b_P_isSheet 14 = .ok (.goto 4, 3) := by decide +kernel
theorem d_P_isSheet_17 : decode b_P_isSheet 17 = .ok (.iconst 0, 1) := by decide +kernel
theorem d_P_isSheet_18 : decode b_P_isSheet 18 = .ok (.ireturn, 1) := by decide +kernel
theorem qf_P_59 : Cond.fieldLink nC7 59 (fC7 7).1 (fC7 7).2.1 (fC7 7).2.2.1 ∈ tbl := tbl_in 292 (by decide +kernel) rfl
theorem mo_P_isSheet : MokV y_P_isSheet b_P_isSheet 2 (some .boolean) 1 := ⟨⟨(tbl_in 553 (by decide +kernel) rfl), (tbl_in 62 (by decide +kernel) rfl)⟩, ⟨(tbl_in 552 (by decide +kernel) rfl), tbl_lw _ (tbl_in 5 (by decide +kernel) rfl), (tbl_in 5 (by decide +kernel) rfl)⟩, ⟨by decide +kernel, by decide +kernel⟩, by decide +kernel⟩
def wp_P_isSheet (σ : Hp) (a1 : Int32) (P : Int32 → Hp → Prop) : Prop :=
  ((a1 < 0 → P (0 : Int32) σ) ∧ (¬ a1 < 0 → (((4 : Int32) ≤ a1 → P (0 : Int32) σ) ∧ (¬ (4 : Int32) ≤ a1 → P (1 : Int32) σ))))
set_option maxHeartbeats 4000000 in
set_option maxRecDepth 100000 in
theorem w_P_isSheet (w : Wd) (σ : Hp) (a1 : Int32) (P : Int32 → Hp → Prop) (h : wp_P_isSheet σ a1 P) : CtI μC w y_P_isSheet b_P_isSheet 2 (some .boolean) 0 [.ref (w.1 0), .int a1] σ P := by
  unfold wp_P_isSheet at h
  refine CtI.ofV (C := nC7) (lo := [some (.ref (w.1 0)), some (.int a1)]) exC (by decide +kernel) rfl rfl rfl (fun κ hC hR => ?_)
  refine V.iload_n hC d_P_isSheet_0 rfl rfl ?_
  refine V.if_lt (tgt := 17) hC d_P_isSheet_1 (by decide) (fun c1 => ?_) (fun c1 => ?_)
  · replace h := h.1 c1
    refine V.iconst (v := 0) hC d_P_isSheet_17 (by decide) ?_
    exact hR _ _ _ _ h (by decide) d_P_isSheet_18
  · replace h := h.2 c1
    refine V.iload_n hC d_P_isSheet_4 rfl rfl ?_
    refine V.aload_n hC d_P_isSheet_5 rfl rfl ?_
    refine V.getR (j := 7) hC d_P_isSheet_6 rfl rfl uC7 rfl rfl qf_P_59 ?_
    refine V.alenq (b := 10) (v := 4) hC d_P_isSheet_9 rfl rfl ?_
    refine V.icmp_ge (tgt := 17) hC d_P_isSheet_10 (by decide) (fun c2 => ?_) (fun c2 => ?_)
    · replace h := h.1 c2
      refine V.iconst (v := 0) hC d_P_isSheet_17 (by decide) ?_
      exact hR _ _ _ _ h (by decide) d_P_isSheet_18
    · replace h := h.2 c2
      refine V.iconst (v := 1) hC d_P_isSheet_13 (by decide) ?_
      refine V.goto (tgt := 18) hC d_P_isSheet_14 (by decide) ?_
      exact hR _ _ _ _ h (by decide) d_P_isSheet_18
abbrev b_S_isLost : ByteArray := prog_6_method_2_code
def y_S_isLost : MethodName := ⟨nC4, "isLost", "()Z"⟩
theorem d_S_isLost_0 : decode b_S_isLost 0 = .ok (.aload_n 0, 1) := by decide +kernel
theorem d_S_isLost_1 : decode b_S_isLost 1 = .ok (.getfield 15, 3) := by decide +kernel
theorem d_S_isLost_4 : decode b_S_isLost 4 = .ok (.iconst (-1), 1) := by decide +kernel
theorem d_S_isLost_5 : decode b_S_isLost 5 = .ok (.if_icmp .ne 7, 3) := by decide +kernel
theorem d_S_isLost_8 : decode b_S_isLost 8 = .ok (.iconst 1, 1) := by decide +kernel
theorem d_S_isLost_9 : decode b_S_isLost 9 = .ok (.goto 4, 3) := by decide +kernel
theorem d_S_isLost_12 : decode b_S_isLost 12 = .ok (.iconst 0, 1) := by decide +kernel
theorem d_S_isLost_13 : decode b_S_isLost 13 = .ok (.ireturn, 1) := by decide +kernel
theorem qf_S_15 : Cond.fieldLink nC4 15 (fC4 1).1 (fC4 1).2.1 (fC4 1).2.2.1 ∈ tbl := tbl_in 274 (by decide +kernel) rfl
theorem mo_S_isLost : MokV y_S_isLost b_S_isLost 1 (some .boolean) 0 := ⟨⟨(tbl_in 557 (by decide +kernel) rfl), (tbl_in 69 (by decide +kernel) rfl)⟩, ⟨(tbl_in 555 (by decide +kernel) rfl), tbl_lw _ (tbl_in 556 (by decide +kernel) rfl), (tbl_in 556 (by decide +kernel) rfl)⟩, ⟨by decide +kernel, by decide +kernel⟩, by decide +kernel⟩
def wp_S_isLost (σ : Hp) (o0 : Nat) (P : Int32 → Hp → Prop) : Prop :=
  (isS o0) ∧ ((¬ (σ o0 1) = (-1 : Int32) → P (0 : Int32) σ) ∧ ((σ o0 1) = (-1 : Int32) → P (1 : Int32) σ))
set_option maxHeartbeats 4000000 in
set_option maxRecDepth 100000 in
theorem w_S_isLost (w : Wd) (σ : Hp) (o0 : Nat) (P : Int32 → Hp → Prop) (h : wp_S_isLost σ o0 P) : CtI μC w y_S_isLost b_S_isLost 1 (some .boolean) 0 [.ref (w.1 o0)] σ P := by
  unfold wp_S_isLost at h
  refine CtI.ofV (C := nC4) (lo := [some (.ref (w.1 o0))]) exC (by decide +kernel) rfl rfl rfl (fun κ hC hR => ?_)
  obtain ⟨m1, h⟩ := h
  refine V.aload_n hC d_S_isLost_0 rfl rfl ?_
  refine V.getI (j := 1) hC d_S_isLost_1 (shS m1) rfl uC4 rfl rfl qf_S_15 ?_
  refine V.iconst (v := -1) hC d_S_isLost_4 (by decide) ?_
  refine V.icmp_ne (tgt := 12) hC d_S_isLost_5 (by decide) (fun c2 => ?_) (fun c2 => ?_)
  · replace h := h.1 c2
    refine V.iconst (v := 0) hC d_S_isLost_12 (by decide) ?_
    exact hR _ _ _ _ h (by decide) d_S_isLost_13
  · replace h := h.2 c2
    refine V.iconst (v := 1) hC d_S_isLost_8 (by decide) ?_
    refine V.goto (tgt := 13) hC d_S_isLost_9 (by decide) ?_
    exact hR _ _ _ _ h (by decide) d_S_isLost_13
abbrev b_P_found : ByteArray := prog_1_method_51_code
def y_P_found : MethodName := ⟨nC7, "found", "(I)I"⟩
theorem d_P_found_0 : decode b_P_found 0 = .ok (.aload_n 0, 1) := by decide +kernel
theorem d_P_found_1 : decode b_P_found 1 = .ok (.iload_n 1, 1) := by decide +kernel
theorem d_P_found_2 : decode b_P_found 2 = .ok (.putfield 67, 3) := by decide +kernel
theorem d_P_found_5 : decode b_P_found 5 = .ok (.bipush (-10), 2) := by decide +kernel
theorem d_P_found_7 : decode b_P_found 7 = .ok (.iload_n 1, 1) := by decide +kernel
theorem d_P_found_8 : decode b_P_found 8 = .ok (.isub, 1) := by decide +kernel
theorem d_P_found_9 : decode b_P_found 9 = .ok (.ireturn, 1) := by decide +kernel
theorem qf_P_67 : Cond.fieldLink nC7 67 (fC7 9).1 (fC7 9).2.1 (fC7 9).2.2.1 ∈ tbl := tbl_in 294 (by decide +kernel) rfl
theorem mo_P_found : MokV y_P_found b_P_found 2 (some .int) 1 := ⟨⟨(tbl_in 561 (by decide +kernel) rfl), (tbl_in 62 (by decide +kernel) rfl)⟩, ⟨(tbl_in 560 (by decide +kernel) rfl), tbl_lw _ (tbl_in 6 (by decide +kernel) rfl), (tbl_in 6 (by decide +kernel) rfl)⟩, ⟨by decide +kernel, by decide +kernel⟩, by decide +kernel⟩
def wp_P_found (σ : Hp) (a1 : Int32) (P : Int32 → Hp → Prop) : Prop :=
  P ((-10 : Int32) - a1) (st σ 0 9 a1)
set_option maxHeartbeats 4000000 in
set_option maxRecDepth 100000 in
theorem w_P_found (w : Wd) (σ : Hp) (a1 : Int32) (P : Int32 → Hp → Prop) (h : wp_P_found σ a1 P) : CtI μC w y_P_found b_P_found 2 (some .int) 0 [.ref (w.1 0), .int a1] σ P := by
  unfold wp_P_found at h
  refine CtI.ofV (C := nC7) (lo := [some (.ref (w.1 0)), some (.int a1)]) exC (by decide +kernel) rfl rfl rfl (fun κ hC hR => ?_)
  refine V.aload_n hC d_P_found_0 rfl rfl ?_
  refine V.iload_n hC d_P_found_1 rfl rfl ?_
  refine V.put (j := 9) hC d_P_found_2 rfl rfl uC7 pC7 dC7 rfl rfl rfl rfl rfl qf_P_67 ?_
  refine V.bipush (v := -10) hC d_P_found_5 (by decide) ?_
  refine V.iload_n hC d_P_found_7 rfl rfl ?_
  refine V.isub hC d_P_found_8 ?_
  exact hR _ _ _ _ h rfl d_P_found_9
abbrev b_P_read : ByteArray := prog_1_method_12_code
def y_P_read : MethodName := ⟨nC7, "read", "(I)I"⟩
theorem d_P_read_0 : decode b_P_read 0 = .ok (.aload_n 0, 1) := by decide +kernel
theorem d_P_read_1 : decode b_P_read 1 = .ok (.iload_n 1, 1) := by decide +kernel
theorem d_P_read_2 : decode b_P_read 2 = .ok (.invokevirtual 154, 3) := by decide +kernel
theorem d_P_read_5 : decode b_P_read 5 = .ok (.ifCond .ne 6, 3) := by decide +kernel
theorem d_P_read_8 : decode b_P_read 8 = .ok (.bipush (-2), 2) := by decide +kernel
theorem d_P_read_10 : decode b_P_read 10 = .ok (.ireturn, 1) := by decide +kernel
theorem d_P_read_11 : decode b_P_read 11 = .ok (.aload_n 0, 1) := by decide +kernel
theorem d_P_read_12 : decode b_P_read 12 = .ok (.getfield 59, 3) := by decide +kernel
theorem d_P_read_15 : decode b_P_read 15 = .ok (.iload_n 1, 1) := by decide +kernel
theorem d_P_read_16 : decode b_P_read 16 = .ok (.aaload, 1) := by decide +kernel
theorem d_P_read_17 : decode b_P_read 17 = .ok (.astore_n 2, 1) := by decide +kernel
theorem d_P_read_18 : decode b_P_read 18 = .ok (.aload_n 2, 1) := by decide +kernel
theorem d_P_read_19 : decode b_P_read 19 = .ok (.invokevirtual 157, 3) := by decide +kernel
theorem d_P_read_22 : decode b_P_read 22 = .ok (.ifCond .eq 9, 3) := by decide +kernel
theorem d_P_read_25 : decode b_P_read 25 = .ok (.aload_n 0, 1) := by decide +kernel
theorem d_P_read_26 : decode b_P_read 26 = .ok (.iconst 1, 1) := by decide +kernel
theorem d_P_read_27 : decode b_P_read 27 = .ok (.invokevirtual 160, 3) := by decide +kernel
theorem d_P_read_30 : decode b_P_read 30 = .ok (.ireturn, 1) := by decide +kernel
theorem d_P_read_31 : decode b_P_read 31 = .ok (.iconst 0, 1) := by decide +kernel
theorem d_P_read_32 : decode b_P_read 32 = .ok (.istore_n 3, 1) := by decide +kernel
theorem d_P_read_33 : decode b_P_read 33 = .ok (.iconst 0, 1) := by decide +kernel
theorem d_P_read_34 : decode b_P_read 34 = .ok (.istore 4, 2) := by decide +kernel
theorem d_P_read_36 : decode b_P_read 36 = .ok (.iload 4, 2) := by decide +kernel
theorem d_P_read_38 : decode b_P_read 38 = .ok (.iconst 3, 1) := by decide +kernel
theorem d_P_read_39 : decode b_P_read 39 = .ok (.iadd, 1) := by decide +kernel
theorem d_P_read_40 : decode b_P_read 40 = .ok (.aload_n 2, 1) := by decide +kernel
theorem d_P_read_41 : decode b_P_read 41 = .ok (.getfield 164, 3) := by decide +kernel
theorem d_P_read_44 : decode b_P_read 44 = .ok (.if_icmp .gt 47, 3) := by decide +kernel
theorem d_P_read_47 : decode b_P_read 47 = .ok (.aload_n 0, 1) := by decide +kernel
theorem d_P_read_48 : decode b_P_read 48 = .ok (.aload_n 2, 1) := by decide +kernel
theorem d_P_read_49 : decode b_P_read 49 = .ok (.getfield 165, 3) := by decide +kernel
theorem d_P_read_52 : decode b_P_read 52 = .ok (.iload 4, 2) := by decide +kernel
theorem d_P_read_54 : decode b_P_read 54 = .ok (.iaload, 1) := by decide +kernel
theorem d_P_read_55 : decode b_P_read 55 = .ok (.aload_n 2, 1) := by decide +kernel
theorem d_P_read_56 : decode b_P_read 56 = .ok (.getfield 165, 3) := by decide +kernel
theorem d_P_read_59 : decode b_P_read 59 = .ok (.iload 4, 2) := by decide +kernel
theorem d_P_read_61 : decode b_P_read 61 = .ok (.iconst 1, 1) := by decide +kernel
theorem d_P_read_62 : decode b_P_read 62 = .ok (.iadd, 1) := by decide +kernel
theorem d_P_read_63 : decode b_P_read 63 = .ok (.iaload, 1) := by decide +kernel
theorem d_P_read_64 : decode b_P_read 64 = .ok (.aload_n 2, 1) := by decide +kernel
theorem d_P_read_65 : decode b_P_read 65 = .ok (.getfield 165, 3) := by decide +kernel
theorem d_P_read_68 : decode b_P_read 68 = .ok (.iload 4, 2) := by decide +kernel
theorem d_P_read_70 : decode b_P_read 70 = .ok (.iconst 2, 1) := by decide +kernel
theorem d_P_read_71 : decode b_P_read 71 = .ok (.iadd, 1) := by decide +kernel
theorem d_P_read_72 : decode b_P_read 72 = .ok (.iaload, 1) := by decide +kernel
theorem d_P_read_73 : decode b_P_read 73 = .ok (.invokevirtual 168, 3) := by decide +kernel
theorem d_P_read_76 : decode b_P_read 76 = .ok (.ifCond .ge 6, 3) := by decide +kernel
theorem d_P_read_79 : decode b_P_read 79 = .ok (.goto 12, 3) := by decide +kernel
theorem d_P_read_82 : decode b_P_read 82 = .ok (.iinc 3 1, 3) := by decide +kernel
theorem d_P_read_85 : decode b_P_read 85 = .ok (.iinc 4 3, 3) := by decide +kernel
theorem d_P_read_88 : decode b_P_read 88 = .ok (.goto (-52), 3) := by decide +kernel
theorem d_P_read_91 : decode b_P_read 91 = .ok (.iload_n 3, 1) := by decide +kernel
theorem d_P_read_92 : decode b_P_read 92 = .ok (.ireturn, 1) := by decide +kernel
theorem qf_P_164 : Cond.fieldLink nC7 164 (fC4 2).1 (fC4 2).2.1 (fC4 2).2.2.1 ∈ tbl := tbl_in 277 (by decide +kernel) rfl
theorem qf_P_165 : Cond.fieldLink nC7 165 (fC4 0).1 (fC4 0).2.1 (fC4 0).2.2.1 ∈ tbl := tbl_in 273 (by decide +kernel) rfl
theorem qm_P_154 : Cond.methodLink nC7 154 y_P_isSheet ∈ tbl := tbl_in 550 (by decide +kernel) rfl
theorem qm_P_157 : Cond.methodLink nC7 157 y_S_isLost ∈ tbl := tbl_in 554 (by decide +kernel) rfl
theorem qm_P_160 : Cond.methodLink nC7 160 y_P_found ∈ tbl := tbl_in 558 (by decide +kernel) rfl
theorem qm_P_168 : Cond.methodLink nC7 168 y_P_suit ∈ tbl := tbl_in 562 (by decide +kernel) rfl
def b_P_read_36_ (P : Int32 → Hp → Prop)  (I36 : Hp → Nat → Int32 → Int32 → Prop) (σ : Hp) (x2 : Nat) (x3 : Int32) (x4 : Int32) : Prop :=
  (isS x2) ∧ (((σ x2 2) < (x4 + (3 : Int32)) → P x3 σ) ∧ (¬ (σ x2 2) < (x4 + (3 : Int32)) → (vp_in x4 60) ∧ (vp_in (x4 + (1 : Int32)) 60) ∧ (vp_in (x4 + (2 : Int32)) 60) ∧ wp_P_suit σ (σ (x2 + 28) (ix x4)) (σ (x2 + 28) (ix (x4 + (1 : Int32)))) (σ (x2 + 28) (ix (x4 + (2 : Int32)))) (fun (r6 : Int32) (t7 : Hp) => ((0 ≤ r6 → (∀ v9 : Int32, v9 = x3 + (1 : Int32) → (∀ v10 : Int32, v10 = x4 + (3 : Int32) → I36 t7 x2 v9 v10))) ∧ (¬ 0 ≤ r6 → P x3 t7)))))
def j_P_read_36 (P : Int32 → Hp → Prop)  (σ : Hp) (x2 : Nat) (x3 : Int32) (x4 : Int32) : Prop := ∀ I36 : Hp → Nat → Int32 → Int32 → Prop, (∀ (σ : Hp) (x2 : Nat) (x3 : Int32) (x4 : Int32), b_P_read_36_  P  I36 σ x2 x3 x4 → I36 σ x2 x3 x4) → I36 σ x2 x3 x4
def wp_P_read (σ : Hp) (a1 : Int32) (P : Int32 → Hp → Prop) : Prop :=
  wp_P_isSheet σ a1 (fun (r11 : Int32) (t12 : Hp) => ((¬ r11 = 0 → (vp_in a1 4) ∧ (∀ o15 : Nat, o15 = 10 + ix a1 → (isS o15) ∧ wp_S_isLost t12 o15 (fun (r17 : Int32) (t18 : Hp) => ((r17 = 0 → j_P_read_36 P t18 o15 (0 : Int32) (0 : Int32)) ∧ (¬ r17 = 0 → wp_P_found t18 (1 : Int32) (fun (r20 : Int32) (t21 : Hp) => P r20 t21)))))) ∧ (r11 = 0 → P (-2 : Int32) t12)))
set_option maxHeartbeats 4000000 in
set_option maxRecDepth 100000 in
theorem wj_P_read_36 {w : Wd} {κ : Kx} {P : Int32 → Hp → Prop} (hC : Cx μC w 5 κ nC7 b_P_read 5) (hR : RtI μC w 5 κ b_P_read .int P)  : ∀ (σ : Hp) (x2 : Nat) (x3 : Int32) (x4 : Int32), j_P_read_36  P  σ x2 x3 x4 → V μC w 5 κ σ [some (.ref (w.1 0)), none, some (.ref (w.1 x2)), some (.int x3), some (.int x4)] 36 [] := by
  intro σ x2 x3 x4 h
  refine h (fun σ x2 x3 x4 => V μC w 5 κ σ [some (.ref (w.1 0)), none, some (.ref (w.1 x2)), some (.int x3), some (.int x4)] 36 []) (fun σ x2 x3 x4 h => ?_)
  unfold b_P_read_36_ at h
  obtain ⟨m1, h⟩ := h
  refine V.iload hC d_P_read_36 rfl ?_
  refine V.iconst (v := 3) hC d_P_read_38 (by decide) ?_
  refine V.iadd hC d_P_read_39 ?_
  refine V.aload_n hC d_P_read_40 rfl rfl ?_
  refine V.getI (j := 2) hC d_P_read_41 (shS m1) rfl uC4 rfl rfl qf_P_164 ?_
  refine V.icmp_gt (tgt := 91) hC d_P_read_44 (by decide) (fun c2 => ?_) (fun c2 => ?_)
  · replace h := h.1 c2
    refine V.iload_n hC d_P_read_91 rfl rfl ?_
    exact hR _ _ _ _ h rfl d_P_read_92
  · replace h := h.2 c2
    refine V.aload_n hC d_P_read_47 rfl rfl ?_
    refine V.aload_n hC d_P_read_48 rfl rfl ?_
    refine V.getR (j := 0) hC d_P_read_49 (shS m1) rfl uC4 rfl rfl qf_P_165 ?_
    refine V.iload hC d_P_read_52 rfl ?_
    obtain ⟨b3, h⟩ := h
    refine V.iald hC d_P_read_54 (shSA m1) b3 ?_
    refine V.aload_n hC d_P_read_55 rfl rfl ?_
    refine V.getR (j := 0) hC d_P_read_56 (shS m1) rfl uC4 rfl rfl qf_P_165 ?_
    refine V.iload hC d_P_read_59 rfl ?_
    refine V.iconst (v := 1) hC d_P_read_61 (by decide) ?_
    refine V.iadd hC d_P_read_62 ?_
    obtain ⟨b4, h⟩ := h
    refine V.iald hC d_P_read_63 (shSA m1) b4 ?_
    refine V.aload_n hC d_P_read_64 rfl rfl ?_
    refine V.getR (j := 0) hC d_P_read_65 (shS m1) rfl uC4 rfl rfl qf_P_165 ?_
    refine V.iload hC d_P_read_68 rfl ?_
    refine V.iconst (v := 2) hC d_P_read_70 (by decide) ?_
    refine V.iadd hC d_P_read_71 ?_
    obtain ⟨b5, h⟩ := h
    refine V.iald hC d_P_read_72 (shSA m1) b5 ?_
    refine V.callVI hC exC (w_P_suit w σ (σ (x2 + 28) (ix x4)) (σ (x2 + 28) (ix (x4 + (1 : Int32)))) (σ (x2 + 28) (ix (x4 + (2 : Int32)))) _ h) d_P_read_73 mo_P_suit qm_P_168 rfl rfl rfl rfl rfl rfl rfl (Nat.le_of_ble_eq_true rfl) (fun r6 t7 h => ?_)
    refine V.if_ge (tgt := 82) hC d_P_read_76 (by decide) (fun c8 => ?_) (fun c8 => ?_)
    · replace h := h.1 c8
      obtain ⟨v9, ev9⟩ : ∃ y : Int32, y = x3 + (1 : Int32) := ⟨_, rfl⟩
      replace h := h v9 ev9
      refine V.iinc (y := v9) (lo' := [some (.ref (w.1 0)), none, some (.ref (w.1 x2)), some (.int v9), some (.int x4)]) hC d_P_read_82 rfl rfl (show v9 = _ + Int32.ofInt (1) from ev9) rfl ?_
      obtain ⟨v10, ev10⟩ : ∃ y : Int32, y = x4 + (3 : Int32) := ⟨_, rfl⟩
      replace h := h v10 ev10
      refine V.iinc (y := v10) (lo' := [some (.ref (w.1 0)), none, some (.ref (w.1 x2)), some (.int v9), some (.int v10)]) hC d_P_read_85 rfl rfl (show v10 = _ + Int32.ofInt (3) from ev10) rfl ?_
      refine V.goto (tgt := 36) hC d_P_read_88 (by decide) ?_
      exact V.msk [true, false, true, true, true] rfl h
    · replace h := h.2 c8
      refine V.goto (tgt := 91) hC d_P_read_79 (by decide) ?_
      refine V.iload_n hC d_P_read_91 rfl rfl ?_
      exact hR _ _ _ _ h rfl d_P_read_92
set_option maxHeartbeats 4000000 in
set_option maxRecDepth 100000 in
theorem w_P_read (w : Wd) (σ : Hp) (a1 : Int32) (P : Int32 → Hp → Prop) (h : wp_P_read σ a1 P) : CtI μC w y_P_read b_P_read 5 (some .int) 5 [.ref (w.1 0), .int a1] σ P := by
  unfold wp_P_read at h
  refine CtI.ofV (C := nC7) (lo := [some (.ref (w.1 0)), some (.int a1), none, none, none]) exC (by decide +kernel) rfl rfl rfl (fun κ hC hR => ?_)
  refine V.aload_n hC d_P_read_0 rfl rfl ?_
  refine V.iload_n hC d_P_read_1 rfl rfl ?_
  refine V.callVI hC exC (w_P_isSheet w σ a1 _ h) d_P_read_2 mo_P_isSheet qm_P_154 rfl rfl rfl rfl rfl rfl rfl (Nat.le_of_ble_eq_true rfl) (fun r11 t12 h => ?_)
  refine V.if_ne (tgt := 11) hC d_P_read_5 (by decide) (fun c13 => ?_) (fun c13 => ?_)
  · replace h := h.1 c13
    refine V.aload_n hC d_P_read_11 rfl rfl ?_
    refine V.getR (j := 7) hC d_P_read_12 rfl rfl uC7 rfl rfl qf_P_59 ?_
    refine V.iload_n hC d_P_read_15 rfl rfl ?_
    obtain ⟨b14, h⟩ := h
    obtain ⟨o15, eo15⟩ : ∃ y : Nat, y = 10 + ix a1 := ⟨_, rfl⟩
    replace h := h o15 eo15
    obtain ⟨m16, h⟩ := h
    refine V.qald (b := 10) hC d_P_read_16 rfl b14 ?_
    rw [show 10 + Int32.toNatClampNeg a1 = o15 from eo15.symm]
    refine V.astore_n (lo' := [some (.ref (w.1 0)), some (.int a1), some (.ref (w.1 o15)), none, none]) hC d_P_read_17 rfl rfl rfl ?_
    refine V.aload_n hC d_P_read_18 rfl rfl ?_
    refine V.callVI hC exC (w_S_isLost w t12 o15 _ h) d_P_read_19 mo_S_isLost qm_P_157 (shS m16) rfl rfl rfl rfl rfl rfl (Nat.le_of_ble_eq_true rfl) (fun r17 t18 h => ?_)
    refine V.if_eq (tgt := 31) hC d_P_read_22 (by decide) (fun c19 => ?_) (fun c19 => ?_)
    · replace h := h.1 c19
      refine V.iconst (v := 0) hC d_P_read_31 (by decide) ?_
      refine V.istore_n (y := (0 : Int32)) (lo' := [some (.ref (w.1 0)), some (.int a1), some (.ref (w.1 o15)), some (.int (0 : Int32)), none]) hC d_P_read_32 rfl rfl rfl rfl ?_
      refine V.iconst (v := 0) hC d_P_read_33 (by decide) ?_
      refine V.istore (y := (0 : Int32)) (lo' := [some (.ref (w.1 0)), some (.int a1), some (.ref (w.1 o15)), some (.int (0 : Int32)), some (.int (0 : Int32))]) hC d_P_read_34 rfl rfl rfl ?_
      exact V.msk [true, false, true, true, true] rfl (wj_P_read_36  hC hR  t18 o15 (0 : Int32) (0 : Int32) h)
    · replace h := h.2 c19
      refine V.aload_n hC d_P_read_25 rfl rfl ?_
      refine V.iconst (v := 1) hC d_P_read_26 (by decide) ?_
      refine V.callVI hC exC (w_P_found w t18 (1 : Int32) _ h) d_P_read_27 mo_P_found qm_P_160 rfl rfl rfl rfl rfl rfl rfl (Nat.le_of_ble_eq_true rfl) (fun r20 t21 h => ?_)
      exact hR _ _ _ _ h rfl d_P_read_30
  · replace h := h.2 c13
    refine V.bipush (v := -2) hC d_P_read_8 (by decide) ?_
    exact hR _ _ _ _ h rfl d_P_read_10
abbrev b_P_areTwoHouses : ByteArray := prog_1_method_48_code
def y_P_areTwoHouses : MethodName := ⟨nC7, "areTwoHouses", "(II)Z"⟩
theorem d_P_areTwoHouses_0 : decode b_P_areTwoHouses 0 = .ok (.aload_n 0, 1) := by decide +kernel
theorem d_P_areTwoHouses_1 : decode b_P_areTwoHouses 1 = .ok (.iload_n 1, 1) := by decide +kernel
theorem d_P_areTwoHouses_2 : decode b_P_areTwoHouses 2 = .ok (.invokevirtual 97, 3) := by decide +kernel
theorem d_P_areTwoHouses_5 : decode b_P_areTwoHouses 5 = .ok (.ifCond .eq 20, 3) := by decide +kernel
theorem d_P_areTwoHouses_8 : decode b_P_areTwoHouses 8 = .ok (.aload_n 0, 1) := by decide +kernel
theorem d_P_areTwoHouses_9 : decode b_P_areTwoHouses 9 = .ok (.iload_n 2, 1) := by decide +kernel
theorem d_P_areTwoHouses_10 : decode b_P_areTwoHouses 10 = .ok (.invokevirtual 97, 3) := by decide +kernel
theorem d_P_areTwoHouses_13 : decode b_P_areTwoHouses 13 = .ok (.ifCond .eq 12, 3) := by decide +kernel
theorem d_P_areTwoHouses_16 : decode b_P_areTwoHouses 16 = .ok (.iload_n 1, 1) := by decide +kernel
theorem d_P_areTwoHouses_17 : decode b_P_areTwoHouses 17 = .ok (.iload_n 2, 1) := by decide +kernel
theorem d_P_areTwoHouses_18 : decode b_P_areTwoHouses 18 = .ok (.if_icmp .eq 7, 3) := by decide +kernel
theorem d_P_areTwoHouses_21 : decode b_P_areTwoHouses 21 = .ok (.iconst 1, 1) := by decide +kernel
theorem d_P_areTwoHouses_22 : decode b_P_areTwoHouses 22 = .ok (.goto 4, 3) := by decide +kernel
theorem d_P_areTwoHouses_25 : decode b_P_areTwoHouses 25 = .ok (.iconst 0, 1) := by decide +kernel
theorem d_P_areTwoHouses_26 : decode b_P_areTwoHouses 26 = .ok (.ireturn, 1) := by decide +kernel
theorem mo_P_areTwoHouses : MokV y_P_areTwoHouses b_P_areTwoHouses 3 (some .boolean) 2 := ⟨⟨(tbl_in 570 (by decide +kernel) rfl), (tbl_in 62 (by decide +kernel) rfl)⟩, ⟨(tbl_in 569 (by decide +kernel) rfl), tbl_lw _ (tbl_in 7 (by decide +kernel) rfl), (tbl_in 7 (by decide +kernel) rfl)⟩, ⟨by decide +kernel, by decide +kernel⟩, by decide +kernel⟩
def wp_P_areTwoHouses (σ : Hp) (a1 : Int32) (a2 : Int32) (P : Int32 → Hp → Prop) : Prop :=
  wp_P_isHouse σ a1 (fun (r1 : Int32) (t2 : Hp) => ((r1 = 0 → P (0 : Int32) t2) ∧ (¬ r1 = 0 → wp_P_isHouse t2 a2 (fun (r4 : Int32) (t5 : Hp) => ((r4 = 0 → P (0 : Int32) t5) ∧ (¬ r4 = 0 → ((a1 = a2 → P (0 : Int32) t5) ∧ (¬ a1 = a2 → P (1 : Int32) t5))))))))
set_option maxHeartbeats 4000000 in
set_option maxRecDepth 100000 in
theorem w_P_areTwoHouses (w : Wd) (σ : Hp) (a1 : Int32) (a2 : Int32) (P : Int32 → Hp → Prop) (h : wp_P_areTwoHouses σ a1 a2 P) : CtI μC w y_P_areTwoHouses b_P_areTwoHouses 3 (some .boolean) 1 [.ref (w.1 0), .int a1, .int a2] σ P := by
  unfold wp_P_areTwoHouses at h
  refine CtI.ofV (C := nC7) (lo := [some (.ref (w.1 0)), some (.int a1), some (.int a2)]) exC (by decide +kernel) rfl rfl rfl (fun κ hC hR => ?_)
  refine V.aload_n hC d_P_areTwoHouses_0 rfl rfl ?_
  refine V.iload_n hC d_P_areTwoHouses_1 rfl rfl ?_
  refine V.callVI hC exC (w_P_isHouse w σ a1 _ h) d_P_areTwoHouses_2 mo_P_isHouse qm_P_97 rfl rfl rfl rfl rfl rfl rfl (Nat.le_of_ble_eq_true rfl) (fun r1 t2 h => ?_)
  refine V.if_eq (tgt := 25) hC d_P_areTwoHouses_5 (by decide) (fun c3 => ?_) (fun c3 => ?_)
  · replace h := h.1 c3
    refine V.iconst (v := 0) hC d_P_areTwoHouses_25 (by decide) ?_
    exact hR _ _ _ _ h (by decide) d_P_areTwoHouses_26
  · replace h := h.2 c3
    refine V.aload_n hC d_P_areTwoHouses_8 rfl rfl ?_
    refine V.iload_n hC d_P_areTwoHouses_9 rfl rfl ?_
    refine V.callVI hC exC (w_P_isHouse w t2 a2 _ h) d_P_areTwoHouses_10 mo_P_isHouse qm_P_97 rfl rfl rfl rfl rfl rfl rfl (Nat.le_of_ble_eq_true rfl) (fun r4 t5 h => ?_)
    refine V.if_eq (tgt := 25) hC d_P_areTwoHouses_13 (by decide) (fun c6 => ?_) (fun c6 => ?_)
    · replace h := h.1 c6
      refine V.iconst (v := 0) hC d_P_areTwoHouses_25 (by decide) ?_
      exact hR _ _ _ _ h (by decide) d_P_areTwoHouses_26
    · replace h := h.2 c6
      refine V.iload_n hC d_P_areTwoHouses_16 rfl rfl ?_
      refine V.iload_n hC d_P_areTwoHouses_17 rfl rfl ?_
      refine V.icmp_eq (tgt := 25) hC d_P_areTwoHouses_18 (by decide) (fun c7 => ?_) (fun c7 => ?_)
      · replace h := h.1 c7
        refine V.iconst (v := 0) hC d_P_areTwoHouses_25 (by decide) ?_
        exact hR _ _ _ _ h (by decide) d_P_areTwoHouses_26
      · replace h := h.2 c7
        refine V.iconst (v := 1) hC d_P_areTwoHouses_21 (by decide) ?_
        refine V.goto (tgt := 26) hC d_P_areTwoHouses_22 (by decide) ?_
        exact hR _ _ _ _ h (by decide) d_P_areTwoHouses_26
abbrev b_P_through : ByteArray := prog_1_method_13_code
def y_P_through : MethodName := ⟨nC7, "through", "(II)I"⟩
theorem d_P_through_0 : decode b_P_through 0 = .ok (.aload_n 0, 1) := by decide +kernel
theorem d_P_through_1 : decode b_P_through 1 = .ok (.iload_n 1, 1) := by decide +kernel
theorem d_P_through_2 : decode b_P_through 2 = .ok (.iload_n 2, 1) := by decide +kernel
theorem d_P_through_3 : decode b_P_through 3 = .ok (.invokevirtual 172, 3) := by decide +kernel
theorem d_P_through_6 : decode b_P_through 6 = .ok (.ifCond .eq 15, 3) := by decide +kernel
theorem d_P_through_9 : decode b_P_through 9 = .ok (.aload_n 0, 1) := by decide +kernel
theorem d_P_through_10 : decode b_P_through 10 = .ok (.getfield 36, 3) := by decide +kernel
theorem d_P_through_13 : decode b_P_through 13 = .ok (.iload_n 1, 1) := by decide +kernel
theorem d_P_through_14 : decode b_P_through 14 = .ok (.iload_n 2, 1) := by decide +kernel
theorem d_P_through_15 : decode b_P_through 15 = .ok (.invokevirtual 176, 3) := by decide +kernel
theorem d_P_through_18 : decode b_P_through 18 = .ok (.goto 5, 3) := by decide +kernel
theorem d_P_through_21 : decode b_P_through 21 = .ok (.bipush (-2), 2) := by decide +kernel
theorem d_P_through_23 : decode b_P_through 23 = .ok (.ireturn, 1) := by decide +kernel
theorem qm_P_172 : Cond.methodLink nC7 172 y_P_areTwoHouses ∈ tbl := tbl_in 567 (by decide +kernel) rfl
theorem qm_P_176 : Cond.methodLink nC7 176 y_U_comesThrough ∈ tbl := tbl_in 571 (by decide +kernel) rfl
theorem mo_P_through : MokV y_P_through b_P_through 3 (some .int) 2 := ⟨⟨(tbl_in 566 (by decide +kernel) rfl), (tbl_in 62 (by decide +kernel) rfl)⟩, ⟨(tbl_in 564 (by decide +kernel) rfl), tbl_lw _ (tbl_in 565 (by decide +kernel) rfl), (tbl_in 565 (by decide +kernel) rfl)⟩, ⟨by decide +kernel, by decide +kernel⟩, by decide +kernel⟩
def wp_P_through (σ : Hp) (a1 : Int32) (a2 : Int32) (P : Int32 → Hp → Prop) : Prop :=
  wp_P_areTwoHouses σ a1 a2 (fun (r1 : Int32) (t2 : Hp) => ((r1 = 0 → P (-2 : Int32) t2) ∧ (¬ r1 = 0 → wp_U_comesThrough t2 a1 a2 (fun (r4 : Int32) (t5 : Hp) => P r4 t5))))
set_option maxHeartbeats 4000000 in
set_option maxRecDepth 100000 in
theorem w_P_through (w : Wd) (σ : Hp) (a1 : Int32) (a2 : Int32) (P : Int32 → Hp → Prop) (h : wp_P_through σ a1 a2 P) : CtI μC w y_P_through b_P_through 3 (some .int) 2 [.ref (w.1 0), .int a1, .int a2] σ P := by
  unfold wp_P_through at h
  refine CtI.ofV (C := nC7) (lo := [some (.ref (w.1 0)), some (.int a1), some (.int a2)]) exC (by decide +kernel) rfl rfl rfl (fun κ hC hR => ?_)
  refine V.aload_n hC d_P_through_0 rfl rfl ?_
  refine V.iload_n hC d_P_through_1 rfl rfl ?_
  refine V.iload_n hC d_P_through_2 rfl rfl ?_
  refine V.callVI hC exC (w_P_areTwoHouses w σ a1 a2 _ h) d_P_through_3 mo_P_areTwoHouses qm_P_172 rfl rfl rfl rfl rfl rfl rfl (Nat.le_of_ble_eq_true rfl) (fun r1 t2 h => ?_)
  refine V.if_eq (tgt := 21) hC d_P_through_6 (by decide) (fun c3 => ?_) (fun c3 => ?_)
  · replace h := h.1 c3
    refine V.bipush (v := -2) hC d_P_through_21 (by decide) ?_
    exact hR _ _ _ _ h rfl d_P_through_23
  · replace h := h.2 c3
    refine V.aload_n hC d_P_through_9 rfl rfl ?_
    refine V.getR (j := 3) hC d_P_through_10 rfl rfl uC7 rfl rfl qf_P_36 ?_
    refine V.iload_n hC d_P_through_13 rfl rfl ?_
    refine V.iload_n hC d_P_through_14 rfl rfl ?_
    refine V.callVI hC exC (w_U_comesThrough w t2 a1 a2 _ h) d_P_through_15 mo_U_comesThrough qm_P_176 rfl rfl rfl rfl rfl rfl rfl (Nat.le_of_ble_eq_true rfl) (fun r4 t5 h => ?_)
    refine V.goto (tgt := 23) hC d_P_through_18 (by decide) ?_
    exact hR _ _ _ _ h rfl d_P_through_23
abbrev b_K_allSuits : ByteArray := prog_4_method_8_code
def y_K_allSuits : MethodName := ⟨nC2, "allSuits", "()I"⟩
theorem d_K_allSuits_0 : decode b_K_allSuits 0 = .ok (.iconst 1, 1) := by decide +kernel
theorem d_K_allSuits_1 : decode b_K_allSuits 1 = .ok (.aload_n 0, 1) := by decide +kernel
theorem d_K_allSuits_2 : decode b_K_allSuits 2 = .ok (.getfield 30, 3) := by decide +kernel
theorem d_K_allSuits_5 : decode b_K_allSuits 5 = .ok (.ishl, 1) := by decide +kernel
theorem d_K_allSuits_6 : decode b_K_allSuits 6 = .ok (.iconst 1, 1) := by decide +kernel
theorem d_K_allSuits_7 : decode b_K_allSuits 7 = .ok (.isub, 1) := by decide +kernel
theorem d_K_allSuits_8 : decode b_K_allSuits 8 = .ok (.ireturn, 1) := by decide +kernel
theorem mo_K_allSuits : MokV y_K_allSuits b_K_allSuits 1 (some .int) 0 := ⟨⟨(tbl_in 587 (by decide +kernel) rfl), (tbl_in 66 (by decide +kernel) rfl)⟩, ⟨(tbl_in 585 (by decide +kernel) rfl), tbl_lw _ (tbl_in 586 (by decide +kernel) rfl), (tbl_in 586 (by decide +kernel) rfl)⟩, ⟨by decide +kernel, by decide +kernel⟩, by decide +kernel⟩
def wp_K_allSuits (σ : Hp)  (P : Int32 → Hp → Prop) : Prop :=
  P (((1 : Int32) <<< ((σ 5 6) &&& 31)) - (1 : Int32)) σ
set_option maxHeartbeats 4000000 in
set_option maxRecDepth 100000 in
theorem w_K_allSuits (w : Wd) (σ : Hp)  (P : Int32 → Hp → Prop) (h : wp_K_allSuits σ  P) : CtI μC w y_K_allSuits b_K_allSuits 1 (some .int) 0 [.ref (w.1 5)] σ P := by
  unfold wp_K_allSuits at h
  refine CtI.ofV (C := nC2) (lo := [some (.ref (w.1 5))]) exC (by decide +kernel) rfl rfl rfl (fun κ hC hR => ?_)
  refine V.iconst (v := 1) hC d_K_allSuits_0 (by decide) ?_
  refine V.aload_n hC d_K_allSuits_1 rfl rfl ?_
  refine V.getI (j := 6) hC d_K_allSuits_2 rfl rfl uC2 rfl rfl qf_K_30 ?_
  refine V.ishl hC d_K_allSuits_5 ?_
  refine V.iconst (v := 1) hC d_K_allSuits_6 (by decide) ?_
  refine V.isub hC d_K_allSuits_7 ?_
  exact hR _ _ _ _ h rfl d_K_allSuits_8
abbrev b_K_leads : ByteArray := prog_4_method_12_code
def y_K_leads : MethodName := ⟨nC2, "leads", "(II)Z"⟩
theorem d_K_leads_0 : decode b_K_leads 0 = .ok (.iload_n 2, 1) := by decide +kernel
theorem d_K_leads_1 : decode b_K_leads 1 = .ok (.iload_n 1, 1) := by decide +kernel
theorem d_K_leads_2 : decode b_K_leads 2 = .ok (.ishr, 1) := by decide +kernel
theorem d_K_leads_3 : decode b_K_leads 3 = .ok (.iconst 1, 1) := by decide +kernel
theorem d_K_leads_4 : decode b_K_leads 4 = .ok (.iand, 1) := by decide +kernel
theorem d_K_leads_5 : decode b_K_leads 5 = .ok (.ifCond .ne 5, 3) := by decide +kernel
theorem d_K_leads_8 : decode b_K_leads 8 = .ok (.iconst 0, 1) := by decide +kernel
theorem d_K_leads_9 : decode b_K_leads 9 = .ok (.ireturn, 1) := by decide +kernel
theorem d_K_leads_10 : decode b_K_leads 10 = .ok (.iconst 0, 1) := by decide +kernel
theorem d_K_leads_11 : decode b_K_leads 11 = .ok (.istore_n 3, 1) := by decide +kernel
theorem d_K_leads_12 : decode b_K_leads 12 = .ok (.iload_n 3, 1) := by decide +kernel
theorem d_K_leads_13 : decode b_K_leads 13 = .ok (.aload_n 0, 1) := by decide +kernel
theorem d_K_leads_14 : decode b_K_leads 14 = .ok (.getfield 30, 3) := by decide +kernel
theorem d_K_leads_17 : decode b_K_leads 17 = .ok (.if_icmp .ge 101, 3) := by decide +kernel
theorem d_K_leads_20 : decode b_K_leads 20 = .ok (.aload_n 0, 1) := by decide +kernel
theorem d_K_leads_21 : decode b_K_leads 21 = .ok (.getfield 15, 3) := by decide +kernel
theorem d_K_leads_24 : decode b_K_leads 24 = .ok (.iload_n 3, 1) := by decide +kernel
theorem d_K_leads_25 : decode b_K_leads 25 = .ok (.iaload, 1) := by decide +kernel
theorem d_K_leads_26 : decode b_K_leads 26 = .ok (.aload_n 0, 1) := by decide +kernel
theorem d_K_leads_27 : decode b_K_leads 27 = .ok (.getfield 15, 3) := by decide +kernel
theorem d_K_leads_30 : decode b_K_leads 30 = .ok (.iload_n 1, 1) := by decide +kernel
theorem d_K_leads_31 : decode b_K_leads 31 = .ok (.iaload, 1) := by decide +kernel
theorem d_K_leads_32 : decode b_K_leads 32 = .ok (.if_icmp .ne 22, 3) := by decide +kernel
theorem d_K_leads_35 : decode b_K_leads 35 = .ok (.aload_n 0, 1) := by decide +kernel
theorem d_K_leads_36 : decode b_K_leads 36 = .ok (.getfield 18, 3) := by decide +kernel
theorem d_K_leads_39 : decode b_K_leads 39 = .ok (.iload_n 3, 1) := by decide +kernel
theorem d_K_leads_40 : decode b_K_leads 40 = .ok (.iaload, 1) := by decide +kernel
theorem d_K_leads_41 : decode b_K_leads 41 = .ok (.aload_n 0, 1) := by decide +kernel
theorem d_K_leads_42 : decode b_K_leads 42 = .ok (.getfield 18, 3) := by decide +kernel
theorem d_K_leads_45 : decode b_K_leads 45 = .ok (.iload_n 1, 1) := by decide +kernel
theorem d_K_leads_46 : decode b_K_leads 46 = .ok (.iaload, 1) := by decide +kernel
theorem d_K_leads_47 : decode b_K_leads 47 = .ok (.if_icmp .ne 7, 3) := by decide +kernel
theorem d_K_leads_50 : decode b_K_leads 50 = .ok (.iconst 1, 1) := by decide +kernel
theorem d_K_leads_51 : decode b_K_leads 51 = .ok (.goto 4, 3) := by decide +kernel
theorem d_K_leads_54 : decode b_K_leads 54 = .ok (.iconst 0, 1) := by decide +kernel
theorem d_K_leads_55 : decode b_K_leads 55 = .ok (.istore 4, 2) := by decide +kernel
theorem d_K_leads_57 : decode b_K_leads 57 = .ok (.iload 4, 2) := by decide +kernel
theorem d_K_leads_59 : decode b_K_leads 59 = .ok (.ifCond .eq 53, 3) := by decide +kernel
theorem d_K_leads_62 : decode b_K_leads 62 = .ok (.iload_n 2, 1) := by decide +kernel
theorem d_K_leads_63 : decode b_K_leads 63 = .ok (.iload_n 3, 1) := by decide +kernel
theorem d_K_leads_64 : decode b_K_leads 64 = .ok (.ishr, 1) := by decide +kernel
theorem d_K_leads_65 : decode b_K_leads 65 = .ok (.iconst 1, 1) := by decide +kernel
theorem d_K_leads_66 : decode b_K_leads 66 = .ok (.iand, 1) := by decide +kernel
theorem d_K_leads_67 : decode b_K_leads 67 = .ok (.ifCond .ne 6, 3) := by decide +kernel
theorem d_K_leads_70 : decode b_K_leads 70 = .ok (.goto 42, 3) := by decide +kernel
theorem d_K_leads_73 : decode b_K_leads 73 = .ok (.aload_n 0, 1) := by decide +kernel
theorem d_K_leads_74 : decode b_K_leads 74 = .ok (.getfield 9, 3) := by decide +kernel
theorem d_K_leads_77 : decode b_K_leads 77 = .ok (.iload_n 3, 1) := by decide +kernel
theorem d_K_leads_78 : decode b_K_leads 78 = .ok (.iaload, 1) := by decide +kernel
theorem d_K_leads_79 : decode b_K_leads 79 = .ok (.aload_n 0, 1) := by decide +kernel
theorem d_K_leads_80 : decode b_K_leads 80 = .ok (.getfield 9, 3) := by decide +kernel
theorem d_K_leads_83 : decode b_K_leads 83 = .ok (.iload_n 1, 1) := by decide +kernel
theorem d_K_leads_84 : decode b_K_leads 84 = .ok (.iaload, 1) := by decide +kernel
theorem d_K_leads_85 : decode b_K_leads 85 = .ok (.if_icmp .ge 5, 3) := by decide +kernel
theorem d_K_leads_88 : decode b_K_leads 88 = .ok (.iconst 0, 1) := by decide +kernel
theorem d_K_leads_89 : decode b_K_leads 89 = .ok (.ireturn, 1) := by decide +kernel
theorem d_K_leads_90 : decode b_K_leads 90 = .ok (.aload_n 0, 1) := by decide +kernel
theorem d_K_leads_91 : decode b_K_leads 91 = .ok (.getfield 9, 3) := by decide +kernel
theorem d_K_leads_94 : decode b_K_leads 94 = .ok (.iload_n 3, 1) := by decide +kernel
theorem d_K_leads_95 : decode b_K_leads 95 = .ok (.iaload, 1) := by decide +kernel
theorem d_K_leads_96 : decode b_K_leads 96 = .ok (.aload_n 0, 1) := by decide +kernel
theorem d_K_leads_97 : decode b_K_leads 97 = .ok (.getfield 9, 3) := by decide +kernel
theorem d_K_leads_100 : decode b_K_leads 100 = .ok (.iload_n 1, 1) := by decide +kernel
theorem d_K_leads_101 : decode b_K_leads 101 = .ok (.iaload, 1) := by decide +kernel
theorem d_K_leads_102 : decode b_K_leads 102 = .ok (.if_icmp .ne 10, 3) := by decide +kernel
theorem d_K_leads_105 : decode b_K_leads 105 = .ok (.iload_n 3, 1) := by decide +kernel
theorem d_K_leads_106 : decode b_K_leads 106 = .ok (.iload_n 1, 1) := by decide +kernel
theorem d_K_leads_107 : decode b_K_leads 107 = .ok (.if_icmp .ge 5, 3) := by decide +kernel
theorem d_K_leads_110 : decode b_K_leads 110 = .ok (.iconst 0, 1) := by decide +kernel
theorem d_K_leads_111 : decode b_K_leads 111 = .ok (.ireturn, 1) := by decide +kernel
theorem d_K_leads_112 : decode b_K_leads 112 = .ok (.iinc 3 1, 3) := by decide +kernel
theorem d_K_leads_115 : decode b_K_leads 115 = .ok (.goto (-103), 3) := by decide +kernel
theorem d_K_leads_118 : decode b_K_leads 118 = .ok (.iconst 1, 1) := by decide +kernel
theorem d_K_leads_119 : decode b_K_leads 119 = .ok (.ireturn, 1) := by decide +kernel
theorem mo_K_leads : MokV y_K_leads b_K_leads 5 (some .boolean) 2 := ⟨⟨(tbl_in 595 (by decide +kernel) rfl), (tbl_in 66 (by decide +kernel) rfl)⟩, ⟨(tbl_in 594 (by decide +kernel) rfl), tbl_lw _ (tbl_in 8 (by decide +kernel) rfl), (tbl_in 8 (by decide +kernel) rfl)⟩, ⟨by decide +kernel, by decide +kernel⟩, by decide +kernel⟩
def j_K_leads_55 (P : Int32 → Hp → Prop) (I12 : Hp → Int32 → Int32 → Int32 → Prop) (σ : Hp) (x1 : Int32) (x2 : Int32) (x3 : Int32) (s0 : Int32) : Prop :=
  ((s0 = 0 → (∀ v2 : Int32, v2 = x3 + (1 : Int32) → I12 σ x1 x2 v2)) ∧ (¬ s0 = 0 → ((¬ ((x2 >>> (x3 &&& 31)) &&& (1 : Int32)) = 0 → (vp_in x3 12) ∧ (vp_in x1 12) ∧ (((σ 27 (ix x1)) ≤ (σ 27 (ix x3)) → (vp_in x3 12) ∧ (vp_in x1 12) ∧ ((¬ (σ 27 (ix x3)) = (σ 27 (ix x1)) → (∀ v10 : Int32, v10 = x3 + (1 : Int32) → I12 σ x1 x2 v10)) ∧ ((σ 27 (ix x3)) = (σ 27 (ix x1)) → ((x1 ≤ x3 → (∀ v12 : Int32, v12 = x3 + (1 : Int32) → I12 σ x1 x2 v12)) ∧ (¬ x1 ≤ x3 → P (0 : Int32) σ))))) ∧ (¬ (σ 27 (ix x1)) ≤ (σ 27 (ix x3)) → P (0 : Int32) σ))) ∧ (((x2 >>> (x3 &&& 31)) &&& (1 : Int32)) = 0 → (∀ v13 : Int32, v13 = x3 + (1 : Int32) → I12 σ x1 x2 v13)))))
def j_K_leads_54 (P : Int32 → Hp → Prop) (I12 : Hp → Int32 → Int32 → Int32 → Prop) (σ : Hp) (x1 : Int32) (x2 : Int32) (x3 : Int32) : Prop :=
  j_K_leads_55 P I12 σ x1 x2 x3 (0 : Int32)
def b_K_leads_12_ (P : Int32 → Hp → Prop)  (I12 : Hp → Int32 → Int32 → Int32 → Prop) (σ : Hp) (x1 : Int32) (x2 : Int32) (x3 : Int32) : Prop :=
  (((σ 5 6) ≤ x3 → P (1 : Int32) σ) ∧ (¬ (σ 5 6) ≤ x3 → (vp_in x3 12) ∧ (vp_in x1 12) ∧ ((¬ (σ 28 (ix x3)) = (σ 28 (ix x1)) → j_K_leads_54 P I12 σ x1 x2 x3) ∧ ((σ 28 (ix x3)) = (σ 28 (ix x1)) → (vp_in x3 12) ∧ (vp_in x1 12) ∧ ((¬ (σ 29 (ix x3)) = (σ 29 (ix x1)) → j_K_leads_54 P I12 σ x1 x2 x3) ∧ ((σ 29 (ix x3)) = (σ 29 (ix x1)) → j_K_leads_55 P I12 σ x1 x2 x3 (1 : Int32)))))))
def j_K_leads_12 (P : Int32 → Hp → Prop)  (σ : Hp) (x1 : Int32) (x2 : Int32) (x3 : Int32) : Prop := ∀ I12 : Hp → Int32 → Int32 → Int32 → Prop, (∀ (σ : Hp) (x1 : Int32) (x2 : Int32) (x3 : Int32), b_K_leads_12_  P  I12 σ x1 x2 x3 → I12 σ x1 x2 x3) → I12 σ x1 x2 x3
def wp_K_leads (σ : Hp) (a1 : Int32) (a2 : Int32) (P : Int32 → Hp → Prop) : Prop :=
  ((¬ ((a2 >>> (a1 &&& 31)) &&& (1 : Int32)) = 0 → j_K_leads_12 P σ a1 a2 (0 : Int32)) ∧ (((a2 >>> (a1 &&& 31)) &&& (1 : Int32)) = 0 → P (0 : Int32) σ))
set_option maxHeartbeats 4000000 in
set_option maxRecDepth 100000 in
theorem wj_K_leads_55 {w : Wd} {κ : Kx} {P : Int32 → Hp → Prop} (hC : Cx μC w 5 κ nC2 b_K_leads 0) (hR : RtI μC w 5 κ b_K_leads .boolean P) {I12 : Hp → Int32 → Int32 → Int32 → Prop} (hI12 : ∀ σ x1 x2 x3, I12 σ x1 x2 x3 → V μC w 5 κ σ [some (.ref (w.1 5)), some (.int x1), some (.int x2), some (.int x3), none] 12 []) : ∀ (σ : Hp) (x1 : Int32) (x2 : Int32) (x3 : Int32) (s0 : Int32), j_K_leads_55  P I12 σ x1 x2 x3 s0 → V μC w 5 κ σ [some (.ref (w.1 5)), some (.int x1), some (.int x2), some (.int x3), none] 55 [.int s0] := by
  intro σ x1 x2 x3 s0 h
  unfold j_K_leads_55 at h
  refine V.istore (y := s0) (lo' := [some (.ref (w.1 5)), some (.int x1), some (.int x2), some (.int x3), some (.int s0)]) hC d_K_leads_55 rfl rfl rfl ?_
  refine V.iload hC d_K_leads_57 rfl ?_
  refine V.if_eq (tgt := 112) hC d_K_leads_59 (by decide) (fun c1 => ?_) (fun c1 => ?_)
  · replace h := h.1 c1
    obtain ⟨v2, ev2⟩ : ∃ y : Int32, y = x3 + (1 : Int32) := ⟨_, rfl⟩
    replace h := h v2 ev2
    refine V.iinc (y := v2) (lo' := [some (.ref (w.1 5)), some (.int x1), some (.int x2), some (.int v2), some (.int s0)]) hC d_K_leads_112 rfl rfl (show v2 = _ + Int32.ofInt (1) from ev2) rfl ?_
    refine V.goto (tgt := 12) hC d_K_leads_115 (by decide) ?_
    exact V.msk [true, true, true, true, false] rfl (hI12 σ x1 x2 v2 h)
  · replace h := h.2 c1
    refine V.iload_n hC d_K_leads_62 rfl rfl ?_
    refine V.iload_n hC d_K_leads_63 rfl rfl ?_
    refine V.ishr hC d_K_leads_64 ?_
    refine V.iconst (v := 1) hC d_K_leads_65 (by decide) ?_
    refine V.iand hC d_K_leads_66 ?_
    refine V.if_ne (tgt := 73) hC d_K_leads_67 (by decide) (fun c3 => ?_) (fun c3 => ?_)
    · replace h := h.1 c3
      refine V.aload_n hC d_K_leads_73 rfl rfl ?_
      refine V.getR (j := 0) hC d_K_leads_74 rfl rfl uC2 rfl rfl qf_K_9 ?_
      refine V.iload_n hC d_K_leads_77 rfl rfl ?_
      obtain ⟨b4, h⟩ := h
      refine V.iald hC d_K_leads_78 rfl b4 ?_
      refine V.aload_n hC d_K_leads_79 rfl rfl ?_
      refine V.getR (j := 0) hC d_K_leads_80 rfl rfl uC2 rfl rfl qf_K_9 ?_
      refine V.iload_n hC d_K_leads_83 rfl rfl ?_
      obtain ⟨b5, h⟩ := h
      refine V.iald hC d_K_leads_84 rfl b5 ?_
      refine V.icmp_ge (tgt := 90) hC d_K_leads_85 (by decide) (fun c6 => ?_) (fun c6 => ?_)
      · replace h := h.1 c6
        refine V.aload_n hC d_K_leads_90 rfl rfl ?_
        refine V.getR (j := 0) hC d_K_leads_91 rfl rfl uC2 rfl rfl qf_K_9 ?_
        refine V.iload_n hC d_K_leads_94 rfl rfl ?_
        obtain ⟨b7, h⟩ := h
        refine V.iald hC d_K_leads_95 rfl b7 ?_
        refine V.aload_n hC d_K_leads_96 rfl rfl ?_
        refine V.getR (j := 0) hC d_K_leads_97 rfl rfl uC2 rfl rfl qf_K_9 ?_
        refine V.iload_n hC d_K_leads_100 rfl rfl ?_
        obtain ⟨b8, h⟩ := h
        refine V.iald hC d_K_leads_101 rfl b8 ?_
        refine V.icmp_ne (tgt := 112) hC d_K_leads_102 (by decide) (fun c9 => ?_) (fun c9 => ?_)
        · replace h := h.1 c9
          obtain ⟨v10, ev10⟩ : ∃ y : Int32, y = x3 + (1 : Int32) := ⟨_, rfl⟩
          replace h := h v10 ev10
          refine V.iinc (y := v10) (lo' := [some (.ref (w.1 5)), some (.int x1), some (.int x2), some (.int v10), some (.int s0)]) hC d_K_leads_112 rfl rfl (show v10 = _ + Int32.ofInt (1) from ev10) rfl ?_
          refine V.goto (tgt := 12) hC d_K_leads_115 (by decide) ?_
          exact V.msk [true, true, true, true, false] rfl (hI12 σ x1 x2 v10 h)
        · replace h := h.2 c9
          refine V.iload_n hC d_K_leads_105 rfl rfl ?_
          refine V.iload_n hC d_K_leads_106 rfl rfl ?_
          refine V.icmp_ge (tgt := 112) hC d_K_leads_107 (by decide) (fun c11 => ?_) (fun c11 => ?_)
          · replace h := h.1 c11
            obtain ⟨v12, ev12⟩ : ∃ y : Int32, y = x3 + (1 : Int32) := ⟨_, rfl⟩
            replace h := h v12 ev12
            refine V.iinc (y := v12) (lo' := [some (.ref (w.1 5)), some (.int x1), some (.int x2), some (.int v12), some (.int s0)]) hC d_K_leads_112 rfl rfl (show v12 = _ + Int32.ofInt (1) from ev12) rfl ?_
            refine V.goto (tgt := 12) hC d_K_leads_115 (by decide) ?_
            exact V.msk [true, true, true, true, false] rfl (hI12 σ x1 x2 v12 h)
          · replace h := h.2 c11
            refine V.iconst (v := 0) hC d_K_leads_110 (by decide) ?_
            exact hR _ _ _ _ h (by decide) d_K_leads_111
      · replace h := h.2 c6
        refine V.iconst (v := 0) hC d_K_leads_88 (by decide) ?_
        exact hR _ _ _ _ h (by decide) d_K_leads_89
    · replace h := h.2 c3
      refine V.goto (tgt := 112) hC d_K_leads_70 (by decide) ?_
      obtain ⟨v13, ev13⟩ : ∃ y : Int32, y = x3 + (1 : Int32) := ⟨_, rfl⟩
      replace h := h v13 ev13
      refine V.iinc (y := v13) (lo' := [some (.ref (w.1 5)), some (.int x1), some (.int x2), some (.int v13), some (.int s0)]) hC d_K_leads_112 rfl rfl (show v13 = _ + Int32.ofInt (1) from ev13) rfl ?_
      refine V.goto (tgt := 12) hC d_K_leads_115 (by decide) ?_
      exact V.msk [true, true, true, true, false] rfl (hI12 σ x1 x2 v13 h)
set_option maxHeartbeats 4000000 in
set_option maxRecDepth 100000 in
theorem wj_K_leads_54 {w : Wd} {κ : Kx} {P : Int32 → Hp → Prop} (hC : Cx μC w 5 κ nC2 b_K_leads 0) (hR : RtI μC w 5 κ b_K_leads .boolean P) {I12 : Hp → Int32 → Int32 → Int32 → Prop} (hI12 : ∀ σ x1 x2 x3, I12 σ x1 x2 x3 → V μC w 5 κ σ [some (.ref (w.1 5)), some (.int x1), some (.int x2), some (.int x3), none] 12 []) : ∀ (σ : Hp) (x1 : Int32) (x2 : Int32) (x3 : Int32), j_K_leads_54  P I12 σ x1 x2 x3 → V μC w 5 κ σ [some (.ref (w.1 5)), some (.int x1), some (.int x2), some (.int x3), none] 54 [] := by
  intro σ x1 x2 x3 h
  unfold j_K_leads_54 at h
  refine V.iconst (v := 0) hC d_K_leads_54 (by decide) ?_
  exact V.msk [true, true, true, true, false] rfl (wj_K_leads_55  hC hR hI12 σ x1 x2 x3 (0 : Int32) h)
set_option maxHeartbeats 4000000 in
set_option maxRecDepth 100000 in
theorem wj_K_leads_12 {w : Wd} {κ : Kx} {P : Int32 → Hp → Prop} (hC : Cx μC w 5 κ nC2 b_K_leads 0) (hR : RtI μC w 5 κ b_K_leads .boolean P)  : ∀ (σ : Hp) (x1 : Int32) (x2 : Int32) (x3 : Int32), j_K_leads_12  P  σ x1 x2 x3 → V μC w 5 κ σ [some (.ref (w.1 5)), some (.int x1), some (.int x2), some (.int x3), none] 12 [] := by
  intro σ x1 x2 x3 h
  refine h (fun σ x1 x2 x3 => V μC w 5 κ σ [some (.ref (w.1 5)), some (.int x1), some (.int x2), some (.int x3), none] 12 []) (fun σ x1 x2 x3 h => ?_)
  unfold b_K_leads_12_ at h
  refine V.iload_n hC d_K_leads_12 rfl rfl ?_
  refine V.aload_n hC d_K_leads_13 rfl rfl ?_
  refine V.getI (j := 6) hC d_K_leads_14 rfl rfl uC2 rfl rfl qf_K_30 ?_
  refine V.icmp_ge (tgt := 118) hC d_K_leads_17 (by decide) (fun c14 => ?_) (fun c14 => ?_)
  · replace h := h.1 c14
    refine V.iconst (v := 1) hC d_K_leads_118 (by decide) ?_
    exact hR _ _ _ _ h (by decide) d_K_leads_119
  · replace h := h.2 c14
    refine V.aload_n hC d_K_leads_20 rfl rfl ?_
    refine V.getR (j := 1) hC d_K_leads_21 rfl rfl uC2 rfl rfl qf_K_15 ?_
    refine V.iload_n hC d_K_leads_24 rfl rfl ?_
    obtain ⟨b15, h⟩ := h
    refine V.iald hC d_K_leads_25 rfl b15 ?_
    refine V.aload_n hC d_K_leads_26 rfl rfl ?_
    refine V.getR (j := 1) hC d_K_leads_27 rfl rfl uC2 rfl rfl qf_K_15 ?_
    refine V.iload_n hC d_K_leads_30 rfl rfl ?_
    obtain ⟨b16, h⟩ := h
    refine V.iald hC d_K_leads_31 rfl b16 ?_
    refine V.icmp_ne (tgt := 54) hC d_K_leads_32 (by decide) (fun c17 => ?_) (fun c17 => ?_)
    · replace h := h.1 c17
      exact V.msk [true, true, true, true, false] rfl (wj_K_leads_54  hC hR (fun _ _ _ _ h => h) σ x1 x2 x3 h)
    · replace h := h.2 c17
      refine V.aload_n hC d_K_leads_35 rfl rfl ?_
      refine V.getR (j := 2) hC d_K_leads_36 rfl rfl uC2 rfl rfl qf_K_18 ?_
      refine V.iload_n hC d_K_leads_39 rfl rfl ?_
      obtain ⟨b18, h⟩ := h
      refine V.iald hC d_K_leads_40 rfl b18 ?_
      refine V.aload_n hC d_K_leads_41 rfl rfl ?_
      refine V.getR (j := 2) hC d_K_leads_42 rfl rfl uC2 rfl rfl qf_K_18 ?_
      refine V.iload_n hC d_K_leads_45 rfl rfl ?_
      obtain ⟨b19, h⟩ := h
      refine V.iald hC d_K_leads_46 rfl b19 ?_
      refine V.icmp_ne (tgt := 54) hC d_K_leads_47 (by decide) (fun c20 => ?_) (fun c20 => ?_)
      · replace h := h.1 c20
        exact V.msk [true, true, true, true, false] rfl (wj_K_leads_54  hC hR (fun _ _ _ _ h => h) σ x1 x2 x3 h)
      · replace h := h.2 c20
        refine V.iconst (v := 1) hC d_K_leads_50 (by decide) ?_
        refine V.goto (tgt := 55) hC d_K_leads_51 (by decide) ?_
        exact V.msk [true, true, true, true, false] rfl (wj_K_leads_55  hC hR (fun _ _ _ _ h => h) σ x1 x2 x3 (1 : Int32) h)
set_option maxHeartbeats 4000000 in
set_option maxRecDepth 100000 in
theorem w_K_leads (w : Wd) (σ : Hp) (a1 : Int32) (a2 : Int32) (P : Int32 → Hp → Prop) (h : wp_K_leads σ a1 a2 P) : CtI μC w y_K_leads b_K_leads 5 (some .boolean) 0 [.ref (w.1 5), .int a1, .int a2] σ P := by
  unfold wp_K_leads at h
  refine CtI.ofV (C := nC2) (lo := [some (.ref (w.1 5)), some (.int a1), some (.int a2), none, none]) exC (by decide +kernel) rfl rfl rfl (fun κ hC hR => ?_)
  refine V.iload_n hC d_K_leads_0 rfl rfl ?_
  refine V.iload_n hC d_K_leads_1 rfl rfl ?_
  refine V.ishr hC d_K_leads_2 ?_
  refine V.iconst (v := 1) hC d_K_leads_3 (by decide) ?_
  refine V.iand hC d_K_leads_4 ?_
  refine V.if_ne (tgt := 10) hC d_K_leads_5 (by decide) (fun c21 => ?_) (fun c21 => ?_)
  · replace h := h.1 c21
    refine V.iconst (v := 0) hC d_K_leads_10 (by decide) ?_
    refine V.istore_n (y := (0 : Int32)) (lo' := [some (.ref (w.1 5)), some (.int a1), some (.int a2), some (.int (0 : Int32)), none]) hC d_K_leads_11 rfl rfl rfl rfl ?_
    exact V.msk [true, true, true, true, false] rfl (wj_K_leads_12  hC hR  σ a1 a2 (0 : Int32) h)
  · replace h := h.2 c21
    refine V.iconst (v := 0) hC d_K_leads_8 (by decide) ?_
    exact hR _ _ _ _ h (by decide) d_K_leads_9
