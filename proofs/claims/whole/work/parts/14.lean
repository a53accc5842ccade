abbrev b_P_get : ByteArray := prog_1_method_36_code
def y_P_get : MethodName := ⟨nC7, "get", "(III)I"⟩
theorem d_P_get_0 : decode b_P_get 0 = .ok (.aload_n 0, 1) := by decide +kernel
theorem d_P_get_1 : decode b_P_get 1 = .ok (.iload_n 1, 1) := by decide +kernel
theorem d_P_get_2 : decode b_P_get 2 = .ok (.invokevirtual 154, 3) := by decide +kernel
theorem d_P_get_5 : decode b_P_get 5 = .ok (.ifCond .eq 10, 3) := by decide +kernel
theorem d_P_get_8 : decode b_P_get 8 = .ok (.iload_n 2, 1) := by decide +kernel
theorem d_P_get_9 : decode b_P_get 9 = .ok (.invokestatic 276, 3) := by decide +kernel
theorem d_P_get_12 : decode b_P_get 12 = .ok (.ifCond .ne 7, 3) := by decide +kernel
theorem d_P_get_15 : decode b_P_get 15 = .ok (.ldc_w 292, 3) := by decide +kernel
theorem d_P_get_18 : decode b_P_get 18 = .ok (.ireturn, 1) := by decide +kernel
theorem d_P_get_19 : decode b_P_get 19 = .ok (.aload_n 0, 1) := by decide +kernel
theorem d_P_get_20 : decode b_P_get 20 = .ok (.getfield 59, 3) := by decide +kernel
theorem d_P_get_23 : decode b_P_get 23 = .ok (.iload_n 1, 1) := by decide +kernel
theorem d_P_get_24 : decode b_P_get 24 = .ok (.aaload, 1) := by decide +kernel
theorem d_P_get_25 : decode b_P_get 25 = .ok (.iload_n 2, 1) := by decide +kernel
theorem d_P_get_26 : decode b_P_get 26 = .ok (.iload_n 3, 1) := by decide +kernel
theorem d_P_get_27 : decode b_P_get 27 = .ok (.invokestatic 285, 3) := by decide +kernel
theorem d_P_get_30 : decode b_P_get 30 = .ok (.istore 4, 2) := by decide +kernel
theorem d_P_get_32 : decode b_P_get 32 = .ok (.iload 4, 2) := by decide +kernel
theorem d_P_get_34 : decode b_P_get 34 = .ok (.ifCond .eq 13, 3) := by decide +kernel
theorem d_P_get_37 : decode b_P_get 37 = .ok (.aload_n 0, 1) := by decide +kernel
theorem d_P_get_38 : decode b_P_get 38 = .ok (.iload 4, 2) := by decide +kernel
theorem d_P_get_40 : decode b_P_get 40 = .ok (.putfield 67, 3) := by decide +kernel
theorem d_P_get_43 : decode b_P_get 43 = .ok (.ldc_w 292, 3) := by decide +kernel
theorem d_P_get_46 : decode b_P_get 46 = .ok (.ireturn, 1) := by decide +kernel
theorem d_P_get_47 : decode b_P_get 47 = .ok (.aload_n 0, 1) := by decide +kernel
theorem d_P_get_48 : decode b_P_get 48 = .ok (.getfield 59, 3) := by decide +kernel
theorem d_P_get_51 : decode b_P_get 51 = .ok (.iload_n 1, 1) := by decide +kernel
theorem d_P_get_52 : decode b_P_get 52 = .ok (.aaload, 1) := by decide +kernel
theorem d_P_get_53 : decode b_P_get 53 = .ok (.getfield 165, 3) := by decide +kernel
theorem d_P_get_56 : decode b_P_get 56 = .ok (.iload_n 3, 1) := by decide +kernel
theorem d_P_get_57 : decode b_P_get 57 = .ok (.iaload, 1) := by decide +kernel
theorem d_P_get_58 : decode b_P_get 58 = .ok (.ireturn, 1) := by decide +kernel
theorem qc_P_292 : Cond.constant nC7 292 (-2147483648) ∈ tbl := tbl_in 810 (by decide +kernel) rfl
def wp_P_get (σ : Hp) (a1 : Int32) (a2 : Int32) (a3 : Int32) (P : Int32 → Hp → Prop) : Prop :=
  wp_P_isSheet σ a1 (fun (r1 : Int32) (t2 : Hp) => ((r1 = 0 → P (-2147483648 : Int32) t2) ∧ (¬ r1 = 0 → wp_P_isForm t2 a2 (fun (r4 : Int32) (t5 : Hp) => ((¬ r4 = 0 → (vp_in a1 4) ∧ (∀ o8 : Nat, o8 = 10 + ix a1 → (isS o8) ∧ wp_P_wrongWithItem t5 o8 a2 a3 (fun (r10 : Int32) (t11 : Hp) => ((r10 = 0 → (vp_in a1 4) ∧ (∀ o14 : Nat, o14 = 10 + ix a1 → (isS o14) ∧ (vp_in a3 60) ∧ P (t11 (o14 + 28) (ix a3)) t11)) ∧ (¬ r10 = 0 → P (-2147483648 : Int32) (st t11 0 9 r10)))))) ∧ (r4 = 0 → P (-2147483648 : Int32) t5))))))
set_option maxHeartbeats 4000000 in
set_option maxRecDepth 100000 in
theorem w_P_get (w : Wd) (σ : Hp) (a1 : Int32) (a2 : Int32) (a3 : Int32) (P : Int32 → Hp → Prop) (h : wp_P_get σ a1 a2 a3 P) : CtI μC w y_P_get b_P_get 5 (some .int) 2 [.ref (w.1 0), .int a1, .int a2, .int a3] σ P := by
  unfold wp_P_get at h
  refine CtI.ofV (C := nC7) (lo := [some (.ref (w.1 0)), some (.int a1), some (.int a2), some (.int a3), none]) exC (by decide +kernel) rfl rfl rfl (fun κ hC hR => ?_)
  refine V.aload_n hC d_P_get_0 rfl rfl ?_
  refine V.iload_n hC d_P_get_1 rfl rfl ?_
  refine V.callVI hC exC (w_P_isSheet w σ a1 _ h) d_P_get_2 mo_P_isSheet qm_P_154 rfl rfl rfl rfl rfl rfl rfl (Nat.le_of_ble_eq_true rfl) (fun r1 t2 h => ?_)
  refine V.if_eq (tgt := 15) hC d_P_get_5 (by decide) (fun c3 => ?_) (fun c3 => ?_)
  · replace h := h.1 c3
    refine V.ldcw (v := -2147483648) hC d_P_get_15 qc_P_292 ?_
    exact hR _ _ _ _ h rfl d_P_get_18
  · replace h := h.2 c3
    refine V.iload_n hC d_P_get_8 rfl rfl ?_
    refine V.callSI hC exC (w_P_isForm w t2 a2 _ h) d_P_get_9 mo_P_isForm qm_P_276 rfl rfl rfl rfl (Nat.le_of_ble_eq_true rfl) (fun r4 t5 h => ?_)
    refine V.if_ne (tgt := 19) hC d_P_get_12 (by decide) (fun c6 => ?_) (fun c6 => ?_)
    · replace h := h.1 c6
      refine V.aload_n hC d_P_get_19 rfl rfl ?_
      refine V.getR (j := 7) hC d_P_get_20 rfl rfl uC7 rfl rfl qf_P_59 ?_
      refine V.iload_n hC d_P_get_23 rfl rfl ?_
      obtain ⟨b7, h⟩ := h
      obtain ⟨o8, eo8⟩ : ∃ y : Nat, y = 10 + ix a1 := ⟨_, rfl⟩
      replace h := h o8 eo8
      obtain ⟨m9, h⟩ := h
      refine V.qald (b := 10) hC d_P_get_24 rfl b7 ?_
      rw [show 10 + Int32.toNatClampNeg a1 = o8 from eo8.symm]
      refine V.iload_n hC d_P_get_25 rfl rfl ?_
      refine V.iload_n hC d_P_get_26 rfl rfl ?_
      refine V.callSI hC exC (w_P_wrongWithItem w t5 o8 a2 a3 _ h) d_P_get_27 mo_P_wrongWithItem qm_P_285 rfl rfl rfl rfl (Nat.le_of_ble_eq_true rfl) (fun r10 t11 h => ?_)
      refine V.istore (y := r10) (lo' := [some (.ref (w.1 0)), some (.int a1), some (.int a2), some (.int a3), some (.int r10)]) hC d_P_get_30 rfl rfl rfl ?_
      refine V.iload hC d_P_get_32 rfl ?_
      refine V.if_eq (tgt := 47) hC d_P_get_34 (by decide) (fun c12 => ?_) (fun c12 => ?_)
      · replace h := h.1 c12
        refine V.aload_n hC d_P_get_47 rfl rfl ?_
        refine V.getR (j := 7) hC d_P_get_48 rfl rfl uC7 rfl rfl qf_P_59 ?_
        refine V.iload_n hC d_P_get_51 rfl rfl ?_
        obtain ⟨b13, h⟩ := h
        obtain ⟨o14, eo14⟩ : ∃ y : Nat, y = 10 + ix a1 := ⟨_, rfl⟩
        replace h := h o14 eo14
        obtain ⟨m15, h⟩ := h
        refine V.qald (b := 10) hC d_P_get_52 rfl b13 ?_
        rw [show 10 + Int32.toNatClampNeg a1 = o14 from eo14.symm]
        refine V.getR (j := 0) hC d_P_get_53 (shS m15) rfl uC4 rfl rfl qf_P_165 ?_
        refine V.iload_n hC d_P_get_56 rfl rfl ?_
        obtain ⟨b16, h⟩ := h
        refine V.iald hC d_P_get_57 (shSA m15) b16 ?_
        exact hR _ _ _ _ h rfl d_P_get_58
      · replace h := h.2 c12
        refine V.aload_n hC d_P_get_37 rfl rfl ?_
        refine V.iload hC d_P_get_38 rfl ?_
        refine V.put (j := 9) hC d_P_get_40 rfl rfl uC7 pC7 dC7 rfl rfl rfl rfl rfl qf_P_67 ?_
        refine V.ldcw (v := -2147483648) hC d_P_get_43 qc_P_292 ?_
        exact hR _ _ _ _ h rfl d_P_get_46
    · replace h := h.2 c6
      refine V.ldcw (v := -2147483648) hC d_P_get_15 qc_P_292 ?_
      exact hR _ _ _ _ h rfl d_P_get_18
abbrev b_S_hasItems : ByteArray := prog_6_method_5_code
def y_S_hasItems : MethodName := ⟨nC4, "hasItems", "(II)Z"⟩
theorem d_S_hasItems_0 : decode b_S_hasItems 0 = .ok (.iload_n 1, 1) := by decide +kernel
theorem d_S_hasItems_1 : decode b_S_hasItems 1 = .ok (.ifCond .lt 29, 3) := by decide +kernel
theorem d_S_hasItems_4 : decode b_S_hasItems 4 = .ok (.iload_n 2, 1) := by decide +kernel
theorem d_S_hasItems_5 : decode b_S_hasItems 5 = .ok (.ifCond .lt 25, 3) := by decide +kernel
theorem d_S_hasItems_8 : decode b_S_hasItems 8 = .ok (.iload_n 1, 1) := by decide +kernel
theorem d_S_hasItems_9 : decode b_S_hasItems 9 = .ok (.aload_n 0, 1) := by decide +kernel
theorem d_S_hasItems_10 : decode b_S_hasItems 10 = .ok (.getfield 25, 3) := by decide +kernel
theorem d_S_hasItems_13 : decode b_S_hasItems 13 = .ok (.if_icmp .gt 17, 3) := by decide +kernel
theorem d_S_hasItems_16 : decode b_S_hasItems 16 = .ok (.iload_n 2, 1) := by decide +kernel
theorem d_S_hasItems_17 : decode b_S_hasItems 17 = .ok (.aload_n 0, 1) := by decide +kernel
theorem d_S_hasItems_18 : decode b_S_hasItems 18 = .ok (.getfield 25, 3) := by decide +kernel
theorem d_S_hasItems_21 : decode b_S_hasItems 21 = .ok (.iload_n 1, 1) := by decide +kernel
theorem d_S_hasItems_22 : decode b_S_hasItems 22 = .ok (.isub, 1) := by decide +kernel
theorem d_S_hasItems_23 : decode b_S_hasItems 23 = .ok (.if_icmp .gt 7, 3) := by decide +kernel
theorem d_S_hasItems_26 : decode b_S_hasItems 26 = .ok (.iconst 1, 1) := by decide +kernel
theorem d_S_hasItems_27 : decode b_S_hasItems 27 = .ok (.goto 4, 3) := by decide +kernel
theorem d_S_hasItems_30 : decode b_S_hasItems 30 = .ok (.iconst 0, 1) := by decide +kernel
theorem d_S_hasItems_31 : decode b_S_hasItems 31 = .ok (.ireturn, 1) := by decide +kernel
theorem mo_S_hasItems : MokV y_S_hasItems b_S_hasItems 3 (some .boolean) 2 := ⟨⟨(tbl_in 818 (by decide +kernel) rfl), (tbl_in 69 (by decide +kernel) rfl)⟩, ⟨(tbl_in 816 (by decide +kernel) rfl), tbl_lw _ (tbl_in 817 (by decide +kernel) rfl), (tbl_in 817 (by decide +kernel) rfl)⟩, ⟨by decide +kernel, by decide +kernel⟩, by decide +kernel⟩
def wp_S_hasItems (σ : Hp) (o0 : Nat) (a1 : Int32) (a2 : Int32) (P : Int32 → Hp → Prop) : Prop :=
  (isS o0) ∧ ((a1 < 0 → P (0 : Int32) σ) ∧ (¬ a1 < 0 → ((a2 < 0 → P (0 : Int32) σ) ∧ (¬ a2 < 0 → (((σ o0 2) < a1 → P (0 : Int32) σ) ∧ (¬ (σ o0 2) < a1 → ((((σ o0 2) - a1) < a2 → P (0 : Int32) σ) ∧ (¬ ((σ o0 2) - a1) < a2 → P (1 : Int32) σ))))))))
set_option maxHeartbeats 4000000 in
set_option maxRecDepth 100000 in
theorem w_S_hasItems (w : Wd) (σ : Hp) (o0 : Nat) (a1 : Int32) (a2 : Int32) (P : Int32 → Hp → Prop) (h : wp_S_hasItems σ o0 a1 a2 P) : CtI μC w y_S_hasItems b_S_hasItems 3 (some .boolean) 0 [.ref (w.1 o0), .int a1, .int a2] σ P := by
  unfold wp_S_hasItems at h
  refine CtI.ofV (C := nC4) (lo := [some (.ref (w.1 o0)), some (.int a1), some (.int a2)]) exC (by decide +kernel) rfl rfl rfl (fun κ hC hR => ?_)
  obtain ⟨m1, h⟩ := h
  refine V.iload_n hC d_S_hasItems_0 rfl rfl ?_
  refine V.if_lt (tgt := 30) hC d_S_hasItems_1 (by decide) (fun c2 => ?_) (fun c2 => ?_)
  · replace h := h.1 c2
    refine V.iconst (v := 0) hC d_S_hasItems_30 (by decide) ?_
    exact hR _ _ _ _ h (by decide) d_S_hasItems_31
  · replace h := h.2 c2
    refine V.iload_n hC d_S_hasItems_4 rfl rfl ?_
    refine V.if_lt (tgt := 30) hC d_S_hasItems_5 (by decide) (fun c3 => ?_) (fun c3 => ?_)
    · replace h := h.1 c3
      refine V.iconst (v := 0) hC d_S_hasItems_30 (by decide) ?_
      exact hR _ _ _ _ h (by decide) d_S_hasItems_31
    · replace h := h.2 c3
      refine V.iload_n hC d_S_hasItems_8 rfl rfl ?_
      refine V.aload_n hC d_S_hasItems_9 rfl rfl ?_
      refine V.getI (j := 2) hC d_S_hasItems_10 (shS m1) rfl uC4 rfl rfl qf_S_25 ?_
      refine V.icmp_gt (tgt := 30) hC d_S_hasItems_13 (by decide) (fun c4 => ?_) (fun c4 => ?_)
      · replace h := h.1 c4
        refine V.iconst (v := 0) hC d_S_hasItems_30 (by decide) ?_
        exact hR _ _ _ _ h (by decide) d_S_hasItems_31
      · replace h := h.2 c4
        refine V.iload_n hC d_S_hasItems_16 rfl rfl ?_
        refine V.aload_n hC d_S_hasItems_17 rfl rfl ?_
        refine V.getI (j := 2) hC d_S_hasItems_18 (shS m1) rfl uC4 rfl rfl qf_S_25 ?_
        refine V.iload_n hC d_S_hasItems_21 rfl rfl ?_
        refine V.isub hC d_S_hasItems_22 ?_
        refine V.icmp_gt (tgt := 30) hC d_S_hasItems_23 (by decide) (fun c5 => ?_) (fun c5 => ?_)
        · replace h := h.1 c5
          refine V.iconst (v := 0) hC d_S_hasItems_30 (by decide) ?_
          exact hR _ _ _ _ h (by decide) d_S_hasItems_31
        · replace h := h.2 c5
          refine V.iconst (v := 1) hC d_S_hasItems_26 (by decide) ?_
          refine V.goto (tgt := 31) hC d_S_hasItems_27 (by decide) ?_
          exact hR _ _ _ _ h (by decide) d_S_hasItems_31
abbrev b_P_copy : ByteArray := prog_1_method_37_code
def y_P_copy : MethodName := ⟨nC7, "copy", "(IIIII)I"⟩
theorem d_P_copy_0 : decode b_P_copy 0 = .ok (.aload_n 0, 1) := by decide +kernel
theorem d_P_copy_1 : decode b_P_copy 1 = .ok (.iload_n 1, 1) := by decide +kernel
theorem d_P_copy_2 : decode b_P_copy 2 = .ok (.invokevirtual 154, 3) := by decide +kernel
theorem d_P_copy_5 : decode b_P_copy 5 = .ok (.ifCond .eq 11, 3) := by decide +kernel
theorem d_P_copy_8 : decode b_P_copy 8 = .ok (.aload_n 0, 1) := by decide +kernel
theorem d_P_copy_9 : decode b_P_copy 9 = .ok (.iload_n 3, 1) := by decide +kernel
theorem d_P_copy_10 : decode b_P_copy 10 = .ok (.invokevirtual 154, 3) := by decide +kernel
theorem d_P_copy_13 : decode b_P_copy 13 = .ok (.ifCond .ne 6, 3) := by decide +kernel
theorem d_P_copy_16 : decode b_P_copy 16 = .ok (.bipush (-2), 2) := by decide +kernel
theorem d_P_copy_18 : decode b_P_copy 18 = .ok (.ireturn, 1) := by decide +kernel
theorem d_P_copy_19 : decode b_P_copy 19 = .ok (.aload_n 0, 1) := by decide +kernel
theorem d_P_copy_20 : decode b_P_copy 20 = .ok (.getfield 59, 3) := by decide +kernel
theorem d_P_copy_23 : decode b_P_copy 23 = .ok (.iload_n 1, 1) := by decide +kernel
theorem d_P_copy_24 : decode b_P_copy 24 = .ok (.aaload, 1) := by decide +kernel
theorem d_P_copy_25 : decode b_P_copy 25 = .ok (.astore 6, 2) := by decide +kernel
theorem d_P_copy_27 : decode b_P_copy 27 = .ok (.aload_n 0, 1) := by decide +kernel
theorem d_P_copy_28 : decode b_P_copy 28 = .ok (.getfield 59, 3) := by decide +kernel
theorem d_P_copy_31 : decode b_P_copy 31 = .ok (.iload_n 3, 1) := by decide +kernel
theorem d_P_copy_32 : decode b_P_copy 32 = .ok (.aaload, 1) := by decide +kernel
theorem d_P_copy_33 : decode b_P_copy 33 = .ok (.astore 7, 2) := by decide +kernel
theorem d_P_copy_35 : decode b_P_copy 35 = .ok (.aload 6, 2) := by decide +kernel
theorem d_P_copy_37 : decode b_P_copy 37 = .ok (.invokevirtual 157, 3) := by decide +kernel
theorem d_P_copy_40 : decode b_P_copy 40 = .ok (.ifCond .ne 11, 3) := by decide +kernel
theorem d_P_copy_43 : decode b_P_copy 43 = .ok (.aload 7, 2) := by decide +kernel
theorem d_P_copy_45 : decode b_P_copy 45 = .ok (.invokevirtual 157, 3) := by decide +kernel
theorem d_P_copy_48 : decode b_P_copy 48 = .ok (.ifCond .eq 9, 3) := by decide +kernel
theorem d_P_copy_51 : decode b_P_copy 51 = .ok (.aload_n 0, 1) := by decide +kernel
theorem d_P_copy_52 : decode b_P_copy 52 = .ok (.iconst 1, 1) := by decide +kernel
theorem d_P_copy_53 : decode b_P_copy 53 = .ok (.invokevirtual 160, 3) := by decide +kernel
theorem d_P_copy_56 : decode b_P_copy 56 = .ok (.ireturn, 1) := by decide +kernel
theorem d_P_copy_57 : decode b_P_copy 57 = .ok (.aload 6, 2) := by decide +kernel
theorem d_P_copy_59 : decode b_P_copy 59 = .ok (.getfield 293, 3) := by decide +kernel
theorem d_P_copy_62 : decode b_P_copy 62 = .ok (.aload 7, 2) := by decide +kernel
theorem d_P_copy_64 : decode b_P_copy 64 = .ok (.getfield 293, 3) := by decide +kernel
theorem d_P_copy_67 : decode b_P_copy 67 = .ok (.if_icmp .eq 9, 3) := by decide +kernel
theorem d_P_copy_70 : decode b_P_copy 70 = .ok (.aload_n 0, 1) := by decide +kernel
theorem d_P_copy_71 : decode b_P_copy 71 = .ok (.iconst 4, 1) := by decide +kernel
theorem d_P_copy_72 : decode b_P_copy 72 = .ok (.invokevirtual 160, 3) := by decide +kernel
theorem d_P_copy_75 : decode b_P_copy 75 = .ok (.ireturn, 1) := by decide +kernel
theorem d_P_copy_76 : decode b_P_copy 76 = .ok (.aload 6, 2) := by decide +kernel
theorem d_P_copy_78 : decode b_P_copy 78 = .ok (.iload_n 2, 1) := by decide +kernel
theorem d_P_copy_79 : decode b_P_copy 79 = .ok (.iload 5, 2) := by decide +kernel
theorem d_P_copy_81 : decode b_P_copy 81 = .ok (.invokevirtual 296, 3) := by decide +kernel
theorem d_P_copy_84 : decode b_P_copy 84 = .ok (.ifCond .eq 15, 3) := by decide +kernel
theorem d_P_copy_87 : decode b_P_copy 87 = .ok (.aload 7, 2) := by decide +kernel
theorem d_P_copy_89 : decode b_P_copy 89 = .ok (.iload 4, 2) := by decide +kernel
theorem d_P_copy_91 : decode b_P_copy 91 = .ok (.iload 5, 2) := by decide +kernel
theorem d_P_copy_93 : decode b_P_copy 93 = .ok (.invokevirtual 296, 3) := by decide +kernel
theorem d_P_copy_96 : decode b_P_copy 96 = .ok (.ifCond .ne 9, 3) := by decide +kernel
theorem d_P_copy_99 : decode b_P_copy 99 = .ok (.aload_n 0, 1) := by decide +kernel
theorem d_P_copy_100 : decode b_P_copy 100 = .ok (.iconst 2, 1) := by decide +kernel
theorem d_P_copy_101 : decode b_P_copy 101 = .ok (.invokevirtual 160, 3) := by decide +kernel
theorem d_P_copy_104 : decode b_P_copy 104 = .ok (.ireturn, 1) := by decide +kernel
theorem d_P_copy_105 : decode b_P_copy 105 = .ok (.aload 6, 2) := by decide +kernel
theorem d_P_copy_107 : decode b_P_copy 107 = .ok (.getfield 165, 3) := by decide +kernel
theorem d_P_copy_110 : decode b_P_copy 110 = .ok (.iload_n 2, 1) := by decide +kernel
theorem d_P_copy_111 : decode b_P_copy 111 = .ok (.aload 7, 2) := by decide +kernel
theorem d_P_copy_113 : decode b_P_copy 113 = .ok (.getfield 165, 3) := by decide +kernel
theorem d_P_copy_116 : decode b_P_copy 116 = .ok (.iload 4, 2) := by decide +kernel
theorem d_P_copy_118 : decode b_P_copy 118 = .ok (.iload 5, 2) := by decide +kernel
theorem d_P_copy_120 : decode b_P_copy 120 = .ok (.invokestatic 299, 3) := by decide +kernel
theorem d_P_copy_123 : decode b_P_copy 123 = .ok (.iconst 1, 1) := by decide +kernel
theorem d_P_copy_124 : decode b_P_copy 124 = .ok (.ireturn, 1) := by decide +kernel
theorem qcopy_i : Cond.initialized "java/lang/System" ∈ tbl := tbl_in 79 (by decide +kernel) rfl
theorem qm_P_296 : Cond.methodLink nC7 296 y_S_hasItems ∈ tbl := tbl_in 815 (by decide +kernel) rfl
theorem qm_P_299 : Cond.methodLink nC7 299 arraycopyName ∈ tbl := tbl_in 819 (by decide +kernel) rfl
theorem qcopy_n : Cond.native arraycopyName ∈ tbl := tbl_in 821 (by decide +kernel) rfl
theorem qcopy_s : Cond.static arraycopyName ∈ tbl := tbl_in 820 (by decide +kernel) rfl
def j_P_copy_51 (P : Int32 → Hp → Prop)  (σ : Hp)  : Prop :=
  wp_P_found σ (1 : Int32) (fun (r1 : Int32) (t2 : Hp) => P r1 t2)
def j_P_copy_99 (P : Int32 → Hp → Prop)  (σ : Hp)  : Prop :=
  wp_P_found σ (2 : Int32) (fun (r3 : Int32) (t4 : Hp) => P r3 t4)
def wp_P_copy (σ : Hp) (a1 : Int32) (a2 : Int32) (a3 : Int32) (a4 : Int32) (a5 : Int32) (P : Int32 → Hp → Prop) : Prop :=
  wp_P_isSheet σ a1 (fun (r5 : Int32) (t6 : Hp) => ((r5 = 0 → P (-2 : Int32) t6) ∧ (¬ r5 = 0 → wp_P_isSheet t6 a3 (fun (r8 : Int32) (t9 : Hp) => ((¬ r8 = 0 → (vp_in a1 4) ∧ (∀ o12 : Nat, o12 = 10 + ix a1 → (isS o12) ∧ (vp_in a3 4) ∧ (∀ o15 : Nat, o15 = 10 + ix a3 → (isS o15) ∧ wp_S_isLost t9 o12 (fun (r17 : Int32) (t18 : Hp) => ((¬ r17 = 0 → j_P_copy_51 P t18 ) ∧ (r17 = 0 → wp_S_isLost t18 o15 (fun (r20 : Int32) (t21 : Hp) => ((r20 = 0 → (((t21 o12 1) = (t21 o15 1) → wp_S_hasItems t21 o12 a2 a5 (fun (r24 : Int32) (t25 : Hp) => ((r24 = 0 → j_P_copy_99 P t25 ) ∧ (¬ r24 = 0 → wp_S_hasItems t25 o15 a4 a5 (fun (r27 : Int32) (t28 : Hp) => ((¬ r27 = 0 → (¬ a2 < 0) ∧ (¬ a4 < 0) ∧ (¬ a5 < 0) ∧ (ix a2 + ix a5 ≤ 60) ∧ (ix a4 + ix a5 ≤ 60) ∧ P (1 : Int32) ((fun q : Nat => if q = (o15 + 28) then va_cpy (t28 (o12 + 28)) (t28 (o15 + 28)) (ix a2) (ix a4) (ix a5) else t28 q))) ∧ (r27 = 0 → j_P_copy_99 P t28 ))))))) ∧ (¬ (t21 o12 1) = (t21 o15 1) → wp_P_found t21 (4 : Int32) (fun (r35 : Int32) (t36 : Hp) => P r35 t36)))) ∧ (¬ r20 = 0 → j_P_copy_51 P t21 ))))))))) ∧ (r8 = 0 → P (-2 : Int32) t9))))))
set_option maxHeartbeats 4000000 in
set_option maxRecDepth 100000 in
theorem wj_P_copy_51 {w : Wd} {κ : Kx} {P : Int32 → Hp → Prop} (hC : Cx μC w 8 κ nC7 b_P_copy 1) (hR : RtI μC w 8 κ b_P_copy .int P)  : ∀ (σ : Hp) , j_P_copy_51  P  σ  → V μC w 8 κ σ [some (.ref (w.1 0)), none, none, none, none, none, none, none] 51 [] := by
  intro σ  h
  unfold j_P_copy_51 at h
  refine V.aload_n hC d_P_copy_51 rfl rfl ?_
  refine V.iconst (v := 1) hC d_P_copy_52 (by decide) ?_
  refine V.callVI hC exC (w_P_found w σ (1 : Int32) _ h) d_P_copy_53 mo_P_found qm_P_160 rfl rfl rfl rfl rfl rfl rfl (Nat.le_of_ble_eq_true rfl) (fun r1 t2 h => ?_)
  exact hR _ _ _ _ h rfl d_P_copy_56
set_option maxHeartbeats 4000000 in
set_option maxRecDepth 100000 in
theorem wj_P_copy_99 {w : Wd} {κ : Kx} {P : Int32 → Hp → Prop} (hC : Cx μC w 8 κ nC7 b_P_copy 1) (hR : RtI μC w 8 κ b_P_copy .int P)  : ∀ (σ : Hp) , j_P_copy_99  P  σ  → V μC w 8 κ σ [some (.ref (w.1 0)), none, none, none, none, none, none, none] 99 [] := by
  intro σ  h
  unfold j_P_copy_99 at h
  refine V.aload_n hC d_P_copy_99 rfl rfl ?_
  refine V.iconst (v := 2) hC d_P_copy_100 (by decide) ?_
  refine V.callVI hC exC (w_P_found w σ (2 : Int32) _ h) d_P_copy_101 mo_P_found qm_P_160 rfl rfl rfl rfl rfl rfl rfl (Nat.le_of_ble_eq_true rfl) (fun r3 t4 h => ?_)
  exact hR _ _ _ _ h rfl d_P_copy_104
set_option maxHeartbeats 4000000 in
set_option maxRecDepth 100000 in
theorem w_P_copy (w : Wd) (σ : Hp) (a1 : Int32) (a2 : Int32) (a3 : Int32) (a4 : Int32) (a5 : Int32) (P : Int32 → Hp → Prop) (h : wp_P_copy σ a1 a2 a3 a4 a5 P) : CtI μC w y_P_copy b_P_copy 8 (some .int) 1 [.ref (w.1 0), .int a1, .int a2, .int a3, .int a4, .int a5] σ P := by
  unfold wp_P_copy at h
  refine CtI.ofV (C := nC7) (lo := [some (.ref (w.1 0)), some (.int a1), some (.int a2), some (.int a3), some (.int a4), some (.int a5), none, none]) exC (by decide +kernel) rfl rfl rfl (fun κ hC hR => ?_)
  refine V.aload_n hC d_P_copy_0 rfl rfl ?_
  refine V.iload_n hC d_P_copy_1 rfl rfl ?_
  refine V.callVI hC exC (w_P_isSheet w σ a1 _ h) d_P_copy_2 mo_P_isSheet qm_P_154 rfl rfl rfl rfl rfl rfl rfl (Nat.le_of_ble_eq_true rfl) (fun r5 t6 h => ?_)
  refine V.if_eq (tgt := 16) hC d_P_copy_5 (by decide) (fun c7 => ?_) (fun c7 => ?_)
  · replace h := h.1 c7
    refine V.bipush (v := -2) hC d_P_copy_16 (by decide) ?_
    exact hR _ _ _ _ h rfl d_P_copy_18
  · replace h := h.2 c7
    refine V.aload_n hC d_P_copy_8 rfl rfl ?_
    refine V.iload_n hC d_P_copy_9 rfl rfl ?_
    refine V.callVI hC exC (w_P_isSheet w t6 a3 _ h) d_P_copy_10 mo_P_isSheet qm_P_154 rfl rfl rfl rfl rfl rfl rfl (Nat.le_of_ble_eq_true rfl) (fun r8 t9 h => ?_)
    refine V.if_ne (tgt := 19) hC d_P_copy_13 (by decide) (fun c10 => ?_) (fun c10 => ?_)
    · replace h := h.1 c10
      refine V.aload_n hC d_P_copy_19 rfl rfl ?_
      refine V.getR (j := 7) hC d_P_copy_20 rfl rfl uC7 rfl rfl qf_P_59 ?_
      refine V.iload_n hC d_P_copy_23 rfl rfl ?_
      obtain ⟨b11, h⟩ := h
      obtain ⟨o12, eo12⟩ : ∃ y : Nat, y = 10 + ix a1 := ⟨_, rfl⟩
      replace h := h o12 eo12
      obtain ⟨m13, h⟩ := h
      refine V.qald (b := 10) hC d_P_copy_24 rfl b11 ?_
      rw [show 10 + Int32.toNatClampNeg a1 = o12 from eo12.symm]
      refine V.astore (lo' := [some (.ref (w.1 0)), some (.int a1), some (.int a2), some (.int a3), some (.int a4), some (.int a5), some (.ref (w.1 o12)), none]) hC d_P_copy_25 rfl rfl ?_
      refine V.aload_n hC d_P_copy_27 rfl rfl ?_
      refine V.getR (j := 7) hC d_P_copy_28 rfl rfl uC7 rfl rfl qf_P_59 ?_
      refine V.iload_n hC d_P_copy_31 rfl rfl ?_
      obtain ⟨b14, h⟩ := h
      obtain ⟨o15, eo15⟩ : ∃ y : Nat, y = 10 + ix a3 := ⟨_, rfl⟩
      replace h := h o15 eo15
      obtain ⟨m16, h⟩ := h
      refine V.qald (b := 10) hC d_P_copy_32 rfl b14 ?_
      rw [show 10 + Int32.toNatClampNeg a3 = o15 from eo15.symm]
      refine V.astore (lo' := [some (.ref (w.1 0)), some (.int a1), some (.int a2), some (.int a3), some (.int a4), some (.int a5), some (.ref (w.1 o12)), some (.ref (w.1 o15))]) hC d_P_copy_33 rfl rfl ?_
      refine V.aload hC d_P_copy_35 rfl ?_
      refine V.callVI hC exC (w_S_isLost w t9 o12 _ h) d_P_copy_37 mo_S_isLost qm_P_157 (shS m13) rfl rfl rfl rfl rfl rfl (Nat.le_of_ble_eq_true rfl) (fun r17 t18 h => ?_)
      refine V.if_ne (tgt := 51) hC d_P_copy_40 (by decide) (fun c19 => ?_) (fun c19 => ?_)
      · replace h := h.1 c19
        exact V.msk [true, false, false, false, false, false, false, false] rfl (wj_P_copy_51  hC hR  t18  h)
      · replace h := h.2 c19
        refine V.aload hC d_P_copy_43 rfl ?_
        refine V.callVI hC exC (w_S_isLost w t18 o15 _ h) d_P_copy_45 mo_S_isLost qm_P_157 (shS m16) rfl rfl rfl rfl rfl rfl (Nat.le_of_ble_eq_true rfl) (fun r20 t21 h => ?_)
        refine V.if_eq (tgt := 57) hC d_P_copy_48 (by decide) (fun c22 => ?_) (fun c22 => ?_)
        · replace h := h.1 c22
          refine V.aload hC d_P_copy_57 rfl ?_
          refine V.getI (j := 1) hC d_P_copy_59 (shS m13) rfl uC4 rfl rfl qf_P_293 ?_
          refine V.aload hC d_P_copy_62 rfl ?_
          refine V.getI (j := 1) hC d_P_copy_64 (shS m16) rfl uC4 rfl rfl qf_P_293 ?_
          refine V.icmp_eq (tgt := 76) hC d_P_copy_67 (by decide) (fun c23 => ?_) (fun c23 => ?_)
          · replace h := h.1 c23
            refine V.aload hC d_P_copy_76 rfl ?_
            refine V.iload_n hC d_P_copy_78 rfl rfl ?_
            refine V.iload hC d_P_copy_79 rfl ?_
            refine V.callVI hC exC (w_S_hasItems w t21 o12 a2 a5 _ h) d_P_copy_81 mo_S_hasItems qm_P_296 (shS m13) rfl rfl rfl rfl rfl rfl (Nat.le_of_ble_eq_true rfl) (fun r24 t25 h => ?_)
            refine V.if_eq (tgt := 99) hC d_P_copy_84 (by decide) (fun c26 => ?_) (fun c26 => ?_)
            · replace h := h.1 c26
              exact V.msk [true, false, false, false, false, false, false, false] rfl (wj_P_copy_99  hC hR  t25  h)
            · replace h := h.2 c26
              refine V.aload hC d_P_copy_87 rfl ?_
              refine V.iload hC d_P_copy_89 rfl ?_
              refine V.iload hC d_P_copy_91 rfl ?_
              refine V.callVI hC exC (w_S_hasItems w t25 o15 a4 a5 _ h) d_P_copy_93 mo_S_hasItems qm_P_296 (shS m16) rfl rfl rfl rfl rfl rfl (Nat.le_of_ble_eq_true rfl) (fun r27 t28 h => ?_)
              refine V.if_ne (tgt := 105) hC d_P_copy_96 (by decide) (fun c29 => ?_) (fun c29 => ?_)
              · replace h := h.1 c29
                refine V.aload hC d_P_copy_105 rfl ?_
                refine V.getR (j := 0) hC d_P_copy_107 (shS m13) rfl uC4 rfl rfl qf_P_165 ?_
                refine V.iload_n hC d_P_copy_110 rfl rfl ?_
                refine V.aload hC d_P_copy_111 rfl ?_
                refine V.getR (j := 0) hC d_P_copy_113 (shS m16) rfl uC4 rfl rfl qf_P_165 ?_
                refine V.iload hC d_P_copy_116 rfl ?_
                refine V.iload hC d_P_copy_118 rfl ?_
                obtain ⟨z30, h⟩ := h
                obtain ⟨z31, h⟩ := h
                obtain ⟨z32, h⟩ := h
                obtain ⟨z33, h⟩ := h
                obtain ⟨z34, h⟩ := h
                refine V.copyi hC d_P_copy_120 qm_P_299 qcopy_n qcopy_s qcopy_i (shSA m13) (shSA m16) z30 z31 z32 z33 z34 rfl rfl ?_
                refine V.iconst (v := 1) hC d_P_copy_123 (by decide) ?_
                exact hR _ _ _ _ h rfl d_P_copy_124
              · replace h := h.2 c29
                exact V.msk [true, false, false, false, false, false, false, false] rfl (wj_P_copy_99  hC hR  t28  h)
          · replace h := h.2 c23
            refine V.aload_n hC d_P_copy_70 rfl rfl ?_
            refine V.iconst (v := 4) hC d_P_copy_71 (by decide) ?_
            refine V.callVI hC exC (w_P_found w t21 (4 : Int32) _ h) d_P_copy_72 mo_P_found qm_P_160 rfl rfl rfl rfl rfl rfl rfl (Nat.le_of_ble_eq_true rfl) (fun r35 t36 h => ?_)
            exact hR _ _ _ _ h rfl d_P_copy_75
        · replace h := h.2 c22
          exact V.msk [true, false, false, false, false, false, false, false] rfl (wj_P_copy_51  hC hR  t21  h)
    · replace h := h.2 c10
      refine V.bipush (v := -2) hC d_P_copy_16 (by decide) ?_
      exact hR _ _ _ _ h rfl d_P_copy_18
abbrev b_P_write : ByteArray := prog_1_method_38_code
def y_P_write : MethodName := ⟨nC7, "write", "(II)I"⟩
theorem d_P_write_0 : decode b_P_write 0 = .ok (.aload_n 0, 1) := by decide +kernel
theorem d_P_write_1 : decode b_P_write 1 = .ok (.iload_n 1, 1) := by decide +kernel
theorem d_P_write_2 : decode b_P_write 2 = .ok (.invokevirtual 97, 3) := by decide +kernel
theorem d_P_write_5 : decode b_P_write 5 = .ok (.ifCond .eq 11, 3) := by decide +kernel
theorem d_P_write_8 : decode b_P_write 8 = .ok (.aload_n 0, 1) := by decide +kernel
theorem d_P_write_9 : decode b_P_write 9 = .ok (.iload_n 2, 1) := by decide +kernel
theorem d_P_write_10 : decode b_P_write 10 = .ok (.invokevirtual 154, 3) := by decide +kernel
theorem d_P_write_13 : decode b_P_write 13 = .ok (.ifCond .ne 6, 3) := by decide +kernel
theorem d_P_write_16 : decode b_P_write 16 = .ok (.bipush (-2), 2) := by decide +kernel
theorem d_P_write_18 : decode b_P_write 18 = .ok (.ireturn, 1) := by decide +kernel
theorem d_P_write_19 : decode b_P_write 19 = .ok (.aload_n 0, 1) := by decide +kernel
theorem d_P_write_20 : decode b_P_write 20 = .ok (.getfield 59, 3) := by decide +kernel
theorem d_P_write_23 : decode b_P_write 23 = .ok (.iload_n 2, 1) := by decide +kernel
theorem d_P_write_24 : decode b_P_write 24 = .ok (.aaload, 1) := by decide +kernel
theorem d_P_write_25 : decode b_P_write 25 = .ok (.astore_n 3, 1) := by decide +kernel
theorem d_P_write_26 : decode b_P_write 26 = .ok (.aload_n 3, 1) := by decide +kernel
theorem d_P_write_27 : decode b_P_write 27 = .ok (.invokevirtual 157, 3) := by decide +kernel
theorem d_P_write_30 : decode b_P_write 30 = .ok (.ifCond .eq 9, 3) := by decide +kernel
theorem d_P_write_33 : decode b_P_write 33 = .ok (.aload_n 0, 1) := by decide +kernel
theorem d_P_write_34 : decode b_P_write 34 = .ok (.iconst 1, 1) := by decide +kernel
theorem d_P_write_35 : decode b_P_write 35 = .ok (.invokevirtual 160, 3) := by decide +kernel
theorem d_P_write_38 : decode b_P_write 38 = .ok (.ireturn, 1) := by decide +kernel
theorem d_P_write_39 : decode b_P_write 39 = .ok (.aload_n 3, 1) := by decide +kernel
theorem d_P_write_40 : decode b_P_write 40 = .ok (.getfield 164, 3) := by decide +kernel
theorem d_P_write_43 : decode b_P_write 43 = .ok (.bipush 30, 2) := by decide +kernel
theorem d_P_write_45 : decode b_P_write 45 = .ok (.invokestatic 305, 3) := by decide +kernel
theorem d_P_write_48 : decode b_P_write 48 = .ok (.istore 4, 2) := by decide +kernel
theorem d_P_write_50 : decode b_P_write 50 = .ok (.aload_n 0, 1) := by decide +kernel
theorem d_P_write_51 : decode b_P_write 51 = .ok (.getfield 41, 3) := by decide +kernel
theorem d_P_write_54 : decode b_P_write 54 = .ok (.invokevirtual 184, 3) := by decide +kernel
theorem d_P_write_57 : decode b_P_write 57 = .ok (.istore 5, 2) := by decide +kernel
theorem d_P_write_59 : decode b_P_write 59 = .ok (.iconst 0, 1) := by decide +kernel
theorem d_P_write_60 : decode b_P_write 60 = .ok (.istore 6, 2) := by decide +kernel
theorem d_P_write_62 : decode b_P_write 62 = .ok (.iload 6, 2) := by decide +kernel
theorem d_P_write_64 : decode b_P_write 64 = .ok (.iload 4, 2) := by decide +kernel
theorem d_P_write_66 : decode b_P_write 66 = .ok (.if_icmp .ge 27, 3) := by decide +kernel
theorem d_P_write_69 : decode b_P_write 69 = .ok (.aload_n 3, 1) := by decide +kernel
theorem d_P_write_70 : decode b_P_write 70 = .ok (.iload 6, 2) := by decide +kernel
theorem d_P_write_72 : decode b_P_write 72 = .ok (.aload_n 0, 1) := by decide +kernel
theorem d_P_write_73 : decode b_P_write 73 = .ok (.getfield 28, 3) := by decide +kernel
theorem d_P_write_76 : decode b_P_write 76 = .ok (.iload 6, 2) := by decide +kernel
theorem d_P_write_78 : decode b_P_write 78 = .ok (.iload_n 1, 1) := by decide +kernel
theorem d_P_write_79 : decode b_P_write 79 = .ok (.iload 5, 2) := by decide +kernel
theorem d_P_write_81 : decode b_P_write 81 = .ok (.invokevirtual 187, 3) := by decide +kernel
theorem d_P_write_84 : decode b_P_write 84 = .ok (.invokevirtual 289, 3) := by decide +kernel
theorem d_P_write_87 : decode b_P_write 87 = .ok (.iinc 6 1, 3) := by decide +kernel
theorem d_P_write_90 : decode b_P_write 90 = .ok (.goto (-28), 3) := by decide +kernel
theorem d_P_write_93 : decode b_P_write 93 = .ok (.iload 4, 2) := by decide +kernel
theorem d_P_write_95 : decode b_P_write 95 = .ok (.ireturn, 1) := by decide +kernel
theorem qm_P_305 : Cond.methodLink nC7 305 Lib.Math.min.name ∈ tbl := tbl_in 826 (by decide +kernel) rfl
def b_P_write_62_ (P : Int32 → Hp → Prop)  (I62 : Hp → Int32 → Nat → Int32 → Int32 → Int32 → Prop) (σ : Hp) (x1 : Int32) (x3 : Nat) (x4 : Int32) (x5 : Int32) (x6 : Int32) : Prop :=
  (isS x3) ∧ ((x4 ≤ x6 → P x4 σ) ∧ (¬ x4 ≤ x6 → wp_D_balanceOf σ x6 x1 x5 (fun (r3 : Int32) (t4 : Hp) => wp_S_store t4 x3 x6 r3 (fun (t6 : Hp) => (∀ v7 : Int32, v7 = x6 + (1 : Int32) → I62 t6 x1 x3 x4 x5 v7)))))
def j_P_write_62 (P : Int32 → Hp → Prop)  (σ : Hp) (x1 : Int32) (x3 : Nat) (x4 : Int32) (x5 : Int32) (x6 : Int32) : Prop := ∀ I62 : Hp → Int32 → Nat → Int32 → Int32 → Int32 → Prop, (∀ (σ : Hp) (x1 : Int32) (x3 : Nat) (x4 : Int32) (x5 : Int32) (x6 : Int32), b_P_write_62_  P  I62 σ x1 x3 x4 x5 x6 → I62 σ x1 x3 x4 x5 x6) → I62 σ x1 x3 x4 x5 x6
def wp_P_write (σ : Hp) (a1 : Int32) (a2 : Int32) (P : Int32 → Hp → Prop) : Prop :=
  wp_P_isHouse σ a1 (fun (r8 : Int32) (t9 : Hp) => ((r8 = 0 → P (-2 : Int32) t9) ∧ (¬ r8 = 0 → wp_P_isSheet t9 a2 (fun (r11 : Int32) (t12 : Hp) => ((¬ r11 = 0 → (vp_in a2 4) ∧ (∀ o15 : Nat, o15 = 10 + ix a2 → (isS o15) ∧ wp_S_isLost t12 o15 (fun (r17 : Int32) (t18 : Hp) => ((r17 = 0 → (∀ v20 : Int32, v20 = (if (30 : Int32) < (t18 o15 2) then (30 : Int32) else (t18 o15 2)) → wp_K_leadingOfAll t18 (fun (r21 : Int32) (t22 : Hp) => j_P_write_62 P t22 a1 o15 v20 r21 (0 : Int32)))) ∧ (¬ r17 = 0 → wp_P_found t18 (1 : Int32) (fun (r23 : Int32) (t24 : Hp) => P r23 t24)))))) ∧ (r11 = 0 → P (-2 : Int32) t12))))))
set_option maxHeartbeats 4000000 in
set_option maxRecDepth 100000 in
theorem wj_P_write_62 {w : Wd} {κ : Kx} {P : Int32 → Hp → Prop} (hC : Cx μC w 7 κ nC7 b_P_write 4) (hR : RtI μC w 7 κ b_P_write .int P)  : ∀ (σ : Hp) (x1 : Int32) (x3 : Nat) (x4 : Int32) (x5 : Int32) (x6 : Int32), j_P_write_62  P  σ x1 x3 x4 x5 x6 → V μC w 7 κ σ [some (.ref (w.1 0)), some (.int x1), none, some (.ref (w.1 x3)), some (.int x4), some (.int x5), some (.int x6)] 62 [] := by
  intro σ x1 x3 x4 x5 x6 h
  refine h (fun σ x1 x3 x4 x5 x6 => V μC w 7 κ σ [some (.ref (w.1 0)), some (.int x1), none, some (.ref (w.1 x3)), some (.int x4), some (.int x5), some (.int x6)] 62 []) (fun σ x1 x3 x4 x5 x6 h => ?_)
  unfold b_P_write_62_ at h
  obtain ⟨m1, h⟩ := h
  refine V.iload hC d_P_write_62 rfl ?_
  refine V.iload hC d_P_write_64 rfl ?_
  refine V.icmp_ge (tgt := 93) hC d_P_write_66 (by decide) (fun c2 => ?_) (fun c2 => ?_)
  · replace h := h.1 c2
    refine V.iload hC d_P_write_93 rfl ?_
    exact hR _ _ _ _ h rfl d_P_write_95
  · replace h := h.2 c2
    refine V.aload_n hC d_P_write_69 rfl rfl ?_
    refine V.iload hC d_P_write_70 rfl ?_
    refine V.aload_n hC d_P_write_72 rfl rfl ?_
    refine V.getR (j := 2) hC d_P_write_73 rfl rfl uC7 rfl rfl qf_P_28 ?_
    refine V.iload hC d_P_write_76 rfl ?_
    refine V.iload_n hC d_P_write_78 rfl rfl ?_
    refine V.iload hC d_P_write_79 rfl ?_
    refine V.callVI hC exC (w_D_balanceOf w σ x6 x1 x5 _ h) d_P_write_81 mo_D_balanceOf qm_P_187 rfl rfl rfl rfl rfl rfl rfl (Nat.le_of_ble_eq_true rfl) (fun r3 t4 h => ?_)
    refine V.callVN hC exC (w_S_store w t4 x3 x6 r3 _ h) d_P_write_84 mo_S_store qm_P_289 (shS m1) rfl rfl rfl rfl rfl rfl (Nat.le_of_ble_eq_true rfl) (fun t6 h => ?_)
    obtain ⟨v7, ev7⟩ : ∃ y : Int32, y = x6 + (1 : Int32) := ⟨_, rfl⟩
    replace h := h v7 ev7
    refine V.iinc (y := v7) (lo' := [some (.ref (w.1 0)), some (.int x1), none, some (.ref (w.1 x3)), some (.int x4), some (.int x5), some (.int v7)]) hC d_P_write_87 rfl rfl (show v7 = _ + Int32.ofInt (1) from ev7) rfl ?_
    refine V.goto (tgt := 62) hC d_P_write_90 (by decide) ?_
    exact V.msk [true, true, false, true, true, true, true] rfl h
set_option maxHeartbeats 4000000 in
set_option maxRecDepth 100000 in
theorem w_P_write (w : Wd) (σ : Hp) (a1 : Int32) (a2 : Int32) (P : Int32 → Hp → Prop) (h : wp_P_write σ a1 a2 P) : CtI μC w y_P_write b_P_write 7 (some .int) 4 [.ref (w.1 0), .int a1, .int a2] σ P := by
  unfold wp_P_write at h
  refine CtI.ofV (C := nC7) (lo := [some (.ref (w.1 0)), some (.int a1), some (.int a2), none, none, none, none]) exC (by decide +kernel) rfl rfl rfl (fun κ hC hR => ?_)
  refine V.aload_n hC d_P_write_0 rfl rfl ?_
  refine V.iload_n hC d_P_write_1 rfl rfl ?_
  refine V.callVI hC exC (w_P_isHouse w σ a1 _ h) d_P_write_2 mo_P_isHouse qm_P_97 rfl rfl rfl rfl rfl rfl rfl (Nat.le_of_ble_eq_true rfl) (fun r8 t9 h => ?_)
  refine V.if_eq (tgt := 16) hC d_P_write_5 (by decide) (fun c10 => ?_) (fun c10 => ?_)
  · replace h := h.1 c10
    refine V.bipush (v := -2) hC d_P_write_16 (by decide) ?_
    exact hR _ _ _ _ h rfl d_P_write_18
  · replace h := h.2 c10
    refine V.aload_n hC d_P_write_8 rfl rfl ?_
    refine V.iload_n hC d_P_write_9 rfl rfl ?_
    refine V.callVI hC exC (w_P_isSheet w t9 a2 _ h) d_P_write_10 mo_P_isSheet qm_P_154 rfl rfl rfl rfl rfl rfl rfl (Nat.le_of_ble_eq_true rfl) (fun r11 t12 h => ?_)
    refine V.if_ne (tgt := 19) hC d_P_write_13 (by decide) (fun c13 => ?_) (fun c13 => ?_)
    · replace h := h.1 c13
      refine V.aload_n hC d_P_write_19 rfl rfl ?_
      refine V.getR (j := 7) hC d_P_write_20 rfl rfl uC7 rfl rfl qf_P_59 ?_
      refine V.iload_n hC d_P_write_23 rfl rfl ?_
      obtain ⟨b14, h⟩ := h
      obtain ⟨o15, eo15⟩ : ∃ y : Nat, y = 10 + ix a2 := ⟨_, rfl⟩
      replace h := h o15 eo15
      obtain ⟨m16, h⟩ := h
      refine V.qald (b := 10) hC d_P_write_24 rfl b14 ?_
      rw [show 10 + Int32.toNatClampNeg a2 = o15 from eo15.symm]
      refine V.astore_n (lo' := [some (.ref (w.1 0)), some (.int a1), some (.int a2), some (.ref (w.1 o15)), none, none, none]) hC d_P_write_25 rfl rfl rfl ?_
      refine V.aload_n hC d_P_write_26 rfl rfl ?_
      refine V.callVI hC exC (w_S_isLost w t12 o15 _ h) d_P_write_27 mo_S_isLost qm_P_157 (shS m16) rfl rfl rfl rfl rfl rfl (Nat.le_of_ble_eq_true rfl) (fun r17 t18 h => ?_)
      refine V.if_eq (tgt := 39) hC d_P_write_30 (by decide) (fun c19 => ?_) (fun c19 => ?_)
      · replace h := h.1 c19
        refine V.aload_n hC d_P_write_39 rfl rfl ?_
        refine V.getI (j := 2) hC d_P_write_40 (shS m16) rfl uC4 rfl rfl qf_P_164 ?_
        refine V.bipush (v := 30) hC d_P_write_43 (by decide) ?_
        refine V.mmin hC d_P_write_45 qm_P_305 qmin_s qmath_i qmin_c rfl rfl ?_
        obtain ⟨v20, ev20⟩ : ∃ y : Int32, y = if (30 : Int32) < (t18 o15 2) then (30 : Int32) else (t18 o15 2) := ⟨_, rfl⟩
        replace h := h v20 ev20
        refine V.istore (y := v20) (lo' := [some (.ref (w.1 0)), some (.int a1), some (.int a2), some (.ref (w.1 o15)), some (.int v20), none, none]) hC d_P_write_48 rfl ev20 rfl ?_
        refine V.aload_n hC d_P_write_50 rfl rfl ?_
        refine V.getR (j := 4) hC d_P_write_51 rfl rfl uC7 rfl rfl qf_P_41 ?_
        refine V.callVI hC exC (w_K_leadingOfAll w t18  _ h) d_P_write_54 mo_K_leadingOfAll qm_P_184 rfl rfl rfl rfl rfl rfl rfl (Nat.le_of_ble_eq_true rfl) (fun r21 t22 h => ?_)
        refine V.istore (y := r21) (lo' := [some (.ref (w.1 0)), some (.int a1), some (.int a2), some (.ref (w.1 o15)), some (.int v20), some (.int r21), none]) hC d_P_write_57 rfl rfl rfl ?_
        refine V.iconst (v := 0) hC d_P_write_59 (by decide) ?_
        refine V.istore (y := (0 : Int32)) (lo' := [some (.ref (w.1 0)), some (.int a1), some (.int a2), some (.ref (w.1 o15)), some (.int v20), some (.int r21), some (.int (0 : Int32))]) hC d_P_write_60 rfl rfl rfl ?_
        exact V.msk [true, true, false, true, true, true, true] rfl (wj_P_write_62  hC hR  t22 a1 o15 v20 r21 (0 : Int32) h)
      · replace h := h.2 c19
        refine V.aload_n hC d_P_write_33 rfl rfl ?_
        refine V.iconst (v := 1) hC d_P_write_34 (by decide) ?_
        refine V.callVI hC exC (w_P_found w t18 (1 : Int32) _ h) d_P_write_35 mo_P_found qm_P_160 rfl rfl rfl rfl rfl rfl rfl (Nat.le_of_ble_eq_true rfl) (fun r23 t24 h => ?_)
        exact hR _ _ _ _ h rfl d_P_write_38
    · replace h := h.2 c13
      refine V.bipush (v := -2) hC d_P_write_16 (by decide) ?_
      exact hR _ _ _ _ h rfl d_P_write_18
abbrev b_U_allThick : ByteArray := prog_7_method_4_code
def y_U_allThick : MethodName := ⟨nC5, "allThick", "()I"⟩
theorem d_U_allThick_0 : decode b_U_allThick 0 = .ok (.iconst 0, 1) := by decide +kernel
theorem d_U_allThick_1 : decode b_U_allThick 1 = .ok (.istore_n 1, 1) := by decide +kernel
theorem d_U_allThick_2 : decode b_U_allThick 2 = .ok (.iconst 0, 1) := by decide +kernel
theorem d_U_allThick_3 : decode b_U_allThick 3 = .ok (.istore_n 2, 1) := by decide +kernel
theorem d_U_allThick_4 : decode b_U_allThick 4 = .ok (.iload_n 2, 1) := by decide +kernel
theorem d_U_allThick_5 : decode b_U_allThick 5 = .ok (.bipush 7, 2) := by decide +kernel
theorem d_U_allThick_7 : decode b_U_allThick 7 = .ok (.if_icmp .ge 18, 3) := by decide +kernel
theorem d_U_allThick_10 : decode b_U_allThick 10 = .ok (.iload_n 1, 1) := by decide +kernel
theorem d_U_allThick_11 : decode b_U_allThick 11 = .ok (.aload_n 0, 1) := by decide +kernel
theorem d_U_allThick_12 : decode b_U_allThick 12 = .ok (.getfield 27, 3) := by decide +kernel
theorem d_U_allThick_15 : decode b_U_allThick 15 = .ok (.iload_n 2, 1) := by decide +kernel
theorem d_U_allThick_16 : decode b_U_allThick 16 = .ok (.iaload, 1) := by decide +kernel
theorem d_U_allThick_17 : decode b_U_allThick 17 = .ok (.iadd, 1) := by decide +kernel
theorem d_U_allThick_18 : decode b_U_allThick 18 = .ok (.istore_n 1, 1) := by decide +kernel
theorem d_U_allThick_19 : decode b_U_allThick 19 = .ok (.iinc 2 1, 3) := by decide +kernel
theorem d_U_allThick_22 : decode b_U_allThick 22 = .ok (.goto (-18), 3) := by decide +kernel
theorem d_U_allThick_25 : decode b_U_allThick 25 = .ok (.iload_n 1, 1) := by decide +kernel
theorem d_U_allThick_26 : decode b_U_allThick 26 = .ok (.ireturn, 1) := by decide +kernel
theorem mo_U_allThick : MokV y_U_allThick b_U_allThick 3 (some .int) 0 := ⟨⟨(tbl_in 834 (by decide +kernel) rfl), (tbl_in 65 (by decide +kernel) rfl)⟩, ⟨(tbl_in 832 (by decide +kernel) rfl), tbl_lw _ (tbl_in 833 (by decide +kernel) rfl), (tbl_in 833 (by decide +kernel) rfl)⟩, ⟨by decide +kernel, by decide +kernel⟩, by decide +kernel⟩
def b_U_allThick_4_ (P : Int32 → Hp → Prop)  (I4 : Hp → Int32 → Int32 → Prop) (σ : Hp) (x1 : Int32) (x2 : Int32) : Prop :=
  (((7 : Int32) ≤ x2 → P x1 σ) ∧ (¬ (7 : Int32) ≤ x2 → (vp_in x2 7) ∧ (∀ v3 : Int32, v3 = x1 + (σ 26 (ix x2)) → (∀ v4 : Int32, v4 = x2 + (1 : Int32) → I4 σ v3 v4))))
def j_U_allThick_4 (P : Int32 → Hp → Prop)  (σ : Hp) (x1 : Int32) (x2 : Int32) : Prop := ∀ I4 : Hp → Int32 → Int32 → Prop, (∀ (σ : Hp) (x1 : Int32) (x2 : Int32), b_U_allThick_4_  P  I4 σ x1 x2 → I4 σ x1 x2) → I4 σ x1 x2
def wp_U_allThick (σ : Hp)  (P : Int32 → Hp → Prop) : Prop :=
  j_U_allThick_4 P σ (0 : Int32) (0 : Int32)
set_option maxHeartbeats 4000000 in
set_option maxRecDepth 100000 in
theorem wj_U_allThick_4 {w : Wd} {κ : Kx} {P : Int32 → Hp → Prop} (hC : Cx μC w 3 κ nC5 b_U_allThick 0) (hR : RtI μC w 3 κ b_U_allThick .int P)  : ∀ (σ : Hp) (x1 : Int32) (x2 : Int32), j_U_allThick_4  P  σ x1 x2 → V μC w 3 κ σ [some (.ref (w.1 4)), some (.int x1), some (.int x2)] 4 [] := by
  intro σ x1 x2 h
  refine h (fun σ x1 x2 => V μC w 3 κ σ [some (.ref (w.1 4)), some (.int x1), some (.int x2)] 4 []) (fun σ x1 x2 h => ?_)
  unfold b_U_allThick_4_ at h
  refine V.iload_n hC d_U_allThick_4 rfl rfl ?_
  refine V.bipush (v := 7) hC d_U_allThick_5 (by decide) ?_
  refine V.icmp_ge (tgt := 25) hC d_U_allThick_7 (by decide) (fun c1 => ?_) (fun c1 => ?_)
  · replace h := h.1 c1
    refine V.iload_n hC d_U_allThick_25 rfl rfl ?_
    exact hR _ _ _ _ h rfl d_U_allThick_26
  · replace h := h.2 c1
    refine V.iload_n hC d_U_allThick_10 rfl rfl ?_
    refine V.aload_n hC d_U_allThick_11 rfl rfl ?_
    refine V.getR (j := 5) hC d_U_allThick_12 rfl rfl uC5 rfl rfl qf_U_27 ?_
    refine V.iload_n hC d_U_allThick_15 rfl rfl ?_
    obtain ⟨b2, h⟩ := h
    refine V.iald hC d_U_allThick_16 rfl b2 ?_
    refine V.iadd hC d_U_allThick_17 ?_
    obtain ⟨v3, ev3⟩ : ∃ y : Int32, y = x1 + (σ 26 (ix x2)) := ⟨_, rfl⟩
    replace h := h v3 ev3
    refine V.istore_n (y := v3) (lo' := [some (.ref (w.1 4)), some (.int v3), some (.int x2)]) hC d_U_allThick_18 rfl rfl ev3 rfl ?_
    obtain ⟨v4, ev4⟩ : ∃ y : Int32, y = x2 + (1 : Int32) := ⟨_, rfl⟩
    replace h := h v4 ev4
    refine V.iinc (y := v4) (lo' := [some (.ref (w.1 4)), some (.int v3), some (.int v4)]) hC d_U_allThick_19 rfl rfl (show v4 = _ + Int32.ofInt (1) from ev4) rfl ?_
    refine V.goto (tgt := 4) hC d_U_allThick_22 (by decide) ?_
    exact V.msk [true, true, true] rfl h
set_option maxHeartbeats 4000000 in
set_option maxRecDepth 100000 in
theorem w_U_allThick (w : Wd) (σ : Hp)  (P : Int32 → Hp → Prop) (h : wp_U_allThick σ  P) : CtI μC w y_U_allThick b_U_allThick 3 (some .int) 0 [.ref (w.1 4)] σ P := by
  unfold wp_U_allThick at h
  refine CtI.ofV (C := nC5) (lo := [some (.ref (w.1 4)), none, none]) exC (by decide +kernel) rfl rfl rfl (fun κ hC hR => ?_)
  refine V.iconst (v := 0) hC d_U_allThick_0 (by decide) ?_
  refine V.istore_n (y := (0 : Int32)) (lo' := [some (.ref (w.1 4)), some (.int (0 : Int32)), none]) hC d_U_allThick_1 rfl rfl rfl rfl ?_
  refine V.iconst (v := 0) hC d_U_allThick_2 (by decide) ?_
  refine V.istore_n (y := (0 : Int32)) (lo' := [some (.ref (w.1 4)), some (.int (0 : Int32)), some (.int (0 : Int32))]) hC d_U_allThick_3 rfl rfl rfl rfl ?_
  exact V.msk [true, true, true] rfl (wj_U_allThick_4  hC hR  σ (0 : Int32) (0 : Int32) h)
abbrev b_P_count : ByteArray := prog_1_method_39_code
def y_P_count : MethodName := ⟨nC7, "count", "(I)I"⟩
theorem d_P_count_0 : decode b_P_count 0 = .ok (.iload_n 1, 1) := by decide +kernel
theorem d_P_count_1 : decode b_P_count 1 = .ok (.tableswitch 120 0 8 #[51, 59, 67, 75, 83, 91, 99, 107, 115], 51) := by decide +kernel
theorem d_P_count_52 : decode b_P_count 52 = .ok (.aload_n 0, 1) := by decide +kernel
theorem d_P_count_53 : decode b_P_count 53 = .ok (.getfield 36, 3) := by decide +kernel
theorem d_P_count_56 : decode b_P_count 56 = .ok (.getfield 196, 3) := by decide +kernel
theorem d_P_count_59 : decode b_P_count 59 = .ok (.ireturn, 1) := by decide +kernel
theorem d_P_count_60 : decode b_P_count 60 = .ok (.aload_n 0, 1) := by decide +kernel
theorem d_P_count_61 : decode b_P_count 61 = .ok (.getfield 36, 3) := by decide +kernel
theorem d_P_count_64 : decode b_P_count 64 = .ok (.getfield 308, 3) := by decide +kernel
theorem d_P_count_67 : decode b_P_count 67 = .ok (.ireturn, 1) := by decide +kernel
theorem d_P_count_68 : decode b_P_count 68 = .ok (.aload_n 0, 1) := by decide +kernel
theorem d_P_count_69 : decode b_P_count 69 = .ok (.getfield 16, 3) := by decide +kernel
theorem d_P_count_72 : decode b_P_count 72 = .ok (.getfield 90, 3) := by decide +kernel
theorem d_P_count_75 : decode b_P_count 75 = .ok (.ireturn, 1) := by decide +kernel
theorem d_P_count_76 : decode b_P_count 76 = .ok (.aload_n 0, 1) := by decide +kernel
theorem d_P_count_77 : decode b_P_count 77 = .ok (.getfield 22, 3) := by decide +kernel
theorem d_P_count_80 : decode b_P_count 80 = .ok (.getfield 90, 3) := by decide +kernel
theorem d_P_count_83 : decode b_P_count 83 = .ok (.ireturn, 1) := by decide +kernel
theorem d_P_count_84 : decode b_P_count 84 = .ok (.aload_n 0, 1) := by decide +kernel
theorem d_P_count_85 : decode b_P_count 85 = .ok (.getfield 41, 3) := by decide +kernel
theorem d_P_count_88 : decode b_P_count 88 = .ok (.getfield 132, 3) := by decide +kernel
theorem d_P_count_91 : decode b_P_count 91 = .ok (.ireturn, 1) := by decide +kernel
theorem d_P_count_92 : decode b_P_count 92 = .ok (.aload_n 0, 1) := by decide +kernel
theorem d_P_count_93 : decode b_P_count 93 = .ok (.getfield 41, 3) := by decide +kernel
theorem d_P_count_96 : decode b_P_count 96 = .ok (.getfield 141, 3) := by decide +kernel
theorem d_P_count_99 : decode b_P_count 99 = .ok (.ireturn, 1) := by decide +kernel
theorem d_P_count_100 : decode b_P_count 100 = .ok (.aload_n 0, 1) := by decide +kernel
theorem d_P_count_101 : decode b_P_count 101 = .ok (.getfield 36, 3) := by decide +kernel
theorem d_P_count_104 : decode b_P_count 104 = .ok (.invokevirtual 311, 3) := by decide +kernel
theorem d_P_count_107 : decode b_P_count 107 = .ok (.ireturn, 1) := by decide +kernel
theorem d_P_count_108 : decode b_P_count 108 = .ok (.aload_n 0, 1) := by decide +kernel
theorem d_P_count_109 : decode b_P_count 109 = .ok (.getfield 45, 3) := by decide +kernel
theorem d_P_count_112 : decode b_P_count 112 = .ok (.getfield 230, 3) := by decide +kernel
theorem d_P_count_115 : decode b_P_count 115 = .ok (.ireturn, 1) := by decide +kernel
theorem d_P_count_116 : decode b_P_count 116 = .ok (.aload_n 0, 1) := by decide +kernel
theorem d_P_count_117 : decode b_P_count 117 = .ok (.getfield 67, 3) := by decide +kernel
theorem d_P_count_120 : decode b_P_count 120 = .ok (.ireturn, 1) := by decide +kernel
theorem d_P_count_121 : decode b_P_count 121 = .ok (.bipush (-2), 2) := by decide +kernel
theorem d_P_count_123 : decode b_P_count 123 = .ok (.ireturn, 1) := by decide +kernel
theorem qf_P_308 : Cond.fieldLink nC7 308 (fC5 7).1 (fC5 7).2.1 (fC5 7).2.2.1 ∈ tbl := tbl_in 142 (by decide +kernel) rfl
theorem qm_P_311 : Cond.methodLink nC7 311 y_U_allThick ∈ tbl := tbl_in 831 (by decide +kernel) rfl
theorem mo_P_count : MokV y_P_count b_P_count 2 (some .int) 1 := ⟨⟨(tbl_in 830 (by decide +kernel) rfl), (tbl_in 62 (by decide +kernel) rfl)⟩, ⟨(tbl_in 828 (by decide +kernel) rfl), tbl_lw _ (tbl_in 829 (by decide +kernel) rfl), (tbl_in 829 (by decide +kernel) rfl)⟩, ⟨by decide +kernel, by decide +kernel⟩, by decide +kernel⟩
def wp_P_count (σ : Hp) (a1 : Int32) (P : Int32 → Hp → Prop) : Prop :=
  (((a1.toInt < 0 ∨ (8 : Int) < a1.toInt) → P (-2 : Int32) σ) ∧ (a1 = 0 → P (σ 4 6) σ) ∧ (a1 = 1 → P (σ 4 7) σ) ∧ (a1 = 2 → P (σ 1 3) σ) ∧ (a1 = 3 → P (σ 2 3) σ) ∧ (a1 = 4 → P (σ 5 6) σ) ∧ (a1 = 5 → P (σ 5 7) σ) ∧ (a1 = 6 → wp_U_allThick σ (fun (r2 : Int32) (t3 : Hp) => P r2 t3)) ∧ (a1 = 7 → P (σ 6 3) σ) ∧ (a1 = 8 → P (σ 0 9) σ))
set_option maxHeartbeats 4000000 in
set_option maxRecDepth 100000 in
theorem w_P_count (w : Wd) (σ : Hp) (a1 : Int32) (P : Int32 → Hp → Prop) (h : wp_P_count σ a1 P) : CtI μC w y_P_count b_P_count 2 (some .int) 1 [.ref (w.1 0), .int a1] σ P := by
  unfold wp_P_count at h
  refine CtI.ofV (C := nC7) (lo := [some (.ref (w.1 0)), some (.int a1)]) exC (by decide +kernel) rfl rfl rfl (fun κ hC hR => ?_)
  refine V.iload_n hC d_P_count_0 rfl rfl ?_
  rcases sw_cases a1 8 with c1 | ⟨k9, hk9, c1⟩
  · refine V.tabOut (tgt := 121) hC d_P_count_1 c1 (by decide) ?_
    replace h := h.1 c1
    refine V.bipush (v := -2) hC d_P_count_121 (by decide) ?_
    exact hR _ _ _ _ h rfl d_P_count_123
  · rcases (show k9 = 0 ∨ k9 = 1 ∨ k9 = 2 ∨ k9 = 3 ∨ k9 = 4 ∨ k9 = 5 ∨ k9 = 6 ∨ k9 = 7 ∨ k9 = 8 by omega) with rfl | rfl | rfl | rfl | rfl | rfl | rfl | rfl | rfl
    · refine V.tabIn (tgt := 52) hC d_P_count_1 (by rw [c1]; decide) (by rw [c1]; decide) (by rw [c1]; rfl) (by decide) ?_
      replace h := h.2.1 c1
      refine V.aload_n hC d_P_count_52 rfl rfl ?_
      refine V.getR (j := 3) hC d_P_count_53 rfl rfl uC7 rfl rfl qf_P_36 ?_
      refine V.getI (j := 6) hC d_P_count_56 rfl rfl uC5 rfl rfl qf_P_196 ?_
      exact hR _ _ _ _ h rfl d_P_count_59
    · refine V.tabIn (tgt := 60) hC d_P_count_1 (by rw [c1]; decide) (by rw [c1]; decide) (by rw [c1]; rfl) (by decide) ?_
      replace h := h.2.2.1 c1
      refine V.aload_n hC d_P_count_60 rfl rfl ?_
      refine V.getR (j := 3) hC d_P_count_61 rfl rfl uC7 rfl rfl qf_P_36 ?_
      refine V.getI (j := 7) hC d_P_count_64 rfl rfl uC5 rfl rfl qf_P_308 ?_
      exact hR _ _ _ _ h rfl d_P_count_67
    · refine V.tabIn (tgt := 68) hC d_P_count_1 (by rw [c1]; decide) (by rw [c1]; decide) (by rw [c1]; rfl) (by decide) ?_
      replace h := h.2.2.2.1 c1
      refine V.aload_n hC d_P_count_68 rfl rfl ?_
      refine V.getR (j := 0) hC d_P_count_69 rfl rfl uC7 rfl rfl qf_P_16 ?_
      refine V.getI (j := 3) hC d_P_count_72 rfl rfl uC6 rfl rfl qf_P_90 ?_
      exact hR _ _ _ _ h rfl d_P_count_75
    · refine V.tabIn (tgt := 76) hC d_P_count_1 (by rw [c1]; decide) (by rw [c1]; decide) (by rw [c1]; rfl) (by decide) ?_
      replace h := h.2.2.2.2.1 c1
      refine V.aload_n hC d_P_count_76 rfl rfl ?_
      refine V.getR (j := 1) hC d_P_count_77 rfl rfl uC7 rfl rfl qf_P_22 ?_
      refine V.getI (j := 3) hC d_P_count_80 rfl rfl uC6 rfl rfl qf_P_90 ?_
      exact hR _ _ _ _ h rfl d_P_count_83
    · refine V.tabIn (tgt := 84) hC d_P_count_1 (by rw [c1]; decide) (by rw [c1]; decide) (by rw [c1]; rfl) (by decide) ?_
      replace h := h.2.2.2.2.2.1 c1
      refine V.aload_n hC d_P_count_84 rfl rfl ?_
      refine V.getR (j := 4) hC d_P_count_85 rfl rfl uC7 rfl rfl qf_P_41 ?_
      refine V.getI (j := 6) hC d_P_count_88 rfl rfl uC2 rfl rfl qf_P_132 ?_
      exact hR _ _ _ _ h rfl d_P_count_91
    · refine V.tabIn (tgt := 92) hC d_P_count_1 (by rw [c1]; decide) (by rw [c1]; decide) (by rw [c1]; rfl) (by decide) ?_
      replace h := h.2.2.2.2.2.2.1 c1
      refine V.aload_n hC d_P_count_92 rfl rfl ?_
      refine V.getR (j := 4) hC d_P_count_93 rfl rfl uC7 rfl rfl qf_P_41 ?_
      refine V.getI (j := 7) hC d_P_count_96 rfl rfl uC2 rfl rfl qf_P_141 ?_
      exact hR _ _ _ _ h rfl d_P_count_99
    · refine V.tabIn (tgt := 100) hC d_P_count_1 (by rw [c1]; decide) (by rw [c1]; decide) (by rw [c1]; rfl) (by decide) ?_
      replace h := h.2.2.2.2.2.2.2.1 c1
      refine V.aload_n hC d_P_count_100 rfl rfl ?_
      refine V.getR (j := 3) hC d_P_count_101 rfl rfl uC7 rfl rfl qf_P_36 ?_
      refine V.callVI hC exC (w_U_allThick w σ  _ h) d_P_count_104 mo_U_allThick qm_P_311 rfl rfl rfl rfl rfl rfl rfl (Nat.le_of_ble_eq_true rfl) (fun r2 t3 h => ?_)
      exact hR _ _ _ _ h rfl d_P_count_107
    · refine V.tabIn (tgt := 108) hC d_P_count_1 (by rw [c1]; decide) (by rw [c1]; decide) (by rw [c1]; rfl) (by decide) ?_
      replace h := h.2.2.2.2.2.2.2.2.1 c1
      refine V.aload_n hC d_P_count_108 rfl rfl ?_
      refine V.getR (j := 5) hC d_P_count_109 rfl rfl uC7 rfl rfl qf_P_45 ?_
      refine V.getI (j := 3) hC d_P_count_112 rfl rfl uC3 rfl rfl qf_P_230 ?_
      exact hR _ _ _ _ h rfl d_P_count_115
    · refine V.tabIn (tgt := 116) hC d_P_count_1 (by rw [c1]; decide) (by rw [c1]; decide) (by rw [c1]; rfl) (by decide) ?_
      replace h := h.2.2.2.2.2.2.2.2.2 c1
      refine V.aload_n hC d_P_count_116 rfl rfl ?_
      refine V.getI (j := 9) hC d_P_count_117 rfl rfl uC7 rfl rfl qf_P_67 ?_
      exact hR _ _ _ _ h rfl d_P_count_120
abbrev b_P_digest : ByteArray := prog_1_method_40_code
def y_P_digest : MethodName := ⟨nC7, "digest", "()J"⟩
theorem d_P_digest_0 : decode b_P_digest 0 = .ok (.ldc2_w 314, 3) := by decide +kernel
theorem d_P_digest_3 : decode b_P_digest 3 = .ok (.lstore_n 1, 1) := by decide +kernel
theorem d_P_digest_4 : decode b_P_digest 4 = .ok (.iconst 0, 1) := by decide +kernel
theorem d_P_digest_5 : decode b_P_digest 5 = .ok (.istore_n 3, 1) := by decide +kernel
theorem d_P_digest_6 : decode b_P_digest 6 = .ok (.iload_n 3, 1) := by decide +kernel
theorem d_P_digest_7 : decode b_P_digest 7 = .ok (.bipush 7, 2) := by decide +kernel
theorem d_P_digest_9 : decode b_P_digest 9 = .ok (.if_icmp .gt 22, 3) := by decide +kernel
theorem d_P_digest_12 : decode b_P_digest 12 = .ok (.ldc2_w 316, 3) := by decide +kernel
theorem d_P_digest_15 : decode b_P_digest 15 = .ok (.lload_n 1, 1) := by decide +kernel
theorem d_P_digest_16 : decode b_P_digest 16 = .ok (.lmul, 1) := by decide +kernel
theorem d_P_digest_17 : decode b_P_digest 17 = .ok (.aload_n 0, 1) := by decide +kernel
theorem d_P_digest_18 : decode b_P_digest 18 = .ok (.iload_n 3, 1) := by decide +kernel
theorem d_P_digest_19 : decode b_P_digest 19 = .ok (.invokevirtual 318, 3) := by decide +kernel
theorem d_P_digest_22 : decode b_P_digest 22 = .ok (.i2l, 1) := by decide +kernel
theorem d_P_digest_23 : decode b_P_digest 23 = .ok (.ladd, 1) := by decide +kernel
theorem d_P_digest_24 : decode b_P_digest 24 = .ok (.lstore_n 1, 1) := by decide +kernel
theorem d_P_digest_25 : decode b_P_digest 25 = .ok (.iinc 3 1, 3) := by decide +kernel
theorem d_P_digest_28 : decode b_P_digest 28 = .ok (.goto (-22), 3) := by decide +kernel
theorem d_P_digest_31 : decode b_P_digest 31 = .ok (.iconst 0, 1) := by decide +kernel
theorem d_P_digest_32 : decode b_P_digest 32 = .ok (.istore_n 3, 1) := by decide +kernel
theorem d_P_digest_33 : decode b_P_digest 33 = .ok (.iload_n 3, 1) := by decide +kernel
theorem d_P_digest_34 : decode b_P_digest 34 = .ok (.iconst 1, 1) := by decide +kernel
theorem d_P_digest_35 : decode b_P_digest 35 = .ok (.if_icmp .gt 22, 3) := by decide +kernel
theorem d_P_digest_38 : decode b_P_digest 38 = .ok (.ldc2_w 316, 3) := by decide +kernel
theorem d_P_digest_41 : decode b_P_digest 41 = .ok (.lload_n 1, 1) := by decide +kernel
theorem d_P_digest_42 : decode b_P_digest 42 = .ok (.lmul, 1) := by decide +kernel
theorem d_P_digest_43 : decode b_P_digest 43 = .ok (.aload_n 0, 1) := by decide +kernel
theorem d_P_digest_44 : decode b_P_digest 44 = .ok (.iload_n 3, 1) := by decide +kernel
theorem d_P_digest_45 : decode b_P_digest 45 = .ok (.invokevirtual 321, 3) := by decide +kernel
theorem d_P_digest_48 : decode b_P_digest 48 = .ok (.i2l, 1) := by decide +kernel
theorem d_P_digest_49 : decode b_P_digest 49 = .ok (.ladd, 1) := by decide +kernel
theorem d_P_digest_50 : decode b_P_digest 50 = .ok (.lstore_n 1, 1) := by decide +kernel
theorem d_P_digest_51 : decode b_P_digest 51 = .ok (.iinc 3 1, 3) := by decide +kernel
theorem d_P_digest_54 : decode b_P_digest 54 = .ok (.goto (-21), 3) := by decide +kernel
theorem d_P_digest_57 : decode b_P_digest 57 = .ok (.iconst 0, 1) := by decide +kernel
theorem d_P_digest_58 : decode b_P_digest 58 = .ok (.istore_n 3, 1) := by decide +kernel
theorem d_P_digest_59 : decode b_P_digest 59 = .ok (.iload_n 3, 1) := by decide +kernel
theorem d_P_digest_60 : decode b_P_digest 60 = .ok (.aload_n 0, 1) := by decide +kernel
theorem d_P_digest_61 : decode b_P_digest 61 = .ok (.getfield 36, 3) := by decide +kernel
theorem d_P_digest_64 : decode b_P_digest 64 = .ok (.getfield 196, 3) := by decide +kernel
theorem d_P_digest_67 : decode b_P_digest 67 = .ok (.if_icmp .ge 206, 3) := by decide +kernel
theorem d_P_digest_70 : decode b_P_digest 70 = .ok (.iconst 0, 1) := by decide +kernel
theorem d_P_digest_71 : decode b_P_digest 71 = .ok (.istore 4, 2) := by decide +kernel
theorem d_P_digest_73 : decode b_P_digest 73 = .ok (.iload 4, 2) := by decide +kernel
theorem d_P_digest_75 : decode b_P_digest 75 = .ok (.iconst 3, 1) := by decide +kernel
theorem d_P_digest_76 : decode b_P_digest 76 = .ok (.if_icmp .gt 24, 3) := by decide +kernel
theorem d_P_digest_79 : decode b_P_digest 79 = .ok (.ldc2_w 316, 3) := by decide +kernel
theorem d_P_digest_82 : decode b_P_digest 82 = .ok (.lload_n 1, 1) := by decide +kernel
theorem d_P_digest_83 : decode b_P_digest 83 = .ok (.lmul, 1) := by decide +kernel
theorem d_P_digest_84 : decode b_P_digest 84 = .ok (.aload_n 0, 1) := by decide +kernel
theorem d_P_digest_85 : decode b_P_digest 85 = .ok (.iload_n 3, 1) := by decide +kernel
theorem d_P_digest_86 : decode b_P_digest 86 = .ok (.iload 4, 2) := by decide +kernel
theorem d_P_digest_88 : decode b_P_digest 88 = .ok (.invokevirtual 324, 3) := by decide +kernel
theorem d_P_digest_91 : decode b_P_digest 91 = .ok (.i2l, 1) := by decide +kernel
theorem d_P_digest_92 : decode b_P_digest 92 = .ok (.ladd, 1) := by decide +kernel
theorem d_P_digest_93 : decode b_P_digest 93 = .ok (.lstore_n 1, 1) := by decide +kernel
theorem d_P_digest_94 : decode b_P_digest 94 = .ok (.iinc 4 1, 3) := by decide +kernel
theorem d_P_digest_97 : decode b_P_digest 97 = .ok (.goto (-24), 3) := by decide +kernel
theorem d_P_digest_100 : decode b_P_digest 100 = .ok (.ldc2_w 316, 3) := by decide +kernel
theorem d_P_digest_103 : decode b_P_digest 103 = .ok (.lload_n 1, 1) := by decide +kernel
theorem d_P_digest_104 : decode b_P_digest 104 = .ok (.lmul, 1) := by decide +kernel
theorem d_P_digest_105 : decode b_P_digest 105 = .ok (.aload_n 0, 1) := by decide +kernel
theorem d_P_digest_106 : decode b_P_digest 106 = .ok (.iconst 0, 1) := by decide +kernel
theorem d_P_digest_107 : decode b_P_digest 107 = .ok (.iload_n 3, 1) := by decide +kernel
theorem d_P_digest_108 : decode b_P_digest 108 = .ok (.invokevirtual 327, 3) := by decide +kernel
theorem d_P_digest_111 : decode b_P_digest 111 = .ok (.i2l, 1) := by decide +kernel
theorem d_P_digest_112 : decode b_P_digest 112 = .ok (.ladd, 1) := by decide +kernel
theorem d_P_digest_113 : decode b_P_digest 113 = .ok (.lstore_n 1, 1) := by decide +kernel
theorem d_P_digest_114 : decode b_P_digest 114 = .ok (.ldc2_w 316, 3) := by decide +kernel
theorem d_P_digest_117 : decode b_P_digest 117 = .ok (.lload_n 1, 1) := by decide +kernel
theorem d_P_digest_118 : decode b_P_digest 118 = .ok (.lmul, 1) := by decide +kernel
theorem d_P_digest_119 : decode b_P_digest 119 = .ok (.aload_n 0, 1) := by decide +kernel
theorem d_P_digest_120 : decode b_P_digest 120 = .ok (.bipush 9, 2) := by decide +kernel
theorem d_P_digest_122 : decode b_P_digest 122 = .ok (.iconst 0, 1) := by decide +kernel
theorem d_P_digest_123 : decode b_P_digest 123 = .ok (.iload_n 3, 1) := by decide +kernel
theorem d_P_digest_124 : decode b_P_digest 124 = .ok (.invokevirtual 330, 3) := by decide +kernel
theorem d_P_digest_127 : decode b_P_digest 127 = .ok (.i2l, 1) := by decide +kernel
theorem d_P_digest_128 : decode b_P_digest 128 = .ok (.ladd, 1) := by decide +kernel
theorem d_P_digest_129 : decode b_P_digest 129 = .ok (.lstore_n 1, 1) := by decide +kernel
theorem d_P_digest_130 : decode b_P_digest 130 = .ok (.ldc2_w 316, 3) := by decide +kernel
theorem d_P_digest_133 : decode b_P_digest 133 = .ok (.lload_n 1, 1) := by decide +kernel
theorem d_P_digest_134 : decode b_P_digest 134 = .ok (.lmul, 1) := by decide +kernel
theorem d_P_digest_135 : decode b_P_digest 135 = .ok (.aload_n 0, 1) := by decide +kernel
theorem d_P_digest_136 : decode b_P_digest 136 = .ok (.bipush 9, 2) := by decide +kernel
theorem d_P_digest_138 : decode b_P_digest 138 = .ok (.iload_n 3, 1) := by decide +kernel
theorem d_P_digest_139 : decode b_P_digest 139 = .ok (.invokevirtual 333, 3) := by decide +kernel
theorem d_P_digest_142 : decode b_P_digest 142 = .ok (.i2l, 1) := by decide +kernel
theorem d_P_digest_143 : decode b_P_digest 143 = .ok (.ladd, 1) := by decide +kernel
theorem d_P_digest_144 : decode b_P_digest 144 = .ok (.lstore_n 1, 1) := by decide +kernel
theorem d_P_digest_145 : decode b_P_digest 145 = .ok (.ldc2_w 316, 3) := by decide +kernel
theorem d_P_digest_148 : decode b_P_digest 148 = .ok (.lload_n 1, 1) := by decide +kernel
theorem d_P_digest_149 : decode b_P_digest 149 = .ok (.lmul, 1) := by decide +kernel
theorem d_P_digest_150 : decode b_P_digest 150 = .ok (.aload_n 0, 1) := by decide +kernel
theorem d_P_digest_151 : decode b_P_digest 151 = .ok (.bipush 29, 2) := by decide +kernel
theorem d_P_digest_153 : decode b_P_digest 153 = .ok (.iload_n 3, 1) := by decide +kernel
theorem d_P_digest_154 : decode b_P_digest 154 = .ok (.invokevirtual 333, 3) := by decide +kernel
theorem d_P_digest_157 : decode b_P_digest 157 = .ok (.i2l, 1) := by decide +kernel
theorem d_P_digest_158 : decode b_P_digest 158 = .ok (.ladd, 1) := by decide +kernel
theorem d_P_digest_159 : decode b_P_digest 159 = .ok (.lstore_n 1, 1) := by decide +kernel
theorem d_P_digest_160 : decode b_P_digest 160 = .ok (.ldc2_w 316, 3) := by decide +kernel
theorem d_P_digest_163 : decode b_P_digest 163 = .ok (.lload_n 1, 1) := by decide +kernel
theorem d_P_digest_164 : decode b_P_digest 164 = .ok (.lmul, 1) := by decide +kernel
theorem d_P_digest_165 : decode b_P_digest 165 = .ok (.aload_n 0, 1) := by decide +kernel
theorem d_P_digest_166 : decode b_P_digest 166 = .ok (.iload_n 3, 1) := by decide +kernel
theorem d_P_digest_167 : decode b_P_digest 167 = .ok (.invokevirtual 336, 3) := by decide +kernel
theorem d_P_digest_170 : decode b_P_digest 170 = .ok (.i2l, 1) := by decide +kernel
theorem d_P_digest_171 : decode b_P_digest 171 = .ok (.ladd, 1) := by decide +kernel
theorem d_P_digest_172 : decode b_P_digest 172 = .ok (.lstore_n 1, 1) := by decide +kernel
theorem d_P_digest_173 : decode b_P_digest 173 = .ok (.iconst 0, 1) := by decide +kernel
theorem d_P_digest_174 : decode b_P_digest 174 = .ok (.istore 4, 2) := by decide +kernel
theorem d_P_digest_176 : decode b_P_digest 176 = .ok (.iload 4, 2) := by decide +kernel
theorem d_P_digest_178 : decode b_P_digest 178 = .ok (.iconst 2, 1) := by decide +kernel
theorem d_P_digest_179 : decode b_P_digest 179 = .ok (.if_icmp .gt 26, 3) := by decide +kernel
theorem d_P_digest_182 : decode b_P_digest 182 = .ok (.ldc2_w 316, 3) := by decide +kernel
theorem d_P_digest_185 : decode b_P_digest 185 = .ok (.lload_n 1, 1) := by decide +kernel
theorem d_P_digest_186 : decode b_P_digest 186 = .ok (.lmul, 1) := by decide +kernel
theorem d_P_digest_187 : decode b_P_digest 187 = .ok (.aload_n 0, 1) := by decide +kernel
theorem d_P_digest_188 : decode b_P_digest 188 = .ok (.bipush 9, 2) := by decide +kernel
theorem d_P_digest_190 : decode b_P_digest 190 = .ok (.iload_n 3, 1) := by decide +kernel
theorem d_P_digest_191 : decode b_P_digest 191 = .ok (.iload 4, 2) := by decide +kernel
theorem d_P_digest_193 : decode b_P_digest 193 = .ok (.invokevirtual 339, 3) := by decide +kernel
theorem d_P_digest_196 : decode b_P_digest 196 = .ok (.i2l, 1) := by decide +kernel
theorem d_P_digest_197 : decode b_P_digest 197 = .ok (.ladd, 1) := by decide +kernel
theorem d_P_digest_198 : decode b_P_digest 198 = .ok (.lstore_n 1, 1) := by decide +kernel
theorem d_P_digest_199 : decode b_P_digest 199 = .ok (.iinc 4 1, 3) := by decide +kernel
theorem d_P_digest_202 : decode b_P_digest 202 = .ok (.goto (-26), 3) := by decide +kernel
theorem d_P_digest_205 : decode b_P_digest 205 = .ok (.ldc2_w 316, 3) := by decide +kernel
theorem d_P_digest_208 : decode b_P_digest 208 = .ok (.lload_n 1, 1) := by decide +kernel
theorem d_P_digest_209 : decode b_P_digest 209 = .ok (.lmul, 1) := by decide +kernel
theorem d_P_digest_210 : decode b_P_digest 210 = .ok (.aload_n 0, 1) := by decide +kernel
theorem d_P_digest_211 : decode b_P_digest 211 = .ok (.iload_n 3, 1) := by decide +kernel
theorem d_P_digest_212 : decode b_P_digest 212 = .ok (.invokevirtual 342, 3) := by decide +kernel
theorem d_P_digest_215 : decode b_P_digest 215 = .ok (.i2l, 1) := by decide +kernel
theorem d_P_digest_216 : decode b_P_digest 216 = .ok (.ladd, 1) := by decide +kernel
theorem d_P_digest_217 : decode b_P_digest 217 = .ok (.lstore_n 1, 1) := by decide +kernel
theorem d_P_digest_218 : decode b_P_digest 218 = .ok (.ldc2_w 316, 3) := by decide +kernel
theorem d_P_digest_221 : decode b_P_digest 221 = .ok (.lload_n 1, 1) := by decide +kernel
theorem d_P_digest_222 : decode b_P_digest 222 = .ok (.lmul, 1) := by decide +kernel
theorem d_P_digest_223 : decode b_P_digest 223 = .ok (.aload_n 0, 1) := by decide +kernel
theorem d_P_digest_224 : decode b_P_digest 224 = .ok (.iconst 5, 1) := by decide +kernel
theorem d_P_digest_225 : decode b_P_digest 225 = .ok (.bipush 9, 2) := by decide +kernel
theorem d_P_digest_227 : decode b_P_digest 227 = .ok (.iload_n 3, 1) := by decide +kernel
theorem d_P_digest_228 : decode b_P_digest 228 = .ok (.iconst 0, 1) := by decide +kernel
theorem d_P_digest_229 : decode b_P_digest 229 = .ok (.invokevirtual 345, 3) := by decide +kernel
theorem d_P_digest_232 : decode b_P_digest 232 = .ok (.ladd, 1) := by decide +kernel
theorem d_P_digest_233 : decode b_P_digest 233 = .ok (.lstore_n 1, 1) := by decide +kernel
theorem d_P_digest_234 : decode b_P_digest 234 = .ok (.ldc2_w 316, 3) := by decide +kernel
theorem d_P_digest_237 : decode b_P_digest 237 = .ok (.lload_n 1, 1) := by decide +kernel
theorem d_P_digest_238 : decode b_P_digest 238 = .ok (.lmul, 1) := by decide +kernel
theorem d_P_digest_239 : decode b_P_digest 239 = .ok (.aload_n 0, 1) := by decide +kernel
theorem d_P_digest_240 : decode b_P_digest 240 = .ok (.iconst 5, 1) := by decide +kernel
theorem d_P_digest_241 : decode b_P_digest 241 = .ok (.bipush 9, 2) := by decide +kernel
theorem d_P_digest_243 : decode b_P_digest 243 = .ok (.iload_n 3, 1) := by decide +kernel
theorem d_P_digest_244 : decode b_P_digest 244 = .ok (.iconst 1, 1) := by decide +kernel
theorem d_P_digest_245 : decode b_P_digest 245 = .ok (.invokevirtual 345, 3) := by decide +kernel
theorem d_P_digest_248 : decode b_P_digest 248 = .ok (.ladd, 1) := by decide +kernel
theorem d_P_digest_249 : decode b_P_digest 249 = .ok (.lstore_n 1, 1) := by decide +kernel
theorem d_P_digest_250 : decode b_P_digest 250 = .ok (.ldc2_w 316, 3) := by decide +kernel
theorem d_P_digest_253 : decode b_P_digest 253 = .ok (.lload_n 1, 1) := by decide +kernel
theorem d_P_digest_254 : decode b_P_digest 254 = .ok (.lmul, 1) := by decide +kernel
theorem d_P_digest_255 : decode b_P_digest 255 = .ok (.aload_n 0, 1) := by decide +kernel
theorem d_P_digest_256 : decode b_P_digest 256 = .ok (.bipush 7, 2) := by decide +kernel
theorem d_P_digest_258 : decode b_P_digest 258 = .ok (.bipush 20, 2) := by decide +kernel
theorem d_P_digest_260 : decode b_P_digest 260 = .ok (.iload_n 3, 1) := by decide +kernel
theorem d_P_digest_261 : decode b_P_digest 261 = .ok (.invokevirtual 349, 3) := by decide +kernel
theorem d_P_digest_264 : decode b_P_digest 264 = .ok (.i2l, 1) := by decide +kernel
theorem d_P_digest_265 : decode b_P_digest 265 = .ok (.ladd, 1) := by decide +kernel
theorem d_P_digest_266 : decode b_P_digest 266 = .ok (.lstore_n 1, 1) := by decide +kernel
theorem d_P_digest_267 : decode b_P_digest 267 = .ok (.iinc 3 1, 3) := by decide +kernel
theorem d_P_digest_270 : decode b_P_digest 270 = .ok (.goto (-211), 3) := by decide +kernel
theorem d_P_digest_273 : decode b_P_digest 273 = .ok (.iconst 0, 1) := by decide +kernel
theorem d_P_digest_274 : decode b_P_digest 274 = .ok (.istore_n 3, 1) := by decide +kernel
theorem d_P_digest_275 : decode b_P_digest 275 = .ok (.iload_n 3, 1) := by decide +kernel
theorem d_P_digest_276 : decode b_P_digest 276 = .ok (.iconst 3, 1) := by decide +kernel
theorem d_P_digest_277 : decode b_P_digest 277 = .ok (.if_icmp .ge 54, 3) := by decide +kernel
theorem d_P_digest_280 : decode b_P_digest 280 = .ok (.ldc2_w 316, 3) := by decide +kernel
theorem d_P_digest_283 : decode b_P_digest 283 = .ok (.lload_n 1, 1) := by decide +kernel
theorem d_P_digest_284 : decode b_P_digest 284 = .ok (.lmul, 1) := by decide +kernel
theorem d_P_digest_285 : decode b_P_digest 285 = .ok (.aload_n 0, 1) := by decide +kernel
theorem d_P_digest_286 : decode b_P_digest 286 = .ok (.iload_n 3, 1) := by decide +kernel
theorem d_P_digest_287 : decode b_P_digest 287 = .ok (.invokevirtual 352, 3) := by decide +kernel
theorem d_P_digest_290 : decode b_P_digest 290 = .ok (.i2l, 1) := by decide +kernel
theorem d_P_digest_291 : decode b_P_digest 291 = .ok (.ladd, 1) := by decide +kernel
theorem d_P_digest_292 : decode b_P_digest 292 = .ok (.lstore_n 1, 1) := by decide +kernel
theorem d_P_digest_293 : decode b_P_digest 293 = .ok (.ldc2_w 316, 3) := by decide +kernel
theorem d_P_digest_296 : decode b_P_digest 296 = .ok (.lload_n 1, 1) := by decide +kernel
theorem d_P_digest_297 : decode b_P_digest 297 = .ok (.lmul, 1) := by decide +kernel
theorem d_P_digest_298 : decode b_P_digest 298 = .ok (.aload_n 0, 1) := by decide +kernel
theorem d_P_digest_299 : decode b_P_digest 299 = .ok (.bipush 9, 2) := by decide +kernel
theorem d_P_digest_301 : decode b_P_digest 301 = .ok (.iload_n 3, 1) := by decide +kernel
theorem d_P_digest_302 : decode b_P_digest 302 = .ok (.iconst 0, 1) := by decide +kernel
theorem d_P_digest_303 : decode b_P_digest 303 = .ok (.invokevirtual 355, 3) := by decide +kernel
theorem d_P_digest_306 : decode b_P_digest 306 = .ok (.i2l, 1) := by decide +kernel
theorem d_P_digest_307 : decode b_P_digest 307 = .ok (.ladd, 1) := by decide +kernel
theorem d_P_digest_308 : decode b_P_digest 308 = .ok (.lstore_n 1, 1) := by decide +kernel
theorem d_P_digest_309 : decode b_P_digest 309 = .ok (.ldc2_w 316, 3) := by decide +kernel
theorem d_P_digest_312 : decode b_P_digest 312 = .ok (.lload_n 1, 1) := by decide +kernel
theorem d_P_digest_313 : decode b_P_digest 313 = .ok (.lmul, 1) := by decide +kernel
theorem d_P_digest_314 : decode b_P_digest 314 = .ok (.aload_n 0, 1) := by decide +kernel
theorem d_P_digest_315 : decode b_P_digest 315 = .ok (.bipush 9, 2) := by decide +kernel
theorem d_P_digest_317 : decode b_P_digest 317 = .ok (.iload_n 3, 1) := by decide +kernel
theorem d_P_digest_318 : decode b_P_digest 318 = .ok (.iconst 1, 1) := by decide +kernel
theorem d_P_digest_319 : decode b_P_digest 319 = .ok (.invokevirtual 355, 3) := by decide +kernel
theorem d_P_digest_322 : decode b_P_digest 322 = .ok (.i2l, 1) := by decide +kernel
theorem d_P_digest_323 : decode b_P_digest 323 = .ok (.ladd, 1) := by decide +kernel
theorem d_P_digest_324 : decode b_P_digest 324 = .ok (.lstore_n 1, 1) := by decide +kernel
theorem d_P_digest_325 : decode b_P_digest 325 = .ok (.iinc 3 1, 3) := by decide +kernel
theorem d_P_digest_328 : decode b_P_digest 328 = .ok (.goto (-53), 3) := by decide +kernel
theorem d_P_digest_331 : decode b_P_digest 331 = .ok (.getstatic 358, 3) := by decide +kernel
theorem d_P_digest_334 : decode b_P_digest 334 = .ok (.astore_n 3, 1) := by decide +kernel
theorem d_P_digest_335 : decode b_P_digest 335 = .ok (.aload_n 3, 1) := by decide +kernel
theorem d_P_digest_336 : decode b_P_digest 336 = .ok (.arraylength, 1) := by decide +kernel
theorem d_P_digest_337 : decode b_P_digest 337 = .ok (.istore 4, 2) := by decide +kernel
theorem d_P_digest_339 : decode b_P_digest 339 = .ok (.iconst 0, 1) := by decide +kernel
theorem d_P_digest_340 : decode b_P_digest 340 = .ok (.istore 5, 2) := by decide +kernel
theorem d_P_digest_342 : decode b_P_digest 342 = .ok (.iload 5, 2) := by decide +kernel
theorem d_P_digest_344 : decode b_P_digest 344 = .ok (.iload 4, 2) := by decide +kernel
theorem d_P_digest_346 : decode b_P_digest 346 = .ok (.if_icmp .ge 131, 3) := by decide +kernel
theorem d_P_digest_349 : decode b_P_digest 349 = .ok (.aload_n 3, 1) := by decide +kernel
theorem d_P_digest_350 : decode b_P_digest 350 = .ok (.iload 5, 2) := by decide +kernel
theorem d_P_digest_352 : decode b_P_digest 352 = .ok (.iaload, 1) := by decide +kernel
theorem d_P_digest_353 : decode b_P_digest 353 = .ok (.istore 6, 2) := by decide +kernel
theorem d_P_digest_355 : decode b_P_digest 355 = .ok (.ldc2_w 316, 3) := by decide +kernel
theorem d_P_digest_358 : decode b_P_digest 358 = .ok (.lload_n 1, 1) := by decide +kernel
theorem d_P_digest_359 : decode b_P_digest 359 = .ok (.lmul, 1) := by decide +kernel
theorem d_P_digest_360 : decode b_P_digest 360 = .ok (.aload_n 0, 1) := by decide +kernel
theorem d_P_digest_361 : decode b_P_digest 361 = .ok (.iload 6, 2) := by decide +kernel
theorem d_P_digest_363 : decode b_P_digest 363 = .ok (.invokevirtual 361, 3) := by decide +kernel
theorem d_P_digest_366 : decode b_P_digest 366 = .ok (.i2l, 1) := by decide +kernel
theorem d_P_digest_367 : decode b_P_digest 367 = .ok (.ladd, 1) := by decide +kernel
theorem d_P_digest_368 : decode b_P_digest 368 = .ok (.lstore_n 1, 1) := by decide +kernel
theorem d_P_digest_369 : decode b_P_digest 369 = .ok (.ldc2_w 316, 3) := by decide +kernel
theorem d_P_digest_372 : decode b_P_digest 372 = .ok (.lload_n 1, 1) := by decide +kernel
theorem d_P_digest_373 : decode b_P_digest 373 = .ok (.lmul, 1) := by decide +kernel
theorem d_P_digest_374 : decode b_P_digest 374 = .ok (.aload_n 0, 1) := by decide +kernel
theorem d_P_digest_375 : decode b_P_digest 375 = .ok (.iload 6, 2) := by decide +kernel
theorem d_P_digest_377 : decode b_P_digest 377 = .ok (.invokevirtual 364, 3) := by decide +kernel
theorem d_P_digest_380 : decode b_P_digest 380 = .ok (.i2l, 1) := by decide +kernel
theorem d_P_digest_381 : decode b_P_digest 381 = .ok (.ladd, 1) := by decide +kernel
theorem d_P_digest_382 : decode b_P_digest 382 = .ok (.lstore_n 1, 1) := by decide +kernel
theorem d_P_digest_383 : decode b_P_digest 383 = .ok (.ldc2_w 316, 3) := by decide +kernel
theorem d_P_digest_386 : decode b_P_digest 386 = .ok (.lload_n 1, 1) := by decide +kernel
theorem d_P_digest_387 : decode b_P_digest 387 = .ok (.lmul, 1) := by decide +kernel
theorem d_P_digest_388 : decode b_P_digest 388 = .ok (.aload_n 0, 1) := by decide +kernel
theorem d_P_digest_389 : decode b_P_digest 389 = .ok (.iload 6, 2) := by decide +kernel
theorem d_P_digest_391 : decode b_P_digest 391 = .ok (.invokevirtual 367, 3) := by decide +kernel
theorem d_P_digest_394 : decode b_P_digest 394 = .ok (.i2l, 1) := by decide +kernel
theorem d_P_digest_395 : decode b_P_digest 395 = .ok (.ladd, 1) := by decide +kernel
theorem d_P_digest_396 : decode b_P_digest 396 = .ok (.lstore_n 1, 1) := by decide +kernel
theorem d_P_digest_397 : decode b_P_digest 397 = .ok (.ldc2_w 316, 3) := by decide +kernel
theorem d_P_digest_400 : decode b_P_digest 400 = .ok (.lload_n 1, 1) := by decide +kernel
theorem d_P_digest_401 : decode b_P_digest 401 = .ok (.lmul, 1) := by decide +kernel
theorem d_P_digest_402 : decode b_P_digest 402 = .ok (.aload_n 0, 1) := by decide +kernel
theorem d_P_digest_403 : decode b_P_digest 403 = .ok (.iload 6, 2) := by decide +kernel
theorem d_P_digest_405 : decode b_P_digest 405 = .ok (.iconst 0, 1) := by decide +kernel
theorem d_P_digest_406 : decode b_P_digest 406 = .ok (.invokevirtual 370, 3) := by decide +kernel
theorem d_P_digest_409 : decode b_P_digest 409 = .ok (.i2l, 1) := by decide +kernel
theorem d_P_digest_410 : decode b_P_digest 410 = .ok (.ladd, 1) := by decide +kernel
theorem d_P_digest_411 : decode b_P_digest 411 = .ok (.lstore_n 1, 1) := by decide +kernel
theorem d_P_digest_412 : decode b_P_digest 412 = .ok (.ldc2_w 316, 3) := by decide +kernel
theorem d_P_digest_415 : decode b_P_digest 415 = .ok (.lload_n 1, 1) := by decide +kernel
theorem d_P_digest_416 : decode b_P_digest 416 = .ok (.lmul, 1) := by decide +kernel
theorem d_P_digest_417 : decode b_P_digest 417 = .ok (.aload_n 0, 1) := by decide +kernel
theorem d_P_digest_418 : decode b_P_digest 418 = .ok (.iload 6, 2) := by decide +kernel
theorem d_P_digest_420 : decode b_P_digest 420 = .ok (.iconst 1, 1) := by decide +kernel
theorem d_P_digest_421 : decode b_P_digest 421 = .ok (.invokevirtual 370, 3) := by decide +kernel
theorem d_P_digest_424 : decode b_P_digest 424 = .ok (.i2l, 1) := by decide +kernel
theorem d_P_digest_425 : decode b_P_digest 425 = .ok (.ladd, 1) := by decide +kernel
theorem d_P_digest_426 : decode b_P_digest 426 = .ok (.lstore_n 1, 1) := by decide +kernel
theorem d_P_digest_427 : decode b_P_digest 427 = .ok (.ldc2_w 316, 3) := by decide +kernel
theorem d_P_digest_430 : decode b_P_digest 430 = .ok (.lload_n 1, 1) := by decide +kernel
theorem d_P_digest_431 : decode b_P_digest 431 = .ok (.lmul, 1) := by decide +kernel
theorem d_P_digest_432 : decode b_P_digest 432 = .ok (.aload_n 0, 1) := by decide +kernel
theorem d_P_digest_433 : decode b_P_digest 433 = .ok (.iload 6, 2) := by decide +kernel
theorem d_P_digest_435 : decode b_P_digest 435 = .ok (.iconst (-1), 1) := by decide +kernel
theorem d_P_digest_436 : decode b_P_digest 436 = .ok (.invokevirtual 373, 3) := by decide +kernel
theorem d_P_digest_439 : decode b_P_digest 439 = .ok (.i2l, 1) := by decide +kernel
theorem d_P_digest_440 : decode b_P_digest 440 = .ok (.ladd, 1) := by decide +kernel
theorem d_P_digest_441 : decode b_P_digest 441 = .ok (.lstore_n 1, 1) := by decide +kernel
theorem d_P_digest_442 : decode b_P_digest 442 = .ok (.ldc2_w 316, 3) := by decide +kernel
theorem d_P_digest_445 : decode b_P_digest 445 = .ok (.lload_n 1, 1) := by decide +kernel
theorem d_P_digest_446 : decode b_P_digest 446 = .ok (.lmul, 1) := by decide +kernel
theorem d_P_digest_447 : decode b_P_digest 447 = .ok (.aload_n 0, 1) := by decide +kernel
theorem d_P_digest_448 : decode b_P_digest 448 = .ok (.iload 6, 2) := by decide +kernel
theorem d_P_digest_450 : decode b_P_digest 450 = .ok (.iconst 0, 1) := by decide +kernel
theorem d_P_digest_451 : decode b_P_digest 451 = .ok (.invokevirtual 373, 3) := by decide +kernel
theorem d_P_digest_454 : decode b_P_digest 454 = .ok (.i2l, 1) := by decide +kernel
theorem d_P_digest_455 : decode b_P_digest 455 = .ok (.ladd, 1) := by decide +kernel
theorem d_P_digest_456 : decode b_P_digest 456 = .ok (.lstore_n 1, 1) := by decide +kernel
theorem d_P_digest_457 : decode b_P_digest 457 = .ok (.ldc2_w 316, 3) := by decide +kernel
theorem d_P_digest_460 : decode b_P_digest 460 = .ok (.lload_n 1, 1) := by decide +kernel
theorem d_P_digest_461 : decode b_P_digest 461 = .ok (.lmul, 1) := by decide +kernel
theorem d_P_digest_462 : decode b_P_digest 462 = .ok (.aload_n 0, 1) := by decide +kernel
theorem d_P_digest_463 : decode b_P_digest 463 = .ok (.iload 6, 2) := by decide +kernel
theorem d_P_digest_465 : decode b_P_digest 465 = .ok (.invokevirtual 376, 3) := by decide +kernel
theorem d_P_digest_468 : decode b_P_digest 468 = .ok (.i2l, 1) := by decide +kernel
theorem d_P_digest_469 : decode b_P_digest 469 = .ok (.ladd, 1) := by decide +kernel
theorem d_P_digest_470 : decode b_P_digest 470 = .ok (.lstore_n 1, 1) := by decide +kernel
theorem d_P_digest_471 : decode b_P_digest 471 = .ok (.iinc 5 1, 3) := by decide +kernel
theorem d_P_digest_474 : decode b_P_digest 474 = .ok (.goto (-132), 3) := by decide +kernel
theorem d_P_digest_477 : decode b_P_digest 477 = .ok (.ldc2_w 316, 3) := by decide +kernel
theorem d_P_digest_480 : decode b_P_digest 480 = .ok (.lload_n 1, 1) := by decide +kernel
theorem d_P_digest_481 : decode b_P_digest 481 = .ok (.lmul, 1) := by decide +kernel
theorem d_P_digest_482 : decode b_P_digest 482 = .ok (.aload_n 0, 1) := by decide +kernel
theorem d_P_digest_483 : decode b_P_digest 483 = .ok (.invokevirtual 241, 3) := by decide +kernel
theorem d_P_digest_486 : decode b_P_digest 486 = .ok (.i2l, 1) := by decide +kernel
theorem d_P_digest_487 : decode b_P_digest 487 = .ok (.ladd, 1) := by decide +kernel
theorem d_P_digest_488 : decode b_P_digest 488 = .ok (.lstore_n 1, 1) := by decide +kernel
theorem d_P_digest_489 : decode b_P_digest 489 = .ok (.ldc2_w 316, 3) := by decide +kernel
theorem d_P_digest_492 : decode b_P_digest 492 = .ok (.lload_n 1, 1) := by decide +kernel
theorem d_P_digest_493 : decode b_P_digest 493 = .ok (.lmul, 1) := by decide +kernel
theorem d_P_digest_494 : decode b_P_digest 494 = .ok (.aload_n 0, 1) := by decide +kernel
theorem d_P_digest_495 : decode b_P_digest 495 = .ok (.bipush 7, 2) := by decide +kernel
theorem d_P_digest_497 : decode b_P_digest 497 = .ok (.bipush 20, 2) := by decide +kernel
theorem d_P_digest_499 : decode b_P_digest 499 = .ok (.iconst (-1), 1) := by decide +kernel
theorem d_P_digest_500 : decode b_P_digest 500 = .ok (.invokevirtual 349, 3) := by decide +kernel
theorem d_P_digest_503 : decode b_P_digest 503 = .ok (.i2l, 1) := by decide +kernel
theorem d_P_digest_504 : decode b_P_digest 504 = .ok (.ladd, 1) := by decide +kernel
theorem d_P_digest_505 : decode b_P_digest 505 = .ok (.lreturn, 1) := by decide +kernel
theorem ql_P_314 : Cond.constantLong nC7 314 (17) ∈ tbl := tbl_in 839 (by decide +kernel) rfl
theorem ql_P_316 : Cond.constantLong nC7 316 (31) ∈ tbl := tbl_in 840 (by decide +kernel) rfl
theorem qf_P_358 : Cond.fieldLink nC7 358 "SoundPaid" "DIGEST_DAYS" "[I" ∈ tbl := tbl_in 854 (by decide +kernel) rfl
theorem qm_P_318 : Cond.methodLink nC7 318 y_P_count ∈ tbl := tbl_in 841 (by decide +kernel) rfl
theorem qm_P_321 : Cond.methodLink nC7 321 y_P_fault ∈ tbl := tbl_in 842 (by decide +kernel) rfl
theorem qm_P_324 : Cond.methodLink nC7 324 y_P_house ∈ tbl := tbl_in 843 (by decide +kernel) rfl
theorem qm_P_327 : Cond.methodLink nC7 327 y_P_through ∈ tbl := tbl_in 844 (by decide +kernel) rfl
theorem qm_P_330 : Cond.methodLink nC7 330 y_P_owes ∈ tbl := tbl_in 845 (by decide +kernel) rfl
theorem qm_P_333 : Cond.methodLink nC7 333 y_P_balance ∈ tbl := tbl_in 846 (by decide +kernel) rfl
theorem qm_P_336 : Cond.methodLink nC7 336 y_P_broke ∈ tbl := tbl_in 847 (by decide +kernel) rfl
theorem qm_P_339 : Cond.methodLink nC7 339 y_P_build ∈ tbl := tbl_in 848 (by decide +kernel) rfl
theorem qm_P_342 : Cond.methodLink nC7 342 y_P_leaked ∈ tbl := tbl_in 849 (by decide +kernel) rfl
theorem qm_P_345 : Cond.methodLink nC7 345 y_P_court ∈ tbl := tbl_in 850 (by decide +kernel) rfl
theorem qm_P_349 : Cond.methodLink nC7 349 y_P_month ∈ tbl := tbl_in 851 (by decide +kernel) rfl
theorem qm_P_352 : Cond.methodLink nC7 352 y_P_rate ∈ tbl := tbl_in 852 (by decide +kernel) rfl
theorem qm_P_355 : Cond.methodLink nC7 355 y_P_fair ∈ tbl := tbl_in 853 (by decide +kernel) rfl
theorem qm_P_361 : Cond.methodLink nC7 361 y_P_coin ∈ tbl := tbl_in 856 (by decide +kernel) rfl
theorem qm_P_364 : Cond.methodLink nC7 364 y_P_richest ∈ tbl := tbl_in 857 (by decide +kernel) rfl
theorem qm_P_367 : Cond.methodLink nC7 367 y_P_payments ∈ tbl := tbl_in 858 (by decide +kernel) rfl
theorem qm_P_370 : Cond.methodLink nC7 370 y_P_rings ∈ tbl := tbl_in 859 (by decide +kernel) rfl
theorem qm_P_373 : Cond.methodLink nC7 373 y_P_drop ∈ tbl := tbl_in 860 (by decide +kernel) rfl
theorem qm_P_376 : Cond.methodLink nC7 376 y_P_ask ∈ tbl := tbl_in 861 (by decide +kernel) rfl
def b_P_digest_342_ (P : Int64 → Hp → Prop)  (I342 : Hp → Int64 → Int32 → Int32 → Prop) (σ : Hp) (x1 : Int64) (x4 : Int32) (x5 : Int32) : Prop :=
  ((x4 ≤ x5 → wp_P_never σ (fun (r2 : Int32) (t3 : Hp) => (∀ v4 : Int64, v4 = ((31 : Int64) * x1) + (r2.toInt64) → wp_P_month t3 (7 : Int32) (20 : Int32) (-1 : Int32) (fun (r5 : Int32) (t6 : Hp) => P (((31 : Int64) * v4) + (r5.toInt64)) t6)))) ∧ (¬ x4 ≤ x5 → (vp_in x5 3) ∧ (∀ v8 : Int32, v8 = dgD (ix x5) → wp_P_coin σ v8 (fun (r9 : Int32) (t10 : Hp) => (∀ v11 : Int64, v11 = ((31 : Int64) * x1) + (r9.toInt64) → wp_P_richest t10 v8 (fun (r12 : Int32) (t13 : Hp) => (∀ v14 : Int64, v14 = ((31 : Int64) * v11) + (r12.toInt64) → wp_P_payments t13 v8 (fun (r15 : Int32) (t16 : Hp) => (∀ v17 : Int64, v17 = ((31 : Int64) * v14) + (r15.toInt64) → wp_P_rings t16 v8 (0 : Int32) (fun (r18 : Int32) (t19 : Hp) => (∀ v20 : Int64, v20 = ((31 : Int64) * v17) + (r18.toInt64) → wp_P_rings t19 v8 (1 : Int32) (fun (r21 : Int32) (t22 : Hp) => (∀ v23 : Int64, v23 = ((31 : Int64) * v20) + (r21.toInt64) → wp_P_drop t22 v8 (-1 : Int32) (fun (r24 : Int32) (t25 : Hp) => (∀ v26 : Int64, v26 = ((31 : Int64) * v23) + (r24.toInt64) → wp_P_drop t25 v8 (0 : Int32) (fun (r27 : Int32) (t28 : Hp) => (∀ v29 : Int64, v29 = ((31 : Int64) * v26) + (r27.toInt64) → wp_P_ask t28 v8 (fun (r30 : Int32) (t31 : Hp) => (∀ v32 : Int64, v32 = ((31 : Int64) * v29) + (r30.toInt64) → (∀ v33 : Int32, v33 = x5 + (1 : Int32) → I342 t31 v32 x4 v33))))))))))))))))))))
def j_P_digest_342 (P : Int64 → Hp → Prop)  (σ : Hp) (x1 : Int64) (x4 : Int32) (x5 : Int32) : Prop := ∀ I342 : Hp → Int64 → Int32 → Int32 → Prop, (∀ (σ : Hp) (x1 : Int64) (x4 : Int32) (x5 : Int32), b_P_digest_342_  P  I342 σ x1 x4 x5 → I342 σ x1 x4 x5) → I342 σ x1 x4 x5
def b_P_digest_275_ (P : Int64 → Hp → Prop)  (I275 : Hp → Int64 → Int32 → Prop) (σ : Hp) (x1 : Int64) (x3 : Int32) : Prop :=
  (((3 : Int32) ≤ x3 → j_P_digest_342 P σ x1 (3 : Int32) (0 : Int32)) ∧ (¬ (3 : Int32) ≤ x3 → wp_P_rate σ x3 (fun (r35 : Int32) (t36 : Hp) => (∀ v37 : Int64, v37 = ((31 : Int64) * x1) + (r35.toInt64) → wp_P_fair t36 (9 : Int32) x3 (0 : Int32) (fun (r38 : Int32) (t39 : Hp) => (∀ v40 : Int64, v40 = ((31 : Int64) * v37) + (r38.toInt64) → wp_P_fair t39 (9 : Int32) x3 (1 : Int32) (fun (r41 : Int32) (t42 : Hp) => (∀ v43 : Int64, v43 = ((31 : Int64) * v40) + (r41.toInt64) → (∀ v44 : Int32, v44 = x3 + (1 : Int32) → I275 t42 v43 v44)))))))))
def j_P_digest_275 (P : Int64 → Hp → Prop)  (σ : Hp) (x1 : Int64) (x3 : Int32) : Prop := ∀ I275 : Hp → Int64 → Int32 → Prop, (∀ (σ : Hp) (x1 : Int64) (x3 : Int32), b_P_digest_275_  P  I275 σ x1 x3 → I275 σ x1 x3) → I275 σ x1 x3
def b_P_digest_176_ (P : Int64 → Hp → Prop) (I59 : Hp → Int64 → Int32 → Prop) (I176 : Hp → Int64 → Int32 → Int32 → Prop) (σ : Hp) (x1 : Int64) (x3 : Int32) (x4 : Int32) : Prop :=
  (((2 : Int32) < x4 → wp_P_leaked σ x3 (fun (r46 : Int32) (t47 : Hp) => (∀ v48 : Int64, v48 = ((31 : Int64) * x1) + (r46.toInt64) → wp_P_court t47 (5 : Int32) (9 : Int32) x3 (0 : Int32) (fun (r49 : Int64) (t50 : Hp) => (∀ v51 : Int64, v51 = ((31 : Int64) * v48) + r49 → wp_P_court t50 (5 : Int32) (9 : Int32) x3 (1 : Int32) (fun (r52 : Int64) (t53 : Hp) => (∀ v54 : Int64, v54 = ((31 : Int64) * v51) + r52 → wp_P_month t53 (7 : Int32) (20 : Int32) x3 (fun (r55 : Int32) (t56 : Hp) => (∀ v57 : Int64, v57 = ((31 : Int64) * v54) + (r55.toInt64) → (∀ v58 : Int32, v58 = x3 + (1 : Int32) → I59 t56 v57 v58)))))))))) ∧ (¬ (2 : Int32) < x4 → wp_P_build σ (9 : Int32) x3 x4 (fun (r59 : Int32) (t60 : Hp) => (∀ v61 : Int64, v61 = ((31 : Int64) * x1) + (r59.toInt64) → (∀ v62 : Int32, v62 = x4 + (1 : Int32) → I176 t60 v61 x3 v62)))))
def j_P_digest_176 (P : Int64 → Hp → Prop) (I59 : Hp → Int64 → Int32 → Prop) (σ : Hp) (x1 : Int64) (x3 : Int32) (x4 : Int32) : Prop := ∀ I176 : Hp → Int64 → Int32 → Int32 → Prop, (∀ (σ : Hp) (x1 : Int64) (x3 : Int32) (x4 : Int32), b_P_digest_176_  P I59 I176 σ x1 x3 x4 → I176 σ x1 x3 x4) → I176 σ x1 x3 x4
def b_P_digest_73_ (P : Int64 → Hp → Prop) (I59 : Hp → Int64 → Int32 → Prop) (I73 : Hp → Int64 → Int32 → Int32 → Prop) (σ : Hp) (x1 : Int64) (x3 : Int32) (x4 : Int32) : Prop :=
  (((3 : Int32) < x4 → wp_P_through σ (0 : Int32) x3 (fun (r64 : Int32) (t65 : Hp) => (∀ v66 : Int64, v66 = ((31 : Int64) * x1) + (r64.toInt64) → wp_P_owes t65 (9 : Int32) (0 : Int32) x3 (fun (r67 : Int32) (t68 : Hp) => (∀ v69 : Int64, v69 = ((31 : Int64) * v66) + (r67.toInt64) → wp_P_balance t68 (9 : Int32) x3 (fun (r70 : Int32) (t71 : Hp) => (∀ v72 : Int64, v72 = ((31 : Int64) * v69) + (r70.toInt64) → wp_P_balance t71 (29 : Int32) x3 (fun (r73 : Int32) (t74 : Hp) => (∀ v75 : Int64, v75 = ((31 : Int64) * v72) + (r73.toInt64) → wp_P_broke t74 x3 (fun (r76 : Int32) (t77 : Hp) => (∀ v78 : Int64, v78 = ((31 : Int64) * v75) + (r76.toInt64) → j_P_digest_176 P I59 t77 v78 x3 (0 : Int32)))))))))))) ∧ (¬ (3 : Int32) < x4 → wp_P_house σ x3 x4 (fun (r79 : Int32) (t80 : Hp) => (∀ v81 : Int64, v81 = ((31 : Int64) * x1) + (r79.toInt64) → (∀ v82 : Int32, v82 = x4 + (1 : Int32) → I73 t80 v81 x3 v82)))))
def j_P_digest_73 (P : Int64 → Hp → Prop) (I59 : Hp → Int64 → Int32 → Prop) (σ : Hp) (x1 : Int64) (x3 : Int32) (x4 : Int32) : Prop := ∀ I73 : Hp → Int64 → Int32 → Int32 → Prop, (∀ (σ : Hp) (x1 : Int64) (x3 : Int32) (x4 : Int32), b_P_digest_73_  P I59 I73 σ x1 x3 x4 → I73 σ x1 x3 x4) → I73 σ x1 x3 x4
def b_P_digest_59_ (P : Int64 → Hp → Prop)  (I59 : Hp → Int64 → Int32 → Prop) (σ : Hp) (x1 : Int64) (x3 : Int32) : Prop :=
  (((σ 4 6) ≤ x3 → j_P_digest_275 P σ x1 (0 : Int32)) ∧ (¬ (σ 4 6) ≤ x3 → j_P_digest_73 P I59 σ x1 x3 (0 : Int32)))
def j_P_digest_59 (P : Int64 → Hp → Prop)  (σ : Hp) (x1 : Int64) (x3 : Int32) : Prop := ∀ I59 : Hp → Int64 → Int32 → Prop, (∀ (σ : Hp) (x1 : Int64) (x3 : Int32), b_P_digest_59_  P  I59 σ x1 x3 → I59 σ x1 x3) → I59 σ x1 x3
def b_P_digest_33_ (P : Int64 → Hp → Prop)  (I33 : Hp → Int64 → Int32 → Prop) (σ : Hp) (x1 : Int64) (x3 : Int32) : Prop :=
  (((1 : Int32) < x3 → j_P_digest_59 P σ x1 (0 : Int32)) ∧ (¬ (1 : Int32) < x3 → wp_P_fault σ x3 (fun (r85 : Int32) (t86 : Hp) => (∀ v87 : Int64, v87 = ((31 : Int64) * x1) + (r85.toInt64) → (∀ v88 : Int32, v88 = x3 + (1 : Int32) → I33 t86 v87 v88)))))
def j_P_digest_33 (P : Int64 → Hp → Prop)  (σ : Hp) (x1 : Int64) (x3 : Int32) : Prop := ∀ I33 : Hp → Int64 → Int32 → Prop, (∀ (σ : Hp) (x1 : Int64) (x3 : Int32), b_P_digest_33_  P  I33 σ x1 x3 → I33 σ x1 x3) → I33 σ x1 x3
def b_P_digest_6_ (P : Int64 → Hp → Prop)  (I6 : Hp → Int64 → Int32 → Prop) (σ : Hp) (x1 : Int64) (x3 : Int32) : Prop :=
  (((7 : Int32) < x3 → j_P_digest_33 P σ x1 (0 : Int32)) ∧ (¬ (7 : Int32) < x3 → wp_P_count σ x3 (fun (r90 : Int32) (t91 : Hp) => (∀ v92 : Int64, v92 = ((31 : Int64) * x1) + (r90.toInt64) → (∀ v93 : Int32, v93 = x3 + (1 : Int32) → I6 t91 v92 v93)))))
def j_P_digest_6 (P : Int64 → Hp → Prop)  (σ : Hp) (x1 : Int64) (x3 : Int32) : Prop := ∀ I6 : Hp → Int64 → Int32 → Prop, (∀ (σ : Hp) (x1 : Int64) (x3 : Int32), b_P_digest_6_  P  I6 σ x1 x3 → I6 σ x1 x3) → I6 σ x1 x3
def wp_P_digest (σ : Hp)  (P : Int64 → Hp → Prop) : Prop :=
  j_P_digest_6 P σ (17 : Int64) (0 : Int32)
set_option maxHeartbeats 4000000 in
set_option maxRecDepth 100000 in
theorem wj_P_digest_342 {w : Wd} {κ : Kx} {P : Int64 → Hp → Prop} (hC : Cx μC w 7 κ nC7 b_P_digest 16) (hR : RtL μC w 7 κ b_P_digest P)  : ∀ (σ : Hp) (x1 : Int64) (x4 : Int32) (x5 : Int32), j_P_digest_342  P  σ x1 x4 x5 → V μC w 7 κ σ [some (.ref (w.1 0)), some (.long x1), none, some (.ref (w.1 54)), some (.int x4), some (.int x5), none] 342 [] := by
  intro σ x1 x4 x5 h
  refine h (fun σ x1 x4 x5 => V μC w 7 κ σ [some (.ref (w.1 0)), some (.long x1), none, some (.ref (w.1 54)), some (.int x4), some (.int x5), none] 342 []) (fun σ x1 x4 x5 h => ?_)
  unfold b_P_digest_342_ at h
  refine V.iload hC d_P_digest_342 rfl ?_
  refine V.iload hC d_P_digest_344 rfl ?_
  refine V.icmp_ge (tgt := 477) hC d_P_digest_346 (by decide) (fun c1 => ?_) (fun c1 => ?_)
  · replace h := h.1 c1
    refine V.ldc2 (v := 31) hC d_P_digest_477 ql_P_316 ?_
    refine V.lload_n hC d_P_digest_480 rfl rfl ?_
    refine V.lmul hC d_P_digest_481 ?_
    refine V.aload_n hC d_P_digest_482 rfl rfl ?_
    refine V.callVI hC exC (w_P_never w σ  _ h) d_P_digest_483 mo_P_never qm_P_241 rfl rfl rfl rfl rfl rfl rfl (Nat.le_of_ble_eq_true rfl) (fun r2 t3 h => ?_)
    refine V.i2l hC d_P_digest_486 ?_
    refine V.ladd hC d_P_digest_487 ?_
    obtain ⟨v4, ev4⟩ : ∃ y : Int64, y = ((31 : Int64) * x1) + (r2.toInt64) := ⟨_, rfl⟩
    replace h := h v4 ev4
    refine V.lstore_n (y := v4) (lo' := [some (.ref (w.1 0)), some (.long v4), none, some (.ref (w.1 54)), some (.int x4), some (.int x5), none]) hC d_P_digest_488 rfl rfl ev4 rfl ?_
    refine V.ldc2 (v := 31) hC d_P_digest_489 ql_P_316 ?_
    refine V.lload_n hC d_P_digest_492 rfl rfl ?_
    refine V.lmul hC d_P_digest_493 ?_
    refine V.aload_n hC d_P_digest_494 rfl rfl ?_
    refine V.bipush (v := 7) hC d_P_digest_495 (by decide) ?_
    refine V.bipush (v := 20) hC d_P_digest_497 (by decide) ?_
    refine V.iconst (v := -1) hC d_P_digest_499 (by decide) ?_
    refine V.callVI hC exC (w_P_month w t3 (7 : Int32) (20 : Int32) (-1 : Int32) _ h) d_P_digest_500 mo_P_month qm_P_349 rfl rfl rfl rfl rfl rfl rfl (Nat.le_of_ble_eq_true rfl) (fun r5 t6 h => ?_)
    refine V.i2l hC d_P_digest_503 ?_
    refine V.ladd hC d_P_digest_504 ?_
    exact hR _ _ _ _ h d_P_digest_505
  · replace h := h.2 c1
    refine V.aload_n hC d_P_digest_349 rfl rfl ?_
    refine V.iload hC d_P_digest_350 rfl ?_
    obtain ⟨b7, h⟩ := h
    refine V.tabi hC d_P_digest_352 (exDayT w) b7 rfl ?_
    obtain ⟨v8, ev8⟩ : ∃ y : Int32, y = dgD (ix x5) := ⟨_, rfl⟩
    replace h := h v8 ev8
    refine V.istore (y := v8) (lo' := [some (.ref (w.1 0)), some (.long x1), none, some (.ref (w.1 54)), some (.int x4), some (.int x5), some (.int v8)]) hC d_P_digest_353 rfl ev8 rfl ?_
    refine V.ldc2 (v := 31) hC d_P_digest_355 ql_P_316 ?_
    refine V.lload_n hC d_P_digest_358 rfl rfl ?_
    refine V.lmul hC d_P_digest_359 ?_
    refine V.aload_n hC d_P_digest_360 rfl rfl ?_
    refine V.iload hC d_P_digest_361 rfl ?_
    refine V.callVI hC exC (w_P_coin w σ v8 _ h) d_P_digest_363 mo_P_coin qm_P_361 rfl rfl rfl rfl rfl rfl rfl (Nat.le_of_ble_eq_true rfl) (fun r9 t10 h => ?_)
    refine V.i2l hC d_P_digest_366 ?_
    refine V.ladd hC d_P_digest_367 ?_
    obtain ⟨v11, ev11⟩ : ∃ y : Int64, y = ((31 : Int64) * x1) + (r9.toInt64) := ⟨_, rfl⟩
    replace h := h v11 ev11
    refine V.lstore_n (y := v11) (lo' := [some (.ref (w.1 0)), some (.long v11), none, some (.ref (w.1 54)), some (.int x4), some (.int x5), some (.int v8)]) hC d_P_digest_368 rfl rfl ev11 rfl ?_
    refine V.ldc2 (v := 31) hC d_P_digest_369 ql_P_316 ?_
    refine V.lload_n hC d_P_digest_372 rfl rfl ?_
    refine V.lmul hC d_P_digest_373 ?_
    refine V.aload_n hC d_P_digest_374 rfl rfl ?_
    refine V.iload hC d_P_digest_375 rfl ?_
    refine V.callVI hC exC (w_P_richest w t10 v8 _ h) d_P_digest_377 mo_P_richest qm_P_364 rfl rfl rfl rfl rfl rfl rfl (Nat.le_of_ble_eq_true rfl) (fun r12 t13 h => ?_)
    refine V.i2l hC d_P_digest_380 ?_
    refine V.ladd hC d_P_digest_381 ?_
    obtain ⟨v14, ev14⟩ : ∃ y : Int64, y = ((31 : Int64) * v11) + (r12.toInt64) := ⟨_, rfl⟩
    replace h := h v14 ev14
    refine V.lstore_n (y := v14) (lo' := [some (.ref (w.1 0)), some (.long v14), none, some (.ref (w.1 54)), some (.int x4), some (.int x5), some (.int v8)]) hC d_P_digest_382 rfl rfl ev14 rfl ?_
    refine V.ldc2 (v := 31) hC d_P_digest_383 ql_P_316 ?_
    refine V.lload_n hC d_P_digest_386 rfl rfl ?_
    refine V.lmul hC d_P_digest_387 ?_
    refine V.aload_n hC d_P_digest_388 rfl rfl ?_
    refine V.iload hC d_P_digest_389 rfl ?_
    refine V.callVI hC exC (w_P_payments w t13 v8 _ h) d_P_digest_391 mo_P_payments qm_P_367 rfl rfl rfl rfl rfl rfl rfl (Nat.le_of_ble_eq_true rfl) (fun r15 t16 h => ?_)
    refine V.i2l hC d_P_digest_394 ?_
    refine V.ladd hC d_P_digest_395 ?_
    obtain ⟨v17, ev17⟩ : ∃ y : Int64, y = ((31 : Int64) * v14) + (r15.toInt64) := ⟨_, rfl⟩
    replace h := h v17 ev17
    refine V.lstore_n (y := v17) (lo' := [some (.ref (w.1 0)), some (.long v17), none, some (.ref (w.1 54)), some (.int x4), some (.int x5), some (.int v8)]) hC d_P_digest_396 rfl rfl ev17 rfl ?_
    refine V.ldc2 (v := 31) hC d_P_digest_397 ql_P_316 ?_
    refine V.lload_n hC d_P_digest_400 rfl rfl ?_
    refine V.lmul hC d_P_digest_401 ?_
    refine V.aload_n hC d_P_digest_402 rfl rfl ?_
    refine V.iload hC d_P_digest_403 rfl ?_
    refine V.iconst (v := 0) hC d_P_digest_405 (by decide) ?_
    refine V.callVI hC exC (w_P_rings w t16 v8 (0 : Int32) _ h) d_P_digest_406 mo_P_rings qm_P_370 rfl rfl rfl rfl rfl rfl rfl (Nat.le_of_ble_eq_true rfl) (fun r18 t19 h => ?_)
    refine V.i2l hC d_P_digest_409 ?_
    refine V.ladd hC d_P_digest_410 ?_
    obtain ⟨v20, ev20⟩ : ∃ y : Int64, y = ((31 : Int64) * v17) + (r18.toInt64) := ⟨_, rfl⟩
    replace h := h v20 ev20
    refine V.lstore_n (y := v20) (lo' := [some (.ref (w.1 0)), some (.long v20), none, some (.ref (w.1 54)), some (.int x4), some (.int x5), some (.int v8)]) hC d_P_digest_411 rfl rfl ev20 rfl ?_
    refine V.ldc2 (v := 31) hC d_P_digest_412 ql_P_316 ?_
    refine V.lload_n hC d_P_digest_415 rfl rfl ?_
    refine V.lmul hC d_P_digest_416 ?_
    refine V.aload_n hC d_P_digest_417 rfl rfl ?_
    refine V.iload hC d_P_digest_418 rfl ?_
    refine V.iconst (v := 1) hC d_P_digest_420 (by decide) ?_
    refine V.callVI hC exC (w_P_rings w t19 v8 (1 : Int32) _ h) d_P_digest_421 mo_P_rings qm_P_370 rfl rfl rfl rfl rfl rfl rfl (Nat.le_of_ble_eq_true rfl) (fun r21 t22 h => ?_)
    refine V.i2l hC d_P_digest_424 ?_
    refine V.ladd hC d_P_digest_425 ?_
    obtain ⟨v23, ev23⟩ : ∃ y : Int64, y = ((31 : Int64) * v20) + (r21.toInt64) := ⟨_, rfl⟩
    replace h := h v23 ev23
    refine V.lstore_n (y := v23) (lo' := [some (.ref (w.1 0)), some (.long v23), none, some (.ref (w.1 54)), some (.int x4), some (.int x5), some (.int v8)]) hC d_P_digest_426 rfl rfl ev23 rfl ?_
    refine V.ldc2 (v := 31) hC d_P_digest_427 ql_P_316 ?_
    refine V.lload_n hC d_P_digest_430 rfl rfl ?_
    refine V.lmul hC d_P_digest_431 ?_
    refine V.aload_n hC d_P_digest_432 rfl rfl ?_
    refine V.iload hC d_P_digest_433 rfl ?_
    refine V.iconst (v := -1) hC d_P_digest_435 (by decide) ?_
    refine V.callVI hC exC (w_P_drop w t22 v8 (-1 : Int32) _ h) d_P_digest_436 mo_P_drop qm_P_373 rfl rfl rfl rfl rfl rfl rfl (Nat.le_of_ble_eq_true rfl) (fun r24 t25 h => ?_)
    refine V.i2l hC d_P_digest_439 ?_
    refine V.ladd hC d_P_digest_440 ?_
    obtain ⟨v26, ev26⟩ : ∃ y : Int64, y = ((31 : Int64) * v23) + (r24.toInt64) := ⟨_, rfl⟩
    replace h := h v26 ev26
    refine V.lstore_n (y := v26) (lo' := [some (.ref (w.1 0)), some (.long v26), none, some (.ref (w.1 54)), some (.int x4), some (.int x5), some (.int v8)]) hC d_P_digest_441 rfl rfl ev26 rfl ?_
    refine V.ldc2 (v := 31) hC d_P_digest_442 ql_P_316 ?_
    refine V.lload_n hC d_P_digest_445 rfl rfl ?_
    refine V.lmul hC d_P_digest_446 ?_
    refine V.aload_n hC d_P_digest_447 rfl rfl ?_
    refine V.iload hC d_P_digest_448 rfl ?_
    refine V.iconst (v := 0) hC d_P_digest_450 (by decide) ?_
    refine V.callVI hC exC (w_P_drop w t25 v8 (0 : Int32) _ h) d_P_digest_451 mo_P_drop qm_P_373 rfl rfl rfl rfl rfl rfl rfl (Nat.le_of_ble_eq_true rfl) (fun r27 t28 h => ?_)
    refine V.i2l hC d_P_digest_454 ?_
    refine V.ladd hC d_P_digest_455 ?_
    obtain ⟨v29, ev29⟩ : ∃ y : Int64, y = ((31 : Int64) * v26) + (r27.toInt64) := ⟨_, rfl⟩
    replace h := h v29 ev29
    refine V.lstore_n (y := v29) (lo' := [some (.ref (w.1 0)), some (.long v29), none, some (.ref (w.1 54)), some (.int x4), some (.int x5), some (.int v8)]) hC d_P_digest_456 rfl rfl ev29 rfl ?_
    refine V.ldc2 (v := 31) hC d_P_digest_457 ql_P_316 ?_
    refine V.lload_n hC d_P_digest_460 rfl rfl ?_
    refine V.lmul hC d_P_digest_461 ?_
    refine V.aload_n hC d_P_digest_462 rfl rfl ?_
    refine V.iload hC d_P_digest_463 rfl ?_
    refine V.callVI hC exC (w_P_ask w t28 v8 _ h) d_P_digest_465 mo_P_ask qm_P_376 rfl rfl rfl rfl rfl rfl rfl (Nat.le_of_ble_eq_true rfl) (fun r30 t31 h => ?_)
    refine V.i2l hC d_P_digest_468 ?_
    refine V.ladd hC d_P_digest_469 ?_
    obtain ⟨v32, ev32⟩ : ∃ y : Int64, y = ((31 : Int64) * v29) + (r30.toInt64) := ⟨_, rfl⟩
    replace h := h v32 ev32
    refine V.lstore_n (y := v32) (lo' := [some (.ref (w.1 0)), some (.long v32), none, some (.ref (w.1 54)), some (.int x4), some (.int x5), some (.int v8)]) hC d_P_digest_470 rfl rfl ev32 rfl ?_
    obtain ⟨v33, ev33⟩ : ∃ y : Int32, y = x5 + (1 : Int32) := ⟨_, rfl⟩
    replace h := h v33 ev33
    refine V.iinc (y := v33) (lo' := [some (.ref (w.1 0)), some (.long v32), none, some (.ref (w.1 54)), some (.int x4), some (.int v33), some (.int v8)]) hC d_P_digest_471 rfl rfl (show v33 = _ + Int32.ofInt (1) from ev33) rfl ?_
    refine V.goto (tgt := 342) hC d_P_digest_474 (by decide) ?_
    exact V.msk [true, true, false, true, true, true, false] rfl h
set_option maxHeartbeats 4000000 in
set_option maxRecDepth 100000 in
theorem wj_P_digest_275 {w : Wd} {κ : Kx} {P : Int64 → Hp → Prop} (hC : Cx μC w 7 κ nC7 b_P_digest 16) (hR : RtL μC w 7 κ b_P_digest P)  : ∀ (σ : Hp) (x1 : Int64) (x3 : Int32), j_P_digest_275  P  σ x1 x3 → V μC w 7 κ σ [some (.ref (w.1 0)), some (.long x1), none, some (.int x3), none, none, none] 275 [] := by
  intro σ x1 x3 h
  refine h (fun σ x1 x3 => V μC w 7 κ σ [some (.ref (w.1 0)), some (.long x1), none, some (.int x3), none, none, none] 275 []) (fun σ x1 x3 h => ?_)
  unfold b_P_digest_275_ at h
  refine V.iload_n hC d_P_digest_275 rfl rfl ?_
  refine V.iconst (v := 3) hC d_P_digest_276 (by decide) ?_
  refine V.icmp_ge (tgt := 331) hC d_P_digest_277 (by decide) (fun c34 => ?_) (fun c34 => ?_)
  · replace h := h.1 c34
    refine V.gets hC d_P_digest_331 (exDays w) qf_P_358 ?_
    refine V.astore_n (lo' := [some (.ref (w.1 0)), some (.long x1), none, some (.ref (w.1 54)), none, none, none]) hC d_P_digest_334 rfl rfl rfl ?_
    refine V.aload_n hC d_P_digest_335 rfl rfl ?_
    refine V.tlen (v := 3) hC d_P_digest_336 (exDayT w) rfl ?_
    refine V.istore (y := (3 : Int32)) (lo' := [some (.ref (w.1 0)), some (.long x1), none, some (.ref (w.1 54)), some (.int (3 : Int32)), none, none]) hC d_P_digest_337 rfl rfl rfl ?_
    refine V.iconst (v := 0) hC d_P_digest_339 (by decide) ?_
    refine V.istore (y := (0 : Int32)) (lo' := [some (.ref (w.1 0)), some (.long x1), none, some (.ref (w.1 54)), some (.int (3 : Int32)), some (.int (0 : Int32)), none]) hC d_P_digest_340 rfl rfl rfl ?_
    exact V.msk [true, true, false, true, true, true, false] rfl (wj_P_digest_342  hC hR  σ x1 (3 : Int32) (0 : Int32) h)
  · replace h := h.2 c34
    refine V.ldc2 (v := 31) hC d_P_digest_280 ql_P_316 ?_
    refine V.lload_n hC d_P_digest_283 rfl rfl ?_
    refine V.lmul hC d_P_digest_284 ?_
    refine V.aload_n hC d_P_digest_285 rfl rfl ?_
    refine V.iload_n hC d_P_digest_286 rfl rfl ?_
    refine V.callVI hC exC (w_P_rate w σ x3 _ h) d_P_digest_287 mo_P_rate qm_P_352 rfl rfl rfl rfl rfl rfl rfl (Nat.le_of_ble_eq_true rfl) (fun r35 t36 h => ?_)
    refine V.i2l hC d_P_digest_290 ?_
    refine V.ladd hC d_P_digest_291 ?_
    obtain ⟨v37, ev37⟩ : ∃ y : Int64, y = ((31 : Int64) * x1) + (r35.toInt64) := ⟨_, rfl⟩
    replace h := h v37 ev37
    refine V.lstore_n (y := v37) (lo' := [some (.ref (w.1 0)), some (.long v37), none, some (.int x3), none, none, none]) hC d_P_digest_292 rfl rfl ev37 rfl ?_
    refine V.ldc2 (v := 31) hC d_P_digest_293 ql_P_316 ?_
    refine V.lload_n hC d_P_digest_296 rfl rfl ?_
    refine V.lmul hC d_P_digest_297 ?_
    refine V.aload_n hC d_P_digest_298 rfl rfl ?_
    refine V.bipush (v := 9) hC d_P_digest_299 (by decide) ?_
    refine V.iload_n hC d_P_digest_301 rfl rfl ?_
    refine V.iconst (v := 0) hC d_P_digest_302 (by decide) ?_
    refine V.callVI hC exC (w_P_fair w t36 (9 : Int32) x3 (0 : Int32) _ h) d_P_digest_303 mo_P_fair qm_P_355 rfl rfl rfl rfl rfl rfl rfl (Nat.le_of_ble_eq_true rfl) (fun r38 t39 h => ?_)
    refine V.i2l hC d_P_digest_306 ?_
    refine V.ladd hC d_P_digest_307 ?_
    obtain ⟨v40, ev40⟩ : ∃ y : Int64, y = ((31 : Int64) * v37) + (r38.toInt64) := ⟨_, rfl⟩
    replace h := h v40 ev40
    refine V.lstore_n (y := v40) (lo' := [some (.ref (w.1 0)), some (.long v40), none, some (.int x3), none, none, none]) hC d_P_digest_308 rfl rfl ev40 rfl ?_
    refine V.ldc2 (v := 31) hC d_P_digest_309 ql_P_316 ?_
    refine V.lload_n hC d_P_digest_312 rfl rfl ?_
    refine V.lmul hC d_P_digest_313 ?_
    refine V.aload_n hC d_P_digest_314 rfl rfl ?_
    refine V.bipush (v := 9) hC d_P_digest_315 (by decide) ?_
    refine V.iload_n hC d_P_digest_317 rfl rfl ?_
    refine V.iconst (v := 1) hC d_P_digest_318 (by decide) ?_
    refine V.callVI hC exC (w_P_fair w t39 (9 : Int32) x3 (1 : Int32) _ h) d_P_digest_319 mo_P_fair qm_P_355 rfl rfl rfl rfl rfl rfl rfl (Nat.le_of_ble_eq_true rfl) (fun r41 t42 h => ?_)
    refine V.i2l hC d_P_digest_322 ?_
    refine V.ladd hC d_P_digest_323 ?_
    obtain ⟨v43, ev43⟩ : ∃ y : Int64, y = ((31 : Int64) * v40) + (r41.toInt64) := ⟨_, rfl⟩
    replace h := h v43 ev43
    refine V.lstore_n (y := v43) (lo' := [some (.ref (w.1 0)), some (.long v43), none, some (.int x3), none, none, none]) hC d_P_digest_324 rfl rfl ev43 rfl ?_
    obtain ⟨v44, ev44⟩ : ∃ y : Int32, y = x3 + (1 : Int32) := ⟨_, rfl⟩
    replace h := h v44 ev44
    refine V.iinc (y := v44) (lo' := [some (.ref (w.1 0)), some (.long v43), none, some (.int v44), none, none, none]) hC d_P_digest_325 rfl rfl (show v44 = _ + Int32.ofInt (1) from ev44) rfl ?_
    refine V.goto (tgt := 275) hC d_P_digest_328 (by decide) ?_
    exact V.msk [true, true, false, true, false, false, false] rfl h
set_option maxHeartbeats 4000000 in
set_option maxRecDepth 100000 in
theorem wj_P_digest_176 {w : Wd} {κ : Kx} {P : Int64 → Hp → Prop} (hC : Cx μC w 7 κ nC7 b_P_digest 16) (hR : RtL μC w 7 κ b_P_digest P) {I59 : Hp → Int64 → Int32 → Prop} (hI59 : ∀ σ x1 x3, I59 σ x1 x3 → V μC w 7 κ σ [some (.ref (w.1 0)), some (.long x1), none, some (.int x3), none, none, none] 59 []) : ∀ (σ : Hp) (x1 : Int64) (x3 : Int32) (x4 : Int32), j_P_digest_176  P I59 σ x1 x3 x4 → V μC w 7 κ σ [some (.ref (w.1 0)), some (.long x1), none, some (.int x3), some (.int x4), none, none] 176 [] := by
  intro σ x1 x3 x4 h
  refine h (fun σ x1 x3 x4 => V μC w 7 κ σ [some (.ref (w.1 0)), some (.long x1), none, some (.int x3), some (.int x4), none, none] 176 []) (fun σ x1 x3 x4 h => ?_)
  unfold b_P_digest_176_ at h
  refine V.iload hC d_P_digest_176 rfl ?_
  refine V.iconst (v := 2) hC d_P_digest_178 (by decide) ?_
  refine V.icmp_gt (tgt := 205) hC d_P_digest_179 (by decide) (fun c45 => ?_) (fun c45 => ?_)
  · replace h := h.1 c45
    refine V.ldc2 (v := 31) hC d_P_digest_205 ql_P_316 ?_
    refine V.lload_n hC d_P_digest_208 rfl rfl ?_
    refine V.lmul hC d_P_digest_209 ?_
    refine V.aload_n hC d_P_digest_210 rfl rfl ?_
    refine V.iload_n hC d_P_digest_211 rfl rfl ?_
    refine V.callVI hC exC (w_P_leaked w σ x3 _ h) d_P_digest_212 mo_P_leaked qm_P_342 rfl rfl rfl rfl rfl rfl rfl (Nat.le_of_ble_eq_true rfl) (fun r46 t47 h => ?_)
    refine V.i2l hC d_P_digest_215 ?_
    refine V.ladd hC d_P_digest_216 ?_
    obtain ⟨v48, ev48⟩ : ∃ y : Int64, y = ((31 : Int64) * x1) + (r46.toInt64) := ⟨_, rfl⟩
    replace h := h v48 ev48
    refine V.lstore_n (y := v48) (lo' := [some (.ref (w.1 0)), some (.long v48), none, some (.int x3), some (.int x4), none, none]) hC d_P_digest_217 rfl rfl ev48 rfl ?_
    refine V.ldc2 (v := 31) hC d_P_digest_218 ql_P_316 ?_
    refine V.lload_n hC d_P_digest_221 rfl rfl ?_
    refine V.lmul hC d_P_digest_222 ?_
    refine V.aload_n hC d_P_digest_223 rfl rfl ?_
    refine V.iconst (v := 5) hC d_P_digest_224 (by decide) ?_
    refine V.bipush (v := 9) hC d_P_digest_225 (by decide) ?_
    refine V.iload_n hC d_P_digest_227 rfl rfl ?_
    refine V.iconst (v := 0) hC d_P_digest_228 (by decide) ?_
    refine V.callVL hC exC (w_P_court w t47 (5 : Int32) (9 : Int32) x3 (0 : Int32) _ h) d_P_digest_229 mo_P_court qm_P_345 rfl rfl rfl rfl rfl rfl rfl (Nat.le_of_ble_eq_true rfl) (fun r49 t50 h => ?_)
    refine V.ladd hC d_P_digest_232 ?_
    obtain ⟨v51, ev51⟩ : ∃ y : Int64, y = ((31 : Int64) * v48) + r49 := ⟨_, rfl⟩
    replace h := h v51 ev51
    refine V.lstore_n (y := v51) (lo' := [some (.ref (w.1 0)), some (.long v51), none, some (.int x3), some (.int x4), none, none]) hC d_P_digest_233 rfl rfl ev51 rfl ?_
    refine V.ldc2 (v := 31) hC d_P_digest_234 ql_P_316 ?_
    refine V.lload_n hC d_P_digest_237 rfl rfl ?_
    refine V.lmul hC d_P_digest_238 ?_
    refine V.aload_n hC d_P_digest_239 rfl rfl ?_
    refine V.iconst (v := 5) hC d_P_digest_240 (by decide) ?_
    refine V.bipush (v := 9) hC d_P_digest_241 (by decide) ?_
    refine V.iload_n hC d_P_digest_243 rfl rfl ?_
    refine V.iconst (v := 1) hC d_P_digest_244 (by decide) ?_
    refine V.callVL hC exC (w_P_court w t50 (5 : Int32) (9 : Int32) x3 (1 : Int32) _ h) d_P_digest_245 mo_P_court qm_P_345 rfl rfl rfl rfl rfl rfl rfl (Nat.le_of_ble_eq_true rfl) (fun r52 t53 h => ?_)
    refine V.ladd hC d_P_digest_248 ?_
    obtain ⟨v54, ev54⟩ : ∃ y : Int64, y = ((31 : Int64) * v51) + r52 := ⟨_, rfl⟩
    replace h := h v54 ev54
    refine V.lstore_n (y := v54) (lo' := [some (.ref (w.1 0)), some (.long v54), none, some (.int x3), some (.int x4), none, none]) hC d_P_digest_249 rfl rfl ev54 rfl ?_
    refine V.ldc2 (v := 31) hC d_P_digest_250 ql_P_316 ?_
    refine V.lload_n hC d_P_digest_253 rfl rfl ?_
    refine V.lmul hC d_P_digest_254 ?_
    refine V.aload_n hC d_P_digest_255 rfl rfl ?_
    refine V.bipush (v := 7) hC d_P_digest_256 (by decide) ?_
    refine V.bipush (v := 20) hC d_P_digest_258 (by decide) ?_
    refine V.iload_n hC d_P_digest_260 rfl rfl ?_
    refine V.callVI hC exC (w_P_month w t53 (7 : Int32) (20 : Int32) x3 _ h) d_P_digest_261 mo_P_month qm_P_349 rfl rfl rfl rfl rfl rfl rfl (Nat.le_of_ble_eq_true rfl) (fun r55 t56 h => ?_)
    refine V.i2l hC d_P_digest_264 ?_
    refine V.ladd hC d_P_digest_265 ?_
    obtain ⟨v57, ev57⟩ : ∃ y : Int64, y = ((31 : Int64) * v54) + (r55.toInt64) := ⟨_, rfl⟩
    replace h := h v57 ev57
    refine V.lstore_n (y := v57) (lo' := [some (.ref (w.1 0)), some (.long v57), none, some (.int x3), some (.int x4), none, none]) hC d_P_digest_266 rfl rfl ev57 rfl ?_
    obtain ⟨v58, ev58⟩ : ∃ y : Int32, y = x3 + (1 : Int32) := ⟨_, rfl⟩
    replace h := h v58 ev58
    refine V.iinc (y := v58) (lo' := [some (.ref (w.1 0)), some (.long v57), none, some (.int v58), some (.int x4), none, none]) hC d_P_digest_267 rfl rfl (show v58 = _ + Int32.ofInt (1) from ev58) rfl ?_
    refine V.goto (tgt := 59) hC d_P_digest_270 (by decide) ?_
    exact V.msk [true, true, false, true, false, false, false] rfl (hI59 t56 v57 v58 h)
  · replace h := h.2 c45
    refine V.ldc2 (v := 31) hC d_P_digest_182 ql_P_316 ?_
    refine V.lload_n hC d_P_digest_185 rfl rfl ?_
    refine V.lmul hC d_P_digest_186 ?_
    refine V.aload_n hC d_P_digest_187 rfl rfl ?_
    refine V.bipush (v := 9) hC d_P_digest_188 (by decide) ?_
    refine V.iload_n hC d_P_digest_190 rfl rfl ?_
    refine V.iload hC d_P_digest_191 rfl ?_
    refine V.callVI hC exC (w_P_build w σ (9 : Int32) x3 x4 _ h) d_P_digest_193 mo_P_build qm_P_339 rfl rfl rfl rfl rfl rfl rfl (Nat.le_of_ble_eq_true rfl) (fun r59 t60 h => ?_)
    refine V.i2l hC d_P_digest_196 ?_
    refine V.ladd hC d_P_digest_197 ?_
    obtain ⟨v61, ev61⟩ : ∃ y : Int64, y = ((31 : Int64) * x1) + (r59.toInt64) := ⟨_, rfl⟩
    replace h := h v61 ev61
    refine V.lstore_n (y := v61) (lo' := [some (.ref (w.1 0)), some (.long v61), none, some (.int x3), some (.int x4), none, none]) hC d_P_digest_198 rfl rfl ev61 rfl ?_
    obtain ⟨v62, ev62⟩ : ∃ y : Int32, y = x4 + (1 : Int32) := ⟨_, rfl⟩
    replace h := h v62 ev62
    refine V.iinc (y := v62) (lo' := [some (.ref (w.1 0)), some (.long v61), none, some (.int x3), some (.int v62), none, none]) hC d_P_digest_199 rfl rfl (show v62 = _ + Int32.ofInt (1) from ev62) rfl ?_
    refine V.goto (tgt := 176) hC d_P_digest_202 (by decide) ?_
    exact V.msk [true, true, false, true, true, false, false] rfl h
set_option maxHeartbeats 4000000 in
set_option maxRecDepth 100000 in
theorem wj_P_digest_73 {w : Wd} {κ : Kx} {P : Int64 → Hp → Prop} (hC : Cx μC w 7 κ nC7 b_P_digest 16) (hR : RtL μC w 7 κ b_P_digest P) {I59 : Hp → Int64 → Int32 → Prop} (hI59 : ∀ σ x1 x3, I59 σ x1 x3 → V μC w 7 κ σ [some (.ref (w.1 0)), some (.long x1), none, some (.int x3), none, none, none] 59 []) : ∀ (σ : Hp) (x1 : Int64) (x3 : Int32) (x4 : Int32), j_P_digest_73  P I59 σ x1 x3 x4 → V μC w 7 κ σ [some (.ref (w.1 0)), some (.long x1), none, some (.int x3), some (.int x4), none, none] 73 [] := by
  intro σ x1 x3 x4 h
  refine h (fun σ x1 x3 x4 => V μC w 7 κ σ [some (.ref (w.1 0)), some (.long x1), none, some (.int x3), some (.int x4), none, none] 73 []) (fun σ x1 x3 x4 h => ?_)
  unfold b_P_digest_73_ at h
  refine V.iload hC d_P_digest_73 rfl ?_
  refine V.iconst (v := 3) hC d_P_digest_75 (by decide) ?_
  refine V.icmp_gt (tgt := 100) hC d_P_digest_76 (by decide) (fun c63 => ?_) (fun c63 => ?_)
  · replace h := h.1 c63
    refine V.ldc2 (v := 31) hC d_P_digest_100 ql_P_316 ?_
    refine V.lload_n hC d_P_digest_103 rfl rfl ?_
    refine V.lmul hC d_P_digest_104 ?_
    refine V.aload_n hC d_P_digest_105 rfl rfl ?_
    refine V.iconst (v := 0) hC d_P_digest_106 (by decide) ?_
    refine V.iload_n hC d_P_digest_107 rfl rfl ?_
    refine V.callVI hC exC (w_P_through w σ (0 : Int32) x3 _ h) d_P_digest_108 mo_P_through qm_P_327 rfl rfl rfl rfl rfl rfl rfl (Nat.le_of_ble_eq_true rfl) (fun r64 t65 h => ?_)
    refine V.i2l hC d_P_digest_111 ?_
    refine V.ladd hC d_P_digest_112 ?_
    obtain ⟨v66, ev66⟩ : ∃ y : Int64, y = ((31 : Int64) * x1) + (r64.toInt64) := ⟨_, rfl⟩
    replace h := h v66 ev66
    refine V.lstore_n (y := v66) (lo' := [some (.ref (w.1 0)), some (.long v66), none, some (.int x3), some (.int x4), none, none]) hC d_P_digest_113 rfl rfl ev66 rfl ?_
    refine V.ldc2 (v := 31) hC d_P_digest_114 ql_P_316 ?_
    refine V.lload_n hC d_P_digest_117 rfl rfl ?_
    refine V.lmul hC d_P_digest_118 ?_
    refine V.aload_n hC d_P_digest_119 rfl rfl ?_
    refine V.bipush (v := 9) hC d_P_digest_120 (by decide) ?_
    refine V.iconst (v := 0) hC d_P_digest_122 (by decide) ?_
    refine V.iload_n hC d_P_digest_123 rfl rfl ?_
    refine V.callVI hC exC (w_P_owes w t65 (9 : Int32) (0 : Int32) x3 _ h) d_P_digest_124 mo_P_owes qm_P_330 rfl rfl rfl rfl rfl rfl rfl (Nat.le_of_ble_eq_true rfl) (fun r67 t68 h => ?_)
    refine V.i2l hC d_P_digest_127 ?_
    refine V.ladd hC d_P_digest_128 ?_
    obtain ⟨v69, ev69⟩ : ∃ y : Int64, y = ((31 : Int64) * v66) + (r67.toInt64) := ⟨_, rfl⟩
    replace h := h v69 ev69
    refine V.lstore_n (y := v69) (lo' := [some (.ref (w.1 0)), some (.long v69), none, some (.int x3), some (.int x4), none, none]) hC d_P_digest_129 rfl rfl ev69 rfl ?_
    refine V.ldc2 (v := 31) hC d_P_digest_130 ql_P_316 ?_
    refine V.lload_n hC d_P_digest_133 rfl rfl ?_
    refine V.lmul hC d_P_digest_134 ?_
    refine V.aload_n hC d_P_digest_135 rfl rfl ?_
    refine V.bipush (v := 9) hC d_P_digest_136 (by decide) ?_
    refine V.iload_n hC d_P_digest_138 rfl rfl ?_
    refine V.callVI hC exC (w_P_balance w t68 (9 : Int32) x3 _ h) d_P_digest_139 mo_P_balance qm_P_333 rfl rfl rfl rfl rfl rfl rfl (Nat.le_of_ble_eq_true rfl) (fun r70 t71 h => ?_)
    refine V.i2l hC d_P_digest_142 ?_
    refine V.ladd hC d_P_digest_143 ?_
    obtain ⟨v72, ev72⟩ : ∃ y : Int64, y = ((31 : Int64) * v69) + (r70.toInt64) := ⟨_, rfl⟩
    replace h := h v72 ev72
    refine V.lstore_n (y := v72) (lo' := [some (.ref (w.1 0)), some (.long v72), none, some (.int x3), some (.int x4), none, none]) hC d_P_digest_144 rfl rfl ev72 rfl ?_
    refine V.ldc2 (v := 31) hC d_P_digest_145 ql_P_316 ?_
    refine V.lload_n hC d_P_digest_148 rfl rfl ?_
    refine V.lmul hC d_P_digest_149 ?_
    refine V.aload_n hC d_P_digest_150 rfl rfl ?_
    refine V.bipush (v := 29) hC d_P_digest_151 (by decide) ?_
    refine V.iload_n hC d_P_digest_153 rfl rfl ?_
    refine V.callVI hC exC (w_P_balance w t71 (29 : Int32) x3 _ h) d_P_digest_154 mo_P_balance qm_P_333 rfl rfl rfl rfl rfl rfl rfl (Nat.le_of_ble_eq_true rfl) (fun r73 t74 h => ?_)
    refine V.i2l hC d_P_digest_157 ?_
    refine V.ladd hC d_P_digest_158 ?_
    obtain ⟨v75, ev75⟩ : ∃ y : Int64, y = ((31 : Int64) * v72) + (r73.toInt64) := ⟨_, rfl⟩
    replace h := h v75 ev75
    refine V.lstore_n (y := v75) (lo' := [some (.ref (w.1 0)), some (.long v75), none, some (.int x3), some (.int x4), none, none]) hC d_P_digest_159 rfl rfl ev75 rfl ?_
    refine V.ldc2 (v := 31) hC d_P_digest_160 ql_P_316 ?_
    refine V.lload_n hC d_P_digest_163 rfl rfl ?_
    refine V.lmul hC d_P_digest_164 ?_
    refine V.aload_n hC d_P_digest_165 rfl rfl ?_
    refine V.iload_n hC d_P_digest_166 rfl rfl ?_
    refine V.callVI hC exC (w_P_broke w t74 x3 _ h) d_P_digest_167 mo_P_broke qm_P_336 rfl rfl rfl rfl rfl rfl rfl (Nat.le_of_ble_eq_true rfl) (fun r76 t77 h => ?_)
    refine V.i2l hC d_P_digest_170 ?_
    refine V.ladd hC d_P_digest_171 ?_
    obtain ⟨v78, ev78⟩ : ∃ y : Int64, y = ((31 : Int64) * v75) + (r76.toInt64) := ⟨_, rfl⟩
    replace h := h v78 ev78
    refine V.lstore_n (y := v78) (lo' := [some (.ref (w.1 0)), some (.long v78), none, some (.int x3), some (.int x4), none, none]) hC d_P_digest_172 rfl rfl ev78 rfl ?_
    refine V.iconst (v := 0) hC d_P_digest_173 (by decide) ?_
    refine V.istore (y := (0 : Int32)) (lo' := [some (.ref (w.1 0)), some (.long v78), none, some (.int x3), some (.int (0 : Int32)), none, none]) hC d_P_digest_174 rfl rfl rfl ?_
    exact V.msk [true, true, false, true, true, false, false] rfl (wj_P_digest_176  hC hR hI59 t77 v78 x3 (0 : Int32) h)
  · replace h := h.2 c63
    refine V.ldc2 (v := 31) hC d_P_digest_79 ql_P_316 ?_
    refine V.lload_n hC d_P_digest_82 rfl rfl ?_
    refine V.lmul hC d_P_digest_83 ?_
    refine V.aload_n hC d_P_digest_84 rfl rfl ?_
    refine V.iload_n hC d_P_digest_85 rfl rfl ?_
    refine V.iload hC d_P_digest_86 rfl ?_
    refine V.callVI hC exC (w_P_house w σ x3 x4 _ h) d_P_digest_88 mo_P_house qm_P_324 rfl rfl rfl rfl rfl rfl rfl (Nat.le_of_ble_eq_true rfl) (fun r79 t80 h => ?_)
    refine V.i2l hC d_P_digest_91 ?_
    refine V.ladd hC d_P_digest_92 ?_
    obtain ⟨v81, ev81⟩ : ∃ y : Int64, y = ((31 : Int64) * x1) + (r79.toInt64) := ⟨_, rfl⟩
    replace h := h v81 ev81
    refine V.lstore_n (y := v81) (lo' := [some (.ref (w.1 0)), some (.long v81), none, some (.int x3), some (.int x4), none, none]) hC d_P_digest_93 rfl rfl ev81 rfl ?_
    obtain ⟨v82, ev82⟩ : ∃ y : Int32, y = x4 + (1 : Int32) := ⟨_, rfl⟩
    replace h := h v82 ev82
    refine V.iinc (y := v82) (lo' := [some (.ref (w.1 0)), some (.long v81), none, some (.int x3), some (.int v82), none, none]) hC d_P_digest_94 rfl rfl (show v82 = _ + Int32.ofInt (1) from ev82) rfl ?_
    refine V.goto (tgt := 73) hC d_P_digest_97 (by decide) ?_
    exact V.msk [true, true, false, true, true, false, false] rfl h
set_option maxHeartbeats 4000000 in
set_option maxRecDepth 100000 in
theorem wj_P_digest_59 {w : Wd} {κ : Kx} {P : Int64 → Hp → Prop} (hC : Cx μC w 7 κ nC7 b_P_digest 16) (hR : RtL μC w 7 κ b_P_digest P)  : ∀ (σ : Hp) (x1 : Int64) (x3 : Int32), j_P_digest_59  P  σ x1 x3 → V μC w 7 κ σ [some (.ref (w.1 0)), some (.long x1), none, some (.int x3), none, none, none] 59 [] := by
  intro σ x1 x3 h
  refine h (fun σ x1 x3 => V μC w 7 κ σ [some (.ref (w.1 0)), some (.long x1), none, some (.int x3), none, none, none] 59 []) (fun σ x1 x3 h => ?_)
  unfold b_P_digest_59_ at h
  refine V.iload_n hC d_P_digest_59 rfl rfl ?_
  refine V.aload_n hC d_P_digest_60 rfl rfl ?_
  refine V.getR (j := 3) hC d_P_digest_61 rfl rfl uC7 rfl rfl qf_P_36 ?_
  refine V.getI (j := 6) hC d_P_digest_64 rfl rfl uC5 rfl rfl qf_P_196 ?_
  refine V.icmp_ge (tgt := 273) hC d_P_digest_67 (by decide) (fun c83 => ?_) (fun c83 => ?_)
  · replace h := h.1 c83
    refine V.iconst (v := 0) hC d_P_digest_273 (by decide) ?_
    refine V.istore_n (y := (0 : Int32)) (lo' := [some (.ref (w.1 0)), some (.long x1), none, some (.int (0 : Int32)), none, none, none]) hC d_P_digest_274 rfl rfl rfl rfl ?_
    exact V.msk [true, true, false, true, false, false, false] rfl (wj_P_digest_275  hC hR  σ x1 (0 : Int32) h)
  · replace h := h.2 c83
    refine V.iconst (v := 0) hC d_P_digest_70 (by decide) ?_
    refine V.istore (y := (0 : Int32)) (lo' := [some (.ref (w.1 0)), some (.long x1), none, some (.int x3), some (.int (0 : Int32)), none, none]) hC d_P_digest_71 rfl rfl rfl ?_
    exact V.msk [true, true, false, true, true, false, false] rfl (wj_P_digest_73  hC hR (fun _ _ _ h => h) σ x1 x3 (0 : Int32) h)
set_option maxHeartbeats 4000000 in
set_option maxRecDepth 100000 in
theorem wj_P_digest_33 {w : Wd} {κ : Kx} {P : Int64 → Hp → Prop} (hC : Cx μC w 7 κ nC7 b_P_digest 16) (hR : RtL μC w 7 κ b_P_digest P)  : ∀ (σ : Hp) (x1 : Int64) (x3 : Int32), j_P_digest_33  P  σ x1 x3 → V μC w 7 κ σ [some (.ref (w.1 0)), some (.long x1), none, some (.int x3), none, none, none] 33 [] := by
  intro σ x1 x3 h
  refine h (fun σ x1 x3 => V μC w 7 κ σ [some (.ref (w.1 0)), some (.long x1), none, some (.int x3), none, none, none] 33 []) (fun σ x1 x3 h => ?_)
  unfold b_P_digest_33_ at h
  refine V.iload_n hC d_P_digest_33 rfl rfl ?_
  refine V.iconst (v := 1) hC d_P_digest_34 (by decide) ?_
  refine V.icmp_gt (tgt := 57) hC d_P_digest_35 (by decide) (fun c84 => ?_) (fun c84 => ?_)
  · replace h := h.1 c84
    refine V.iconst (v := 0) hC d_P_digest_57 (by decide) ?_
    refine V.istore_n (y := (0 : Int32)) (lo' := [some (.ref (w.1 0)), some (.long x1), none, some (.int (0 : Int32)), none, none, none]) hC d_P_digest_58 rfl rfl rfl rfl ?_
    exact V.msk [true, true, false, true, false, false, false] rfl (wj_P_digest_59  hC hR  σ x1 (0 : Int32) h)
  · replace h := h.2 c84
    refine V.ldc2 (v := 31) hC d_P_digest_38 ql_P_316 ?_
    refine V.lload_n hC d_P_digest_41 rfl rfl ?_
    refine V.lmul hC d_P_digest_42 ?_
    refine V.aload_n hC d_P_digest_43 rfl rfl ?_
    refine V.iload_n hC d_P_digest_44 rfl rfl ?_
    refine V.callVI hC exC (w_P_fault w σ x3 _ h) d_P_digest_45 mo_P_fault qm_P_321 rfl rfl rfl rfl rfl rfl rfl (Nat.le_of_ble_eq_true rfl) (fun r85 t86 h => ?_)
    refine V.i2l hC d_P_digest_48 ?_
    refine V.ladd hC d_P_digest_49 ?_
    obtain ⟨v87, ev87⟩ : ∃ y : Int64, y = ((31 : Int64) * x1) + (r85.toInt64) := ⟨_, rfl⟩
    replace h := h v87 ev87
    refine V.lstore_n (y := v87) (lo' := [some (.ref (w.1 0)), some (.long v87), none, some (.int x3), none, none, none]) hC d_P_digest_50 rfl rfl ev87 rfl ?_
    obtain ⟨v88, ev88⟩ : ∃ y : Int32, y = x3 + (1 : Int32) := ⟨_, rfl⟩
    replace h := h v88 ev88
    refine V.iinc (y := v88) (lo' := [some (.ref (w.1 0)), some (.long v87), none, some (.int v88), none, none, none]) hC d_P_digest_51 rfl rfl (show v88 = _ + Int32.ofInt (1) from ev88) rfl ?_
    refine V.goto (tgt := 33) hC d_P_digest_54 (by decide) ?_
    exact V.msk [true, true, false, true, false, false, false] rfl h
set_option maxHeartbeats 4000000 in
set_option maxRecDepth 100000 in
theorem wj_P_digest_6 {w : Wd} {κ : Kx} {P : Int64 → Hp → Prop} (hC : Cx μC w 7 κ nC7 b_P_digest 16) (hR : RtL μC w 7 κ b_P_digest P)  : ∀ (σ : Hp) (x1 : Int64) (x3 : Int32), j_P_digest_6  P  σ x1 x3 → V μC w 7 κ σ [some (.ref (w.1 0)), some (.long x1), none, some (.int x3), none, none, none] 6 [] := by
  intro σ x1 x3 h
  refine h (fun σ x1 x3 => V μC w 7 κ σ [some (.ref (w.1 0)), some (.long x1), none, some (.int x3), none, none, none] 6 []) (fun σ x1 x3 h => ?_)
  unfold b_P_digest_6_ at h
  refine V.iload_n hC d_P_digest_6 rfl rfl ?_
  refine V.bipush (v := 7) hC d_P_digest_7 (by decide) ?_
  refine V.icmp_gt (tgt := 31) hC d_P_digest_9 (by decide) (fun c89 => ?_) (fun c89 => ?_)
  · replace h := h.1 c89
    refine V.iconst (v := 0) hC d_P_digest_31 (by decide) ?_
    refine V.istore_n (y := (0 : Int32)) (lo' := [some (.ref (w.1 0)), some (.long x1), none, some (.int (0 : Int32)), none, none, none]) hC d_P_digest_32 rfl rfl rfl rfl ?_
    exact V.msk [true, true, false, true, false, false, false] rfl (wj_P_digest_33  hC hR  σ x1 (0 : Int32) h)
  · replace h := h.2 c89
    refine V.ldc2 (v := 31) hC d_P_digest_12 ql_P_316 ?_
    refine V.lload_n hC d_P_digest_15 rfl rfl ?_
    refine V.lmul hC d_P_digest_16 ?_
    refine V.aload_n hC d_P_digest_17 rfl rfl ?_
    refine V.iload_n hC d_P_digest_18 rfl rfl ?_
    refine V.callVI hC exC (w_P_count w σ x3 _ h) d_P_digest_19 mo_P_count qm_P_318 rfl rfl rfl rfl rfl rfl rfl (Nat.le_of_ble_eq_true rfl) (fun r90 t91 h => ?_)
    refine V.i2l hC d_P_digest_22 ?_
    refine V.ladd hC d_P_digest_23 ?_
    obtain ⟨v92, ev92⟩ : ∃ y : Int64, y = ((31 : Int64) * x1) + (r90.toInt64) := ⟨_, rfl⟩
    replace h := h v92 ev92
    refine V.lstore_n (y := v92) (lo' := [some (.ref (w.1 0)), some (.long v92), none, some (.int x3), none, none, none]) hC d_P_digest_24 rfl rfl ev92 rfl ?_
    obtain ⟨v93, ev93⟩ : ∃ y : Int32, y = x3 + (1 : Int32) := ⟨_, rfl⟩
    replace h := h v93 ev93
    refine V.iinc (y := v93) (lo' := [some (.ref (w.1 0)), some (.long v92), none, some (.int v93), none, none, none]) hC d_P_digest_25 rfl rfl (show v93 = _ + Int32.ofInt (1) from ev93) rfl ?_
    refine V.goto (tgt := 6) hC d_P_digest_28 (by decide) ?_
    exact V.msk [true, true, false, true, false, false, false] rfl h
set_option maxHeartbeats 4000000 in
set_option maxRecDepth 100000 in
theorem w_P_digest (w : Wd) (σ : Hp)  (P : Int64 → Hp → Prop) (h : wp_P_digest σ  P) : CtL μC w y_P_digest b_P_digest 7 (some .long) 16 [.ref (w.1 0)] σ P := by
  unfold wp_P_digest at h
  refine CtL.ofV (C := nC7) (lo := [some (.ref (w.1 0)), none, none, none, none, none, none]) exC (by decide +kernel) rfl rfl rfl (fun κ hC hR => ?_)
  refine V.ldc2 (v := 17) hC d_P_digest_0 ql_P_314 ?_
  refine V.lstore_n (y := (17 : Int64)) (lo' := [some (.ref (w.1 0)), some (.long (17 : Int64)), none, none, none, none, none]) hC d_P_digest_3 rfl rfl rfl rfl ?_
  refine V.iconst (v := 0) hC d_P_digest_4 (by decide) ?_
  refine V.istore_n (y := (0 : Int32)) (lo' := [some (.ref (w.1 0)), some (.long (17 : Int64)), none, some (.int (0 : Int32)), none, none, none]) hC d_P_digest_5 rfl rfl rfl rfl ?_
  exact V.msk [true, true, false, true, false, false, false] rfl (wj_P_digest_6  hC hR  σ (17 : Int64) (0 : Int32) h)
