abbrev b_R_suit : ByteArray := prog_10_method_29_code
def y_R_suit : MethodName := ⟨nC8, "suit", "(III)I"⟩
theorem d_R_suit_0 : decode b_R_suit 0 = .ok (.iload_n 1, 1) := by decide +kernel
theorem d_R_suit_1 : decode b_R_suit 1 = .ok (.invokestatic 151, 3) := by decide +kernel
theorem d_R_suit_4 : decode b_R_suit 4 = .ok (.ifCond .eq 22, 3) := by decide +kernel
theorem d_R_suit_7 : decode b_R_suit 7 = .ok (.iload_n 2, 1) := by decide +kernel
theorem d_R_suit_8 : decode b_R_suit 8 = .ok (.invokestatic 154, 3) := by decide +kernel
theorem d_R_suit_11 : decode b_R_suit 11 = .ok (.ifCond .eq 15, 3) := by decide +kernel
theorem d_R_suit_14 : decode b_R_suit 14 = .ok (.iload_n 3, 1) := by decide +kernel
theorem d_R_suit_15 : decode b_R_suit 15 = .ok (.invokestatic 154, 3) := by decide +kernel
theorem d_R_suit_18 : decode b_R_suit 18 = .ok (.ifCond .eq 8, 3) := by decide +kernel
theorem d_R_suit_21 : decode b_R_suit 21 = .ok (.iload_n 2, 1) := by decide +kernel
theorem d_R_suit_22 : decode b_R_suit 22 = .ok (.iload_n 3, 1) := by decide +kernel
theorem d_R_suit_23 : decode b_R_suit 23 = .ok (.if_icmp .ne 6, 3) := by decide +kernel
theorem d_R_suit_26 : decode b_R_suit 26 = .ok (.bipush (-2), 2) := by decide +kernel
theorem d_R_suit_28 : decode b_R_suit 28 = .ok (.ireturn, 1) := by decide +kernel
theorem d_R_suit_29 : decode b_R_suit 29 = .ok (.aload_n 0, 1) := by decide +kernel
theorem d_R_suit_30 : decode b_R_suit 30 = .ok (.getfield 157, 3) := by decide +kernel
theorem d_R_suit_33 : decode b_R_suit 33 = .ok (.bipush 12, 2) := by decide +kernel
theorem d_R_suit_35 : decode b_R_suit 35 = .ok (.if_icmp .ne 6, 3) := by decide +kernel
theorem d_R_suit_38 : decode b_R_suit 38 = .ok (.bipush (-4), 2) := by decide +kernel
theorem d_R_suit_40 : decode b_R_suit 40 = .ok (.ireturn, 1) := by decide +kernel
theorem d_R_suit_41 : decode b_R_suit 41 = .ok (.aload_n 0, 1) := by decide +kernel
theorem d_R_suit_42 : decode b_R_suit 42 = .ok (.getfield 34, 3) := by decide +kernel
theorem d_R_suit_45 : decode b_R_suit 45 = .ok (.aload_n 0, 1) := by decide +kernel
theorem d_R_suit_46 : decode b_R_suit 46 = .ok (.getfield 157, 3) := by decide +kernel
theorem d_R_suit_49 : decode b_R_suit 49 = .ok (.iload_n 1, 1) := by decide +kernel
theorem d_R_suit_50 : decode b_R_suit 50 = .ok (.iastore, 1) := by decide +kernel
theorem d_R_suit_51 : decode b_R_suit 51 = .ok (.aload_n 0, 1) := by decide +kernel
theorem d_R_suit_52 : decode b_R_suit 52 = .ok (.getfield 37, 3) := by decide +kernel
theorem d_R_suit_55 : decode b_R_suit 55 = .ok (.aload_n 0, 1) := by decide +kernel
theorem d_R_suit_56 : decode b_R_suit 56 = .ok (.getfield 157, 3) := by decide +kernel
theorem d_R_suit_59 : decode b_R_suit 59 = .ok (.iload_n 2, 1) := by decide +kernel
theorem d_R_suit_60 : decode b_R_suit 60 = .ok (.iastore, 1) := by decide +kernel
theorem d_R_suit_61 : decode b_R_suit 61 = .ok (.aload_n 0, 1) := by decide +kernel
theorem d_R_suit_62 : decode b_R_suit 62 = .ok (.getfield 40, 3) := by decide +kernel
theorem d_R_suit_65 : decode b_R_suit 65 = .ok (.aload_n 0, 1) := by decide +kernel
theorem d_R_suit_66 : decode b_R_suit 66 = .ok (.getfield 157, 3) := by decide +kernel
theorem d_R_suit_69 : decode b_R_suit 69 = .ok (.iload_n 3, 1) := by decide +kernel
theorem d_R_suit_70 : decode b_R_suit 70 = .ok (.iastore, 1) := by decide +kernel
theorem d_R_suit_71 : decode b_R_suit 71 = .ok (.aload_n 0, 1) := by decide +kernel
theorem d_R_suit_72 : decode b_R_suit 72 = .ok (.dup, 1) := by decide +kernel
theorem d_R_suit_73 : decode b_R_suit 73 = .ok (.getfield 157, 3) := by decide +kernel
theorem d_R_suit_76 : decode b_R_suit 76 = .ok (.iconst 1, 1) := by decide +kernel
theorem d_R_suit_77 : decode b_R_suit 77 = .ok (.iadd, 1) := by decide +kernel
theorem d_R_suit_78 : decode b_R_suit 78 = .ok (.putfield 157, 3) := by decide +kernel
theorem d_R_suit_81 : decode b_R_suit 81 = .ok (.aload_n 0, 1) := by decide +kernel
theorem d_R_suit_82 : decode b_R_suit 82 = .ok (.getfield 157, 3) := by decide +kernel
theorem d_R_suit_85 : decode b_R_suit 85 = .ok (.ireturn, 1) := by decide +kernel
theorem qf_R_157 : Cond.fieldLink nC8 157 (fC8 10).1 (fC8 10).2.1 (fC8 10).2.2.1 ∈ tbl := tbl_in 878 (by decide +kernel) rfl
theorem qf_R_34 : Cond.fieldLink nC8 34 (fC8 11).1 (fC8 11).2.1 (fC8 11).2.2.1 ∈ tbl := tbl_in 879 (by decide +kernel) rfl
theorem qf_R_37 : Cond.fieldLink nC8 37 (fC8 12).1 (fC8 12).2.1 (fC8 12).2.2.1 ∈ tbl := tbl_in 880 (by decide +kernel) rfl
theorem qf_R_40 : Cond.fieldLink nC8 40 (fC8 13).1 (fC8 13).2.1 (fC8 13).2.2.1 ∈ tbl := tbl_in 881 (by decide +kernel) rfl
theorem qm_R_151 : Cond.methodLink nC8 151 y_R_isDay ∈ tbl := tbl_in 1060 (by decide +kernel) rfl
theorem qm_R_154 : Cond.methodLink nC8 154 y_R_isEight ∈ tbl := tbl_in 1063 (by decide +kernel) rfl
theorem mo_R_suit : MokV y_R_suit b_R_suit 4 (some .int) 3 := ⟨⟨(tbl_in 1059 (by decide +kernel) rfl), (tbl_in 70 (by decide +kernel) rfl)⟩, ⟨(tbl_in 1057 (by decide +kernel) rfl), tbl_lw _ (tbl_in 1058 (by decide +kernel) rfl), (tbl_in 1058 (by decide +kernel) rfl)⟩, ⟨by decide +kernel, by decide +kernel⟩, by decide +kernel⟩
def wp_R_suit (σ : Hp) (a1 : Int32) (a2 : Int32) (a3 : Int32) (P : Int32 → Hp → Prop) : Prop :=
  wp_R_isDay σ a1 (fun (r1 : Int32) (t2 : Hp) => ((r1 = 0 → P (-2 : Int32) t2) ∧ (¬ r1 = 0 → wp_R_isEight t2 a2 (fun (r4 : Int32) (t5 : Hp) => ((r4 = 0 → P (-2 : Int32) t5) ∧ (¬ r4 = 0 → wp_R_isEight t5 a3 (fun (r7 : Int32) (t8 : Hp) => ((r7 = 0 → P (-2 : Int32) t8) ∧ (¬ r7 = 0 → ((¬ a2 = a3 → ((¬ (t8 0 10) = (12 : Int32) → (vp_in (t8 0 10) 12) ∧ (vp_in ((st t8 9 (ix (t8 0 10)) a1) 0 10) 12) ∧ (vp_in ((st (st t8 9 (ix (t8 0 10)) a1) 10 (ix ((st t8 9 (ix (t8 0 10)) a1) 0 10)) a2) 0 10) 12) ∧ P ((st (st (st (st t8 9 (ix (t8 0 10)) a1) 10 (ix ((st t8 9 (ix (t8 0 10)) a1) 0 10)) a2) 11 (ix ((st (st t8 9 (ix (t8 0 10)) a1) 10 (ix ((st t8 9 (ix (t8 0 10)) a1) 0 10)) a2) 0 10)) a3) 0 10 (((st (st (st t8 9 (ix (t8 0 10)) a1) 10 (ix ((st t8 9 (ix (t8 0 10)) a1) 0 10)) a2) 11 (ix ((st (st t8 9 (ix (t8 0 10)) a1) 10 (ix ((st t8 9 (ix (t8 0 10)) a1) 0 10)) a2) 0 10)) a3) 0 10) + (1 : Int32))) 0 10) (st (st (st (st t8 9 (ix (t8 0 10)) a1) 10 (ix ((st t8 9 (ix (t8 0 10)) a1) 0 10)) a2) 11 (ix ((st (st t8 9 (ix (t8 0 10)) a1) 10 (ix ((st t8 9 (ix (t8 0 10)) a1) 0 10)) a2) 0 10)) a3) 0 10 (((st (st (st t8 9 (ix (t8 0 10)) a1) 10 (ix ((st t8 9 (ix (t8 0 10)) a1) 0 10)) a2) 11 (ix ((st (st t8 9 (ix (t8 0 10)) a1) 10 (ix ((st t8 9 (ix (t8 0 10)) a1) 0 10)) a2) 0 10)) a3) 0 10) + (1 : Int32)))) ∧ ((t8 0 10) = (12 : Int32) → P (-4 : Int32) t8))) ∧ (a2 = a3 → P (-2 : Int32) t8)))))))))))
set_option maxHeartbeats 4000000 in
set_option maxRecDepth 100000 in
theorem w_R_suit (w : Wd) (σ : Hp) (a1 : Int32) (a2 : Int32) (a3 : Int32) (P : Int32 → Hp → Prop) (h : wp_R_suit σ a1 a2 a3 P) : CtI μR w y_R_suit b_R_suit 4 (some .int) 2 [.ref (w.1 0), .int a1, .int a2, .int a3] σ P := by
  unfold wp_R_suit at h
  refine CtI.ofV (C := nC8) (lo := [some (.ref (w.1 0)), some (.int a1), some (.int a2), some (.int a3)]) exR (by decide +kernel) rfl rfl rfl (fun κ hC hR => ?_)
  refine V.iload_n hC d_R_suit_0 rfl rfl ?_
  refine V.callSI hC exR (w_R_isDay w σ a1 _ h) d_R_suit_1 mo_R_isDay qm_R_151 rfl rfl rfl rfl (Nat.le_of_ble_eq_true rfl) (fun r1 t2 h => ?_)
  refine V.if_eq (tgt := 26) hC d_R_suit_4 (by decide) (fun c3 => ?_) (fun c3 => ?_)
  · replace h := h.1 c3
    refine V.bipush (v := -2) hC d_R_suit_26 (by decide) ?_
    exact hR _ _ _ _ h rfl d_R_suit_28
  · replace h := h.2 c3
    refine V.iload_n hC d_R_suit_7 rfl rfl ?_
    refine V.callSI hC exR (w_R_isEight w t2 a2 _ h) d_R_suit_8 mo_R_isEight qm_R_154 rfl rfl rfl rfl (Nat.le_of_ble_eq_true rfl) (fun r4 t5 h => ?_)
    refine V.if_eq (tgt := 26) hC d_R_suit_11 (by decide) (fun c6 => ?_) (fun c6 => ?_)
    · replace h := h.1 c6
      refine V.bipush (v := -2) hC d_R_suit_26 (by decide) ?_
      exact hR _ _ _ _ h rfl d_R_suit_28
    · replace h := h.2 c6
      refine V.iload_n hC d_R_suit_14 rfl rfl ?_
      refine V.callSI hC exR (w_R_isEight w t5 a3 _ h) d_R_suit_15 mo_R_isEight qm_R_154 rfl rfl rfl rfl (Nat.le_of_ble_eq_true rfl) (fun r7 t8 h => ?_)
      refine V.if_eq (tgt := 26) hC d_R_suit_18 (by decide) (fun c9 => ?_) (fun c9 => ?_)
      · replace h := h.1 c9
        refine V.bipush (v := -2) hC d_R_suit_26 (by decide) ?_
        exact hR _ _ _ _ h rfl d_R_suit_28
      · replace h := h.2 c9
        refine V.iload_n hC d_R_suit_21 rfl rfl ?_
        refine V.iload_n hC d_R_suit_22 rfl rfl ?_
        refine V.icmp_ne (tgt := 29) hC d_R_suit_23 (by decide) (fun c10 => ?_) (fun c10 => ?_)
        · replace h := h.1 c10
          refine V.aload_n hC d_R_suit_29 rfl rfl ?_
          refine V.getI (j := 10) hC d_R_suit_30 rfl rfl uC8 rfl rfl qf_R_157 ?_
          refine V.bipush (v := 12) hC d_R_suit_33 (by decide) ?_
          refine V.icmp_ne (tgt := 41) hC d_R_suit_35 (by decide) (fun c11 => ?_) (fun c11 => ?_)
          · replace h := h.1 c11
            refine V.aload_n hC d_R_suit_41 rfl rfl ?_
            refine V.getR (j := 11) hC d_R_suit_42 rfl rfl uC8 rfl rfl qf_R_34 ?_
            refine V.aload_n hC d_R_suit_45 rfl rfl ?_
            refine V.getI (j := 10) hC d_R_suit_46 rfl rfl uC8 rfl rfl qf_R_157 ?_
            refine V.iload_n hC d_R_suit_49 rfl rfl ?_
            obtain ⟨b12, h⟩ := h
            refine V.iast hC d_R_suit_50 rfl b12 ?_
            refine V.aload_n hC d_R_suit_51 rfl rfl ?_
            refine V.getR (j := 12) hC d_R_suit_52 rfl rfl uC8 rfl rfl qf_R_37 ?_
            refine V.aload_n hC d_R_suit_55 rfl rfl ?_
            refine V.getI (j := 10) hC d_R_suit_56 rfl rfl uC8 rfl rfl qf_R_157 ?_
            refine V.iload_n hC d_R_suit_59 rfl rfl ?_
            obtain ⟨b13, h⟩ := h
            refine V.iast hC d_R_suit_60 rfl b13 ?_
            refine V.aload_n hC d_R_suit_61 rfl rfl ?_
            refine V.getR (j := 13) hC d_R_suit_62 rfl rfl uC8 rfl rfl qf_R_40 ?_
            refine V.aload_n hC d_R_suit_65 rfl rfl ?_
            refine V.getI (j := 10) hC d_R_suit_66 rfl rfl uC8 rfl rfl qf_R_157 ?_
            refine V.iload_n hC d_R_suit_69 rfl rfl ?_
            obtain ⟨b14, h⟩ := h
            refine V.iast hC d_R_suit_70 rfl b14 ?_
            refine V.aload_n hC d_R_suit_71 rfl rfl ?_
            refine V.dup hC d_R_suit_72 rfl ?_
            refine V.getI (j := 10) hC d_R_suit_73 rfl rfl uC8 rfl rfl qf_R_157 ?_
            refine V.iconst (v := 1) hC d_R_suit_76 (by decide) ?_
            refine V.iadd hC d_R_suit_77 ?_
            refine V.put (j := 10) hC d_R_suit_78 rfl rfl uC8 pC8 dC8 rfl rfl rfl rfl rfl qf_R_157 ?_
            refine V.aload_n hC d_R_suit_81 rfl rfl ?_
            refine V.getI (j := 10) hC d_R_suit_82 rfl rfl uC8 rfl rfl qf_R_157 ?_
            exact hR _ _ _ _ h rfl d_R_suit_85
          · replace h := h.2 c11
            refine V.bipush (v := -4) hC d_R_suit_38 (by decide) ?_
            exact hR _ _ _ _ h rfl d_R_suit_40
        · replace h := h.2 c10
          refine V.bipush (v := -2) hC d_R_suit_26 (by decide) ?_
          exact hR _ _ _ _ h rfl d_R_suit_28
abbrev b_R_shut : ByteArray := prog_10_method_30_code
def y_R_shut : MethodName := ⟨nC8, "shut", "(II)I"⟩
theorem d_R_shut_0 : decode b_R_shut 0 = .ok (.iload_n 1, 1) := by decide +kernel
theorem d_R_shut_1 : decode b_R_shut 1 = .ok (.invokestatic 151, 3) := by decide +kernel
theorem d_R_shut_4 : decode b_R_shut 4 = .ok (.ifCond .eq 10, 3) := by decide +kernel
theorem d_R_shut_7 : decode b_R_shut 7 = .ok (.iload_n 2, 1) := by decide +kernel
theorem d_R_shut_8 : decode b_R_shut 8 = .ok (.invokestatic 154, 3) := by decide +kernel
theorem d_R_shut_11 : decode b_R_shut 11 = .ok (.ifCond .ne 6, 3) := by decide +kernel
theorem d_R_shut_14 : decode b_R_shut 14 = .ok (.bipush (-2), 2) := by decide +kernel
theorem d_R_shut_16 : decode b_R_shut 16 = .ok (.ireturn, 1) := by decide +kernel
theorem d_R_shut_17 : decode b_R_shut 17 = .ok (.aload_n 0, 1) := by decide +kernel
theorem d_R_shut_18 : decode b_R_shut 18 = .ok (.getfield 160, 3) := by decide +kernel
theorem d_R_shut_21 : decode b_R_shut 21 = .ok (.bipush 8, 2) := by decide +kernel
theorem d_R_shut_23 : decode b_R_shut 23 = .ok (.if_icmp .ne 6, 3) := by decide +kernel
theorem d_R_shut_26 : decode b_R_shut 26 = .ok (.bipush (-4), 2) := by decide +kernel
theorem d_R_shut_28 : decode b_R_shut 28 = .ok (.ireturn, 1) := by decide +kernel
theorem d_R_shut_29 : decode b_R_shut 29 = .ok (.aload_n 0, 1) := by decide +kernel
theorem d_R_shut_30 : decode b_R_shut 30 = .ok (.getfield 43, 3) := by decide +kernel
theorem d_R_shut_33 : decode b_R_shut 33 = .ok (.aload_n 0, 1) := by decide +kernel
theorem d_R_shut_34 : decode b_R_shut 34 = .ok (.getfield 160, 3) := by decide +kernel
theorem d_R_shut_37 : decode b_R_shut 37 = .ok (.iload_n 1, 1) := by decide +kernel
theorem d_R_shut_38 : decode b_R_shut 38 = .ok (.iastore, 1) := by decide +kernel
theorem d_R_shut_39 : decode b_R_shut 39 = .ok (.aload_n 0, 1) := by decide +kernel
theorem d_R_shut_40 : decode b_R_shut 40 = .ok (.getfield 46, 3) := by decide +kernel
theorem d_R_shut_43 : decode b_R_shut 43 = .ok (.aload_n 0, 1) := by decide +kernel
theorem d_R_shut_44 : decode b_R_shut 44 = .ok (.getfield 160, 3) := by decide +kernel
theorem d_R_shut_47 : decode b_R_shut 47 = .ok (.iload_n 2, 1) := by decide +kernel
theorem d_R_shut_48 : decode b_R_shut 48 = .ok (.iastore, 1) := by decide +kernel
theorem d_R_shut_49 : decode b_R_shut 49 = .ok (.aload_n 0, 1) := by decide +kernel
theorem d_R_shut_50 : decode b_R_shut 50 = .ok (.dup, 1) := by decide +kernel
theorem d_R_shut_51 : decode b_R_shut 51 = .ok (.getfield 160, 3) := by decide +kernel
theorem d_R_shut_54 : decode b_R_shut 54 = .ok (.iconst 1, 1) := by decide +kernel
theorem d_R_shut_55 : decode b_R_shut 55 = .ok (.iadd, 1) := by decide +kernel
theorem d_R_shut_56 : decode b_R_shut 56 = .ok (.putfield 160, 3) := by decide +kernel
theorem d_R_shut_59 : decode b_R_shut 59 = .ok (.aload_n 0, 1) := by decide +kernel
theorem d_R_shut_60 : decode b_R_shut 60 = .ok (.getfield 160, 3) := by decide +kernel
theorem d_R_shut_63 : decode b_R_shut 63 = .ok (.ireturn, 1) := by decide +kernel
theorem qf_R_160 : Cond.fieldLink nC8 160 (fC8 14).1 (fC8 14).2.1 (fC8 14).2.2.1 ∈ tbl := tbl_in 882 (by decide +kernel) rfl
theorem qf_R_43 : Cond.fieldLink nC8 43 (fC8 15).1 (fC8 15).2.1 (fC8 15).2.2.1 ∈ tbl := tbl_in 883 (by decide +kernel) rfl
theorem qf_R_46 : Cond.fieldLink nC8 46 (fC8 16).1 (fC8 16).2.1 (fC8 16).2.2.1 ∈ tbl := tbl_in 884 (by decide +kernel) rfl
def wp_R_shut (σ : Hp) (a1 : Int32) (a2 : Int32) (P : Int32 → Hp → Prop) : Prop :=
  wp_R_isDay σ a1 (fun (r1 : Int32) (t2 : Hp) => ((r1 = 0 → P (-2 : Int32) t2) ∧ (¬ r1 = 0 → wp_R_isEight t2 a2 (fun (r4 : Int32) (t5 : Hp) => ((¬ r4 = 0 → ((¬ (t5 0 14) = (8 : Int32) → (vp_in (t5 0 14) 8) ∧ (vp_in ((st t5 12 (ix (t5 0 14)) a1) 0 14) 8) ∧ P ((st (st (st t5 12 (ix (t5 0 14)) a1) 13 (ix ((st t5 12 (ix (t5 0 14)) a1) 0 14)) a2) 0 14 (((st (st t5 12 (ix (t5 0 14)) a1) 13 (ix ((st t5 12 (ix (t5 0 14)) a1) 0 14)) a2) 0 14) + (1 : Int32))) 0 14) (st (st (st t5 12 (ix (t5 0 14)) a1) 13 (ix ((st t5 12 (ix (t5 0 14)) a1) 0 14)) a2) 0 14 (((st (st t5 12 (ix (t5 0 14)) a1) 13 (ix ((st t5 12 (ix (t5 0 14)) a1) 0 14)) a2) 0 14) + (1 : Int32)))) ∧ ((t5 0 14) = (8 : Int32) → P (-4 : Int32) t5))) ∧ (r4 = 0 → P (-2 : Int32) t5))))))
set_option maxHeartbeats 4000000 in
set_option maxRecDepth 100000 in
theorem w_R_shut (w : Wd) (σ : Hp) (a1 : Int32) (a2 : Int32) (P : Int32 → Hp → Prop) (h : wp_R_shut σ a1 a2 P) : CtI μR w y_R_shut b_R_shut 3 (some .int) 2 [.ref (w.1 0), .int a1, .int a2] σ P := by
  unfold wp_R_shut at h
  refine CtI.ofV (C := nC8) (lo := [some (.ref (w.1 0)), some (.int a1), some (.int a2)]) exR (by decide +kernel) rfl rfl rfl (fun κ hC hR => ?_)
  refine V.iload_n hC d_R_shut_0 rfl rfl ?_
  refine V.callSI hC exR (w_R_isDay w σ a1 _ h) d_R_shut_1 mo_R_isDay qm_R_151 rfl rfl rfl rfl (Nat.le_of_ble_eq_true rfl) (fun r1 t2 h => ?_)
  refine V.if_eq (tgt := 14) hC d_R_shut_4 (by decide) (fun c3 => ?_) (fun c3 => ?_)
  · replace h := h.1 c3
    refine V.bipush (v := -2) hC d_R_shut_14 (by decide) ?_
    exact hR _ _ _ _ h rfl d_R_shut_16
  · replace h := h.2 c3
    refine V.iload_n hC d_R_shut_7 rfl rfl ?_
    refine V.callSI hC exR (w_R_isEight w t2 a2 _ h) d_R_shut_8 mo_R_isEight qm_R_154 rfl rfl rfl rfl (Nat.le_of_ble_eq_true rfl) (fun r4 t5 h => ?_)
    refine V.if_ne (tgt := 17) hC d_R_shut_11 (by decide) (fun c6 => ?_) (fun c6 => ?_)
    · replace h := h.1 c6
      refine V.aload_n hC d_R_shut_17 rfl rfl ?_
      refine V.getI (j := 14) hC d_R_shut_18 rfl rfl uC8 rfl rfl qf_R_160 ?_
      refine V.bipush (v := 8) hC d_R_shut_21 (by decide) ?_
      refine V.icmp_ne (tgt := 29) hC d_R_shut_23 (by decide) (fun c7 => ?_) (fun c7 => ?_)
      · replace h := h.1 c7
        refine V.aload_n hC d_R_shut_29 rfl rfl ?_
        refine V.getR (j := 15) hC d_R_shut_30 rfl rfl uC8 rfl rfl qf_R_43 ?_
        refine V.aload_n hC d_R_shut_33 rfl rfl ?_
        refine V.getI (j := 14) hC d_R_shut_34 rfl rfl uC8 rfl rfl qf_R_160 ?_
        refine V.iload_n hC d_R_shut_37 rfl rfl ?_
        obtain ⟨b8, h⟩ := h
        refine V.iast hC d_R_shut_38 rfl b8 ?_
        refine V.aload_n hC d_R_shut_39 rfl rfl ?_
        refine V.getR (j := 16) hC d_R_shut_40 rfl rfl uC8 rfl rfl qf_R_46 ?_
        refine V.aload_n hC d_R_shut_43 rfl rfl ?_
        refine V.getI (j := 14) hC d_R_shut_44 rfl rfl uC8 rfl rfl qf_R_160 ?_
        refine V.iload_n hC d_R_shut_47 rfl rfl ?_
        obtain ⟨b9, h⟩ := h
        refine V.iast hC d_R_shut_48 rfl b9 ?_
        refine V.aload_n hC d_R_shut_49 rfl rfl ?_
        refine V.dup hC d_R_shut_50 rfl ?_
        refine V.getI (j := 14) hC d_R_shut_51 rfl rfl uC8 rfl rfl qf_R_160 ?_
        refine V.iconst (v := 1) hC d_R_shut_54 (by decide) ?_
        refine V.iadd hC d_R_shut_55 ?_
        refine V.put (j := 14) hC d_R_shut_56 rfl rfl uC8 pC8 dC8 rfl rfl rfl rfl rfl qf_R_160 ?_
        refine V.aload_n hC d_R_shut_59 rfl rfl ?_
        refine V.getI (j := 14) hC d_R_shut_60 rfl rfl uC8 rfl rfl qf_R_160 ?_
        exact hR _ _ _ _ h rfl d_R_shut_63
      · replace h := h.2 c7
        refine V.bipush (v := -4) hC d_R_shut_26 (by decide) ?_
        exact hR _ _ _ _ h rfl d_R_shut_28
    · replace h := h.2 c6
      refine V.bipush (v := -2) hC d_R_shut_14 (by decide) ?_
      exact hR _ _ _ _ h rfl d_R_shut_16
abbrev b_R_back : ByteArray := prog_10_method_31_code
def y_R_back : MethodName := ⟨nC8, "back", "(I)I"⟩
theorem d_R_back_0 : decode b_R_back 0 = .ok (.iload_n 1, 1) := by decide +kernel
theorem d_R_back_1 : decode b_R_back 1 = .ok (.iconst 0, 1) := by decide +kernel
theorem d_R_back_2 : decode b_R_back 2 = .ok (.iconst 1, 1) := by decide +kernel
theorem d_R_back_3 : decode b_R_back 3 = .ok (.invokestatic 97, 3) := by decide +kernel
theorem d_R_back_6 : decode b_R_back 6 = .ok (.ifCond .ne 6, 3) := by decide +kernel
theorem d_R_back_9 : decode b_R_back 9 = .ok (.bipush (-2), 2) := by decide +kernel
theorem d_R_back_11 : decode b_R_back 11 = .ok (.ireturn, 1) := by decide +kernel
theorem d_R_back_12 : decode b_R_back 12 = .ok (.iload_n 1, 1) := by decide +kernel
theorem d_R_back_13 : decode b_R_back 13 = .ok (.ifCond .ne 10, 3) := by decide +kernel
theorem d_R_back_16 : decode b_R_back 16 = .ok (.aload_n 0, 1) := by decide +kernel
theorem d_R_back_17 : decode b_R_back 17 = .ok (.getfield 157, 3) := by decide +kernel
theorem d_R_back_20 : decode b_R_back 20 = .ok (.goto 7, 3) := by decide +kernel
theorem d_R_back_23 : decode b_R_back 23 = .ok (.aload_n 0, 1) := by decide +kernel
theorem d_R_back_24 : decode b_R_back 24 = .ok (.getfield 160, 3) := by decide +kernel
theorem d_R_back_27 : decode b_R_back 27 = .ok (.istore_n 2, 1) := by decide +kernel
theorem d_R_back_28 : decode b_R_back 28 = .ok (.iload_n 2, 1) := by decide +kernel
theorem d_R_back_29 : decode b_R_back 29 = .ok (.ifCond .ne 6, 3) := by decide +kernel
theorem d_R_back_32 : decode b_R_back 32 = .ok (.bipush (-3), 2) := by decide +kernel
theorem d_R_back_34 : decode b_R_back 34 = .ok (.ireturn, 1) := by decide +kernel
theorem d_R_back_35 : decode b_R_back 35 = .ok (.aload_n 0, 1) := by decide +kernel
theorem d_R_back_36 : decode b_R_back 36 = .ok (.dup, 1) := by decide +kernel
theorem d_R_back_37 : decode b_R_back 37 = .ok (.getfield 157, 3) := by decide +kernel
theorem d_R_back_40 : decode b_R_back 40 = .ok (.iload_n 1, 1) := by decide +kernel
theorem d_R_back_41 : decode b_R_back 41 = .ok (.ifCond .ne 7, 3) := by decide +kernel
theorem d_R_back_44 : decode b_R_back 44 = .ok (.iconst 1, 1) := by decide +kernel
theorem d_R_back_45 : decode b_R_back 45 = .ok (.goto 4, 3) := by decide +kernel
theorem d_R_back_48 : decode b_R_back 48 = .ok (.iconst 0, 1) := by decide +kernel
theorem d_R_back_49 : decode b_R_back 49 = .ok (.isub, 1) := by decide +kernel
theorem d_R_back_50 : decode b_R_back 50 = .ok (.putfield 157, 3) := by decide +kernel
theorem d_R_back_53 : decode b_R_back 53 = .ok (.aload_n 0, 1) := by decide +kernel
theorem d_R_back_54 : decode b_R_back 54 = .ok (.dup, 1) := by decide +kernel
theorem d_R_back_55 : decode b_R_back 55 = .ok (.getfield 160, 3) := by decide +kernel
theorem d_R_back_58 : decode b_R_back 58 = .ok (.iload_n 1, 1) := by decide +kernel
theorem d_R_back_59 : decode b_R_back 59 = .ok (.iconst 1, 1) := by decide +kernel
theorem d_R_back_60 : decode b_R_back 60 = .ok (.if_icmp .ne 7, 3) := by decide +kernel
theorem d_R_back_63 : decode b_R_back 63 = .ok (.iconst 1, 1) := by decide +kernel
theorem d_R_back_64 : decode b_R_back 64 = .ok (.goto 4, 3) := by decide +kernel
theorem d_R_back_67 : decode b_R_back 67 = .ok (.iconst 0, 1) := by decide +kernel
theorem d_R_back_68 : decode b_R_back 68 = .ok (.isub, 1) := by decide +kernel
theorem d_R_back_69 : decode b_R_back 69 = .ok (.putfield 160, 3) := by decide +kernel
theorem d_R_back_72 : decode b_R_back 72 = .ok (.iload_n 2, 1) := by decide +kernel
theorem d_R_back_73 : decode b_R_back 73 = .ok (.iconst 1, 1) := by decide +kernel
theorem d_R_back_74 : decode b_R_back 74 = .ok (.isub, 1) := by decide +kernel
theorem d_R_back_75 : decode b_R_back 75 = .ok (.ireturn, 1) := by decide +kernel
def j_R_back_49 (P : Int32 → Hp → Prop)  (σ : Hp) (x1 : Int32) (x2 : Int32) (s1 : Int32) (s2 : Int32) : Prop :=
  ((¬ x1 = (1 : Int32) → P (x2 - (1 : Int32)) (st (st σ 0 10 (s1 - s2)) 0 14 (((st σ 0 10 (s1 - s2)) 0 14) - (0 : Int32)))) ∧ (x1 = (1 : Int32) → P (x2 - (1 : Int32)) (st (st σ 0 10 (s1 - s2)) 0 14 (((st σ 0 10 (s1 - s2)) 0 14) - (1 : Int32)))))
def j_R_back_27 (P : Int32 → Hp → Prop)  (σ : Hp) (x1 : Int32) (s0 : Int32) : Prop :=
  ((¬ s0 = 0 → ((¬ x1 = 0 → j_R_back_49 P σ x1 s0 (σ 0 10) (0 : Int32)) ∧ (x1 = 0 → j_R_back_49 P σ x1 s0 (σ 0 10) (1 : Int32)))) ∧ (s0 = 0 → P (-3 : Int32) σ))
def wp_R_back (σ : Hp) (a1 : Int32) (P : Int32 → Hp → Prop) : Prop :=
  wp_R_in σ a1 (0 : Int32) (1 : Int32) (fun (r4 : Int32) (t5 : Hp) => ((¬ r4 = 0 → ((¬ a1 = 0 → j_R_back_27 P t5 a1 (t5 0 14)) ∧ (a1 = 0 → j_R_back_27 P t5 a1 (t5 0 10)))) ∧ (r4 = 0 → P (-2 : Int32) t5)))
set_option maxHeartbeats 4000000 in
set_option maxRecDepth 100000 in
theorem wj_R_back_49 {w : Wd} {κ : Kx} {P : Int32 → Hp → Prop} (hC : Cx μR w 3 κ nC8 b_R_back 1) (hR : RtI μR w 3 κ b_R_back .int P)  : ∀ (σ : Hp) (x1 : Int32) (x2 : Int32) (s1 : Int32) (s2 : Int32), j_R_back_49  P  σ x1 x2 s1 s2 → V μR w 3 κ σ [some (.ref (w.1 0)), some (.int x1), some (.int x2)] 49 [.int s2, .int s1, .ref (w.1 0)] := by
  intro σ x1 x2 s1 s2 h
  unfold j_R_back_49 at h
  refine V.isub hC d_R_back_49 ?_
  refine V.put (j := 10) hC d_R_back_50 rfl rfl uC8 pC8 dC8 rfl rfl rfl rfl rfl qf_R_157 ?_
  refine V.aload_n hC d_R_back_53 rfl rfl ?_
  refine V.dup hC d_R_back_54 rfl ?_
  refine V.getI (j := 14) hC d_R_back_55 rfl rfl uC8 rfl rfl qf_R_160 ?_
  refine V.iload_n hC d_R_back_58 rfl rfl ?_
  refine V.iconst (v := 1) hC d_R_back_59 (by decide) ?_
  refine V.icmp_ne (tgt := 67) hC d_R_back_60 (by decide) (fun c1 => ?_) (fun c1 => ?_)
  · replace h := h.1 c1
    refine V.iconst (v := 0) hC d_R_back_67 (by decide) ?_
    refine V.isub hC d_R_back_68 ?_
    refine V.put (j := 14) hC d_R_back_69 rfl rfl uC8 pC8 dC8 rfl rfl rfl rfl rfl qf_R_160 ?_
    refine V.iload_n hC d_R_back_72 rfl rfl ?_
    refine V.iconst (v := 1) hC d_R_back_73 (by decide) ?_
    refine V.isub hC d_R_back_74 ?_
    exact hR _ _ _ _ h rfl d_R_back_75
  · replace h := h.2 c1
    refine V.iconst (v := 1) hC d_R_back_63 (by decide) ?_
    refine V.goto (tgt := 68) hC d_R_back_64 (by decide) ?_
    refine V.isub hC d_R_back_68 ?_
    refine V.put (j := 14) hC d_R_back_69 rfl rfl uC8 pC8 dC8 rfl rfl rfl rfl rfl qf_R_160 ?_
    refine V.iload_n hC d_R_back_72 rfl rfl ?_
    refine V.iconst (v := 1) hC d_R_back_73 (by decide) ?_
    refine V.isub hC d_R_back_74 ?_
    exact hR _ _ _ _ h rfl d_R_back_75
set_option maxHeartbeats 4000000 in
set_option maxRecDepth 100000 in
theorem wj_R_back_27 {w : Wd} {κ : Kx} {P : Int32 → Hp → Prop} (hC : Cx μR w 3 κ nC8 b_R_back 1) (hR : RtI μR w 3 κ b_R_back .int P)  : ∀ (σ : Hp) (x1 : Int32) (s0 : Int32), j_R_back_27  P  σ x1 s0 → V μR w 3 κ σ [some (.ref (w.1 0)), some (.int x1), none] 27 [.int s0] := by
  intro σ x1 s0 h
  unfold j_R_back_27 at h
  refine V.istore_n (y := s0) (lo' := [some (.ref (w.1 0)), some (.int x1), some (.int s0)]) hC d_R_back_27 rfl rfl rfl rfl ?_
  refine V.iload_n hC d_R_back_28 rfl rfl ?_
  refine V.if_ne (tgt := 35) hC d_R_back_29 (by decide) (fun c2 => ?_) (fun c2 => ?_)
  · replace h := h.1 c2
    refine V.aload_n hC d_R_back_35 rfl rfl ?_
    refine V.dup hC d_R_back_36 rfl ?_
    refine V.getI (j := 10) hC d_R_back_37 rfl rfl uC8 rfl rfl qf_R_157 ?_
    refine V.iload_n hC d_R_back_40 rfl rfl ?_
    refine V.if_ne (tgt := 48) hC d_R_back_41 (by decide) (fun c3 => ?_) (fun c3 => ?_)
    · replace h := h.1 c3
      refine V.iconst (v := 0) hC d_R_back_48 (by decide) ?_
      exact V.msk [true, true, true] rfl (wj_R_back_49  hC hR  σ x1 s0 (σ 0 10) (0 : Int32) h)
    · replace h := h.2 c3
      refine V.iconst (v := 1) hC d_R_back_44 (by decide) ?_
      refine V.goto (tgt := 49) hC d_R_back_45 (by decide) ?_
      exact V.msk [true, true, true] rfl (wj_R_back_49  hC hR  σ x1 s0 (σ 0 10) (1 : Int32) h)
  · replace h := h.2 c2
    refine V.bipush (v := -3) hC d_R_back_32 (by decide) ?_
    exact hR _ _ _ _ h rfl d_R_back_34
set_option maxHeartbeats 4000000 in
set_option maxRecDepth 100000 in
theorem w_R_back (w : Wd) (σ : Hp) (a1 : Int32) (P : Int32 → Hp → Prop) (h : wp_R_back σ a1 P) : CtI μR w y_R_back b_R_back 3 (some .int) 1 [.ref (w.1 0), .int a1] σ P := by
  unfold wp_R_back at h
  refine CtI.ofV (C := nC8) (lo := [some (.ref (w.1 0)), some (.int a1), none]) exR (by decide +kernel) rfl rfl rfl (fun κ hC hR => ?_)
  refine V.iload_n hC d_R_back_0 rfl rfl ?_
  refine V.iconst (v := 0) hC d_R_back_1 (by decide) ?_
  refine V.iconst (v := 1) hC d_R_back_2 (by decide) ?_
  refine V.callSI hC exR (w_R_in w σ a1 (0 : Int32) (1 : Int32) _ h) d_R_back_3 mo_R_in qm_R_97 rfl rfl rfl rfl (Nat.le_of_ble_eq_true rfl) (fun r4 t5 h => ?_)
  refine V.if_ne (tgt := 12) hC d_R_back_6 (by decide) (fun c6 => ?_) (fun c6 => ?_)
  · replace h := h.1 c6
    refine V.iload_n hC d_R_back_12 rfl rfl ?_
    refine V.if_ne (tgt := 23) hC d_R_back_13 (by decide) (fun c7 => ?_) (fun c7 => ?_)
    · replace h := h.1 c7
      refine V.aload_n hC d_R_back_23 rfl rfl ?_
      refine V.getI (j := 14) hC d_R_back_24 rfl rfl uC8 rfl rfl qf_R_160 ?_
      exact V.msk [true, true, false] rfl (wj_R_back_27  hC hR  t5 a1 (t5 0 14) h)
    · replace h := h.2 c7
      refine V.aload_n hC d_R_back_16 rfl rfl ?_
      refine V.getI (j := 10) hC d_R_back_17 rfl rfl uC8 rfl rfl qf_R_157 ?_
      refine V.goto (tgt := 27) hC d_R_back_20 (by decide) ?_
      exact V.msk [true, true, false] rfl (wj_R_back_27  hC hR  t5 a1 (t5 0 10) h)
  · replace h := h.2 c6
    refine V.bipush (v := -2) hC d_R_back_9 (by decide) ?_
    exact hR _ _ _ _ h rfl d_R_back_11
abbrev b_R_isSheet : ByteArray := prog_10_method_81_code
def y_R_isSheet : MethodName := ⟨nC8, "isSheet", "(I)Z"⟩
theorem d_R_isSheet_0 : decode b_R_isSheet 0 = .ok (.iload_n 0, 1) := by decide +kernel
theorem d_R_isSheet_1 : decode b_R_isSheet 1 = .ok (.iconst 0, 1) := by decide +kernel
theorem d_R_isSheet_2 : decode b_R_isSheet 2 = .ok (.iconst 3, 1) := by decide +kernel
theorem d_R_isSheet_3 : decode b_R_isSheet 3 = .ok (.invokestatic 97, 3) := by decide +kernel
theorem d_R_isSheet_6 : decode b_R_isSheet 6 = .ok (.ireturn, 1) := by decide +kernel
theorem mo_R_isSheet : MokS y_R_isSheet b_R_isSheet 1 (some .boolean) 1 := ⟨⟨(tbl_in 1080 (by decide +kernel) rfl), (tbl_in 70 (by decide +kernel) rfl)⟩, (tbl_in 1079 (by decide +kernel) rfl), ⟨by decide +kernel, by decide +kernel⟩, by decide +kernel⟩
def wp_R_isSheet (σ : Hp) (a1 : Int32) (P : Int32 → Hp → Prop) : Prop :=
  wp_R_in σ a1 (0 : Int32) (3 : Int32) (fun (r1 : Int32) (t2 : Hp) => (r1 &&& 1 = r1) ∧ P r1 t2)
set_option maxHeartbeats 4000000 in
set_option maxRecDepth 100000 in
theorem w_R_isSheet (w : Wd) (σ : Hp) (a1 : Int32) (P : Int32 → Hp → Prop) (h : wp_R_isSheet σ a1 P) : CtI μR w y_R_isSheet b_R_isSheet 1 (some .boolean) 1 [.int a1] σ P := by
  unfold wp_R_isSheet at h
  refine CtI.ofV (C := nC8) (lo := [some (.int a1)]) exR (by decide +kernel) rfl rfl rfl (fun κ hC hR => ?_)
  refine V.iload_n hC d_R_isSheet_0 rfl rfl ?_
  refine V.iconst (v := 0) hC d_R_isSheet_1 (by decide) ?_
  refine V.iconst (v := 3) hC d_R_isSheet_2 (by decide) ?_
  refine V.callSI hC exR (w_R_in w σ a1 (0 : Int32) (3 : Int32) _ h) d_R_isSheet_3 mo_R_in qm_R_97 rfl rfl rfl rfl (Nat.le_of_ble_eq_true rfl) (fun r1 t2 h => ?_)
  obtain ⟨z3, h⟩ := h
  exact hR _ _ _ _ h (congrArg Value.int z3) d_R_isSheet_6
abbrev b_R_meets : ByteArray := prog_10_method_80_code
def y_R_meets : MethodName := ⟨nC8, "meets", "(I)I"⟩
theorem d_R_meets_0 : decode b_R_meets 0 = .ok (.aload_n 0, 1) := by decide +kernel
theorem d_R_meets_1 : decode b_R_meets 1 = .ok (.iload_n 1, 1) := by decide +kernel
theorem d_R_meets_2 : decode b_R_meets 2 = .ok (.putfield 284, 3) := by decide +kernel
theorem d_R_meets_5 : decode b_R_meets 5 = .ok (.bipush (-10), 2) := by decide +kernel
theorem d_R_meets_7 : decode b_R_meets 7 = .ok (.iload_n 1, 1) := by decide +kernel
theorem d_R_meets_8 : decode b_R_meets 8 = .ok (.isub, 1) := by decide +kernel
theorem d_R_meets_9 : decode b_R_meets 9 = .ok (.ireturn, 1) := by decide +kernel
theorem qf_R_284 : Cond.fieldLink nC8 284 (fC8 34).1 (fC8 34).2.1 (fC8 34).2.2.1 ∈ tbl := tbl_in 902 (by decide +kernel) rfl
theorem mo_R_meets : MokV y_R_meets b_R_meets 2 (some .int) 1 := ⟨⟨(tbl_in 1084 (by decide +kernel) rfl), (tbl_in 70 (by decide +kernel) rfl)⟩, ⟨(tbl_in 1083 (by decide +kernel) rfl), tbl_lw _ (tbl_in 25 (by decide +kernel) rfl), (tbl_in 25 (by decide +kernel) rfl)⟩, ⟨by decide +kernel, by decide +kernel⟩, by decide +kernel⟩
def wp_R_meets (σ : Hp) (a1 : Int32) (P : Int32 → Hp → Prop) : Prop :=
  P ((-10 : Int32) - a1) (st σ 0 34 a1)
set_option maxHeartbeats 4000000 in
set_option maxRecDepth 100000 in
theorem w_R_meets (w : Wd) (σ : Hp) (a1 : Int32) (P : Int32 → Hp → Prop) (h : wp_R_meets σ a1 P) : CtI μR w y_R_meets b_R_meets 2 (some .int) 0 [.ref (w.1 0), .int a1] σ P := by
  unfold wp_R_meets at h
  refine CtI.ofV (C := nC8) (lo := [some (.ref (w.1 0)), some (.int a1)]) exR (by decide +kernel) rfl rfl rfl (fun κ hC hR => ?_)
  refine V.aload_n hC d_R_meets_0 rfl rfl ?_
  refine V.iload_n hC d_R_meets_1 rfl rfl ?_
  refine V.put (j := 34) hC d_R_meets_2 rfl rfl uC8 pC8 dC8 rfl rfl rfl rfl rfl qf_R_284 ?_
  refine V.bipush (v := -10) hC d_R_meets_5 (by decide) ?_
  refine V.iload_n hC d_R_meets_7 rfl rfl ?_
  refine V.isub hC d_R_meets_8 ?_
  exact hR _ _ _ _ h rfl d_R_meets_9
abbrev b_R_read : ByteArray := prog_10_method_32_code
def y_R_read : MethodName := ⟨nC8, "read", "(I)I"⟩
theorem d_R_read_0 : decode b_R_read 0 = .ok (.iload_n 1, 1) := by decide +kernel
theorem d_R_read_1 : decode b_R_read 1 = .ok (.invokestatic 163, 3) := by decide +kernel
theorem d_R_read_4 : decode b_R_read 4 = .ok (.ifCond .ne 6, 3) := by decide +kernel
theorem d_R_read_7 : decode b_R_read 7 = .ok (.bipush (-2), 2) := by decide +kernel
theorem d_R_read_9 : decode b_R_read 9 = .ok (.ireturn, 1) := by decide +kernel
theorem d_R_read_10 : decode b_R_read 10 = .ok (.aload_n 0, 1) := by decide +kernel
theorem d_R_read_11 : decode b_R_read 11 = .ok (.getfield 80, 3) := by decide +kernel
theorem d_R_read_14 : decode b_R_read 14 = .ok (.iload_n 1, 1) := by decide +kernel
theorem d_R_read_15 : decode b_R_read 15 = .ok (.baload, 1) := by decide +kernel
theorem d_R_read_16 : decode b_R_read 16 = .ok (.ifCond .ne 9, 3) := by decide +kernel
theorem d_R_read_19 : decode b_R_read 19 = .ok (.aload_n 0, 1) := by decide +kernel
theorem d_R_read_20 : decode b_R_read 20 = .ok (.iconst 1, 1) := by decide +kernel
theorem d_R_read_21 : decode b_R_read 21 = .ok (.invokevirtual 166, 3) := by decide +kernel
theorem d_R_read_24 : decode b_R_read 24 = .ok (.ireturn, 1) := by decide +kernel
theorem d_R_read_25 : decode b_R_read 25 = .ok (.iconst 0, 1) := by decide +kernel
theorem d_R_read_26 : decode b_R_read 26 = .ok (.istore_n 2, 1) := by decide +kernel
theorem d_R_read_27 : decode b_R_read 27 = .ok (.iconst 3, 1) := by decide +kernel
theorem d_R_read_28 : decode b_R_read 28 = .ok (.iload_n 2, 1) := by decide +kernel
theorem d_R_read_29 : decode b_R_read 29 = .ok (.imul, 1) := by decide +kernel
theorem d_R_read_30 : decode b_R_read 30 = .ok (.iconst 2, 1) := by decide +kernel
theorem d_R_read_31 : decode b_R_read 31 = .ok (.iadd, 1) := by decide +kernel
theorem d_R_read_32 : decode b_R_read 32 = .ok (.aload_n 0, 1) := by decide +kernel
theorem d_R_read_33 : decode b_R_read 33 = .ok (.getfield 86, 3) := by decide +kernel
theorem d_R_read_36 : decode b_R_read 36 = .ok (.iload_n 1, 1) := by decide +kernel
theorem d_R_read_37 : decode b_R_read 37 = .ok (.iaload, 1) := by decide +kernel
theorem d_R_read_38 : decode b_R_read 38 = .ok (.if_icmp .ge 59, 3) := by decide +kernel
theorem d_R_read_41 : decode b_R_read 41 = .ok (.aload_n 0, 1) := by decide +kernel
theorem d_R_read_42 : decode b_R_read 42 = .ok (.aload_n 0, 1) := by decide +kernel
theorem d_R_read_43 : decode b_R_read 43 = .ok (.getfield 89, 3) := by decide +kernel
theorem d_R_read_46 : decode b_R_read 46 = .ok (.bipush 60, 2) := by decide +kernel
theorem d_R_read_48 : decode b_R_read 48 = .ok (.iload_n 1, 1) := by decide +kernel
theorem d_R_read_49 : decode b_R_read 49 = .ok (.imul, 1) := by decide +kernel
theorem d_R_read_50 : decode b_R_read 50 = .ok (.iconst 3, 1) := by decide +kernel
theorem d_R_read_51 : decode b_R_read 51 = .ok (.iload_n 2, 1) := by decide +kernel
theorem d_R_read_52 : decode b_R_read 52 = .ok (.imul, 1) := by decide +kernel
theorem d_R_read_53 : decode b_R_read 53 = .ok (.iadd, 1) := by decide +kernel
theorem d_R_read_54 : decode b_R_read 54 = .ok (.iaload, 1) := by decide +kernel
theorem d_R_read_55 : decode b_R_read 55 = .ok (.aload_n 0, 1) := by decide +kernel
theorem d_R_read_56 : decode b_R_read 56 = .ok (.getfield 89, 3) := by decide +kernel
theorem d_R_read_59 : decode b_R_read 59 = .ok (.bipush 60, 2) := by decide +kernel
theorem d_R_read_61 : decode b_R_read 61 = .ok (.iload_n 1, 1) := by decide +kernel
theorem d_R_read_62 : decode b_R_read 62 = .ok (.imul, 1) := by decide +kernel
theorem d_R_read_63 : decode b_R_read 63 = .ok (.iconst 3, 1) := by decide +kernel
theorem d_R_read_64 : decode b_R_read 64 = .ok (.iload_n 2, 1) := by decide +kernel
theorem d_R_read_65 : decode b_R_read 65 = .ok (.imul, 1) := by decide +kernel
theorem d_R_read_66 : decode b_R_read 66 = .ok (.iadd, 1) := by decide +kernel
theorem d_R_read_67 : decode b_R_read 67 = .ok (.iconst 1, 1) := by decide +kernel
theorem d_R_read_68 : decode b_R_read 68 = .ok (.iadd, 1) := by decide +kernel
theorem d_R_read_69 : decode b_R_read 69 = .ok (.iaload, 1) := by decide +kernel
theorem d_R_read_70 : decode b_R_read 70 = .ok (.aload_n 0, 1) := by decide +kernel
theorem d_R_read_71 : decode b_R_read 71 = .ok (.getfield 89, 3) := by decide +kernel
theorem d_R_read_74 : decode b_R_read 74 = .ok (.bipush 60, 2) := by decide +kernel
theorem d_R_read_76 : decode b_R_read 76 = .ok (.iload_n 1, 1) := by decide +kernel
theorem d_R_read_77 : decode b_R_read 77 = .ok (.imul, 1) := by decide +kernel
theorem d_R_read_78 : decode b_R_read 78 = .ok (.iconst 3, 1) := by decide +kernel
theorem d_R_read_79 : decode b_R_read 79 = .ok (.iload_n 2, 1) := by decide +kernel
theorem d_R_read_80 : decode b_R_read 80 = .ok (.imul, 1) := by decide +kernel
theorem d_R_read_81 : decode b_R_read 81 = .ok (.iadd, 1) := by decide +kernel
theorem d_R_read_82 : decode b_R_read 82 = .ok (.iconst 2, 1) := by decide +kernel
theorem d_R_read_83 : decode b_R_read 83 = .ok (.iadd, 1) := by decide +kernel
theorem d_R_read_84 : decode b_R_read 84 = .ok (.iaload, 1) := by decide +kernel
theorem d_R_read_85 : decode b_R_read 85 = .ok (.invokevirtual 169, 3) := by decide +kernel
theorem d_R_read_88 : decode b_R_read 88 = .ok (.ifCond .le 9, 3) := by decide +kernel
theorem d_R_read_91 : decode b_R_read 91 = .ok (.iinc 2 1, 3) := by decide +kernel
theorem d_R_read_94 : decode b_R_read 94 = .ok (.goto (-67), 3) := by decide +kernel
theorem d_R_read_97 : decode b_R_read 97 = .ok (.iload_n 2, 1) := by decide +kernel
theorem d_R_read_98 : decode b_R_read 98 = .ok (.ireturn, 1) := by decide +kernel
theorem qf_R_80 : Cond.fieldLink nC8 80 (fC8 29).1 (fC8 29).2.1 (fC8 29).2.2.1 ∈ tbl := tbl_in 897 (by decide +kernel) rfl
theorem qf_R_86 : Cond.fieldLink nC8 86 (fC8 31).1 (fC8 31).2.1 (fC8 31).2.2.1 ∈ tbl := tbl_in 899 (by decide +kernel) rfl
theorem qf_R_89 : Cond.fieldLink nC8 89 (fC8 32).1 (fC8 32).2.1 (fC8 32).2.2.1 ∈ tbl := tbl_in 900 (by decide +kernel) rfl
theorem qm_R_163 : Cond.methodLink nC8 163 y_R_isSheet ∈ tbl := tbl_in 1078 (by decide +kernel) rfl
theorem qm_R_166 : Cond.methodLink nC8 166 y_R_meets ∈ tbl := tbl_in 1081 (by decide +kernel) rfl
theorem qm_R_169 : Cond.methodLink nC8 169 y_R_suit ∈ tbl := tbl_in 1085 (by decide +kernel) rfl
def b_R_read_27_ (P : Int32 → Hp → Prop)  (I27 : Hp → Int32 → Int32 → Prop) (σ : Hp) (x1 : Int32) (x2 : Int32) : Prop :=
  (vp_in x1 4) ∧ (((σ 26 (ix x1)) ≤ (((3 : Int32) * x2) + (2 : Int32)) → P x2 σ) ∧ (¬ (σ 26 (ix x1)) ≤ (((3 : Int32) * x2) + (2 : Int32)) → (vp_in (((60 : Int32) * x1) + ((3 : Int32) * x2)) 240) ∧ (vp_in ((((60 : Int32) * x1) + ((3 : Int32) * x2)) + (1 : Int32)) 240) ∧ (vp_in ((((60 : Int32) * x1) + ((3 : Int32) * x2)) + (2 : Int32)) 240) ∧ wp_R_suit σ (σ 27 (ix (((60 : Int32) * x1) + ((3 : Int32) * x2)))) (σ 27 (ix ((((60 : Int32) * x1) + ((3 : Int32) * x2)) + (1 : Int32)))) (σ 27 (ix ((((60 : Int32) * x1) + ((3 : Int32) * x2)) + (2 : Int32)))) (fun (r6 : Int32) (t7 : Hp) => ((r6 ≤ 0 → P x2 t7) ∧ (¬ r6 ≤ 0 → (∀ v9 : Int32, v9 = x2 + (1 : Int32) → I27 t7 x1 v9))))))
def j_R_read_27 (P : Int32 → Hp → Prop)  (σ : Hp) (x1 : Int32) (x2 : Int32) : Prop := ∀ I27 : Hp → Int32 → Int32 → Prop, (∀ (σ : Hp) (x1 : Int32) (x2 : Int32), b_R_read_27_  P  I27 σ x1 x2 → I27 σ x1 x2) → I27 σ x1 x2
def wp_R_read (σ : Hp) (a1 : Int32) (P : Int32 → Hp → Prop) : Prop :=
  wp_R_isSheet σ a1 (fun (r10 : Int32) (t11 : Hp) => ((¬ r10 = 0 → (vp_in a1 4) ∧ ((¬ (t11 24 (ix a1)) = 0 → j_R_read_27 P t11 a1 (0 : Int32)) ∧ ((t11 24 (ix a1)) = 0 → wp_R_meets t11 (1 : Int32) (fun (r15 : Int32) (t16 : Hp) => P r15 t16)))) ∧ (r10 = 0 → P (-2 : Int32) t11)))
set_option maxHeartbeats 4000000 in
set_option maxRecDepth 100000 in
theorem wj_R_read_27 {w : Wd} {κ : Kx} {P : Int32 → Hp → Prop} (hC : Cx μR w 3 κ nC8 b_R_read 3) (hR : RtI μR w 3 κ b_R_read .int P)  : ∀ (σ : Hp) (x1 : Int32) (x2 : Int32), j_R_read_27  P  σ x1 x2 → V μR w 3 κ σ [some (.ref (w.1 0)), some (.int x1), some (.int x2)] 27 [] := by
  intro σ x1 x2 h
  refine h (fun σ x1 x2 => V μR w 3 κ σ [some (.ref (w.1 0)), some (.int x1), some (.int x2)] 27 []) (fun σ x1 x2 h => ?_)
  unfold b_R_read_27_ at h
  refine V.iconst (v := 3) hC d_R_read_27 (by decide) ?_
  refine V.iload_n hC d_R_read_28 rfl rfl ?_
  refine V.imul hC d_R_read_29 ?_
  refine V.iconst (v := 2) hC d_R_read_30 (by decide) ?_
  refine V.iadd hC d_R_read_31 ?_
  refine V.aload_n hC d_R_read_32 rfl rfl ?_
  refine V.getR (j := 31) hC d_R_read_33 rfl rfl uC8 rfl rfl qf_R_86 ?_
  refine V.iload_n hC d_R_read_36 rfl rfl ?_
  obtain ⟨b1, h⟩ := h
  refine V.iald hC d_R_read_37 rfl b1 ?_
  refine V.icmp_ge (tgt := 97) hC d_R_read_38 (by decide) (fun c2 => ?_) (fun c2 => ?_)
  · replace h := h.1 c2
    refine V.iload_n hC d_R_read_97 rfl rfl ?_
    exact hR _ _ _ _ h rfl d_R_read_98
  · replace h := h.2 c2
    refine V.aload_n hC d_R_read_41 rfl rfl ?_
    refine V.aload_n hC d_R_read_42 rfl rfl ?_
    refine V.getR (j := 32) hC d_R_read_43 rfl rfl uC8 rfl rfl qf_R_89 ?_
    refine V.bipush (v := 60) hC d_R_read_46 (by decide) ?_
    refine V.iload_n hC d_R_read_48 rfl rfl ?_
    refine V.imul hC d_R_read_49 ?_
    refine V.iconst (v := 3) hC d_R_read_50 (by decide) ?_
    refine V.iload_n hC d_R_read_51 rfl rfl ?_
    refine V.imul hC d_R_read_52 ?_
    refine V.iadd hC d_R_read_53 ?_
    obtain ⟨b3, h⟩ := h
    refine V.iald hC d_R_read_54 rfl b3 ?_
    refine V.aload_n hC d_R_read_55 rfl rfl ?_
    refine V.getR (j := 32) hC d_R_read_56 rfl rfl uC8 rfl rfl qf_R_89 ?_
    refine V.bipush (v := 60) hC d_R_read_59 (by decide) ?_
    refine V.iload_n hC d_R_read_61 rfl rfl ?_
    refine V.imul hC d_R_read_62 ?_
    refine V.iconst (v := 3) hC d_R_read_63 (by decide) ?_
    refine V.iload_n hC d_R_read_64 rfl rfl ?_
    refine V.imul hC d_R_read_65 ?_
    refine V.iadd hC d_R_read_66 ?_
    refine V.iconst (v := 1) hC d_R_read_67 (by decide) ?_
    refine V.iadd hC d_R_read_68 ?_
    obtain ⟨b4, h⟩ := h
    refine V.iald hC d_R_read_69 rfl b4 ?_
    refine V.aload_n hC d_R_read_70 rfl rfl ?_
    refine V.getR (j := 32) hC d_R_read_71 rfl rfl uC8 rfl rfl qf_R_89 ?_
    refine V.bipush (v := 60) hC d_R_read_74 (by decide) ?_
    refine V.iload_n hC d_R_read_76 rfl rfl ?_
    refine V.imul hC d_R_read_77 ?_
    refine V.iconst (v := 3) hC d_R_read_78 (by decide) ?_
    refine V.iload_n hC d_R_read_79 rfl rfl ?_
    refine V.imul hC d_R_read_80 ?_
    refine V.iadd hC d_R_read_81 ?_
    refine V.iconst (v := 2) hC d_R_read_82 (by decide) ?_
    refine V.iadd hC d_R_read_83 ?_
    obtain ⟨b5, h⟩ := h
    refine V.iald hC d_R_read_84 rfl b5 ?_
    refine V.callVI hC exR (w_R_suit w σ (σ 27 (ix (((60 : Int32) * x1) + ((3 : Int32) * x2)))) (σ 27 (ix ((((60 : Int32) * x1) + ((3 : Int32) * x2)) + (1 : Int32)))) (σ 27 (ix ((((60 : Int32) * x1) + ((3 : Int32) * x2)) + (2 : Int32)))) _ h) d_R_read_85 mo_R_suit qm_R_169 rfl rfl rfl rfl rfl rfl rfl (Nat.le_of_ble_eq_true rfl) (fun r6 t7 h => ?_)
    refine V.if_le (tgt := 97) hC d_R_read_88 (by decide) (fun c8 => ?_) (fun c8 => ?_)
    · replace h := h.1 c8
      refine V.iload_n hC d_R_read_97 rfl rfl ?_
      exact hR _ _ _ _ h rfl d_R_read_98
    · replace h := h.2 c8
      obtain ⟨v9, ev9⟩ : ∃ y : Int32, y = x2 + (1 : Int32) := ⟨_, rfl⟩
      replace h := h v9 ev9
      refine V.iinc (y := v9) (lo' := [some (.ref (w.1 0)), some (.int x1), some (.int v9)]) hC d_R_read_91 rfl rfl (show v9 = _ + Int32.ofInt (1) from ev9) rfl ?_
      refine V.goto (tgt := 27) hC d_R_read_94 (by decide) ?_
      exact V.msk [true, true, true] rfl h
set_option maxHeartbeats 4000000 in
set_option maxRecDepth 100000 in
theorem w_R_read (w : Wd) (σ : Hp) (a1 : Int32) (P : Int32 → Hp → Prop) (h : wp_R_read σ a1 P) : CtI μR w y_R_read b_R_read 3 (some .int) 3 [.ref (w.1 0), .int a1] σ P := by
  unfold wp_R_read at h
  refine CtI.ofV (C := nC8) (lo := [some (.ref (w.1 0)), some (.int a1), none]) exR (by decide +kernel) rfl rfl rfl (fun κ hC hR => ?_)
  refine V.iload_n hC d_R_read_0 rfl rfl ?_
  refine V.callSI hC exR (w_R_isSheet w σ a1 _ h) d_R_read_1 mo_R_isSheet qm_R_163 rfl rfl rfl rfl (Nat.le_of_ble_eq_true rfl) (fun r10 t11 h => ?_)
  refine V.if_ne (tgt := 10) hC d_R_read_4 (by decide) (fun c12 => ?_) (fun c12 => ?_)
  · replace h := h.1 c12
    refine V.aload_n hC d_R_read_10 rfl rfl ?_
    refine V.getR (j := 29) hC d_R_read_11 rfl rfl uC8 rfl rfl qf_R_80 ?_
    refine V.iload_n hC d_R_read_14 rfl rfl ?_
    obtain ⟨b13, h⟩ := h
    refine V.zald hC d_R_read_15 rfl b13 ?_
    refine V.if_ne (tgt := 25) hC d_R_read_16 (by decide) (fun c14 => ?_) (fun c14 => ?_)
    · replace h := h.1 c14
      refine V.iconst (v := 0) hC d_R_read_25 (by decide) ?_
      refine V.istore_n (y := (0 : Int32)) (lo' := [some (.ref (w.1 0)), some (.int a1), some (.int (0 : Int32))]) hC d_R_read_26 rfl rfl rfl rfl ?_
      exact V.msk [true, true, true] rfl (wj_R_read_27  hC hR  t11 a1 (0 : Int32) h)
    · replace h := h.2 c14
      refine V.aload_n hC d_R_read_19 rfl rfl ?_
      refine V.iconst (v := 1) hC d_R_read_20 (by decide) ?_
      refine V.callVI hC exR (w_R_meets w t11 (1 : Int32) _ h) d_R_read_21 mo_R_meets qm_R_166 rfl rfl rfl rfl rfl rfl rfl (Nat.le_of_ble_eq_true rfl) (fun r15 t16 h => ?_)
      exact hR _ _ _ _ h rfl d_R_read_24
  · replace h := h.2 c12
    refine V.bipush (v := -2) hC d_R_read_7 (by decide) ?_
    exact hR _ _ _ _ h rfl d_R_read_9
abbrev b_R_throughOf : ByteArray := prog_10_method_33_code
def y_R_throughOf : MethodName := ⟨nC8, "throughOf", "(II)I"⟩
theorem d_R_throughOf_0 : decode b_R_throughOf 0 = .ok (.iload_n 1, 1) := by decide +kernel
theorem d_R_throughOf_1 : decode b_R_throughOf 1 = .ok (.iload_n 2, 1) := by decide +kernel
theorem d_R_throughOf_2 : decode b_R_throughOf 2 = .ok (.if_icmp .ge 7, 3) := by decide +kernel
theorem d_R_throughOf_5 : decode b_R_throughOf 5 = .ok (.iload_n 1, 1) := by decide +kernel
theorem d_R_throughOf_6 : decode b_R_throughOf 6 = .ok (.goto 4, 3) := by decide +kernel
theorem d_R_throughOf_9 : decode b_R_throughOf 9 = .ok (.iload_n 2, 1) := by decide +kernel
theorem d_R_throughOf_10 : decode b_R_throughOf 10 = .ok (.istore_n 3, 1) := by decide +kernel
theorem d_R_throughOf_11 : decode b_R_throughOf 11 = .ok (.iload_n 1, 1) := by decide +kernel
theorem d_R_throughOf_12 : decode b_R_throughOf 12 = .ok (.iload_n 2, 1) := by decide +kernel
theorem d_R_throughOf_13 : decode b_R_throughOf 13 = .ok (.if_icmp .ge 7, 3) := by decide +kernel
theorem d_R_throughOf_16 : decode b_R_throughOf 16 = .ok (.iload_n 2, 1) := by decide +kernel
theorem d_R_throughOf_17 : decode b_R_throughOf 17 = .ok (.goto 4, 3) := by decide +kernel
theorem d_R_throughOf_20 : decode b_R_throughOf 20 = .ok (.iload_n 1, 1) := by decide +kernel
theorem d_R_throughOf_21 : decode b_R_throughOf 21 = .ok (.istore 4, 2) := by decide +kernel
theorem d_R_throughOf_23 : decode b_R_throughOf 23 = .ok (.iload 4, 2) := by decide +kernel
theorem d_R_throughOf_25 : decode b_R_throughOf 25 = .ok (.iload_n 3, 1) := by decide +kernel
theorem d_R_throughOf_26 : decode b_R_throughOf 26 = .ok (.isub, 1) := by decide +kernel
theorem d_R_throughOf_27 : decode b_R_throughOf 27 = .ok (.iconst 1, 1) := by decide +kernel
theorem d_R_throughOf_28 : decode b_R_throughOf 28 = .ok (.isub, 1) := by decide +kernel
theorem d_R_throughOf_29 : decode b_R_throughOf 29 = .ok (.istore 5, 2) := by decide +kernel
theorem d_R_throughOf_31 : decode b_R_throughOf 31 = .ok (.iconst 0, 1) := by decide +kernel
theorem d_R_throughOf_32 : decode b_R_throughOf 32 = .ok (.istore 6, 2) := by decide +kernel
theorem d_R_throughOf_34 : decode b_R_throughOf 34 = .ok (.iconst 0, 1) := by decide +kernel
theorem d_R_throughOf_35 : decode b_R_throughOf 35 = .ok (.istore 7, 2) := by decide +kernel
theorem d_R_throughOf_37 : decode b_R_throughOf 37 = .ok (.iload_n 3, 1) := by decide +kernel
theorem d_R_throughOf_38 : decode b_R_throughOf 38 = .ok (.istore 8, 2) := by decide +kernel
theorem d_R_throughOf_40 : decode b_R_throughOf 40 = .ok (.iload 8, 2) := by decide +kernel
theorem d_R_throughOf_42 : decode b_R_throughOf 42 = .ok (.iload 4, 2) := by decide +kernel
theorem d_R_throughOf_44 : decode b_R_throughOf 44 = .ok (.if_icmp .ge 35, 3) := by decide +kernel
theorem d_R_throughOf_47 : decode b_R_throughOf 47 = .ok (.iload 6, 2) := by decide +kernel
theorem d_R_throughOf_49 : decode b_R_throughOf 49 = .ok (.aload_n 0, 1) := by decide +kernel
theorem d_R_throughOf_50 : decode b_R_throughOf 50 = .ok (.getfield 31, 3) := by decide +kernel
theorem d_R_throughOf_53 : decode b_R_throughOf 53 = .ok (.iload 8, 2) := by decide +kernel
theorem d_R_throughOf_55 : decode b_R_throughOf 55 = .ok (.iaload, 1) := by decide +kernel
theorem d_R_throughOf_56 : decode b_R_throughOf 56 = .ok (.iadd, 1) := by decide +kernel
theorem d_R_throughOf_57 : decode b_R_throughOf 57 = .ok (.istore 6, 2) := by decide +kernel
theorem d_R_throughOf_59 : decode b_R_throughOf 59 = .ok (.iload 7, 2) := by decide +kernel
theorem d_R_throughOf_61 : decode b_R_throughOf 61 = .ok (.aload_n 0, 1) := by decide +kernel
theorem d_R_throughOf_62 : decode b_R_throughOf 62 = .ok (.getfield 31, 3) := by decide +kernel
theorem d_R_throughOf_65 : decode b_R_throughOf 65 = .ok (.iload 8, 2) := by decide +kernel
theorem d_R_throughOf_67 : decode b_R_throughOf 67 = .ok (.iaload, 1) := by decide +kernel
theorem d_R_throughOf_68 : decode b_R_throughOf 68 = .ok (.iconst 2, 1) := by decide +kernel
theorem d_R_throughOf_69 : decode b_R_throughOf 69 = .ok (.idiv, 1) := by decide +kernel
theorem d_R_throughOf_70 : decode b_R_throughOf 70 = .ok (.iadd, 1) := by decide +kernel
theorem d_R_throughOf_71 : decode b_R_throughOf 71 = .ok (.istore 7, 2) := by decide +kernel
theorem d_R_throughOf_73 : decode b_R_throughOf 73 = .ok (.iinc 8 1, 3) := by decide +kernel
theorem d_R_throughOf_76 : decode b_R_throughOf 76 = .ok (.goto (-36), 3) := by decide +kernel
theorem d_R_throughOf_79 : decode b_R_throughOf 79 = .ok (.aload_n 0, 1) := by decide +kernel
theorem d_R_throughOf_80 : decode b_R_throughOf 80 = .ok (.getfield 16, 3) := by decide +kernel
theorem d_R_throughOf_83 : decode b_R_throughOf 83 = .ok (.iload_n 1, 1) := by decide +kernel
theorem d_R_throughOf_84 : decode b_R_throughOf 84 = .ok (.iaload, 1) := by decide +kernel
theorem d_R_throughOf_85 : decode b_R_throughOf 85 = .ok (.istore 8, 2) := by decide +kernel
theorem d_R_throughOf_87 : decode b_R_throughOf 87 = .ok (.iload 8, 2) := by decide +kernel
theorem d_R_throughOf_89 : decode b_R_throughOf 89 = .ok (.ifCond .ne 13, 3) := by decide +kernel
theorem d_R_throughOf_92 : decode b_R_throughOf 92 = .ok (.iconst 2, 1) := by decide +kernel
theorem d_R_throughOf_93 : decode b_R_throughOf 93 = .ok (.iload 5, 2) := by decide +kernel
theorem d_R_throughOf_95 : decode b_R_throughOf 95 = .ok (.imul, 1) := by decide +kernel
theorem d_R_throughOf_96 : decode b_R_throughOf 96 = .ok (.iload 6, 2) := by decide +kernel
theorem d_R_throughOf_98 : decode b_R_throughOf 98 = .ok (.iadd, 1) := by decide +kernel
theorem d_R_throughOf_99 : decode b_R_throughOf 99 = .ok (.goto 33, 3) := by decide +kernel
theorem d_R_throughOf_102 : decode b_R_throughOf 102 = .ok (.iload 8, 2) := by decide +kernel
theorem d_R_throughOf_104 : decode b_R_throughOf 104 = .ok (.iconst 1, 1) := by decide +kernel
theorem d_R_throughOf_105 : decode b_R_throughOf 105 = .ok (.if_icmp .ne 11, 3) := by decide +kernel
theorem d_R_throughOf_108 : decode b_R_throughOf 108 = .ok (.iload 5, 2) := by decide +kernel
theorem d_R_throughOf_110 : decode b_R_throughOf 110 = .ok (.iload 7, 2) := by decide +kernel
theorem d_R_throughOf_112 : decode b_R_throughOf 112 = .ok (.iadd, 1) := by decide +kernel
theorem d_R_throughOf_113 : decode b_R_throughOf 113 = .ok (.goto 19, 3) := by decide +kernel
theorem d_R_throughOf_116 : decode b_R_throughOf 116 = .ok (.iload 5, 2) := by decide +kernel
theorem d_R_throughOf_118 : decode b_R_throughOf 118 = .ok (.ifCond .gt 8, 3) := by decide +kernel
theorem d_R_throughOf_121 : decode b_R_throughOf 121 = .ok (.iload 6, 2) := by decide +kernel
theorem d_R_throughOf_123 : decode b_R_throughOf 123 = .ok (.ifCond .le 8, 3) := by decide +kernel
theorem d_R_throughOf_126 : decode b_R_throughOf 126 = .ok (.bipush 99, 2) := by decide +kernel
theorem d_R_throughOf_128 : decode b_R_throughOf 128 = .ok (.goto 4, 3) := by decide +kernel
theorem d_R_throughOf_131 : decode b_R_throughOf 131 = .ok (.iconst 0, 1) := by decide +kernel
theorem d_R_throughOf_132 : decode b_R_throughOf 132 = .ok (.istore 9, 2) := by decide +kernel
theorem d_R_throughOf_134 : decode b_R_throughOf 134 = .ok (.iload 8, 2) := by decide +kernel
theorem d_R_throughOf_136 : decode b_R_throughOf 136 = .ok (.iconst 3, 1) := by decide +kernel
theorem d_R_throughOf_137 : decode b_R_throughOf 137 = .ok (.if_icmp .ne 7, 3) := by decide +kernel
theorem d_R_throughOf_140 : decode b_R_throughOf 140 = .ok (.iconst 0, 1) := by decide +kernel
theorem d_R_throughOf_141 : decode b_R_throughOf 141 = .ok (.goto 12, 3) := by decide +kernel
theorem d_R_throughOf_144 : decode b_R_throughOf 144 = .ok (.aload_n 0, 1) := by decide +kernel
theorem d_R_throughOf_145 : decode b_R_throughOf 145 = .ok (.getfield 19, 3) := by decide +kernel
theorem d_R_throughOf_148 : decode b_R_throughOf 148 = .ok (.iload_n 1, 1) := by decide +kernel
theorem d_R_throughOf_149 : decode b_R_throughOf 149 = .ok (.iaload, 1) := by decide +kernel
theorem d_R_throughOf_150 : decode b_R_throughOf 150 = .ok (.iload 9, 2) := by decide +kernel
theorem d_R_throughOf_152 : decode b_R_throughOf 152 = .ok (.isub, 1) := by decide +kernel
theorem d_R_throughOf_153 : decode b_R_throughOf 153 = .ok (.istore 10, 2) := by decide +kernel
theorem d_R_throughOf_155 : decode b_R_throughOf 155 = .ok (.iload 10, 2) := by decide +kernel
theorem d_R_throughOf_157 : decode b_R_throughOf 157 = .ok (.ifCond .le 8, 3) := by decide +kernel
theorem d_R_throughOf_160 : decode b_R_throughOf 160 = .ok (.iload 10, 2) := by decide +kernel
theorem d_R_throughOf_162 : decode b_R_throughOf 162 = .ok (.goto 4, 3) := by decide +kernel
theorem d_R_throughOf_165 : decode b_R_throughOf 165 = .ok (.iconst 0, 1) := by decide +kernel
theorem d_R_throughOf_166 : decode b_R_throughOf 166 = .ok (.ireturn, 1) := by decide +kernel
theorem mo_R_throughOf : MokV y_R_throughOf b_R_throughOf 11 (some .int) 2 := ⟨⟨(tbl_in 1093 (by decide +kernel) rfl), (tbl_in 70 (by decide +kernel) rfl)⟩, ⟨(tbl_in 1092 (by decide +kernel) rfl), tbl_lw _ (tbl_in 26 (by decide +kernel) rfl), (tbl_in 26 (by decide +kernel) rfl)⟩, ⟨by decide +kernel, by decide +kernel⟩, by decide +kernel⟩
def j_R_throughOf_153 (P : Int32 → Hp → Prop)  (σ : Hp) (s0 : Int32) : Prop :=
  ((s0 ≤ 0 → P (0 : Int32) σ) ∧ (¬ s0 ≤ 0 → P s0 σ))
def j_R_throughOf_132 (P : Int32 → Hp → Prop)  (σ : Hp) (x1 : Int32) (x8 : Int32) (s0 : Int32) : Prop :=
  ((¬ x8 = (3 : Int32) → (vp_in x1 9) ∧ j_R_throughOf_153 P σ ((σ 4 (ix x1)) - s0)) ∧ (x8 = (3 : Int32) → j_R_throughOf_153 P σ (0 : Int32)))
def j_R_throughOf_126 (P : Int32 → Hp → Prop)  (σ : Hp) (x1 : Int32) (x8 : Int32) : Prop :=
  j_R_throughOf_132 P σ x1 x8 (99 : Int32)
def b_R_throughOf_40_ (P : Int32 → Hp → Prop)  (I40 : Hp → Int32 → Int32 → Int32 → Int32 → Int32 → Int32 → Prop) (σ : Hp) (x1 : Int32) (x4 : Int32) (x5 : Int32) (x6 : Int32) (x7 : Int32) (x8 : Int32) : Prop :=
  ((x4 ≤ x8 → (vp_in x1 9) ∧ (∀ v6 : Int32, v6 = σ 3 (ix x1) → ((¬ v6 = 0 → ((¬ v6 = (1 : Int32) → ((0 < x5 → j_R_throughOf_126 P σ x1 v6) ∧ (¬ 0 < x5 → ((x6 ≤ 0 → j_R_throughOf_132 P σ x1 v6 (0 : Int32)) ∧ (¬ x6 ≤ 0 → j_R_throughOf_126 P σ x1 v6))))) ∧ (v6 = (1 : Int32) → j_R_throughOf_132 P σ x1 v6 (x5 + x7)))) ∧ (v6 = 0 → j_R_throughOf_132 P σ x1 v6 (((2 : Int32) * x5) + x6))))) ∧ (¬ x4 ≤ x8 → (vp_in x8 7) ∧ (∀ v12 : Int32, v12 = x6 + (σ 8 (ix x8)) → (vp_in x8 7) ∧ (∀ v14 : Int32, v14 = x7 + ((σ 8 (ix x8)) / (2 : Int32)) → (∀ v15 : Int32, v15 = x8 + (1 : Int32) → I40 σ x1 x4 x5 v12 v14 v15)))))
def j_R_throughOf_40 (P : Int32 → Hp → Prop)  (σ : Hp) (x1 : Int32) (x4 : Int32) (x5 : Int32) (x6 : Int32) (x7 : Int32) (x8 : Int32) : Prop := ∀ I40 : Hp → Int32 → Int32 → Int32 → Int32 → Int32 → Int32 → Prop, (∀ (σ : Hp) (x1 : Int32) (x4 : Int32) (x5 : Int32) (x6 : Int32) (x7 : Int32) (x8 : Int32), b_R_throughOf_40_  P  I40 σ x1 x4 x5 x6 x7 x8 → I40 σ x1 x4 x5 x6 x7 x8) → I40 σ x1 x4 x5 x6 x7 x8
def j_R_throughOf_21 (P : Int32 → Hp → Prop)  (σ : Hp) (x1 : Int32) (x3 : Int32) (s0 : Int32) : Prop :=
  (∀ v16 : Int32, v16 = (s0 - x3) - (1 : Int32) → j_R_throughOf_40 P σ x1 s0 v16 (0 : Int32) (0 : Int32) x3)
def j_R_throughOf_10 (P : Int32 → Hp → Prop)  (σ : Hp) (x1 : Int32) (x2 : Int32) (s0 : Int32) : Prop :=
  ((x2 ≤ x1 → j_R_throughOf_21 P σ x1 s0 x1) ∧ (¬ x2 ≤ x1 → j_R_throughOf_21 P σ x1 s0 x2))
def wp_R_throughOf (σ : Hp) (a1 : Int32) (a2 : Int32) (P : Int32 → Hp → Prop) : Prop :=
  ((a2 ≤ a1 → j_R_throughOf_10 P σ a1 a2 a2) ∧ (¬ a2 ≤ a1 → j_R_throughOf_10 P σ a1 a2 a1))
set_option maxHeartbeats 4000000 in
set_option maxRecDepth 100000 in
theorem wj_R_throughOf_153 {w : Wd} {κ : Kx} {P : Int32 → Hp → Prop} (hC : Cx μR w 11 κ nC8 b_R_throughOf 0) (hR : RtI μR w 11 κ b_R_throughOf .int P)  : ∀ (σ : Hp) (s0 : Int32), j_R_throughOf_153  P  σ s0 → V μR w 11 κ σ [none, none, none, none, none, none, none, none, none, none, none] 153 [.int s0] := by
  intro σ s0 h
  unfold j_R_throughOf_153 at h
  refine V.istore (y := s0) (lo' := [none, none, none, none, none, none, none, none, none, none, some (.int s0)]) hC d_R_throughOf_153 rfl rfl rfl ?_
  refine V.iload hC d_R_throughOf_155 rfl ?_
  refine V.if_le (tgt := 165) hC d_R_throughOf_157 (by decide) (fun c1 => ?_) (fun c1 => ?_)
  · replace h := h.1 c1
    refine V.iconst (v := 0) hC d_R_throughOf_165 (by decide) ?_
    exact hR _ _ _ _ h rfl d_R_throughOf_166
  · replace h := h.2 c1
    refine V.iload hC d_R_throughOf_160 rfl ?_
    refine V.goto (tgt := 166) hC d_R_throughOf_162 (by decide) ?_
    exact hR _ _ _ _ h rfl d_R_throughOf_166
set_option maxHeartbeats 4000000 in
set_option maxRecDepth 100000 in
theorem wj_R_throughOf_132 {w : Wd} {κ : Kx} {P : Int32 → Hp → Prop} (hC : Cx μR w 11 κ nC8 b_R_throughOf 0) (hR : RtI μR w 11 κ b_R_throughOf .int P)  : ∀ (σ : Hp) (x1 : Int32) (x8 : Int32) (s0 : Int32), j_R_throughOf_132  P  σ x1 x8 s0 → V μR w 11 κ σ [some (.ref (w.1 0)), some (.int x1), none, none, none, none, none, none, some (.int x8), none, none] 132 [.int s0] := by
  intro σ x1 x8 s0 h
  unfold j_R_throughOf_132 at h
  refine V.istore (y := s0) (lo' := [some (.ref (w.1 0)), some (.int x1), none, none, none, none, none, none, some (.int x8), some (.int s0), none]) hC d_R_throughOf_132 rfl rfl rfl ?_
  refine V.iload hC d_R_throughOf_134 rfl ?_
  refine V.iconst (v := 3) hC d_R_throughOf_136 (by decide) ?_
  refine V.icmp_ne (tgt := 144) hC d_R_throughOf_137 (by decide) (fun c2 => ?_) (fun c2 => ?_)
  · replace h := h.1 c2
    refine V.aload_n hC d_R_throughOf_144 rfl rfl ?_
    refine V.getR (j := 4) hC d_R_throughOf_145 rfl rfl uC8 rfl rfl qf_R_19 ?_
    refine V.iload_n hC d_R_throughOf_148 rfl rfl ?_
    obtain ⟨b3, h⟩ := h
    refine V.iald hC d_R_throughOf_149 rfl b3 ?_
    refine V.iload hC d_R_throughOf_150 rfl ?_
    refine V.isub hC d_R_throughOf_152 ?_
    exact V.msk [false, false, false, false, false, false, false, false, false, false, false] rfl (wj_R_throughOf_153  hC hR  σ ((σ 4 (ix x1)) - s0) h)
  · replace h := h.2 c2
    refine V.iconst (v := 0) hC d_R_throughOf_140 (by decide) ?_
    refine V.goto (tgt := 153) hC d_R_throughOf_141 (by decide) ?_
    exact V.msk [false, false, false, false, false, false, false, false, false, false, false] rfl (wj_R_throughOf_153  hC hR  σ (0 : Int32) h)
set_option maxHeartbeats 4000000 in
set_option maxRecDepth 100000 in
theorem wj_R_throughOf_126 {w : Wd} {κ : Kx} {P : Int32 → Hp → Prop} (hC : Cx μR w 11 κ nC8 b_R_throughOf 0) (hR : RtI μR w 11 κ b_R_throughOf .int P)  : ∀ (σ : Hp) (x1 : Int32) (x8 : Int32), j_R_throughOf_126  P  σ x1 x8 → V μR w 11 κ σ [some (.ref (w.1 0)), some (.int x1), none, none, none, none, none, none, some (.int x8), none, none] 126 [] := by
  intro σ x1 x8 h
  unfold j_R_throughOf_126 at h
  refine V.bipush (v := 99) hC d_R_throughOf_126 (by decide) ?_
  refine V.goto (tgt := 132) hC d_R_throughOf_128 (by decide) ?_
  exact V.msk [true, true, false, false, false, false, false, false, true, false, false] rfl (wj_R_throughOf_132  hC hR  σ x1 x8 (99 : Int32) h)
set_option maxHeartbeats 4000000 in
set_option maxRecDepth 100000 in
theorem wj_R_throughOf_40 {w : Wd} {κ : Kx} {P : Int32 → Hp → Prop} (hC : Cx μR w 11 κ nC8 b_R_throughOf 0) (hR : RtI μR w 11 κ b_R_throughOf .int P)  : ∀ (σ : Hp) (x1 : Int32) (x4 : Int32) (x5 : Int32) (x6 : Int32) (x7 : Int32) (x8 : Int32), j_R_throughOf_40  P  σ x1 x4 x5 x6 x7 x8 → V μR w 11 κ σ [some (.ref (w.1 0)), some (.int x1), none, none, some (.int x4), some (.int x5), some (.int x6), some (.int x7), some (.int x8), none, none] 40 [] := by
  intro σ x1 x4 x5 x6 x7 x8 h
  refine h (fun σ x1 x4 x5 x6 x7 x8 => V μR w 11 κ σ [some (.ref (w.1 0)), some (.int x1), none, none, some (.int x4), some (.int x5), some (.int x6), some (.int x7), some (.int x8), none, none] 40 []) (fun σ x1 x4 x5 x6 x7 x8 h => ?_)
  unfold b_R_throughOf_40_ at h
  refine V.iload hC d_R_throughOf_40 rfl ?_
  refine V.iload hC d_R_throughOf_42 rfl ?_
  refine V.icmp_ge (tgt := 79) hC d_R_throughOf_44 (by decide) (fun c4 => ?_) (fun c4 => ?_)
  · replace h := h.1 c4
    refine V.aload_n hC d_R_throughOf_79 rfl rfl ?_
    refine V.getR (j := 3) hC d_R_throughOf_80 rfl rfl uC8 rfl rfl qf_R_16 ?_
    refine V.iload_n hC d_R_throughOf_83 rfl rfl ?_
    obtain ⟨b5, h⟩ := h
    refine V.iald hC d_R_throughOf_84 rfl b5 ?_
    obtain ⟨v6, ev6⟩ : ∃ y : Int32, y = σ 3 (ix x1) := ⟨_, rfl⟩
    replace h := h v6 ev6
    refine V.istore (y := v6) (lo' := [some (.ref (w.1 0)), some (.int x1), none, none, some (.int x4), some (.int x5), some (.int x6), some (.int x7), some (.int v6), none, none]) hC d_R_throughOf_85 rfl ev6 rfl ?_
    refine V.iload hC d_R_throughOf_87 rfl ?_
    refine V.if_ne (tgt := 102) hC d_R_throughOf_89 (by decide) (fun c7 => ?_) (fun c7 => ?_)
    · replace h := h.1 c7
      refine V.iload hC d_R_throughOf_102 rfl ?_
      refine V.iconst (v := 1) hC d_R_throughOf_104 (by decide) ?_
      refine V.icmp_ne (tgt := 116) hC d_R_throughOf_105 (by decide) (fun c8 => ?_) (fun c8 => ?_)
      · replace h := h.1 c8
        refine V.iload hC d_R_throughOf_116 rfl ?_
        refine V.if_gt (tgt := 126) hC d_R_throughOf_118 (by decide) (fun c9 => ?_) (fun c9 => ?_)
        · replace h := h.1 c9
          exact V.msk [true, true, false, false, false, false, false, false, true, false, false] rfl (wj_R_throughOf_126  hC hR  σ x1 v6 h)
        · replace h := h.2 c9
          refine V.iload hC d_R_throughOf_121 rfl ?_
          refine V.if_le (tgt := 131) hC d_R_throughOf_123 (by decide) (fun c10 => ?_) (fun c10 => ?_)
          · replace h := h.1 c10
            refine V.iconst (v := 0) hC d_R_throughOf_131 (by decide) ?_
            exact V.msk [true, true, false, false, false, false, false, false, true, false, false] rfl (wj_R_throughOf_132  hC hR  σ x1 v6 (0 : Int32) h)
          · replace h := h.2 c10
            exact V.msk [true, true, false, false, false, false, false, false, true, false, false] rfl (wj_R_throughOf_126  hC hR  σ x1 v6 h)
      · replace h := h.2 c8
        refine V.iload hC d_R_throughOf_108 rfl ?_
        refine V.iload hC d_R_throughOf_110 rfl ?_
        refine V.iadd hC d_R_throughOf_112 ?_
        refine V.goto (tgt := 132) hC d_R_throughOf_113 (by decide) ?_
        exact V.msk [true, true, false, false, false, false, false, false, true, false, false] rfl (wj_R_throughOf_132  hC hR  σ x1 v6 (x5 + x7) h)
    · replace h := h.2 c7
      refine V.iconst (v := 2) hC d_R_throughOf_92 (by decide) ?_
      refine V.iload hC d_R_throughOf_93 rfl ?_
      refine V.imul hC d_R_throughOf_95 ?_
      refine V.iload hC d_R_throughOf_96 rfl ?_
      refine V.iadd hC d_R_throughOf_98 ?_
      refine V.goto (tgt := 132) hC d_R_throughOf_99 (by decide) ?_
      exact V.msk [true, true, false, false, false, false, false, false, true, false, false] rfl (wj_R_throughOf_132  hC hR  σ x1 v6 (((2 : Int32) * x5) + x6) h)
  · replace h := h.2 c4
    refine V.iload hC d_R_throughOf_47 rfl ?_
    refine V.aload_n hC d_R_throughOf_49 rfl rfl ?_
    refine V.getR (j := 9) hC d_R_throughOf_50 rfl rfl uC8 rfl rfl qf_R_31 ?_
    refine V.iload hC d_R_throughOf_53 rfl ?_
    obtain ⟨b11, h⟩ := h
    refine V.iald hC d_R_throughOf_55 rfl b11 ?_
    refine V.iadd hC d_R_throughOf_56 ?_
    obtain ⟨v12, ev12⟩ : ∃ y : Int32, y = x6 + (σ 8 (ix x8)) := ⟨_, rfl⟩
    replace h := h v12 ev12
    refine V.istore (y := v12) (lo' := [some (.ref (w.1 0)), some (.int x1), none, none, some (.int x4), some (.int x5), some (.int v12), some (.int x7), some (.int x8), none, none]) hC d_R_throughOf_57 rfl ev12 rfl ?_
    refine V.iload hC d_R_throughOf_59 rfl ?_
    refine V.aload_n hC d_R_throughOf_61 rfl rfl ?_
    refine V.getR (j := 9) hC d_R_throughOf_62 rfl rfl uC8 rfl rfl qf_R_31 ?_
    refine V.iload hC d_R_throughOf_65 rfl ?_
    obtain ⟨b13, h⟩ := h
    refine V.iald hC d_R_throughOf_67 rfl b13 ?_
    refine V.iconst (v := 2) hC d_R_throughOf_68 (by decide) ?_
    refine V.idiv hC d_R_throughOf_69 (by decide) ?_
    refine V.iadd hC d_R_throughOf_70 ?_
    obtain ⟨v14, ev14⟩ : ∃ y : Int32, y = x7 + ((σ 8 (ix x8)) / (2 : Int32)) := ⟨_, rfl⟩
    replace h := h v14 ev14
    refine V.istore (y := v14) (lo' := [some (.ref (w.1 0)), some (.int x1), none, none, some (.int x4), some (.int x5), some (.int v12), some (.int v14), some (.int x8), none, none]) hC d_R_throughOf_71 rfl ev14 rfl ?_
    obtain ⟨v15, ev15⟩ : ∃ y : Int32, y = x8 + (1 : Int32) := ⟨_, rfl⟩
    replace h := h v15 ev15
    refine V.iinc (y := v15) (lo' := [some (.ref (w.1 0)), some (.int x1), none, none, some (.int x4), some (.int x5), some (.int v12), some (.int v14), some (.int v15), none, none]) hC d_R_throughOf_73 rfl rfl (show v15 = _ + Int32.ofInt (1) from ev15) rfl ?_
    refine V.goto (tgt := 40) hC d_R_throughOf_76 (by decide) ?_
    exact V.msk [true, true, false, false, true, true, true, true, true, false, false] rfl h
set_option maxHeartbeats 4000000 in
set_option maxRecDepth 100000 in
theorem wj_R_throughOf_21 {w : Wd} {κ : Kx} {P : Int32 → Hp → Prop} (hC : Cx μR w 11 κ nC8 b_R_throughOf 0) (hR : RtI μR w 11 κ b_R_throughOf .int P)  : ∀ (σ : Hp) (x1 : Int32) (x3 : Int32) (s0 : Int32), j_R_throughOf_21  P  σ x1 x3 s0 → V μR w 11 κ σ [some (.ref (w.1 0)), some (.int x1), none, some (.int x3), none, none, none, none, none, none, none] 21 [.int s0] := by
  intro σ x1 x3 s0 h
  unfold j_R_throughOf_21 at h
  refine V.istore (y := s0) (lo' := [some (.ref (w.1 0)), some (.int x1), none, some (.int x3), some (.int s0), none, none, none, none, none, none]) hC d_R_throughOf_21 rfl rfl rfl ?_
  refine V.iload hC d_R_throughOf_23 rfl ?_
  refine V.iload_n hC d_R_throughOf_25 rfl rfl ?_
  refine V.isub hC d_R_throughOf_26 ?_
  refine V.iconst (v := 1) hC d_R_throughOf_27 (by decide) ?_
  refine V.isub hC d_R_throughOf_28 ?_
  obtain ⟨v16, ev16⟩ : ∃ y : Int32, y = (s0 - x3) - (1 : Int32) := ⟨_, rfl⟩
  replace h := h v16 ev16
  refine V.istore (y := v16) (lo' := [some (.ref (w.1 0)), some (.int x1), none, some (.int x3), some (.int s0), some (.int v16), none, none, none, none, none]) hC d_R_throughOf_29 rfl ev16 rfl ?_
  refine V.iconst (v := 0) hC d_R_throughOf_31 (by decide) ?_
  refine V.istore (y := (0 : Int32)) (lo' := [some (.ref (w.1 0)), some (.int x1), none, some (.int x3), some (.int s0), some (.int v16), some (.int (0 : Int32)), none, none, none, none]) hC d_R_throughOf_32 rfl rfl rfl ?_
  refine V.iconst (v := 0) hC d_R_throughOf_34 (by decide) ?_
  refine V.istore (y := (0 : Int32)) (lo' := [some (.ref (w.1 0)), some (.int x1), none, some (.int x3), some (.int s0), some (.int v16), some (.int (0 : Int32)), some (.int (0 : Int32)), none, none, none]) hC d_R_throughOf_35 rfl rfl rfl ?_
  refine V.iload_n hC d_R_throughOf_37 rfl rfl ?_
  refine V.istore (y := x3) (lo' := [some (.ref (w.1 0)), some (.int x1), none, some (.int x3), some (.int s0), some (.int v16), some (.int (0 : Int32)), some (.int (0 : Int32)), some (.int x3), none, none]) hC d_R_throughOf_38 rfl rfl rfl ?_
  exact V.msk [true, true, false, false, true, true, true, true, true, false, false] rfl (wj_R_throughOf_40  hC hR  σ x1 s0 v16 (0 : Int32) (0 : Int32) x3 h)
set_option maxHeartbeats 4000000 in
set_option maxRecDepth 100000 in
theorem wj_R_throughOf_10 {w : Wd} {κ : Kx} {P : Int32 → Hp → Prop} (hC : Cx μR w 11 κ nC8 b_R_throughOf 0) (hR : RtI μR w 11 κ b_R_throughOf .int P)  : ∀ (σ : Hp) (x1 : Int32) (x2 : Int32) (s0 : Int32), j_R_throughOf_10  P  σ x1 x2 s0 → V μR w 11 κ σ [some (.ref (w.1 0)), some (.int x1), some (.int x2), none, none, none, none, none, none, none, none] 10 [.int s0] := by
  intro σ x1 x2 s0 h
  unfold j_R_throughOf_10 at h
  refine V.istore_n (y := s0) (lo' := [some (.ref (w.1 0)), some (.int x1), some (.int x2), some (.int s0), none, none, none, none, none, none, none]) hC d_R_throughOf_10 rfl rfl rfl rfl ?_
  refine V.iload_n hC d_R_throughOf_11 rfl rfl ?_
  refine V.iload_n hC d_R_throughOf_12 rfl rfl ?_
  refine V.icmp_ge (tgt := 20) hC d_R_throughOf_13 (by decide) (fun c17 => ?_) (fun c17 => ?_)
  · replace h := h.1 c17
    refine V.iload_n hC d_R_throughOf_20 rfl rfl ?_
    exact V.msk [true, true, false, true, false, false, false, false, false, false, false] rfl (wj_R_throughOf_21  hC hR  σ x1 s0 x1 h)
  · replace h := h.2 c17
    refine V.iload_n hC d_R_throughOf_16 rfl rfl ?_
    refine V.goto (tgt := 21) hC d_R_throughOf_17 (by decide) ?_
    exact V.msk [true, true, false, true, false, false, false, false, false, false, false] rfl (wj_R_throughOf_21  hC hR  σ x1 s0 x2 h)
set_option maxHeartbeats 4000000 in
set_option maxRecDepth 100000 in
theorem w_R_throughOf (w : Wd) (σ : Hp) (a1 : Int32) (a2 : Int32) (P : Int32 → Hp → Prop) (h : wp_R_throughOf σ a1 a2 P) : CtI μR w y_R_throughOf b_R_throughOf 11 (some .int) 0 [.ref (w.1 0), .int a1, .int a2] σ P := by
  unfold wp_R_throughOf at h
  refine CtI.ofV (C := nC8) (lo := [some (.ref (w.1 0)), some (.int a1), some (.int a2), none, none, none, none, none, none, none, none]) exR (by decide +kernel) rfl rfl rfl (fun κ hC hR => ?_)
  refine V.iload_n hC d_R_throughOf_0 rfl rfl ?_
  refine V.iload_n hC d_R_throughOf_1 rfl rfl ?_
  refine V.icmp_ge (tgt := 9) hC d_R_throughOf_2 (by decide) (fun c18 => ?_) (fun c18 => ?_)
  · replace h := h.1 c18
    refine V.iload_n hC d_R_throughOf_9 rfl rfl ?_
    exact V.msk [true, true, true, false, false, false, false, false, false, false, false] rfl (wj_R_throughOf_10  hC hR  σ a1 a2 a2 h)
  · replace h := h.2 c18
    refine V.iload_n hC d_R_throughOf_5 rfl rfl ?_
    refine V.goto (tgt := 10) hC d_R_throughOf_6 (by decide) ?_
    exact V.msk [true, true, true, false, false, false, false, false, false, false, false] rfl (wj_R_throughOf_10  hC hR  σ a1 a2 a1 h)
abbrev b_R_through : ByteArray := prog_10_method_34_code
def y_R_through : MethodName := ⟨nC8, "through", "(II)I"⟩
theorem d_R_through_0 : decode b_R_through 0 = .ok (.aload_n 0, 1) := by decide +kernel
theorem d_R_through_1 : decode b_R_through 1 = .ok (.iload_n 1, 1) := by decide +kernel
theorem d_R_through_2 : decode b_R_through 2 = .ok (.invokevirtual 142, 3) := by decide +kernel
theorem d_R_through_5 : decode b_R_through 5 = .ok (.ifCond .eq 25, 3) := by decide +kernel
theorem d_R_through_8 : decode b_R_through 8 = .ok (.aload_n 0, 1) := by decide +kernel
theorem d_R_through_9 : decode b_R_through 9 = .ok (.iload_n 2, 1) := by decide +kernel
theorem d_R_through_10 : decode b_R_through 10 = .ok (.invokevirtual 142, 3) := by decide +kernel
theorem d_R_through_13 : decode b_R_through 13 = .ok (.ifCond .eq 17, 3) := by decide +kernel
theorem d_R_through_16 : decode b_R_through 16 = .ok (.iload_n 1, 1) := by decide +kernel
theorem d_R_through_17 : decode b_R_through 17 = .ok (.iload_n 2, 1) := by decide +kernel
theorem d_R_through_18 : decode b_R_through 18 = .ok (.if_icmp .eq 12, 3) := by decide +kernel
theorem d_R_through_21 : decode b_R_through 21 = .ok (.aload_n 0, 1) := by decide +kernel
theorem d_R_through_22 : decode b_R_through 22 = .ok (.iload_n 1, 1) := by decide +kernel
theorem d_R_through_23 : decode b_R_through 23 = .ok (.iload_n 2, 1) := by decide +kernel
theorem d_R_through_24 : decode b_R_through 24 = .ok (.invokevirtual 173, 3) := by decide +kernel
theorem d_R_through_27 : decode b_R_through 27 = .ok (.goto 5, 3) := by decide +kernel
theorem d_R_through_30 : decode b_R_through 30 = .ok (.bipush (-2), 2) := by decide +kernel
theorem d_R_through_32 : decode b_R_through 32 = .ok (.ireturn, 1) := by decide +kernel
theorem qm_R_173 : Cond.methodLink nC8 173 y_R_throughOf ∈ tbl := tbl_in 1090 (by decide +kernel) rfl
theorem mo_R_through : MokV y_R_through b_R_through 3 (some .int) 2 := ⟨⟨(tbl_in 1089 (by decide +kernel) rfl), (tbl_in 70 (by decide +kernel) rfl)⟩, ⟨(tbl_in 1087 (by decide +kernel) rfl), tbl_lw _ (tbl_in 1088 (by decide +kernel) rfl), (tbl_in 1088 (by decide +kernel) rfl)⟩, ⟨by decide +kernel, by decide +kernel⟩, by decide +kernel⟩
def wp_R_through (σ : Hp) (a1 : Int32) (a2 : Int32) (P : Int32 → Hp → Prop) : Prop :=
  wp_R_isHouse σ a1 (fun (r1 : Int32) (t2 : Hp) => ((r1 = 0 → P (-2 : Int32) t2) ∧ (¬ r1 = 0 → wp_R_isHouse t2 a2 (fun (r4 : Int32) (t5 : Hp) => ((r4 = 0 → P (-2 : Int32) t5) ∧ (¬ r4 = 0 → ((a1 = a2 → P (-2 : Int32) t5) ∧ (¬ a1 = a2 → wp_R_throughOf t5 a1 a2 (fun (r8 : Int32) (t9 : Hp) => P r8 t9)))))))))
set_option maxHeartbeats 4000000 in
set_option maxRecDepth 100000 in
theorem w_R_through (w : Wd) (σ : Hp) (a1 : Int32) (a2 : Int32) (P : Int32 → Hp → Prop) (h : wp_R_through σ a1 a2 P) : CtI μR w y_R_through b_R_through 3 (some .int) 7 [.ref (w.1 0), .int a1, .int a2] σ P := by
  unfold wp_R_through at h
  refine CtI.ofV (C := nC8) (lo := [some (.ref (w.1 0)), some (.int a1), some (.int a2)]) exR (by decide +kernel) rfl rfl rfl (fun κ hC hR => ?_)
  refine V.aload_n hC d_R_through_0 rfl rfl ?_
  refine V.iload_n hC d_R_through_1 rfl rfl ?_
  refine V.callVI hC exR (w_R_isHouse w σ a1 _ h) d_R_through_2 mo_R_isHouse qm_R_142 rfl rfl rfl rfl rfl rfl rfl (Nat.le_of_ble_eq_true rfl) (fun r1 t2 h => ?_)
  refine V.if_eq (tgt := 30) hC d_R_through_5 (by decide) (fun c3 => ?_) (fun c3 => ?_)
  · replace h := h.1 c3
    refine V.bipush (v := -2) hC d_R_through_30 (by decide) ?_
    exact hR _ _ _ _ h rfl d_R_through_32
  · replace h := h.2 c3
    refine V.aload_n hC d_R_through_8 rfl rfl ?_
    refine V.iload_n hC d_R_through_9 rfl rfl ?_
    refine V.callVI hC exR (w_R_isHouse w t2 a2 _ h) d_R_through_10 mo_R_isHouse qm_R_142 rfl rfl rfl rfl rfl rfl rfl (Nat.le_of_ble_eq_true rfl) (fun r4 t5 h => ?_)
    refine V.if_eq (tgt := 30) hC d_R_through_13 (by decide) (fun c6 => ?_) (fun c6 => ?_)
    · replace h := h.1 c6
      refine V.bipush (v := -2) hC d_R_through_30 (by decide) ?_
      exact hR _ _ _ _ h rfl d_R_through_32
    · replace h := h.2 c6
      refine V.iload_n hC d_R_through_16 rfl rfl ?_
      refine V.iload_n hC d_R_through_17 rfl rfl ?_
      refine V.icmp_eq (tgt := 30) hC d_R_through_18 (by decide) (fun c7 => ?_) (fun c7 => ?_)
      · replace h := h.1 c7
        refine V.bipush (v := -2) hC d_R_through_30 (by decide) ?_
        exact hR _ _ _ _ h rfl d_R_through_32
      · replace h := h.2 c7
        refine V.aload_n hC d_R_through_21 rfl rfl ?_
        refine V.iload_n hC d_R_through_22 rfl rfl ?_
        refine V.iload_n hC d_R_through_23 rfl rfl ?_
        refine V.callVI hC exR (w_R_throughOf w t5 a1 a2 _ h) d_R_through_24 mo_R_throughOf qm_R_173 rfl rfl rfl rfl rfl rfl rfl (Nat.le_of_ble_eq_true rfl) (fun r8 t9 h => ?_)
        refine V.goto (tgt := 32) hC d_R_through_27 (by decide) ?_
        exact hR _ _ _ _ h rfl d_R_through_32
abbrev b_R_asTold : ByteArray := prog_10_method_35_code
def y_R_asTold : MethodName := ⟨nC8, "asTold", "()V"⟩
theorem d_R_asTold_0 : decode b_R_asTold 0 = .ok (.aload_n 0, 1) := by decide +kernel
theorem d_R_asTold_1 : decode b_R_asTold 1 = .ok (.invokevirtual 139, 3) := by decide +kernel
theorem d_R_asTold_4 : decode b_R_asTold 4 = .ok (.aload_n 0, 1) := by decide +kernel
theorem d_R_asTold_5 : decode b_R_asTold 5 = .ok (.iconst 0, 1) := by decide +kernel
theorem d_R_asTold_6 : decode b_R_asTold 6 = .ok (.putfield 176, 3) := by decide +kernel
theorem d_R_asTold_9 : decode b_R_asTold 9 = .ok (.iconst 0, 1) := by decide +kernel
theorem d_R_asTold_10 : decode b_R_asTold 10 = .ok (.istore_n 1, 1) := by decide +kernel
theorem d_R_asTold_11 : decode b_R_asTold 11 = .ok (.iload_n 1, 1) := by decide +kernel
theorem d_R_asTold_12 : decode b_R_asTold 12 = .ok (.sipush 240, 3) := by decide +kernel
theorem d_R_asTold_15 : decode b_R_asTold 15 = .ok (.if_icmp .ge 16, 3) := by decide +kernel
theorem d_R_asTold_18 : decode b_R_asTold 18 = .ok (.aload_n 0, 1) := by decide +kernel
theorem d_R_asTold_19 : decode b_R_asTold 19 = .ok (.getfield 49, 3) := by decide +kernel
theorem d_R_asTold_22 : decode b_R_asTold 22 = .ok (.iload_n 1, 1) := by decide +kernel
theorem d_R_asTold_23 : decode b_R_asTold 23 = .ok (.iconst 0, 1) := by decide +kernel
theorem d_R_asTold_24 : decode b_R_asTold 24 = .ok (.bastore, 1) := by decide +kernel
theorem d_R_asTold_25 : decode b_R_asTold 25 = .ok (.iinc 1 1, 3) := by decide +kernel
theorem d_R_asTold_28 : decode b_R_asTold 28 = .ok (.goto (-17), 3) := by decide +kernel
theorem d_R_asTold_31 : decode b_R_asTold 31 = .ok (.iconst 0, 1) := by decide +kernel
theorem d_R_asTold_32 : decode b_R_asTold 32 = .ok (.istore_n 1, 1) := by decide +kernel
theorem d_R_asTold_33 : decode b_R_asTold 33 = .ok (.iload_n 1, 1) := by decide +kernel
theorem d_R_asTold_34 : decode b_R_asTold 34 = .ok (.aload_n 0, 1) := by decide +kernel
theorem d_R_asTold_35 : decode b_R_asTold 35 = .ok (.getfield 160, 3) := by decide +kernel
theorem d_R_asTold_38 : decode b_R_asTold 38 = .ok (.if_icmp .ge 31, 3) := by decide +kernel
theorem d_R_asTold_41 : decode b_R_asTold 41 = .ok (.aload_n 0, 1) := by decide +kernel
theorem d_R_asTold_42 : decode b_R_asTold 42 = .ok (.getfield 49, 3) := by decide +kernel
theorem d_R_asTold_45 : decode b_R_asTold 45 = .ok (.bipush 30, 2) := by decide +kernel
theorem d_R_asTold_47 : decode b_R_asTold 47 = .ok (.aload_n 0, 1) := by decide +kernel
theorem d_R_asTold_48 : decode b_R_asTold 48 = .ok (.getfield 46, 3) := by decide +kernel
theorem d_R_asTold_51 : decode b_R_asTold 51 = .ok (.iload_n 1, 1) := by decide +kernel
theorem d_R_asTold_52 : decode b_R_asTold 52 = .ok (.iaload, 1) := by decide +kernel
theorem d_R_asTold_53 : decode b_R_asTold 53 = .ok (.imul, 1) := by decide +kernel
theorem d_R_asTold_54 : decode b_R_asTold 54 = .ok (.aload_n 0, 1) := by decide +kernel
theorem d_R_asTold_55 : decode b_R_asTold 55 = .ok (.getfield 43, 3) := by decide +kernel
theorem d_R_asTold_58 : decode b_R_asTold 58 = .ok (.iload_n 1, 1) := by decide +kernel
theorem d_R_asTold_59 : decode b_R_asTold 59 = .ok (.iaload, 1) := by decide +kernel
theorem d_R_asTold_60 : decode b_R_asTold 60 = .ok (.iadd, 1) := by decide +kernel
theorem d_R_asTold_61 : decode b_R_asTold 61 = .ok (.iconst 1, 1) := by decide +kernel
theorem d_R_asTold_62 : decode b_R_asTold 62 = .ok (.bastore, 1) := by decide +kernel
theorem d_R_asTold_63 : decode b_R_asTold 63 = .ok (.iinc 1 1, 3) := by decide +kernel
theorem d_R_asTold_66 : decode b_R_asTold 66 = .ok (.goto (-33), 3) := by decide +kernel
theorem d_R_asTold_69 : decode b_R_asTold 69 = .ok (.return_, 1) := by decide +kernel
theorem qf_R_176 : Cond.fieldLink nC8 176 (fC8 17).1 (fC8 17).2.1 (fC8 17).2.2.1 ∈ tbl := tbl_in 885 (by decide +kernel) rfl
theorem qf_R_49 : Cond.fieldLink nC8 49 (fC8 18).1 (fC8 18).2.1 (fC8 18).2.2.1 ∈ tbl := tbl_in 886 (by decide +kernel) rfl
theorem mo_R_asTold : MokV y_R_asTold b_R_asTold 2 none 0 := ⟨⟨(tbl_in 1109 (by decide +kernel) rfl), (tbl_in 70 (by decide +kernel) rfl)⟩, ⟨(tbl_in 1108 (by decide +kernel) rfl), tbl_lw _ (tbl_in 29 (by decide +kernel) rfl), (tbl_in 29 (by decide +kernel) rfl)⟩, ⟨by decide +kernel, by decide +kernel⟩, by decide +kernel⟩
def b_R_asTold_33_ (P : Hp → Prop)  (I33 : Hp → Int32 → Prop) (σ : Hp) (x1 : Int32) : Prop :=
  (((σ 0 14) ≤ x1 → P σ) ∧ (¬ (σ 0 14) ≤ x1 → (vp_in x1 8) ∧ (vp_in x1 8) ∧ (vp_in (((30 : Int32) * (σ 13 (ix x1))) + (σ 12 (ix x1))) 240) ∧ (∀ v5 : Int32, v5 = x1 + (1 : Int32) → I33 (st σ 14 (ix (((30 : Int32) * (σ 13 (ix x1))) + (σ 12 (ix x1)))) (1 : Int32)) v5)))
def j_R_asTold_33 (P : Hp → Prop)  (σ : Hp) (x1 : Int32) : Prop := ∀ I33 : Hp → Int32 → Prop, (∀ (σ : Hp) (x1 : Int32), b_R_asTold_33_  P  I33 σ x1 → I33 σ x1) → I33 σ x1
def b_R_asTold_11_ (P : Hp → Prop)  (I11 : Hp → Int32 → Prop) (σ : Hp) (x1 : Int32) : Prop :=
  (((240 : Int32) ≤ x1 → j_R_asTold_33 P σ (0 : Int32)) ∧ (¬ (240 : Int32) ≤ x1 → (vp_in x1 240) ∧ (∀ v8 : Int32, v8 = x1 + (1 : Int32) → I11 (st σ 14 (ix x1) (0 : Int32)) v8)))
def j_R_asTold_11 (P : Hp → Prop)  (σ : Hp) (x1 : Int32) : Prop := ∀ I11 : Hp → Int32 → Prop, (∀ (σ : Hp) (x1 : Int32), b_R_asTold_11_  P  I11 σ x1 → I11 σ x1) → I11 σ x1
def wp_R_asTold (σ : Hp)  (P : Hp → Prop) : Prop :=
  wp_R_reads σ (fun (t10 : Hp) => j_R_asTold_11 P (st t10 0 17 (0 : Int32)) (0 : Int32))
set_option maxHeartbeats 4000000 in
set_option maxRecDepth 100000 in
theorem wj_R_asTold_33 {w : Wd} {κ : Kx} {P : Hp → Prop} (hC : Cx μR w 2 κ nC8 b_R_asTold 6) (hR : RtN μR w 2 κ b_R_asTold P)  : ∀ (σ : Hp) (x1 : Int32), j_R_asTold_33  P  σ x1 → V μR w 2 κ σ [some (.ref (w.1 0)), some (.int x1)] 33 [] := by
  intro σ x1 h
  refine h (fun σ x1 => V μR w 2 κ σ [some (.ref (w.1 0)), some (.int x1)] 33 []) (fun σ x1 h => ?_)
  unfold b_R_asTold_33_ at h
  refine V.iload_n hC d_R_asTold_33 rfl rfl ?_
  refine V.aload_n hC d_R_asTold_34 rfl rfl ?_
  refine V.getI (j := 14) hC d_R_asTold_35 rfl rfl uC8 rfl rfl qf_R_160 ?_
  refine V.icmp_ge (tgt := 69) hC d_R_asTold_38 (by decide) (fun c1 => ?_) (fun c1 => ?_)
  · replace h := h.1 c1
    exact hR _ _ _ h d_R_asTold_69
  · replace h := h.2 c1
    refine V.aload_n hC d_R_asTold_41 rfl rfl ?_
    refine V.getR (j := 18) hC d_R_asTold_42 rfl rfl uC8 rfl rfl qf_R_49 ?_
    refine V.bipush (v := 30) hC d_R_asTold_45 (by decide) ?_
    refine V.aload_n hC d_R_asTold_47 rfl rfl ?_
    refine V.getR (j := 16) hC d_R_asTold_48 rfl rfl uC8 rfl rfl qf_R_46 ?_
    refine V.iload_n hC d_R_asTold_51 rfl rfl ?_
    obtain ⟨b2, h⟩ := h
    refine V.iald hC d_R_asTold_52 rfl b2 ?_
    refine V.imul hC d_R_asTold_53 ?_
    refine V.aload_n hC d_R_asTold_54 rfl rfl ?_
    refine V.getR (j := 15) hC d_R_asTold_55 rfl rfl uC8 rfl rfl qf_R_43 ?_
    refine V.iload_n hC d_R_asTold_58 rfl rfl ?_
    obtain ⟨b3, h⟩ := h
    refine V.iald hC d_R_asTold_59 rfl b3 ?_
    refine V.iadd hC d_R_asTold_60 ?_
    refine V.iconst (v := 1) hC d_R_asTold_61 (by decide) ?_
    obtain ⟨b4, h⟩ := h
    refine V.zast hC d_R_asTold_62 rfl b4 (by decide) ?_
    obtain ⟨v5, ev5⟩ : ∃ y : Int32, y = x1 + (1 : Int32) := ⟨_, rfl⟩
    replace h := h v5 ev5
    refine V.iinc (y := v5) (lo' := [some (.ref (w.1 0)), some (.int v5)]) hC d_R_asTold_63 rfl rfl (show v5 = _ + Int32.ofInt (1) from ev5) rfl ?_
    refine V.goto (tgt := 33) hC d_R_asTold_66 (by decide) ?_
    exact V.msk [true, true] rfl h
set_option maxHeartbeats 4000000 in
set_option maxRecDepth 100000 in
theorem wj_R_asTold_11 {w : Wd} {κ : Kx} {P : Hp → Prop} (hC : Cx μR w 2 κ nC8 b_R_asTold 6) (hR : RtN μR w 2 κ b_R_asTold P)  : ∀ (σ : Hp) (x1 : Int32), j_R_asTold_11  P  σ x1 → V μR w 2 κ σ [some (.ref (w.1 0)), some (.int x1)] 11 [] := by
  intro σ x1 h
  refine h (fun σ x1 => V μR w 2 κ σ [some (.ref (w.1 0)), some (.int x1)] 11 []) (fun σ x1 h => ?_)
  unfold b_R_asTold_11_ at h
  refine V.iload_n hC d_R_asTold_11 rfl rfl ?_
  refine V.sipush (v := 240) hC d_R_asTold_12 (by decide) ?_
  refine V.icmp_ge (tgt := 31) hC d_R_asTold_15 (by decide) (fun c6 => ?_) (fun c6 => ?_)
  · replace h := h.1 c6
    refine V.iconst (v := 0) hC d_R_asTold_31 (by decide) ?_
    refine V.istore_n (y := (0 : Int32)) (lo' := [some (.ref (w.1 0)), some (.int (0 : Int32))]) hC d_R_asTold_32 rfl rfl rfl rfl ?_
    exact V.msk [true, true] rfl (wj_R_asTold_33  hC hR  σ (0 : Int32) h)
  · replace h := h.2 c6
    refine V.aload_n hC d_R_asTold_18 rfl rfl ?_
    refine V.getR (j := 18) hC d_R_asTold_19 rfl rfl uC8 rfl rfl qf_R_49 ?_
    refine V.iload_n hC d_R_asTold_22 rfl rfl ?_
    refine V.iconst (v := 0) hC d_R_asTold_23 (by decide) ?_
    obtain ⟨b7, h⟩ := h
    refine V.zast hC d_R_asTold_24 rfl b7 (by decide) ?_
    obtain ⟨v8, ev8⟩ : ∃ y : Int32, y = x1 + (1 : Int32) := ⟨_, rfl⟩
    replace h := h v8 ev8
    refine V.iinc (y := v8) (lo' := [some (.ref (w.1 0)), some (.int v8)]) hC d_R_asTold_25 rfl rfl (show v8 = _ + Int32.ofInt (1) from ev8) rfl ?_
    refine V.goto (tgt := 11) hC d_R_asTold_28 (by decide) ?_
    exact V.msk [true, true] rfl h
set_option maxHeartbeats 4000000 in
set_option maxRecDepth 100000 in
theorem w_R_asTold (w : Wd) (σ : Hp)  (P : Hp → Prop) (h : wp_R_asTold σ  P) : CtN μR w y_R_asTold b_R_asTold 2 none 6 [.ref (w.1 0)] σ P := by
  unfold wp_R_asTold at h
  refine CtN.ofV (C := nC8) (lo := [some (.ref (w.1 0)), none]) exR (by decide +kernel) rfl rfl rfl (fun κ hC hR => ?_)
  refine V.aload_n hC d_R_asTold_0 rfl rfl ?_
  refine V.callVN hC exR (w_R_reads w σ  _ h) d_R_asTold_1 mo_R_reads qm_R_139 rfl rfl rfl rfl rfl rfl rfl (Nat.le_of_ble_eq_true rfl) (fun t10 h => ?_)
  refine V.aload_n hC d_R_asTold_4 rfl rfl ?_
  refine V.iconst (v := 0) hC d_R_asTold_5 (by decide) ?_
  refine V.put (j := 17) hC d_R_asTold_6 rfl rfl uC8 pC8 dC8 rfl rfl rfl rfl rfl qf_R_176 ?_
  refine V.iconst (v := 0) hC d_R_asTold_9 (by decide) ?_
  refine V.istore_n (y := (0 : Int32)) (lo' := [some (.ref (w.1 0)), some (.int (0 : Int32))]) hC d_R_asTold_10 rfl rfl rfl rfl ?_
  exact V.msk [true, true] rfl (wj_R_asTold_11  hC hR  (st t10 0 17 (0 : Int32)) (0 : Int32) h)
abbrev b_R_lays : ByteArray := prog_10_method_36_code
def y_R_lays : MethodName := ⟨nC8, "lays", "()V"⟩
theorem d_R_lays_0 : decode b_R_lays 0 = .ok (.iconst 0, 1) := by decide +kernel
theorem d_R_lays_1 : decode b_R_lays 1 = .ok (.istore_n 1, 1) := by decide +kernel
theorem d_R_lays_2 : decode b_R_lays 2 = .ok (.iload_n 1, 1) := by decide +kernel
theorem d_R_lays_3 : decode b_R_lays 3 = .ok (.aload_n 0, 1) := by decide +kernel
theorem d_R_lays_4 : decode b_R_lays 4 = .ok (.getfield 116, 3) := by decide +kernel
theorem d_R_lays_7 : decode b_R_lays 7 = .ok (.if_icmp .ge 111, 3) := by decide +kernel
theorem d_R_lays_10 : decode b_R_lays 10 = .ok (.iconst 0, 1) := by decide +kernel
theorem d_R_lays_11 : decode b_R_lays 11 = .ok (.istore_n 2, 1) := by decide +kernel
theorem d_R_lays_12 : decode b_R_lays 12 = .ok (.iload_n 2, 1) := by decide +kernel
theorem d_R_lays_13 : decode b_R_lays 13 = .ok (.aload_n 0, 1) := by decide +kernel
theorem d_R_lays_14 : decode b_R_lays 14 = .ok (.getfield 116, 3) := by decide +kernel
theorem d_R_lays_17 : decode b_R_lays 17 = .ok (.if_icmp .ge 95, 3) := by decide +kernel
theorem d_R_lays_20 : decode b_R_lays 20 = .ok (.iload_n 1, 1) := by decide +kernel
theorem d_R_lays_21 : decode b_R_lays 21 = .ok (.iload_n 2, 1) := by decide +kernel
theorem d_R_lays_22 : decode b_R_lays 22 = .ok (.if_icmp .eq 32, 3) := by decide +kernel
theorem d_R_lays_25 : decode b_R_lays 25 = .ok (.aload_n 0, 1) := by decide +kernel
theorem d_R_lays_26 : decode b_R_lays 26 = .ok (.getfield 16, 3) := by decide +kernel
theorem d_R_lays_29 : decode b_R_lays 29 = .ok (.iload_n 2, 1) := by decide +kernel
theorem d_R_lays_30 : decode b_R_lays 30 = .ok (.iaload, 1) := by decide +kernel
theorem d_R_lays_31 : decode b_R_lays 31 = .ok (.iconst 3, 1) := by decide +kernel
theorem d_R_lays_32 : decode b_R_lays 32 = .ok (.if_icmp .ge 22, 3) := by decide +kernel
theorem d_R_lays_35 : decode b_R_lays 35 = .ok (.aload_n 0, 1) := by decide +kernel
theorem d_R_lays_36 : decode b_R_lays 36 = .ok (.getfield 22, 3) := by decide +kernel
theorem d_R_lays_39 : decode b_R_lays 39 = .ok (.iload_n 1, 1) := by decide +kernel
theorem d_R_lays_40 : decode b_R_lays 40 = .ok (.iaload, 1) := by decide +kernel
theorem d_R_lays_41 : decode b_R_lays 41 = .ok (.aload_n 0, 1) := by decide +kernel
theorem d_R_lays_42 : decode b_R_lays 42 = .ok (.getfield 16, 3) := by decide +kernel
theorem d_R_lays_45 : decode b_R_lays 45 = .ok (.iload_n 2, 1) := by decide +kernel
theorem d_R_lays_46 : decode b_R_lays 46 = .ok (.iaload, 1) := by decide +kernel
theorem d_R_lays_47 : decode b_R_lays 47 = .ok (.if_icmp .ne 7, 3) := by decide +kernel
theorem d_R_lays_50 : decode b_R_lays 50 = .ok (.iconst 1, 1) := by decide +kernel
theorem d_R_lays_51 : decode b_R_lays 51 = .ok (.goto 4, 3) := by decide +kernel
theorem d_R_lays_54 : decode b_R_lays 54 = .ok (.iconst 0, 1) := by decide +kernel
theorem d_R_lays_55 : decode b_R_lays 55 = .ok (.istore_n 3, 1) := by decide +kernel
theorem d_R_lays_56 : decode b_R_lays 56 = .ok (.aload_n 0, 1) := by decide +kernel
theorem d_R_lays_57 : decode b_R_lays 57 = .ok (.getfield 53, 3) := by decide +kernel
theorem d_R_lays_60 : decode b_R_lays 60 = .ok (.bipush 8, 2) := by decide +kernel
theorem d_R_lays_62 : decode b_R_lays 62 = .ok (.iload_n 1, 1) := by decide +kernel
theorem d_R_lays_63 : decode b_R_lays 63 = .ok (.imul, 1) := by decide +kernel
theorem d_R_lays_64 : decode b_R_lays 64 = .ok (.iload_n 2, 1) := by decide +kernel
theorem d_R_lays_65 : decode b_R_lays 65 = .ok (.iadd, 1) := by decide +kernel
theorem d_R_lays_66 : decode b_R_lays 66 = .ok (.iload_n 3, 1) := by decide +kernel
theorem d_R_lays_67 : decode b_R_lays 67 = .ok (.ifCond .eq 24, 3) := by decide +kernel
theorem d_R_lays_70 : decode b_R_lays 70 = .ok (.aload_n 0, 1) := by decide +kernel
theorem d_R_lays_71 : decode b_R_lays 71 = .ok (.iload_n 2, 1) := by decide +kernel
theorem d_R_lays_72 : decode b_R_lays 72 = .ok (.iload_n 1, 1) := by decide +kernel
theorem d_R_lays_73 : decode b_R_lays 73 = .ok (.invokevirtual 173, 3) := by decide +kernel
theorem d_R_lays_76 : decode b_R_lays 76 = .ok (.aload_n 0, 1) := by decide +kernel
theorem d_R_lays_77 : decode b_R_lays 77 = .ok (.getfield 28, 3) := by decide +kernel
theorem d_R_lays_80 : decode b_R_lays 80 = .ok (.aload_n 0, 1) := by decide +kernel
theorem d_R_lays_81 : decode b_R_lays 81 = .ok (.getfield 16, 3) := by decide +kernel
theorem d_R_lays_84 : decode b_R_lays 84 = .ok (.iload_n 2, 1) := by decide +kernel
theorem d_R_lays_85 : decode b_R_lays 85 = .ok (.iaload, 1) := by decide +kernel
theorem d_R_lays_86 : decode b_R_lays 86 = .ok (.iaload, 1) := by decide +kernel
theorem d_R_lays_87 : decode b_R_lays 87 = .ok (.imul, 1) := by decide +kernel
theorem d_R_lays_88 : decode b_R_lays 88 = .ok (.goto 4, 3) := by decide +kernel
theorem d_R_lays_91 : decode b_R_lays 91 = .ok (.iconst 0, 1) := by decide +kernel
theorem d_R_lays_92 : decode b_R_lays 92 = .ok (.iastore, 1) := by decide +kernel
theorem d_R_lays_93 : decode b_R_lays 93 = .ok (.aload_n 0, 1) := by decide +kernel
theorem d_R_lays_94 : decode b_R_lays 94 = .ok (.getfield 56, 3) := by decide +kernel
theorem d_R_lays_97 : decode b_R_lays 97 = .ok (.bipush 8, 2) := by decide +kernel
theorem d_R_lays_99 : decode b_R_lays 99 = .ok (.iload_n 1, 1) := by decide +kernel
theorem d_R_lays_100 : decode b_R_lays 100 = .ok (.imul, 1) := by decide +kernel
theorem d_R_lays_101 : decode b_R_lays 101 = .ok (.iload_n 2, 1) := by decide +kernel
theorem d_R_lays_102 : decode b_R_lays 102 = .ok (.iadd, 1) := by decide +kernel
theorem d_R_lays_103 : decode b_R_lays 103 = .ok (.bipush 99, 2) := by decide +kernel
theorem d_R_lays_105 : decode b_R_lays 105 = .ok (.iastore, 1) := by decide +kernel
theorem d_R_lays_106 : decode b_R_lays 106 = .ok (.iinc 2 1, 3) := by decide +kernel
theorem d_R_lays_109 : decode b_R_lays 109 = .ok (.goto (-97), 3) := by decide +kernel
theorem d_R_lays_112 : decode b_R_lays 112 = .ok (.iinc 1 1, 3) := by decide +kernel
theorem d_R_lays_115 : decode b_R_lays 115 = .ok (.goto (-113), 3) := by decide +kernel
theorem d_R_lays_118 : decode b_R_lays 118 = .ok (.iconst 0, 1) := by decide +kernel
theorem d_R_lays_119 : decode b_R_lays 119 = .ok (.istore_n 1, 1) := by decide +kernel
theorem d_R_lays_120 : decode b_R_lays 120 = .ok (.iload_n 1, 1) := by decide +kernel
theorem d_R_lays_121 : decode b_R_lays 121 = .ok (.aload_n 0, 1) := by decide +kernel
theorem d_R_lays_122 : decode b_R_lays 122 = .ok (.getfield 157, 3) := by decide +kernel
theorem d_R_lays_125 : decode b_R_lays 125 = .ok (.if_icmp .ge 109, 3) := by decide +kernel
theorem d_R_lays_128 : decode b_R_lays 128 = .ok (.bipush 8, 2) := by decide +kernel
theorem d_R_lays_130 : decode b_R_lays 130 = .ok (.aload_n 0, 1) := by decide +kernel
theorem d_R_lays_131 : decode b_R_lays 131 = .ok (.getfield 40, 3) := by decide +kernel
theorem d_R_lays_134 : decode b_R_lays 134 = .ok (.iload_n 1, 1) := by decide +kernel
theorem d_R_lays_135 : decode b_R_lays 135 = .ok (.iaload, 1) := by decide +kernel
theorem d_R_lays_136 : decode b_R_lays 136 = .ok (.imul, 1) := by decide +kernel
theorem d_R_lays_137 : decode b_R_lays 137 = .ok (.aload_n 0, 1) := by decide +kernel
theorem d_R_lays_138 : decode b_R_lays 138 = .ok (.getfield 37, 3) := by decide +kernel
theorem d_R_lays_141 : decode b_R_lays 141 = .ok (.iload_n 1, 1) := by decide +kernel
theorem d_R_lays_142 : decode b_R_lays 142 = .ok (.iaload, 1) := by decide +kernel
theorem d_R_lays_143 : decode b_R_lays 143 = .ok (.iadd, 1) := by decide +kernel
theorem d_R_lays_144 : decode b_R_lays 144 = .ok (.istore_n 2, 1) := by decide +kernel
theorem d_R_lays_145 : decode b_R_lays 145 = .ok (.aload_n 0, 1) := by decide +kernel
theorem d_R_lays_146 : decode b_R_lays 146 = .ok (.getfield 176, 3) := by decide +kernel
theorem d_R_lays_149 : decode b_R_lays 149 = .ok (.iload_n 1, 1) := by decide +kernel
theorem d_R_lays_150 : decode b_R_lays 150 = .ok (.invokestatic 179, 3) := by decide +kernel
theorem d_R_lays_153 : decode b_R_lays 153 = .ok (.ifCond .ne 33, 3) := by decide +kernel
theorem d_R_lays_156 : decode b_R_lays 156 = .ok (.aload_n 0, 1) := by decide +kernel
theorem d_R_lays_157 : decode b_R_lays 157 = .ok (.getfield 37, 3) := by decide +kernel
theorem d_R_lays_160 : decode b_R_lays 160 = .ok (.iload_n 1, 1) := by decide +kernel
theorem d_R_lays_161 : decode b_R_lays 161 = .ok (.iaload, 1) := by decide +kernel
theorem d_R_lays_162 : decode b_R_lays 162 = .ok (.aload_n 0, 1) := by decide +kernel
theorem d_R_lays_163 : decode b_R_lays 163 = .ok (.getfield 116, 3) := by decide +kernel
theorem d_R_lays_166 : decode b_R_lays 166 = .ok (.if_icmp .ge 20, 3) := by decide +kernel
theorem d_R_lays_169 : decode b_R_lays 169 = .ok (.aload_n 0, 1) := by decide +kernel
theorem d_R_lays_170 : decode b_R_lays 170 = .ok (.getfield 40, 3) := by decide +kernel
theorem d_R_lays_173 : decode b_R_lays 173 = .ok (.iload_n 1, 1) := by decide +kernel
theorem d_R_lays_174 : decode b_R_lays 174 = .ok (.iaload, 1) := by decide +kernel
theorem d_R_lays_175 : decode b_R_lays 175 = .ok (.aload_n 0, 1) := by decide +kernel
theorem d_R_lays_176 : decode b_R_lays 176 = .ok (.getfield 116, 3) := by decide +kernel
theorem d_R_lays_179 : decode b_R_lays 179 = .ok (.if_icmp .ge 7, 3) := by decide +kernel
theorem d_R_lays_182 : decode b_R_lays 182 = .ok (.iconst 1, 1) := by decide +kernel
theorem d_R_lays_183 : decode b_R_lays 183 = .ok (.goto 4, 3) := by decide +kernel
theorem d_R_lays_186 : decode b_R_lays 186 = .ok (.iconst 0, 1) := by decide +kernel
theorem d_R_lays_187 : decode b_R_lays 187 = .ok (.istore_n 3, 1) := by decide +kernel
theorem d_R_lays_188 : decode b_R_lays 188 = .ok (.aload_n 0, 1) := by decide +kernel
theorem d_R_lays_189 : decode b_R_lays 189 = .ok (.getfield 56, 3) := by decide +kernel
theorem d_R_lays_192 : decode b_R_lays 192 = .ok (.iload_n 2, 1) := by decide +kernel
theorem d_R_lays_193 : decode b_R_lays 193 = .ok (.iload_n 3, 1) := by decide +kernel
theorem d_R_lays_194 : decode b_R_lays 194 = .ok (.ifCond .eq 27, 3) := by decide +kernel
theorem d_R_lays_197 : decode b_R_lays 197 = .ok (.aload_n 0, 1) := by decide +kernel
theorem d_R_lays_198 : decode b_R_lays 198 = .ok (.getfield 34, 3) := by decide +kernel
theorem d_R_lays_201 : decode b_R_lays 201 = .ok (.iload_n 1, 1) := by decide +kernel
theorem d_R_lays_202 : decode b_R_lays 202 = .ok (.iaload, 1) := by decide +kernel
theorem d_R_lays_203 : decode b_R_lays 203 = .ok (.aload_n 0, 1) := by decide +kernel
theorem d_R_lays_204 : decode b_R_lays 204 = .ok (.getfield 56, 3) := by decide +kernel
theorem d_R_lays_207 : decode b_R_lays 207 = .ok (.iload_n 2, 1) := by decide +kernel
theorem d_R_lays_208 : decode b_R_lays 208 = .ok (.iaload, 1) := by decide +kernel
theorem d_R_lays_209 : decode b_R_lays 209 = .ok (.if_icmp .ge 12, 3) := by decide +kernel
theorem d_R_lays_212 : decode b_R_lays 212 = .ok (.aload_n 0, 1) := by decide +kernel
theorem d_R_lays_213 : decode b_R_lays 213 = .ok (.getfield 34, 3) := by decide +kernel
theorem d_R_lays_216 : decode b_R_lays 216 = .ok (.iload_n 1, 1) := by decide +kernel
theorem d_R_lays_217 : decode b_R_lays 217 = .ok (.iaload, 1) := by decide +kernel
theorem d_R_lays_218 : decode b_R_lays 218 = .ok (.goto 9, 3) := by decide +kernel
theorem d_R_lays_221 : decode b_R_lays 221 = .ok (.aload_n 0, 1) := by decide +kernel
theorem d_R_lays_222 : decode b_R_lays 222 = .ok (.getfield 56, 3) := by decide +kernel
theorem d_R_lays_225 : decode b_R_lays 225 = .ok (.iload_n 2, 1) := by decide +kernel
theorem d_R_lays_226 : decode b_R_lays 226 = .ok (.iaload, 1) := by decide +kernel
theorem d_R_lays_227 : decode b_R_lays 227 = .ok (.iastore, 1) := by decide +kernel
theorem d_R_lays_228 : decode b_R_lays 228 = .ok (.iinc 1 1, 3) := by decide +kernel
theorem d_R_lays_231 : decode b_R_lays 231 = .ok (.goto (-111), 3) := by decide +kernel
theorem d_R_lays_234 : decode b_R_lays 234 = .ok (.return_, 1) := by decide +kernel
theorem qf_R_53 : Cond.fieldLink nC8 53 (fC8 19).1 (fC8 19).2.1 (fC8 19).2.2.1 ∈ tbl := tbl_in 887 (by decide +kernel) rfl
theorem qf_R_56 : Cond.fieldLink nC8 56 (fC8 20).1 (fC8 20).2.1 (fC8 20).2.2.1 ∈ tbl := tbl_in 888 (by decide +kernel) rfl
theorem qm_R_179 : Cond.methodLink nC8 179 y_R_isIn ∈ tbl := tbl_in 1114 (by decide +kernel) rfl
theorem mo_R_lays : MokV y_R_lays b_R_lays 4 none 0 := ⟨⟨(tbl_in 1113 (by decide +kernel) rfl), (tbl_in 70 (by decide +kernel) rfl)⟩, ⟨(tbl_in 1112 (by decide +kernel) rfl), tbl_lw _ (tbl_in 30 (by decide +kernel) rfl), (tbl_in 30 (by decide +kernel) rfl)⟩, ⟨by decide +kernel, by decide +kernel⟩, by decide +kernel⟩
def j_R_lays_187 (P : Hp → Prop) (I120 : Hp → Int32 → Prop) (σ : Hp) (x1 : Int32) (x2 : Int32) (s0 : Int32) : Prop :=
  ((s0 = 0 → (vp_in x2 64) ∧ (vp_in x2 64) ∧ (∀ v4 : Int32, v4 = x1 + (1 : Int32) → I120 (st σ 16 (ix x2) (σ 16 (ix x2))) v4)) ∧ (¬ s0 = 0 → (vp_in x1 12) ∧ (vp_in x2 64) ∧ (((σ 16 (ix x2)) ≤ (σ 9 (ix x1)) → (vp_in x2 64) ∧ (vp_in x2 64) ∧ (∀ v10 : Int32, v10 = x1 + (1 : Int32) → I120 (st σ 16 (ix x2) (σ 16 (ix x2))) v10)) ∧ (¬ (σ 16 (ix x2)) ≤ (σ 9 (ix x1)) → (vp_in x1 12) ∧ (vp_in x2 64) ∧ (∀ v13 : Int32, v13 = x1 + (1 : Int32) → I120 (st σ 16 (ix x2) (σ 9 (ix x1))) v13)))))
def j_R_lays_186 (P : Hp → Prop) (I120 : Hp → Int32 → Prop) (σ : Hp) (x1 : Int32) (x2 : Int32) : Prop :=
  j_R_lays_187 P I120 σ x1 x2 (0 : Int32)
def b_R_lays_120_ (P : Hp → Prop)  (I120 : Hp → Int32 → Prop) (σ : Hp) (x1 : Int32) : Prop :=
  (((σ 0 10) ≤ x1 → P σ) ∧ (¬ (σ 0 10) ≤ x1 → (vp_in x1 12) ∧ (vp_in x1 12) ∧ (∀ v17 : Int32, v17 = ((8 : Int32) * (σ 11 (ix x1))) + (σ 10 (ix x1)) → wp_R_isIn σ (σ 0 17) x1 (fun (r18 : Int32) (t19 : Hp) => ((¬ r18 = 0 → j_R_lays_186 P I120 t19 x1 v17) ∧ (r18 = 0 → (vp_in x1 12) ∧ (((t19 0 2) ≤ (t19 10 (ix x1)) → j_R_lays_186 P I120 t19 x1 v17) ∧ (¬ (t19 0 2) ≤ (t19 10 (ix x1)) → (vp_in x1 12) ∧ (((t19 0 2) ≤ (t19 11 (ix x1)) → j_R_lays_186 P I120 t19 x1 v17) ∧ (¬ (t19 0 2) ≤ (t19 11 (ix x1)) → j_R_lays_187 P I120 t19 x1 v17 (1 : Int32)))))))))))
def j_R_lays_120 (P : Hp → Prop)  (σ : Hp) (x1 : Int32) : Prop := ∀ I120 : Hp → Int32 → Prop, (∀ (σ : Hp) (x1 : Int32), b_R_lays_120_  P  I120 σ x1 → I120 σ x1) → I120 σ x1
def j_R_lays_92 (P : Hp → Prop) (I2 : Hp → Int32 → Prop) (I12 : Hp → Int32 → Int32 → Prop) (σ : Hp) (x1 : Int32) (x2 : Int32) (s1 : Int32) (s2 : Int32) : Prop :=
  (vp_in s1 64) ∧ (vp_in (((8 : Int32) * x1) + x2) 64) ∧ (∀ v27 : Int32, v27 = x2 + (1 : Int32) → I12 (st (st σ 15 (ix s1) s2) 16 (ix (((8 : Int32) * x1) + x2)) (99 : Int32)) x1 v27)
def j_R_lays_55 (P : Hp → Prop) (I2 : Hp → Int32 → Prop) (I12 : Hp → Int32 → Int32 → Prop) (σ : Hp) (x1 : Int32) (x2 : Int32) (s0 : Int32) : Prop :=
  ((s0 = 0 → j_R_lays_92 P I2 I12 σ x1 x2 (((8 : Int32) * x1) + x2) (0 : Int32)) ∧ (¬ s0 = 0 → wp_R_throughOf σ x2 x1 (fun (r29 : Int32) (t30 : Hp) => (vp_in x2 9) ∧ (vp_in (t30 3 (ix x2)) 3) ∧ j_R_lays_92 P I2 I12 t30 x1 x2 (((8 : Int32) * x1) + x2) (r29 * (t30 7 (ix (t30 3 (ix x2))))))))
def j_R_lays_54 (P : Hp → Prop) (I2 : Hp → Int32 → Prop) (I12 : Hp → Int32 → Int32 → Prop) (σ : Hp) (x1 : Int32) (x2 : Int32) : Prop :=
  j_R_lays_55 P I2 I12 σ x1 x2 (0 : Int32)
def b_R_lays_12_ (P : Hp → Prop) (I2 : Hp → Int32 → Prop) (I12 : Hp → Int32 → Int32 → Prop) (σ : Hp) (x1 : Int32) (x2 : Int32) : Prop :=
  (((σ 0 2) ≤ x2 → (∀ v34 : Int32, v34 = x1 + (1 : Int32) → I2 σ v34)) ∧ (¬ (σ 0 2) ≤ x2 → ((x1 = x2 → j_R_lays_54 P I2 I12 σ x1 x2) ∧ (¬ x1 = x2 → (vp_in x2 9) ∧ (((3 : Int32) ≤ (σ 3 (ix x2)) → j_R_lays_54 P I2 I12 σ x1 x2) ∧ (¬ (3 : Int32) ≤ (σ 3 (ix x2)) → (vp_in x1 9) ∧ (vp_in x2 9) ∧ ((¬ (σ 5 (ix x1)) = (σ 3 (ix x2)) → j_R_lays_54 P I2 I12 σ x1 x2) ∧ ((σ 5 (ix x1)) = (σ 3 (ix x2)) → j_R_lays_55 P I2 I12 σ x1 x2 (1 : Int32)))))))))
def j_R_lays_12 (P : Hp → Prop) (I2 : Hp → Int32 → Prop) (σ : Hp) (x1 : Int32) (x2 : Int32) : Prop := ∀ I12 : Hp → Int32 → Int32 → Prop, (∀ (σ : Hp) (x1 : Int32) (x2 : Int32), b_R_lays_12_  P I2 I12 σ x1 x2 → I12 σ x1 x2) → I12 σ x1 x2
def b_R_lays_2_ (P : Hp → Prop)  (I2 : Hp → Int32 → Prop) (σ : Hp) (x1 : Int32) : Prop :=
  (((σ 0 2) ≤ x1 → j_R_lays_120 P σ (0 : Int32)) ∧ (¬ (σ 0 2) ≤ x1 → j_R_lays_12 P I2 σ x1 (0 : Int32)))
def j_R_lays_2 (P : Hp → Prop)  (σ : Hp) (x1 : Int32) : Prop := ∀ I2 : Hp → Int32 → Prop, (∀ (σ : Hp) (x1 : Int32), b_R_lays_2_  P  I2 σ x1 → I2 σ x1) → I2 σ x1
def wp_R_lays (σ : Hp)  (P : Hp → Prop) : Prop :=
  j_R_lays_2 P σ (0 : Int32)
set_option maxHeartbeats 4000000 in
set_option maxRecDepth 100000 in
theorem wj_R_lays_187 {w : Wd} {κ : Kx} {P : Hp → Prop} (hC : Cx μR w 4 κ nC8 b_R_lays 1) (hR : RtN μR w 4 κ b_R_lays P) {I120 : Hp → Int32 → Prop} (hI120 : ∀ σ x1, I120 σ x1 → V μR w 4 κ σ [some (.ref (w.1 0)), some (.int x1), none, none] 120 []) : ∀ (σ : Hp) (x1 : Int32) (x2 : Int32) (s0 : Int32), j_R_lays_187  P I120 σ x1 x2 s0 → V μR w 4 κ σ [some (.ref (w.1 0)), some (.int x1), some (.int x2), none] 187 [.int s0] := by
  intro σ x1 x2 s0 h
  unfold j_R_lays_187 at h
  refine V.istore_n (y := s0) (lo' := [some (.ref (w.1 0)), some (.int x1), some (.int x2), some (.int s0)]) hC d_R_lays_187 rfl rfl rfl rfl ?_
  refine V.aload_n hC d_R_lays_188 rfl rfl ?_
  refine V.getR (j := 20) hC d_R_lays_189 rfl rfl uC8 rfl rfl qf_R_56 ?_
  refine V.iload_n hC d_R_lays_192 rfl rfl ?_
  refine V.iload_n hC d_R_lays_193 rfl rfl ?_
  refine V.if_eq (tgt := 221) hC d_R_lays_194 (by decide) (fun c1 => ?_) (fun c1 => ?_)
  · replace h := h.1 c1
    refine V.aload_n hC d_R_lays_221 rfl rfl ?_
    refine V.getR (j := 20) hC d_R_lays_222 rfl rfl uC8 rfl rfl qf_R_56 ?_
    refine V.iload_n hC d_R_lays_225 rfl rfl ?_
    obtain ⟨b2, h⟩ := h
    refine V.iald hC d_R_lays_226 rfl b2 ?_
    obtain ⟨b3, h⟩ := h
    refine V.iast hC d_R_lays_227 rfl b3 ?_
    obtain ⟨v4, ev4⟩ : ∃ y : Int32, y = x1 + (1 : Int32) := ⟨_, rfl⟩
    replace h := h v4 ev4
    refine V.iinc (y := v4) (lo' := [some (.ref (w.1 0)), some (.int v4), some (.int x2), some (.int s0)]) hC d_R_lays_228 rfl rfl (show v4 = _ + Int32.ofInt (1) from ev4) rfl ?_
    refine V.goto (tgt := 120) hC d_R_lays_231 (by decide) ?_
    exact V.msk [true, true, false, false] rfl (hI120 (st σ 16 (ix x2) (σ 16 (ix x2))) v4 h)
  · replace h := h.2 c1
    refine V.aload_n hC d_R_lays_197 rfl rfl ?_
    refine V.getR (j := 11) hC d_R_lays_198 rfl rfl uC8 rfl rfl qf_R_34 ?_
    refine V.iload_n hC d_R_lays_201 rfl rfl ?_
    obtain ⟨b5, h⟩ := h
    refine V.iald hC d_R_lays_202 rfl b5 ?_
    refine V.aload_n hC d_R_lays_203 rfl rfl ?_
    refine V.getR (j := 20) hC d_R_lays_204 rfl rfl uC8 rfl rfl qf_R_56 ?_
    refine V.iload_n hC d_R_lays_207 rfl rfl ?_
    obtain ⟨b6, h⟩ := h
    refine V.iald hC d_R_lays_208 rfl b6 ?_
    refine V.icmp_ge (tgt := 221) hC d_R_lays_209 (by decide) (fun c7 => ?_) (fun c7 => ?_)
    · replace h := h.1 c7
      refine V.aload_n hC d_R_lays_221 rfl rfl ?_
      refine V.getR (j := 20) hC d_R_lays_222 rfl rfl uC8 rfl rfl qf_R_56 ?_
      refine V.iload_n hC d_R_lays_225 rfl rfl ?_
      obtain ⟨b8, h⟩ := h
      refine V.iald hC d_R_lays_226 rfl b8 ?_
      obtain ⟨b9, h⟩ := h
      refine V.iast hC d_R_lays_227 rfl b9 ?_
      obtain ⟨v10, ev10⟩ : ∃ y : Int32, y = x1 + (1 : Int32) := ⟨_, rfl⟩
      replace h := h v10 ev10
      refine V.iinc (y := v10) (lo' := [some (.ref (w.1 0)), some (.int v10), some (.int x2), some (.int s0)]) hC d_R_lays_228 rfl rfl (show v10 = _ + Int32.ofInt (1) from ev10) rfl ?_
      refine V.goto (tgt := 120) hC d_R_lays_231 (by decide) ?_
      exact V.msk [true, true, false, false] rfl (hI120 (st σ 16 (ix x2) (σ 16 (ix x2))) v10 h)
    · replace h := h.2 c7
      refine V.aload_n hC d_R_lays_212 rfl rfl ?_
      refine V.getR (j := 11) hC d_R_lays_213 rfl rfl uC8 rfl rfl qf_R_34 ?_
      refine V.iload_n hC d_R_lays_216 rfl rfl ?_
      obtain ⟨b11, h⟩ := h
      refine V.iald hC d_R_lays_217 rfl b11 ?_
      refine V.goto (tgt := 227) hC d_R_lays_218 (by decide) ?_
      obtain ⟨b12, h⟩ := h
      refine V.iast hC d_R_lays_227 rfl b12 ?_
      obtain ⟨v13, ev13⟩ : ∃ y : Int32, y = x1 + (1 : Int32) := ⟨_, rfl⟩
      replace h := h v13 ev13
      refine V.iinc (y := v13) (lo' := [some (.ref (w.1 0)), some (.int v13), some (.int x2), some (.int s0)]) hC d_R_lays_228 rfl rfl (show v13 = _ + Int32.ofInt (1) from ev13) rfl ?_
      refine V.goto (tgt := 120) hC d_R_lays_231 (by decide) ?_
      exact V.msk [true, true, false, false] rfl (hI120 (st σ 16 (ix x2) (σ 9 (ix x1))) v13 h)
set_option maxHeartbeats 4000000 in
set_option maxRecDepth 100000 in
theorem wj_R_lays_186 {w : Wd} {κ : Kx} {P : Hp → Prop} (hC : Cx μR w 4 κ nC8 b_R_lays 1) (hR : RtN μR w 4 κ b_R_lays P) {I120 : Hp → Int32 → Prop} (hI120 : ∀ σ x1, I120 σ x1 → V μR w 4 κ σ [some (.ref (w.1 0)), some (.int x1), none, none] 120 []) : ∀ (σ : Hp) (x1 : Int32) (x2 : Int32), j_R_lays_186  P I120 σ x1 x2 → V μR w 4 κ σ [some (.ref (w.1 0)), some (.int x1), some (.int x2), none] 186 [] := by
  intro σ x1 x2 h
  unfold j_R_lays_186 at h
  refine V.iconst (v := 0) hC d_R_lays_186 (by decide) ?_
  exact V.msk [true, true, true, false] rfl (wj_R_lays_187  hC hR hI120 σ x1 x2 (0 : Int32) h)
set_option maxHeartbeats 4000000 in
set_option maxRecDepth 100000 in
theorem wj_R_lays_120 {w : Wd} {κ : Kx} {P : Hp → Prop} (hC : Cx μR w 4 κ nC8 b_R_lays 1) (hR : RtN μR w 4 κ b_R_lays P)  : ∀ (σ : Hp) (x1 : Int32), j_R_lays_120  P  σ x1 → V μR w 4 κ σ [some (.ref (w.1 0)), some (.int x1), none, none] 120 [] := by
  intro σ x1 h
  refine h (fun σ x1 => V μR w 4 κ σ [some (.ref (w.1 0)), some (.int x1), none, none] 120 []) (fun σ x1 h => ?_)
  unfold b_R_lays_120_ at h
  refine V.iload_n hC d_R_lays_120 rfl rfl ?_
  refine V.aload_n hC d_R_lays_121 rfl rfl ?_
  refine V.getI (j := 10) hC d_R_lays_122 rfl rfl uC8 rfl rfl qf_R_157 ?_
  refine V.icmp_ge (tgt := 234) hC d_R_lays_125 (by decide) (fun c14 => ?_) (fun c14 => ?_)
  · replace h := h.1 c14
    exact hR _ _ _ h d_R_lays_234
  · replace h := h.2 c14
    refine V.bipush (v := 8) hC d_R_lays_128 (by decide) ?_
    refine V.aload_n hC d_R_lays_130 rfl rfl ?_
    refine V.getR (j := 13) hC d_R_lays_131 rfl rfl uC8 rfl rfl qf_R_40 ?_
    refine V.iload_n hC d_R_lays_134 rfl rfl ?_
    obtain ⟨b15, h⟩ := h
    refine V.iald hC d_R_lays_135 rfl b15 ?_
    refine V.imul hC d_R_lays_136 ?_
    refine V.aload_n hC d_R_lays_137 rfl rfl ?_
    refine V.getR (j := 12) hC d_R_lays_138 rfl rfl uC8 rfl rfl qf_R_37 ?_
    refine V.iload_n hC d_R_lays_141 rfl rfl ?_
    obtain ⟨b16, h⟩ := h
    refine V.iald hC d_R_lays_142 rfl b16 ?_
    refine V.iadd hC d_R_lays_143 ?_
    obtain ⟨v17, ev17⟩ : ∃ y : Int32, y = ((8 : Int32) * (σ 11 (ix x1))) + (σ 10 (ix x1)) := ⟨_, rfl⟩
    replace h := h v17 ev17
    refine V.istore_n (y := v17) (lo' := [some (.ref (w.1 0)), some (.int x1), some (.int v17), none]) hC d_R_lays_144 rfl rfl ev17 rfl ?_
    refine V.aload_n hC d_R_lays_145 rfl rfl ?_
    refine V.getI (j := 17) hC d_R_lays_146 rfl rfl uC8 rfl rfl qf_R_176 ?_
    refine V.iload_n hC d_R_lays_149 rfl rfl ?_
    refine V.callSI hC exR (w_R_isIn w σ (σ 0 17) x1 _ h) d_R_lays_150 mo_R_isIn qm_R_179 rfl rfl rfl rfl (Nat.le_of_ble_eq_true rfl) (fun r18 t19 h => ?_)
    refine V.if_ne (tgt := 186) hC d_R_lays_153 (by decide) (fun c20 => ?_) (fun c20 => ?_)
    · replace h := h.1 c20
      exact V.msk [true, true, true, false] rfl (wj_R_lays_186  hC hR (fun _ _ h => h) t19 x1 v17 h)
    · replace h := h.2 c20
      refine V.aload_n hC d_R_lays_156 rfl rfl ?_
      refine V.getR (j := 12) hC d_R_lays_157 rfl rfl uC8 rfl rfl qf_R_37 ?_
      refine V.iload_n hC d_R_lays_160 rfl rfl ?_
      obtain ⟨b21, h⟩ := h
      refine V.iald hC d_R_lays_161 rfl b21 ?_
      refine V.aload_n hC d_R_lays_162 rfl rfl ?_
      refine V.getI (j := 2) hC d_R_lays_163 rfl rfl uC8 rfl rfl qf_R_116 ?_
      refine V.icmp_ge (tgt := 186) hC d_R_lays_166 (by decide) (fun c22 => ?_) (fun c22 => ?_)
      · replace h := h.1 c22
        exact V.msk [true, true, true, false] rfl (wj_R_lays_186  hC hR (fun _ _ h => h) t19 x1 v17 h)
      · replace h := h.2 c22
        refine V.aload_n hC d_R_lays_169 rfl rfl ?_
        refine V.getR (j := 13) hC d_R_lays_170 rfl rfl uC8 rfl rfl qf_R_40 ?_
        refine V.iload_n hC d_R_lays_173 rfl rfl ?_
        obtain ⟨b23, h⟩ := h
        refine V.iald hC d_R_lays_174 rfl b23 ?_
        refine V.aload_n hC d_R_lays_175 rfl rfl ?_
        refine V.getI (j := 2) hC d_R_lays_176 rfl rfl uC8 rfl rfl qf_R_116 ?_
        refine V.icmp_ge (tgt := 186) hC d_R_lays_179 (by decide) (fun c24 => ?_) (fun c24 => ?_)
        · replace h := h.1 c24
          exact V.msk [true, true, true, false] rfl (wj_R_lays_186  hC hR (fun _ _ h => h) t19 x1 v17 h)
        · replace h := h.2 c24
          refine V.iconst (v := 1) hC d_R_lays_182 (by decide) ?_
          refine V.goto (tgt := 187) hC d_R_lays_183 (by decide) ?_
          exact V.msk [true, true, true, false] rfl (wj_R_lays_187  hC hR (fun _ _ h => h) t19 x1 v17 (1 : Int32) h)
set_option maxHeartbeats 4000000 in
set_option maxRecDepth 100000 in
theorem wj_R_lays_92 {w : Wd} {κ : Kx} {P : Hp → Prop} (hC : Cx μR w 4 κ nC8 b_R_lays 1) (hR : RtN μR w 4 κ b_R_lays P) {I2 : Hp → Int32 → Prop} (hI2 : ∀ σ x1, I2 σ x1 → V μR w 4 κ σ [some (.ref (w.1 0)), some (.int x1), none, none] 2 []) {I12 : Hp → Int32 → Int32 → Prop} (hI12 : ∀ σ x1 x2, I12 σ x1 x2 → V μR w 4 κ σ [some (.ref (w.1 0)), some (.int x1), some (.int x2), none] 12 []) : ∀ (σ : Hp) (x1 : Int32) (x2 : Int32) (s1 : Int32) (s2 : Int32), j_R_lays_92  P I2 I12 σ x1 x2 s1 s2 → V μR w 4 κ σ [some (.ref (w.1 0)), some (.int x1), some (.int x2), none] 92 [.int s2, .int s1, .ref (w.1 15)] := by
  intro σ x1 x2 s1 s2 h
  unfold j_R_lays_92 at h
  obtain ⟨b25, h⟩ := h
  refine V.iast hC d_R_lays_92 rfl b25 ?_
  refine V.aload_n hC d_R_lays_93 rfl rfl ?_
  refine V.getR (j := 20) hC d_R_lays_94 rfl rfl uC8 rfl rfl qf_R_56 ?_
  refine V.bipush (v := 8) hC d_R_lays_97 (by decide) ?_
  refine V.iload_n hC d_R_lays_99 rfl rfl ?_
  refine V.imul hC d_R_lays_100 ?_
  refine V.iload_n hC d_R_lays_101 rfl rfl ?_
  refine V.iadd hC d_R_lays_102 ?_
  refine V.bipush (v := 99) hC d_R_lays_103 (by decide) ?_
  obtain ⟨b26, h⟩ := h
  refine V.iast hC d_R_lays_105 rfl b26 ?_
  obtain ⟨v27, ev27⟩ : ∃ y : Int32, y = x2 + (1 : Int32) := ⟨_, rfl⟩
  replace h := h v27 ev27
  refine V.iinc (y := v27) (lo' := [some (.ref (w.1 0)), some (.int x1), some (.int v27), none]) hC d_R_lays_106 rfl rfl (show v27 = _ + Int32.ofInt (1) from ev27) rfl ?_
  refine V.goto (tgt := 12) hC d_R_lays_109 (by decide) ?_
  exact V.msk [true, true, true, false] rfl (hI12 (st (st σ 15 (ix s1) s2) 16 (ix (((8 : Int32) * x1) + x2)) (99 : Int32)) x1 v27 h)
set_option maxHeartbeats 4000000 in
set_option maxRecDepth 100000 in
theorem wj_R_lays_55 {w : Wd} {κ : Kx} {P : Hp → Prop} (hC : Cx μR w 4 κ nC8 b_R_lays 1) (hR : RtN μR w 4 κ b_R_lays P) {I2 : Hp → Int32 → Prop} (hI2 : ∀ σ x1, I2 σ x1 → V μR w 4 κ σ [some (.ref (w.1 0)), some (.int x1), none, none] 2 []) {I12 : Hp → Int32 → Int32 → Prop} (hI12 : ∀ σ x1 x2, I12 σ x1 x2 → V μR w 4 κ σ [some (.ref (w.1 0)), some (.int x1), some (.int x2), none] 12 []) : ∀ (σ : Hp) (x1 : Int32) (x2 : Int32) (s0 : Int32), j_R_lays_55  P I2 I12 σ x1 x2 s0 → V μR w 4 κ σ [some (.ref (w.1 0)), some (.int x1), some (.int x2), none] 55 [.int s0] := by
  intro σ x1 x2 s0 h
  unfold j_R_lays_55 at h
  refine V.istore_n (y := s0) (lo' := [some (.ref (w.1 0)), some (.int x1), some (.int x2), some (.int s0)]) hC d_R_lays_55 rfl rfl rfl rfl ?_
  refine V.aload_n hC d_R_lays_56 rfl rfl ?_
  refine V.getR (j := 19) hC d_R_lays_57 rfl rfl uC8 rfl rfl qf_R_53 ?_
  refine V.bipush (v := 8) hC d_R_lays_60 (by decide) ?_
  refine V.iload_n hC d_R_lays_62 rfl rfl ?_
  refine V.imul hC d_R_lays_63 ?_
  refine V.iload_n hC d_R_lays_64 rfl rfl ?_
  refine V.iadd hC d_R_lays_65 ?_
  refine V.iload_n hC d_R_lays_66 rfl rfl ?_
  refine V.if_eq (tgt := 91) hC d_R_lays_67 (by decide) (fun c28 => ?_) (fun c28 => ?_)
  · replace h := h.1 c28
    refine V.iconst (v := 0) hC d_R_lays_91 (by decide) ?_
    exact V.msk [true, true, true, false] rfl (wj_R_lays_92  hC hR hI2 hI12 σ x1 x2 (((8 : Int32) * x1) + x2) (0 : Int32) h)
  · replace h := h.2 c28
    refine V.aload_n hC d_R_lays_70 rfl rfl ?_
    refine V.iload_n hC d_R_lays_71 rfl rfl ?_
    refine V.iload_n hC d_R_lays_72 rfl rfl ?_
    refine V.callVI hC exR (w_R_throughOf w σ x2 x1 _ h) d_R_lays_73 mo_R_throughOf qm_R_173 rfl rfl rfl rfl rfl rfl rfl (Nat.le_of_ble_eq_true rfl) (fun r29 t30 h => ?_)
    refine V.aload_n hC d_R_lays_76 rfl rfl ?_
    refine V.getR (j := 8) hC d_R_lays_77 rfl rfl uC8 rfl rfl qf_R_28 ?_
    refine V.aload_n hC d_R_lays_80 rfl rfl ?_
    refine V.getR (j := 3) hC d_R_lays_81 rfl rfl uC8 rfl rfl qf_R_16 ?_
    refine V.iload_n hC d_R_lays_84 rfl rfl ?_
    obtain ⟨b31, h⟩ := h
    refine V.iald hC d_R_lays_85 rfl b31 ?_
    obtain ⟨b32, h⟩ := h
    refine V.iald hC d_R_lays_86 rfl b32 ?_
    refine V.imul hC d_R_lays_87 ?_
    refine V.goto (tgt := 92) hC d_R_lays_88 (by decide) ?_
    exact V.msk [true, true, true, false] rfl (wj_R_lays_92  hC hR hI2 hI12 t30 x1 x2 (((8 : Int32) * x1) + x2) (r29 * (t30 7 (ix (t30 3 (ix x2))))) h)
set_option maxHeartbeats 4000000 in
set_option maxRecDepth 100000 in
theorem wj_R_lays_54 {w : Wd} {κ : Kx} {P : Hp → Prop} (hC : Cx μR w 4 κ nC8 b_R_lays 1) (hR : RtN μR w 4 κ b_R_lays P) {I2 : Hp → Int32 → Prop} (hI2 : ∀ σ x1, I2 σ x1 → V μR w 4 κ σ [some (.ref (w.1 0)), some (.int x1), none, none] 2 []) {I12 : Hp → Int32 → Int32 → Prop} (hI12 : ∀ σ x1 x2, I12 σ x1 x2 → V μR w 4 κ σ [some (.ref (w.1 0)), some (.int x1), some (.int x2), none] 12 []) : ∀ (σ : Hp) (x1 : Int32) (x2 : Int32), j_R_lays_54  P I2 I12 σ x1 x2 → V μR w 4 κ σ [some (.ref (w.1 0)), some (.int x1), some (.int x2), none] 54 [] := by
  intro σ x1 x2 h
  unfold j_R_lays_54 at h
  refine V.iconst (v := 0) hC d_R_lays_54 (by decide) ?_
  exact V.msk [true, true, true, false] rfl (wj_R_lays_55  hC hR hI2 hI12 σ x1 x2 (0 : Int32) h)
set_option maxHeartbeats 4000000 in
set_option maxRecDepth 100000 in
theorem wj_R_lays_12 {w : Wd} {κ : Kx} {P : Hp → Prop} (hC : Cx μR w 4 κ nC8 b_R_lays 1) (hR : RtN μR w 4 κ b_R_lays P) {I2 : Hp → Int32 → Prop} (hI2 : ∀ σ x1, I2 σ x1 → V μR w 4 κ σ [some (.ref (w.1 0)), some (.int x1), none, none] 2 []) : ∀ (σ : Hp) (x1 : Int32) (x2 : Int32), j_R_lays_12  P I2 σ x1 x2 → V μR w 4 κ σ [some (.ref (w.1 0)), some (.int x1), some (.int x2), none] 12 [] := by
  intro σ x1 x2 h
  refine h (fun σ x1 x2 => V μR w 4 κ σ [some (.ref (w.1 0)), some (.int x1), some (.int x2), none] 12 []) (fun σ x1 x2 h => ?_)
  unfold b_R_lays_12_ at h
  refine V.iload_n hC d_R_lays_12 rfl rfl ?_
  refine V.aload_n hC d_R_lays_13 rfl rfl ?_
  refine V.getI (j := 2) hC d_R_lays_14 rfl rfl uC8 rfl rfl qf_R_116 ?_
  refine V.icmp_ge (tgt := 112) hC d_R_lays_17 (by decide) (fun c33 => ?_) (fun c33 => ?_)
  · replace h := h.1 c33
    obtain ⟨v34, ev34⟩ : ∃ y : Int32, y = x1 + (1 : Int32) := ⟨_, rfl⟩
    replace h := h v34 ev34
    refine V.iinc (y := v34) (lo' := [some (.ref (w.1 0)), some (.int v34), some (.int x2), none]) hC d_R_lays_112 rfl rfl (show v34 = _ + Int32.ofInt (1) from ev34) rfl ?_
    refine V.goto (tgt := 2) hC d_R_lays_115 (by decide) ?_
    exact V.msk [true, true, false, false] rfl (hI2 σ v34 h)
  · replace h := h.2 c33
    refine V.iload_n hC d_R_lays_20 rfl rfl ?_
    refine V.iload_n hC d_R_lays_21 rfl rfl ?_
    refine V.icmp_eq (tgt := 54) hC d_R_lays_22 (by decide) (fun c35 => ?_) (fun c35 => ?_)
    · replace h := h.1 c35
      exact V.msk [true, true, true, false] rfl (wj_R_lays_54  hC hR hI2 (fun _ _ _ h => h) σ x1 x2 h)
    · replace h := h.2 c35
      refine V.aload_n hC d_R_lays_25 rfl rfl ?_
      refine V.getR (j := 3) hC d_R_lays_26 rfl rfl uC8 rfl rfl qf_R_16 ?_
      refine V.iload_n hC d_R_lays_29 rfl rfl ?_
      obtain ⟨b36, h⟩ := h
      refine V.iald hC d_R_lays_30 rfl b36 ?_
      refine V.iconst (v := 3) hC d_R_lays_31 (by decide) ?_
      refine V.icmp_ge (tgt := 54) hC d_R_lays_32 (by decide) (fun c37 => ?_) (fun c37 => ?_)
      · replace h := h.1 c37
        exact V.msk [true, true, true, false] rfl (wj_R_lays_54  hC hR hI2 (fun _ _ _ h => h) σ x1 x2 h)
      · replace h := h.2 c37
        refine V.aload_n hC d_R_lays_35 rfl rfl ?_
        refine V.getR (j := 5) hC d_R_lays_36 rfl rfl uC8 rfl rfl qf_R_22 ?_
        refine V.iload_n hC d_R_lays_39 rfl rfl ?_
        obtain ⟨b38, h⟩ := h
        refine V.iald hC d_R_lays_40 rfl b38 ?_
        refine V.aload_n hC d_R_lays_41 rfl rfl ?_
        refine V.getR (j := 3) hC d_R_lays_42 rfl rfl uC8 rfl rfl qf_R_16 ?_
        refine V.iload_n hC d_R_lays_45 rfl rfl ?_
        obtain ⟨b39, h⟩ := h
        refine V.iald hC d_R_lays_46 rfl b39 ?_
        refine V.icmp_ne (tgt := 54) hC d_R_lays_47 (by decide) (fun c40 => ?_) (fun c40 => ?_)
        · replace h := h.1 c40
          exact V.msk [true, true, true, false] rfl (wj_R_lays_54  hC hR hI2 (fun _ _ _ h => h) σ x1 x2 h)
        · replace h := h.2 c40
          refine V.iconst (v := 1) hC d_R_lays_50 (by decide) ?_
          refine V.goto (tgt := 55) hC d_R_lays_51 (by decide) ?_
          exact V.msk [true, true, true, false] rfl (wj_R_lays_55  hC hR hI2 (fun _ _ _ h => h) σ x1 x2 (1 : Int32) h)
set_option maxHeartbeats 4000000 in
set_option maxRecDepth 100000 in
theorem wj_R_lays_2 {w : Wd} {κ : Kx} {P : Hp → Prop} (hC : Cx μR w 4 κ nC8 b_R_lays 1) (hR : RtN μR w 4 κ b_R_lays P)  : ∀ (σ : Hp) (x1 : Int32), j_R_lays_2  P  σ x1 → V μR w 4 κ σ [some (.ref (w.1 0)), some (.int x1), none, none] 2 [] := by
  intro σ x1 h
  refine h (fun σ x1 => V μR w 4 κ σ [some (.ref (w.1 0)), some (.int x1), none, none] 2 []) (fun σ x1 h => ?_)
  unfold b_R_lays_2_ at h
  refine V.iload_n hC d_R_lays_2 rfl rfl ?_
  refine V.aload_n hC d_R_lays_3 rfl rfl ?_
  refine V.getI (j := 2) hC d_R_lays_4 rfl rfl uC8 rfl rfl qf_R_116 ?_
  refine V.icmp_ge (tgt := 118) hC d_R_lays_7 (by decide) (fun c41 => ?_) (fun c41 => ?_)
  · replace h := h.1 c41
    refine V.iconst (v := 0) hC d_R_lays_118 (by decide) ?_
    refine V.istore_n (y := (0 : Int32)) (lo' := [some (.ref (w.1 0)), some (.int (0 : Int32)), none, none]) hC d_R_lays_119 rfl rfl rfl rfl ?_
    exact V.msk [true, true, false, false] rfl (wj_R_lays_120  hC hR  σ (0 : Int32) h)
  · replace h := h.2 c41
    refine V.iconst (v := 0) hC d_R_lays_10 (by decide) ?_
    refine V.istore_n (y := (0 : Int32)) (lo' := [some (.ref (w.1 0)), some (.int x1), some (.int (0 : Int32)), none]) hC d_R_lays_11 rfl rfl rfl rfl ?_
    exact V.msk [true, true, true, false] rfl (wj_R_lays_12  hC hR (fun _ _ h => h) σ x1 (0 : Int32) h)
set_option maxHeartbeats 4000000 in
set_option maxRecDepth 100000 in
theorem w_R_lays (w : Wd) (σ : Hp)  (P : Hp → Prop) (h : wp_R_lays σ  P) : CtN μR w y_R_lays b_R_lays 4 none 1 [.ref (w.1 0)] σ P := by
  unfold wp_R_lays at h
  refine CtN.ofV (C := nC8) (lo := [some (.ref (w.1 0)), none, none, none]) exR (by decide +kernel) rfl rfl rfl (fun κ hC hR => ?_)
  refine V.iconst (v := 0) hC d_R_lays_0 (by decide) ?_
  refine V.istore_n (y := (0 : Int32)) (lo' := [some (.ref (w.1 0)), some (.int (0 : Int32)), none, none]) hC d_R_lays_1 rfl rfl rfl rfl ?_
  exact V.msk [true, true, false, false] rfl (wj_R_lays_2  hC hR  σ (0 : Int32) h)
abbrev b_R_laysTold : ByteArray := prog_10_method_37_code
def y_R_laysTold : MethodName := ⟨nC8, "laysTold", "()V"⟩
theorem d_R_laysTold_0 : decode b_R_laysTold 0 = .ok (.aload_n 0, 1) := by decide +kernel
theorem d_R_laysTold_1 : decode b_R_laysTold 1 = .ok (.invokevirtual 183, 3) := by decide +kernel
theorem d_R_laysTold_4 : decode b_R_laysTold 4 = .ok (.aload_n 0, 1) := by decide +kernel
theorem d_R_laysTold_5 : decode b_R_laysTold 5 = .ok (.invokevirtual 186, 3) := by decide +kernel
theorem d_R_laysTold_8 : decode b_R_laysTold 8 = .ok (.return_, 1) := by decide +kernel
theorem qm_R_183 : Cond.methodLink nC8 183 y_R_asTold ∈ tbl := tbl_in 1106 (by decide +kernel) rfl
theorem qm_R_186 : Cond.methodLink nC8 186 y_R_lays ∈ tbl := tbl_in 1110 (by decide +kernel) rfl
theorem mo_R_laysTold : MokV y_R_laysTold b_R_laysTold 1 none 0 := ⟨⟨(tbl_in 1105 (by decide +kernel) rfl), (tbl_in 70 (by decide +kernel) rfl)⟩, ⟨(tbl_in 1104 (by decide +kernel) rfl), tbl_lw _ (tbl_in 28 (by decide +kernel) rfl), (tbl_in 28 (by decide +kernel) rfl)⟩, ⟨by decide +kernel, by decide +kernel⟩, by decide +kernel⟩
def wp_R_laysTold (σ : Hp)  (P : Hp → Prop) : Prop :=
  wp_R_asTold σ (fun (t2 : Hp) => wp_R_lays t2 (fun (t4 : Hp) => P t4))
set_option maxHeartbeats 4000000 in
set_option maxRecDepth 100000 in
theorem w_R_laysTold (w : Wd) (σ : Hp)  (P : Hp → Prop) (h : wp_R_laysTold σ  P) : CtN μR w y_R_laysTold b_R_laysTold 1 none 7 [.ref (w.1 0)] σ P := by
  unfold wp_R_laysTold at h
  refine CtN.ofV (C := nC8) (lo := [some (.ref (w.1 0))]) exR (by decide +kernel) rfl rfl rfl (fun κ hC hR => ?_)
  refine V.aload_n hC d_R_laysTold_0 rfl rfl ?_
  refine V.callVN hC exR (w_R_asTold w σ  _ h) d_R_laysTold_1 mo_R_asTold qm_R_183 rfl rfl rfl rfl rfl rfl rfl (Nat.le_of_ble_eq_true rfl) (fun t2 h => ?_)
  refine V.aload_n hC d_R_laysTold_4 rfl rfl ?_
  refine V.callVN hC exR (w_R_lays w t2  _ h) d_R_laysTold_5 mo_R_lays qm_R_186 rfl rfl rfl rfl rfl rfl rfl (Nat.le_of_ble_eq_true rfl) (fun t4 h => ?_)
  exact hR _ _ _ h d_R_laysTold_8
abbrev b_R_owesNow : ByteArray := prog_10_method_38_code
def y_R_owesNow : MethodName := ⟨nC8, "owesNow", "(III)I"⟩
theorem d_R_owesNow_0 : decode b_R_owesNow 0 = .ok (.iconst 0, 1) := by decide +kernel
theorem d_R_owesNow_1 : decode b_R_owesNow 1 = .ok (.istore 4, 2) := by decide +kernel
theorem d_R_owesNow_3 : decode b_R_owesNow 3 = .ok (.aload_n 0, 1) := by decide +kernel
theorem d_R_owesNow_4 : decode b_R_owesNow 4 = .ok (.getfield 56, 3) := by decide +kernel
theorem d_R_owesNow_7 : decode b_R_owesNow 7 = .ok (.bipush 8, 2) := by decide +kernel
theorem d_R_owesNow_9 : decode b_R_owesNow 9 = .ok (.iload_n 2, 1) := by decide +kernel
theorem d_R_owesNow_10 : decode b_R_owesNow 10 = .ok (.imul, 1) := by decide +kernel
theorem d_R_owesNow_11 : decode b_R_owesNow 11 = .ok (.iload_n 3, 1) := by decide +kernel
theorem d_R_owesNow_12 : decode b_R_owesNow 12 = .ok (.iadd, 1) := by decide +kernel
theorem d_R_owesNow_13 : decode b_R_owesNow 13 = .ok (.iaload, 1) := by decide +kernel
theorem d_R_owesNow_14 : decode b_R_owesNow 14 = .ok (.istore 5, 2) := by decide +kernel
theorem d_R_owesNow_16 : decode b_R_owesNow 16 = .ok (.iload 5, 2) := by decide +kernel
theorem d_R_owesNow_18 : decode b_R_owesNow 18 = .ok (.iload_n 1, 1) := by decide +kernel
theorem d_R_owesNow_19 : decode b_R_owesNow 19 = .ok (.if_icmp .gt 34, 3) := by decide +kernel
theorem d_R_owesNow_22 : decode b_R_owesNow 22 = .ok (.iload 4, 2) := by decide +kernel
theorem d_R_owesNow_24 : decode b_R_owesNow 24 = .ok (.aload_n 0, 1) := by decide +kernel
theorem d_R_owesNow_25 : decode b_R_owesNow 25 = .ok (.getfield 49, 3) := by decide +kernel
theorem d_R_owesNow_28 : decode b_R_owesNow 28 = .ok (.bipush 30, 2) := by decide +kernel
theorem d_R_owesNow_30 : decode b_R_owesNow 30 = .ok (.iload_n 3, 1) := by decide +kernel
theorem d_R_owesNow_31 : decode b_R_owesNow 31 = .ok (.imul, 1) := by decide +kernel
theorem d_R_owesNow_32 : decode b_R_owesNow 32 = .ok (.iload 5, 2) := by decide +kernel
theorem d_R_owesNow_34 : decode b_R_owesNow 34 = .ok (.iadd, 1) := by decide +kernel
theorem d_R_owesNow_35 : decode b_R_owesNow 35 = .ok (.baload, 1) := by decide +kernel
theorem d_R_owesNow_36 : decode b_R_owesNow 36 = .ok (.ifCond .eq 7, 3) := by decide +kernel
theorem d_R_owesNow_39 : decode b_R_owesNow 39 = .ok (.iconst 0, 1) := by decide +kernel
theorem d_R_owesNow_40 : decode b_R_owesNow 40 = .ok (.goto 4, 3) := by decide +kernel
theorem d_R_owesNow_43 : decode b_R_owesNow 43 = .ok (.iconst 1, 1) := by decide +kernel
theorem d_R_owesNow_44 : decode b_R_owesNow 44 = .ok (.iadd, 1) := by decide +kernel
theorem d_R_owesNow_45 : decode b_R_owesNow 45 = .ok (.istore 4, 2) := by decide +kernel
theorem d_R_owesNow_47 : decode b_R_owesNow 47 = .ok (.iinc 5 1, 3) := by decide +kernel
theorem d_R_owesNow_50 : decode b_R_owesNow 50 = .ok (.goto (-34), 3) := by decide +kernel
theorem d_R_owesNow_53 : decode b_R_owesNow 53 = .ok (.iload 4, 2) := by decide +kernel
theorem d_R_owesNow_55 : decode b_R_owesNow 55 = .ok (.aload_n 0, 1) := by decide +kernel
theorem d_R_owesNow_56 : decode b_R_owesNow 56 = .ok (.getfield 53, 3) := by decide +kernel
theorem d_R_owesNow_59 : decode b_R_owesNow 59 = .ok (.bipush 8, 2) := by decide +kernel
theorem d_R_owesNow_61 : decode b_R_owesNow 61 = .ok (.iload_n 2, 1) := by decide +kernel
theorem d_R_owesNow_62 : decode b_R_owesNow 62 = .ok (.imul, 1) := by decide +kernel
theorem d_R_owesNow_63 : decode b_R_owesNow 63 = .ok (.iload_n 3, 1) := by decide +kernel
theorem d_R_owesNow_64 : decode b_R_owesNow 64 = .ok (.iadd, 1) := by decide +kernel
theorem d_R_owesNow_65 : decode b_R_owesNow 65 = .ok (.iaload, 1) := by decide +kernel
theorem d_R_owesNow_66 : decode b_R_owesNow 66 = .ok (.imul, 1) := by decide +kernel
theorem d_R_owesNow_67 : decode b_R_owesNow 67 = .ok (.ireturn, 1) := by decide +kernel
theorem mo_R_owesNow : MokV y_R_owesNow b_R_owesNow 6 (some .int) 3 := ⟨⟨(tbl_in 1120 (by decide +kernel) rfl), (tbl_in 70 (by decide +kernel) rfl)⟩, ⟨(tbl_in 1119 (by decide +kernel) rfl), tbl_lw _ (tbl_in 31 (by decide +kernel) rfl), (tbl_in 31 (by decide +kernel) rfl)⟩, ⟨by decide +kernel, by decide +kernel⟩, by decide +kernel⟩
def b_R_owesNow_16_ (P : Int32 → Hp → Prop)  (I16 : Hp → Int32 → Int32 → Int32 → Int32 → Int32 → Prop) (σ : Hp) (x1 : Int32) (x2 : Int32) (x3 : Int32) (x4 : Int32) (x5 : Int32) : Prop :=
  ((x1 < x5 → (vp_in (((8 : Int32) * x2) + x3) 64) ∧ P (x4 * (σ 15 (ix (((8 : Int32) * x2) + x3)))) σ) ∧ (¬ x1 < x5 → (vp_in (((30 : Int32) * x3) + x5) 240) ∧ (((σ 14 (ix (((30 : Int32) * x3) + x5))) = 0 → (∀ v5 : Int32, v5 = x4 + (1 : Int32) → (∀ v6 : Int32, v6 = x5 + (1 : Int32) → I16 σ x1 x2 x3 v5 v6))) ∧ (¬ (σ 14 (ix (((30 : Int32) * x3) + x5))) = 0 → (∀ v7 : Int32, v7 = x4 + (0 : Int32) → (∀ v8 : Int32, v8 = x5 + (1 : Int32) → I16 σ x1 x2 x3 v7 v8))))))
def j_R_owesNow_16 (P : Int32 → Hp → Prop)  (σ : Hp) (x1 : Int32) (x2 : Int32) (x3 : Int32) (x4 : Int32) (x5 : Int32) : Prop := ∀ I16 : Hp → Int32 → Int32 → Int32 → Int32 → Int32 → Prop, (∀ (σ : Hp) (x1 : Int32) (x2 : Int32) (x3 : Int32) (x4 : Int32) (x5 : Int32), b_R_owesNow_16_  P  I16 σ x1 x2 x3 x4 x5 → I16 σ x1 x2 x3 x4 x5) → I16 σ x1 x2 x3 x4 x5
def wp_R_owesNow (σ : Hp) (a1 : Int32) (a2 : Int32) (a3 : Int32) (P : Int32 → Hp → Prop) : Prop :=
  (vp_in (((8 : Int32) * a2) + a3) 64) ∧ (∀ v10 : Int32, v10 = σ 16 (ix (((8 : Int32) * a2) + a3)) → j_R_owesNow_16 P σ a1 a2 a3 (0 : Int32) v10)
set_option maxHeartbeats 4000000 in
set_option maxRecDepth 100000 in
theorem wj_R_owesNow_16 {w : Wd} {κ : Kx} {P : Int32 → Hp → Prop} (hC : Cx μR w 6 κ nC8 b_R_owesNow 0) (hR : RtI μR w 6 κ b_R_owesNow .int P)  : ∀ (σ : Hp) (x1 : Int32) (x2 : Int32) (x3 : Int32) (x4 : Int32) (x5 : Int32), j_R_owesNow_16  P  σ x1 x2 x3 x4 x5 → V μR w 6 κ σ [some (.ref (w.1 0)), some (.int x1), some (.int x2), some (.int x3), some (.int x4), some (.int x5)] 16 [] := by
  intro σ x1 x2 x3 x4 x5 h
  refine h (fun σ x1 x2 x3 x4 x5 => V μR w 6 κ σ [some (.ref (w.1 0)), some (.int x1), some (.int x2), some (.int x3), some (.int x4), some (.int x5)] 16 []) (fun σ x1 x2 x3 x4 x5 h => ?_)
  unfold b_R_owesNow_16_ at h
  refine V.iload hC d_R_owesNow_16 rfl ?_
  refine V.iload_n hC d_R_owesNow_18 rfl rfl ?_
  refine V.icmp_gt (tgt := 53) hC d_R_owesNow_19 (by decide) (fun c1 => ?_) (fun c1 => ?_)
  · replace h := h.1 c1
    refine V.iload hC d_R_owesNow_53 rfl ?_
    refine V.aload_n hC d_R_owesNow_55 rfl rfl ?_
    refine V.getR (j := 19) hC d_R_owesNow_56 rfl rfl uC8 rfl rfl qf_R_53 ?_
    refine V.bipush (v := 8) hC d_R_owesNow_59 (by decide) ?_
    refine V.iload_n hC d_R_owesNow_61 rfl rfl ?_
    refine V.imul hC d_R_owesNow_62 ?_
    refine V.iload_n hC d_R_owesNow_63 rfl rfl ?_
    refine V.iadd hC d_R_owesNow_64 ?_
    obtain ⟨b2, h⟩ := h
    refine V.iald hC d_R_owesNow_65 rfl b2 ?_
    refine V.imul hC d_R_owesNow_66 ?_
    exact hR _ _ _ _ h rfl d_R_owesNow_67
  · replace h := h.2 c1
    refine V.iload hC d_R_owesNow_22 rfl ?_
    refine V.aload_n hC d_R_owesNow_24 rfl rfl ?_
    refine V.getR (j := 18) hC d_R_owesNow_25 rfl rfl uC8 rfl rfl qf_R_49 ?_
    refine V.bipush (v := 30) hC d_R_owesNow_28 (by decide) ?_
    refine V.iload_n hC d_R_owesNow_30 rfl rfl ?_
    refine V.imul hC d_R_owesNow_31 ?_
    refine V.iload hC d_R_owesNow_32 rfl ?_
    refine V.iadd hC d_R_owesNow_34 ?_
    obtain ⟨b3, h⟩ := h
    refine V.zald hC d_R_owesNow_35 rfl b3 ?_
    refine V.if_eq (tgt := 43) hC d_R_owesNow_36 (by decide) (fun c4 => ?_) (fun c4 => ?_)
    · replace h := h.1 c4
      refine V.iconst (v := 1) hC d_R_owesNow_43 (by decide) ?_
      refine V.iadd hC d_R_owesNow_44 ?_
      obtain ⟨v5, ev5⟩ : ∃ y : Int32, y = x4 + (1 : Int32) := ⟨_, rfl⟩
      replace h := h v5 ev5
      refine V.istore (y := v5) (lo' := [some (.ref (w.1 0)), some (.int x1), some (.int x2), some (.int x3), some (.int v5), some (.int x5)]) hC d_R_owesNow_45 rfl ev5 rfl ?_
      obtain ⟨v6, ev6⟩ : ∃ y : Int32, y = x5 + (1 : Int32) := ⟨_, rfl⟩
      replace h := h v6 ev6
      refine V.iinc (y := v6) (lo' := [some (.ref (w.1 0)), some (.int x1), some (.int x2), some (.int x3), some (.int v5), some (.int v6)]) hC d_R_owesNow_47 rfl rfl (show v6 = _ + Int32.ofInt (1) from ev6) rfl ?_
      refine V.goto (tgt := 16) hC d_R_owesNow_50 (by decide) ?_
      exact V.msk [true, true, true, true, true, true] rfl h
    · replace h := h.2 c4
      refine V.iconst (v := 0) hC d_R_owesNow_39 (by decide) ?_
      refine V.goto (tgt := 44) hC d_R_owesNow_40 (by decide) ?_
      refine V.iadd hC d_R_owesNow_44 ?_
      obtain ⟨v7, ev7⟩ : ∃ y : Int32, y = x4 + (0 : Int32) := ⟨_, rfl⟩
      replace h := h v7 ev7
      refine V.istore (y := v7) (lo' := [some (.ref (w.1 0)), some (.int x1), some (.int x2), some (.int x3), some (.int v7), some (.int x5)]) hC d_R_owesNow_45 rfl ev7 rfl ?_
      obtain ⟨v8, ev8⟩ : ∃ y : Int32, y = x5 + (1 : Int32) := ⟨_, rfl⟩
      replace h := h v8 ev8
      refine V.iinc (y := v8) (lo' := [some (.ref (w.1 0)), some (.int x1), some (.int x2), some (.int x3), some (.int v7), some (.int v8)]) hC d_R_owesNow_47 rfl rfl (show v8 = _ + Int32.ofInt (1) from ev8) rfl ?_
      refine V.goto (tgt := 16) hC d_R_owesNow_50 (by decide) ?_
      exact V.msk [true, true, true, true, true, true] rfl h
set_option maxHeartbeats 4000000 in
set_option maxRecDepth 100000 in
theorem w_R_owesNow (w : Wd) (σ : Hp) (a1 : Int32) (a2 : Int32) (a3 : Int32) (P : Int32 → Hp → Prop) (h : wp_R_owesNow σ a1 a2 a3 P) : CtI μR w y_R_owesNow b_R_owesNow 6 (some .int) 0 [.ref (w.1 0), .int a1, .int a2, .int a3] σ P := by
  unfold wp_R_owesNow at h
  refine CtI.ofV (C := nC8) (lo := [some (.ref (w.1 0)), some (.int a1), some (.int a2), some (.int a3), none, none]) exR (by decide +kernel) rfl rfl rfl (fun κ hC hR => ?_)
  refine V.iconst (v := 0) hC d_R_owesNow_0 (by decide) ?_
  refine V.istore (y := (0 : Int32)) (lo' := [some (.ref (w.1 0)), some (.int a1), some (.int a2), some (.int a3), some (.int (0 : Int32)), none]) hC d_R_owesNow_1 rfl rfl rfl ?_
  refine V.aload_n hC d_R_owesNow_3 rfl rfl ?_
  refine V.getR (j := 20) hC d_R_owesNow_4 rfl rfl uC8 rfl rfl qf_R_56 ?_
  refine V.bipush (v := 8) hC d_R_owesNow_7 (by decide) ?_
  refine V.iload_n hC d_R_owesNow_9 rfl rfl ?_
  refine V.imul hC d_R_owesNow_10 ?_
  refine V.iload_n hC d_R_owesNow_11 rfl rfl ?_
  refine V.iadd hC d_R_owesNow_12 ?_
  obtain ⟨b9, h⟩ := h
  refine V.iald hC d_R_owesNow_13 rfl b9 ?_
  obtain ⟨v10, ev10⟩ : ∃ y : Int32, y = σ 16 (ix (((8 : Int32) * a2) + a3)) := ⟨_, rfl⟩
  replace h := h v10 ev10
  refine V.istore (y := v10) (lo' := [some (.ref (w.1 0)), some (.int a1), some (.int a2), some (.int a3), some (.int (0 : Int32)), some (.int v10)]) hC d_R_owesNow_14 rfl ev10 rfl ?_
  exact V.msk [true, true, true, true, true, true] rfl (wj_R_owesNow_16  hC hR  σ a1 a2 a3 (0 : Int32) v10 h)
abbrev b_R_owesOf : ByteArray := prog_10_method_39_code
def y_R_owesOf : MethodName := ⟨nC8, "owesOf", "(III)I"⟩
theorem d_R_owesOf_0 : decode b_R_owesOf 0 = .ok (.aload_n 0, 1) := by decide +kernel
theorem d_R_owesOf_1 : decode b_R_owesOf 1 = .ok (.invokevirtual 189, 3) := by decide +kernel
theorem d_R_owesOf_4 : decode b_R_owesOf 4 = .ok (.aload_n 0, 1) := by decide +kernel
theorem d_R_owesOf_5 : decode b_R_owesOf 5 = .ok (.iload_n 1, 1) := by decide +kernel
theorem d_R_owesOf_6 : decode b_R_owesOf 6 = .ok (.iload_n 2, 1) := by decide +kernel
theorem d_R_owesOf_7 : decode b_R_owesOf 7 = .ok (.iload_n 3, 1) := by decide +kernel
theorem d_R_owesOf_8 : decode b_R_owesOf 8 = .ok (.invokevirtual 192, 3) := by decide +kernel
theorem d_R_owesOf_11 : decode b_R_owesOf 11 = .ok (.ireturn, 1) := by decide +kernel
theorem qm_R_189 : Cond.methodLink nC8 189 y_R_laysTold ∈ tbl := tbl_in 1102 (by decide +kernel) rfl
theorem qm_R_192 : Cond.methodLink nC8 192 y_R_owesNow ∈ tbl := tbl_in 1117 (by decide +kernel) rfl
theorem mo_R_owesOf : MokV y_R_owesOf b_R_owesOf 4 (some .int) 3 := ⟨⟨(tbl_in 1101 (by decide +kernel) rfl), (tbl_in 70 (by decide +kernel) rfl)⟩, ⟨(tbl_in 1100 (by decide +kernel) rfl), tbl_lw _ (tbl_in 27 (by decide +kernel) rfl), (tbl_in 27 (by decide +kernel) rfl)⟩, ⟨by decide +kernel, by decide +kernel⟩, by decide +kernel⟩
def wp_R_owesOf (σ : Hp) (a1 : Int32) (a2 : Int32) (a3 : Int32) (P : Int32 → Hp → Prop) : Prop :=
  wp_R_laysTold σ (fun (t2 : Hp) => wp_R_owesNow t2 a1 a2 a3 (fun (r3 : Int32) (t4 : Hp) => P r3 t4))
set_option maxHeartbeats 4000000 in
set_option maxRecDepth 100000 in
theorem w_R_owesOf (w : Wd) (σ : Hp) (a1 : Int32) (a2 : Int32) (a3 : Int32) (P : Int32 → Hp → Prop) (h : wp_R_owesOf σ a1 a2 a3 P) : CtI μR w y_R_owesOf b_R_owesOf 4 (some .int) 8 [.ref (w.1 0), .int a1, .int a2, .int a3] σ P := by
  unfold wp_R_owesOf at h
  refine CtI.ofV (C := nC8) (lo := [some (.ref (w.1 0)), some (.int a1), some (.int a2), some (.int a3)]) exR (by decide +kernel) rfl rfl rfl (fun κ hC hR => ?_)
  refine V.aload_n hC d_R_owesOf_0 rfl rfl ?_
  refine V.callVN hC exR (w_R_laysTold w σ  _ h) d_R_owesOf_1 mo_R_laysTold qm_R_189 rfl rfl rfl rfl rfl rfl rfl (Nat.le_of_ble_eq_true rfl) (fun t2 h => ?_)
  refine V.aload_n hC d_R_owesOf_4 rfl rfl ?_
  refine V.iload_n hC d_R_owesOf_5 rfl rfl ?_
  refine V.iload_n hC d_R_owesOf_6 rfl rfl ?_
  refine V.iload_n hC d_R_owesOf_7 rfl rfl ?_
  refine V.callVI hC exR (w_R_owesNow w t2 a1 a2 a3 _ h) d_R_owesOf_8 mo_R_owesNow qm_R_192 rfl rfl rfl rfl rfl rfl rfl (Nat.le_of_ble_eq_true rfl) (fun r3 t4 h => ?_)
  exact hR _ _ _ _ h rfl d_R_owesOf_11
abbrev b_R_owes : ByteArray := prog_10_method_40_code
def y_R_owes : MethodName := ⟨nC8, "owes", "(III)I"⟩
theorem d_R_owes_0 : decode b_R_owes 0 = .ok (.iload_n 1, 1) := by decide +kernel
theorem d_R_owes_1 : decode b_R_owes 1 = .ok (.invokestatic 151, 3) := by decide +kernel
theorem d_R_owes_4 : decode b_R_owes 4 = .ok (.ifCond .eq 34, 3) := by decide +kernel
theorem d_R_owes_7 : decode b_R_owes 7 = .ok (.aload_n 0, 1) := by decide +kernel
theorem d_R_owes_8 : decode b_R_owes 8 = .ok (.iload_n 2, 1) := by decide +kernel
theorem d_R_owes_9 : decode b_R_owes 9 = .ok (.invokevirtual 142, 3) := by decide +kernel
theorem d_R_owes_12 : decode b_R_owes 12 = .ok (.ifCond .eq 26, 3) := by decide +kernel
theorem d_R_owes_15 : decode b_R_owes 15 = .ok (.aload_n 0, 1) := by decide +kernel
theorem d_R_owes_16 : decode b_R_owes 16 = .ok (.iload_n 3, 1) := by decide +kernel
theorem d_R_owes_17 : decode b_R_owes 17 = .ok (.invokevirtual 142, 3) := by decide +kernel
theorem d_R_owes_20 : decode b_R_owes 20 = .ok (.ifCond .eq 18, 3) := by decide +kernel
theorem d_R_owes_23 : decode b_R_owes 23 = .ok (.iload_n 2, 1) := by decide +kernel
theorem d_R_owes_24 : decode b_R_owes 24 = .ok (.iload_n 3, 1) := by decide +kernel
theorem d_R_owes_25 : decode b_R_owes 25 = .ok (.if_icmp .eq 13, 3) := by decide +kernel
theorem d_R_owes_28 : decode b_R_owes 28 = .ok (.aload_n 0, 1) := by decide +kernel
theorem d_R_owes_29 : decode b_R_owes 29 = .ok (.iload_n 1, 1) := by decide +kernel
theorem d_R_owes_30 : decode b_R_owes 30 = .ok (.iload_n 2, 1) := by decide +kernel
theorem d_R_owes_31 : decode b_R_owes 31 = .ok (.iload_n 3, 1) := by decide +kernel
theorem d_R_owes_32 : decode b_R_owes 32 = .ok (.invokevirtual 195, 3) := by decide +kernel
theorem d_R_owes_35 : decode b_R_owes 35 = .ok (.goto 5, 3) := by decide +kernel
theorem d_R_owes_38 : decode b_R_owes 38 = .ok (.bipush (-2), 2) := by decide +kernel
theorem d_R_owes_40 : decode b_R_owes 40 = .ok (.ireturn, 1) := by decide +kernel
theorem qm_R_195 : Cond.methodLink nC8 195 y_R_owesOf ∈ tbl := tbl_in 1098 (by decide +kernel) rfl
theorem mo_R_owes : MokV y_R_owes b_R_owes 4 (some .int) 3 := ⟨⟨(tbl_in 1097 (by decide +kernel) rfl), (tbl_in 70 (by decide +kernel) rfl)⟩, ⟨(tbl_in 1095 (by decide +kernel) rfl), tbl_lw _ (tbl_in 1096 (by decide +kernel) rfl), (tbl_in 1096 (by decide +kernel) rfl)⟩, ⟨by decide +kernel, by decide +kernel⟩, by decide +kernel⟩
def wp_R_owes (σ : Hp) (a1 : Int32) (a2 : Int32) (a3 : Int32) (P : Int32 → Hp → Prop) : Prop :=
  wp_R_isDay σ a1 (fun (r1 : Int32) (t2 : Hp) => ((r1 = 0 → P (-2 : Int32) t2) ∧ (¬ r1 = 0 → wp_R_isHouse t2 a2 (fun (r4 : Int32) (t5 : Hp) => ((r4 = 0 → P (-2 : Int32) t5) ∧ (¬ r4 = 0 → wp_R_isHouse t5 a3 (fun (r7 : Int32) (t8 : Hp) => ((r7 = 0 → P (-2 : Int32) t8) ∧ (¬ r7 = 0 → ((a2 = a3 → P (-2 : Int32) t8) ∧ (¬ a2 = a3 → wp_R_owesOf t8 a1 a2 a3 (fun (r11 : Int32) (t12 : Hp) => P r11 t12))))))))))))
set_option maxHeartbeats 4000000 in
set_option maxRecDepth 100000 in
theorem w_R_owes (w : Wd) (σ : Hp) (a1 : Int32) (a2 : Int32) (a3 : Int32) (P : Int32 → Hp → Prop) (h : wp_R_owes σ a1 a2 a3 P) : CtI μR w y_R_owes b_R_owes 4 (some .int) 9 [.ref (w.1 0), .int a1, .int a2, .int a3] σ P := by
  unfold wp_R_owes at h
  refine CtI.ofV (C := nC8) (lo := [some (.ref (w.1 0)), some (.int a1), some (.int a2), some (.int a3)]) exR (by decide +kernel) rfl rfl rfl (fun κ hC hR => ?_)
  refine V.iload_n hC d_R_owes_0 rfl rfl ?_
  refine V.callSI hC exR (w_R_isDay w σ a1 _ h) d_R_owes_1 mo_R_isDay qm_R_151 rfl rfl rfl rfl (Nat.le_of_ble_eq_true rfl) (fun r1 t2 h => ?_)
  refine V.if_eq (tgt := 38) hC d_R_owes_4 (by decide) (fun c3 => ?_) (fun c3 => ?_)
  · replace h := h.1 c3
    refine V.bipush (v := -2) hC d_R_owes_38 (by decide) ?_
    exact hR _ _ _ _ h rfl d_R_owes_40
  · replace h := h.2 c3
    refine V.aload_n hC d_R_owes_7 rfl rfl ?_
    refine V.iload_n hC d_R_owes_8 rfl rfl ?_
    refine V.callVI hC exR (w_R_isHouse w t2 a2 _ h) d_R_owes_9 mo_R_isHouse qm_R_142 rfl rfl rfl rfl rfl rfl rfl (Nat.le_of_ble_eq_true rfl) (fun r4 t5 h => ?_)
    refine V.if_eq (tgt := 38) hC d_R_owes_12 (by decide) (fun c6 => ?_) (fun c6 => ?_)
    · replace h := h.1 c6
      refine V.bipush (v := -2) hC d_R_owes_38 (by decide) ?_
      exact hR _ _ _ _ h rfl d_R_owes_40
    · replace h := h.2 c6
      refine V.aload_n hC d_R_owes_15 rfl rfl ?_
      refine V.iload_n hC d_R_owes_16 rfl rfl ?_
      refine V.callVI hC exR (w_R_isHouse w t5 a3 _ h) d_R_owes_17 mo_R_isHouse qm_R_142 rfl rfl rfl rfl rfl rfl rfl (Nat.le_of_ble_eq_true rfl) (fun r7 t8 h => ?_)
      refine V.if_eq (tgt := 38) hC d_R_owes_20 (by decide) (fun c9 => ?_) (fun c9 => ?_)
      · replace h := h.1 c9
        refine V.bipush (v := -2) hC d_R_owes_38 (by decide) ?_
        exact hR _ _ _ _ h rfl d_R_owes_40
      · replace h := h.2 c9
        refine V.iload_n hC d_R_owes_23 rfl rfl ?_
        refine V.iload_n hC d_R_owes_24 rfl rfl ?_
        refine V.icmp_eq (tgt := 38) hC d_R_owes_25 (by decide) (fun c10 => ?_) (fun c10 => ?_)
        · replace h := h.1 c10
          refine V.bipush (v := -2) hC d_R_owes_38 (by decide) ?_
          exact hR _ _ _ _ h rfl d_R_owes_40
        · replace h := h.2 c10
          refine V.aload_n hC d_R_owes_28 rfl rfl ?_
          refine V.iload_n hC d_R_owes_29 rfl rfl ?_
          refine V.iload_n hC d_R_owes_30 rfl rfl ?_
          refine V.iload_n hC d_R_owes_31 rfl rfl ?_
          refine V.callVI hC exR (w_R_owesOf w t8 a1 a2 a3 _ h) d_R_owes_32 mo_R_owesOf qm_R_195 rfl rfl rfl rfl rfl rfl rfl (Nat.le_of_ble_eq_true rfl) (fun r11 t12 h => ?_)
          refine V.goto (tgt := 40) hC d_R_owes_35 (by decide) ?_
          exact hR _ _ _ _ h rfl d_R_owes_40
abbrev b_R_balanceNow : ByteArray := prog_10_method_41_code
def y_R_balanceNow : MethodName := ⟨nC8, "balanceNow", "(II)I"⟩
theorem d_R_balanceNow_0 : decode b_R_balanceNow 0 = .ok (.iconst 0, 1) := by decide +kernel
theorem d_R_balanceNow_1 : decode b_R_balanceNow 1 = .ok (.istore_n 3, 1) := by decide +kernel
theorem d_R_balanceNow_2 : decode b_R_balanceNow 2 = .ok (.iconst 0, 1) := by decide +kernel
theorem d_R_balanceNow_3 : decode b_R_balanceNow 3 = .ok (.istore 4, 2) := by decide +kernel
theorem d_R_balanceNow_5 : decode b_R_balanceNow 5 = .ok (.iload 4, 2) := by decide +kernel
theorem d_R_balanceNow_7 : decode b_R_balanceNow 7 = .ok (.aload_n 0, 1) := by decide +kernel
theorem d_R_balanceNow_8 : decode b_R_balanceNow 8 = .ok (.getfield 116, 3) := by decide +kernel
theorem d_R_balanceNow_11 : decode b_R_balanceNow 11 = .ok (.if_icmp .ge 39, 3) := by decide +kernel
theorem d_R_balanceNow_14 : decode b_R_balanceNow 14 = .ok (.iload_n 3, 1) := by decide +kernel
theorem d_R_balanceNow_15 : decode b_R_balanceNow 15 = .ok (.iload 4, 2) := by decide +kernel
theorem d_R_balanceNow_17 : decode b_R_balanceNow 17 = .ok (.iload_n 2, 1) := by decide +kernel
theorem d_R_balanceNow_18 : decode b_R_balanceNow 18 = .ok (.if_icmp .ne 7, 3) := by decide +kernel
theorem d_R_balanceNow_21 : decode b_R_balanceNow 21 = .ok (.iconst 0, 1) := by decide +kernel
theorem d_R_balanceNow_22 : decode b_R_balanceNow 22 = .ok (.goto 20, 3) := by decide +kernel
theorem d_R_balanceNow_25 : decode b_R_balanceNow 25 = .ok (.aload_n 0, 1) := by decide +kernel
theorem d_R_balanceNow_26 : decode b_R_balanceNow 26 = .ok (.iload_n 1, 1) := by decide +kernel
theorem d_R_balanceNow_27 : decode b_R_balanceNow 27 = .ok (.iload 4, 2) := by decide +kernel
theorem d_R_balanceNow_29 : decode b_R_balanceNow 29 = .ok (.iload_n 2, 1) := by decide +kernel
theorem d_R_balanceNow_30 : decode b_R_balanceNow 30 = .ok (.invokevirtual 192, 3) := by decide +kernel
theorem d_R_balanceNow_33 : decode b_R_balanceNow 33 = .ok (.aload_n 0, 1) := by decide +kernel
theorem d_R_balanceNow_34 : decode b_R_balanceNow 34 = .ok (.iload_n 1, 1) := by decide +kernel
theorem d_R_balanceNow_35 : decode b_R_balanceNow 35 = .ok (.iload_n 2, 1) := by decide +kernel
theorem d_R_balanceNow_36 : decode b_R_balanceNow 36 = .ok (.iload 4, 2) := by decide +kernel
theorem d_R_balanceNow_38 : decode b_R_balanceNow 38 = .ok (.invokevirtual 192, 3) := by decide +kernel
theorem d_R_balanceNow_41 : decode b_R_balanceNow 41 = .ok (.isub, 1) := by decide +kernel
theorem d_R_balanceNow_42 : decode b_R_balanceNow 42 = .ok (.iadd, 1) := by decide +kernel
theorem d_R_balanceNow_43 : decode b_R_balanceNow 43 = .ok (.istore_n 3, 1) := by decide +kernel
theorem d_R_balanceNow_44 : decode b_R_balanceNow 44 = .ok (.iinc 4 1, 3) := by decide +kernel
theorem d_R_balanceNow_47 : decode b_R_balanceNow 47 = .ok (.goto (-42), 3) := by decide +kernel
theorem d_R_balanceNow_50 : decode b_R_balanceNow 50 = .ok (.iload_n 3, 1) := by decide +kernel
theorem d_R_balanceNow_51 : decode b_R_balanceNow 51 = .ok (.ireturn, 1) := by decide +kernel
theorem mo_R_balanceNow : MokV y_R_balanceNow b_R_balanceNow 5 (some .int) 2 := ⟨⟨(tbl_in 1132 (by decide +kernel) rfl), (tbl_in 70 (by decide +kernel) rfl)⟩, ⟨(tbl_in 1131 (by decide +kernel) rfl), tbl_lw _ (tbl_in 33 (by decide +kernel) rfl), (tbl_in 33 (by decide +kernel) rfl)⟩, ⟨by decide +kernel, by decide +kernel⟩, by decide +kernel⟩
def b_R_balanceNow_5_ (P : Int32 → Hp → Prop)  (I5 : Hp → Int32 → Int32 → Int32 → Int32 → Prop) (σ : Hp) (x1 : Int32) (x2 : Int32) (x3 : Int32) (x4 : Int32) : Prop :=
  (((σ 0 2) ≤ x4 → P x3 σ) ∧ (¬ (σ 0 2) ≤ x4 → ((¬ x4 = x2 → wp_R_owesNow σ x1 x4 x2 (fun (r3 : Int32) (t4 : Hp) => wp_R_owesNow t4 x1 x2 x4 (fun (r5 : Int32) (t6 : Hp) => (∀ v7 : Int32, v7 = x3 + (r3 - r5) → (∀ v8 : Int32, v8 = x4 + (1 : Int32) → I5 t6 x1 x2 v7 v8))))) ∧ (x4 = x2 → (∀ v9 : Int32, v9 = x3 + (0 : Int32) → (∀ v10 : Int32, v10 = x4 + (1 : Int32) → I5 σ x1 x2 v9 v10))))))
def j_R_balanceNow_5 (P : Int32 → Hp → Prop)  (σ : Hp) (x1 : Int32) (x2 : Int32) (x3 : Int32) (x4 : Int32) : Prop := ∀ I5 : Hp → Int32 → Int32 → Int32 → Int32 → Prop, (∀ (σ : Hp) (x1 : Int32) (x2 : Int32) (x3 : Int32) (x4 : Int32), b_R_balanceNow_5_  P  I5 σ x1 x2 x3 x4 → I5 σ x1 x2 x3 x4) → I5 σ x1 x2 x3 x4
def wp_R_balanceNow (σ : Hp) (a1 : Int32) (a2 : Int32) (P : Int32 → Hp → Prop) : Prop :=
  j_R_balanceNow_5 P σ a1 a2 (0 : Int32) (0 : Int32)
set_option maxHeartbeats 4000000 in
set_option maxRecDepth 100000 in
theorem wj_R_balanceNow_5 {w : Wd} {κ : Kx} {P : Int32 → Hp → Prop} (hC : Cx μR w 5 κ nC8 b_R_balanceNow 1) (hR : RtI μR w 5 κ b_R_balanceNow .int P)  : ∀ (σ : Hp) (x1 : Int32) (x2 : Int32) (x3 : Int32) (x4 : Int32), j_R_balanceNow_5  P  σ x1 x2 x3 x4 → V μR w 5 κ σ [some (.ref (w.1 0)), some (.int x1), some (.int x2), some (.int x3), some (.int x4)] 5 [] := by
  intro σ x1 x2 x3 x4 h
  refine h (fun σ x1 x2 x3 x4 => V μR w 5 κ σ [some (.ref (w.1 0)), some (.int x1), some (.int x2), some (.int x3), some (.int x4)] 5 []) (fun σ x1 x2 x3 x4 h => ?_)
  unfold b_R_balanceNow_5_ at h
  refine V.iload hC d_R_balanceNow_5 rfl ?_
  refine V.aload_n hC d_R_balanceNow_7 rfl rfl ?_
  refine V.getI (j := 2) hC d_R_balanceNow_8 rfl rfl uC8 rfl rfl qf_R_116 ?_
  refine V.icmp_ge (tgt := 50) hC d_R_balanceNow_11 (by decide) (fun c1 => ?_) (fun c1 => ?_)
  · replace h := h.1 c1
    refine V.iload_n hC d_R_balanceNow_50 rfl rfl ?_
    exact hR _ _ _ _ h rfl d_R_balanceNow_51
  · replace h := h.2 c1
    refine V.iload_n hC d_R_balanceNow_14 rfl rfl ?_
    refine V.iload hC d_R_balanceNow_15 rfl ?_
    refine V.iload_n hC d_R_balanceNow_17 rfl rfl ?_
    refine V.icmp_ne (tgt := 25) hC d_R_balanceNow_18 (by decide) (fun c2 => ?_) (fun c2 => ?_)
    · replace h := h.1 c2
      refine V.aload_n hC d_R_balanceNow_25 rfl rfl ?_
      refine V.iload_n hC d_R_balanceNow_26 rfl rfl ?_
      refine V.iload hC d_R_balanceNow_27 rfl ?_
      refine V.iload_n hC d_R_balanceNow_29 rfl rfl ?_
      refine V.callVI hC exR (w_R_owesNow w σ x1 x4 x2 _ h) d_R_balanceNow_30 mo_R_owesNow qm_R_192 rfl rfl rfl rfl rfl rfl rfl (Nat.le_of_ble_eq_true rfl) (fun r3 t4 h => ?_)
      refine V.aload_n hC d_R_balanceNow_33 rfl rfl ?_
      refine V.iload_n hC d_R_balanceNow_34 rfl rfl ?_
      refine V.iload_n hC d_R_balanceNow_35 rfl rfl ?_
      refine V.iload hC d_R_balanceNow_36 rfl ?_
      refine V.callVI hC exR (w_R_owesNow w t4 x1 x2 x4 _ h) d_R_balanceNow_38 mo_R_owesNow qm_R_192 rfl rfl rfl rfl rfl rfl rfl (Nat.le_of_ble_eq_true rfl) (fun r5 t6 h => ?_)
      refine V.isub hC d_R_balanceNow_41 ?_
      refine V.iadd hC d_R_balanceNow_42 ?_
      obtain ⟨v7, ev7⟩ : ∃ y : Int32, y = x3 + (r3 - r5) := ⟨_, rfl⟩
      replace h := h v7 ev7
      refine V.istore_n (y := v7) (lo' := [some (.ref (w.1 0)), some (.int x1), some (.int x2), some (.int v7), some (.int x4)]) hC d_R_balanceNow_43 rfl rfl ev7 rfl ?_
      obtain ⟨v8, ev8⟩ : ∃ y : Int32, y = x4 + (1 : Int32) := ⟨_, rfl⟩
      replace h := h v8 ev8
      refine V.iinc (y := v8) (lo' := [some (.ref (w.1 0)), some (.int x1), some (.int x2), some (.int v7), some (.int v8)]) hC d_R_balanceNow_44 rfl rfl (show v8 = _ + Int32.ofInt (1) from ev8) rfl ?_
      refine V.goto (tgt := 5) hC d_R_balanceNow_47 (by decide) ?_
      exact V.msk [true, true, true, true, true] rfl h
    · replace h := h.2 c2
      refine V.iconst (v := 0) hC d_R_balanceNow_21 (by decide) ?_
      refine V.goto (tgt := 42) hC d_R_balanceNow_22 (by decide) ?_
      refine V.iadd hC d_R_balanceNow_42 ?_
      obtain ⟨v9, ev9⟩ : ∃ y : Int32, y = x3 + (0 : Int32) := ⟨_, rfl⟩
      replace h := h v9 ev9
      refine V.istore_n (y := v9) (lo' := [some (.ref (w.1 0)), some (.int x1), some (.int x2), some (.int v9), some (.int x4)]) hC d_R_balanceNow_43 rfl rfl ev9 rfl ?_
      obtain ⟨v10, ev10⟩ : ∃ y : Int32, y = x4 + (1 : Int32) := ⟨_, rfl⟩
      replace h := h v10 ev10
      refine V.iinc (y := v10) (lo' := [some (.ref (w.1 0)), some (.int x1), some (.int x2), some (.int v9), some (.int v10)]) hC d_R_balanceNow_44 rfl rfl (show v10 = _ + Int32.ofInt (1) from ev10) rfl ?_
      refine V.goto (tgt := 5) hC d_R_balanceNow_47 (by decide) ?_
      exact V.msk [true, true, true, true, true] rfl h
set_option maxHeartbeats 4000000 in
set_option maxRecDepth 100000 in
theorem w_R_balanceNow (w : Wd) (σ : Hp) (a1 : Int32) (a2 : Int32) (P : Int32 → Hp → Prop) (h : wp_R_balanceNow σ a1 a2 P) : CtI μR w y_R_balanceNow b_R_balanceNow 5 (some .int) 1 [.ref (w.1 0), .int a1, .int a2] σ P := by
  unfold wp_R_balanceNow at h
  refine CtI.ofV (C := nC8) (lo := [some (.ref (w.1 0)), some (.int a1), some (.int a2), none, none]) exR (by decide +kernel) rfl rfl rfl (fun κ hC hR => ?_)
  refine V.iconst (v := 0) hC d_R_balanceNow_0 (by decide) ?_
  refine V.istore_n (y := (0 : Int32)) (lo' := [some (.ref (w.1 0)), some (.int a1), some (.int a2), some (.int (0 : Int32)), none]) hC d_R_balanceNow_1 rfl rfl rfl rfl ?_
  refine V.iconst (v := 0) hC d_R_balanceNow_2 (by decide) ?_
  refine V.istore (y := (0 : Int32)) (lo' := [some (.ref (w.1 0)), some (.int a1), some (.int a2), some (.int (0 : Int32)), some (.int (0 : Int32))]) hC d_R_balanceNow_3 rfl rfl rfl ?_
  exact V.msk [true, true, true, true, true] rfl (wj_R_balanceNow_5  hC hR  σ a1 a2 (0 : Int32) (0 : Int32) h)
abbrev b_R_balanceOf : ByteArray := prog_10_method_42_code
def y_R_balanceOf : MethodName := ⟨nC8, "balanceOf", "(II)I"⟩
theorem d_R_balanceOf_0 : decode b_R_balanceOf 0 = .ok (.aload_n 0, 1) := by decide +kernel
theorem d_R_balanceOf_1 : decode b_R_balanceOf 1 = .ok (.invokevirtual 189, 3) := by decide +kernel
theorem d_R_balanceOf_4 : decode b_R_balanceOf 4 = .ok (.aload_n 0, 1) := by decide +kernel
theorem d_R_balanceOf_5 : decode b_R_balanceOf 5 = .ok (.iload_n 1, 1) := by decide +kernel
theorem d_R_balanceOf_6 : decode b_R_balanceOf 6 = .ok (.iload_n 2, 1) := by decide +kernel
theorem d_R_balanceOf_7 : decode b_R_balanceOf 7 = .ok (.invokevirtual 198, 3) := by decide +kernel
theorem d_R_balanceOf_10 : decode b_R_balanceOf 10 = .ok (.ireturn, 1) := by decide +kernel
theorem qm_R_198 : Cond.methodLink nC8 198 y_R_balanceNow ∈ tbl := tbl_in 1129 (by decide +kernel) rfl
theorem mo_R_balanceOf : MokV y_R_balanceOf b_R_balanceOf 3 (some .int) 2 := ⟨⟨(tbl_in 1128 (by decide +kernel) rfl), (tbl_in 70 (by decide +kernel) rfl)⟩, ⟨(tbl_in 1127 (by decide +kernel) rfl), tbl_lw _ (tbl_in 32 (by decide +kernel) rfl), (tbl_in 32 (by decide +kernel) rfl)⟩, ⟨by decide +kernel, by decide +kernel⟩, by decide +kernel⟩
def wp_R_balanceOf (σ : Hp) (a1 : Int32) (a2 : Int32) (P : Int32 → Hp → Prop) : Prop :=
  wp_R_laysTold σ (fun (t2 : Hp) => wp_R_balanceNow t2 a1 a2 (fun (r3 : Int32) (t4 : Hp) => P r3 t4))
set_option maxHeartbeats 4000000 in
set_option maxRecDepth 100000 in
theorem w_R_balanceOf (w : Wd) (σ : Hp) (a1 : Int32) (a2 : Int32) (P : Int32 → Hp → Prop) (h : wp_R_balanceOf σ a1 a2 P) : CtI μR w y_R_balanceOf b_R_balanceOf 3 (some .int) 8 [.ref (w.1 0), .int a1, .int a2] σ P := by
  unfold wp_R_balanceOf at h
  refine CtI.ofV (C := nC8) (lo := [some (.ref (w.1 0)), some (.int a1), some (.int a2)]) exR (by decide +kernel) rfl rfl rfl (fun κ hC hR => ?_)
  refine V.aload_n hC d_R_balanceOf_0 rfl rfl ?_
  refine V.callVN hC exR (w_R_laysTold w σ  _ h) d_R_balanceOf_1 mo_R_laysTold qm_R_189 rfl rfl rfl rfl rfl rfl rfl (Nat.le_of_ble_eq_true rfl) (fun t2 h => ?_)
  refine V.aload_n hC d_R_balanceOf_4 rfl rfl ?_
  refine V.iload_n hC d_R_balanceOf_5 rfl rfl ?_
  refine V.iload_n hC d_R_balanceOf_6 rfl rfl ?_
  refine V.callVI hC exR (w_R_balanceNow w t2 a1 a2 _ h) d_R_balanceOf_7 mo_R_balanceNow qm_R_198 rfl rfl rfl rfl rfl rfl rfl (Nat.le_of_ble_eq_true rfl) (fun r3 t4 h => ?_)
  exact hR _ _ _ _ h rfl d_R_balanceOf_10
abbrev b_R_balance : ByteArray := prog_10_method_43_code
def y_R_balance : MethodName := ⟨nC8, "balance", "(II)I"⟩
theorem d_R_balance_0 : decode b_R_balance 0 = .ok (.iload_n 1, 1) := by decide +kernel
theorem d_R_balance_1 : decode b_R_balance 1 = .ok (.invokestatic 151, 3) := by decide +kernel
theorem d_R_balance_4 : decode b_R_balance 4 = .ok (.ifCond .eq 20, 3) := by decide +kernel
theorem d_R_balance_7 : decode b_R_balance 7 = .ok (.aload_n 0, 1) := by decide +kernel
theorem d_R_balance_8 : decode b_R_balance 8 = .ok (.iload_n 2, 1) := by decide +kernel
theorem d_R_balance_9 : decode b_R_balance 9 = .ok (.invokevirtual 142, 3) := by decide +kernel
theorem d_R_balance_12 : decode b_R_balance 12 = .ok (.ifCond .eq 12, 3) := by decide +kernel
theorem d_R_balance_15 : decode b_R_balance 15 = .ok (.aload_n 0, 1) := by decide +kernel
theorem d_R_balance_16 : decode b_R_balance 16 = .ok (.iload_n 1, 1) := by decide +kernel
theorem d_R_balance_17 : decode b_R_balance 17 = .ok (.iload_n 2, 1) := by decide +kernel
theorem d_R_balance_18 : decode b_R_balance 18 = .ok (.invokevirtual 201, 3) := by decide +kernel
theorem d_R_balance_21 : decode b_R_balance 21 = .ok (.goto 5, 3) := by decide +kernel
theorem d_R_balance_24 : decode b_R_balance 24 = .ok (.ldc 204, 2) := by decide +kernel
theorem d_R_balance_26 : decode b_R_balance 26 = .ok (.ireturn, 1) := by decide +kernel
theorem qc_R_204 : Cond.constant nC8 204 (-100002) ∈ tbl := tbl_in 1133 (by decide +kernel) rfl
theorem qm_R_201 : Cond.methodLink nC8 201 y_R_balanceOf ∈ tbl := tbl_in 1125 (by decide +kernel) rfl
def wp_R_balance (σ : Hp) (a1 : Int32) (a2 : Int32) (P : Int32 → Hp → Prop) : Prop :=
  wp_R_isDay σ a1 (fun (r1 : Int32) (t2 : Hp) => ((r1 = 0 → P (-100002 : Int32) t2) ∧ (¬ r1 = 0 → wp_R_isHouse t2 a2 (fun (r4 : Int32) (t5 : Hp) => ((r4 = 0 → P (-100002 : Int32) t5) ∧ (¬ r4 = 0 → wp_R_balanceOf t5 a1 a2 (fun (r7 : Int32) (t8 : Hp) => P r7 t8)))))))
set_option maxHeartbeats 4000000 in
set_option maxRecDepth 100000 in
theorem w_R_balance (w : Wd) (σ : Hp) (a1 : Int32) (a2 : Int32) (P : Int32 → Hp → Prop) (h : wp_R_balance σ a1 a2 P) : CtI μR w y_R_balance b_R_balance 3 (some .int) 9 [.ref (w.1 0), .int a1, .int a2] σ P := by
  unfold wp_R_balance at h
  refine CtI.ofV (C := nC8) (lo := [some (.ref (w.1 0)), some (.int a1), some (.int a2)]) exR (by decide +kernel) rfl rfl rfl (fun κ hC hR => ?_)
  refine V.iload_n hC d_R_balance_0 rfl rfl ?_
  refine V.callSI hC exR (w_R_isDay w σ a1 _ h) d_R_balance_1 mo_R_isDay qm_R_151 rfl rfl rfl rfl (Nat.le_of_ble_eq_true rfl) (fun r1 t2 h => ?_)
  refine V.if_eq (tgt := 24) hC d_R_balance_4 (by decide) (fun c3 => ?_) (fun c3 => ?_)
  · replace h := h.1 c3
    refine V.ldc (v := -100002) hC d_R_balance_24 qc_R_204 ?_
    exact hR _ _ _ _ h rfl d_R_balance_26
  · replace h := h.2 c3
    refine V.aload_n hC d_R_balance_7 rfl rfl ?_
    refine V.iload_n hC d_R_balance_8 rfl rfl ?_
    refine V.callVI hC exR (w_R_isHouse w t2 a2 _ h) d_R_balance_9 mo_R_isHouse qm_R_142 rfl rfl rfl rfl rfl rfl rfl (Nat.le_of_ble_eq_true rfl) (fun r4 t5 h => ?_)
    refine V.if_eq (tgt := 24) hC d_R_balance_12 (by decide) (fun c6 => ?_) (fun c6 => ?_)
    · replace h := h.1 c6
      refine V.ldc (v := -100002) hC d_R_balance_24 qc_R_204 ?_
      exact hR _ _ _ _ h rfl d_R_balance_26
    · replace h := h.2 c6
      refine V.aload_n hC d_R_balance_15 rfl rfl ?_
      refine V.iload_n hC d_R_balance_16 rfl rfl ?_
      refine V.iload_n hC d_R_balance_17 rfl rfl ?_
      refine V.callVI hC exR (w_R_balanceOf w t5 a1 a2 _ h) d_R_balance_18 mo_R_balanceOf qm_R_201 rfl rfl rfl rfl rfl rfl rfl (Nat.le_of_ble_eq_true rfl) (fun r7 t8 h => ?_)
      refine V.goto (tgt := 26) hC d_R_balance_21 (by decide) ?_
      exact hR _ _ _ _ h rfl d_R_balance_26
abbrev b_R_purses : ByteArray := prog_10_method_44_code
def y_R_purses : MethodName := ⟨nC8, "purses", "(I)V"⟩
theorem d_R_purses_0 : decode b_R_purses 0 = .ok (.iconst 0, 1) := by decide +kernel
theorem d_R_purses_1 : decode b_R_purses 1 = .ok (.istore_n 2, 1) := by decide +kernel
theorem d_R_purses_2 : decode b_R_purses 2 = .ok (.iload_n 2, 1) := by decide +kernel
theorem d_R_purses_3 : decode b_R_purses 3 = .ok (.aload_n 0, 1) := by decide +kernel
theorem d_R_purses_4 : decode b_R_purses 4 = .ok (.getfield 116, 3) := by decide +kernel
theorem d_R_purses_7 : decode b_R_purses 7 = .ok (.if_icmp .ge 21, 3) := by decide +kernel
theorem d_R_purses_10 : decode b_R_purses 10 = .ok (.aload_n 0, 1) := by decide +kernel
theorem d_R_purses_11 : decode b_R_purses 11 = .ok (.getfield 59, 3) := by decide +kernel
theorem d_R_purses_14 : decode b_R_purses 14 = .ok (.iload_n 2, 1) := by decide +kernel
theorem d_R_purses_15 : decode b_R_purses 15 = .ok (.aload_n 0, 1) := by decide +kernel
theorem d_R_purses_16 : decode b_R_purses 16 = .ok (.iload_n 1, 1) := by decide +kernel
theorem d_R_purses_17 : decode b_R_purses 17 = .ok (.iload_n 2, 1) := by decide +kernel
theorem d_R_purses_18 : decode b_R_purses 18 = .ok (.invokevirtual 198, 3) := by decide +kernel
theorem d_R_purses_21 : decode b_R_purses 21 = .ok (.iastore, 1) := by decide +kernel
theorem d_R_purses_22 : decode b_R_purses 22 = .ok (.iinc 2 1, 3) := by decide +kernel
theorem d_R_purses_25 : decode b_R_purses 25 = .ok (.goto (-23), 3) := by decide +kernel
theorem d_R_purses_28 : decode b_R_purses 28 = .ok (.return_, 1) := by decide +kernel
theorem qf_R_59 : Cond.fieldLink nC8 59 (fC8 21).1 (fC8 21).2.1 (fC8 21).2.2.1 ∈ tbl := tbl_in 889 (by decide +kernel) rfl
theorem mo_R_purses : MokV y_R_purses b_R_purses 3 none 1 := ⟨⟨(tbl_in 1149 (by decide +kernel) rfl), (tbl_in 70 (by decide +kernel) rfl)⟩, ⟨(tbl_in 1148 (by decide +kernel) rfl), tbl_lw _ (tbl_in 36 (by decide +kernel) rfl), (tbl_in 36 (by decide +kernel) rfl)⟩, ⟨by decide +kernel, by decide +kernel⟩, by decide +kernel⟩
def b_R_purses_2_ (P : Hp → Prop)  (I2 : Hp → Int32 → Int32 → Prop) (σ : Hp) (x1 : Int32) (x2 : Int32) : Prop :=
  (((σ 0 2) ≤ x2 → P σ) ∧ (¬ (σ 0 2) ≤ x2 → wp_R_balanceNow σ x1 x2 (fun (r2 : Int32) (t3 : Hp) => (vp_in x2 8) ∧ (∀ v5 : Int32, v5 = x2 + (1 : Int32) → I2 (st t3 17 (ix x2) r2) x1 v5))))
def j_R_purses_2 (P : Hp → Prop)  (σ : Hp) (x1 : Int32) (x2 : Int32) : Prop := ∀ I2 : Hp → Int32 → Int32 → Prop, (∀ (σ : Hp) (x1 : Int32) (x2 : Int32), b_R_purses_2_  P  I2 σ x1 x2 → I2 σ x1 x2) → I2 σ x1 x2
def wp_R_purses (σ : Hp) (a1 : Int32) (P : Hp → Prop) : Prop :=
  j_R_purses_2 P σ a1 (0 : Int32)
set_option maxHeartbeats 4000000 in
set_option maxRecDepth 100000 in
theorem wj_R_purses_2 {w : Wd} {κ : Kx} {P : Hp → Prop} (hC : Cx μR w 3 κ nC8 b_R_purses 2) (hR : RtN μR w 3 κ b_R_purses P)  : ∀ (σ : Hp) (x1 : Int32) (x2 : Int32), j_R_purses_2  P  σ x1 x2 → V μR w 3 κ σ [some (.ref (w.1 0)), some (.int x1), some (.int x2)] 2 [] := by
  intro σ x1 x2 h
  refine h (fun σ x1 x2 => V μR w 3 κ σ [some (.ref (w.1 0)), some (.int x1), some (.int x2)] 2 []) (fun σ x1 x2 h => ?_)
  unfold b_R_purses_2_ at h
  refine V.iload_n hC d_R_purses_2 rfl rfl ?_
  refine V.aload_n hC d_R_purses_3 rfl rfl ?_
  refine V.getI (j := 2) hC d_R_purses_4 rfl rfl uC8 rfl rfl qf_R_116 ?_
  refine V.icmp_ge (tgt := 28) hC d_R_purses_7 (by decide) (fun c1 => ?_) (fun c1 => ?_)
  · replace h := h.1 c1
    exact hR _ _ _ h d_R_purses_28
  · replace h := h.2 c1
    refine V.aload_n hC d_R_purses_10 rfl rfl ?_
    refine V.getR (j := 21) hC d_R_purses_11 rfl rfl uC8 rfl rfl qf_R_59 ?_
    refine V.iload_n hC d_R_purses_14 rfl rfl ?_
    refine V.aload_n hC d_R_purses_15 rfl rfl ?_
    refine V.iload_n hC d_R_purses_16 rfl rfl ?_
    refine V.iload_n hC d_R_purses_17 rfl rfl ?_
    refine V.callVI hC exR (w_R_balanceNow w σ x1 x2 _ h) d_R_purses_18 mo_R_balanceNow qm_R_198 rfl rfl rfl rfl rfl rfl rfl (Nat.le_of_ble_eq_true rfl) (fun r2 t3 h => ?_)
    obtain ⟨b4, h⟩ := h
    refine V.iast hC d_R_purses_21 rfl b4 ?_
    obtain ⟨v5, ev5⟩ : ∃ y : Int32, y = x2 + (1 : Int32) := ⟨_, rfl⟩
    replace h := h v5 ev5
    refine V.iinc (y := v5) (lo' := [some (.ref (w.1 0)), some (.int x1), some (.int v5)]) hC d_R_purses_22 rfl rfl (show v5 = _ + Int32.ofInt (1) from ev5) rfl ?_
    refine V.goto (tgt := 2) hC d_R_purses_25 (by decide) ?_
    exact V.msk [true, true, true] rfl h
set_option maxHeartbeats 4000000 in
set_option maxRecDepth 100000 in
theorem w_R_purses (w : Wd) (σ : Hp) (a1 : Int32) (P : Hp → Prop) (h : wp_R_purses σ a1 P) : CtN μR w y_R_purses b_R_purses 3 none 2 [.ref (w.1 0), .int a1] σ P := by
  unfold wp_R_purses at h
  refine CtN.ofV (C := nC8) (lo := [some (.ref (w.1 0)), some (.int a1), none]) exR (by decide +kernel) rfl rfl rfl (fun κ hC hR => ?_)
  refine V.iconst (v := 0) hC d_R_purses_0 (by decide) ?_
  refine V.istore_n (y := (0 : Int32)) (lo' := [some (.ref (w.1 0)), some (.int a1), some (.int (0 : Int32))]) hC d_R_purses_1 rfl rfl rfl rfl ?_
  exact V.msk [true, true, true] rfl (wj_R_purses_2  hC hR  σ a1 (0 : Int32) h)
abbrev b_R_coinNow : ByteArray := prog_10_method_45_code
def y_R_coinNow : MethodName := ⟨nC8, "coinNow", "(I)I"⟩
theorem d_R_coinNow_0 : decode b_R_coinNow 0 = .ok (.aload_n 0, 1) := by decide +kernel
theorem d_R_coinNow_1 : decode b_R_coinNow 1 = .ok (.iload_n 1, 1) := by decide +kernel
theorem d_R_coinNow_2 : decode b_R_coinNow 2 = .ok (.invokevirtual 205, 3) := by decide +kernel
theorem d_R_coinNow_5 : decode b_R_coinNow 5 = .ok (.iconst 0, 1) := by decide +kernel
theorem d_R_coinNow_6 : decode b_R_coinNow 6 = .ok (.istore_n 2, 1) := by decide +kernel
theorem d_R_coinNow_7 : decode b_R_coinNow 7 = .ok (.iconst 0, 1) := by decide +kernel
theorem d_R_coinNow_8 : decode b_R_coinNow 8 = .ok (.istore_n 3, 1) := by decide +kernel
theorem d_R_coinNow_9 : decode b_R_coinNow 9 = .ok (.iload_n 3, 1) := by decide +kernel
theorem d_R_coinNow_10 : decode b_R_coinNow 10 = .ok (.aload_n 0, 1) := by decide +kernel
theorem d_R_coinNow_11 : decode b_R_coinNow 11 = .ok (.getfield 116, 3) := by decide +kernel
theorem d_R_coinNow_14 : decode b_R_coinNow 14 = .ok (.if_icmp .ge 31, 3) := by decide +kernel
theorem d_R_coinNow_17 : decode b_R_coinNow 17 = .ok (.iload_n 2, 1) := by decide +kernel
theorem d_R_coinNow_18 : decode b_R_coinNow 18 = .ok (.aload_n 0, 1) := by decide +kernel
theorem d_R_coinNow_19 : decode b_R_coinNow 19 = .ok (.getfield 59, 3) := by decide +kernel
theorem d_R_coinNow_22 : decode b_R_coinNow 22 = .ok (.iload_n 3, 1) := by decide +kernel
theorem d_R_coinNow_23 : decode b_R_coinNow 23 = .ok (.iaload, 1) := by decide +kernel
theorem d_R_coinNow_24 : decode b_R_coinNow 24 = .ok (.ifCond .le 12, 3) := by decide +kernel
theorem d_R_coinNow_27 : decode b_R_coinNow 27 = .ok (.aload_n 0, 1) := by decide +kernel
theorem d_R_coinNow_28 : decode b_R_coinNow 28 = .ok (.getfield 59, 3) := by decide +kernel
theorem d_R_coinNow_31 : decode b_R_coinNow 31 = .ok (.iload_n 3, 1) := by decide +kernel
theorem d_R_coinNow_32 : decode b_R_coinNow 32 = .ok (.iaload, 1) := by decide +kernel
theorem d_R_coinNow_33 : decode b_R_coinNow 33 = .ok (.goto 4, 3) := by decide +kernel
theorem d_R_coinNow_36 : decode b_R_coinNow 36 = .ok (.iconst 0, 1) := by decide +kernel
theorem d_R_coinNow_37 : decode b_R_coinNow 37 = .ok (.iadd, 1) := by decide +kernel
theorem d_R_coinNow_38 : decode b_R_coinNow 38 = .ok (.istore_n 2, 1) := by decide +kernel
theorem d_R_coinNow_39 : decode b_R_coinNow 39 = .ok (.iinc 3 1, 3) := by decide +kernel
theorem d_R_coinNow_42 : decode b_R_coinNow 42 = .ok (.goto (-33), 3) := by decide +kernel
theorem d_R_coinNow_45 : decode b_R_coinNow 45 = .ok (.iload_n 2, 1) := by decide +kernel
theorem d_R_coinNow_46 : decode b_R_coinNow 46 = .ok (.ireturn, 1) := by decide +kernel
theorem qm_R_205 : Cond.methodLink nC8 205 y_R_purses ∈ tbl := tbl_in 1146 (by decide +kernel) rfl
theorem mo_R_coinNow : MokV y_R_coinNow b_R_coinNow 4 (some .int) 1 := ⟨⟨(tbl_in 1145 (by decide +kernel) rfl), (tbl_in 70 (by decide +kernel) rfl)⟩, ⟨(tbl_in 1144 (by decide +kernel) rfl), tbl_lw _ (tbl_in 35 (by decide +kernel) rfl), (tbl_in 35 (by decide +kernel) rfl)⟩, ⟨by decide +kernel, by decide +kernel⟩, by decide +kernel⟩
def b_R_coinNow_9_ (P : Int32 → Hp → Prop)  (I9 : Hp → Int32 → Int32 → Prop) (σ : Hp) (x2 : Int32) (x3 : Int32) : Prop :=
  (((σ 0 2) ≤ x3 → P x2 σ) ∧ (¬ (σ 0 2) ≤ x3 → (vp_in x3 8) ∧ (((σ 17 (ix x3)) ≤ 0 → (∀ v4 : Int32, v4 = x2 + (0 : Int32) → (∀ v5 : Int32, v5 = x3 + (1 : Int32) → I9 σ v4 v5))) ∧ (¬ (σ 17 (ix x3)) ≤ 0 → (vp_in x3 8) ∧ (∀ v7 : Int32, v7 = x2 + (σ 17 (ix x3)) → (∀ v8 : Int32, v8 = x3 + (1 : Int32) → I9 σ v7 v8))))))
def j_R_coinNow_9 (P : Int32 → Hp → Prop)  (σ : Hp) (x2 : Int32) (x3 : Int32) : Prop := ∀ I9 : Hp → Int32 → Int32 → Prop, (∀ (σ : Hp) (x2 : Int32) (x3 : Int32), b_R_coinNow_9_  P  I9 σ x2 x3 → I9 σ x2 x3) → I9 σ x2 x3
def wp_R_coinNow (σ : Hp) (a1 : Int32) (P : Int32 → Hp → Prop) : Prop :=
  wp_R_purses σ a1 (fun (t10 : Hp) => j_R_coinNow_9 P t10 (0 : Int32) (0 : Int32))
set_option maxHeartbeats 4000000 in
set_option maxRecDepth 100000 in
theorem wj_R_coinNow_9 {w : Wd} {κ : Kx} {P : Int32 → Hp → Prop} (hC : Cx μR w 4 κ nC8 b_R_coinNow 3) (hR : RtI μR w 4 κ b_R_coinNow .int P)  : ∀ (σ : Hp) (x2 : Int32) (x3 : Int32), j_R_coinNow_9  P  σ x2 x3 → V μR w 4 κ σ [some (.ref (w.1 0)), none, some (.int x2), some (.int x3)] 9 [] := by
  intro σ x2 x3 h
  refine h (fun σ x2 x3 => V μR w 4 κ σ [some (.ref (w.1 0)), none, some (.int x2), some (.int x3)] 9 []) (fun σ x2 x3 h => ?_)
  unfold b_R_coinNow_9_ at h
  refine V.iload_n hC d_R_coinNow_9 rfl rfl ?_
  refine V.aload_n hC d_R_coinNow_10 rfl rfl ?_
  refine V.getI (j := 2) hC d_R_coinNow_11 rfl rfl uC8 rfl rfl qf_R_116 ?_
  refine V.icmp_ge (tgt := 45) hC d_R_coinNow_14 (by decide) (fun c1 => ?_) (fun c1 => ?_)
  · replace h := h.1 c1
    refine V.iload_n hC d_R_coinNow_45 rfl rfl ?_
    exact hR _ _ _ _ h rfl d_R_coinNow_46
  · replace h := h.2 c1
    refine V.iload_n hC d_R_coinNow_17 rfl rfl ?_
    refine V.aload_n hC d_R_coinNow_18 rfl rfl ?_
    refine V.getR (j := 21) hC d_R_coinNow_19 rfl rfl uC8 rfl rfl qf_R_59 ?_
    refine V.iload_n hC d_R_coinNow_22 rfl rfl ?_
    obtain ⟨b2, h⟩ := h
    refine V.iald hC d_R_coinNow_23 rfl b2 ?_
    refine V.if_le (tgt := 36) hC d_R_coinNow_24 (by decide) (fun c3 => ?_) (fun c3 => ?_)
    · replace h := h.1 c3
      refine V.iconst (v := 0) hC d_R_coinNow_36 (by decide) ?_
      refine V.iadd hC d_R_coinNow_37 ?_
      obtain ⟨v4, ev4⟩ : ∃ y : Int32, y = x2 + (0 : Int32) := ⟨_, rfl⟩
      replace h := h v4 ev4
      refine V.istore_n (y := v4) (lo' := [some (.ref (w.1 0)), none, some (.int v4), some (.int x3)]) hC d_R_coinNow_38 rfl rfl ev4 rfl ?_
      obtain ⟨v5, ev5⟩ : ∃ y : Int32, y = x3 + (1 : Int32) := ⟨_, rfl⟩
      replace h := h v5 ev5
      refine V.iinc (y := v5) (lo' := [some (.ref (w.1 0)), none, some (.int v4), some (.int v5)]) hC d_R_coinNow_39 rfl rfl (show v5 = _ + Int32.ofInt (1) from ev5) rfl ?_
      refine V.goto (tgt := 9) hC d_R_coinNow_42 (by decide) ?_
      exact V.msk [true, false, true, true] rfl h
    · replace h := h.2 c3
      refine V.aload_n hC d_R_coinNow_27 rfl rfl ?_
      refine V.getR (j := 21) hC d_R_coinNow_28 rfl rfl uC8 rfl rfl qf_R_59 ?_
      refine V.iload_n hC d_R_coinNow_31 rfl rfl ?_
      obtain ⟨b6, h⟩ := h
      refine V.iald hC d_R_coinNow_32 rfl b6 ?_
      refine V.goto (tgt := 37) hC d_R_coinNow_33 (by decide) ?_
      refine V.iadd hC d_R_coinNow_37 ?_
      obtain ⟨v7, ev7⟩ : ∃ y : Int32, y = x2 + (σ 17 (ix x3)) := ⟨_, rfl⟩
      replace h := h v7 ev7
      refine V.istore_n (y := v7) (lo' := [some (.ref (w.1 0)), none, some (.int v7), some (.int x3)]) hC d_R_coinNow_38 rfl rfl ev7 rfl ?_
      obtain ⟨v8, ev8⟩ : ∃ y : Int32, y = x3 + (1 : Int32) := ⟨_, rfl⟩
      replace h := h v8 ev8
      refine V.iinc (y := v8) (lo' := [some (.ref (w.1 0)), none, some (.int v7), some (.int v8)]) hC d_R_coinNow_39 rfl rfl (show v8 = _ + Int32.ofInt (1) from ev8) rfl ?_
      refine V.goto (tgt := 9) hC d_R_coinNow_42 (by decide) ?_
      exact V.msk [true, false, true, true] rfl h
set_option maxHeartbeats 4000000 in
set_option maxRecDepth 100000 in
theorem w_R_coinNow (w : Wd) (σ : Hp) (a1 : Int32) (P : Int32 → Hp → Prop) (h : wp_R_coinNow σ a1 P) : CtI μR w y_R_coinNow b_R_coinNow 4 (some .int) 3 [.ref (w.1 0), .int a1] σ P := by
  unfold wp_R_coinNow at h
  refine CtI.ofV (C := nC8) (lo := [some (.ref (w.1 0)), some (.int a1), none, none]) exR (by decide +kernel) rfl rfl rfl (fun κ hC hR => ?_)
  refine V.aload_n hC d_R_coinNow_0 rfl rfl ?_
  refine V.iload_n hC d_R_coinNow_1 rfl rfl ?_
  refine V.callVN hC exR (w_R_purses w σ a1 _ h) d_R_coinNow_2 mo_R_purses qm_R_205 rfl rfl rfl rfl rfl rfl rfl (Nat.le_of_ble_eq_true rfl) (fun t10 h => ?_)
  refine V.iconst (v := 0) hC d_R_coinNow_5 (by decide) ?_
  refine V.istore_n (y := (0 : Int32)) (lo' := [some (.ref (w.1 0)), some (.int a1), some (.int (0 : Int32)), none]) hC d_R_coinNow_6 rfl rfl rfl rfl ?_
  refine V.iconst (v := 0) hC d_R_coinNow_7 (by decide) ?_
  refine V.istore_n (y := (0 : Int32)) (lo' := [some (.ref (w.1 0)), some (.int a1), some (.int (0 : Int32)), some (.int (0 : Int32))]) hC d_R_coinNow_8 rfl rfl rfl rfl ?_
  exact V.msk [true, false, true, true] rfl (wj_R_coinNow_9  hC hR  t10 (0 : Int32) (0 : Int32) h)
abbrev b_R_coinOf : ByteArray := prog_10_method_46_code
def y_R_coinOf : MethodName := ⟨nC8, "coinOf", "(I)I"⟩
theorem d_R_coinOf_0 : decode b_R_coinOf 0 = .ok (.aload_n 0, 1) := by decide +kernel
theorem d_R_coinOf_1 : decode b_R_coinOf 1 = .ok (.invokevirtual 189, 3) := by decide +kernel
theorem d_R_coinOf_4 : decode b_R_coinOf 4 = .ok (.aload_n 0, 1) := by decide +kernel
theorem d_R_coinOf_5 : decode b_R_coinOf 5 = .ok (.iload_n 1, 1) := by decide +kernel
theorem d_R_coinOf_6 : decode b_R_coinOf 6 = .ok (.invokevirtual 209, 3) := by decide +kernel
theorem d_R_coinOf_9 : decode b_R_coinOf 9 = .ok (.ireturn, 1) := by decide +kernel
theorem qm_R_209 : Cond.methodLink nC8 209 y_R_coinNow ∈ tbl := tbl_in 1142 (by decide +kernel) rfl
theorem mo_R_coinOf : MokV y_R_coinOf b_R_coinOf 2 (some .int) 1 := ⟨⟨(tbl_in 1141 (by decide +kernel) rfl), (tbl_in 70 (by decide +kernel) rfl)⟩, ⟨(tbl_in 1140 (by decide +kernel) rfl), tbl_lw _ (tbl_in 34 (by decide +kernel) rfl), (tbl_in 34 (by decide +kernel) rfl)⟩, ⟨by decide +kernel, by decide +kernel⟩, by decide +kernel⟩
def wp_R_coinOf (σ : Hp) (a1 : Int32) (P : Int32 → Hp → Prop) : Prop :=
  wp_R_laysTold σ (fun (t2 : Hp) => wp_R_coinNow t2 a1 (fun (r3 : Int32) (t4 : Hp) => P r3 t4))
set_option maxHeartbeats 4000000 in
set_option maxRecDepth 100000 in
theorem w_R_coinOf (w : Wd) (σ : Hp) (a1 : Int32) (P : Int32 → Hp → Prop) (h : wp_R_coinOf σ a1 P) : CtI μR w y_R_coinOf b_R_coinOf 2 (some .int) 8 [.ref (w.1 0), .int a1] σ P := by
  unfold wp_R_coinOf at h
  refine CtI.ofV (C := nC8) (lo := [some (.ref (w.1 0)), some (.int a1)]) exR (by decide +kernel) rfl rfl rfl (fun κ hC hR => ?_)
  refine V.aload_n hC d_R_coinOf_0 rfl rfl ?_
  refine V.callVN hC exR (w_R_laysTold w σ  _ h) d_R_coinOf_1 mo_R_laysTold qm_R_189 rfl rfl rfl rfl rfl rfl rfl (Nat.le_of_ble_eq_true rfl) (fun t2 h => ?_)
  refine V.aload_n hC d_R_coinOf_4 rfl rfl ?_
  refine V.iload_n hC d_R_coinOf_5 rfl rfl ?_
  refine V.callVI hC exR (w_R_coinNow w t2 a1 _ h) d_R_coinOf_6 mo_R_coinNow qm_R_209 rfl rfl rfl rfl rfl rfl rfl (Nat.le_of_ble_eq_true rfl) (fun r3 t4 h => ?_)
  exact hR _ _ _ _ h rfl d_R_coinOf_9
abbrev b_R_coin : ByteArray := prog_10_method_47_code
def y_R_coin : MethodName := ⟨nC8, "coin", "(I)I"⟩
theorem d_R_coin_0 : decode b_R_coin 0 = .ok (.iload_n 1, 1) := by decide +kernel
theorem d_R_coin_1 : decode b_R_coin 1 = .ok (.invokestatic 151, 3) := by decide +kernel
theorem d_R_coin_4 : decode b_R_coin 4 = .ok (.ifCond .eq 11, 3) := by decide +kernel
theorem d_R_coin_7 : decode b_R_coin 7 = .ok (.aload_n 0, 1) := by decide +kernel
theorem d_R_coin_8 : decode b_R_coin 8 = .ok (.iload_n 1, 1) := by decide +kernel
theorem d_R_coin_9 : decode b_R_coin 9 = .ok (.invokevirtual 212, 3) := by decide +kernel
theorem d_R_coin_12 : decode b_R_coin 12 = .ok (.goto 5, 3) := by decide +kernel
theorem d_R_coin_15 : decode b_R_coin 15 = .ok (.bipush (-2), 2) := by decide +kernel
theorem d_R_coin_17 : decode b_R_coin 17 = .ok (.ireturn, 1) := by decide +kernel
theorem qm_R_212 : Cond.methodLink nC8 212 y_R_coinOf ∈ tbl := tbl_in 1138 (by decide +kernel) rfl
def wp_R_coin (σ : Hp) (a1 : Int32) (P : Int32 → Hp → Prop) : Prop :=
  wp_R_isDay σ a1 (fun (r1 : Int32) (t2 : Hp) => ((r1 = 0 → P (-2 : Int32) t2) ∧ (¬ r1 = 0 → wp_R_coinOf t2 a1 (fun (r4 : Int32) (t5 : Hp) => P r4 t5))))
set_option maxHeartbeats 4000000 in
set_option maxRecDepth 100000 in
theorem w_R_coin (w : Wd) (σ : Hp) (a1 : Int32) (P : Int32 → Hp → Prop) (h : wp_R_coin σ a1 P) : CtI μR w y_R_coin b_R_coin 2 (some .int) 9 [.ref (w.1 0), .int a1] σ P := by
  unfold wp_R_coin at h
  refine CtI.ofV (C := nC8) (lo := [some (.ref (w.1 0)), some (.int a1)]) exR (by decide +kernel) rfl rfl rfl (fun κ hC hR => ?_)
  refine V.iload_n hC d_R_coin_0 rfl rfl ?_
  refine V.callSI hC exR (w_R_isDay w σ a1 _ h) d_R_coin_1 mo_R_isDay qm_R_151 rfl rfl rfl rfl (Nat.le_of_ble_eq_true rfl) (fun r1 t2 h => ?_)
  refine V.if_eq (tgt := 15) hC d_R_coin_4 (by decide) (fun c3 => ?_) (fun c3 => ?_)
  · replace h := h.1 c3
    refine V.bipush (v := -2) hC d_R_coin_15 (by decide) ?_
    exact hR _ _ _ _ h rfl d_R_coin_17
  · replace h := h.2 c3
    refine V.aload_n hC d_R_coin_7 rfl rfl ?_
    refine V.iload_n hC d_R_coin_8 rfl rfl ?_
    refine V.callVI hC exR (w_R_coinOf w t2 a1 _ h) d_R_coin_9 mo_R_coinOf qm_R_212 rfl rfl rfl rfl rfl rfl rfl (Nat.le_of_ble_eq_true rfl) (fun r4 t5 h => ?_)
    refine V.goto (tgt := 17) hC d_R_coin_12 (by decide) ?_
    exact hR _ _ _ _ h rfl d_R_coin_17
abbrev b_R_goesBy : ByteArray := prog_10_method_48_code
def y_R_goesBy : MethodName := ⟨nC8, "goesBy", "(I)V"⟩
theorem d_R_goesBy_0 : decode b_R_goesBy 0 = .ok (.iconst 0, 1) := by decide +kernel
theorem d_R_goesBy_1 : decode b_R_goesBy 1 = .ok (.istore_n 2, 1) := by decide +kernel
theorem d_R_goesBy_2 : decode b_R_goesBy 2 = .ok (.iload_n 2, 1) := by decide +kernel
theorem d_R_goesBy_3 : decode b_R_goesBy 3 = .ok (.aload_n 0, 1) := by decide +kernel
theorem d_R_goesBy_4 : decode b_R_goesBy 4 = .ok (.getfield 116, 3) := by decide +kernel
theorem d_R_goesBy_7 : decode b_R_goesBy 7 = .ok (.if_icmp .ge 98, 3) := by decide +kernel
theorem d_R_goesBy_10 : decode b_R_goesBy 10 = .ok (.iconst 0, 1) := by decide +kernel
theorem d_R_goesBy_11 : decode b_R_goesBy 11 = .ok (.istore_n 3, 1) := by decide +kernel
theorem d_R_goesBy_12 : decode b_R_goesBy 12 = .ok (.iload_n 3, 1) := by decide +kernel
theorem d_R_goesBy_13 : decode b_R_goesBy 13 = .ok (.aload_n 0, 1) := by decide +kernel
theorem d_R_goesBy_14 : decode b_R_goesBy 14 = .ok (.getfield 116, 3) := by decide +kernel
theorem d_R_goesBy_17 : decode b_R_goesBy 17 = .ok (.if_icmp .ge 82, 3) := by decide +kernel
theorem d_R_goesBy_20 : decode b_R_goesBy 20 = .ok (.aload_n 0, 1) := by decide +kernel
theorem d_R_goesBy_21 : decode b_R_goesBy 21 = .ok (.getfield 56, 3) := by decide +kernel
theorem d_R_goesBy_24 : decode b_R_goesBy 24 = .ok (.bipush 8, 2) := by decide +kernel
theorem d_R_goesBy_26 : decode b_R_goesBy 26 = .ok (.iload_n 2, 1) := by decide +kernel
theorem d_R_goesBy_27 : decode b_R_goesBy 27 = .ok (.imul, 1) := by decide +kernel
theorem d_R_goesBy_28 : decode b_R_goesBy 28 = .ok (.iload_n 3, 1) := by decide +kernel
theorem d_R_goesBy_29 : decode b_R_goesBy 29 = .ok (.iadd, 1) := by decide +kernel
theorem d_R_goesBy_30 : decode b_R_goesBy 30 = .ok (.iaload, 1) := by decide +kernel
theorem d_R_goesBy_31 : decode b_R_goesBy 31 = .ok (.iload_n 1, 1) := by decide +kernel
theorem d_R_goesBy_32 : decode b_R_goesBy 32 = .ok (.if_icmp .gt 36, 3) := by decide +kernel
theorem d_R_goesBy_35 : decode b_R_goesBy 35 = .ok (.aload_n 0, 1) := by decide +kernel
theorem d_R_goesBy_36 : decode b_R_goesBy 36 = .ok (.getfield 49, 3) := by decide +kernel
theorem d_R_goesBy_39 : decode b_R_goesBy 39 = .ok (.bipush 30, 2) := by decide +kernel
theorem d_R_goesBy_41 : decode b_R_goesBy 41 = .ok (.iload_n 3, 1) := by decide +kernel
theorem d_R_goesBy_42 : decode b_R_goesBy 42 = .ok (.imul, 1) := by decide +kernel
theorem d_R_goesBy_43 : decode b_R_goesBy 43 = .ok (.iload_n 1, 1) := by decide +kernel
theorem d_R_goesBy_44 : decode b_R_goesBy 44 = .ok (.iadd, 1) := by decide +kernel
theorem d_R_goesBy_45 : decode b_R_goesBy 45 = .ok (.baload, 1) := by decide +kernel
theorem d_R_goesBy_46 : decode b_R_goesBy 46 = .ok (.ifCond .ne 22, 3) := by decide +kernel
theorem d_R_goesBy_49 : decode b_R_goesBy 49 = .ok (.iload_n 2, 1) := by decide +kernel
theorem d_R_goesBy_50 : decode b_R_goesBy 50 = .ok (.iload_n 3, 1) := by decide +kernel
theorem d_R_goesBy_51 : decode b_R_goesBy 51 = .ok (.if_icmp .eq 17, 3) := by decide +kernel
theorem d_R_goesBy_54 : decode b_R_goesBy 54 = .ok (.aload_n 0, 1) := by decide +kernel
theorem d_R_goesBy_55 : decode b_R_goesBy 55 = .ok (.getfield 53, 3) := by decide +kernel
theorem d_R_goesBy_58 : decode b_R_goesBy 58 = .ok (.bipush 8, 2) := by decide +kernel
theorem d_R_goesBy_60 : decode b_R_goesBy 60 = .ok (.iload_n 2, 1) := by decide +kernel
theorem d_R_goesBy_61 : decode b_R_goesBy 61 = .ok (.imul, 1) := by decide +kernel
theorem d_R_goesBy_62 : decode b_R_goesBy 62 = .ok (.iload_n 3, 1) := by decide +kernel
theorem d_R_goesBy_63 : decode b_R_goesBy 63 = .ok (.iadd, 1) := by decide +kernel
theorem d_R_goesBy_64 : decode b_R_goesBy 64 = .ok (.iaload, 1) := by decide +kernel
theorem d_R_goesBy_65 : decode b_R_goesBy 65 = .ok (.goto 4, 3) := by decide +kernel
theorem d_R_goesBy_68 : decode b_R_goesBy 68 = .ok (.iconst 0, 1) := by decide +kernel
theorem d_R_goesBy_69 : decode b_R_goesBy 69 = .ok (.istore 4, 2) := by decide +kernel
theorem d_R_goesBy_71 : decode b_R_goesBy 71 = .ok (.aload_n 0, 1) := by decide +kernel
theorem d_R_goesBy_72 : decode b_R_goesBy 72 = .ok (.getfield 59, 3) := by decide +kernel
theorem d_R_goesBy_75 : decode b_R_goesBy 75 = .ok (.iload_n 2, 1) := by decide +kernel
theorem d_R_goesBy_76 : decode b_R_goesBy 76 = .ok (.dup2, 1) := by decide +kernel
theorem d_R_goesBy_77 : decode b_R_goesBy 77 = .ok (.iaload, 1) := by decide +kernel
theorem d_R_goesBy_78 : decode b_R_goesBy 78 = .ok (.iload 4, 2) := by decide +kernel
theorem d_R_goesBy_80 : decode b_R_goesBy 80 = .ok (.isub, 1) := by decide +kernel
theorem d_R_goesBy_81 : decode b_R_goesBy 81 = .ok (.iastore, 1) := by decide +kernel
theorem d_R_goesBy_82 : decode b_R_goesBy 82 = .ok (.aload_n 0, 1) := by decide +kernel
theorem d_R_goesBy_83 : decode b_R_goesBy 83 = .ok (.getfield 59, 3) := by decide +kernel
theorem d_R_goesBy_86 : decode b_R_goesBy 86 = .ok (.iload_n 3, 1) := by decide +kernel
theorem d_R_goesBy_87 : decode b_R_goesBy 87 = .ok (.dup2, 1) := by decide +kernel
theorem d_R_goesBy_88 : decode b_R_goesBy 88 = .ok (.iaload, 1) := by decide +kernel
theorem d_R_goesBy_89 : decode b_R_goesBy 89 = .ok (.iload 4, 2) := by decide +kernel
theorem d_R_goesBy_91 : decode b_R_goesBy 91 = .ok (.iadd, 1) := by decide +kernel
theorem d_R_goesBy_92 : decode b_R_goesBy 92 = .ok (.iastore, 1) := by decide +kernel
theorem d_R_goesBy_93 : decode b_R_goesBy 93 = .ok (.iinc 3 1, 3) := by decide +kernel
theorem d_R_goesBy_96 : decode b_R_goesBy 96 = .ok (.goto (-84), 3) := by decide +kernel
theorem d_R_goesBy_99 : decode b_R_goesBy 99 = .ok (.iinc 2 1, 3) := by decide +kernel
theorem d_R_goesBy_102 : decode b_R_goesBy 102 = .ok (.goto (-100), 3) := by decide +kernel
theorem d_R_goesBy_105 : decode b_R_goesBy 105 = .ok (.return_, 1) := by decide +kernel
theorem mo_R_goesBy : MokV y_R_goesBy b_R_goesBy 5 none 1 := ⟨⟨(tbl_in 1165 (by decide +kernel) rfl), (tbl_in 70 (by decide +kernel) rfl)⟩, ⟨(tbl_in 1164 (by decide +kernel) rfl), tbl_lw _ (tbl_in 39 (by decide +kernel) rfl), (tbl_in 39 (by decide +kernel) rfl)⟩, ⟨by decide +kernel, by decide +kernel⟩, by decide +kernel⟩
def j_R_goesBy_69 (P : Hp → Prop) (I2 : Hp → Int32 → Int32 → Prop) (I12 : Hp → Int32 → Int32 → Int32 → Prop) (σ : Hp) (x1 : Int32) (x2 : Int32) (x3 : Int32) (s0 : Int32) : Prop :=
  (vp_in x2 8) ∧ (vp_in x2 8) ∧ (vp_in x3 8) ∧ (vp_in x3 8) ∧ (∀ v5 : Int32, v5 = x3 + (1 : Int32) → I12 (st (st σ 17 (ix x2) ((σ 17 (ix x2)) - s0)) 17 (ix x3) (((st σ 17 (ix x2) ((σ 17 (ix x2)) - s0)) 17 (ix x3)) + s0)) x1 x2 v5)
def j_R_goesBy_68 (P : Hp → Prop) (I2 : Hp → Int32 → Int32 → Prop) (I12 : Hp → Int32 → Int32 → Int32 → Prop) (σ : Hp) (x1 : Int32) (x2 : Int32) (x3 : Int32) : Prop :=
  j_R_goesBy_69 P I2 I12 σ x1 x2 x3 (0 : Int32)
def b_R_goesBy_12_ (P : Hp → Prop) (I2 : Hp → Int32 → Int32 → Prop) (I12 : Hp → Int32 → Int32 → Int32 → Prop) (σ : Hp) (x1 : Int32) (x2 : Int32) (x3 : Int32) : Prop :=
  (((σ 0 2) ≤ x3 → (∀ v7 : Int32, v7 = x2 + (1 : Int32) → I2 σ x1 v7)) ∧ (¬ (σ 0 2) ≤ x3 → (vp_in (((8 : Int32) * x2) + x3) 64) ∧ ((x1 < (σ 16 (ix (((8 : Int32) * x2) + x3))) → j_R_goesBy_68 P I2 I12 σ x1 x2 x3) ∧ (¬ x1 < (σ 16 (ix (((8 : Int32) * x2) + x3))) → (vp_in (((30 : Int32) * x3) + x1) 240) ∧ ((¬ (σ 14 (ix (((30 : Int32) * x3) + x1))) = 0 → j_R_goesBy_68 P I2 I12 σ x1 x2 x3) ∧ ((σ 14 (ix (((30 : Int32) * x3) + x1))) = 0 → ((x2 = x3 → j_R_goesBy_68 P I2 I12 σ x1 x2 x3) ∧ (¬ x2 = x3 → (vp_in (((8 : Int32) * x2) + x3) 64) ∧ j_R_goesBy_69 P I2 I12 σ x1 x2 x3 (σ 15 (ix (((8 : Int32) * x2) + x3)))))))))))
def j_R_goesBy_12 (P : Hp → Prop) (I2 : Hp → Int32 → Int32 → Prop) (σ : Hp) (x1 : Int32) (x2 : Int32) (x3 : Int32) : Prop := ∀ I12 : Hp → Int32 → Int32 → Int32 → Prop, (∀ (σ : Hp) (x1 : Int32) (x2 : Int32) (x3 : Int32), b_R_goesBy_12_  P I2 I12 σ x1 x2 x3 → I12 σ x1 x2 x3) → I12 σ x1 x2 x3
def b_R_goesBy_2_ (P : Hp → Prop)  (I2 : Hp → Int32 → Int32 → Prop) (σ : Hp) (x1 : Int32) (x2 : Int32) : Prop :=
  (((σ 0 2) ≤ x2 → P σ) ∧ (¬ (σ 0 2) ≤ x2 → j_R_goesBy_12 P I2 σ x1 x2 (0 : Int32)))
def j_R_goesBy_2 (P : Hp → Prop)  (σ : Hp) (x1 : Int32) (x2 : Int32) : Prop := ∀ I2 : Hp → Int32 → Int32 → Prop, (∀ (σ : Hp) (x1 : Int32) (x2 : Int32), b_R_goesBy_2_  P  I2 σ x1 x2 → I2 σ x1 x2) → I2 σ x1 x2
def wp_R_goesBy (σ : Hp) (a1 : Int32) (P : Hp → Prop) : Prop :=
  j_R_goesBy_2 P σ a1 (0 : Int32)
set_option maxHeartbeats 4000000 in
set_option maxRecDepth 100000 in
theorem wj_R_goesBy_69 {w : Wd} {κ : Kx} {P : Hp → Prop} (hC : Cx μR w 5 κ nC8 b_R_goesBy 0) (hR : RtN μR w 5 κ b_R_goesBy P) {I2 : Hp → Int32 → Int32 → Prop} (hI2 : ∀ σ x1 x2, I2 σ x1 x2 → V μR w 5 κ σ [some (.ref (w.1 0)), some (.int x1), some (.int x2), none, none] 2 []) {I12 : Hp → Int32 → Int32 → Int32 → Prop} (hI12 : ∀ σ x1 x2 x3, I12 σ x1 x2 x3 → V μR w 5 κ σ [some (.ref (w.1 0)), some (.int x1), some (.int x2), some (.int x3), none] 12 []) : ∀ (σ : Hp) (x1 : Int32) (x2 : Int32) (x3 : Int32) (s0 : Int32), j_R_goesBy_69  P I2 I12 σ x1 x2 x3 s0 → V μR w 5 κ σ [some (.ref (w.1 0)), some (.int x1), some (.int x2), some (.int x3), none] 69 [.int s0] := by
  intro σ x1 x2 x3 s0 h
  unfold j_R_goesBy_69 at h
  refine V.istore (y := s0) (lo' := [some (.ref (w.1 0)), some (.int x1), some (.int x2), some (.int x3), some (.int s0)]) hC d_R_goesBy_69 rfl rfl rfl ?_
  refine V.aload_n hC d_R_goesBy_71 rfl rfl ?_
  refine V.getR (j := 21) hC d_R_goesBy_72 rfl rfl uC8 rfl rfl qf_R_59 ?_
  refine V.iload_n hC d_R_goesBy_75 rfl rfl ?_
  refine V.dup2_11 hC d_R_goesBy_76 rfl rfl ?_
  obtain ⟨b1, h⟩ := h
  refine V.iald hC d_R_goesBy_77 rfl b1 ?_
  refine V.iload hC d_R_goesBy_78 rfl ?_
  refine V.isub hC d_R_goesBy_80 ?_
  obtain ⟨b2, h⟩ := h
  refine V.iast hC d_R_goesBy_81 rfl b2 ?_
  refine V.aload_n hC d_R_goesBy_82 rfl rfl ?_
  refine V.getR (j := 21) hC d_R_goesBy_83 rfl rfl uC8 rfl rfl qf_R_59 ?_
  refine V.iload_n hC d_R_goesBy_86 rfl rfl ?_
  refine V.dup2_11 hC d_R_goesBy_87 rfl rfl ?_
  obtain ⟨b3, h⟩ := h
  refine V.iald hC d_R_goesBy_88 rfl b3 ?_
  refine V.iload hC d_R_goesBy_89 rfl ?_
  refine V.iadd hC d_R_goesBy_91 ?_
  obtain ⟨b4, h⟩ := h
  refine V.iast hC d_R_goesBy_92 rfl b4 ?_
  obtain ⟨v5, ev5⟩ : ∃ y : Int32, y = x3 + (1 : Int32) := ⟨_, rfl⟩
  replace h := h v5 ev5
  refine V.iinc (y := v5) (lo' := [some (.ref (w.1 0)), some (.int x1), some (.int x2), some (.int v5), some (.int s0)]) hC d_R_goesBy_93 rfl rfl (show v5 = _ + Int32.ofInt (1) from ev5) rfl ?_
  refine V.goto (tgt := 12) hC d_R_goesBy_96 (by decide) ?_
  exact V.msk [true, true, true, true, false] rfl (hI12 (st (st σ 17 (ix x2) ((σ 17 (ix x2)) - s0)) 17 (ix x3) (((st σ 17 (ix x2) ((σ 17 (ix x2)) - s0)) 17 (ix x3)) + s0)) x1 x2 v5 h)
set_option maxHeartbeats 4000000 in
set_option maxRecDepth 100000 in
theorem wj_R_goesBy_68 {w : Wd} {κ : Kx} {P : Hp → Prop} (hC : Cx μR w 5 κ nC8 b_R_goesBy 0) (hR : RtN μR w 5 κ b_R_goesBy P) {I2 : Hp → Int32 → Int32 → Prop} (hI2 : ∀ σ x1 x2, I2 σ x1 x2 → V μR w 5 κ σ [some (.ref (w.1 0)), some (.int x1), some (.int x2), none, none] 2 []) {I12 : Hp → Int32 → Int32 → Int32 → Prop} (hI12 : ∀ σ x1 x2 x3, I12 σ x1 x2 x3 → V μR w 5 κ σ [some (.ref (w.1 0)), some (.int x1), some (.int x2), some (.int x3), none] 12 []) : ∀ (σ : Hp) (x1 : Int32) (x2 : Int32) (x3 : Int32), j_R_goesBy_68  P I2 I12 σ x1 x2 x3 → V μR w 5 κ σ [some (.ref (w.1 0)), some (.int x1), some (.int x2), some (.int x3), none] 68 [] := by
  intro σ x1 x2 x3 h
  unfold j_R_goesBy_68 at h
  refine V.iconst (v := 0) hC d_R_goesBy_68 (by decide) ?_
  exact V.msk [true, true, true, true, false] rfl (wj_R_goesBy_69  hC hR hI2 hI12 σ x1 x2 x3 (0 : Int32) h)
set_option maxHeartbeats 4000000 in
set_option maxRecDepth 100000 in
theorem wj_R_goesBy_12 {w : Wd} {κ : Kx} {P : Hp → Prop} (hC : Cx μR w 5 κ nC8 b_R_goesBy 0) (hR : RtN μR w 5 κ b_R_goesBy P) {I2 : Hp → Int32 → Int32 → Prop} (hI2 : ∀ σ x1 x2, I2 σ x1 x2 → V μR w 5 κ σ [some (.ref (w.1 0)), some (.int x1), some (.int x2), none, none] 2 []) : ∀ (σ : Hp) (x1 : Int32) (x2 : Int32) (x3 : Int32), j_R_goesBy_12  P I2 σ x1 x2 x3 → V μR w 5 κ σ [some (.ref (w.1 0)), some (.int x1), some (.int x2), some (.int x3), none] 12 [] := by
  intro σ x1 x2 x3 h
  refine h (fun σ x1 x2 x3 => V μR w 5 κ σ [some (.ref (w.1 0)), some (.int x1), some (.int x2), some (.int x3), none] 12 []) (fun σ x1 x2 x3 h => ?_)
  unfold b_R_goesBy_12_ at h
  refine V.iload_n hC d_R_goesBy_12 rfl rfl ?_
  refine V.aload_n hC d_R_goesBy_13 rfl rfl ?_
  refine V.getI (j := 2) hC d_R_goesBy_14 rfl rfl uC8 rfl rfl qf_R_116 ?_
  refine V.icmp_ge (tgt := 99) hC d_R_goesBy_17 (by decide) (fun c6 => ?_) (fun c6 => ?_)
  · replace h := h.1 c6
    obtain ⟨v7, ev7⟩ : ∃ y : Int32, y = x2 + (1 : Int32) := ⟨_, rfl⟩
    replace h := h v7 ev7
    refine V.iinc (y := v7) (lo' := [some (.ref (w.1 0)), some (.int x1), some (.int v7), some (.int x3), none]) hC d_R_goesBy_99 rfl rfl (show v7 = _ + Int32.ofInt (1) from ev7) rfl ?_
    refine V.goto (tgt := 2) hC d_R_goesBy_102 (by decide) ?_
    exact V.msk [true, true, true, false, false] rfl (hI2 σ x1 v7 h)
  · replace h := h.2 c6
    refine V.aload_n hC d_R_goesBy_20 rfl rfl ?_
    refine V.getR (j := 20) hC d_R_goesBy_21 rfl rfl uC8 rfl rfl qf_R_56 ?_
    refine V.bipush (v := 8) hC d_R_goesBy_24 (by decide) ?_
    refine V.iload_n hC d_R_goesBy_26 rfl rfl ?_
    refine V.imul hC d_R_goesBy_27 ?_
    refine V.iload_n hC d_R_goesBy_28 rfl rfl ?_
    refine V.iadd hC d_R_goesBy_29 ?_
    obtain ⟨b8, h⟩ := h
    refine V.iald hC d_R_goesBy_30 rfl b8 ?_
    refine V.iload_n hC d_R_goesBy_31 rfl rfl ?_
    refine V.icmp_gt (tgt := 68) hC d_R_goesBy_32 (by decide) (fun c9 => ?_) (fun c9 => ?_)
    · replace h := h.1 c9
      exact V.msk [true, true, true, true, false] rfl (wj_R_goesBy_68  hC hR hI2 (fun _ _ _ _ h => h) σ x1 x2 x3 h)
    · replace h := h.2 c9
      refine V.aload_n hC d_R_goesBy_35 rfl rfl ?_
      refine V.getR (j := 18) hC d_R_goesBy_36 rfl rfl uC8 rfl rfl qf_R_49 ?_
      refine V.bipush (v := 30) hC d_R_goesBy_39 (by decide) ?_
      refine V.iload_n hC d_R_goesBy_41 rfl rfl ?_
      refine V.imul hC d_R_goesBy_42 ?_
      refine V.iload_n hC d_R_goesBy_43 rfl rfl ?_
      refine V.iadd hC d_R_goesBy_44 ?_
      obtain ⟨b10, h⟩ := h
      refine V.zald hC d_R_goesBy_45 rfl b10 ?_
      refine V.if_ne (tgt := 68) hC d_R_goesBy_46 (by decide) (fun c11 => ?_) (fun c11 => ?_)
      · replace h := h.1 c11
        exact V.msk [true, true, true, true, false] rfl (wj_R_goesBy_68  hC hR hI2 (fun _ _ _ _ h => h) σ x1 x2 x3 h)
      · replace h := h.2 c11
        refine V.iload_n hC d_R_goesBy_49 rfl rfl ?_
        refine V.iload_n hC d_R_goesBy_50 rfl rfl ?_
        refine V.icmp_eq (tgt := 68) hC d_R_goesBy_51 (by decide) (fun c12 => ?_) (fun c12 => ?_)
        · replace h := h.1 c12
          exact V.msk [true, true, true, true, false] rfl (wj_R_goesBy_68  hC hR hI2 (fun _ _ _ _ h => h) σ x1 x2 x3 h)
        · replace h := h.2 c12
          refine V.aload_n hC d_R_goesBy_54 rfl rfl ?_
          refine V.getR (j := 19) hC d_R_goesBy_55 rfl rfl uC8 rfl rfl qf_R_53 ?_
          refine V.bipush (v := 8) hC d_R_goesBy_58 (by decide) ?_
          refine V.iload_n hC d_R_goesBy_60 rfl rfl ?_
          refine V.imul hC d_R_goesBy_61 ?_
          refine V.iload_n hC d_R_goesBy_62 rfl rfl ?_
          refine V.iadd hC d_R_goesBy_63 ?_
          obtain ⟨b13, h⟩ := h
          refine V.iald hC d_R_goesBy_64 rfl b13 ?_
          refine V.goto (tgt := 69) hC d_R_goesBy_65 (by decide) ?_
          exact V.msk [true, true, true, true, false] rfl (wj_R_goesBy_69  hC hR hI2 (fun _ _ _ _ h => h) σ x1 x2 x3 (σ 15 (ix (((8 : Int32) * x2) + x3))) h)
set_option maxHeartbeats 4000000 in
set_option maxRecDepth 100000 in
theorem wj_R_goesBy_2 {w : Wd} {κ : Kx} {P : Hp → Prop} (hC : Cx μR w 5 κ nC8 b_R_goesBy 0) (hR : RtN μR w 5 κ b_R_goesBy P)  : ∀ (σ : Hp) (x1 : Int32) (x2 : Int32), j_R_goesBy_2  P  σ x1 x2 → V μR w 5 κ σ [some (.ref (w.1 0)), some (.int x1), some (.int x2), none, none] 2 [] := by
  intro σ x1 x2 h
  refine h (fun σ x1 x2 => V μR w 5 κ σ [some (.ref (w.1 0)), some (.int x1), some (.int x2), none, none] 2 []) (fun σ x1 x2 h => ?_)
  unfold b_R_goesBy_2_ at h
  refine V.iload_n hC d_R_goesBy_2 rfl rfl ?_
  refine V.aload_n hC d_R_goesBy_3 rfl rfl ?_
  refine V.getI (j := 2) hC d_R_goesBy_4 rfl rfl uC8 rfl rfl qf_R_116 ?_
  refine V.icmp_ge (tgt := 105) hC d_R_goesBy_7 (by decide) (fun c14 => ?_) (fun c14 => ?_)
  · replace h := h.1 c14
    exact hR _ _ _ h d_R_goesBy_105
  · replace h := h.2 c14
    refine V.iconst (v := 0) hC d_R_goesBy_10 (by decide) ?_
    refine V.istore_n (y := (0 : Int32)) (lo' := [some (.ref (w.1 0)), some (.int x1), some (.int x2), some (.int (0 : Int32)), none]) hC d_R_goesBy_11 rfl rfl rfl rfl ?_
    exact V.msk [true, true, true, true, false] rfl (wj_R_goesBy_12  hC hR (fun _ _ _ h => h) σ x1 x2 (0 : Int32) h)
set_option maxHeartbeats 4000000 in
set_option maxRecDepth 100000 in
theorem w_R_goesBy (w : Wd) (σ : Hp) (a1 : Int32) (P : Hp → Prop) (h : wp_R_goesBy σ a1 P) : CtN μR w y_R_goesBy b_R_goesBy 5 none 0 [.ref (w.1 0), .int a1] σ P := by
  unfold wp_R_goesBy at h
  refine CtN.ofV (C := nC8) (lo := [some (.ref (w.1 0)), some (.int a1), none, none, none]) exR (by decide +kernel) rfl rfl rfl (fun κ hC hR => ?_)
  refine V.iconst (v := 0) hC d_R_goesBy_0 (by decide) ?_
  refine V.istore_n (y := (0 : Int32)) (lo' := [some (.ref (w.1 0)), some (.int a1), some (.int (0 : Int32)), none, none]) hC d_R_goesBy_1 rfl rfl rfl rfl ?_
  exact V.msk [true, true, true, false, false] rfl (wj_R_goesBy_2  hC hR  σ a1 (0 : Int32) h)
abbrev b_R_noPurses : ByteArray := prog_10_method_49_code
def y_R_noPurses : MethodName := ⟨nC8, "noPurses", "()V"⟩
theorem d_R_noPurses_0 : decode b_R_noPurses 0 = .ok (.iconst 0, 1) := by decide +kernel
theorem d_R_noPurses_1 : decode b_R_noPurses 1 = .ok (.istore_n 1, 1) := by decide +kernel
theorem d_R_noPurses_2 : decode b_R_noPurses 2 = .ok (.iload_n 1, 1) := by decide +kernel
theorem d_R_noPurses_3 : decode b_R_noPurses 3 = .ok (.bipush 8, 2) := by decide +kernel
theorem d_R_noPurses_5 : decode b_R_noPurses 5 = .ok (.if_icmp .ge 16, 3) := by decide +kernel
theorem d_R_noPurses_8 : decode b_R_noPurses 8 = .ok (.aload_n 0, 1) := by decide +kernel
theorem d_R_noPurses_9 : decode b_R_noPurses 9 = .ok (.getfield 59, 3) := by decide +kernel
theorem d_R_noPurses_12 : decode b_R_noPurses 12 = .ok (.iload_n 1, 1) := by decide +kernel
theorem d_R_noPurses_13 : decode b_R_noPurses 13 = .ok (.iconst 0, 1) := by decide +kernel
theorem d_R_noPurses_14 : decode b_R_noPurses 14 = .ok (.iastore, 1) := by decide +kernel
theorem d_R_noPurses_15 : decode b_R_noPurses 15 = .ok (.iinc 1 1, 3) := by decide +kernel
theorem d_R_noPurses_18 : decode b_R_noPurses 18 = .ok (.goto (-16), 3) := by decide +kernel
theorem d_R_noPurses_21 : decode b_R_noPurses 21 = .ok (.return_, 1) := by decide +kernel
theorem mo_R_noPurses : MokV y_R_noPurses b_R_noPurses 2 none 0 := ⟨⟨(tbl_in 1161 (by decide +kernel) rfl), (tbl_in 70 (by decide +kernel) rfl)⟩, ⟨(tbl_in 1160 (by decide +kernel) rfl), tbl_lw _ (tbl_in 38 (by decide +kernel) rfl), (tbl_in 38 (by decide +kernel) rfl)⟩, ⟨by decide +kernel, by decide +kernel⟩, by decide +kernel⟩
def b_R_noPurses_2_ (P : Hp → Prop)  (I2 : Hp → Int32 → Prop) (σ : Hp) (x1 : Int32) : Prop :=
  (((8 : Int32) ≤ x1 → P σ) ∧ (¬ (8 : Int32) ≤ x1 → (vp_in x1 8) ∧ (∀ v3 : Int32, v3 = x1 + (1 : Int32) → I2 (st σ 17 (ix x1) (0 : Int32)) v3)))
def j_R_noPurses_2 (P : Hp → Prop)  (σ : Hp) (x1 : Int32) : Prop := ∀ I2 : Hp → Int32 → Prop, (∀ (σ : Hp) (x1 : Int32), b_R_noPurses_2_  P  I2 σ x1 → I2 σ x1) → I2 σ x1
def wp_R_noPurses (σ : Hp)  (P : Hp → Prop) : Prop :=
  j_R_noPurses_2 P σ (0 : Int32)
set_option maxHeartbeats 4000000 in
set_option maxRecDepth 100000 in
theorem wj_R_noPurses_2 {w : Wd} {κ : Kx} {P : Hp → Prop} (hC : Cx μR w 2 κ nC8 b_R_noPurses 0) (hR : RtN μR w 2 κ b_R_noPurses P)  : ∀ (σ : Hp) (x1 : Int32), j_R_noPurses_2  P  σ x1 → V μR w 2 κ σ [some (.ref (w.1 0)), some (.int x1)] 2 [] := by
  intro σ x1 h
  refine h (fun σ x1 => V μR w 2 κ σ [some (.ref (w.1 0)), some (.int x1)] 2 []) (fun σ x1 h => ?_)
  unfold b_R_noPurses_2_ at h
  refine V.iload_n hC d_R_noPurses_2 rfl rfl ?_
  refine V.bipush (v := 8) hC d_R_noPurses_3 (by decide) ?_
  refine V.icmp_ge (tgt := 21) hC d_R_noPurses_5 (by decide) (fun c1 => ?_) (fun c1 => ?_)
  · replace h := h.1 c1
    exact hR _ _ _ h d_R_noPurses_21
  · replace h := h.2 c1
    refine V.aload_n hC d_R_noPurses_8 rfl rfl ?_
    refine V.getR (j := 21) hC d_R_noPurses_9 rfl rfl uC8 rfl rfl qf_R_59 ?_
    refine V.iload_n hC d_R_noPurses_12 rfl rfl ?_
    refine V.iconst (v := 0) hC d_R_noPurses_13 (by decide) ?_
    obtain ⟨b2, h⟩ := h
    refine V.iast hC d_R_noPurses_14 rfl b2 ?_
    obtain ⟨v3, ev3⟩ : ∃ y : Int32, y = x1 + (1 : Int32) := ⟨_, rfl⟩
    replace h := h v3 ev3
    refine V.iinc (y := v3) (lo' := [some (.ref (w.1 0)), some (.int v3)]) hC d_R_noPurses_15 rfl rfl (show v3 = _ + Int32.ofInt (1) from ev3) rfl ?_
    refine V.goto (tgt := 2) hC d_R_noPurses_18 (by decide) ?_
    exact V.msk [true, true] rfl h
set_option maxHeartbeats 4000000 in
set_option maxRecDepth 100000 in
theorem w_R_noPurses (w : Wd) (σ : Hp)  (P : Hp → Prop) (h : wp_R_noPurses σ  P) : CtN μR w y_R_noPurses b_R_noPurses 2 none 0 [.ref (w.1 0)] σ P := by
  unfold wp_R_noPurses at h
  refine CtN.ofV (C := nC8) (lo := [some (.ref (w.1 0)), none]) exR (by decide +kernel) rfl rfl rfl (fun κ hC hR => ?_)
  refine V.iconst (v := 0) hC d_R_noPurses_0 (by decide) ?_
  refine V.istore_n (y := (0 : Int32)) (lo' := [some (.ref (w.1 0)), some (.int (0 : Int32))]) hC d_R_noPurses_1 rfl rfl rfl rfl ?_
  exact V.msk [true, true] rfl (wj_R_noPurses_2  hC hR  σ (0 : Int32) h)
abbrev b_R_brokeOf : ByteArray := prog_10_method_50_code
def y_R_brokeOf : MethodName := ⟨nC8, "brokeOf", "(I)I"⟩
theorem d_R_brokeOf_0 : decode b_R_brokeOf 0 = .ok (.aload_n 0, 1) := by decide +kernel
theorem d_R_brokeOf_1 : decode b_R_brokeOf 1 = .ok (.invokevirtual 189, 3) := by decide +kernel
theorem d_R_brokeOf_4 : decode b_R_brokeOf 4 = .ok (.aload_n 0, 1) := by decide +kernel
theorem d_R_brokeOf_5 : decode b_R_brokeOf 5 = .ok (.invokevirtual 215, 3) := by decide +kernel
theorem d_R_brokeOf_8 : decode b_R_brokeOf 8 = .ok (.iconst 0, 1) := by decide +kernel
theorem d_R_brokeOf_9 : decode b_R_brokeOf 9 = .ok (.istore_n 2, 1) := by decide +kernel
theorem d_R_brokeOf_10 : decode b_R_brokeOf 10 = .ok (.iload_n 2, 1) := by decide +kernel
theorem d_R_brokeOf_11 : decode b_R_brokeOf 11 = .ok (.bipush 30, 2) := by decide +kernel
theorem d_R_brokeOf_13 : decode b_R_brokeOf 13 = .ok (.if_icmp .ge 32, 3) := by decide +kernel
theorem d_R_brokeOf_16 : decode b_R_brokeOf 16 = .ok (.aload_n 0, 1) := by decide +kernel
theorem d_R_brokeOf_17 : decode b_R_brokeOf 17 = .ok (.iload_n 2, 1) := by decide +kernel
theorem d_R_brokeOf_18 : decode b_R_brokeOf 18 = .ok (.invokevirtual 218, 3) := by decide +kernel
theorem d_R_brokeOf_21 : decode b_R_brokeOf 21 = .ok (.aload_n 0, 1) := by decide +kernel
theorem d_R_brokeOf_22 : decode b_R_brokeOf 22 = .ok (.getfield 59, 3) := by decide +kernel
theorem d_R_brokeOf_25 : decode b_R_brokeOf 25 = .ok (.iload_n 1, 1) := by decide +kernel
theorem d_R_brokeOf_26 : decode b_R_brokeOf 26 = .ok (.iaload, 1) := by decide +kernel
theorem d_R_brokeOf_27 : decode b_R_brokeOf 27 = .ok (.aload_n 0, 1) := by decide +kernel
theorem d_R_brokeOf_28 : decode b_R_brokeOf 28 = .ok (.getfield 25, 3) := by decide +kernel
theorem d_R_brokeOf_31 : decode b_R_brokeOf 31 = .ok (.iload_n 1, 1) := by decide +kernel
theorem d_R_brokeOf_32 : decode b_R_brokeOf 32 = .ok (.iaload, 1) := by decide +kernel
theorem d_R_brokeOf_33 : decode b_R_brokeOf 33 = .ok (.ineg, 1) := by decide +kernel
theorem d_R_brokeOf_34 : decode b_R_brokeOf 34 = .ok (.if_icmp .ge 5, 3) := by decide +kernel
theorem d_R_brokeOf_37 : decode b_R_brokeOf 37 = .ok (.iload_n 2, 1) := by decide +kernel
theorem d_R_brokeOf_38 : decode b_R_brokeOf 38 = .ok (.ireturn, 1) := by decide +kernel
theorem d_R_brokeOf_39 : decode b_R_brokeOf 39 = .ok (.iinc 2 1, 3) := by decide +kernel
theorem d_R_brokeOf_42 : decode b_R_brokeOf 42 = .ok (.goto (-32), 3) := by decide +kernel
theorem d_R_brokeOf_45 : decode b_R_brokeOf 45 = .ok (.iconst (-1), 1) := by decide +kernel
theorem d_R_brokeOf_46 : decode b_R_brokeOf 46 = .ok (.ireturn, 1) := by decide +kernel
theorem qm_R_215 : Cond.methodLink nC8 215 y_R_noPurses ∈ tbl := tbl_in 1158 (by decide +kernel) rfl
theorem qm_R_218 : Cond.methodLink nC8 218 y_R_goesBy ∈ tbl := tbl_in 1162 (by decide +kernel) rfl
theorem mo_R_brokeOf : MokV y_R_brokeOf b_R_brokeOf 3 (some .int) 1 := ⟨⟨(tbl_in 1157 (by decide +kernel) rfl), (tbl_in 70 (by decide +kernel) rfl)⟩, ⟨(tbl_in 1156 (by decide +kernel) rfl), tbl_lw _ (tbl_in 37 (by decide +kernel) rfl), (tbl_in 37 (by decide +kernel) rfl)⟩, ⟨by decide +kernel, by decide +kernel⟩, by decide +kernel⟩
def b_R_brokeOf_10_ (P : Int32 → Hp → Prop)  (I10 : Hp → Int32 → Int32 → Prop) (σ : Hp) (x1 : Int32) (x2 : Int32) : Prop :=
  (((30 : Int32) ≤ x2 → P (-1 : Int32) σ) ∧ (¬ (30 : Int32) ≤ x2 → wp_R_goesBy σ x2 (fun (t3 : Hp) => (vp_in x1 8) ∧ (vp_in x1 9) ∧ (((-(t3 6 (ix x1))) ≤ (t3 17 (ix x1)) → (∀ v7 : Int32, v7 = x2 + (1 : Int32) → I10 t3 x1 v7)) ∧ (¬ (-(t3 6 (ix x1))) ≤ (t3 17 (ix x1)) → P x2 t3)))))
def j_R_brokeOf_10 (P : Int32 → Hp → Prop)  (σ : Hp) (x1 : Int32) (x2 : Int32) : Prop := ∀ I10 : Hp → Int32 → Int32 → Prop, (∀ (σ : Hp) (x1 : Int32) (x2 : Int32), b_R_brokeOf_10_  P  I10 σ x1 x2 → I10 σ x1 x2) → I10 σ x1 x2
def wp_R_brokeOf (σ : Hp) (a1 : Int32) (P : Int32 → Hp → Prop) : Prop :=
  wp_R_laysTold σ (fun (t9 : Hp) => wp_R_noPurses t9 (fun (t11 : Hp) => j_R_brokeOf_10 P t11 a1 (0 : Int32)))
set_option maxHeartbeats 4000000 in
set_option maxRecDepth 100000 in
theorem wj_R_brokeOf_10 {w : Wd} {κ : Kx} {P : Int32 → Hp → Prop} (hC : Cx μR w 3 κ nC8 b_R_brokeOf 8) (hR : RtI μR w 3 κ b_R_brokeOf .int P)  : ∀ (σ : Hp) (x1 : Int32) (x2 : Int32), j_R_brokeOf_10  P  σ x1 x2 → V μR w 3 κ σ [some (.ref (w.1 0)), some (.int x1), some (.int x2)] 10 [] := by
  intro σ x1 x2 h
  refine h (fun σ x1 x2 => V μR w 3 κ σ [some (.ref (w.1 0)), some (.int x1), some (.int x2)] 10 []) (fun σ x1 x2 h => ?_)
  unfold b_R_brokeOf_10_ at h
  refine V.iload_n hC d_R_brokeOf_10 rfl rfl ?_
  refine V.bipush (v := 30) hC d_R_brokeOf_11 (by decide) ?_
  refine V.icmp_ge (tgt := 45) hC d_R_brokeOf_13 (by decide) (fun c1 => ?_) (fun c1 => ?_)
  · replace h := h.1 c1
    refine V.iconst (v := -1) hC d_R_brokeOf_45 (by decide) ?_
    exact hR _ _ _ _ h rfl d_R_brokeOf_46
  · replace h := h.2 c1
    refine V.aload_n hC d_R_brokeOf_16 rfl rfl ?_
    refine V.iload_n hC d_R_brokeOf_17 rfl rfl ?_
    refine V.callVN hC exR (w_R_goesBy w σ x2 _ h) d_R_brokeOf_18 mo_R_goesBy qm_R_218 rfl rfl rfl rfl rfl rfl rfl (Nat.le_of_ble_eq_true rfl) (fun t3 h => ?_)
    refine V.aload_n hC d_R_brokeOf_21 rfl rfl ?_
    refine V.getR (j := 21) hC d_R_brokeOf_22 rfl rfl uC8 rfl rfl qf_R_59 ?_
    refine V.iload_n hC d_R_brokeOf_25 rfl rfl ?_
    obtain ⟨b4, h⟩ := h
    refine V.iald hC d_R_brokeOf_26 rfl b4 ?_
    refine V.aload_n hC d_R_brokeOf_27 rfl rfl ?_
    refine V.getR (j := 6) hC d_R_brokeOf_28 rfl rfl uC8 rfl rfl qf_R_25 ?_
    refine V.iload_n hC d_R_brokeOf_31 rfl rfl ?_
    obtain ⟨b5, h⟩ := h
    refine V.iald hC d_R_brokeOf_32 rfl b5 ?_
    refine V.ineg hC d_R_brokeOf_33 ?_
    refine V.icmp_ge (tgt := 39) hC d_R_brokeOf_34 (by decide) (fun c6 => ?_) (fun c6 => ?_)
    · replace h := h.1 c6
      obtain ⟨v7, ev7⟩ : ∃ y : Int32, y = x2 + (1 : Int32) := ⟨_, rfl⟩
      replace h := h v7 ev7
      refine V.iinc (y := v7) (lo' := [some (.ref (w.1 0)), some (.int x1), some (.int v7)]) hC d_R_brokeOf_39 rfl rfl (show v7 = _ + Int32.ofInt (1) from ev7) rfl ?_
      refine V.goto (tgt := 10) hC d_R_brokeOf_42 (by decide) ?_
      exact V.msk [true, true, true] rfl h
    · replace h := h.2 c6
      refine V.iload_n hC d_R_brokeOf_37 rfl rfl ?_
      exact hR _ _ _ _ h rfl d_R_brokeOf_38
set_option maxHeartbeats 4000000 in
set_option maxRecDepth 100000 in
theorem w_R_brokeOf (w : Wd) (σ : Hp) (a1 : Int32) (P : Int32 → Hp → Prop) (h : wp_R_brokeOf σ a1 P) : CtI μR w y_R_brokeOf b_R_brokeOf 3 (some .int) 8 [.ref (w.1 0), .int a1] σ P := by
  unfold wp_R_brokeOf at h
  refine CtI.ofV (C := nC8) (lo := [some (.ref (w.1 0)), some (.int a1), none]) exR (by decide +kernel) rfl rfl rfl (fun κ hC hR => ?_)
  refine V.aload_n hC d_R_brokeOf_0 rfl rfl ?_
  refine V.callVN hC exR (w_R_laysTold w σ  _ h) d_R_brokeOf_1 mo_R_laysTold qm_R_189 rfl rfl rfl rfl rfl rfl rfl (Nat.le_of_ble_eq_true rfl) (fun t9 h => ?_)
  refine V.aload_n hC d_R_brokeOf_4 rfl rfl ?_
  refine V.callVN hC exR (w_R_noPurses w t9  _ h) d_R_brokeOf_5 mo_R_noPurses qm_R_215 rfl rfl rfl rfl rfl rfl rfl (Nat.le_of_ble_eq_true rfl) (fun t11 h => ?_)
  refine V.iconst (v := 0) hC d_R_brokeOf_8 (by decide) ?_
  refine V.istore_n (y := (0 : Int32)) (lo' := [some (.ref (w.1 0)), some (.int a1), some (.int (0 : Int32))]) hC d_R_brokeOf_9 rfl rfl rfl rfl ?_
  exact V.msk [true, true, true] rfl (wj_R_brokeOf_10  hC hR  t11 a1 (0 : Int32) h)
abbrev b_R_broke : ByteArray := prog_10_method_51_code
def y_R_broke : MethodName := ⟨nC8, "broke", "(I)I"⟩
theorem d_R_broke_0 : decode b_R_broke 0 = .ok (.aload_n 0, 1) := by decide +kernel
theorem d_R_broke_1 : decode b_R_broke 1 = .ok (.iload_n 1, 1) := by decide +kernel
theorem d_R_broke_2 : decode b_R_broke 2 = .ok (.invokevirtual 142, 3) := by decide +kernel
theorem d_R_broke_5 : decode b_R_broke 5 = .ok (.ifCond .eq 11, 3) := by decide +kernel
theorem d_R_broke_8 : decode b_R_broke 8 = .ok (.aload_n 0, 1) := by decide +kernel
theorem d_R_broke_9 : decode b_R_broke 9 = .ok (.iload_n 1, 1) := by decide +kernel
theorem d_R_broke_10 : decode b_R_broke 10 = .ok (.invokevirtual 221, 3) := by decide +kernel
theorem d_R_broke_13 : decode b_R_broke 13 = .ok (.goto 5, 3) := by decide +kernel
theorem d_R_broke_16 : decode b_R_broke 16 = .ok (.bipush (-2), 2) := by decide +kernel
theorem d_R_broke_18 : decode b_R_broke 18 = .ok (.ireturn, 1) := by decide +kernel
theorem qm_R_221 : Cond.methodLink nC8 221 y_R_brokeOf ∈ tbl := tbl_in 1154 (by decide +kernel) rfl
def wp_R_broke (σ : Hp) (a1 : Int32) (P : Int32 → Hp → Prop) : Prop :=
  wp_R_isHouse σ a1 (fun (r1 : Int32) (t2 : Hp) => ((r1 = 0 → P (-2 : Int32) t2) ∧ (¬ r1 = 0 → wp_R_brokeOf t2 a1 (fun (r4 : Int32) (t5 : Hp) => P r4 t5))))
set_option maxHeartbeats 4000000 in
set_option maxRecDepth 100000 in
theorem w_R_broke (w : Wd) (σ : Hp) (a1 : Int32) (P : Int32 → Hp → Prop) (h : wp_R_broke σ a1 P) : CtI μR w y_R_broke b_R_broke 2 (some .int) 9 [.ref (w.1 0), .int a1] σ P := by
  unfold wp_R_broke at h
  refine CtI.ofV (C := nC8) (lo := [some (.ref (w.1 0)), some (.int a1)]) exR (by decide +kernel) rfl rfl rfl (fun κ hC hR => ?_)
  refine V.aload_n hC d_R_broke_0 rfl rfl ?_
  refine V.iload_n hC d_R_broke_1 rfl rfl ?_
  refine V.callVI hC exR (w_R_isHouse w σ a1 _ h) d_R_broke_2 mo_R_isHouse qm_R_142 rfl rfl rfl rfl rfl rfl rfl (Nat.le_of_ble_eq_true rfl) (fun r1 t2 h => ?_)
  refine V.if_eq (tgt := 16) hC d_R_broke_5 (by decide) (fun c3 => ?_) (fun c3 => ?_)
  · replace h := h.1 c3
    refine V.bipush (v := -2) hC d_R_broke_16 (by decide) ?_
    exact hR _ _ _ _ h rfl d_R_broke_18
  · replace h := h.2 c3
    refine V.aload_n hC d_R_broke_8 rfl rfl ?_
    refine V.iload_n hC d_R_broke_9 rfl rfl ?_
    refine V.callVI hC exR (w_R_brokeOf w t2 a1 _ h) d_R_broke_10 mo_R_brokeOf qm_R_221 rfl rfl rfl rfl rfl rfl rfl (Nat.le_of_ble_eq_true rfl) (fun r4 t5 h => ?_)
    refine V.goto (tgt := 18) hC d_R_broke_13 (by decide) ?_
    exact hR _ _ _ _ h rfl d_R_broke_18
abbrev b_R_richestOf : ByteArray := prog_10_method_52_code
def y_R_richestOf : MethodName := ⟨nC8, "richestOf", "(I)I"⟩
theorem d_R_richestOf_0 : decode b_R_richestOf 0 = .ok (.aload_n 0, 1) := by decide +kernel
theorem d_R_richestOf_1 : decode b_R_richestOf 1 = .ok (.invokevirtual 189, 3) := by decide +kernel
theorem d_R_richestOf_4 : decode b_R_richestOf 4 = .ok (.aload_n 0, 1) := by decide +kernel
theorem d_R_richestOf_5 : decode b_R_richestOf 5 = .ok (.iload_n 1, 1) := by decide +kernel
theorem d_R_richestOf_6 : decode b_R_richestOf 6 = .ok (.invokevirtual 205, 3) := by decide +kernel
theorem d_R_richestOf_9 : decode b_R_richestOf 9 = .ok (.iconst (-1), 1) := by decide +kernel
theorem d_R_richestOf_10 : decode b_R_richestOf 10 = .ok (.istore_n 2, 1) := by decide +kernel
theorem d_R_richestOf_11 : decode b_R_richestOf 11 = .ok (.iconst 0, 1) := by decide +kernel
theorem d_R_richestOf_12 : decode b_R_richestOf 12 = .ok (.istore_n 3, 1) := by decide +kernel
theorem d_R_richestOf_13 : decode b_R_richestOf 13 = .ok (.iload_n 3, 1) := by decide +kernel
theorem d_R_richestOf_14 : decode b_R_richestOf 14 = .ok (.aload_n 0, 1) := by decide +kernel
theorem d_R_richestOf_15 : decode b_R_richestOf 15 = .ok (.getfield 116, 3) := by decide +kernel
theorem d_R_richestOf_18 : decode b_R_richestOf 18 = .ok (.if_icmp .ge 35, 3) := by decide +kernel
theorem d_R_richestOf_21 : decode b_R_richestOf 21 = .ok (.iload_n 2, 1) := by decide +kernel
theorem d_R_richestOf_22 : decode b_R_richestOf 22 = .ok (.iconst (-1), 1) := by decide +kernel
theorem d_R_richestOf_23 : decode b_R_richestOf 23 = .ok (.if_icmp .eq 18, 3) := by decide +kernel
theorem d_R_richestOf_26 : decode b_R_richestOf 26 = .ok (.aload_n 0, 1) := by decide +kernel
theorem d_R_richestOf_27 : decode b_R_richestOf 27 = .ok (.getfield 59, 3) := by decide +kernel
theorem d_R_richestOf_30 : decode b_R_richestOf 30 = .ok (.iload_n 3, 1) := by decide +kernel
theorem d_R_richestOf_31 : decode b_R_richestOf 31 = .ok (.iaload, 1) := by decide +kernel
theorem d_R_richestOf_32 : decode b_R_richestOf 32 = .ok (.aload_n 0, 1) := by decide +kernel
theorem d_R_richestOf_33 : decode b_R_richestOf 33 = .ok (.getfield 59, 3) := by decide +kernel
theorem d_R_richestOf_36 : decode b_R_richestOf 36 = .ok (.iload_n 2, 1) := by decide +kernel
theorem d_R_richestOf_37 : decode b_R_richestOf 37 = .ok (.iaload, 1) := by decide +kernel
theorem d_R_richestOf_38 : decode b_R_richestOf 38 = .ok (.if_icmp .le 7, 3) := by decide +kernel
theorem d_R_richestOf_41 : decode b_R_richestOf 41 = .ok (.iload_n 3, 1) := by decide +kernel
theorem d_R_richestOf_42 : decode b_R_richestOf 42 = .ok (.goto 4, 3) := by decide +kernel
theorem d_R_richestOf_45 : decode b_R_richestOf 45 = .ok (.iload_n 2, 1) := by decide +kernel
theorem d_R_richestOf_46 : decode b_R_richestOf 46 = .ok (.istore_n 2, 1) := by decide +kernel
theorem d_R_richestOf_47 : decode b_R_richestOf 47 = .ok (.iinc 3 1, 3) := by decide +kernel
theorem d_R_richestOf_50 : decode b_R_richestOf 50 = .ok (.goto (-37), 3) := by decide +kernel
theorem d_R_richestOf_53 : decode b_R_richestOf 53 = .ok (.iload_n 2, 1) := by decide +kernel
theorem d_R_richestOf_54 : decode b_R_richestOf 54 = .ok (.ireturn, 1) := by decide +kernel
theorem mo_R_richestOf : MokV y_R_richestOf b_R_richestOf 4 (some .int) 1 := ⟨⟨(tbl_in 1173 (by decide +kernel) rfl), (tbl_in 70 (by decide +kernel) rfl)⟩, ⟨(tbl_in 1172 (by decide +kernel) rfl), tbl_lw _ (tbl_in 40 (by decide +kernel) rfl), (tbl_in 40 (by decide +kernel) rfl)⟩, ⟨by decide +kernel, by decide +kernel⟩, by decide +kernel⟩
def b_R_richestOf_13_ (P : Int32 → Hp → Prop)  (I13 : Hp → Int32 → Int32 → Prop) (σ : Hp) (x2 : Int32) (x3 : Int32) : Prop :=
  (((σ 0 2) ≤ x3 → P x2 σ) ∧ (¬ (σ 0 2) ≤ x3 → ((x2 = (-1 : Int32) → (∀ v3 : Int32, v3 = x3 + (1 : Int32) → I13 σ x3 v3)) ∧ (¬ x2 = (-1 : Int32) → (vp_in x3 8) ∧ (vp_in x2 8) ∧ (((σ 17 (ix x3)) ≤ (σ 17 (ix x2)) → (∀ v7 : Int32, v7 = x3 + (1 : Int32) → I13 σ x2 v7)) ∧ (¬ (σ 17 (ix x3)) ≤ (σ 17 (ix x2)) → (∀ v8 : Int32, v8 = x3 + (1 : Int32) → I13 σ x3 v8)))))))
def j_R_richestOf_13 (P : Int32 → Hp → Prop)  (σ : Hp) (x2 : Int32) (x3 : Int32) : Prop := ∀ I13 : Hp → Int32 → Int32 → Prop, (∀ (σ : Hp) (x2 : Int32) (x3 : Int32), b_R_richestOf_13_  P  I13 σ x2 x3 → I13 σ x2 x3) → I13 σ x2 x3
def wp_R_richestOf (σ : Hp) (a1 : Int32) (P : Int32 → Hp → Prop) : Prop :=
  wp_R_laysTold σ (fun (t10 : Hp) => wp_R_purses t10 a1 (fun (t12 : Hp) => j_R_richestOf_13 P t12 (-1 : Int32) (0 : Int32)))
set_option maxHeartbeats 4000000 in
set_option maxRecDepth 100000 in
theorem wj_R_richestOf_13 {w : Wd} {κ : Kx} {P : Int32 → Hp → Prop} (hC : Cx μR w 4 κ nC8 b_R_richestOf 8) (hR : RtI μR w 4 κ b_R_richestOf .int P)  : ∀ (σ : Hp) (x2 : Int32) (x3 : Int32), j_R_richestOf_13  P  σ x2 x3 → V μR w 4 κ σ [some (.ref (w.1 0)), none, some (.int x2), some (.int x3)] 13 [] := by
  intro σ x2 x3 h
  refine h (fun σ x2 x3 => V μR w 4 κ σ [some (.ref (w.1 0)), none, some (.int x2), some (.int x3)] 13 []) (fun σ x2 x3 h => ?_)
  unfold b_R_richestOf_13_ at h
  refine V.iload_n hC d_R_richestOf_13 rfl rfl ?_
  refine V.aload_n hC d_R_richestOf_14 rfl rfl ?_
  refine V.getI (j := 2) hC d_R_richestOf_15 rfl rfl uC8 rfl rfl qf_R_116 ?_
  refine V.icmp_ge (tgt := 53) hC d_R_richestOf_18 (by decide) (fun c1 => ?_) (fun c1 => ?_)
  · replace h := h.1 c1
    refine V.iload_n hC d_R_richestOf_53 rfl rfl ?_
    exact hR _ _ _ _ h rfl d_R_richestOf_54
  · replace h := h.2 c1
    refine V.iload_n hC d_R_richestOf_21 rfl rfl ?_
    refine V.iconst (v := -1) hC d_R_richestOf_22 (by decide) ?_
    refine V.icmp_eq (tgt := 41) hC d_R_richestOf_23 (by decide) (fun c2 => ?_) (fun c2 => ?_)
    · replace h := h.1 c2
      refine V.iload_n hC d_R_richestOf_41 rfl rfl ?_
      refine V.goto (tgt := 46) hC d_R_richestOf_42 (by decide) ?_
      refine V.istore_n (y := x3) (lo' := [some (.ref (w.1 0)), none, some (.int x3), some (.int x3)]) hC d_R_richestOf_46 rfl rfl rfl rfl ?_
      obtain ⟨v3, ev3⟩ : ∃ y : Int32, y = x3 + (1 : Int32) := ⟨_, rfl⟩
      replace h := h v3 ev3
      refine V.iinc (y := v3) (lo' := [some (.ref (w.1 0)), none, some (.int x3), some (.int v3)]) hC d_R_richestOf_47 rfl rfl (show v3 = _ + Int32.ofInt (1) from ev3) rfl ?_
      refine V.goto (tgt := 13) hC d_R_richestOf_50 (by decide) ?_
      exact V.msk [true, false, true, true] rfl h
    · replace h := h.2 c2
      refine V.aload_n hC d_R_richestOf_26 rfl rfl ?_
      refine V.getR (j := 21) hC d_R_richestOf_27 rfl rfl uC8 rfl rfl qf_R_59 ?_
      refine V.iload_n hC d_R_richestOf_30 rfl rfl ?_
      obtain ⟨b4, h⟩ := h
      refine V.iald hC d_R_richestOf_31 rfl b4 ?_
      refine V.aload_n hC d_R_richestOf_32 rfl rfl ?_
      refine V.getR (j := 21) hC d_R_richestOf_33 rfl rfl uC8 rfl rfl qf_R_59 ?_
      refine V.iload_n hC d_R_richestOf_36 rfl rfl ?_
      obtain ⟨b5, h⟩ := h
      refine V.iald hC d_R_richestOf_37 rfl b5 ?_
      refine V.icmp_le (tgt := 45) hC d_R_richestOf_38 (by decide) (fun c6 => ?_) (fun c6 => ?_)
      · replace h := h.1 c6
        refine V.iload_n hC d_R_richestOf_45 rfl rfl ?_
        refine V.istore_n (y := x2) (lo' := [some (.ref (w.1 0)), none, some (.int x2), some (.int x3)]) hC d_R_richestOf_46 rfl rfl rfl rfl ?_
        obtain ⟨v7, ev7⟩ : ∃ y : Int32, y = x3 + (1 : Int32) := ⟨_, rfl⟩
        replace h := h v7 ev7
        refine V.iinc (y := v7) (lo' := [some (.ref (w.1 0)), none, some (.int x2), some (.int v7)]) hC d_R_richestOf_47 rfl rfl (show v7 = _ + Int32.ofInt (1) from ev7) rfl ?_
        refine V.goto (tgt := 13) hC d_R_richestOf_50 (by decide) ?_
        exact V.msk [true, false, true, true] rfl h
      · replace h := h.2 c6
        refine V.iload_n hC d_R_richestOf_41 rfl rfl ?_
        refine V.goto (tgt := 46) hC d_R_richestOf_42 (by decide) ?_
        refine V.istore_n (y := x3) (lo' := [some (.ref (w.1 0)), none, some (.int x3), some (.int x3)]) hC d_R_richestOf_46 rfl rfl rfl rfl ?_
        obtain ⟨v8, ev8⟩ : ∃ y : Int32, y = x3 + (1 : Int32) := ⟨_, rfl⟩
        replace h := h v8 ev8
        refine V.iinc (y := v8) (lo' := [some (.ref (w.1 0)), none, some (.int x3), some (.int v8)]) hC d_R_richestOf_47 rfl rfl (show v8 = _ + Int32.ofInt (1) from ev8) rfl ?_
        refine V.goto (tgt := 13) hC d_R_richestOf_50 (by decide) ?_
        exact V.msk [true, false, true, true] rfl h
set_option maxHeartbeats 4000000 in
set_option maxRecDepth 100000 in
theorem w_R_richestOf (w : Wd) (σ : Hp) (a1 : Int32) (P : Int32 → Hp → Prop) (h : wp_R_richestOf σ a1 P) : CtI μR w y_R_richestOf b_R_richestOf 4 (some .int) 8 [.ref (w.1 0), .int a1] σ P := by
  unfold wp_R_richestOf at h
  refine CtI.ofV (C := nC8) (lo := [some (.ref (w.1 0)), some (.int a1), none, none]) exR (by decide +kernel) rfl rfl rfl (fun κ hC hR => ?_)
  refine V.aload_n hC d_R_richestOf_0 rfl rfl ?_
  refine V.callVN hC exR (w_R_laysTold w σ  _ h) d_R_richestOf_1 mo_R_laysTold qm_R_189 rfl rfl rfl rfl rfl rfl rfl (Nat.le_of_ble_eq_true rfl) (fun t10 h => ?_)
  refine V.aload_n hC d_R_richestOf_4 rfl rfl ?_
  refine V.iload_n hC d_R_richestOf_5 rfl rfl ?_
  refine V.callVN hC exR (w_R_purses w t10 a1 _ h) d_R_richestOf_6 mo_R_purses qm_R_205 rfl rfl rfl rfl rfl rfl rfl (Nat.le_of_ble_eq_true rfl) (fun t12 h => ?_)
  refine V.iconst (v := -1) hC d_R_richestOf_9 (by decide) ?_
  refine V.istore_n (y := (-1 : Int32)) (lo' := [some (.ref (w.1 0)), some (.int a1), some (.int (-1 : Int32)), none]) hC d_R_richestOf_10 rfl rfl rfl rfl ?_
  refine V.iconst (v := 0) hC d_R_richestOf_11 (by decide) ?_
  refine V.istore_n (y := (0 : Int32)) (lo' := [some (.ref (w.1 0)), some (.int a1), some (.int (-1 : Int32)), some (.int (0 : Int32))]) hC d_R_richestOf_12 rfl rfl rfl rfl ?_
  exact V.msk [true, false, true, true] rfl (wj_R_richestOf_13  hC hR  t12 (-1 : Int32) (0 : Int32) h)
