abbrev b_P_drop : ByteArray := prog_1_method_23_code
def y_P_drop : MethodName := ⟨nC7, "drop", "(II)I"⟩
theorem d_P_drop_0 : decode b_P_drop 0 = .ok (.iload_n 1, 1) := by decide +kernel
theorem d_P_drop_1 : decode b_P_drop 1 = .ok (.invokestatic 126, 3) := by decide +kernel
theorem d_P_drop_4 : decode b_P_drop 4 = .ok (.ifCond .eq 13, 3) := by decide +kernel
theorem d_P_drop_7 : decode b_P_drop 7 = .ok (.iload_n 2, 1) := by decide +kernel
theorem d_P_drop_8 : decode b_P_drop 8 = .ok (.iconst (-1), 1) := by decide +kernel
theorem d_P_drop_9 : decode b_P_drop 9 = .ok (.if_icmp .lt 8, 3) := by decide +kernel
theorem d_P_drop_12 : decode b_P_drop 12 = .ok (.iload_n 2, 1) := by decide +kernel
theorem d_P_drop_13 : decode b_P_drop 13 = .ok (.iconst 1, 1) := by decide +kernel
theorem d_P_drop_14 : decode b_P_drop 14 = .ok (.if_icmp .le 6, 3) := by decide +kernel
theorem d_P_drop_17 : decode b_P_drop 17 = .ok (.bipush (-2), 2) := by decide +kernel
theorem d_P_drop_19 : decode b_P_drop 19 = .ok (.ireturn, 1) := by decide +kernel
theorem d_P_drop_20 : decode b_P_drop 20 = .ok (.aload_n 0, 1) := by decide +kernel
theorem d_P_drop_21 : decode b_P_drop 21 = .ok (.iload_n 1, 1) := by decide +kernel
theorem d_P_drop_22 : decode b_P_drop 22 = .ok (.invokevirtual 213, 3) := by decide +kernel
theorem d_P_drop_25 : decode b_P_drop 25 = .ok (.istore_n 3, 1) := by decide +kernel
theorem d_P_drop_26 : decode b_P_drop 26 = .ok (.iload_n 3, 1) := by decide +kernel
theorem d_P_drop_27 : decode b_P_drop 27 = .ok (.iconst (-1), 1) := by decide +kernel
theorem d_P_drop_28 : decode b_P_drop 28 = .ok (.if_icmp .ne 5, 3) := by decide +kernel
theorem d_P_drop_31 : decode b_P_drop 31 = .ok (.iconst (-1), 1) := by decide +kernel
theorem d_P_drop_32 : decode b_P_drop 32 = .ok (.ireturn, 1) := by decide +kernel
theorem d_P_drop_33 : decode b_P_drop 33 = .ok (.iload_n 3, 1) := by decide +kernel
theorem d_P_drop_34 : decode b_P_drop 34 = .ok (.invokestatic 216, 3) := by decide +kernel
theorem d_P_drop_37 : decode b_P_drop 37 = .ok (.istore 4, 2) := by decide +kernel
theorem d_P_drop_39 : decode b_P_drop 39 = .ok (.iload_n 2, 1) := by decide +kernel
theorem d_P_drop_40 : decode b_P_drop 40 = .ok (.iconst (-1), 1) := by decide +kernel
theorem d_P_drop_41 : decode b_P_drop 41 = .ok (.if_icmp .ne 6, 3) := by decide +kernel
theorem d_P_drop_44 : decode b_P_drop 44 = .ok (.iload 4, 2) := by decide +kernel
theorem d_P_drop_46 : decode b_P_drop 46 = .ok (.ireturn, 1) := by decide +kernel
theorem d_P_drop_47 : decode b_P_drop 47 = .ok (.iload_n 2, 1) := by decide +kernel
theorem d_P_drop_48 : decode b_P_drop 48 = .ok (.iload 4, 2) := by decide +kernel
theorem d_P_drop_50 : decode b_P_drop 50 = .ok (.if_icmp .lt 5, 3) := by decide +kernel
theorem d_P_drop_53 : decode b_P_drop 53 = .ok (.iconst (-1), 1) := by decide +kernel
theorem d_P_drop_54 : decode b_P_drop 54 = .ok (.ireturn, 1) := by decide +kernel
theorem d_P_drop_55 : decode b_P_drop 55 = .ok (.iload_n 2, 1) := by decide +kernel
theorem d_P_drop_56 : decode b_P_drop 56 = .ok (.ifCond .ne 7, 3) := by decide +kernel
theorem d_P_drop_59 : decode b_P_drop 59 = .ok (.iload_n 3, 1) := by decide +kernel
theorem d_P_drop_60 : decode b_P_drop 60 = .ok (.goto 8, 3) := by decide +kernel
theorem d_P_drop_63 : decode b_P_drop 63 = .ok (.iload_n 3, 1) := by decide +kernel
theorem d_P_drop_64 : decode b_P_drop 64 = .ok (.iload_n 3, 1) := by decide +kernel
theorem d_P_drop_65 : decode b_P_drop 65 = .ok (.iconst 1, 1) := by decide +kernel
theorem d_P_drop_66 : decode b_P_drop 66 = .ok (.isub, 1) := by decide +kernel
theorem d_P_drop_67 : decode b_P_drop 67 = .ok (.iand, 1) := by decide +kernel
theorem d_P_drop_68 : decode b_P_drop 68 = .ok (.invokestatic 221, 3) := by decide +kernel
theorem d_P_drop_71 : decode b_P_drop 71 = .ok (.ireturn, 1) := by decide +kernel
theorem qm_P_213 : Cond.methodLink nC7 213 y_P_fewestDropped ∈ tbl := tbl_in 680 (by decide +kernel) rfl
theorem qm_P_216 : Cond.methodLink nC7 216 y_JI_bitCount ∈ tbl := tbl_in 694 (by decide +kernel) rfl
theorem qm_P_221 : Cond.methodLink nC7 221 y_JI_numberOfTrailingZeros ∈ tbl := tbl_in 695 (by decide +kernel) rfl
theorem mo_P_drop : MokV y_P_drop b_P_drop 5 (some .int) 2 := ⟨⟨(tbl_in 679 (by decide +kernel) rfl), (tbl_in 62 (by decide +kernel) rfl)⟩, ⟨(tbl_in 677 (by decide +kernel) rfl), tbl_lw _ (tbl_in 678 (by decide +kernel) rfl), (tbl_in 678 (by decide +kernel) rfl)⟩, ⟨by decide +kernel, by decide +kernel⟩, by decide +kernel⟩
def j_P_drop_68 (P : Int32 → Hp → Prop)  (σ : Hp) (s0 : Int32) : Prop :=
  wp_JI_numberOfTrailingZeros σ s0 (fun (r1 : Int32) (t2 : Hp) => P r1 t2)
def wp_P_drop (σ : Hp) (a1 : Int32) (a2 : Int32) (P : Int32 → Hp → Prop) : Prop :=
  wp_P_isDay σ a1 (fun (r3 : Int32) (t4 : Hp) => ((r3 = 0 → P (-2 : Int32) t4) ∧ (¬ r3 = 0 → ((a2 < (-1 : Int32) → P (-2 : Int32) t4) ∧ (¬ a2 < (-1 : Int32) → ((a2 ≤ (1 : Int32) → wp_P_fewestDropped t4 a1 (fun (r8 : Int32) (t9 : Hp) => ((¬ r8 = (-1 : Int32) → wp_JI_bitCount t9 r8 (fun (r11 : Int32) (t12 : Hp) => ((¬ a2 = (-1 : Int32) → ((a2 < r11 → ((¬ a2 = 0 → j_P_drop_68 P t12 (r8 &&& (r8 - (1 : Int32)))) ∧ (a2 = 0 → j_P_drop_68 P t12 r8))) ∧ (¬ a2 < r11 → P (-1 : Int32) t12))) ∧ (a2 = (-1 : Int32) → P r11 t12)))) ∧ (r8 = (-1 : Int32) → P (-1 : Int32) t9)))) ∧ (¬ a2 ≤ (1 : Int32) → P (-2 : Int32) t4)))))))
set_option maxHeartbeats 4000000 in
set_option maxRecDepth 100000 in
theorem wj_P_drop_68 {w : Wd} {κ : Kx} {P : Int32 → Hp → Prop} (hC : Cx μC w 5 κ nC7 b_P_drop 4) (hR : RtI μC w 5 κ b_P_drop .int P)  : ∀ (σ : Hp) (s0 : Int32), j_P_drop_68  P  σ s0 → V μC w 5 κ σ [none, none, none, none, none] 68 [.int s0] := by
  intro σ s0 h
  unfold j_P_drop_68 at h
  refine V.callSI hC exC (w_JI_numberOfTrailingZeros w σ s0 _ h) d_P_drop_68 mo_JI_numberOfTrailingZeros qm_P_221 rfl rfl rfl rfl (Nat.le_of_ble_eq_true rfl) (fun r1 t2 h => ?_)
  exact hR _ _ _ _ h rfl d_P_drop_71
set_option maxHeartbeats 4000000 in
set_option maxRecDepth 100000 in
theorem w_P_drop (w : Wd) (σ : Hp) (a1 : Int32) (a2 : Int32) (P : Int32 → Hp → Prop) (h : wp_P_drop σ a1 a2 P) : CtI μC w y_P_drop b_P_drop 5 (some .int) 4 [.ref (w.1 0), .int a1, .int a2] σ P := by
  unfold wp_P_drop at h
  refine CtI.ofV (C := nC7) (lo := [some (.ref (w.1 0)), some (.int a1), some (.int a2), none, none]) exC (by decide +kernel) rfl rfl rfl (fun κ hC hR => ?_)
  refine V.iload_n hC d_P_drop_0 rfl rfl ?_
  refine V.callSI hC exC (w_P_isDay w σ a1 _ h) d_P_drop_1 mo_P_isDay qm_P_126 rfl rfl rfl rfl (Nat.le_of_ble_eq_true rfl) (fun r3 t4 h => ?_)
  refine V.if_eq (tgt := 17) hC d_P_drop_4 (by decide) (fun c5 => ?_) (fun c5 => ?_)
  · replace h := h.1 c5
    refine V.bipush (v := -2) hC d_P_drop_17 (by decide) ?_
    exact hR _ _ _ _ h rfl d_P_drop_19
  · replace h := h.2 c5
    refine V.iload_n hC d_P_drop_7 rfl rfl ?_
    refine V.iconst (v := -1) hC d_P_drop_8 (by decide) ?_
    refine V.icmp_lt (tgt := 17) hC d_P_drop_9 (by decide) (fun c6 => ?_) (fun c6 => ?_)
    · replace h := h.1 c6
      refine V.bipush (v := -2) hC d_P_drop_17 (by decide) ?_
      exact hR _ _ _ _ h rfl d_P_drop_19
    · replace h := h.2 c6
      refine V.iload_n hC d_P_drop_12 rfl rfl ?_
      refine V.iconst (v := 1) hC d_P_drop_13 (by decide) ?_
      refine V.icmp_le (tgt := 20) hC d_P_drop_14 (by decide) (fun c7 => ?_) (fun c7 => ?_)
      · replace h := h.1 c7
        refine V.aload_n hC d_P_drop_20 rfl rfl ?_
        refine V.iload_n hC d_P_drop_21 rfl rfl ?_
        refine V.callVI hC exC (w_P_fewestDropped w t4 a1 _ h) d_P_drop_22 mo_P_fewestDropped qm_P_213 rfl rfl rfl rfl rfl rfl rfl (Nat.le_of_ble_eq_true rfl) (fun r8 t9 h => ?_)
        refine V.istore_n (y := r8) (lo' := [some (.ref (w.1 0)), some (.int a1), some (.int a2), some (.int r8), none]) hC d_P_drop_25 rfl rfl rfl rfl ?_
        refine V.iload_n hC d_P_drop_26 rfl rfl ?_
        refine V.iconst (v := -1) hC d_P_drop_27 (by decide) ?_
        refine V.icmp_ne (tgt := 33) hC d_P_drop_28 (by decide) (fun c10 => ?_) (fun c10 => ?_)
        · replace h := h.1 c10
          refine V.iload_n hC d_P_drop_33 rfl rfl ?_
          refine V.callSI hC exC (w_JI_bitCount w t9 r8 _ h) d_P_drop_34 mo_JI_bitCount qm_P_216 rfl rfl rfl rfl (Nat.le_of_ble_eq_true rfl) (fun r11 t12 h => ?_)
          refine V.istore (y := r11) (lo' := [some (.ref (w.1 0)), some (.int a1), some (.int a2), some (.int r8), some (.int r11)]) hC d_P_drop_37 rfl rfl rfl ?_
          refine V.iload_n hC d_P_drop_39 rfl rfl ?_
          refine V.iconst (v := -1) hC d_P_drop_40 (by decide) ?_
          refine V.icmp_ne (tgt := 47) hC d_P_drop_41 (by decide) (fun c13 => ?_) (fun c13 => ?_)
          · replace h := h.1 c13
            refine V.iload_n hC d_P_drop_47 rfl rfl ?_
            refine V.iload hC d_P_drop_48 rfl ?_
            refine V.icmp_lt (tgt := 55) hC d_P_drop_50 (by decide) (fun c14 => ?_) (fun c14 => ?_)
            · replace h := h.1 c14
              refine V.iload_n hC d_P_drop_55 rfl rfl ?_
              refine V.if_ne (tgt := 63) hC d_P_drop_56 (by decide) (fun c15 => ?_) (fun c15 => ?_)
              · replace h := h.1 c15
                refine V.iload_n hC d_P_drop_63 rfl rfl ?_
                refine V.iload_n hC d_P_drop_64 rfl rfl ?_
                refine V.iconst (v := 1) hC d_P_drop_65 (by decide) ?_
                refine V.isub hC d_P_drop_66 ?_
                refine V.iand hC d_P_drop_67 ?_
                exact V.msk [false, false, false, false, false] rfl (wj_P_drop_68  hC hR  t12 (r8 &&& (r8 - (1 : Int32))) h)
              · replace h := h.2 c15
                refine V.iload_n hC d_P_drop_59 rfl rfl ?_
                refine V.goto (tgt := 68) hC d_P_drop_60 (by decide) ?_
                exact V.msk [false, false, false, false, false] rfl (wj_P_drop_68  hC hR  t12 r8 h)
            · replace h := h.2 c14
              refine V.iconst (v := -1) hC d_P_drop_53 (by decide) ?_
              exact hR _ _ _ _ h rfl d_P_drop_54
          · replace h := h.2 c13
            refine V.iload hC d_P_drop_44 rfl ?_
            exact hR _ _ _ _ h rfl d_P_drop_46
        · replace h := h.2 c10
          refine V.iconst (v := -1) hC d_P_drop_31 (by decide) ?_
          exact hR _ _ _ _ h rfl d_P_drop_32
      · replace h := h.2 c7
        refine V.bipush (v := -2) hC d_P_drop_17 (by decide) ?_
        exact hR _ _ _ _ h rfl d_P_drop_19
abbrev b_M_add : ByteArray := prog_5_method_2_code
def y_M_add : MethodName := ⟨nC3, "add", "(III)V"⟩
theorem d_M_add_0 : decode b_M_add 0 = .ok (.aload_n 0, 1) := by decide +kernel
theorem d_M_add_1 : decode b_M_add 1 = .ok (.getfield 9, 3) := by decide +kernel
theorem d_M_add_4 : decode b_M_add 4 = .ok (.aload_n 0, 1) := by decide +kernel
theorem d_M_add_5 : decode b_M_add 5 = .ok (.getfield 21, 3) := by decide +kernel
theorem d_M_add_8 : decode b_M_add 8 = .ok (.iload_n 1, 1) := by decide +kernel
theorem d_M_add_9 : decode b_M_add 9 = .ok (.iastore, 1) := by decide +kernel
theorem d_M_add_10 : decode b_M_add 10 = .ok (.aload_n 0, 1) := by decide +kernel
theorem d_M_add_11 : decode b_M_add 11 = .ok (.getfield 15, 3) := by decide +kernel
theorem d_M_add_14 : decode b_M_add 14 = .ok (.aload_n 0, 1) := by decide +kernel
theorem d_M_add_15 : decode b_M_add 15 = .ok (.getfield 21, 3) := by decide +kernel
theorem d_M_add_18 : decode b_M_add 18 = .ok (.iload_n 2, 1) := by decide +kernel
theorem d_M_add_19 : decode b_M_add 19 = .ok (.iastore, 1) := by decide +kernel
theorem d_M_add_20 : decode b_M_add 20 = .ok (.aload_n 0, 1) := by decide +kernel
theorem d_M_add_21 : decode b_M_add 21 = .ok (.getfield 18, 3) := by decide +kernel
theorem d_M_add_24 : decode b_M_add 24 = .ok (.aload_n 0, 1) := by decide +kernel
theorem d_M_add_25 : decode b_M_add 25 = .ok (.getfield 21, 3) := by decide +kernel
theorem d_M_add_28 : decode b_M_add 28 = .ok (.iload_n 3, 1) := by decide +kernel
theorem d_M_add_29 : decode b_M_add 29 = .ok (.iastore, 1) := by decide +kernel
theorem d_M_add_30 : decode b_M_add 30 = .ok (.aload_n 0, 1) := by decide +kernel
theorem d_M_add_31 : decode b_M_add 31 = .ok (.dup, 1) := by decide +kernel
theorem d_M_add_32 : decode b_M_add 32 = .ok (.getfield 21, 3) := by decide +kernel
theorem d_M_add_35 : decode b_M_add 35 = .ok (.iconst 1, 1) := by decide +kernel
theorem d_M_add_36 : decode b_M_add 36 = .ok (.iadd, 1) := by decide +kernel
theorem d_M_add_37 : decode b_M_add 37 = .ok (.putfield 21, 3) := by decide +kernel
theorem d_M_add_40 : decode b_M_add 40 = .ok (.return_, 1) := by decide +kernel
theorem qf_M_15 : Cond.fieldLink nC3 15 (fC3 1).1 (fC3 1).2.1 (fC3 1).2.2.1 ∈ tbl := tbl_in 236 (by decide +kernel) rfl
theorem qf_M_18 : Cond.fieldLink nC3 18 (fC3 2).1 (fC3 2).2.1 (fC3 2).2.2.1 ∈ tbl := tbl_in 237 (by decide +kernel) rfl
theorem qf_M_21 : Cond.fieldLink nC3 21 (fC3 3).1 (fC3 3).2.1 (fC3 3).2.2.1 ∈ tbl := tbl_in 238 (by decide +kernel) rfl
theorem qf_M_9 : Cond.fieldLink nC3 9 (fC3 0).1 (fC3 0).2.1 (fC3 0).2.2.1 ∈ tbl := tbl_in 235 (by decide +kernel) rfl
theorem mo_M_add : MokV y_M_add b_M_add 4 none 3 := ⟨⟨(tbl_in 706 (by decide +kernel) rfl), (tbl_in 67 (by decide +kernel) rfl)⟩, ⟨(tbl_in 704 (by decide +kernel) rfl), tbl_lw _ (tbl_in 705 (by decide +kernel) rfl), (tbl_in 705 (by decide +kernel) rfl)⟩, ⟨by decide +kernel, by decide +kernel⟩, by decide +kernel⟩
def wp_M_add (σ : Hp) (a1 : Int32) (a2 : Int32) (a3 : Int32) (P : Hp → Prop) : Prop :=
  (vp_in (σ 6 3) 8) ∧ (vp_in ((st σ 33 (ix (σ 6 3)) a1) 6 3) 8) ∧ (vp_in ((st (st σ 33 (ix (σ 6 3)) a1) 34 (ix ((st σ 33 (ix (σ 6 3)) a1) 6 3)) a2) 6 3) 8) ∧ P (st (st (st (st σ 33 (ix (σ 6 3)) a1) 34 (ix ((st σ 33 (ix (σ 6 3)) a1) 6 3)) a2) 35 (ix ((st (st σ 33 (ix (σ 6 3)) a1) 34 (ix ((st σ 33 (ix (σ 6 3)) a1) 6 3)) a2) 6 3)) a3) 6 3 (((st (st (st σ 33 (ix (σ 6 3)) a1) 34 (ix ((st σ 33 (ix (σ 6 3)) a1) 6 3)) a2) 35 (ix ((st (st σ 33 (ix (σ 6 3)) a1) 34 (ix ((st σ 33 (ix (σ 6 3)) a1) 6 3)) a2) 6 3)) a3) 6 3) + (1 : Int32)))
set_option maxHeartbeats 4000000 in
set_option maxRecDepth 100000 in
theorem w_M_add (w : Wd) (σ : Hp) (a1 : Int32) (a2 : Int32) (a3 : Int32) (P : Hp → Prop) (h : wp_M_add σ a1 a2 a3 P) : CtN μC w y_M_add b_M_add 4 none 0 [.ref (w.1 6), .int a1, .int a2, .int a3] σ P := by
  unfold wp_M_add at h
  refine CtN.ofV (C := nC3) (lo := [some (.ref (w.1 6)), some (.int a1), some (.int a2), some (.int a3)]) exC (by decide +kernel) rfl rfl rfl (fun κ hC hR => ?_)
  refine V.aload_n hC d_M_add_0 rfl rfl ?_
  refine V.getR (j := 0) hC d_M_add_1 rfl rfl uC3 rfl rfl qf_M_9 ?_
  refine V.aload_n hC d_M_add_4 rfl rfl ?_
  refine V.getI (j := 3) hC d_M_add_5 rfl rfl uC3 rfl rfl qf_M_21 ?_
  refine V.iload_n hC d_M_add_8 rfl rfl ?_
  obtain ⟨b1, h⟩ := h
  refine V.iast hC d_M_add_9 rfl b1 ?_
  refine V.aload_n hC d_M_add_10 rfl rfl ?_
  refine V.getR (j := 1) hC d_M_add_11 rfl rfl uC3 rfl rfl qf_M_15 ?_
  refine V.aload_n hC d_M_add_14 rfl rfl ?_
  refine V.getI (j := 3) hC d_M_add_15 rfl rfl uC3 rfl rfl qf_M_21 ?_
  refine V.iload_n hC d_M_add_18 rfl rfl ?_
  obtain ⟨b2, h⟩ := h
  refine V.iast hC d_M_add_19 rfl b2 ?_
  refine V.aload_n hC d_M_add_20 rfl rfl ?_
  refine V.getR (j := 2) hC d_M_add_21 rfl rfl uC3 rfl rfl qf_M_18 ?_
  refine V.aload_n hC d_M_add_24 rfl rfl ?_
  refine V.getI (j := 3) hC d_M_add_25 rfl rfl uC3 rfl rfl qf_M_21 ?_
  refine V.iload_n hC d_M_add_28 rfl rfl ?_
  obtain ⟨b3, h⟩ := h
  refine V.iast hC d_M_add_29 rfl b3 ?_
  refine V.aload_n hC d_M_add_30 rfl rfl ?_
  refine V.dup hC d_M_add_31 rfl ?_
  refine V.getI (j := 3) hC d_M_add_32 rfl rfl uC3 rfl rfl qf_M_21 ?_
  refine V.iconst (v := 1) hC d_M_add_35 (by decide) ?_
  refine V.iadd hC d_M_add_36 ?_
  refine V.put (j := 3) hC d_M_add_37 rfl rfl uC3 pC3 dC3 rfl rfl rfl rfl rfl qf_M_21 ?_
  exact hR _ _ _ h d_M_add_40
abbrev b_P_seen : ByteArray := prog_1_method_25_code
def y_P_seen : MethodName := ⟨nC7, "seen", "(III)I"⟩
theorem d_P_seen_0 : decode b_P_seen 0 = .ok (.iload_n 1, 1) := by decide +kernel
theorem d_P_seen_1 : decode b_P_seen 1 = .ok (.invokestatic 126, 3) := by decide +kernel
theorem d_P_seen_4 : decode b_P_seen 4 = .ok (.ifCond .eq 24, 3) := by decide +kernel
theorem d_P_seen_7 : decode b_P_seen 7 = .ok (.iload_n 2, 1) := by decide +kernel
theorem d_P_seen_8 : decode b_P_seen 8 = .ok (.invokestatic 129, 3) := by decide +kernel
theorem d_P_seen_11 : decode b_P_seen 11 = .ok (.ifCond .eq 17, 3) := by decide +kernel
theorem d_P_seen_14 : decode b_P_seen 14 = .ok (.iload_n 3, 1) := by decide +kernel
theorem d_P_seen_15 : decode b_P_seen 15 = .ok (.sipush (-999), 3) := by decide +kernel
theorem d_P_seen_18 : decode b_P_seen 18 = .ok (.if_icmp .lt 10, 3) := by decide +kernel
theorem d_P_seen_21 : decode b_P_seen 21 = .ok (.iload_n 3, 1) := by decide +kernel
theorem d_P_seen_22 : decode b_P_seen 22 = .ok (.sipush 999, 3) := by decide +kernel
theorem d_P_seen_25 : decode b_P_seen 25 = .ok (.if_icmp .le 6, 3) := by decide +kernel
theorem d_P_seen_28 : decode b_P_seen 28 = .ok (.bipush (-2), 2) := by decide +kernel
theorem d_P_seen_30 : decode b_P_seen 30 = .ok (.ireturn, 1) := by decide +kernel
theorem d_P_seen_31 : decode b_P_seen 31 = .ok (.aload_n 0, 1) := by decide +kernel
theorem d_P_seen_32 : decode b_P_seen 32 = .ok (.getfield 45, 3) := by decide +kernel
theorem d_P_seen_35 : decode b_P_seen 35 = .ok (.getfield 230, 3) := by decide +kernel
theorem d_P_seen_38 : decode b_P_seen 38 = .ok (.bipush 8, 2) := by decide +kernel
theorem d_P_seen_40 : decode b_P_seen 40 = .ok (.if_icmp .lt 6, 3) := by decide +kernel
theorem d_P_seen_43 : decode b_P_seen 43 = .ok (.bipush (-4), 2) := by decide +kernel
theorem d_P_seen_45 : decode b_P_seen 45 = .ok (.ireturn, 1) := by decide +kernel
theorem d_P_seen_46 : decode b_P_seen 46 = .ok (.aload_n 0, 1) := by decide +kernel
theorem d_P_seen_47 : decode b_P_seen 47 = .ok (.getfield 45, 3) := by decide +kernel
theorem d_P_seen_50 : decode b_P_seen 50 = .ok (.iload_n 1, 1) := by decide +kernel
theorem d_P_seen_51 : decode b_P_seen 51 = .ok (.iload_n 2, 1) := by decide +kernel
theorem d_P_seen_52 : decode b_P_seen 52 = .ok (.iload_n 3, 1) := by decide +kernel
theorem d_P_seen_53 : decode b_P_seen 53 = .ok (.invokevirtual 231, 3) := by decide +kernel
theorem d_P_seen_56 : decode b_P_seen 56 = .ok (.aload_n 0, 1) := by decide +kernel
theorem d_P_seen_57 : decode b_P_seen 57 = .ok (.getfield 45, 3) := by decide +kernel
theorem d_P_seen_60 : decode b_P_seen 60 = .ok (.getfield 230, 3) := by decide +kernel
theorem d_P_seen_63 : decode b_P_seen 63 = .ok (.ireturn, 1) := by decide +kernel
theorem qf_P_230 : Cond.fieldLink nC7 230 (fC3 3).1 (fC3 3).2.1 (fC3 3).2.2.1 ∈ tbl := tbl_in 239 (by decide +kernel) rfl
theorem qf_P_45 : Cond.fieldLink nC7 45 (fC7 5).1 (fC7 5).2.1 (fC7 5).2.2.1 ∈ tbl := tbl_in 290 (by decide +kernel) rfl
theorem qm_P_231 : Cond.methodLink nC7 231 y_M_add ∈ tbl := tbl_in 703 (by decide +kernel) rfl
def wp_P_seen (σ : Hp) (a1 : Int32) (a2 : Int32) (a3 : Int32) (P : Int32 → Hp → Prop) : Prop :=
  wp_P_isDay σ a1 (fun (r1 : Int32) (t2 : Hp) => ((r1 = 0 → P (-2 : Int32) t2) ∧ (¬ r1 = 0 → wp_P_isPlace t2 a2 (fun (r4 : Int32) (t5 : Hp) => ((r4 = 0 → P (-2 : Int32) t5) ∧ (¬ r4 = 0 → ((a3 < (-999 : Int32) → P (-2 : Int32) t5) ∧ (¬ a3 < (-999 : Int32) → ((a3 ≤ (999 : Int32) → (((t5 6 3) < (8 : Int32) → wp_M_add t5 a1 a2 a3 (fun (t11 : Hp) => P (t11 6 3) t11)) ∧ (¬ (t5 6 3) < (8 : Int32) → P (-4 : Int32) t5))) ∧ (¬ a3 ≤ (999 : Int32) → P (-2 : Int32) t5))))))))))
set_option maxHeartbeats 4000000 in
set_option maxRecDepth 100000 in
theorem w_P_seen (w : Wd) (σ : Hp) (a1 : Int32) (a2 : Int32) (a3 : Int32) (P : Int32 → Hp → Prop) (h : wp_P_seen σ a1 a2 a3 P) : CtI μC w y_P_seen b_P_seen 4 (some .int) 1 [.ref (w.1 0), .int a1, .int a2, .int a3] σ P := by
  unfold wp_P_seen at h
  refine CtI.ofV (C := nC7) (lo := [some (.ref (w.1 0)), some (.int a1), some (.int a2), some (.int a3)]) exC (by decide +kernel) rfl rfl rfl (fun κ hC hR => ?_)
  refine V.iload_n hC d_P_seen_0 rfl rfl ?_
  refine V.callSI hC exC (w_P_isDay w σ a1 _ h) d_P_seen_1 mo_P_isDay qm_P_126 rfl rfl rfl rfl (Nat.le_of_ble_eq_true rfl) (fun r1 t2 h => ?_)
  refine V.if_eq (tgt := 28) hC d_P_seen_4 (by decide) (fun c3 => ?_) (fun c3 => ?_)
  · replace h := h.1 c3
    refine V.bipush (v := -2) hC d_P_seen_28 (by decide) ?_
    exact hR _ _ _ _ h rfl d_P_seen_30
  · replace h := h.2 c3
    refine V.iload_n hC d_P_seen_7 rfl rfl ?_
    refine V.callSI hC exC (w_P_isPlace w t2 a2 _ h) d_P_seen_8 mo_P_isPlace qm_P_129 rfl rfl rfl rfl (Nat.le_of_ble_eq_true rfl) (fun r4 t5 h => ?_)
    refine V.if_eq (tgt := 28) hC d_P_seen_11 (by decide) (fun c6 => ?_) (fun c6 => ?_)
    · replace h := h.1 c6
      refine V.bipush (v := -2) hC d_P_seen_28 (by decide) ?_
      exact hR _ _ _ _ h rfl d_P_seen_30
    · replace h := h.2 c6
      refine V.iload_n hC d_P_seen_14 rfl rfl ?_
      refine V.sipush (v := -999) hC d_P_seen_15 (by decide) ?_
      refine V.icmp_lt (tgt := 28) hC d_P_seen_18 (by decide) (fun c7 => ?_) (fun c7 => ?_)
      · replace h := h.1 c7
        refine V.bipush (v := -2) hC d_P_seen_28 (by decide) ?_
        exact hR _ _ _ _ h rfl d_P_seen_30
      · replace h := h.2 c7
        refine V.iload_n hC d_P_seen_21 rfl rfl ?_
        refine V.sipush (v := 999) hC d_P_seen_22 (by decide) ?_
        refine V.icmp_le (tgt := 31) hC d_P_seen_25 (by decide) (fun c8 => ?_) (fun c8 => ?_)
        · replace h := h.1 c8
          refine V.aload_n hC d_P_seen_31 rfl rfl ?_
          refine V.getR (j := 5) hC d_P_seen_32 rfl rfl uC7 rfl rfl qf_P_45 ?_
          refine V.getI (j := 3) hC d_P_seen_35 rfl rfl uC3 rfl rfl qf_P_230 ?_
          refine V.bipush (v := 8) hC d_P_seen_38 (by decide) ?_
          refine V.icmp_lt (tgt := 46) hC d_P_seen_40 (by decide) (fun c9 => ?_) (fun c9 => ?_)
          · replace h := h.1 c9
            refine V.aload_n hC d_P_seen_46 rfl rfl ?_
            refine V.getR (j := 5) hC d_P_seen_47 rfl rfl uC7 rfl rfl qf_P_45 ?_
            refine V.iload_n hC d_P_seen_50 rfl rfl ?_
            refine V.iload_n hC d_P_seen_51 rfl rfl ?_
            refine V.iload_n hC d_P_seen_52 rfl rfl ?_
            refine V.callVN hC exC (w_M_add w t5 a1 a2 a3 _ h) d_P_seen_53 mo_M_add qm_P_231 rfl rfl rfl rfl rfl rfl rfl (Nat.le_of_ble_eq_true rfl) (fun t11 h => ?_)
            refine V.aload_n hC d_P_seen_56 rfl rfl ?_
            refine V.getR (j := 5) hC d_P_seen_57 rfl rfl uC7 rfl rfl qf_P_45 ?_
            refine V.getI (j := 3) hC d_P_seen_60 rfl rfl uC3 rfl rfl qf_P_230 ?_
            exact hR _ _ _ _ h rfl d_P_seen_63
          · replace h := h.2 c9
            refine V.bipush (v := -4) hC d_P_seen_43 (by decide) ?_
            exact hR _ _ _ _ h rfl d_P_seen_45
        · replace h := h.2 c8
          refine V.bipush (v := -2) hC d_P_seen_28 (by decide) ?_
          exact hR _ _ _ _ h rfl d_P_seen_30
abbrev b_P_forget : ByteArray := prog_1_method_26_code
def y_P_forget : MethodName := ⟨nC7, "forget", "()I"⟩
theorem d_P_forget_0 : decode b_P_forget 0 = .ok (.aload_n 0, 1) := by decide +kernel
theorem d_P_forget_1 : decode b_P_forget 1 = .ok (.getfield 45, 3) := by decide +kernel
theorem d_P_forget_4 : decode b_P_forget 4 = .ok (.getfield 230, 3) := by decide +kernel
theorem d_P_forget_7 : decode b_P_forget 7 = .ok (.istore_n 1, 1) := by decide +kernel
theorem d_P_forget_8 : decode b_P_forget 8 = .ok (.aload_n 0, 1) := by decide +kernel
theorem d_P_forget_9 : decode b_P_forget 9 = .ok (.getfield 45, 3) := by decide +kernel
theorem d_P_forget_12 : decode b_P_forget 12 = .ok (.iconst 0, 1) := by decide +kernel
theorem d_P_forget_13 : decode b_P_forget 13 = .ok (.putfield 230, 3) := by decide +kernel
theorem d_P_forget_16 : decode b_P_forget 16 = .ok (.iload_n 1, 1) := by decide +kernel
theorem d_P_forget_17 : decode b_P_forget 17 = .ok (.ireturn, 1) := by decide +kernel
def wp_P_forget (σ : Hp)  (P : Int32 → Hp → Prop) : Prop :=
  (∀ v1 : Int32, v1 = σ 6 3 → P v1 (st σ 6 3 (0 : Int32)))
set_option maxHeartbeats 4000000 in
set_option maxRecDepth 100000 in
theorem w_P_forget (w : Wd) (σ : Hp)  (P : Int32 → Hp → Prop) (h : wp_P_forget σ  P) : CtI μC w y_P_forget b_P_forget 2 (some .int) 0 [.ref (w.1 0)] σ P := by
  unfold wp_P_forget at h
  refine CtI.ofV (C := nC7) (lo := [some (.ref (w.1 0)), none]) exC (by decide +kernel) rfl rfl rfl (fun κ hC hR => ?_)
  refine V.aload_n hC d_P_forget_0 rfl rfl ?_
  refine V.getR (j := 5) hC d_P_forget_1 rfl rfl uC7 rfl rfl qf_P_45 ?_
  refine V.getI (j := 3) hC d_P_forget_4 rfl rfl uC3 rfl rfl qf_P_230 ?_
  obtain ⟨v1, ev1⟩ : ∃ y : Int32, y = σ 6 3 := ⟨_, rfl⟩
  replace h := h v1 ev1
  refine V.istore_n (y := v1) (lo' := [some (.ref (w.1 0)), some (.int v1)]) hC d_P_forget_7 rfl rfl ev1 rfl ?_
  refine V.aload_n hC d_P_forget_8 rfl rfl ?_
  refine V.getR (j := 5) hC d_P_forget_9 rfl rfl uC7 rfl rfl qf_P_45 ?_
  refine V.iconst (v := 0) hC d_P_forget_12 (by decide) ?_
  refine V.put (j := 3) hC d_P_forget_13 rfl rfl uC3 pC3 dC3 rfl rfl rfl rfl rfl qf_P_230 ?_
  refine V.iload_n hC d_P_forget_16 rfl rfl ?_
  exact hR _ _ _ _ h rfl d_P_forget_17
abbrev b_K_leadingWithout : ByteArray := prog_4_method_10_code
def y_K_leadingWithout : MethodName := ⟨nC2, "leadingWithout", "(I)I"⟩
theorem d_K_leadingWithout_0 : decode b_K_leadingWithout 0 = .ok (.aload_n 0, 1) := by decide +kernel
theorem d_K_leadingWithout_1 : decode b_K_leadingWithout 1 = .ok (.aload_n 0, 1) := by decide +kernel
theorem d_K_leadingWithout_2 : decode b_K_leadingWithout 2 = .ok (.invokevirtual 47, 3) := by decide +kernel
theorem d_K_leadingWithout_5 : decode b_K_leadingWithout 5 = .ok (.iconst 1, 1) := by decide +kernel
theorem d_K_leadingWithout_6 : decode b_K_leadingWithout 6 = .ok (.iload_n 1, 1) := by decide +kernel
theorem d_K_leadingWithout_7 : decode b_K_leadingWithout 7 = .ok (.ishl, 1) := by decide +kernel
theorem d_K_leadingWithout_8 : decode b_K_leadingWithout 8 = .ok (.iconst (-1), 1) := by decide +kernel
theorem d_K_leadingWithout_9 : decode b_K_leadingWithout 9 = .ok (.ixor, 1) := by decide +kernel
theorem d_K_leadingWithout_10 : decode b_K_leadingWithout 10 = .ok (.iand, 1) := by decide +kernel
theorem d_K_leadingWithout_11 : decode b_K_leadingWithout 11 = .ok (.invokevirtual 51, 3) := by decide +kernel
theorem d_K_leadingWithout_14 : decode b_K_leadingWithout 14 = .ok (.ireturn, 1) := by decide +kernel
theorem mo_K_leadingWithout : MokV y_K_leadingWithout b_K_leadingWithout 2 (some .int) 1 := ⟨⟨(tbl_in 718 (by decide +kernel) rfl), (tbl_in 66 (by decide +kernel) rfl)⟩, ⟨(tbl_in 716 (by decide +kernel) rfl), tbl_lw _ (tbl_in 717 (by decide +kernel) rfl), (tbl_in 717 (by decide +kernel) rfl)⟩, ⟨by decide +kernel, by decide +kernel⟩, by decide +kernel⟩
def wp_K_leadingWithout (σ : Hp) (a1 : Int32) (P : Int32 → Hp → Prop) : Prop :=
  wp_K_allSuits σ (fun (r1 : Int32) (t2 : Hp) => wp_K_leading t2 (r1 &&& (((1 : Int32) <<< (a1 &&& 31)) ^^^ (-1 : Int32))) (fun (r3 : Int32) (t4 : Hp) => P r3 t4))
set_option maxHeartbeats 4000000 in
set_option maxRecDepth 100000 in
theorem w_K_leadingWithout (w : Wd) (σ : Hp) (a1 : Int32) (P : Int32 → Hp → Prop) (h : wp_K_leadingWithout σ a1 P) : CtI μC w y_K_leadingWithout b_K_leadingWithout 2 (some .int) 2 [.ref (w.1 5), .int a1] σ P := by
  unfold wp_K_leadingWithout at h
  refine CtI.ofV (C := nC2) (lo := [some (.ref (w.1 5)), some (.int a1)]) exC (by decide +kernel) rfl rfl rfl (fun κ hC hR => ?_)
  refine V.aload_n hC d_K_leadingWithout_0 rfl rfl ?_
  refine V.aload_n hC d_K_leadingWithout_1 rfl rfl ?_
  refine V.callVI hC exC (w_K_allSuits w σ  _ h) d_K_leadingWithout_2 mo_K_allSuits qm_K_47 rfl rfl rfl rfl rfl rfl rfl (Nat.le_of_ble_eq_true rfl) (fun r1 t2 h => ?_)
  refine V.iconst (v := 1) hC d_K_leadingWithout_5 (by decide) ?_
  refine V.iload_n hC d_K_leadingWithout_6 rfl rfl ?_
  refine V.ishl hC d_K_leadingWithout_7 ?_
  refine V.iconst (v := -1) hC d_K_leadingWithout_8 (by decide) ?_
  refine V.ixor hC d_K_leadingWithout_9 ?_
  refine V.iand hC d_K_leadingWithout_10 ?_
  refine V.callVI hC exC (w_K_leading w t2 (r1 &&& (((1 : Int32) <<< (a1 &&& 31)) ^^^ (-1 : Int32))) _ h) d_K_leadingWithout_11 mo_K_leading qm_K_51 rfl rfl rfl rfl rfl rfl rfl (Nat.le_of_ble_eq_true rfl) (fun r3 t4 h => ?_)
  exact hR _ _ _ _ h rfl d_K_leadingWithout_14
abbrev b_M_comesOut : ByteArray := prog_5_method_3_code
def y_M_comesOut : MethodName := ⟨nC3, "comesOut", "(LSoundPaid$Debts;I)Z"⟩
theorem d_M_comesOut_0 : decode b_M_comesOut 0 = .ok (.iconst 0, 1) := by decide +kernel
theorem d_M_comesOut_1 : decode b_M_comesOut 1 = .ok (.istore_n 3, 1) := by decide +kernel
theorem d_M_comesOut_2 : decode b_M_comesOut 2 = .ok (.iload_n 3, 1) := by decide +kernel
theorem d_M_comesOut_3 : decode b_M_comesOut 3 = .ok (.aload_n 0, 1) := by decide +kernel
theorem d_M_comesOut_4 : decode b_M_comesOut 4 = .ok (.getfield 21, 3) := by decide +kernel
theorem d_M_comesOut_7 : decode b_M_comesOut 7 = .ok (.if_icmp .ge 55, 3) := by decide +kernel
theorem d_M_comesOut_10 : decode b_M_comesOut 10 = .ok (.aload_n 0, 1) := by decide +kernel
theorem d_M_comesOut_11 : decode b_M_comesOut 11 = .ok (.getfield 15, 3) := by decide +kernel
theorem d_M_comesOut_14 : decode b_M_comesOut 14 = .ok (.iload_n 3, 1) := by decide +kernel
theorem d_M_comesOut_15 : decode b_M_comesOut 15 = .ok (.iaload, 1) := by decide +kernel
theorem d_M_comesOut_16 : decode b_M_comesOut 16 = .ok (.aload_n 1, 1) := by decide +kernel
theorem d_M_comesOut_17 : decode b_M_comesOut 17 = .ok (.getfield 25, 3) := by decide +kernel
theorem d_M_comesOut_20 : decode b_M_comesOut 20 = .ok (.getfield 31, 3) := by decide +kernel
theorem d_M_comesOut_23 : decode b_M_comesOut 23 = .ok (.if_icmp .lt 5, 3) := by decide +kernel
theorem d_M_comesOut_26 : decode b_M_comesOut 26 = .ok (.iconst 0, 1) := by decide +kernel
theorem d_M_comesOut_27 : decode b_M_comesOut 27 = .ok (.ireturn, 1) := by decide +kernel
theorem d_M_comesOut_28 : decode b_M_comesOut 28 = .ok (.aload_n 1, 1) := by decide +kernel
theorem d_M_comesOut_29 : decode b_M_comesOut 29 = .ok (.aload_n 0, 1) := by decide +kernel
theorem d_M_comesOut_30 : decode b_M_comesOut 30 = .ok (.getfield 9, 3) := by decide +kernel
theorem d_M_comesOut_33 : decode b_M_comesOut 33 = .ok (.iload_n 3, 1) := by decide +kernel
theorem d_M_comesOut_34 : decode b_M_comesOut 34 = .ok (.iaload, 1) := by decide +kernel
theorem d_M_comesOut_35 : decode b_M_comesOut 35 = .ok (.aload_n 0, 1) := by decide +kernel
theorem d_M_comesOut_36 : decode b_M_comesOut 36 = .ok (.getfield 15, 3) := by decide +kernel
theorem d_M_comesOut_39 : decode b_M_comesOut 39 = .ok (.iload_n 3, 1) := by decide +kernel
theorem d_M_comesOut_40 : decode b_M_comesOut 40 = .ok (.iaload, 1) := by decide +kernel
theorem d_M_comesOut_41 : decode b_M_comesOut 41 = .ok (.iload_n 2, 1) := by decide +kernel
theorem d_M_comesOut_42 : decode b_M_comesOut 42 = .ok (.invokevirtual 35, 3) := by decide +kernel
theorem d_M_comesOut_45 : decode b_M_comesOut 45 = .ok (.aload_n 0, 1) := by decide +kernel
theorem d_M_comesOut_46 : decode b_M_comesOut 46 = .ok (.getfield 18, 3) := by decide +kernel
theorem d_M_comesOut_49 : decode b_M_comesOut 49 = .ok (.iload_n 3, 1) := by decide +kernel
theorem d_M_comesOut_50 : decode b_M_comesOut 50 = .ok (.iaload, 1) := by decide +kernel
theorem d_M_comesOut_51 : decode b_M_comesOut 51 = .ok (.if_icmp .eq 5, 3) := by decide +kernel
theorem d_M_comesOut_54 : decode b_M_comesOut 54 = .ok (.iconst 0, 1) := by decide +kernel
theorem d_M_comesOut_55 : decode b_M_comesOut 55 = .ok (.ireturn, 1) := by decide +kernel
theorem d_M_comesOut_56 : decode b_M_comesOut 56 = .ok (.iinc 3 1, 3) := by decide +kernel
theorem d_M_comesOut_59 : decode b_M_comesOut 59 = .ok (.goto (-57), 3) := by decide +kernel
theorem d_M_comesOut_62 : decode b_M_comesOut 62 = .ok (.iconst 1, 1) := by decide +kernel
theorem d_M_comesOut_63 : decode b_M_comesOut 63 = .ok (.ireturn, 1) := by decide +kernel
theorem qf_M_25 : Cond.fieldLink nC3 25 (fC1 0).1 (fC1 0).2.1 (fC1 0).2.2.1 ∈ tbl := tbl_in 204 (by decide +kernel) rfl
theorem qf_M_31 : Cond.fieldLink nC3 31 (fC5 6).1 (fC5 6).2.1 (fC5 6).2.2.1 ∈ tbl := tbl_in 138 (by decide +kernel) rfl
theorem qm_M_35 : Cond.methodLink nC3 35 y_D_balanceOf ∈ tbl := tbl_in 723 (by decide +kernel) rfl
theorem mo_M_comesOut : MokV y_M_comesOut b_M_comesOut 4 (some .boolean) 2 := ⟨⟨(tbl_in 722 (by decide +kernel) rfl), (tbl_in 67 (by decide +kernel) rfl)⟩, ⟨(tbl_in 720 (by decide +kernel) rfl), tbl_lw _ (tbl_in 721 (by decide +kernel) rfl), (tbl_in 721 (by decide +kernel) rfl)⟩, ⟨by decide +kernel, by decide +kernel⟩, by decide +kernel⟩
def b_M_comesOut_2_ (P : Int32 → Hp → Prop)  (I2 : Hp → Int32 → Int32 → Prop) (σ : Hp) (x2 : Int32) (x3 : Int32) : Prop :=
  (((σ 6 3) ≤ x3 → P (1 : Int32) σ) ∧ (¬ (σ 6 3) ≤ x3 → (vp_in x3 8) ∧ (((σ 34 (ix x3)) < (σ 4 6) → (vp_in x3 8) ∧ (vp_in x3 8) ∧ wp_D_balanceOf σ (σ 33 (ix x3)) (σ 34 (ix x3)) x2 (fun (r6 : Int32) (t7 : Hp) => (vp_in x3 8) ∧ ((r6 = (t7 35 (ix x3)) → (∀ v10 : Int32, v10 = x3 + (1 : Int32) → I2 t7 x2 v10)) ∧ (¬ r6 = (t7 35 (ix x3)) → P (0 : Int32) t7)))) ∧ (¬ (σ 34 (ix x3)) < (σ 4 6) → P (0 : Int32) σ))))
def j_M_comesOut_2 (P : Int32 → Hp → Prop)  (σ : Hp) (x2 : Int32) (x3 : Int32) : Prop := ∀ I2 : Hp → Int32 → Int32 → Prop, (∀ (σ : Hp) (x2 : Int32) (x3 : Int32), b_M_comesOut_2_  P  I2 σ x2 x3 → I2 σ x2 x3) → I2 σ x2 x3
def wp_M_comesOut (σ : Hp) (a2 : Int32) (P : Int32 → Hp → Prop) : Prop :=
  j_M_comesOut_2 P σ a2 (0 : Int32)
set_option maxHeartbeats 4000000 in
set_option maxRecDepth 100000 in
theorem wj_M_comesOut_2 {w : Wd} {κ : Kx} {P : Int32 → Hp → Prop} (hC : Cx μC w 4 κ nC3 b_M_comesOut 4) (hR : RtI μC w 4 κ b_M_comesOut .boolean P)  : ∀ (σ : Hp) (x2 : Int32) (x3 : Int32), j_M_comesOut_2  P  σ x2 x3 → V μC w 4 κ σ [some (.ref (w.1 6)), some (.ref (w.1 3)), some (.int x2), some (.int x3)] 2 [] := by
  intro σ x2 x3 h
  refine h (fun σ x2 x3 => V μC w 4 κ σ [some (.ref (w.1 6)), some (.ref (w.1 3)), some (.int x2), some (.int x3)] 2 []) (fun σ x2 x3 h => ?_)
  unfold b_M_comesOut_2_ at h
  refine V.iload_n hC d_M_comesOut_2 rfl rfl ?_
  refine V.aload_n hC d_M_comesOut_3 rfl rfl ?_
  refine V.getI (j := 3) hC d_M_comesOut_4 rfl rfl uC3 rfl rfl qf_M_21 ?_
  refine V.icmp_ge (tgt := 62) hC d_M_comesOut_7 (by decide) (fun c1 => ?_) (fun c1 => ?_)
  · replace h := h.1 c1
    refine V.iconst (v := 1) hC d_M_comesOut_62 (by decide) ?_
    exact hR _ _ _ _ h (by decide) d_M_comesOut_63
  · replace h := h.2 c1
    refine V.aload_n hC d_M_comesOut_10 rfl rfl ?_
    refine V.getR (j := 1) hC d_M_comesOut_11 rfl rfl uC3 rfl rfl qf_M_15 ?_
    refine V.iload_n hC d_M_comesOut_14 rfl rfl ?_
    obtain ⟨b2, h⟩ := h
    refine V.iald hC d_M_comesOut_15 rfl b2 ?_
    refine V.aload_n hC d_M_comesOut_16 rfl rfl ?_
    refine V.getR (j := 0) hC d_M_comesOut_17 rfl rfl uC1 rfl rfl qf_M_25 ?_
    refine V.getI (j := 6) hC d_M_comesOut_20 rfl rfl uC5 rfl rfl qf_M_31 ?_
    refine V.icmp_lt (tgt := 28) hC d_M_comesOut_23 (by decide) (fun c3 => ?_) (fun c3 => ?_)
    · replace h := h.1 c3
      refine V.aload_n hC d_M_comesOut_28 rfl rfl ?_
      refine V.aload_n hC d_M_comesOut_29 rfl rfl ?_
      refine V.getR (j := 0) hC d_M_comesOut_30 rfl rfl uC3 rfl rfl qf_M_9 ?_
      refine V.iload_n hC d_M_comesOut_33 rfl rfl ?_
      obtain ⟨b4, h⟩ := h
      refine V.iald hC d_M_comesOut_34 rfl b4 ?_
      refine V.aload_n hC d_M_comesOut_35 rfl rfl ?_
      refine V.getR (j := 1) hC d_M_comesOut_36 rfl rfl uC3 rfl rfl qf_M_15 ?_
      refine V.iload_n hC d_M_comesOut_39 rfl rfl ?_
      obtain ⟨b5, h⟩ := h
      refine V.iald hC d_M_comesOut_40 rfl b5 ?_
      refine V.iload_n hC d_M_comesOut_41 rfl rfl ?_
      refine V.callVI hC exC (w_D_balanceOf w σ (σ 33 (ix x3)) (σ 34 (ix x3)) x2 _ h) d_M_comesOut_42 mo_D_balanceOf qm_M_35 rfl rfl rfl rfl rfl rfl rfl (Nat.le_of_ble_eq_true rfl) (fun r6 t7 h => ?_)
      refine V.aload_n hC d_M_comesOut_45 rfl rfl ?_
      refine V.getR (j := 2) hC d_M_comesOut_46 rfl rfl uC3 rfl rfl qf_M_18 ?_
      refine V.iload_n hC d_M_comesOut_49 rfl rfl ?_
      obtain ⟨b8, h⟩ := h
      refine V.iald hC d_M_comesOut_50 rfl b8 ?_
      refine V.icmp_eq (tgt := 56) hC d_M_comesOut_51 (by decide) (fun c9 => ?_) (fun c9 => ?_)
      · replace h := h.1 c9
        obtain ⟨v10, ev10⟩ : ∃ y : Int32, y = x3 + (1 : Int32) := ⟨_, rfl⟩
        replace h := h v10 ev10
        refine V.iinc (y := v10) (lo' := [some (.ref (w.1 6)), some (.ref (w.1 3)), some (.int x2), some (.int v10)]) hC d_M_comesOut_56 rfl rfl (show v10 = _ + Int32.ofInt (1) from ev10) rfl ?_
        refine V.goto (tgt := 2) hC d_M_comesOut_59 (by decide) ?_
        exact V.msk [true, true, true, true] rfl h
      · replace h := h.2 c9
        refine V.iconst (v := 0) hC d_M_comesOut_54 (by decide) ?_
        exact hR _ _ _ _ h (by decide) d_M_comesOut_55
    · replace h := h.2 c3
      refine V.iconst (v := 0) hC d_M_comesOut_26 (by decide) ?_
      exact hR _ _ _ _ h (by decide) d_M_comesOut_27
set_option maxHeartbeats 4000000 in
set_option maxRecDepth 100000 in
theorem w_M_comesOut (w : Wd) (σ : Hp) (a2 : Int32) (P : Int32 → Hp → Prop) (h : wp_M_comesOut σ a2 P) : CtI μC w y_M_comesOut b_M_comesOut 4 (some .boolean) 4 [.ref (w.1 6), .ref (w.1 3), .int a2] σ P := by
  unfold wp_M_comesOut at h
  refine CtI.ofV (C := nC3) (lo := [some (.ref (w.1 6)), some (.ref (w.1 3)), some (.int a2), none]) exC (by decide +kernel) rfl rfl rfl (fun κ hC hR => ?_)
  refine V.iconst (v := 0) hC d_M_comesOut_0 (by decide) ?_
  refine V.istore_n (y := (0 : Int32)) (lo' := [some (.ref (w.1 6)), some (.ref (w.1 3)), some (.int a2), some (.int (0 : Int32))]) hC d_M_comesOut_1 rfl rfl rfl rfl ?_
  exact V.msk [true, true, true, true] rfl (wj_M_comesOut_2  hC hR  σ a2 (0 : Int32) h)
abbrev b_P_never : ByteArray := prog_1_method_27_code
def y_P_never : MethodName := ⟨nC7, "never", "()I"⟩
theorem d_P_never_0 : decode b_P_never 0 = .ok (.iconst 0, 1) := by decide +kernel
theorem d_P_never_1 : decode b_P_never 1 = .ok (.istore_n 1, 1) := by decide +kernel
theorem d_P_never_2 : decode b_P_never 2 = .ok (.iconst 0, 1) := by decide +kernel
theorem d_P_never_3 : decode b_P_never 3 = .ok (.istore_n 2, 1) := by decide +kernel
theorem d_P_never_4 : decode b_P_never 4 = .ok (.iload_n 2, 1) := by decide +kernel
theorem d_P_never_5 : decode b_P_never 5 = .ok (.aload_n 0, 1) := by decide +kernel
theorem d_P_never_6 : decode b_P_never 6 = .ok (.getfield 41, 3) := by decide +kernel
theorem d_P_never_9 : decode b_P_never 9 = .ok (.getfield 132, 3) := by decide +kernel
theorem d_P_never_12 : decode b_P_never 12 = .ok (.if_icmp .ge 37, 3) := by decide +kernel
theorem d_P_never_15 : decode b_P_never 15 = .ok (.aload_n 0, 1) := by decide +kernel
theorem d_P_never_16 : decode b_P_never 16 = .ok (.getfield 45, 3) := by decide +kernel
theorem d_P_never_19 : decode b_P_never 19 = .ok (.aload_n 0, 1) := by decide +kernel
theorem d_P_never_20 : decode b_P_never 20 = .ok (.getfield 28, 3) := by decide +kernel
theorem d_P_never_23 : decode b_P_never 23 = .ok (.aload_n 0, 1) := by decide +kernel
theorem d_P_never_24 : decode b_P_never 24 = .ok (.getfield 41, 3) := by decide +kernel
theorem d_P_never_27 : decode b_P_never 27 = .ok (.iload_n 2, 1) := by decide +kernel
theorem d_P_never_28 : decode b_P_never 28 = .ok (.invokevirtual 234, 3) := by decide +kernel
theorem d_P_never_31 : decode b_P_never 31 = .ok (.invokevirtual 237, 3) := by decide +kernel
theorem d_P_never_34 : decode b_P_never 34 = .ok (.ifCond .eq 9, 3) := by decide +kernel
theorem d_P_never_37 : decode b_P_never 37 = .ok (.iload_n 1, 1) := by decide +kernel
theorem d_P_never_38 : decode b_P_never 38 = .ok (.iconst 1, 1) := by decide +kernel
theorem d_P_never_39 : decode b_P_never 39 = .ok (.iload_n 2, 1) := by decide +kernel
theorem d_P_never_40 : decode b_P_never 40 = .ok (.ishl, 1) := by decide +kernel
theorem d_P_never_41 : decode b_P_never 41 = .ok (.ior, 1) := by decide +kernel
theorem d_P_never_42 : decode b_P_never 42 = .ok (.istore_n 1, 1) := by decide +kernel
theorem d_P_never_43 : decode b_P_never 43 = .ok (.iinc 2 1, 3) := by decide +kernel
theorem d_P_never_46 : decode b_P_never 46 = .ok (.goto (-42), 3) := by decide +kernel
theorem d_P_never_49 : decode b_P_never 49 = .ok (.iload_n 1, 1) := by decide +kernel
theorem d_P_never_50 : decode b_P_never 50 = .ok (.ireturn, 1) := by decide +kernel
theorem qm_P_234 : Cond.methodLink nC7 234 y_K_leadingWithout ∈ tbl := tbl_in 715 (by decide +kernel) rfl
theorem qm_P_237 : Cond.methodLink nC7 237 y_M_comesOut ∈ tbl := tbl_in 719 (by decide +kernel) rfl
theorem mo_P_never : MokV y_P_never b_P_never 3 (some .int) 0 := ⟨⟨(tbl_in 714 (by decide +kernel) rfl), (tbl_in 62 (by decide +kernel) rfl)⟩, ⟨(tbl_in 712 (by decide +kernel) rfl), tbl_lw _ (tbl_in 713 (by decide +kernel) rfl), (tbl_in 713 (by decide +kernel) rfl)⟩, ⟨by decide +kernel, by decide +kernel⟩, by decide +kernel⟩
def b_P_never_4_ (P : Int32 → Hp → Prop)  (I4 : Hp → Int32 → Int32 → Prop) (σ : Hp) (x1 : Int32) (x2 : Int32) : Prop :=
  (((σ 5 6) ≤ x2 → P x1 σ) ∧ (¬ (σ 5 6) ≤ x2 → wp_K_leadingWithout σ x2 (fun (r2 : Int32) (t3 : Hp) => wp_M_comesOut t3 r2 (fun (r4 : Int32) (t5 : Hp) => ((r4 = 0 → (∀ v7 : Int32, v7 = x2 + (1 : Int32) → I4 t5 x1 v7)) ∧ (¬ r4 = 0 → (∀ v8 : Int32, v8 = x1 ||| ((1 : Int32) <<< (x2 &&& 31)) → (∀ v9 : Int32, v9 = x2 + (1 : Int32) → I4 t5 v8 v9))))))))
def j_P_never_4 (P : Int32 → Hp → Prop)  (σ : Hp) (x1 : Int32) (x2 : Int32) : Prop := ∀ I4 : Hp → Int32 → Int32 → Prop, (∀ (σ : Hp) (x1 : Int32) (x2 : Int32), b_P_never_4_  P  I4 σ x1 x2 → I4 σ x1 x2) → I4 σ x1 x2
def wp_P_never (σ : Hp)  (P : Int32 → Hp → Prop) : Prop :=
  j_P_never_4 P σ (0 : Int32) (0 : Int32)
set_option maxHeartbeats 4000000 in
set_option maxRecDepth 100000 in
theorem wj_P_never_4 {w : Wd} {κ : Kx} {P : Int32 → Hp → Prop} (hC : Cx μC w 3 κ nC7 b_P_never 5) (hR : RtI μC w 3 κ b_P_never .int P)  : ∀ (σ : Hp) (x1 : Int32) (x2 : Int32), j_P_never_4  P  σ x1 x2 → V μC w 3 κ σ [some (.ref (w.1 0)), some (.int x1), some (.int x2)] 4 [] := by
  intro σ x1 x2 h
  refine h (fun σ x1 x2 => V μC w 3 κ σ [some (.ref (w.1 0)), some (.int x1), some (.int x2)] 4 []) (fun σ x1 x2 h => ?_)
  unfold b_P_never_4_ at h
  refine V.iload_n hC d_P_never_4 rfl rfl ?_
  refine V.aload_n hC d_P_never_5 rfl rfl ?_
  refine V.getR (j := 4) hC d_P_never_6 rfl rfl uC7 rfl rfl qf_P_41 ?_
  refine V.getI (j := 6) hC d_P_never_9 rfl rfl uC2 rfl rfl qf_P_132 ?_
  refine V.icmp_ge (tgt := 49) hC d_P_never_12 (by decide) (fun c1 => ?_) (fun c1 => ?_)
  · replace h := h.1 c1
    refine V.iload_n hC d_P_never_49 rfl rfl ?_
    exact hR _ _ _ _ h rfl d_P_never_50
  · replace h := h.2 c1
    refine V.aload_n hC d_P_never_15 rfl rfl ?_
    refine V.getR (j := 5) hC d_P_never_16 rfl rfl uC7 rfl rfl qf_P_45 ?_
    refine V.aload_n hC d_P_never_19 rfl rfl ?_
    refine V.getR (j := 2) hC d_P_never_20 rfl rfl uC7 rfl rfl qf_P_28 ?_
    refine V.aload_n hC d_P_never_23 rfl rfl ?_
    refine V.getR (j := 4) hC d_P_never_24 rfl rfl uC7 rfl rfl qf_P_41 ?_
    refine V.iload_n hC d_P_never_27 rfl rfl ?_
    refine V.callVI hC exC (w_K_leadingWithout w σ x2 _ h) d_P_never_28 mo_K_leadingWithout qm_P_234 rfl rfl rfl rfl rfl rfl rfl (Nat.le_of_ble_eq_true rfl) (fun r2 t3 h => ?_)
    refine V.callVI hC exC (w_M_comesOut w t3 r2 _ h) d_P_never_31 mo_M_comesOut qm_P_237 rfl rfl rfl rfl rfl rfl rfl (Nat.le_of_ble_eq_true rfl) (fun r4 t5 h => ?_)
    refine V.if_eq (tgt := 43) hC d_P_never_34 (by decide) (fun c6 => ?_) (fun c6 => ?_)
    · replace h := h.1 c6
      obtain ⟨v7, ev7⟩ : ∃ y : Int32, y = x2 + (1 : Int32) := ⟨_, rfl⟩
      replace h := h v7 ev7
      refine V.iinc (y := v7) (lo' := [some (.ref (w.1 0)), some (.int x1), some (.int v7)]) hC d_P_never_43 rfl rfl (show v7 = _ + Int32.ofInt (1) from ev7) rfl ?_
      refine V.goto (tgt := 4) hC d_P_never_46 (by decide) ?_
      exact V.msk [true, true, true] rfl h
    · replace h := h.2 c6
      refine V.iload_n hC d_P_never_37 rfl rfl ?_
      refine V.iconst (v := 1) hC d_P_never_38 (by decide) ?_
      refine V.iload_n hC d_P_never_39 rfl rfl ?_
      refine V.ishl hC d_P_never_40 ?_
      refine V.ior hC d_P_never_41 ?_
      obtain ⟨v8, ev8⟩ : ∃ y : Int32, y = x1 ||| ((1 : Int32) <<< (x2 &&& 31)) := ⟨_, rfl⟩
      replace h := h v8 ev8
      refine V.istore_n (y := v8) (lo' := [some (.ref (w.1 0)), some (.int v8), some (.int x2)]) hC d_P_never_42 rfl rfl ev8 rfl ?_
      obtain ⟨v9, ev9⟩ : ∃ y : Int32, y = x2 + (1 : Int32) := ⟨_, rfl⟩
      replace h := h v9 ev9
      refine V.iinc (y := v9) (lo' := [some (.ref (w.1 0)), some (.int v8), some (.int v9)]) hC d_P_never_43 rfl rfl (show v9 = _ + Int32.ofInt (1) from ev9) rfl ?_
      refine V.goto (tgt := 4) hC d_P_never_46 (by decide) ?_
      exact V.msk [true, true, true] rfl h
set_option maxHeartbeats 4000000 in
set_option maxRecDepth 100000 in
theorem w_P_never (w : Wd) (σ : Hp)  (P : Int32 → Hp → Prop) (h : wp_P_never σ  P) : CtI μC w y_P_never b_P_never 3 (some .int) 5 [.ref (w.1 0)] σ P := by
  unfold wp_P_never at h
  refine CtI.ofV (C := nC7) (lo := [some (.ref (w.1 0)), none, none]) exC (by decide +kernel) rfl rfl rfl (fun κ hC hR => ?_)
  refine V.iconst (v := 0) hC d_P_never_0 (by decide) ?_
  refine V.istore_n (y := (0 : Int32)) (lo' := [some (.ref (w.1 0)), some (.int (0 : Int32)), none]) hC d_P_never_1 rfl rfl rfl rfl ?_
  refine V.iconst (v := 0) hC d_P_never_2 (by decide) ?_
  refine V.istore_n (y := (0 : Int32)) (lo' := [some (.ref (w.1 0)), some (.int (0 : Int32)), some (.int (0 : Int32))]) hC d_P_never_3 rfl rfl rfl rfl ?_
  exact V.msk [true, true, true] rfl (wj_P_never_4  hC hR  σ (0 : Int32) (0 : Int32) h)
abbrev b_P_leaked : ByteArray := prog_1_method_28_code
def y_P_leaked : MethodName := ⟨nC7, "leaked", "(I)I"⟩
theorem d_P_leaked_0 : decode b_P_leaked 0 = .ok (.aload_n 0, 1) := by decide +kernel
theorem d_P_leaked_1 : decode b_P_leaked 1 = .ok (.iload_n 1, 1) := by decide +kernel
theorem d_P_leaked_2 : decode b_P_leaked 2 = .ok (.invokevirtual 97, 3) := by decide +kernel
theorem d_P_leaked_5 : decode b_P_leaked 5 = .ok (.ifCond .ne 6, 3) := by decide +kernel
theorem d_P_leaked_8 : decode b_P_leaked 8 = .ok (.bipush (-2), 2) := by decide +kernel
theorem d_P_leaked_10 : decode b_P_leaked 10 = .ok (.ireturn, 1) := by decide +kernel
theorem d_P_leaked_11 : decode b_P_leaked 11 = .ok (.aload_n 0, 1) := by decide +kernel
theorem d_P_leaked_12 : decode b_P_leaked 12 = .ok (.getfield 36, 3) := by decide +kernel
theorem d_P_leaked_15 : decode b_P_leaked 15 = .ok (.getfield 105, 3) := by decide +kernel
theorem d_P_leaked_18 : decode b_P_leaked 18 = .ok (.iload_n 1, 1) := by decide +kernel
theorem d_P_leaked_19 : decode b_P_leaked 19 = .ok (.iaload, 1) := by decide +kernel
theorem d_P_leaked_20 : decode b_P_leaked 20 = .ok (.istore_n 2, 1) := by decide +kernel
theorem d_P_leaked_21 : decode b_P_leaked 21 = .ok (.aload_n 0, 1) := by decide +kernel
theorem d_P_leaked_22 : decode b_P_leaked 22 = .ok (.getfield 41, 3) := by decide +kernel
theorem d_P_leaked_25 : decode b_P_leaked 25 = .ok (.invokevirtual 184, 3) := by decide +kernel
theorem d_P_leaked_28 : decode b_P_leaked 28 = .ok (.istore_n 3, 1) := by decide +kernel
theorem d_P_leaked_29 : decode b_P_leaked 29 = .ok (.iconst 0, 1) := by decide +kernel
theorem d_P_leaked_30 : decode b_P_leaked 30 = .ok (.istore 4, 2) := by decide +kernel
theorem d_P_leaked_32 : decode b_P_leaked 32 = .ok (.iconst 0, 1) := by decide +kernel
theorem d_P_leaked_33 : decode b_P_leaked 33 = .ok (.istore 5, 2) := by decide +kernel
theorem d_P_leaked_35 : decode b_P_leaked 35 = .ok (.iload 5, 2) := by decide +kernel
theorem d_P_leaked_37 : decode b_P_leaked 37 = .ok (.bipush 10, 2) := by decide +kernel
theorem d_P_leaked_39 : decode b_P_leaked 39 = .ok (.if_icmp .ge 51, 3) := by decide +kernel
theorem d_P_leaked_42 : decode b_P_leaked 42 = .ok (.aload_n 0, 1) := by decide +kernel
theorem d_P_leaked_43 : decode b_P_leaked 43 = .ok (.getfield 36, 3) := by decide +kernel
theorem d_P_leaked_46 : decode b_P_leaked 46 = .ok (.getfield 105, 3) := by decide +kernel
theorem d_P_leaked_49 : decode b_P_leaked 49 = .ok (.iload_n 1, 1) := by decide +kernel
theorem d_P_leaked_50 : decode b_P_leaked 50 = .ok (.iload 5, 2) := by decide +kernel
theorem d_P_leaked_52 : decode b_P_leaked 52 = .ok (.iastore, 1) := by decide +kernel
theorem d_P_leaked_53 : decode b_P_leaked 53 = .ok (.aload_n 0, 1) := by decide +kernel
theorem d_P_leaked_54 : decode b_P_leaked 54 = .ok (.getfield 28, 3) := by decide +kernel
theorem d_P_leaked_57 : decode b_P_leaked 57 = .ok (.invokevirtual 123, 3) := by decide +kernel
theorem d_P_leaked_60 : decode b_P_leaked 60 = .ok (.aload_n 0, 1) := by decide +kernel
theorem d_P_leaked_61 : decode b_P_leaked 61 = .ok (.getfield 45, 3) := by decide +kernel
theorem d_P_leaked_64 : decode b_P_leaked 64 = .ok (.aload_n 0, 1) := by decide +kernel
theorem d_P_leaked_65 : decode b_P_leaked 65 = .ok (.getfield 28, 3) := by decide +kernel
theorem d_P_leaked_68 : decode b_P_leaked 68 = .ok (.iload_n 3, 1) := by decide +kernel
theorem d_P_leaked_69 : decode b_P_leaked 69 = .ok (.invokevirtual 237, 3) := by decide +kernel
theorem d_P_leaked_72 : decode b_P_leaked 72 = .ok (.ifCond .eq 12, 3) := by decide +kernel
theorem d_P_leaked_75 : decode b_P_leaked 75 = .ok (.iload 4, 2) := by decide +kernel
theorem d_P_leaked_77 : decode b_P_leaked 77 = .ok (.iconst 1, 1) := by decide +kernel
theorem d_P_leaked_78 : decode b_P_leaked 78 = .ok (.iload 5, 2) := by decide +kernel
theorem d_P_leaked_80 : decode b_P_leaked 80 = .ok (.ishl, 1) := by decide +kernel
theorem d_P_leaked_81 : decode b_P_leaked 81 = .ok (.ior, 1) := by decide +kernel
theorem d_P_leaked_82 : decode b_P_leaked 82 = .ok (.istore 4, 2) := by decide +kernel
theorem d_P_leaked_84 : decode b_P_leaked 84 = .ok (.iinc 5 1, 3) := by decide +kernel
theorem d_P_leaked_87 : decode b_P_leaked 87 = .ok (.goto (-52), 3) := by decide +kernel
theorem d_P_leaked_90 : decode b_P_leaked 90 = .ok (.aload_n 0, 1) := by decide +kernel
theorem d_P_leaked_91 : decode b_P_leaked 91 = .ok (.getfield 36, 3) := by decide +kernel
theorem d_P_leaked_94 : decode b_P_leaked 94 = .ok (.getfield 105, 3) := by decide +kernel
theorem d_P_leaked_97 : decode b_P_leaked 97 = .ok (.iload_n 1, 1) := by decide +kernel
theorem d_P_leaked_98 : decode b_P_leaked 98 = .ok (.iload_n 2, 1) := by decide +kernel
theorem d_P_leaked_99 : decode b_P_leaked 99 = .ok (.iastore, 1) := by decide +kernel
theorem d_P_leaked_100 : decode b_P_leaked 100 = .ok (.aload_n 0, 1) := by decide +kernel
theorem d_P_leaked_101 : decode b_P_leaked 101 = .ok (.getfield 28, 3) := by decide +kernel
theorem d_P_leaked_104 : decode b_P_leaked 104 = .ok (.invokevirtual 123, 3) := by decide +kernel
theorem d_P_leaked_107 : decode b_P_leaked 107 = .ok (.iload 4, 2) := by decide +kernel
theorem d_P_leaked_109 : decode b_P_leaked 109 = .ok (.ireturn, 1) := by decide +kernel
theorem mo_P_leaked : MokV y_P_leaked b_P_leaked 6 (some .int) 1 := ⟨⟨(tbl_in 727 (by decide +kernel) rfl), (tbl_in 62 (by decide +kernel) rfl)⟩, ⟨(tbl_in 725 (by decide +kernel) rfl), tbl_lw _ (tbl_in 726 (by decide +kernel) rfl), (tbl_in 726 (by decide +kernel) rfl)⟩, ⟨by decide +kernel, by decide +kernel⟩, by decide +kernel⟩
def b_P_leaked_35_ (P : Int32 → Hp → Prop)  (I35 : Hp → Int32 → Int32 → Int32 → Int32 → Int32 → Prop) (σ : Hp) (x1 : Int32) (x2 : Int32) (x3 : Int32) (x4 : Int32) (x5 : Int32) : Prop :=
  (((10 : Int32) ≤ x5 → (vp_in x1 8) ∧ wp_D_priceSuits (st σ 22 (ix x1) x2) (fun (t4 : Hp) => P x4 t4)) ∧ (¬ (10 : Int32) ≤ x5 → (vp_in x1 8) ∧ wp_D_priceSuits (st σ 22 (ix x1) x5) (fun (t7 : Hp) => wp_M_comesOut t7 x3 (fun (r8 : Int32) (t9 : Hp) => ((r8 = 0 → (∀ v11 : Int32, v11 = x5 + (1 : Int32) → I35 t9 x1 x2 x3 x4 v11)) ∧ (¬ r8 = 0 → (∀ v12 : Int32, v12 = x4 ||| ((1 : Int32) <<< (x5 &&& 31)) → (∀ v13 : Int32, v13 = x5 + (1 : Int32) → I35 t9 x1 x2 x3 v12 v13))))))))
def j_P_leaked_35 (P : Int32 → Hp → Prop)  (σ : Hp) (x1 : Int32) (x2 : Int32) (x3 : Int32) (x4 : Int32) (x5 : Int32) : Prop := ∀ I35 : Hp → Int32 → Int32 → Int32 → Int32 → Int32 → Prop, (∀ (σ : Hp) (x1 : Int32) (x2 : Int32) (x3 : Int32) (x4 : Int32) (x5 : Int32), b_P_leaked_35_  P  I35 σ x1 x2 x3 x4 x5 → I35 σ x1 x2 x3 x4 x5) → I35 σ x1 x2 x3 x4 x5
def wp_P_leaked (σ : Hp) (a1 : Int32) (P : Int32 → Hp → Prop) : Prop :=
  wp_P_isHouse σ a1 (fun (r14 : Int32) (t15 : Hp) => ((¬ r14 = 0 → (vp_in a1 8) ∧ (∀ v18 : Int32, v18 = t15 22 (ix a1) → wp_K_leadingOfAll t15 (fun (r19 : Int32) (t20 : Hp) => j_P_leaked_35 P t20 a1 v18 r19 (0 : Int32) (0 : Int32)))) ∧ (r14 = 0 → P (-2 : Int32) t15)))
set_option maxHeartbeats 4000000 in
set_option maxRecDepth 100000 in
theorem wj_P_leaked_35 {w : Wd} {κ : Kx} {P : Int32 → Hp → Prop} (hC : Cx μC w 6 κ nC7 b_P_leaked 5) (hR : RtI μC w 6 κ b_P_leaked .int P)  : ∀ (σ : Hp) (x1 : Int32) (x2 : Int32) (x3 : Int32) (x4 : Int32) (x5 : Int32), j_P_leaked_35  P  σ x1 x2 x3 x4 x5 → V μC w 6 κ σ [some (.ref (w.1 0)), some (.int x1), some (.int x2), some (.int x3), some (.int x4), some (.int x5)] 35 [] := by
  intro σ x1 x2 x3 x4 x5 h
  refine h (fun σ x1 x2 x3 x4 x5 => V μC w 6 κ σ [some (.ref (w.1 0)), some (.int x1), some (.int x2), some (.int x3), some (.int x4), some (.int x5)] 35 []) (fun σ x1 x2 x3 x4 x5 h => ?_)
  unfold b_P_leaked_35_ at h
  refine V.iload hC d_P_leaked_35 rfl ?_
  refine V.bipush (v := 10) hC d_P_leaked_37 (by decide) ?_
  refine V.icmp_ge (tgt := 90) hC d_P_leaked_39 (by decide) (fun c1 => ?_) (fun c1 => ?_)
  · replace h := h.1 c1
    refine V.aload_n hC d_P_leaked_90 rfl rfl ?_
    refine V.getR (j := 3) hC d_P_leaked_91 rfl rfl uC7 rfl rfl qf_P_36 ?_
    refine V.getR (j := 1) hC d_P_leaked_94 rfl rfl uC5 rfl rfl qf_P_105 ?_
    refine V.iload_n hC d_P_leaked_97 rfl rfl ?_
    refine V.iload_n hC d_P_leaked_98 rfl rfl ?_
    obtain ⟨b2, h⟩ := h
    refine V.iast hC d_P_leaked_99 rfl b2 ?_
    refine V.aload_n hC d_P_leaked_100 rfl rfl ?_
    refine V.getR (j := 2) hC d_P_leaked_101 rfl rfl uC7 rfl rfl qf_P_28 ?_
    refine V.callVN hC exC (w_D_priceSuits w (st σ 22 (ix x1) x2)  _ h) d_P_leaked_104 mo_D_priceSuits qm_P_123 rfl rfl rfl rfl rfl rfl rfl (Nat.le_of_ble_eq_true rfl) (fun t4 h => ?_)
    refine V.iload hC d_P_leaked_107 rfl ?_
    exact hR _ _ _ _ h rfl d_P_leaked_109
  · replace h := h.2 c1
    refine V.aload_n hC d_P_leaked_42 rfl rfl ?_
    refine V.getR (j := 3) hC d_P_leaked_43 rfl rfl uC7 rfl rfl qf_P_36 ?_
    refine V.getR (j := 1) hC d_P_leaked_46 rfl rfl uC5 rfl rfl qf_P_105 ?_
    refine V.iload_n hC d_P_leaked_49 rfl rfl ?_
    refine V.iload hC d_P_leaked_50 rfl ?_
    obtain ⟨b5, h⟩ := h
    refine V.iast hC d_P_leaked_52 rfl b5 ?_
    refine V.aload_n hC d_P_leaked_53 rfl rfl ?_
    refine V.getR (j := 2) hC d_P_leaked_54 rfl rfl uC7 rfl rfl qf_P_28 ?_
    refine V.callVN hC exC (w_D_priceSuits w (st σ 22 (ix x1) x5)  _ h) d_P_leaked_57 mo_D_priceSuits qm_P_123 rfl rfl rfl rfl rfl rfl rfl (Nat.le_of_ble_eq_true rfl) (fun t7 h => ?_)
    refine V.aload_n hC d_P_leaked_60 rfl rfl ?_
    refine V.getR (j := 5) hC d_P_leaked_61 rfl rfl uC7 rfl rfl qf_P_45 ?_
    refine V.aload_n hC d_P_leaked_64 rfl rfl ?_
    refine V.getR (j := 2) hC d_P_leaked_65 rfl rfl uC7 rfl rfl qf_P_28 ?_
    refine V.iload_n hC d_P_leaked_68 rfl rfl ?_
    refine V.callVI hC exC (w_M_comesOut w t7 x3 _ h) d_P_leaked_69 mo_M_comesOut qm_P_237 rfl rfl rfl rfl rfl rfl rfl (Nat.le_of_ble_eq_true rfl) (fun r8 t9 h => ?_)
    refine V.if_eq (tgt := 84) hC d_P_leaked_72 (by decide) (fun c10 => ?_) (fun c10 => ?_)
    · replace h := h.1 c10
      obtain ⟨v11, ev11⟩ : ∃ y : Int32, y = x5 + (1 : Int32) := ⟨_, rfl⟩
      replace h := h v11 ev11
      refine V.iinc (y := v11) (lo' := [some (.ref (w.1 0)), some (.int x1), some (.int x2), some (.int x3), some (.int x4), some (.int v11)]) hC d_P_leaked_84 rfl rfl (show v11 = _ + Int32.ofInt (1) from ev11) rfl ?_
      refine V.goto (tgt := 35) hC d_P_leaked_87 (by decide) ?_
      exact V.msk [true, true, true, true, true, true] rfl h
    · replace h := h.2 c10
      refine V.iload hC d_P_leaked_75 rfl ?_
      refine V.iconst (v := 1) hC d_P_leaked_77 (by decide) ?_
      refine V.iload hC d_P_leaked_78 rfl ?_
      refine V.ishl hC d_P_leaked_80 ?_
      refine V.ior hC d_P_leaked_81 ?_
      obtain ⟨v12, ev12⟩ : ∃ y : Int32, y = x4 ||| ((1 : Int32) <<< (x5 &&& 31)) := ⟨_, rfl⟩
      replace h := h v12 ev12
      refine V.istore (y := v12) (lo' := [some (.ref (w.1 0)), some (.int x1), some (.int x2), some (.int x3), some (.int v12), some (.int x5)]) hC d_P_leaked_82 rfl ev12 rfl ?_
      obtain ⟨v13, ev13⟩ : ∃ y : Int32, y = x5 + (1 : Int32) := ⟨_, rfl⟩
      replace h := h v13 ev13
      refine V.iinc (y := v13) (lo' := [some (.ref (w.1 0)), some (.int x1), some (.int x2), some (.int x3), some (.int v12), some (.int v13)]) hC d_P_leaked_84 rfl rfl (show v13 = _ + Int32.ofInt (1) from ev13) rfl ?_
      refine V.goto (tgt := 35) hC d_P_leaked_87 (by decide) ?_
      exact V.msk [true, true, true, true, true, true] rfl h
set_option maxHeartbeats 4000000 in
set_option maxRecDepth 100000 in
theorem w_P_leaked (w : Wd) (σ : Hp) (a1 : Int32) (P : Int32 → Hp → Prop) (h : wp_P_leaked σ a1 P) : CtI μC w y_P_leaked b_P_leaked 6 (some .int) 5 [.ref (w.1 0), .int a1] σ P := by
  unfold wp_P_leaked at h
  refine CtI.ofV (C := nC7) (lo := [some (.ref (w.1 0)), some (.int a1), none, none, none, none]) exC (by decide +kernel) rfl rfl rfl (fun κ hC hR => ?_)
  refine V.aload_n hC d_P_leaked_0 rfl rfl ?_
  refine V.iload_n hC d_P_leaked_1 rfl rfl ?_
  refine V.callVI hC exC (w_P_isHouse w σ a1 _ h) d_P_leaked_2 mo_P_isHouse qm_P_97 rfl rfl rfl rfl rfl rfl rfl (Nat.le_of_ble_eq_true rfl) (fun r14 t15 h => ?_)
  refine V.if_ne (tgt := 11) hC d_P_leaked_5 (by decide) (fun c16 => ?_) (fun c16 => ?_)
  · replace h := h.1 c16
    refine V.aload_n hC d_P_leaked_11 rfl rfl ?_
    refine V.getR (j := 3) hC d_P_leaked_12 rfl rfl uC7 rfl rfl qf_P_36 ?_
    refine V.getR (j := 1) hC d_P_leaked_15 rfl rfl uC5 rfl rfl qf_P_105 ?_
    refine V.iload_n hC d_P_leaked_18 rfl rfl ?_
    obtain ⟨b17, h⟩ := h
    refine V.iald hC d_P_leaked_19 rfl b17 ?_
    obtain ⟨v18, ev18⟩ : ∃ y : Int32, y = t15 22 (ix a1) := ⟨_, rfl⟩
    replace h := h v18 ev18
    refine V.istore_n (y := v18) (lo' := [some (.ref (w.1 0)), some (.int a1), some (.int v18), none, none, none]) hC d_P_leaked_20 rfl rfl ev18 rfl ?_
    refine V.aload_n hC d_P_leaked_21 rfl rfl ?_
    refine V.getR (j := 4) hC d_P_leaked_22 rfl rfl uC7 rfl rfl qf_P_41 ?_
    refine V.callVI hC exC (w_K_leadingOfAll w t15  _ h) d_P_leaked_25 mo_K_leadingOfAll qm_P_184 rfl rfl rfl rfl rfl rfl rfl (Nat.le_of_ble_eq_true rfl) (fun r19 t20 h => ?_)
    refine V.istore_n (y := r19) (lo' := [some (.ref (w.1 0)), some (.int a1), some (.int v18), some (.int r19), none, none]) hC d_P_leaked_28 rfl rfl rfl rfl ?_
    refine V.iconst (v := 0) hC d_P_leaked_29 (by decide) ?_
    refine V.istore (y := (0 : Int32)) (lo' := [some (.ref (w.1 0)), some (.int a1), some (.int v18), some (.int r19), some (.int (0 : Int32)), none]) hC d_P_leaked_30 rfl rfl rfl ?_
    refine V.iconst (v := 0) hC d_P_leaked_32 (by decide) ?_
    refine V.istore (y := (0 : Int32)) (lo' := [some (.ref (w.1 0)), some (.int a1), some (.int v18), some (.int r19), some (.int (0 : Int32)), some (.int (0 : Int32))]) hC d_P_leaked_33 rfl rfl rfl ?_
    exact V.msk [true, true, true, true, true, true] rfl (wj_P_leaked_35  hC hR  t20 a1 v18 r19 (0 : Int32) (0 : Int32) h)
  · replace h := h.2 c16
    refine V.bipush (v := -2) hC d_P_leaked_8 (by decide) ?_
    exact hR _ _ _ _ h rfl d_P_leaked_10
abbrev b_P_mostAlike : ByteArray := prog_1_method_30_code
def y_P_mostAlike : MethodName := ⟨nC7, "mostAlike", "(III)I"⟩
theorem d_P_mostAlike_0 : decode b_P_mostAlike 0 = .ok (.iconst 0, 1) := by decide +kernel
theorem d_P_mostAlike_1 : decode b_P_mostAlike 1 = .ok (.istore 4, 2) := by decide +kernel
theorem d_P_mostAlike_3 : decode b_P_mostAlike 3 = .ok (.iconst 0, 1) := by decide +kernel
theorem d_P_mostAlike_4 : decode b_P_mostAlike 4 = .ok (.istore 5, 2) := by decide +kernel
theorem d_P_mostAlike_6 : decode b_P_mostAlike 6 = .ok (.iload 5, 2) := by decide +kernel
theorem d_P_mostAlike_8 : decode b_P_mostAlike 8 = .ok (.aload_n 0, 1) := by decide +kernel
theorem d_P_mostAlike_9 : decode b_P_mostAlike 9 = .ok (.getfield 41, 3) := by decide +kernel
theorem d_P_mostAlike_12 : decode b_P_mostAlike 12 = .ok (.getfield 132, 3) := by decide +kernel
theorem d_P_mostAlike_15 : decode b_P_mostAlike 15 = .ok (.if_icmp .ge 49, 3) := by decide +kernel
theorem d_P_mostAlike_18 : decode b_P_mostAlike 18 = .ok (.iload_n 3, 1) := by decide +kernel
theorem d_P_mostAlike_19 : decode b_P_mostAlike 19 = .ok (.iload 5, 2) := by decide +kernel
theorem d_P_mostAlike_21 : decode b_P_mostAlike 21 = .ok (.ishr, 1) := by decide +kernel
theorem d_P_mostAlike_22 : decode b_P_mostAlike 22 = .ok (.iconst 1, 1) := by decide +kernel
theorem d_P_mostAlike_23 : decode b_P_mostAlike 23 = .ok (.iand, 1) := by decide +kernel
theorem d_P_mostAlike_24 : decode b_P_mostAlike 24 = .ok (.ifCond .ne 6, 3) := by decide +kernel
theorem d_P_mostAlike_27 : decode b_P_mostAlike 27 = .ok (.goto 31, 3) := by decide +kernel
theorem d_P_mostAlike_30 : decode b_P_mostAlike 30 = .ok (.aload_n 0, 1) := by decide +kernel
theorem d_P_mostAlike_31 : decode b_P_mostAlike 31 = .ok (.getfield 63, 3) := by decide +kernel
theorem d_P_mostAlike_34 : decode b_P_mostAlike 34 = .ok (.iload 4, 2) := by decide +kernel
theorem d_P_mostAlike_36 : decode b_P_mostAlike 36 = .ok (.aload_n 0, 1) := by decide +kernel
theorem d_P_mostAlike_37 : decode b_P_mostAlike 37 = .ok (.getfield 28, 3) := by decide +kernel
theorem d_P_mostAlike_40 : decode b_P_mostAlike 40 = .ok (.iload_n 1, 1) := by decide +kernel
theorem d_P_mostAlike_41 : decode b_P_mostAlike 41 = .ok (.iload_n 2, 1) := by decide +kernel
theorem d_P_mostAlike_42 : decode b_P_mostAlike 42 = .ok (.aload_n 0, 1) := by decide +kernel
theorem d_P_mostAlike_43 : decode b_P_mostAlike 43 = .ok (.getfield 41, 3) := by decide +kernel
theorem d_P_mostAlike_46 : decode b_P_mostAlike 46 = .ok (.iload 5, 2) := by decide +kernel
theorem d_P_mostAlike_48 : decode b_P_mostAlike 48 = .ok (.invokevirtual 234, 3) := by decide +kernel
theorem d_P_mostAlike_51 : decode b_P_mostAlike 51 = .ok (.invokevirtual 187, 3) := by decide +kernel
theorem d_P_mostAlike_54 : decode b_P_mostAlike 54 = .ok (.iastore, 1) := by decide +kernel
theorem d_P_mostAlike_55 : decode b_P_mostAlike 55 = .ok (.iinc 4 1, 3) := by decide +kernel
theorem d_P_mostAlike_58 : decode b_P_mostAlike 58 = .ok (.iinc 5 1, 3) := by decide +kernel
theorem d_P_mostAlike_61 : decode b_P_mostAlike 61 = .ok (.goto (-55), 3) := by decide +kernel
theorem d_P_mostAlike_64 : decode b_P_mostAlike 64 = .ok (.iconst 0, 1) := by decide +kernel
theorem d_P_mostAlike_65 : decode b_P_mostAlike 65 = .ok (.istore 5, 2) := by decide +kernel
theorem d_P_mostAlike_67 : decode b_P_mostAlike 67 = .ok (.iconst 0, 1) := by decide +kernel
theorem d_P_mostAlike_68 : decode b_P_mostAlike 68 = .ok (.istore 6, 2) := by decide +kernel
theorem d_P_mostAlike_70 : decode b_P_mostAlike 70 = .ok (.iload 6, 2) := by decide +kernel
theorem d_P_mostAlike_72 : decode b_P_mostAlike 72 = .ok (.iload 4, 2) := by decide +kernel
theorem d_P_mostAlike_74 : decode b_P_mostAlike 74 = .ok (.if_icmp .ge 57, 3) := by decide +kernel
theorem d_P_mostAlike_77 : decode b_P_mostAlike 77 = .ok (.iconst 0, 1) := by decide +kernel
theorem d_P_mostAlike_78 : decode b_P_mostAlike 78 = .ok (.istore 7, 2) := by decide +kernel
theorem d_P_mostAlike_80 : decode b_P_mostAlike 80 = .ok (.iconst 0, 1) := by decide +kernel
theorem d_P_mostAlike_81 : decode b_P_mostAlike 81 = .ok (.istore 8, 2) := by decide +kernel
theorem d_P_mostAlike_83 : decode b_P_mostAlike 83 = .ok (.iload 8, 2) := by decide +kernel
theorem d_P_mostAlike_85 : decode b_P_mostAlike 85 = .ok (.iload 4, 2) := by decide +kernel
theorem d_P_mostAlike_87 : decode b_P_mostAlike 87 = .ok (.if_icmp .ge 29, 3) := by decide +kernel
theorem d_P_mostAlike_90 : decode b_P_mostAlike 90 = .ok (.aload_n 0, 1) := by decide +kernel
theorem d_P_mostAlike_91 : decode b_P_mostAlike 91 = .ok (.getfield 63, 3) := by decide +kernel
theorem d_P_mostAlike_94 : decode b_P_mostAlike 94 = .ok (.iload 8, 2) := by decide +kernel
theorem d_P_mostAlike_96 : decode b_P_mostAlike 96 = .ok (.iaload, 1) := by decide +kernel
theorem d_P_mostAlike_97 : decode b_P_mostAlike 97 = .ok (.aload_n 0, 1) := by decide +kernel
theorem d_P_mostAlike_98 : decode b_P_mostAlike 98 = .ok (.getfield 63, 3) := by decide +kernel
theorem d_P_mostAlike_101 : decode b_P_mostAlike 101 = .ok (.iload 6, 2) := by decide +kernel
theorem d_P_mostAlike_103 : decode b_P_mostAlike 103 = .ok (.iaload, 1) := by decide +kernel
theorem d_P_mostAlike_104 : decode b_P_mostAlike 104 = .ok (.if_icmp .ne 6, 3) := by decide +kernel
theorem d_P_mostAlike_107 : decode b_P_mostAlike 107 = .ok (.iinc 7 1, 3) := by decide +kernel
theorem d_P_mostAlike_110 : decode b_P_mostAlike 110 = .ok (.iinc 8 1, 3) := by decide +kernel
theorem d_P_mostAlike_113 : decode b_P_mostAlike 113 = .ok (.goto (-30), 3) := by decide +kernel
theorem d_P_mostAlike_116 : decode b_P_mostAlike 116 = .ok (.iload 5, 2) := by decide +kernel
theorem d_P_mostAlike_118 : decode b_P_mostAlike 118 = .ok (.iload 7, 2) := by decide +kernel
theorem d_P_mostAlike_120 : decode b_P_mostAlike 120 = .ok (.invokestatic 247, 3) := by decide +kernel
theorem d_P_mostAlike_123 : decode b_P_mostAlike 123 = .ok (.istore 5, 2) := by decide +kernel
theorem d_P_mostAlike_125 : decode b_P_mostAlike 125 = .ok (.iinc 6 1, 3) := by decide +kernel
theorem d_P_mostAlike_128 : decode b_P_mostAlike 128 = .ok (.goto (-58), 3) := by decide +kernel
theorem d_P_mostAlike_131 : decode b_P_mostAlike 131 = .ok (.iload 5, 2) := by decide +kernel
theorem d_P_mostAlike_133 : decode b_P_mostAlike 133 = .ok (.ireturn, 1) := by decide +kernel
theorem qf_P_63 : Cond.fieldLink nC7 63 (fC7 8).1 (fC7 8).2.1 (fC7 8).2.2.1 ∈ tbl := tbl_in 293 (by decide +kernel) rfl
theorem qm_P_247 : Cond.methodLink nC7 247 Lib.Math.max.name ∈ tbl := tbl_in 737 (by decide +kernel) rfl
theorem mo_P_mostAlike : MokV y_P_mostAlike b_P_mostAlike 9 (some .int) 3 := ⟨⟨(tbl_in 736 (by decide +kernel) rfl), (tbl_in 62 (by decide +kernel) rfl)⟩, ⟨(tbl_in 735 (by decide +kernel) rfl), tbl_lw _ (tbl_in 12 (by decide +kernel) rfl), (tbl_in 12 (by decide +kernel) rfl)⟩, ⟨by decide +kernel, by decide +kernel⟩, by decide +kernel⟩
def b_P_mostAlike_83_ (P : Int32 → Hp → Prop) (I70 : Hp → Int32 → Int32 → Int32 → Prop) (I83 : Hp → Int32 → Int32 → Int32 → Int32 → Int32 → Prop) (σ : Hp) (x4 : Int32) (x5 : Int32) (x6 : Int32) (x7 : Int32) (x8 : Int32) : Prop :=
  ((x4 ≤ x8 → (∀ v2 : Int32, v2 = (if x5 < x7 then x7 else x5) → (∀ v3 : Int32, v3 = x6 + (1 : Int32) → I70 σ x4 v2 v3))) ∧ (¬ x4 ≤ x8 → (vp_in x8 12) ∧ (vp_in x6 12) ∧ ((¬ (σ 9 (ix x8)) = (σ 9 (ix x6)) → (∀ v7 : Int32, v7 = x8 + (1 : Int32) → I83 σ x4 x5 x6 x7 v7)) ∧ ((σ 9 (ix x8)) = (σ 9 (ix x6)) → (∀ v8 : Int32, v8 = x7 + (1 : Int32) → (∀ v9 : Int32, v9 = x8 + (1 : Int32) → I83 σ x4 x5 x6 v8 v9))))))
def j_P_mostAlike_83 (P : Int32 → Hp → Prop) (I70 : Hp → Int32 → Int32 → Int32 → Prop) (σ : Hp) (x4 : Int32) (x5 : Int32) (x6 : Int32) (x7 : Int32) (x8 : Int32) : Prop := ∀ I83 : Hp → Int32 → Int32 → Int32 → Int32 → Int32 → Prop, (∀ (σ : Hp) (x4 : Int32) (x5 : Int32) (x6 : Int32) (x7 : Int32) (x8 : Int32), b_P_mostAlike_83_  P I70 I83 σ x4 x5 x6 x7 x8 → I83 σ x4 x5 x6 x7 x8) → I83 σ x4 x5 x6 x7 x8
def b_P_mostAlike_70_ (P : Int32 → Hp → Prop)  (I70 : Hp → Int32 → Int32 → Int32 → Prop) (σ : Hp) (x4 : Int32) (x5 : Int32) (x6 : Int32) : Prop :=
  ((x4 ≤ x6 → P x5 σ) ∧ (¬ x4 ≤ x6 → j_P_mostAlike_83 P I70 σ x4 x5 x6 (0 : Int32) (0 : Int32)))
def j_P_mostAlike_70 (P : Int32 → Hp → Prop)  (σ : Hp) (x4 : Int32) (x5 : Int32) (x6 : Int32) : Prop := ∀ I70 : Hp → Int32 → Int32 → Int32 → Prop, (∀ (σ : Hp) (x4 : Int32) (x5 : Int32) (x6 : Int32), b_P_mostAlike_70_  P  I70 σ x4 x5 x6 → I70 σ x4 x5 x6) → I70 σ x4 x5 x6
def b_P_mostAlike_6_ (P : Int32 → Hp → Prop)  (I6 : Hp → Int32 → Int32 → Int32 → Int32 → Int32 → Prop) (σ : Hp) (x1 : Int32) (x2 : Int32) (x3 : Int32) (x4 : Int32) (x5 : Int32) : Prop :=
  (((σ 5 6) ≤ x5 → j_P_mostAlike_70 P σ x4 (0 : Int32) (0 : Int32)) ∧ (¬ (σ 5 6) ≤ x5 → ((¬ ((x3 >>> (x5 &&& 31)) &&& (1 : Int32)) = 0 → wp_K_leadingWithout σ x5 (fun (r13 : Int32) (t14 : Hp) => wp_D_balanceOf t14 x1 x2 r13 (fun (r15 : Int32) (t16 : Hp) => (vp_in x4 12) ∧ (∀ v18 : Int32, v18 = x4 + (1 : Int32) → (∀ v19 : Int32, v19 = x5 + (1 : Int32) → I6 (st t16 9 (ix x4) r15) x1 x2 x3 v18 v19))))) ∧ (((x3 >>> (x5 &&& 31)) &&& (1 : Int32)) = 0 → (∀ v20 : Int32, v20 = x5 + (1 : Int32) → I6 σ x1 x2 x3 x4 v20)))))
def j_P_mostAlike_6 (P : Int32 → Hp → Prop)  (σ : Hp) (x1 : Int32) (x2 : Int32) (x3 : Int32) (x4 : Int32) (x5 : Int32) : Prop := ∀ I6 : Hp → Int32 → Int32 → Int32 → Int32 → Int32 → Prop, (∀ (σ : Hp) (x1 : Int32) (x2 : Int32) (x3 : Int32) (x4 : Int32) (x5 : Int32), b_P_mostAlike_6_  P  I6 σ x1 x2 x3 x4 x5 → I6 σ x1 x2 x3 x4 x5) → I6 σ x1 x2 x3 x4 x5
def wp_P_mostAlike (σ : Hp) (a1 : Int32) (a2 : Int32) (a3 : Int32) (P : Int32 → Hp → Prop) : Prop :=
  j_P_mostAlike_6 P σ a1 a2 a3 (0 : Int32) (0 : Int32)
set_option maxHeartbeats 4000000 in
set_option maxRecDepth 100000 in
theorem wj_P_mostAlike_83 {w : Wd} {κ : Kx} {P : Int32 → Hp → Prop} (hC : Cx μC w 9 κ nC7 b_P_mostAlike 4) (hR : RtI μC w 9 κ b_P_mostAlike .int P) {I70 : Hp → Int32 → Int32 → Int32 → Prop} (hI70 : ∀ σ x4 x5 x6, I70 σ x4 x5 x6 → V μC w 9 κ σ [some (.ref (w.1 0)), none, none, none, some (.int x4), some (.int x5), some (.int x6), none, none] 70 []) : ∀ (σ : Hp) (x4 : Int32) (x5 : Int32) (x6 : Int32) (x7 : Int32) (x8 : Int32), j_P_mostAlike_83  P I70 σ x4 x5 x6 x7 x8 → V μC w 9 κ σ [some (.ref (w.1 0)), none, none, none, some (.int x4), some (.int x5), some (.int x6), some (.int x7), some (.int x8)] 83 [] := by
  intro σ x4 x5 x6 x7 x8 h
  refine h (fun σ x4 x5 x6 x7 x8 => V μC w 9 κ σ [some (.ref (w.1 0)), none, none, none, some (.int x4), some (.int x5), some (.int x6), some (.int x7), some (.int x8)] 83 []) (fun σ x4 x5 x6 x7 x8 h => ?_)
  unfold b_P_mostAlike_83_ at h
  refine V.iload hC d_P_mostAlike_83 rfl ?_
  refine V.iload hC d_P_mostAlike_85 rfl ?_
  refine V.icmp_ge (tgt := 116) hC d_P_mostAlike_87 (by decide) (fun c1 => ?_) (fun c1 => ?_)
  · replace h := h.1 c1
    refine V.iload hC d_P_mostAlike_116 rfl ?_
    refine V.iload hC d_P_mostAlike_118 rfl ?_
    refine V.mmax hC d_P_mostAlike_120 qm_P_247 qmax_s qmath_i qmax_c rfl rfl ?_
    obtain ⟨v2, ev2⟩ : ∃ y : Int32, y = if x5 < x7 then x7 else x5 := ⟨_, rfl⟩
    replace h := h v2 ev2
    refine V.istore (y := v2) (lo' := [some (.ref (w.1 0)), none, none, none, some (.int x4), some (.int v2), some (.int x6), some (.int x7), some (.int x8)]) hC d_P_mostAlike_123 rfl ev2 rfl ?_
    obtain ⟨v3, ev3⟩ : ∃ y : Int32, y = x6 + (1 : Int32) := ⟨_, rfl⟩
    replace h := h v3 ev3
    refine V.iinc (y := v3) (lo' := [some (.ref (w.1 0)), none, none, none, some (.int x4), some (.int v2), some (.int v3), some (.int x7), some (.int x8)]) hC d_P_mostAlike_125 rfl rfl (show v3 = _ + Int32.ofInt (1) from ev3) rfl ?_
    refine V.goto (tgt := 70) hC d_P_mostAlike_128 (by decide) ?_
    exact V.msk [true, false, false, false, true, true, true, false, false] rfl (hI70 σ x4 v2 v3 h)
  · replace h := h.2 c1
    refine V.aload_n hC d_P_mostAlike_90 rfl rfl ?_
    refine V.getR (j := 8) hC d_P_mostAlike_91 rfl rfl uC7 rfl rfl qf_P_63 ?_
    refine V.iload hC d_P_mostAlike_94 rfl ?_
    obtain ⟨b4, h⟩ := h
    refine V.iald hC d_P_mostAlike_96 rfl b4 ?_
    refine V.aload_n hC d_P_mostAlike_97 rfl rfl ?_
    refine V.getR (j := 8) hC d_P_mostAlike_98 rfl rfl uC7 rfl rfl qf_P_63 ?_
    refine V.iload hC d_P_mostAlike_101 rfl ?_
    obtain ⟨b5, h⟩ := h
    refine V.iald hC d_P_mostAlike_103 rfl b5 ?_
    refine V.icmp_ne (tgt := 110) hC d_P_mostAlike_104 (by decide) (fun c6 => ?_) (fun c6 => ?_)
    · replace h := h.1 c6
      obtain ⟨v7, ev7⟩ : ∃ y : Int32, y = x8 + (1 : Int32) := ⟨_, rfl⟩
      replace h := h v7 ev7
      refine V.iinc (y := v7) (lo' := [some (.ref (w.1 0)), none, none, none, some (.int x4), some (.int x5), some (.int x6), some (.int x7), some (.int v7)]) hC d_P_mostAlike_110 rfl rfl (show v7 = _ + Int32.ofInt (1) from ev7) rfl ?_
      refine V.goto (tgt := 83) hC d_P_mostAlike_113 (by decide) ?_
      exact V.msk [true, false, false, false, true, true, true, true, true] rfl h
    · replace h := h.2 c6
      obtain ⟨v8, ev8⟩ : ∃ y : Int32, y = x7 + (1 : Int32) := ⟨_, rfl⟩
      replace h := h v8 ev8
      refine V.iinc (y := v8) (lo' := [some (.ref (w.1 0)), none, none, none, some (.int x4), some (.int x5), some (.int x6), some (.int v8), some (.int x8)]) hC d_P_mostAlike_107 rfl rfl (show v8 = _ + Int32.ofInt (1) from ev8) rfl ?_
      obtain ⟨v9, ev9⟩ : ∃ y : Int32, y = x8 + (1 : Int32) := ⟨_, rfl⟩
      replace h := h v9 ev9
      refine V.iinc (y := v9) (lo' := [some (.ref (w.1 0)), none, none, none, some (.int x4), some (.int x5), some (.int x6), some (.int v8), some (.int v9)]) hC d_P_mostAlike_110 rfl rfl (show v9 = _ + Int32.ofInt (1) from ev9) rfl ?_
      refine V.goto (tgt := 83) hC d_P_mostAlike_113 (by decide) ?_
      exact V.msk [true, false, false, false, true, true, true, true, true] rfl h
set_option maxHeartbeats 4000000 in
set_option maxRecDepth 100000 in
theorem wj_P_mostAlike_70 {w : Wd} {κ : Kx} {P : Int32 → Hp → Prop} (hC : Cx μC w 9 κ nC7 b_P_mostAlike 4) (hR : RtI μC w 9 κ b_P_mostAlike .int P)  : ∀ (σ : Hp) (x4 : Int32) (x5 : Int32) (x6 : Int32), j_P_mostAlike_70  P  σ x4 x5 x6 → V μC w 9 κ σ [some (.ref (w.1 0)), none, none, none, some (.int x4), some (.int x5), some (.int x6), none, none] 70 [] := by
  intro σ x4 x5 x6 h
  refine h (fun σ x4 x5 x6 => V μC w 9 κ σ [some (.ref (w.1 0)), none, none, none, some (.int x4), some (.int x5), some (.int x6), none, none] 70 []) (fun σ x4 x5 x6 h => ?_)
  unfold b_P_mostAlike_70_ at h
  refine V.iload hC d_P_mostAlike_70 rfl ?_
  refine V.iload hC d_P_mostAlike_72 rfl ?_
  refine V.icmp_ge (tgt := 131) hC d_P_mostAlike_74 (by decide) (fun c10 => ?_) (fun c10 => ?_)
  · replace h := h.1 c10
    refine V.iload hC d_P_mostAlike_131 rfl ?_
    exact hR _ _ _ _ h rfl d_P_mostAlike_133
  · replace h := h.2 c10
    refine V.iconst (v := 0) hC d_P_mostAlike_77 (by decide) ?_
    refine V.istore (y := (0 : Int32)) (lo' := [some (.ref (w.1 0)), none, none, none, some (.int x4), some (.int x5), some (.int x6), some (.int (0 : Int32)), none]) hC d_P_mostAlike_78 rfl rfl rfl ?_
    refine V.iconst (v := 0) hC d_P_mostAlike_80 (by decide) ?_
    refine V.istore (y := (0 : Int32)) (lo' := [some (.ref (w.1 0)), none, none, none, some (.int x4), some (.int x5), some (.int x6), some (.int (0 : Int32)), some (.int (0 : Int32))]) hC d_P_mostAlike_81 rfl rfl rfl ?_
    exact V.msk [true, false, false, false, true, true, true, true, true] rfl (wj_P_mostAlike_83  hC hR (fun _ _ _ _ h => h) σ x4 x5 x6 (0 : Int32) (0 : Int32) h)
set_option maxHeartbeats 4000000 in
set_option maxRecDepth 100000 in
theorem wj_P_mostAlike_6 {w : Wd} {κ : Kx} {P : Int32 → Hp → Prop} (hC : Cx μC w 9 κ nC7 b_P_mostAlike 4) (hR : RtI μC w 9 κ b_P_mostAlike .int P)  : ∀ (σ : Hp) (x1 : Int32) (x2 : Int32) (x3 : Int32) (x4 : Int32) (x5 : Int32), j_P_mostAlike_6  P  σ x1 x2 x3 x4 x5 → V μC w 9 κ σ [some (.ref (w.1 0)), some (.int x1), some (.int x2), some (.int x3), some (.int x4), some (.int x5), none, none, none] 6 [] := by
  intro σ x1 x2 x3 x4 x5 h
  refine h (fun σ x1 x2 x3 x4 x5 => V μC w 9 κ σ [some (.ref (w.1 0)), some (.int x1), some (.int x2), some (.int x3), some (.int x4), some (.int x5), none, none, none] 6 []) (fun σ x1 x2 x3 x4 x5 h => ?_)
  unfold b_P_mostAlike_6_ at h
  refine V.iload hC d_P_mostAlike_6 rfl ?_
  refine V.aload_n hC d_P_mostAlike_8 rfl rfl ?_
  refine V.getR (j := 4) hC d_P_mostAlike_9 rfl rfl uC7 rfl rfl qf_P_41 ?_
  refine V.getI (j := 6) hC d_P_mostAlike_12 rfl rfl uC2 rfl rfl qf_P_132 ?_
  refine V.icmp_ge (tgt := 64) hC d_P_mostAlike_15 (by decide) (fun c11 => ?_) (fun c11 => ?_)
  · replace h := h.1 c11
    refine V.iconst (v := 0) hC d_P_mostAlike_64 (by decide) ?_
    refine V.istore (y := (0 : Int32)) (lo' := [some (.ref (w.1 0)), some (.int x1), some (.int x2), some (.int x3), some (.int x4), some (.int (0 : Int32)), none, none, none]) hC d_P_mostAlike_65 rfl rfl rfl ?_
    refine V.iconst (v := 0) hC d_P_mostAlike_67 (by decide) ?_
    refine V.istore (y := (0 : Int32)) (lo' := [some (.ref (w.1 0)), some (.int x1), some (.int x2), some (.int x3), some (.int x4), some (.int (0 : Int32)), some (.int (0 : Int32)), none, none]) hC d_P_mostAlike_68 rfl rfl rfl ?_
    exact V.msk [true, false, false, false, true, true, true, false, false] rfl (wj_P_mostAlike_70  hC hR  σ x4 (0 : Int32) (0 : Int32) h)
  · replace h := h.2 c11
    refine V.iload_n hC d_P_mostAlike_18 rfl rfl ?_
    refine V.iload hC d_P_mostAlike_19 rfl ?_
    refine V.ishr hC d_P_mostAlike_21 ?_
    refine V.iconst (v := 1) hC d_P_mostAlike_22 (by decide) ?_
    refine V.iand hC d_P_mostAlike_23 ?_
    refine V.if_ne (tgt := 30) hC d_P_mostAlike_24 (by decide) (fun c12 => ?_) (fun c12 => ?_)
    · replace h := h.1 c12
      refine V.aload_n hC d_P_mostAlike_30 rfl rfl ?_
      refine V.getR (j := 8) hC d_P_mostAlike_31 rfl rfl uC7 rfl rfl qf_P_63 ?_
      refine V.iload hC d_P_mostAlike_34 rfl ?_
      refine V.aload_n hC d_P_mostAlike_36 rfl rfl ?_
      refine V.getR (j := 2) hC d_P_mostAlike_37 rfl rfl uC7 rfl rfl qf_P_28 ?_
      refine V.iload_n hC d_P_mostAlike_40 rfl rfl ?_
      refine V.iload_n hC d_P_mostAlike_41 rfl rfl ?_
      refine V.aload_n hC d_P_mostAlike_42 rfl rfl ?_
      refine V.getR (j := 4) hC d_P_mostAlike_43 rfl rfl uC7 rfl rfl qf_P_41 ?_
      refine V.iload hC d_P_mostAlike_46 rfl ?_
      refine V.callVI hC exC (w_K_leadingWithout w σ x5 _ h) d_P_mostAlike_48 mo_K_leadingWithout qm_P_234 rfl rfl rfl rfl rfl rfl rfl (Nat.le_of_ble_eq_true rfl) (fun r13 t14 h => ?_)
      refine V.callVI hC exC (w_D_balanceOf w t14 x1 x2 r13 _ h) d_P_mostAlike_51 mo_D_balanceOf qm_P_187 rfl rfl rfl rfl rfl rfl rfl (Nat.le_of_ble_eq_true rfl) (fun r15 t16 h => ?_)
      obtain ⟨b17, h⟩ := h
      refine V.iast hC d_P_mostAlike_54 rfl b17 ?_
      obtain ⟨v18, ev18⟩ : ∃ y : Int32, y = x4 + (1 : Int32) := ⟨_, rfl⟩
      replace h := h v18 ev18
      refine V.iinc (y := v18) (lo' := [some (.ref (w.1 0)), some (.int x1), some (.int x2), some (.int x3), some (.int v18), some (.int x5), none, none, none]) hC d_P_mostAlike_55 rfl rfl (show v18 = _ + Int32.ofInt (1) from ev18) rfl ?_
      obtain ⟨v19, ev19⟩ : ∃ y : Int32, y = x5 + (1 : Int32) := ⟨_, rfl⟩
      replace h := h v19 ev19
      refine V.iinc (y := v19) (lo' := [some (.ref (w.1 0)), some (.int x1), some (.int x2), some (.int x3), some (.int v18), some (.int v19), none, none, none]) hC d_P_mostAlike_58 rfl rfl (show v19 = _ + Int32.ofInt (1) from ev19) rfl ?_
      refine V.goto (tgt := 6) hC d_P_mostAlike_61 (by decide) ?_
      exact V.msk [true, true, true, true, true, true, false, false, false] rfl h
    · replace h := h.2 c12
      refine V.goto (tgt := 58) hC d_P_mostAlike_27 (by decide) ?_
      obtain ⟨v20, ev20⟩ : ∃ y : Int32, y = x5 + (1 : Int32) := ⟨_, rfl⟩
      replace h := h v20 ev20
      refine V.iinc (y := v20) (lo' := [some (.ref (w.1 0)), some (.int x1), some (.int x2), some (.int x3), some (.int x4), some (.int v20), none, none, none]) hC d_P_mostAlike_58 rfl rfl (show v20 = _ + Int32.ofInt (1) from ev20) rfl ?_
      refine V.goto (tgt := 6) hC d_P_mostAlike_61 (by decide) ?_
      exact V.msk [true, true, true, true, true, true, false, false, false] rfl h
set_option maxHeartbeats 4000000 in
set_option maxRecDepth 100000 in
theorem w_P_mostAlike (w : Wd) (σ : Hp) (a1 : Int32) (a2 : Int32) (a3 : Int32) (P : Int32 → Hp → Prop) (h : wp_P_mostAlike σ a1 a2 a3 P) : CtI μC w y_P_mostAlike b_P_mostAlike 9 (some .int) 4 [.ref (w.1 0), .int a1, .int a2, .int a3] σ P := by
  unfold wp_P_mostAlike at h
  refine CtI.ofV (C := nC7) (lo := [some (.ref (w.1 0)), some (.int a1), some (.int a2), some (.int a3), none, none, none, none, none]) exC (by decide +kernel) rfl rfl rfl (fun κ hC hR => ?_)
  refine V.iconst (v := 0) hC d_P_mostAlike_0 (by decide) ?_
  refine V.istore (y := (0 : Int32)) (lo' := [some (.ref (w.1 0)), some (.int a1), some (.int a2), some (.int a3), some (.int (0 : Int32)), none, none, none, none]) hC d_P_mostAlike_1 rfl rfl rfl ?_
  refine V.iconst (v := 0) hC d_P_mostAlike_3 (by decide) ?_
  refine V.istore (y := (0 : Int32)) (lo' := [some (.ref (w.1 0)), some (.int a1), some (.int a2), some (.int a3), some (.int (0 : Int32)), some (.int (0 : Int32)), none, none, none]) hC d_P_mostAlike_4 rfl rfl rfl ?_
  exact V.msk [true, true, true, true, true, true, false, false, false] rfl (wj_P_mostAlike_6  hC hR  σ a1 a2 a3 (0 : Int32) (0 : Int32) h)
abbrev b_P_ask : ByteArray := prog_1_method_29_code
def y_P_ask : MethodName := ⟨nC7, "ask", "(I)I"⟩
theorem d_P_ask_0 : decode b_P_ask 0 = .ok (.iload_n 1, 1) := by decide +kernel
theorem d_P_ask_1 : decode b_P_ask 1 = .ok (.invokestatic 126, 3) := by decide +kernel
theorem d_P_ask_4 : decode b_P_ask 4 = .ok (.ifCond .ne 6, 3) := by decide +kernel
theorem d_P_ask_7 : decode b_P_ask 7 = .ok (.bipush (-2), 2) := by decide +kernel
theorem d_P_ask_9 : decode b_P_ask 9 = .ok (.ireturn, 1) := by decide +kernel
theorem d_P_ask_10 : decode b_P_ask 10 = .ok (.aload_n 0, 1) := by decide +kernel
theorem d_P_ask_11 : decode b_P_ask 11 = .ok (.invokevirtual 241, 3) := by decide +kernel
theorem d_P_ask_14 : decode b_P_ask 14 = .ok (.istore_n 2, 1) := by decide +kernel
theorem d_P_ask_15 : decode b_P_ask 15 = .ok (.iconst (-1), 1) := by decide +kernel
theorem d_P_ask_16 : decode b_P_ask 16 = .ok (.istore_n 3, 1) := by decide +kernel
theorem d_P_ask_17 : decode b_P_ask 17 = .ok (.iconst 0, 1) := by decide +kernel
theorem d_P_ask_18 : decode b_P_ask 18 = .ok (.istore 4, 2) := by decide +kernel
theorem d_P_ask_20 : decode b_P_ask 20 = .ok (.iconst 0, 1) := by decide +kernel
theorem d_P_ask_21 : decode b_P_ask 21 = .ok (.istore 5, 2) := by decide +kernel
theorem d_P_ask_23 : decode b_P_ask 23 = .ok (.iload 5, 2) := by decide +kernel
theorem d_P_ask_25 : decode b_P_ask 25 = .ok (.aload_n 0, 1) := by decide +kernel
theorem d_P_ask_26 : decode b_P_ask 26 = .ok (.getfield 36, 3) := by decide +kernel
theorem d_P_ask_29 : decode b_P_ask 29 = .ok (.getfield 196, 3) := by decide +kernel
theorem d_P_ask_32 : decode b_P_ask 32 = .ok (.if_icmp .ge 41, 3) := by decide +kernel
theorem d_P_ask_35 : decode b_P_ask 35 = .ok (.aload_n 0, 1) := by decide +kernel
theorem d_P_ask_36 : decode b_P_ask 36 = .ok (.iload_n 1, 1) := by decide +kernel
theorem d_P_ask_37 : decode b_P_ask 37 = .ok (.iload 5, 2) := by decide +kernel
theorem d_P_ask_39 : decode b_P_ask 39 = .ok (.iload_n 2, 1) := by decide +kernel
theorem d_P_ask_40 : decode b_P_ask 40 = .ok (.invokevirtual 244, 3) := by decide +kernel
theorem d_P_ask_43 : decode b_P_ask 43 = .ok (.istore 6, 2) := by decide +kernel
theorem d_P_ask_45 : decode b_P_ask 45 = .ok (.iload_n 3, 1) := by decide +kernel
theorem d_P_ask_46 : decode b_P_ask 46 = .ok (.iconst (-1), 1) := by decide +kernel
theorem d_P_ask_47 : decode b_P_ask 47 = .ok (.if_icmp .eq 13, 3) := by decide +kernel
theorem d_P_ask_50 : decode b_P_ask 50 = .ok (.iload 6, 2) := by decide +kernel
theorem d_P_ask_52 : decode b_P_ask 52 = .ok (.iload 4, 2) := by decide +kernel
theorem d_P_ask_54 : decode b_P_ask 54 = .ok (.if_icmp .lt 6, 3) := by decide +kernel
theorem d_P_ask_57 : decode b_P_ask 57 = .ok (.goto 10, 3) := by decide +kernel
theorem d_P_ask_60 : decode b_P_ask 60 = .ok (.iload 5, 2) := by decide +kernel
theorem d_P_ask_62 : decode b_P_ask 62 = .ok (.istore_n 3, 1) := by decide +kernel
theorem d_P_ask_63 : decode b_P_ask 63 = .ok (.iload 6, 2) := by decide +kernel
theorem d_P_ask_65 : decode b_P_ask 65 = .ok (.istore 4, 2) := by decide +kernel
theorem d_P_ask_67 : decode b_P_ask 67 = .ok (.iinc 5 1, 3) := by decide +kernel
theorem d_P_ask_70 : decode b_P_ask 70 = .ok (.goto (-47), 3) := by decide +kernel
theorem d_P_ask_73 : decode b_P_ask 73 = .ok (.iload_n 3, 1) := by decide +kernel
theorem d_P_ask_74 : decode b_P_ask 74 = .ok (.ireturn, 1) := by decide +kernel
theorem qm_P_241 : Cond.methodLink nC7 241 y_P_never ∈ tbl := tbl_in 732 (by decide +kernel) rfl
theorem qm_P_244 : Cond.methodLink nC7 244 y_P_mostAlike ∈ tbl := tbl_in 733 (by decide +kernel) rfl
theorem mo_P_ask : MokV y_P_ask b_P_ask 7 (some .int) 1 := ⟨⟨(tbl_in 731 (by decide +kernel) rfl), (tbl_in 62 (by decide +kernel) rfl)⟩, ⟨(tbl_in 729 (by decide +kernel) rfl), tbl_lw _ (tbl_in 730 (by decide +kernel) rfl), (tbl_in 730 (by decide +kernel) rfl)⟩, ⟨by decide +kernel, by decide +kernel⟩, by decide +kernel⟩
def b_P_ask_23_ (P : Int32 → Hp → Prop)  (I23 : Hp → Int32 → Int32 → Int32 → Int32 → Int32 → Prop) (σ : Hp) (x1 : Int32) (x2 : Int32) (x3 : Int32) (x4 : Int32) (x5 : Int32) : Prop :=
  (((σ 4 6) ≤ x5 → P x3 σ) ∧ (¬ (σ 4 6) ≤ x5 → wp_P_mostAlike σ x1 x5 x2 (fun (r2 : Int32) (t3 : Hp) => ((x3 = (-1 : Int32) → (∀ v5 : Int32, v5 = x5 + (1 : Int32) → I23 t3 x1 x2 x5 r2 v5)) ∧ (¬ x3 = (-1 : Int32) → ((r2 < x4 → (∀ v7 : Int32, v7 = x5 + (1 : Int32) → I23 t3 x1 x2 x5 r2 v7)) ∧ (¬ r2 < x4 → (∀ v8 : Int32, v8 = x5 + (1 : Int32) → I23 t3 x1 x2 x3 x4 v8))))))))
def j_P_ask_23 (P : Int32 → Hp → Prop)  (σ : Hp) (x1 : Int32) (x2 : Int32) (x3 : Int32) (x4 : Int32) (x5 : Int32) : Prop := ∀ I23 : Hp → Int32 → Int32 → Int32 → Int32 → Int32 → Prop, (∀ (σ : Hp) (x1 : Int32) (x2 : Int32) (x3 : Int32) (x4 : Int32) (x5 : Int32), b_P_ask_23_  P  I23 σ x1 x2 x3 x4 x5 → I23 σ x1 x2 x3 x4 x5) → I23 σ x1 x2 x3 x4 x5
def wp_P_ask (σ : Hp) (a1 : Int32) (P : Int32 → Hp → Prop) : Prop :=
  wp_P_isDay σ a1 (fun (r9 : Int32) (t10 : Hp) => ((¬ r9 = 0 → wp_P_never t10 (fun (r12 : Int32) (t13 : Hp) => j_P_ask_23 P t13 a1 r12 (-1 : Int32) (0 : Int32) (0 : Int32))) ∧ (r9 = 0 → P (-2 : Int32) t10)))
set_option maxHeartbeats 4000000 in
set_option maxRecDepth 100000 in
theorem wj_P_ask_23 {w : Wd} {κ : Kx} {P : Int32 → Hp → Prop} (hC : Cx μC w 7 κ nC7 b_P_ask 6) (hR : RtI μC w 7 κ b_P_ask .int P)  : ∀ (σ : Hp) (x1 : Int32) (x2 : Int32) (x3 : Int32) (x4 : Int32) (x5 : Int32), j_P_ask_23  P  σ x1 x2 x3 x4 x5 → V μC w 7 κ σ [some (.ref (w.1 0)), some (.int x1), some (.int x2), some (.int x3), some (.int x4), some (.int x5), none] 23 [] := by
  intro σ x1 x2 x3 x4 x5 h
  refine h (fun σ x1 x2 x3 x4 x5 => V μC w 7 κ σ [some (.ref (w.1 0)), some (.int x1), some (.int x2), some (.int x3), some (.int x4), some (.int x5), none] 23 []) (fun σ x1 x2 x3 x4 x5 h => ?_)
  unfold b_P_ask_23_ at h
  refine V.iload hC d_P_ask_23 rfl ?_
  refine V.aload_n hC d_P_ask_25 rfl rfl ?_
  refine V.getR (j := 3) hC d_P_ask_26 rfl rfl uC7 rfl rfl qf_P_36 ?_
  refine V.getI (j := 6) hC d_P_ask_29 rfl rfl uC5 rfl rfl qf_P_196 ?_
  refine V.icmp_ge (tgt := 73) hC d_P_ask_32 (by decide) (fun c1 => ?_) (fun c1 => ?_)
  · replace h := h.1 c1
    refine V.iload_n hC d_P_ask_73 rfl rfl ?_
    exact hR _ _ _ _ h rfl d_P_ask_74
  · replace h := h.2 c1
    refine V.aload_n hC d_P_ask_35 rfl rfl ?_
    refine V.iload_n hC d_P_ask_36 rfl rfl ?_
    refine V.iload hC d_P_ask_37 rfl ?_
    refine V.iload_n hC d_P_ask_39 rfl rfl ?_
    refine V.callVI hC exC (w_P_mostAlike w σ x1 x5 x2 _ h) d_P_ask_40 mo_P_mostAlike qm_P_244 rfl rfl rfl rfl rfl rfl rfl (Nat.le_of_ble_eq_true rfl) (fun r2 t3 h => ?_)
    refine V.istore (y := r2) (lo' := [some (.ref (w.1 0)), some (.int x1), some (.int x2), some (.int x3), some (.int x4), some (.int x5), some (.int r2)]) hC d_P_ask_43 rfl rfl rfl ?_
    refine V.iload_n hC d_P_ask_45 rfl rfl ?_
    refine V.iconst (v := -1) hC d_P_ask_46 (by decide) ?_
    refine V.icmp_eq (tgt := 60) hC d_P_ask_47 (by decide) (fun c4 => ?_) (fun c4 => ?_)
    · replace h := h.1 c4
      refine V.iload hC d_P_ask_60 rfl ?_
      refine V.istore_n (y := x5) (lo' := [some (.ref (w.1 0)), some (.int x1), some (.int x2), some (.int x5), some (.int x4), some (.int x5), some (.int r2)]) hC d_P_ask_62 rfl rfl rfl rfl ?_
      refine V.iload hC d_P_ask_63 rfl ?_
      refine V.istore (y := r2) (lo' := [some (.ref (w.1 0)), some (.int x1), some (.int x2), some (.int x5), some (.int r2), some (.int x5), some (.int r2)]) hC d_P_ask_65 rfl rfl rfl ?_
      obtain ⟨v5, ev5⟩ : ∃ y : Int32, y = x5 + (1 : Int32) := ⟨_, rfl⟩
      replace h := h v5 ev5
      refine V.iinc (y := v5) (lo' := [some (.ref (w.1 0)), some (.int x1), some (.int x2), some (.int x5), some (.int r2), some (.int v5), some (.int r2)]) hC d_P_ask_67 rfl rfl (show v5 = _ + Int32.ofInt (1) from ev5) rfl ?_
      refine V.goto (tgt := 23) hC d_P_ask_70 (by decide) ?_
      exact V.msk [true, true, true, true, true, true, false] rfl h
    · replace h := h.2 c4
      refine V.iload hC d_P_ask_50 rfl ?_
      refine V.iload hC d_P_ask_52 rfl ?_
      refine V.icmp_lt (tgt := 60) hC d_P_ask_54 (by decide) (fun c6 => ?_) (fun c6 => ?_)
      · replace h := h.1 c6
        refine V.iload hC d_P_ask_60 rfl ?_
        refine V.istore_n (y := x5) (lo' := [some (.ref (w.1 0)), some (.int x1), some (.int x2), some (.int x5), some (.int x4), some (.int x5), some (.int r2)]) hC d_P_ask_62 rfl rfl rfl rfl ?_
        refine V.iload hC d_P_ask_63 rfl ?_
        refine V.istore (y := r2) (lo' := [some (.ref (w.1 0)), some (.int x1), some (.int x2), some (.int x5), some (.int r2), some (.int x5), some (.int r2)]) hC d_P_ask_65 rfl rfl rfl ?_
        obtain ⟨v7, ev7⟩ : ∃ y : Int32, y = x5 + (1 : Int32) := ⟨_, rfl⟩
        replace h := h v7 ev7
        refine V.iinc (y := v7) (lo' := [some (.ref (w.1 0)), some (.int x1), some (.int x2), some (.int x5), some (.int r2), some (.int v7), some (.int r2)]) hC d_P_ask_67 rfl rfl (show v7 = _ + Int32.ofInt (1) from ev7) rfl ?_
        refine V.goto (tgt := 23) hC d_P_ask_70 (by decide) ?_
        exact V.msk [true, true, true, true, true, true, false] rfl h
      · replace h := h.2 c6
        refine V.goto (tgt := 67) hC d_P_ask_57 (by decide) ?_
        obtain ⟨v8, ev8⟩ : ∃ y : Int32, y = x5 + (1 : Int32) := ⟨_, rfl⟩
        replace h := h v8 ev8
        refine V.iinc (y := v8) (lo' := [some (.ref (w.1 0)), some (.int x1), some (.int x2), some (.int x3), some (.int x4), some (.int v8), some (.int r2)]) hC d_P_ask_67 rfl rfl (show v8 = _ + Int32.ofInt (1) from ev8) rfl ?_
        refine V.goto (tgt := 23) hC d_P_ask_70 (by decide) ?_
        exact V.msk [true, true, true, true, true, true, false] rfl h
set_option maxHeartbeats 4000000 in
set_option maxRecDepth 100000 in
theorem w_P_ask (w : Wd) (σ : Hp) (a1 : Int32) (P : Int32 → Hp → Prop) (h : wp_P_ask σ a1 P) : CtI μC w y_P_ask b_P_ask 7 (some .int) 6 [.ref (w.1 0), .int a1] σ P := by
  unfold wp_P_ask at h
  refine CtI.ofV (C := nC7) (lo := [some (.ref (w.1 0)), some (.int a1), none, none, none, none, none]) exC (by decide +kernel) rfl rfl rfl (fun κ hC hR => ?_)
  refine V.iload_n hC d_P_ask_0 rfl rfl ?_
  refine V.callSI hC exC (w_P_isDay w σ a1 _ h) d_P_ask_1 mo_P_isDay qm_P_126 rfl rfl rfl rfl (Nat.le_of_ble_eq_true rfl) (fun r9 t10 h => ?_)
  refine V.if_ne (tgt := 10) hC d_P_ask_4 (by decide) (fun c11 => ?_) (fun c11 => ?_)
  · replace h := h.1 c11
    refine V.aload_n hC d_P_ask_10 rfl rfl ?_
    refine V.callVI hC exC (w_P_never w t10  _ h) d_P_ask_11 mo_P_never qm_P_241 rfl rfl rfl rfl rfl rfl rfl (Nat.le_of_ble_eq_true rfl) (fun r12 t13 h => ?_)
    refine V.istore_n (y := r12) (lo' := [some (.ref (w.1 0)), some (.int a1), some (.int r12), none, none, none, none]) hC d_P_ask_14 rfl rfl rfl rfl ?_
    refine V.iconst (v := -1) hC d_P_ask_15 (by decide) ?_
    refine V.istore_n (y := (-1 : Int32)) (lo' := [some (.ref (w.1 0)), some (.int a1), some (.int r12), some (.int (-1 : Int32)), none, none, none]) hC d_P_ask_16 rfl rfl rfl rfl ?_
    refine V.iconst (v := 0) hC d_P_ask_17 (by decide) ?_
    refine V.istore (y := (0 : Int32)) (lo' := [some (.ref (w.1 0)), some (.int a1), some (.int r12), some (.int (-1 : Int32)), some (.int (0 : Int32)), none, none]) hC d_P_ask_18 rfl rfl rfl ?_
    refine V.iconst (v := 0) hC d_P_ask_20 (by decide) ?_
    refine V.istore (y := (0 : Int32)) (lo' := [some (.ref (w.1 0)), some (.int a1), some (.int r12), some (.int (-1 : Int32)), some (.int (0 : Int32)), some (.int (0 : Int32)), none]) hC d_P_ask_21 rfl rfl rfl ?_
    exact V.msk [true, true, true, true, true, true, false] rfl (wj_P_ask_23  hC hR  t13 a1 r12 (-1 : Int32) (0 : Int32) (0 : Int32) h)
  · replace h := h.2 c11
    refine V.bipush (v := -2) hC d_P_ask_7 (by decide) ?_
    exact hR _ _ _ _ h rfl d_P_ask_9
abbrev b_B_take : ByteArray := prog_2_method_3_code
def y_B_take : MethodName := ⟨nC0, "take", "(LSoundPaid$Debts;III)V"⟩
theorem d_B_take_0 : decode b_B_take 0 = .ok (.aload_n 1, 1) := by decide +kernel
theorem d_B_take_1 : decode b_B_take 1 = .ok (.getfield 18, 3) := by decide +kernel
theorem d_B_take_4 : decode b_B_take 4 = .ok (.getfield 40, 3) := by decide +kernel
theorem d_B_take_7 : decode b_B_take 7 = .ok (.iload_n 2, 1) := by decide +kernel
theorem d_B_take_8 : decode b_B_take 8 = .ok (.iaload, 1) := by decide +kernel
theorem d_B_take_9 : decode b_B_take 9 = .ok (.istore 5, 2) := by decide +kernel
theorem d_B_take_11 : decode b_B_take 11 = .ok (.aload_n 1, 1) := by decide +kernel
theorem d_B_take_12 : decode b_B_take 12 = .ok (.getfield 18, 3) := by decide +kernel
theorem d_B_take_15 : decode b_B_take 15 = .ok (.getfield 43, 3) := by decide +kernel
theorem d_B_take_18 : decode b_B_take 18 = .ok (.iload_n 2, 1) := by decide +kernel
theorem d_B_take_19 : decode b_B_take 19 = .ok (.iaload, 1) := by decide +kernel
theorem d_B_take_20 : decode b_B_take 20 = .ok (.istore 6, 2) := by decide +kernel
theorem d_B_take_22 : decode b_B_take 22 = .ok (.aload_n 1, 1) := by decide +kernel
theorem d_B_take_23 : decode b_B_take 23 = .ok (.iload_n 2, 1) := by decide +kernel
theorem d_B_take_24 : decode b_B_take 24 = .ok (.iload_n 3, 1) := by decide +kernel
theorem d_B_take_25 : decode b_B_take 25 = .ok (.invokevirtual 46, 3) := by decide +kernel
theorem d_B_take_28 : decode b_B_take 28 = .ok (.istore 7, 2) := by decide +kernel
theorem d_B_take_30 : decode b_B_take 30 = .ok (.iload 5, 2) := by decide +kernel
theorem d_B_take_32 : decode b_B_take 32 = .ok (.iload 4, 2) := by decide +kernel
theorem d_B_take_34 : decode b_B_take 34 = .ok (.if_icmp .eq 10, 3) := by decide +kernel
theorem d_B_take_37 : decode b_B_take 37 = .ok (.iload 6, 2) := by decide +kernel
theorem d_B_take_39 : decode b_B_take 39 = .ok (.iload 4, 2) := by decide +kernel
theorem d_B_take_41 : decode b_B_take 41 = .ok (.if_icmp .ne 8, 3) := by decide +kernel
theorem d_B_take_44 : decode b_B_take 44 = .ok (.iload 7, 2) := by decide +kernel
theorem d_B_take_46 : decode b_B_take 46 = .ok (.ifCond .ne 4, 3) := by decide +kernel
theorem d_B_take_49 : decode b_B_take 49 = .ok (.return_, 1) := by decide +kernel
theorem d_B_take_50 : decode b_B_take 50 = .ok (.aload_n 0, 1) := by decide +kernel
theorem d_B_take_51 : decode b_B_take 51 = .ok (.getfield 9, 3) := by decide +kernel
theorem d_B_take_54 : decode b_B_take 54 = .ok (.aload_n 0, 1) := by decide +kernel
theorem d_B_take_55 : decode b_B_take 55 = .ok (.getfield 24, 3) := by decide +kernel
theorem d_B_take_58 : decode b_B_take 58 = .ok (.iload 5, 2) := by decide +kernel
theorem d_B_take_60 : decode b_B_take 60 = .ok (.iload 4, 2) := by decide +kernel
theorem d_B_take_62 : decode b_B_take 62 = .ok (.if_icmp .ne 8, 3) := by decide +kernel
theorem d_B_take_65 : decode b_B_take 65 = .ok (.iload 7, 2) := by decide +kernel
theorem d_B_take_67 : decode b_B_take 67 = .ok (.goto 6, 3) := by decide +kernel
theorem d_B_take_70 : decode b_B_take 70 = .ok (.iload 7, 2) := by decide +kernel
theorem d_B_take_72 : decode b_B_take 72 = .ok (.ineg, 1) := by decide +kernel
theorem d_B_take_73 : decode b_B_take 73 = .ok (.iastore, 1) := by decide +kernel
theorem d_B_take_74 : decode b_B_take 74 = .ok (.aload_n 0, 1) := by decide +kernel
theorem d_B_take_75 : decode b_B_take 75 = .ok (.getfield 15, 3) := by decide +kernel
theorem d_B_take_78 : decode b_B_take 78 = .ok (.aload_n 0, 1) := by decide +kernel
theorem d_B_take_79 : decode b_B_take 79 = .ok (.getfield 24, 3) := by decide +kernel
theorem d_B_take_82 : decode b_B_take 82 = .ok (.iload 5, 2) := by decide +kernel
theorem d_B_take_84 : decode b_B_take 84 = .ok (.iload 4, 2) := by decide +kernel
theorem d_B_take_86 : decode b_B_take 86 = .ok (.if_icmp .ne 10, 3) := by decide +kernel
theorem d_B_take_89 : decode b_B_take 89 = .ok (.iconst 1, 1) := by decide +kernel
theorem d_B_take_90 : decode b_B_take 90 = .ok (.iload 6, 2) := by decide +kernel
theorem d_B_take_92 : decode b_B_take 92 = .ok (.ishl, 1) := by decide +kernel
theorem d_B_take_93 : decode b_B_take 93 = .ok (.goto 10, 3) := by decide +kernel
theorem d_B_take_96 : decode b_B_take 96 = .ok (.iconst 1, 1) := by decide +kernel
theorem d_B_take_97 : decode b_B_take 97 = .ok (.bipush 8, 2) := by decide +kernel
theorem d_B_take_99 : decode b_B_take 99 = .ok (.iload 5, 2) := by decide +kernel
theorem d_B_take_101 : decode b_B_take 101 = .ok (.iadd, 1) := by decide +kernel
theorem d_B_take_102 : decode b_B_take 102 = .ok (.ishl, 1) := by decide +kernel
theorem d_B_take_103 : decode b_B_take 103 = .ok (.iastore, 1) := by decide +kernel
theorem d_B_take_104 : decode b_B_take 104 = .ok (.aload_n 0, 1) := by decide +kernel
theorem d_B_take_105 : decode b_B_take 105 = .ok (.dup, 1) := by decide +kernel
theorem d_B_take_106 : decode b_B_take 106 = .ok (.getfield 24, 3) := by decide +kernel
theorem d_B_take_109 : decode b_B_take 109 = .ok (.iconst 1, 1) := by decide +kernel
theorem d_B_take_110 : decode b_B_take 110 = .ok (.iadd, 1) := by decide +kernel
theorem d_B_take_111 : decode b_B_take 111 = .ok (.putfield 24, 3) := by decide +kernel
theorem d_B_take_114 : decode b_B_take 114 = .ok (.return_, 1) := by decide +kernel
theorem qf_B_15 : Cond.fieldLink nC0 15 (fC0 1).1 (fC0 1).2.1 (fC0 1).2.2.1 ∈ tbl := tbl_in 256 (by decide +kernel) rfl
theorem qf_B_18 : Cond.fieldLink nC0 18 (fC1 1).1 (fC1 1).2.1 (fC1 1).2.2.1 ∈ tbl := tbl_in 207 (by decide +kernel) rfl
theorem qf_B_24 : Cond.fieldLink nC0 24 (fC0 2).1 (fC0 2).2.1 (fC0 2).2.2.1 ∈ tbl := tbl_in 257 (by decide +kernel) rfl
theorem qf_B_40 : Cond.fieldLink nC0 40 (fC2 1).1 (fC2 1).2.1 (fC2 1).2.2.1 ∈ tbl := tbl_in 171 (by decide +kernel) rfl
theorem qf_B_43 : Cond.fieldLink nC0 43 (fC2 2).1 (fC2 2).2.1 (fC2 2).2.2.1 ∈ tbl := tbl_in 174 (by decide +kernel) rfl
theorem qf_B_9 : Cond.fieldLink nC0 9 (fC0 0).1 (fC0 0).2.1 (fC0 0).2.2.1 ∈ tbl := tbl_in 255 (by decide +kernel) rfl
theorem qm_B_46 : Cond.methodLink nC0 46 y_D_won ∈ tbl := tbl_in 751 (by decide +kernel) rfl
theorem mo_B_take : MokV y_B_take b_B_take 8 none 4 := ⟨⟨(tbl_in 750 (by decide +kernel) rfl), (tbl_in 68 (by decide +kernel) rfl)⟩, ⟨(tbl_in 749 (by decide +kernel) rfl), tbl_lw _ (tbl_in 13 (by decide +kernel) rfl), (tbl_in 13 (by decide +kernel) rfl)⟩, ⟨by decide +kernel, by decide +kernel⟩, by decide +kernel⟩
def j_B_take_73 (P : Hp → Prop)  (σ : Hp) (x4 : Int32) (x5 : Int32) (x6 : Int32) (s1 : Int32) (s2 : Int32) : Prop :=
  (vp_in s1 12) ∧ ((¬ x5 = x4 → (vp_in ((st σ 36 (ix s1) s2) 7 2) 12) ∧ P (st (st (st σ 36 (ix s1) s2) 37 (ix ((st σ 36 (ix s1) s2) 7 2)) ((1 : Int32) <<< (((8 : Int32) + x5) &&& 31))) 7 2 (((st (st σ 36 (ix s1) s2) 37 (ix ((st σ 36 (ix s1) s2) 7 2)) ((1 : Int32) <<< (((8 : Int32) + x5) &&& 31))) 7 2) + (1 : Int32)))) ∧ (x5 = x4 → (vp_in ((st σ 36 (ix s1) s2) 7 2) 12) ∧ P (st (st (st σ 36 (ix s1) s2) 37 (ix ((st σ 36 (ix s1) s2) 7 2)) ((1 : Int32) <<< (x6 &&& 31))) 7 2 (((st (st σ 36 (ix s1) s2) 37 (ix ((st σ 36 (ix s1) s2) 7 2)) ((1 : Int32) <<< (x6 &&& 31))) 7 2) + (1 : Int32)))))
def j_B_take_44 (P : Hp → Prop)  (σ : Hp) (x4 : Int32) (x5 : Int32) (x6 : Int32) (x7 : Int32) : Prop :=
  ((¬ x7 = 0 → ((¬ x5 = x4 → j_B_take_73 P σ x4 x5 x6 (σ 7 2) (-x7)) ∧ (x5 = x4 → j_B_take_73 P σ x4 x5 x6 (σ 7 2) x7))) ∧ (x7 = 0 → P σ))
def wp_B_take (σ : Hp) (a2 : Int32) (a3 : Int32) (a4 : Int32) (P : Hp → Prop) : Prop :=
  (vp_in a2 12) ∧ (∀ v8 : Int32, v8 = σ 28 (ix a2) → (vp_in a2 12) ∧ (∀ v10 : Int32, v10 = σ 29 (ix a2) → wp_D_won σ a2 a3 (fun (r11 : Int32) (t12 : Hp) => ((v8 = a4 → j_B_take_44 P t12 a4 v8 v10 r11) ∧ (¬ v8 = a4 → ((¬ v10 = a4 → P t12) ∧ (v10 = a4 → j_B_take_44 P t12 a4 v8 v10 r11)))))))
set_option maxHeartbeats 4000000 in
set_option maxRecDepth 100000 in
theorem wj_B_take_73 {w : Wd} {κ : Kx} {P : Hp → Prop} (hC : Cx μC w 8 κ nC0 b_B_take 3) (hR : RtN μC w 8 κ b_B_take P)  : ∀ (σ : Hp) (x4 : Int32) (x5 : Int32) (x6 : Int32) (s1 : Int32) (s2 : Int32), j_B_take_73  P  σ x4 x5 x6 s1 s2 → V μC w 8 κ σ [some (.ref (w.1 7)), none, none, none, some (.int x4), some (.int x5), some (.int x6), none] 73 [.int s2, .int s1, .ref (w.1 36)] := by
  intro σ x4 x5 x6 s1 s2 h
  unfold j_B_take_73 at h
  obtain ⟨b1, h⟩ := h
  refine V.iast hC d_B_take_73 rfl b1 ?_
  refine V.aload_n hC d_B_take_74 rfl rfl ?_
  refine V.getR (j := 1) hC d_B_take_75 rfl rfl uC0 rfl rfl qf_B_15 ?_
  refine V.aload_n hC d_B_take_78 rfl rfl ?_
  refine V.getI (j := 2) hC d_B_take_79 rfl rfl uC0 rfl rfl qf_B_24 ?_
  refine V.iload hC d_B_take_82 rfl ?_
  refine V.iload hC d_B_take_84 rfl ?_
  refine V.icmp_ne (tgt := 96) hC d_B_take_86 (by decide) (fun c2 => ?_) (fun c2 => ?_)
  · replace h := h.1 c2
    refine V.iconst (v := 1) hC d_B_take_96 (by decide) ?_
    refine V.bipush (v := 8) hC d_B_take_97 (by decide) ?_
    refine V.iload hC d_B_take_99 rfl ?_
    refine V.iadd hC d_B_take_101 ?_
    refine V.ishl hC d_B_take_102 ?_
    obtain ⟨b3, h⟩ := h
    refine V.iast hC d_B_take_103 rfl b3 ?_
    refine V.aload_n hC d_B_take_104 rfl rfl ?_
    refine V.dup hC d_B_take_105 rfl ?_
    refine V.getI (j := 2) hC d_B_take_106 rfl rfl uC0 rfl rfl qf_B_24 ?_
    refine V.iconst (v := 1) hC d_B_take_109 (by decide) ?_
    refine V.iadd hC d_B_take_110 ?_
    refine V.put (j := 2) hC d_B_take_111 rfl rfl uC0 pC0 dC0 rfl rfl rfl rfl rfl qf_B_24 ?_
    exact hR _ _ _ h d_B_take_114
  · replace h := h.2 c2
    refine V.iconst (v := 1) hC d_B_take_89 (by decide) ?_
    refine V.iload hC d_B_take_90 rfl ?_
    refine V.ishl hC d_B_take_92 ?_
    refine V.goto (tgt := 103) hC d_B_take_93 (by decide) ?_
    obtain ⟨b4, h⟩ := h
    refine V.iast hC d_B_take_103 rfl b4 ?_
    refine V.aload_n hC d_B_take_104 rfl rfl ?_
    refine V.dup hC d_B_take_105 rfl ?_
    refine V.getI (j := 2) hC d_B_take_106 rfl rfl uC0 rfl rfl qf_B_24 ?_
    refine V.iconst (v := 1) hC d_B_take_109 (by decide) ?_
    refine V.iadd hC d_B_take_110 ?_
    refine V.put (j := 2) hC d_B_take_111 rfl rfl uC0 pC0 dC0 rfl rfl rfl rfl rfl qf_B_24 ?_
    exact hR _ _ _ h d_B_take_114
set_option maxHeartbeats 4000000 in
set_option maxRecDepth 100000 in
theorem wj_B_take_44 {w : Wd} {κ : Kx} {P : Hp → Prop} (hC : Cx μC w 8 κ nC0 b_B_take 3) (hR : RtN μC w 8 κ b_B_take P)  : ∀ (σ : Hp) (x4 : Int32) (x5 : Int32) (x6 : Int32) (x7 : Int32), j_B_take_44  P  σ x4 x5 x6 x7 → V μC w 8 κ σ [some (.ref (w.1 7)), none, none, none, some (.int x4), some (.int x5), some (.int x6), some (.int x7)] 44 [] := by
  intro σ x4 x5 x6 x7 h
  unfold j_B_take_44 at h
  refine V.iload hC d_B_take_44 rfl ?_
  refine V.if_ne (tgt := 50) hC d_B_take_46 (by decide) (fun c5 => ?_) (fun c5 => ?_)
  · replace h := h.1 c5
    refine V.aload_n hC d_B_take_50 rfl rfl ?_
    refine V.getR (j := 0) hC d_B_take_51 rfl rfl uC0 rfl rfl qf_B_9 ?_
    refine V.aload_n hC d_B_take_54 rfl rfl ?_
    refine V.getI (j := 2) hC d_B_take_55 rfl rfl uC0 rfl rfl qf_B_24 ?_
    refine V.iload hC d_B_take_58 rfl ?_
    refine V.iload hC d_B_take_60 rfl ?_
    refine V.icmp_ne (tgt := 70) hC d_B_take_62 (by decide) (fun c6 => ?_) (fun c6 => ?_)
    · replace h := h.1 c6
      refine V.iload hC d_B_take_70 rfl ?_
      refine V.ineg hC d_B_take_72 ?_
      exact V.msk [true, false, false, false, true, true, true, false] rfl (wj_B_take_73  hC hR  σ x4 x5 x6 (σ 7 2) (-x7) h)
    · replace h := h.2 c6
      refine V.iload hC d_B_take_65 rfl ?_
      refine V.goto (tgt := 73) hC d_B_take_67 (by decide) ?_
      exact V.msk [true, false, false, false, true, true, true, false] rfl (wj_B_take_73  hC hR  σ x4 x5 x6 (σ 7 2) x7 h)
  · replace h := h.2 c5
    exact hR _ _ _ h d_B_take_49
set_option maxHeartbeats 4000000 in
set_option maxRecDepth 100000 in
theorem w_B_take (w : Wd) (σ : Hp) (a2 : Int32) (a3 : Int32) (a4 : Int32) (P : Hp → Prop) (h : wp_B_take σ a2 a3 a4 P) : CtN μC w y_B_take b_B_take 8 none 3 [.ref (w.1 7), .ref (w.1 3), .int a2, .int a3, .int a4] σ P := by
  unfold wp_B_take at h
  refine CtN.ofV (C := nC0) (lo := [some (.ref (w.1 7)), some (.ref (w.1 3)), some (.int a2), some (.int a3), some (.int a4), none, none, none]) exC (by decide +kernel) rfl rfl rfl (fun κ hC hR => ?_)
  refine V.aload_n hC d_B_take_0 rfl rfl ?_
  refine V.getR (j := 1) hC d_B_take_1 rfl rfl uC1 rfl rfl qf_B_18 ?_
  refine V.getR (j := 1) hC d_B_take_4 rfl rfl uC2 rfl rfl qf_B_40 ?_
  refine V.iload_n hC d_B_take_7 rfl rfl ?_
  obtain ⟨b7, h⟩ := h
  refine V.iald hC d_B_take_8 rfl b7 ?_
  obtain ⟨v8, ev8⟩ : ∃ y : Int32, y = σ 28 (ix a2) := ⟨_, rfl⟩
  replace h := h v8 ev8
  refine V.istore (y := v8) (lo' := [some (.ref (w.1 7)), some (.ref (w.1 3)), some (.int a2), some (.int a3), some (.int a4), some (.int v8), none, none]) hC d_B_take_9 rfl ev8 rfl ?_
  refine V.aload_n hC d_B_take_11 rfl rfl ?_
  refine V.getR (j := 1) hC d_B_take_12 rfl rfl uC1 rfl rfl qf_B_18 ?_
  refine V.getR (j := 2) hC d_B_take_15 rfl rfl uC2 rfl rfl qf_B_43 ?_
  refine V.iload_n hC d_B_take_18 rfl rfl ?_
  obtain ⟨b9, h⟩ := h
  refine V.iald hC d_B_take_19 rfl b9 ?_
  obtain ⟨v10, ev10⟩ : ∃ y : Int32, y = σ 29 (ix a2) := ⟨_, rfl⟩
  replace h := h v10 ev10
  refine V.istore (y := v10) (lo' := [some (.ref (w.1 7)), some (.ref (w.1 3)), some (.int a2), some (.int a3), some (.int a4), some (.int v8), some (.int v10), none]) hC d_B_take_20 rfl ev10 rfl ?_
  refine V.aload_n hC d_B_take_22 rfl rfl ?_
  refine V.iload_n hC d_B_take_23 rfl rfl ?_
  refine V.iload_n hC d_B_take_24 rfl rfl ?_
  refine V.callVI hC exC (w_D_won w σ a2 a3 _ h) d_B_take_25 mo_D_won qm_B_46 rfl rfl rfl rfl rfl rfl rfl (Nat.le_of_ble_eq_true rfl) (fun r11 t12 h => ?_)
  refine V.istore (y := r11) (lo' := [some (.ref (w.1 7)), some (.ref (w.1 3)), some (.int a2), some (.int a3), some (.int a4), some (.int v8), some (.int v10), some (.int r11)]) hC d_B_take_28 rfl rfl rfl ?_
  refine V.iload hC d_B_take_30 rfl ?_
  refine V.iload hC d_B_take_32 rfl ?_
  refine V.icmp_eq (tgt := 44) hC d_B_take_34 (by decide) (fun c13 => ?_) (fun c13 => ?_)
  · replace h := h.1 c13
    exact V.msk [true, false, false, false, true, true, true, true] rfl (wj_B_take_44  hC hR  t12 a4 v8 v10 r11 h)
  · replace h := h.2 c13
    refine V.iload hC d_B_take_37 rfl ?_
    refine V.iload hC d_B_take_39 rfl ?_
    refine V.icmp_ne (tgt := 49) hC d_B_take_41 (by decide) (fun c14 => ?_) (fun c14 => ?_)
    · replace h := h.1 c14
      exact hR _ _ _ h d_B_take_49
    · replace h := h.2 c14
      exact V.msk [true, false, false, false, true, true, true, true] rfl (wj_B_take_44  hC hR  t12 a4 v8 v10 r11 h)
abbrev b_B_hear : ByteArray := prog_2_method_2_code
def y_B_hear : MethodName := ⟨nC0, "hear", "(LSoundPaid$Debts;II)V"⟩
theorem d_B_hear_0 : decode b_B_hear 0 = .ok (.aload_n 1, 1) := by decide +kernel
theorem d_B_hear_1 : decode b_B_hear 1 = .ok (.getfield 18, 3) := by decide +kernel
theorem d_B_hear_4 : decode b_B_hear 4 = .ok (.astore 4, 2) := by decide +kernel
theorem d_B_hear_6 : decode b_B_hear 6 = .ok (.aload_n 0, 1) := by decide +kernel
theorem d_B_hear_7 : decode b_B_hear 7 = .ok (.iconst 0, 1) := by decide +kernel
theorem d_B_hear_8 : decode b_B_hear 8 = .ok (.putfield 24, 3) := by decide +kernel
theorem d_B_hear_11 : decode b_B_hear 11 = .ok (.iconst 0, 1) := by decide +kernel
theorem d_B_hear_12 : decode b_B_hear 12 = .ok (.istore 5, 2) := by decide +kernel
theorem d_B_hear_14 : decode b_B_hear 14 = .ok (.iload 5, 2) := by decide +kernel
theorem d_B_hear_16 : decode b_B_hear 16 = .ok (.iload_n 2, 1) := by decide +kernel
theorem d_B_hear_17 : decode b_B_hear 17 = .ok (.if_icmp .gt 50, 3) := by decide +kernel
theorem d_B_hear_20 : decode b_B_hear 20 = .ok (.iconst 0, 1) := by decide +kernel
theorem d_B_hear_21 : decode b_B_hear 21 = .ok (.istore 6, 2) := by decide +kernel
theorem d_B_hear_23 : decode b_B_hear 23 = .ok (.iload 6, 2) := by decide +kernel
theorem d_B_hear_25 : decode b_B_hear 25 = .ok (.aload 4, 2) := by decide +kernel
theorem d_B_hear_27 : decode b_B_hear 27 = .ok (.getfield 28, 3) := by decide +kernel
theorem d_B_hear_30 : decode b_B_hear 30 = .ok (.if_icmp .ge 31, 3) := by decide +kernel
theorem d_B_hear_33 : decode b_B_hear 33 = .ok (.aload 4, 2) := by decide +kernel
theorem d_B_hear_35 : decode b_B_hear 35 = .ok (.getfield 33, 3) := by decide +kernel
theorem d_B_hear_38 : decode b_B_hear 38 = .ok (.iload 6, 2) := by decide +kernel
theorem d_B_hear_40 : decode b_B_hear 40 = .ok (.iaload, 1) := by decide +kernel
theorem d_B_hear_41 : decode b_B_hear 41 = .ok (.iload 5, 2) := by decide +kernel
theorem d_B_hear_43 : decode b_B_hear 43 = .ok (.if_icmp .ne 12, 3) := by decide +kernel
theorem d_B_hear_46 : decode b_B_hear 46 = .ok (.aload_n 0, 1) := by decide +kernel
theorem d_B_hear_47 : decode b_B_hear 47 = .ok (.aload_n 1, 1) := by decide +kernel
theorem d_B_hear_48 : decode b_B_hear 48 = .ok (.iload 6, 2) := by decide +kernel
theorem d_B_hear_50 : decode b_B_hear 50 = .ok (.iload_n 2, 1) := by decide +kernel
theorem d_B_hear_51 : decode b_B_hear 51 = .ok (.iload_n 3, 1) := by decide +kernel
theorem d_B_hear_52 : decode b_B_hear 52 = .ok (.invokevirtual 36, 3) := by decide +kernel
theorem d_B_hear_55 : decode b_B_hear 55 = .ok (.iinc 6 1, 3) := by decide +kernel
theorem d_B_hear_58 : decode b_B_hear 58 = .ok (.goto (-35), 3) := by decide +kernel
theorem d_B_hear_61 : decode b_B_hear 61 = .ok (.iinc 5 1, 3) := by decide +kernel
theorem d_B_hear_64 : decode b_B_hear 64 = .ok (.goto (-50), 3) := by decide +kernel
theorem d_B_hear_67 : decode b_B_hear 67 = .ok (.return_, 1) := by decide +kernel
theorem qf_B_28 : Cond.fieldLink nC0 28 (fC2 6).1 (fC2 6).2.1 (fC2 6).2.2.1 ∈ tbl := tbl_in 181 (by decide +kernel) rfl
theorem qf_B_33 : Cond.fieldLink nC0 33 (fC2 0).1 (fC2 0).2.1 (fC2 0).2.2.1 ∈ tbl := tbl_in 167 (by decide +kernel) rfl
theorem qm_B_36 : Cond.methodLink nC0 36 y_B_take ∈ tbl := tbl_in 747 (by decide +kernel) rfl
theorem mo_B_hear : MokV y_B_hear b_B_hear 7 none 3 := ⟨⟨(tbl_in 746 (by decide +kernel) rfl), (tbl_in 68 (by decide +kernel) rfl)⟩, ⟨(tbl_in 744 (by decide +kernel) rfl), tbl_lw _ (tbl_in 745 (by decide +kernel) rfl), (tbl_in 745 (by decide +kernel) rfl)⟩, ⟨by decide +kernel, by decide +kernel⟩, by decide +kernel⟩
def b_B_hear_23_ (P : Hp → Prop) (I14 : Hp → Int32 → Int32 → Int32 → Prop) (I23 : Hp → Int32 → Int32 → Int32 → Int32 → Prop) (σ : Hp) (x2 : Int32) (x3 : Int32) (x5 : Int32) (x6 : Int32) : Prop :=
  (((σ 5 6) ≤ x6 → (∀ v2 : Int32, v2 = x5 + (1 : Int32) → I14 σ x2 x3 v2)) ∧ (¬ (σ 5 6) ≤ x6 → (vp_in x6 12) ∧ ((¬ (σ 27 (ix x6)) = x5 → (∀ v5 : Int32, v5 = x6 + (1 : Int32) → I23 σ x2 x3 x5 v5)) ∧ ((σ 27 (ix x6)) = x5 → wp_B_take σ x6 x2 x3 (fun (t7 : Hp) => (∀ v8 : Int32, v8 = x6 + (1 : Int32) → I23 t7 x2 x3 x5 v8))))))
def j_B_hear_23 (P : Hp → Prop) (I14 : Hp → Int32 → Int32 → Int32 → Prop) (σ : Hp) (x2 : Int32) (x3 : Int32) (x5 : Int32) (x6 : Int32) : Prop := ∀ I23 : Hp → Int32 → Int32 → Int32 → Int32 → Prop, (∀ (σ : Hp) (x2 : Int32) (x3 : Int32) (x5 : Int32) (x6 : Int32), b_B_hear_23_  P I14 I23 σ x2 x3 x5 x6 → I23 σ x2 x3 x5 x6) → I23 σ x2 x3 x5 x6
def b_B_hear_14_ (P : Hp → Prop)  (I14 : Hp → Int32 → Int32 → Int32 → Prop) (σ : Hp) (x2 : Int32) (x3 : Int32) (x5 : Int32) : Prop :=
  ((x2 < x5 → P σ) ∧ (¬ x2 < x5 → j_B_hear_23 P I14 σ x2 x3 x5 (0 : Int32)))
def j_B_hear_14 (P : Hp → Prop)  (σ : Hp) (x2 : Int32) (x3 : Int32) (x5 : Int32) : Prop := ∀ I14 : Hp → Int32 → Int32 → Int32 → Prop, (∀ (σ : Hp) (x2 : Int32) (x3 : Int32) (x5 : Int32), b_B_hear_14_  P  I14 σ x2 x3 x5 → I14 σ x2 x3 x5) → I14 σ x2 x3 x5
def wp_B_hear (σ : Hp) (a2 : Int32) (a3 : Int32) (P : Hp → Prop) : Prop :=
  j_B_hear_14 P (st σ 7 2 (0 : Int32)) a2 a3 (0 : Int32)
set_option maxHeartbeats 4000000 in
set_option maxRecDepth 100000 in
theorem wj_B_hear_23 {w : Wd} {κ : Kx} {P : Hp → Prop} (hC : Cx μC w 7 κ nC0 b_B_hear 4) (hR : RtN μC w 7 κ b_B_hear P) {I14 : Hp → Int32 → Int32 → Int32 → Prop} (hI14 : ∀ σ x2 x3 x5, I14 σ x2 x3 x5 → V μC w 7 κ σ [some (.ref (w.1 7)), some (.ref (w.1 3)), some (.int x2), some (.int x3), some (.ref (w.1 5)), some (.int x5), none] 14 []) : ∀ (σ : Hp) (x2 : Int32) (x3 : Int32) (x5 : Int32) (x6 : Int32), j_B_hear_23  P I14 σ x2 x3 x5 x6 → V μC w 7 κ σ [some (.ref (w.1 7)), some (.ref (w.1 3)), some (.int x2), some (.int x3), some (.ref (w.1 5)), some (.int x5), some (.int x6)] 23 [] := by
  intro σ x2 x3 x5 x6 h
  refine h (fun σ x2 x3 x5 x6 => V μC w 7 κ σ [some (.ref (w.1 7)), some (.ref (w.1 3)), some (.int x2), some (.int x3), some (.ref (w.1 5)), some (.int x5), some (.int x6)] 23 []) (fun σ x2 x3 x5 x6 h => ?_)
  unfold b_B_hear_23_ at h
  refine V.iload hC d_B_hear_23 rfl ?_
  refine V.aload hC d_B_hear_25 rfl ?_
  refine V.getI (j := 6) hC d_B_hear_27 rfl rfl uC2 rfl rfl qf_B_28 ?_
  refine V.icmp_ge (tgt := 61) hC d_B_hear_30 (by decide) (fun c1 => ?_) (fun c1 => ?_)
  · replace h := h.1 c1
    obtain ⟨v2, ev2⟩ : ∃ y : Int32, y = x5 + (1 : Int32) := ⟨_, rfl⟩
    replace h := h v2 ev2
    refine V.iinc (y := v2) (lo' := [some (.ref (w.1 7)), some (.ref (w.1 3)), some (.int x2), some (.int x3), some (.ref (w.1 5)), some (.int v2), some (.int x6)]) hC d_B_hear_61 rfl rfl (show v2 = _ + Int32.ofInt (1) from ev2) rfl ?_
    refine V.goto (tgt := 14) hC d_B_hear_64 (by decide) ?_
    exact V.msk [true, true, true, true, true, true, false] rfl (hI14 σ x2 x3 v2 h)
  · replace h := h.2 c1
    refine V.aload hC d_B_hear_33 rfl ?_
    refine V.getR (j := 0) hC d_B_hear_35 rfl rfl uC2 rfl rfl qf_B_33 ?_
    refine V.iload hC d_B_hear_38 rfl ?_
    obtain ⟨b3, h⟩ := h
    refine V.iald hC d_B_hear_40 rfl b3 ?_
    refine V.iload hC d_B_hear_41 rfl ?_
    refine V.icmp_ne (tgt := 55) hC d_B_hear_43 (by decide) (fun c4 => ?_) (fun c4 => ?_)
    · replace h := h.1 c4
      obtain ⟨v5, ev5⟩ : ∃ y : Int32, y = x6 + (1 : Int32) := ⟨_, rfl⟩
      replace h := h v5 ev5
      refine V.iinc (y := v5) (lo' := [some (.ref (w.1 7)), some (.ref (w.1 3)), some (.int x2), some (.int x3), some (.ref (w.1 5)), some (.int x5), some (.int v5)]) hC d_B_hear_55 rfl rfl (show v5 = _ + Int32.ofInt (1) from ev5) rfl ?_
      refine V.goto (tgt := 23) hC d_B_hear_58 (by decide) ?_
      exact V.msk [true, true, true, true, true, true, true] rfl h
    · replace h := h.2 c4
      refine V.aload_n hC d_B_hear_46 rfl rfl ?_
      refine V.aload_n hC d_B_hear_47 rfl rfl ?_
      refine V.iload hC d_B_hear_48 rfl ?_
      refine V.iload_n hC d_B_hear_50 rfl rfl ?_
      refine V.iload_n hC d_B_hear_51 rfl rfl ?_
      refine V.callVN hC exC (w_B_take w σ x6 x2 x3 _ h) d_B_hear_52 mo_B_take qm_B_36 rfl rfl rfl rfl rfl rfl rfl (Nat.le_of_ble_eq_true rfl) (fun t7 h => ?_)
      obtain ⟨v8, ev8⟩ : ∃ y : Int32, y = x6 + (1 : Int32) := ⟨_, rfl⟩
      replace h := h v8 ev8
      refine V.iinc (y := v8) (lo' := [some (.ref (w.1 7)), some (.ref (w.1 3)), some (.int x2), some (.int x3), some (.ref (w.1 5)), some (.int x5), some (.int v8)]) hC d_B_hear_55 rfl rfl (show v8 = _ + Int32.ofInt (1) from ev8) rfl ?_
      refine V.goto (tgt := 23) hC d_B_hear_58 (by decide) ?_
      exact V.msk [true, true, true, true, true, true, true] rfl h
set_option maxHeartbeats 4000000 in
set_option maxRecDepth 100000 in
theorem wj_B_hear_14 {w : Wd} {κ : Kx} {P : Hp → Prop} (hC : Cx μC w 7 κ nC0 b_B_hear 4) (hR : RtN μC w 7 κ b_B_hear P)  : ∀ (σ : Hp) (x2 : Int32) (x3 : Int32) (x5 : Int32), j_B_hear_14  P  σ x2 x3 x5 → V μC w 7 κ σ [some (.ref (w.1 7)), some (.ref (w.1 3)), some (.int x2), some (.int x3), some (.ref (w.1 5)), some (.int x5), none] 14 [] := by
  intro σ x2 x3 x5 h
  refine h (fun σ x2 x3 x5 => V μC w 7 κ σ [some (.ref (w.1 7)), some (.ref (w.1 3)), some (.int x2), some (.int x3), some (.ref (w.1 5)), some (.int x5), none] 14 []) (fun σ x2 x3 x5 h => ?_)
  unfold b_B_hear_14_ at h
  refine V.iload hC d_B_hear_14 rfl ?_
  refine V.iload_n hC d_B_hear_16 rfl rfl ?_
  refine V.icmp_gt (tgt := 67) hC d_B_hear_17 (by decide) (fun c9 => ?_) (fun c9 => ?_)
  · replace h := h.1 c9
    exact hR _ _ _ h d_B_hear_67
  · replace h := h.2 c9
    refine V.iconst (v := 0) hC d_B_hear_20 (by decide) ?_
    refine V.istore (y := (0 : Int32)) (lo' := [some (.ref (w.1 7)), some (.ref (w.1 3)), some (.int x2), some (.int x3), some (.ref (w.1 5)), some (.int x5), some (.int (0 : Int32))]) hC d_B_hear_21 rfl rfl rfl ?_
    exact V.msk [true, true, true, true, true, true, true] rfl (wj_B_hear_23  hC hR (fun _ _ _ _ h => h) σ x2 x3 x5 (0 : Int32) h)
set_option maxHeartbeats 4000000 in
set_option maxRecDepth 100000 in
theorem w_B_hear (w : Wd) (σ : Hp) (a2 : Int32) (a3 : Int32) (P : Hp → Prop) (h : wp_B_hear σ a2 a3 P) : CtN μC w y_B_hear b_B_hear 7 none 4 [.ref (w.1 7), .ref (w.1 3), .int a2, .int a3] σ P := by
  unfold wp_B_hear at h
  refine CtN.ofV (C := nC0) (lo := [some (.ref (w.1 7)), some (.ref (w.1 3)), some (.int a2), some (.int a3), none, none, none]) exC (by decide +kernel) rfl rfl rfl (fun κ hC hR => ?_)
  refine V.aload_n hC d_B_hear_0 rfl rfl ?_
  refine V.getR (j := 1) hC d_B_hear_1 rfl rfl uC1 rfl rfl qf_B_18 ?_
  refine V.astore (lo' := [some (.ref (w.1 7)), some (.ref (w.1 3)), some (.int a2), some (.int a3), some (.ref (w.1 5)), none, none]) hC d_B_hear_4 rfl rfl ?_
  refine V.aload_n hC d_B_hear_6 rfl rfl ?_
  refine V.iconst (v := 0) hC d_B_hear_7 (by decide) ?_
  refine V.put (j := 2) hC d_B_hear_8 rfl rfl uC0 pC0 dC0 rfl rfl rfl rfl rfl qf_B_24 ?_
  refine V.iconst (v := 0) hC d_B_hear_11 (by decide) ?_
  refine V.istore (y := (0 : Int32)) (lo' := [some (.ref (w.1 7)), some (.ref (w.1 3)), some (.int a2), some (.int a3), some (.ref (w.1 5)), some (.int (0 : Int32)), none]) hC d_B_hear_12 rfl rfl rfl ?_
  exact V.msk [true, true, true, true, true, true, false] rfl (wj_B_hear_14  hC hR  (st σ 7 2 (0 : Int32)) a2 a3 (0 : Int32) h)
abbrev b_B_weigh : ByteArray := prog_2_method_6_code
def y_B_weigh : MethodName := ⟨nC0, "weigh", "(LSoundPaid$Bench;IIII)J"⟩
theorem d_B_weigh_0 : decode b_B_weigh 0 = .ok (.iload_n 2, 1) := by decide +kernel
theorem d_B_weigh_1 : decode b_B_weigh 1 = .ok (.aload_n 0, 1) := by decide +kernel
theorem d_B_weigh_2 : decode b_B_weigh 2 = .ok (.getfield 24, 3) := by decide +kernel
theorem d_B_weigh_5 : decode b_B_weigh 5 = .ok (.if_icmp .lt 13, 3) := by decide +kernel
theorem d_B_weigh_8 : decode b_B_weigh 8 = .ok (.iload_n 3, 1) := by decide +kernel
theorem d_B_weigh_9 : decode b_B_weigh 9 = .ok (.ifCond .le 7, 3) := by decide +kernel
theorem d_B_weigh_12 : decode b_B_weigh 12 = .ok (.lconst 1, 1) := by decide +kernel
theorem d_B_weigh_13 : decode b_B_weigh 13 = .ok (.goto 4, 3) := by decide +kernel
theorem d_B_weigh_16 : decode b_B_weigh 16 = .ok (.lconst 0, 1) := by decide +kernel
theorem d_B_weigh_17 : decode b_B_weigh 17 = .ok (.lreturn, 1) := by decide +kernel
theorem d_B_weigh_18 : decode b_B_weigh 18 = .ok (.aload_n 0, 1) := by decide +kernel
theorem d_B_weigh_19 : decode b_B_weigh 19 = .ok (.getfield 15, 3) := by decide +kernel
theorem d_B_weigh_22 : decode b_B_weigh 22 = .ok (.iload_n 2, 1) := by decide +kernel
theorem d_B_weigh_23 : decode b_B_weigh 23 = .ok (.iaload, 1) := by decide +kernel
theorem d_B_weigh_24 : decode b_B_weigh 24 = .ok (.istore 5, 2) := by decide +kernel
theorem d_B_weigh_26 : decode b_B_weigh 26 = .ok (.iload 4, 2) := by decide +kernel
theorem d_B_weigh_28 : decode b_B_weigh 28 = .ok (.iload 5, 2) := by decide +kernel
theorem d_B_weigh_30 : decode b_B_weigh 30 = .ok (.iand, 1) := by decide +kernel
theorem d_B_weigh_31 : decode b_B_weigh 31 = .ok (.ifCond .eq 19, 3) := by decide +kernel
theorem d_B_weigh_34 : decode b_B_weigh 34 = .ok (.ldc2_w 54, 3) := by decide +kernel
theorem d_B_weigh_37 : decode b_B_weigh 37 = .ok (.aload_n 0, 1) := by decide +kernel
theorem d_B_weigh_38 : decode b_B_weigh 38 = .ok (.iload_n 1, 1) := by decide +kernel
theorem d_B_weigh_39 : decode b_B_weigh 39 = .ok (.iload_n 2, 1) := by decide +kernel
theorem d_B_weigh_40 : decode b_B_weigh 40 = .ok (.iconst 1, 1) := by decide +kernel
theorem d_B_weigh_41 : decode b_B_weigh 41 = .ok (.iadd, 1) := by decide +kernel
theorem d_B_weigh_42 : decode b_B_weigh 42 = .ok (.iload_n 3, 1) := by decide +kernel
theorem d_B_weigh_43 : decode b_B_weigh 43 = .ok (.iload 4, 2) := by decide +kernel
theorem d_B_weigh_45 : decode b_B_weigh 45 = .ok (.invokestatic 50, 3) := by decide +kernel
theorem d_B_weigh_48 : decode b_B_weigh 48 = .ok (.lmul, 1) := by decide +kernel
theorem d_B_weigh_49 : decode b_B_weigh 49 = .ok (.lreturn, 1) := by decide +kernel
theorem d_B_weigh_50 : decode b_B_weigh 50 = .ok (.aload_n 0, 1) := by decide +kernel
theorem d_B_weigh_51 : decode b_B_weigh 51 = .ok (.iload_n 1, 1) := by decide +kernel
theorem d_B_weigh_52 : decode b_B_weigh 52 = .ok (.iload_n 2, 1) := by decide +kernel
theorem d_B_weigh_53 : decode b_B_weigh 53 = .ok (.iconst 1, 1) := by decide +kernel
theorem d_B_weigh_54 : decode b_B_weigh 54 = .ok (.iadd, 1) := by decide +kernel
theorem d_B_weigh_55 : decode b_B_weigh 55 = .ok (.iload_n 3, 1) := by decide +kernel
theorem d_B_weigh_56 : decode b_B_weigh 56 = .ok (.aload_n 0, 1) := by decide +kernel
theorem d_B_weigh_57 : decode b_B_weigh 57 = .ok (.getfield 9, 3) := by decide +kernel
theorem d_B_weigh_60 : decode b_B_weigh 60 = .ok (.iload_n 2, 1) := by decide +kernel
theorem d_B_weigh_61 : decode b_B_weigh 61 = .ok (.iaload, 1) := by decide +kernel
theorem d_B_weigh_62 : decode b_B_weigh 62 = .ok (.iadd, 1) := by decide +kernel
theorem d_B_weigh_63 : decode b_B_weigh 63 = .ok (.iload 4, 2) := by decide +kernel
theorem d_B_weigh_65 : decode b_B_weigh 65 = .ok (.iload 5, 2) := by decide +kernel
theorem d_B_weigh_67 : decode b_B_weigh 67 = .ok (.ior, 1) := by decide +kernel
theorem d_B_weigh_68 : decode b_B_weigh 68 = .ok (.invokestatic 50, 3) := by decide +kernel
theorem d_B_weigh_71 : decode b_B_weigh 71 = .ok (.lstore 6, 2) := by decide +kernel
theorem d_B_weigh_73 : decode b_B_weigh 73 = .ok (.aload_n 0, 1) := by decide +kernel
theorem d_B_weigh_74 : decode b_B_weigh 74 = .ok (.iload_n 1, 1) := by decide +kernel
theorem d_B_weigh_75 : decode b_B_weigh 75 = .ok (.iload_n 2, 1) := by decide +kernel
theorem d_B_weigh_76 : decode b_B_weigh 76 = .ok (.iconst 1, 1) := by decide +kernel
theorem d_B_weigh_77 : decode b_B_weigh 77 = .ok (.iadd, 1) := by decide +kernel
theorem d_B_weigh_78 : decode b_B_weigh 78 = .ok (.iload_n 3, 1) := by decide +kernel
theorem d_B_weigh_79 : decode b_B_weigh 79 = .ok (.iload 4, 2) := by decide +kernel
theorem d_B_weigh_81 : decode b_B_weigh 81 = .ok (.invokestatic 50, 3) := by decide +kernel
theorem d_B_weigh_84 : decode b_B_weigh 84 = .ok (.lstore 8, 2) := by decide +kernel
theorem d_B_weigh_86 : decode b_B_weigh 86 = .ok (.iload_n 1, 1) := by decide +kernel
theorem d_B_weigh_87 : decode b_B_weigh 87 = .ok (.i2l, 1) := by decide +kernel
theorem d_B_weigh_88 : decode b_B_weigh 88 = .ok (.lload 6, 2) := by decide +kernel
theorem d_B_weigh_90 : decode b_B_weigh 90 = .ok (.lmul, 1) := by decide +kernel
theorem d_B_weigh_91 : decode b_B_weigh 91 = .ok (.bipush 16, 2) := by decide +kernel
theorem d_B_weigh_93 : decode b_B_weigh 93 = .ok (.iload_n 1, 1) := by decide +kernel
theorem d_B_weigh_94 : decode b_B_weigh 94 = .ok (.isub, 1) := by decide +kernel
theorem d_B_weigh_95 : decode b_B_weigh 95 = .ok (.i2l, 1) := by decide +kernel
theorem d_B_weigh_96 : decode b_B_weigh 96 = .ok (.lload 8, 2) := by decide +kernel
theorem d_B_weigh_98 : decode b_B_weigh 98 = .ok (.lmul, 1) := by decide +kernel
theorem d_B_weigh_99 : decode b_B_weigh 99 = .ok (.ladd, 1) := by decide +kernel
theorem d_B_weigh_100 : decode b_B_weigh 100 = .ok (.lreturn, 1) := by decide +kernel
theorem ql_B_54 : Cond.constantLong nC0 54 (16) ∈ tbl := tbl_in 759 (by decide +kernel) rfl
theorem qm_B_50 : Cond.methodLink nC0 50 y_B_weigh ∈ tbl := tbl_in 756 (by decide +kernel) rfl
theorem mo_B_weigh : MokS y_B_weigh b_B_weigh 10 (some .long) 5 := ⟨⟨(tbl_in 758 (by decide +kernel) rfl), (tbl_in 68 (by decide +kernel) rfl)⟩, (tbl_in 757 (by decide +kernel) rfl), ⟨by decide +kernel, by decide +kernel⟩, by decide +kernel⟩
def wp_B_weigh : Nat → Hp → Int32 → Int32 → Int32 → Int32 → (Int64 → Hp → Prop) → Prop
  | 0, _, _, _, _, _, _ => False
  | dp + 1, σ, a2, a3, a4, a5, P =>
  ((a3 < (σ 7 2) → (vp_in a3 12) ∧ (∀ v3 : Int32, v3 = σ 37 (ix a3) → (((a5 &&& v3) = 0 → (vp_in a3 12) ∧ wp_B_weigh dp σ a2 (a3 + (1 : Int32)) (a4 + (σ 36 (ix a3))) (a5 ||| v3) (fun (r6 : Int64) (t7 : Hp) => wp_B_weigh dp t7 a2 (a3 + (1 : Int32)) a4 a5 (fun (r8 : Int64) (t9 : Hp) => P (((a2.toInt64) * r6) + ((((16 : Int32) - a2).toInt64) * r8)) t9))) ∧ (¬ (a5 &&& v3) = 0 → wp_B_weigh dp σ a2 (a3 + (1 : Int32)) a4 a5 (fun (r10 : Int64) (t11 : Hp) => P ((16 : Int64) * r10) t11))))) ∧ (¬ a3 < (σ 7 2) → ((a4 ≤ 0 → P (0 : Int64) σ) ∧ (¬ a4 ≤ 0 → P (1 : Int64) σ))))
set_option maxHeartbeats 4000000 in
set_option maxRecDepth 100000 in
theorem w_B_weigh (w : Wd) (dp : Nat) : ∀ (σ : Hp) (a2 : Int32) (a3 : Int32) (a4 : Int32) (a5 : Int32) (P : Int64 → Hp → Prop), wp_B_weigh dp σ a2 a3 a4 a5 P → CtL μC w y_B_weigh b_B_weigh 10 (some .long) dp [.ref (w.1 7), .int a2, .int a3, .int a4, .int a5] σ P := by
  induction dp with
  | zero => intro σ a2 a3 a4 a5 P h; exact h.elim
  | succ dp ih =>
    intro σ a2 a3 a4 a5 P h
    unfold wp_B_weigh at h
    refine CtL.ofV (C := nC0) (lo := [some (.ref (w.1 7)), some (.int a2), some (.int a3), some (.int a4), some (.int a5), none, none, none, none, none]) exC (by decide +kernel) rfl rfl rfl (fun κ hC hR => ?_)
    refine V.iload_n hC d_B_weigh_0 rfl rfl ?_
    refine V.aload_n hC d_B_weigh_1 rfl rfl ?_
    refine V.getI (j := 2) hC d_B_weigh_2 rfl rfl uC0 rfl rfl qf_B_24 ?_
    refine V.icmp_lt (tgt := 18) hC d_B_weigh_5 (by decide) (fun c1 => ?_) (fun c1 => ?_)
    · replace h := h.1 c1
      refine V.aload_n hC d_B_weigh_18 rfl rfl ?_
      refine V.getR (j := 1) hC d_B_weigh_19 rfl rfl uC0 rfl rfl qf_B_15 ?_
      refine V.iload_n hC d_B_weigh_22 rfl rfl ?_
      obtain ⟨b2, h⟩ := h
      refine V.iald hC d_B_weigh_23 rfl b2 ?_
      obtain ⟨v3, ev3⟩ : ∃ y : Int32, y = σ 37 (ix a3) := ⟨_, rfl⟩
      replace h := h v3 ev3
      refine V.istore (y := v3) (lo' := [some (.ref (w.1 7)), some (.int a2), some (.int a3), some (.int a4), some (.int a5), some (.int v3), none, none, none, none]) hC d_B_weigh_24 rfl ev3 rfl ?_
      refine V.iload hC d_B_weigh_26 rfl ?_
      refine V.iload hC d_B_weigh_28 rfl ?_
      refine V.iand hC d_B_weigh_30 ?_
      refine V.if_eq (tgt := 50) hC d_B_weigh_31 (by decide) (fun c4 => ?_) (fun c4 => ?_)
      · replace h := h.1 c4
        refine V.aload_n hC d_B_weigh_50 rfl rfl ?_
        refine V.iload_n hC d_B_weigh_51 rfl rfl ?_
        refine V.iload_n hC d_B_weigh_52 rfl rfl ?_
        refine V.iconst (v := 1) hC d_B_weigh_53 (by decide) ?_
        refine V.iadd hC d_B_weigh_54 ?_
        refine V.iload_n hC d_B_weigh_55 rfl rfl ?_
        refine V.aload_n hC d_B_weigh_56 rfl rfl ?_
        refine V.getR (j := 0) hC d_B_weigh_57 rfl rfl uC0 rfl rfl qf_B_9 ?_
        refine V.iload_n hC d_B_weigh_60 rfl rfl ?_
        obtain ⟨b5, h⟩ := h
        refine V.iald hC d_B_weigh_61 rfl b5 ?_
        refine V.iadd hC d_B_weigh_62 ?_
        refine V.iload hC d_B_weigh_63 rfl ?_
        refine V.iload hC d_B_weigh_65 rfl ?_
        refine V.ior hC d_B_weigh_67 ?_
        refine V.callSL hC exC (ih σ a2 (a3 + (1 : Int32)) (a4 + (σ 36 (ix a3))) (a5 ||| v3) _ h) d_B_weigh_68 mo_B_weigh qm_B_50 rfl rfl (by simp) rfl (Nat.le_of_ble_eq_true rfl) (fun r6 t7 h => ?_)
        refine V.lstore (y := r6) (lo' := [some (.ref (w.1 7)), some (.int a2), some (.int a3), some (.int a4), some (.int a5), some (.int v3), some (.long r6), none, none, none]) hC d_B_weigh_71 rfl rfl rfl ?_
        refine V.aload_n hC d_B_weigh_73 rfl rfl ?_
        refine V.iload_n hC d_B_weigh_74 rfl rfl ?_
        refine V.iload_n hC d_B_weigh_75 rfl rfl ?_
        refine V.iconst (v := 1) hC d_B_weigh_76 (by decide) ?_
        refine V.iadd hC d_B_weigh_77 ?_
        refine V.iload_n hC d_B_weigh_78 rfl rfl ?_
        refine V.iload hC d_B_weigh_79 rfl ?_
        refine V.callSL hC exC (ih t7 a2 (a3 + (1 : Int32)) a4 a5 _ h) d_B_weigh_81 mo_B_weigh qm_B_50 rfl rfl (by simp) rfl (Nat.le_of_ble_eq_true rfl) (fun r8 t9 h => ?_)
        refine V.lstore (y := r8) (lo' := [some (.ref (w.1 7)), some (.int a2), some (.int a3), some (.int a4), some (.int a5), some (.int v3), some (.long r6), none, some (.long r8), none]) hC d_B_weigh_84 rfl rfl rfl ?_
        refine V.iload_n hC d_B_weigh_86 rfl rfl ?_
        refine V.i2l hC d_B_weigh_87 ?_
        refine V.lload hC d_B_weigh_88 rfl ?_
        refine V.lmul hC d_B_weigh_90 ?_
        refine V.bipush (v := 16) hC d_B_weigh_91 (by decide) ?_
        refine V.iload_n hC d_B_weigh_93 rfl rfl ?_
        refine V.isub hC d_B_weigh_94 ?_
        refine V.i2l hC d_B_weigh_95 ?_
        refine V.lload hC d_B_weigh_96 rfl ?_
        refine V.lmul hC d_B_weigh_98 ?_
        refine V.ladd hC d_B_weigh_99 ?_
        exact hR _ _ _ _ h d_B_weigh_100
      · replace h := h.2 c4
        refine V.ldc2 (v := 16) hC d_B_weigh_34 ql_B_54 ?_
        refine V.aload_n hC d_B_weigh_37 rfl rfl ?_
        refine V.iload_n hC d_B_weigh_38 rfl rfl ?_
        refine V.iload_n hC d_B_weigh_39 rfl rfl ?_
        refine V.iconst (v := 1) hC d_B_weigh_40 (by decide) ?_
        refine V.iadd hC d_B_weigh_41 ?_
        refine V.iload_n hC d_B_weigh_42 rfl rfl ?_
        refine V.iload hC d_B_weigh_43 rfl ?_
        refine V.callSL hC exC (ih σ a2 (a3 + (1 : Int32)) a4 a5 _ h) d_B_weigh_45 mo_B_weigh qm_B_50 rfl rfl (by simp) rfl (Nat.le_of_ble_eq_true rfl) (fun r10 t11 h => ?_)
        refine V.lmul hC d_B_weigh_48 ?_
        exact hR _ _ _ _ h d_B_weigh_49
    · replace h := h.2 c1
      refine V.iload_n hC d_B_weigh_8 rfl rfl ?_
      refine V.if_le (tgt := 16) hC d_B_weigh_9 (by decide) (fun c12 => ?_) (fun c12 => ?_)
      · replace h := h.1 c12
        refine V.lconst (v := 0) hC d_B_weigh_16 (by decide) ?_
        exact hR _ _ _ _ h d_B_weigh_17
      · replace h := h.2 c12
        refine V.lconst (v := 1) hC d_B_weigh_12 (by decide) ?_
        refine V.goto (tgt := 17) hC d_B_weigh_13 (by decide) ?_
        exact hR _ _ _ _ h d_B_weigh_17
abbrev b_B_weightAboveZero : ByteArray := prog_2_method_5_code
def y_B_weightAboveZero : MethodName := ⟨nC0, "weightAboveZero", "(I)J"⟩
theorem d_B_weightAboveZero_0 : decode b_B_weightAboveZero 0 = .ok (.aload_n 0, 1) := by decide +kernel
theorem d_B_weightAboveZero_1 : decode b_B_weightAboveZero 1 = .ok (.iload_n 1, 1) := by decide +kernel
theorem d_B_weightAboveZero_2 : decode b_B_weightAboveZero 2 = .ok (.iconst 0, 1) := by decide +kernel
theorem d_B_weightAboveZero_3 : decode b_B_weightAboveZero 3 = .ok (.iconst 0, 1) := by decide +kernel
theorem d_B_weightAboveZero_4 : decode b_B_weightAboveZero 4 = .ok (.iconst 0, 1) := by decide +kernel
theorem d_B_weightAboveZero_5 : decode b_B_weightAboveZero 5 = .ok (.invokestatic 50, 3) := by decide +kernel
theorem d_B_weightAboveZero_8 : decode b_B_weightAboveZero 8 = .ok (.lreturn, 1) := by decide +kernel
theorem mo_B_weightAboveZero : MokV y_B_weightAboveZero b_B_weightAboveZero 2 (some .long) 1 := ⟨⟨(tbl_in 755 (by decide +kernel) rfl), (tbl_in 68 (by decide +kernel) rfl)⟩, ⟨(tbl_in 753 (by decide +kernel) rfl), tbl_lw _ (tbl_in 754 (by decide +kernel) rfl), (tbl_in 754 (by decide +kernel) rfl)⟩, ⟨by decide +kernel, by decide +kernel⟩, by decide +kernel⟩
def wp_B_weightAboveZero (σ : Hp) (a1 : Int32) (P : Int64 → Hp → Prop) : Prop :=
  wp_B_weigh 13 σ a1 (0 : Int32) (0 : Int32) (0 : Int32) (fun (r1 : Int64) (t2 : Hp) => P r1 t2)
set_option maxHeartbeats 4000000 in
set_option maxRecDepth 100000 in
theorem w_B_weightAboveZero (w : Wd) (σ : Hp) (a1 : Int32) (P : Int64 → Hp → Prop) (h : wp_B_weightAboveZero σ a1 P) : CtL μC w y_B_weightAboveZero b_B_weightAboveZero 2 (some .long) 14 [.ref (w.1 7), .int a1] σ P := by
  unfold wp_B_weightAboveZero at h
  refine CtL.ofV (C := nC0) (lo := [some (.ref (w.1 7)), some (.int a1)]) exC (by decide +kernel) rfl rfl rfl (fun κ hC hR => ?_)
  refine V.aload_n hC d_B_weightAboveZero_0 rfl rfl ?_
  refine V.iload_n hC d_B_weightAboveZero_1 rfl rfl ?_
  refine V.iconst (v := 0) hC d_B_weightAboveZero_2 (by decide) ?_
  refine V.iconst (v := 0) hC d_B_weightAboveZero_3 (by decide) ?_
  refine V.iconst (v := 0) hC d_B_weightAboveZero_4 (by decide) ?_
  refine V.callSL hC exC (w_B_weigh w 13 σ a1 (0 : Int32) (0 : Int32) (0 : Int32) _ h) d_B_weightAboveZero_5 mo_B_weigh qm_B_50 rfl rfl (by simp) rfl (Nat.le_of_ble_eq_true rfl) (fun r1 t2 h => ?_)
  exact hR _ _ _ _ h d_B_weightAboveZero_8
abbrev b_B_weightOfAll : ByteArray := prog_2_method_4_code
def y_B_weightOfAll : MethodName := ⟨nC0, "weightOfAll", "()J"⟩
theorem d_B_weightOfAll_0 : decode b_B_weightOfAll 0 = .ok (.lconst 1, 1) := by decide +kernel
theorem d_B_weightOfAll_1 : decode b_B_weightOfAll 1 = .ok (.iconst 4, 1) := by decide +kernel
theorem d_B_weightOfAll_2 : decode b_B_weightOfAll 2 = .ok (.aload_n 0, 1) := by decide +kernel
theorem d_B_weightOfAll_3 : decode b_B_weightOfAll 3 = .ok (.getfield 24, 3) := by decide +kernel
theorem d_B_weightOfAll_6 : decode b_B_weightOfAll 6 = .ok (.imul, 1) := by decide +kernel
theorem d_B_weightOfAll_7 : decode b_B_weightOfAll 7 = .ok (.lshl, 1) := by decide +kernel
theorem d_B_weightOfAll_8 : decode b_B_weightOfAll 8 = .ok (.lreturn, 1) := by decide +kernel
theorem mo_B_weightOfAll : MokV y_B_weightOfAll b_B_weightOfAll 1 (some .long) 0 := ⟨⟨(tbl_in 763 (by decide +kernel) rfl), (tbl_in 68 (by decide +kernel) rfl)⟩, ⟨(tbl_in 761 (by decide +kernel) rfl), tbl_lw _ (tbl_in 762 (by decide +kernel) rfl), (tbl_in 762 (by decide +kernel) rfl)⟩, ⟨by decide +kernel, by decide +kernel⟩, by decide +kernel⟩
def wp_B_weightOfAll (σ : Hp)  (P : Int64 → Hp → Prop) : Prop :=
  P ((1 : Int64) <<< (((4 : Int32) * (σ 7 2)).toInt64 &&& 63)) σ
set_option maxHeartbeats 4000000 in
set_option maxRecDepth 100000 in
theorem w_B_weightOfAll (w : Wd) (σ : Hp)  (P : Int64 → Hp → Prop) (h : wp_B_weightOfAll σ  P) : CtL μC w y_B_weightOfAll b_B_weightOfAll 1 (some .long) 0 [.ref (w.1 7)] σ P := by
  unfold wp_B_weightOfAll at h
  refine CtL.ofV (C := nC0) (lo := [some (.ref (w.1 7))]) exC (by decide +kernel) rfl rfl rfl (fun κ hC hR => ?_)
  refine V.lconst (v := 1) hC d_B_weightOfAll_0 (by decide) ?_
  refine V.iconst (v := 4) hC d_B_weightOfAll_1 (by decide) ?_
  refine V.aload_n hC d_B_weightOfAll_2 rfl rfl ?_
  refine V.getI (j := 2) hC d_B_weightOfAll_3 rfl rfl uC0 rfl rfl qf_B_24 ?_
  refine V.imul hC d_B_weightOfAll_6 ?_
  refine V.lshl hC d_B_weightOfAll_7 ?_
  exact hR _ _ _ _ h d_B_weightOfAll_8
abbrev b_P_court : ByteArray := prog_1_method_31_code
def y_P_court : MethodName := ⟨nC7, "court", "(IIII)J"⟩
theorem d_P_court_0 : decode b_P_court 0 = .ok (.iload_n 1, 1) := by decide +kernel
theorem d_P_court_1 : decode b_P_court 1 = .ok (.ifCond .lt 39, 3) := by decide +kernel
theorem d_P_court_4 : decode b_P_court 4 = .ok (.iload_n 1, 1) := by decide +kernel
theorem d_P_court_5 : decode b_P_court 5 = .ok (.bipush 16, 2) := by decide +kernel
theorem d_P_court_7 : decode b_P_court 7 = .ok (.if_icmp .gt 33, 3) := by decide +kernel
theorem d_P_court_10 : decode b_P_court 10 = .ok (.iload_n 2, 1) := by decide +kernel
theorem d_P_court_11 : decode b_P_court 11 = .ok (.invokestatic 126, 3) := by decide +kernel
theorem d_P_court_14 : decode b_P_court 14 = .ok (.ifCond .eq 26, 3) := by decide +kernel
theorem d_P_court_17 : decode b_P_court 17 = .ok (.aload_n 0, 1) := by decide +kernel
theorem d_P_court_18 : decode b_P_court 18 = .ok (.iload_n 3, 1) := by decide +kernel
theorem d_P_court_19 : decode b_P_court 19 = .ok (.invokevirtual 97, 3) := by decide +kernel
theorem d_P_court_22 : decode b_P_court 22 = .ok (.ifCond .eq 18, 3) := by decide +kernel
theorem d_P_court_25 : decode b_P_court 25 = .ok (.iload 4, 2) := by decide +kernel
theorem d_P_court_27 : decode b_P_court 27 = .ok (.ifCond .eq 9, 3) := by decide +kernel
theorem d_P_court_30 : decode b_P_court 30 = .ok (.iload 4, 2) := by decide +kernel
theorem d_P_court_32 : decode b_P_court 32 = .ok (.iconst 1, 1) := by decide +kernel
theorem d_P_court_33 : decode b_P_court 33 = .ok (.if_icmp .ne 7, 3) := by decide +kernel
theorem d_P_court_36 : decode b_P_court 36 = .ok (.iconst 1, 1) := by decide +kernel
theorem d_P_court_37 : decode b_P_court 37 = .ok (.goto 4, 3) := by decide +kernel
theorem d_P_court_40 : decode b_P_court 40 = .ok (.iconst 0, 1) := by decide +kernel
theorem d_P_court_41 : decode b_P_court 41 = .ok (.istore 5, 2) := by decide +kernel
theorem d_P_court_43 : decode b_P_court 43 = .ok (.iload 5, 2) := by decide +kernel
theorem d_P_court_45 : decode b_P_court 45 = .ok (.ifCond .ne 7, 3) := by decide +kernel
theorem d_P_court_48 : decode b_P_court 48 = .ok (.ldc2_w 254, 3) := by decide +kernel
theorem d_P_court_51 : decode b_P_court 51 = .ok (.lreturn, 1) := by decide +kernel
theorem d_P_court_52 : decode b_P_court 52 = .ok (.aload_n 0, 1) := by decide +kernel
theorem d_P_court_53 : decode b_P_court 53 = .ok (.getfield 52, 3) := by decide +kernel
theorem d_P_court_56 : decode b_P_court 56 = .ok (.aload_n 0, 1) := by decide +kernel
theorem d_P_court_57 : decode b_P_court 57 = .ok (.getfield 28, 3) := by decide +kernel
theorem d_P_court_60 : decode b_P_court 60 = .ok (.iload_n 2, 1) := by decide +kernel
theorem d_P_court_61 : decode b_P_court 61 = .ok (.iload_n 3, 1) := by decide +kernel
theorem d_P_court_62 : decode b_P_court 62 = .ok (.invokevirtual 256, 3) := by decide +kernel
theorem d_P_court_65 : decode b_P_court 65 = .ok (.aload_n 0, 1) := by decide +kernel
theorem d_P_court_66 : decode b_P_court 66 = .ok (.getfield 52, 3) := by decide +kernel
theorem d_P_court_69 : decode b_P_court 69 = .ok (.iload_n 1, 1) := by decide +kernel
theorem d_P_court_70 : decode b_P_court 70 = .ok (.invokevirtual 260, 3) := by decide +kernel
theorem d_P_court_73 : decode b_P_court 73 = .ok (.lstore 6, 2) := by decide +kernel
theorem d_P_court_75 : decode b_P_court 75 = .ok (.lload 6, 2) := by decide +kernel
theorem d_P_court_77 : decode b_P_court 77 = .ok (.lconst 0, 1) := by decide +kernel
theorem d_P_court_78 : decode b_P_court 78 = .ok (.lcmp, 1) := by decide +kernel
theorem d_P_court_79 : decode b_P_court 79 = .ok (.ifCond .ne 7, 3) := by decide +kernel
theorem d_P_court_82 : decode b_P_court 82 = .ok (.iload 4, 2) := by decide +kernel
theorem d_P_court_84 : decode b_P_court 84 = .ok (.i2l, 1) := by decide +kernel
theorem d_P_court_85 : decode b_P_court 85 = .ok (.lreturn, 1) := by decide +kernel
theorem d_P_court_86 : decode b_P_court 86 = .ok (.aload_n 0, 1) := by decide +kernel
theorem d_P_court_87 : decode b_P_court 87 = .ok (.getfield 52, 3) := by decide +kernel
theorem d_P_court_90 : decode b_P_court 90 = .ok (.invokevirtual 264, 3) := by decide +kernel
theorem d_P_court_93 : decode b_P_court 93 = .ok (.lstore 8, 2) := by decide +kernel
theorem d_P_court_95 : decode b_P_court 95 = .ok (.lload 8, 2) := by decide +kernel
theorem d_P_court_97 : decode b_P_court 97 = .ok (.ldc2_w 268, 3) := by decide +kernel
theorem d_P_court_100 : decode b_P_court 100 = .ok (.ldiv, 1) := by decide +kernel
theorem d_P_court_101 : decode b_P_court 101 = .ok (.lstore 10, 2) := by decide +kernel
theorem d_P_court_103 : decode b_P_court 103 = .ok (.lload 10, 2) := by decide +kernel
theorem d_P_court_105 : decode b_P_court 105 = .ok (.lconst 0, 1) := by decide +kernel
theorem d_P_court_106 : decode b_P_court 106 = .ok (.lcmp, 1) := by decide +kernel
theorem d_P_court_107 : decode b_P_court 107 = .ok (.ifCond .le 37, 3) := by decide +kernel
theorem d_P_court_110 : decode b_P_court 110 = .ok (.lload 6, 2) := by decide +kernel
theorem d_P_court_112 : decode b_P_court 112 = .ok (.ldc2_w 268, 3) := by decide +kernel
theorem d_P_court_115 : decode b_P_court 115 = .ok (.lrem, 1) := by decide +kernel
theorem d_P_court_116 : decode b_P_court 116 = .ok (.lconst 0, 1) := by decide +kernel
theorem d_P_court_117 : decode b_P_court 117 = .ok (.lcmp, 1) := by decide +kernel
theorem d_P_court_118 : decode b_P_court 118 = .ok (.ifCond .ne 26, 3) := by decide +kernel
theorem d_P_court_121 : decode b_P_court 121 = .ok (.lload 6, 2) := by decide +kernel
theorem d_P_court_123 : decode b_P_court 123 = .ok (.ldc2_w 268, 3) := by decide +kernel
theorem d_P_court_126 : decode b_P_court 126 = .ok (.ldiv, 1) := by decide +kernel
theorem d_P_court_127 : decode b_P_court 127 = .ok (.lstore 6, 2) := by decide +kernel
theorem d_P_court_129 : decode b_P_court 129 = .ok (.lload 10, 2) := by decide +kernel
theorem d_P_court_131 : decode b_P_court 131 = .ok (.lstore 8, 2) := by decide +kernel
theorem d_P_court_133 : decode b_P_court 133 = .ok (.lload 10, 2) := by decide +kernel
theorem d_P_court_135 : decode b_P_court 135 = .ok (.ldc2_w 268, 3) := by decide +kernel
theorem d_P_court_138 : decode b_P_court 138 = .ok (.ldiv, 1) := by decide +kernel
theorem d_P_court_139 : decode b_P_court 139 = .ok (.lstore 10, 2) := by decide +kernel
theorem d_P_court_141 : decode b_P_court 141 = .ok (.goto (-38), 3) := by decide +kernel
theorem d_P_court_144 : decode b_P_court 144 = .ok (.iload 4, 2) := by decide +kernel
theorem d_P_court_146 : decode b_P_court 146 = .ok (.ifCond .ne 8, 3) := by decide +kernel
theorem d_P_court_149 : decode b_P_court 149 = .ok (.lload 6, 2) := by decide +kernel
theorem d_P_court_151 : decode b_P_court 151 = .ok (.goto 5, 3) := by decide +kernel
theorem d_P_court_154 : decode b_P_court 154 = .ok (.lload 8, 2) := by decide +kernel
theorem d_P_court_156 : decode b_P_court 156 = .ok (.lreturn, 1) := by decide +kernel
theorem ql_P_254 : Cond.constantLong nC7 254 (-9223372036854775806) ∈ tbl := tbl_in 742 (by decide +kernel) rfl
theorem ql_P_268 : Cond.constantLong nC7 268 (2) ∈ tbl := tbl_in 764 (by decide +kernel) rfl
theorem qf_P_52 : Cond.fieldLink nC7 52 (fC7 6).1 (fC7 6).2.1 (fC7 6).2.2.1 ∈ tbl := tbl_in 291 (by decide +kernel) rfl
theorem qm_P_256 : Cond.methodLink nC7 256 y_B_hear ∈ tbl := tbl_in 743 (by decide +kernel) rfl
theorem qm_P_260 : Cond.methodLink nC7 260 y_B_weightAboveZero ∈ tbl := tbl_in 752 (by decide +kernel) rfl
theorem qm_P_264 : Cond.methodLink nC7 264 y_B_weightOfAll ∈ tbl := tbl_in 760 (by decide +kernel) rfl
theorem mo_P_court : MokV y_P_court b_P_court 12 (some .long) 4 := ⟨⟨(tbl_in 741 (by decide +kernel) rfl), (tbl_in 62 (by decide +kernel) rfl)⟩, ⟨(tbl_in 739 (by decide +kernel) rfl), tbl_lw _ (tbl_in 740 (by decide +kernel) rfl), (tbl_in 740 (by decide +kernel) rfl)⟩, ⟨by decide +kernel, by decide +kernel⟩, by decide +kernel⟩
def j_P_court_144 (P : Int64 → Hp → Prop)  (σ : Hp) (x4 : Int32) (x6 : Int64) (x8 : Int64) : Prop :=
  ((¬ x4 = 0 → P x8 σ) ∧ (x4 = 0 → P x6 σ))
def b_P_court_103_ (P : Int64 → Hp → Prop)  (I103 : Hp → Int32 → Int64 → Int64 → Int64 → Prop) (σ : Hp) (x4 : Int32) (x6 : Int64) (x8 : Int64) (x10 : Int64) : Prop :=
  (((lg_cmp x10 (0 : Int64)) ≤ 0 → j_P_court_144 P σ x4 x6 x8) ∧ (¬ (lg_cmp x10 (0 : Int64)) ≤ 0 → ((¬ (lg_cmp (x6 - x6 / (2 : Int64) * (2 : Int64)) (0 : Int64)) = 0 → j_P_court_144 P σ x4 x6 x8) ∧ ((lg_cmp (x6 - x6 / (2 : Int64) * (2 : Int64)) (0 : Int64)) = 0 → (∀ v4 : Int64, v4 = x6 / (2 : Int64) → (∀ v5 : Int64, v5 = x10 / (2 : Int64) → I103 σ x4 v4 x10 v5))))))
def j_P_court_103 (P : Int64 → Hp → Prop)  (σ : Hp) (x4 : Int32) (x6 : Int64) (x8 : Int64) (x10 : Int64) : Prop := ∀ I103 : Hp → Int32 → Int64 → Int64 → Int64 → Prop, (∀ (σ : Hp) (x4 : Int32) (x6 : Int64) (x8 : Int64) (x10 : Int64), b_P_court_103_  P  I103 σ x4 x6 x8 x10 → I103 σ x4 x6 x8 x10) → I103 σ x4 x6 x8 x10
def j_P_court_41 (P : Int64 → Hp → Prop)  (σ : Hp) (x1 : Int32) (x2 : Int32) (x3 : Int32) (x4 : Int32) (s0 : Int32) : Prop :=
  ((¬ s0 = 0 → wp_B_hear σ x2 x3 (fun (t8 : Hp) => wp_B_weightAboveZero t8 x1 (fun (r9 : Int64) (t10 : Hp) => ((¬ (lg_cmp r9 (0 : Int64)) = 0 → wp_B_weightOfAll t10 (fun (r12 : Int64) (t13 : Hp) => (∀ v14 : Int64, v14 = r12 / (2 : Int64) → j_P_court_103 P t13 x4 r9 r12 v14))) ∧ ((lg_cmp r9 (0 : Int64)) = 0 → P (x4.toInt64) t10))))) ∧ (s0 = 0 → P (-9223372036854775806 : Int64) σ))
def j_P_court_40 (P : Int64 → Hp → Prop)  (σ : Hp) (x1 : Int32) (x2 : Int32) (x3 : Int32) (x4 : Int32) : Prop :=
  j_P_court_41 P σ x1 x2 x3 x4 (0 : Int32)
def j_P_court_36 (P : Int64 → Hp → Prop)  (σ : Hp) (x1 : Int32) (x2 : Int32) (x3 : Int32) (x4 : Int32) : Prop :=
  j_P_court_41 P σ x1 x2 x3 x4 (1 : Int32)
def wp_P_court (σ : Hp) (a1 : Int32) (a2 : Int32) (a3 : Int32) (a4 : Int32) (P : Int64 → Hp → Prop) : Prop :=
  ((a1 < 0 → j_P_court_40 P σ a1 a2 a3 a4) ∧ (¬ a1 < 0 → (((16 : Int32) < a1 → j_P_court_40 P σ a1 a2 a3 a4) ∧ (¬ (16 : Int32) < a1 → wp_P_isDay σ a2 (fun (r17 : Int32) (t18 : Hp) => ((r17 = 0 → j_P_court_40 P t18 a1 a2 a3 a4) ∧ (¬ r17 = 0 → wp_P_isHouse t18 a3 (fun (r20 : Int32) (t21 : Hp) => ((r20 = 0 → j_P_court_40 P t21 a1 a2 a3 a4) ∧ (¬ r20 = 0 → ((a4 = 0 → j_P_court_36 P t21 a1 a2 a3 a4) ∧ (¬ a4 = 0 → ((¬ a4 = (1 : Int32) → j_P_court_40 P t21 a1 a2 a3 a4) ∧ (a4 = (1 : Int32) → j_P_court_36 P t21 a1 a2 a3 a4))))))))))))))
set_option maxHeartbeats 4000000 in
set_option maxRecDepth 100000 in
theorem wj_P_court_144 {w : Wd} {κ : Kx} {P : Int64 → Hp → Prop} (hC : Cx μC w 12 κ nC7 b_P_court 15) (hR : RtL μC w 12 κ b_P_court P)  : ∀ (σ : Hp) (x4 : Int32) (x6 : Int64) (x8 : Int64), j_P_court_144  P  σ x4 x6 x8 → V μC w 12 κ σ [none, none, none, none, some (.int x4), none, some (.long x6), none, some (.long x8), none, none, none] 144 [] := by
  intro σ x4 x6 x8 h
  unfold j_P_court_144 at h
  refine V.iload hC d_P_court_144 rfl ?_
  refine V.if_ne (tgt := 154) hC d_P_court_146 (by decide) (fun c1 => ?_) (fun c1 => ?_)
  · replace h := h.1 c1
    refine V.lload hC d_P_court_154 rfl ?_
    exact hR _ _ _ _ h d_P_court_156
  · replace h := h.2 c1
    refine V.lload hC d_P_court_149 rfl ?_
    refine V.goto (tgt := 156) hC d_P_court_151 (by decide) ?_
    exact hR _ _ _ _ h d_P_court_156
set_option maxHeartbeats 4000000 in
set_option maxRecDepth 100000 in
theorem wj_P_court_103 {w : Wd} {κ : Kx} {P : Int64 → Hp → Prop} (hC : Cx μC w 12 κ nC7 b_P_court 15) (hR : RtL μC w 12 κ b_P_court P)  : ∀ (σ : Hp) (x4 : Int32) (x6 : Int64) (x8 : Int64) (x10 : Int64), j_P_court_103  P  σ x4 x6 x8 x10 → V μC w 12 κ σ [none, none, none, none, some (.int x4), none, some (.long x6), none, some (.long x8), none, some (.long x10), none] 103 [] := by
  intro σ x4 x6 x8 x10 h
  refine h (fun σ x4 x6 x8 x10 => V μC w 12 κ σ [none, none, none, none, some (.int x4), none, some (.long x6), none, some (.long x8), none, some (.long x10), none] 103 []) (fun σ x4 x6 x8 x10 h => ?_)
  unfold b_P_court_103_ at h
  refine V.lload hC d_P_court_103 rfl ?_
  refine V.lconst (v := 0) hC d_P_court_105 (by decide) ?_
  refine V.lcmp hC d_P_court_106 ?_
  refine V.if_le (tgt := 144) hC d_P_court_107 (by decide) (fun c2 => ?_) (fun c2 => ?_)
  · replace h := h.1 c2
    exact V.msk [false, false, false, false, true, false, true, false, true, false, false, false] rfl (wj_P_court_144  hC hR  σ x4 x6 x8 h)
  · replace h := h.2 c2
    refine V.lload hC d_P_court_110 rfl ?_
    refine V.ldc2 (v := 2) hC d_P_court_112 ql_P_268 ?_
    refine V.lrem hC d_P_court_115 (by decide) ?_
    refine V.lconst (v := 0) hC d_P_court_116 (by decide) ?_
    refine V.lcmp hC d_P_court_117 ?_
    refine V.if_ne (tgt := 144) hC d_P_court_118 (by decide) (fun c3 => ?_) (fun c3 => ?_)
    · replace h := h.1 c3
      exact V.msk [false, false, false, false, true, false, true, false, true, false, false, false] rfl (wj_P_court_144  hC hR  σ x4 x6 x8 h)
    · replace h := h.2 c3
      refine V.lload hC d_P_court_121 rfl ?_
      refine V.ldc2 (v := 2) hC d_P_court_123 ql_P_268 ?_
      refine V.ldiv hC d_P_court_126 (by decide) ?_
      obtain ⟨v4, ev4⟩ : ∃ y : Int64, y = x6 / (2 : Int64) := ⟨_, rfl⟩
      replace h := h v4 ev4
      refine V.lstore (y := v4) (lo' := [none, none, none, none, some (.int x4), none, some (.long v4), none, some (.long x8), none, some (.long x10), none]) hC d_P_court_127 rfl ev4 rfl ?_
      refine V.lload hC d_P_court_129 rfl ?_
      refine V.lstore (y := x10) (lo' := [none, none, none, none, some (.int x4), none, some (.long v4), none, some (.long x10), none, some (.long x10), none]) hC d_P_court_131 rfl rfl rfl ?_
      refine V.lload hC d_P_court_133 rfl ?_
      refine V.ldc2 (v := 2) hC d_P_court_135 ql_P_268 ?_
      refine V.ldiv hC d_P_court_138 (by decide) ?_
      obtain ⟨v5, ev5⟩ : ∃ y : Int64, y = x10 / (2 : Int64) := ⟨_, rfl⟩
      replace h := h v5 ev5
      refine V.lstore (y := v5) (lo' := [none, none, none, none, some (.int x4), none, some (.long v4), none, some (.long x10), none, some (.long v5), none]) hC d_P_court_139 rfl ev5 rfl ?_
      refine V.goto (tgt := 103) hC d_P_court_141 (by decide) ?_
      exact V.msk [false, false, false, false, true, false, true, false, true, false, true, false] rfl h
set_option maxHeartbeats 4000000 in
set_option maxRecDepth 100000 in
theorem wj_P_court_41 {w : Wd} {κ : Kx} {P : Int64 → Hp → Prop} (hC : Cx μC w 12 κ nC7 b_P_court 15) (hR : RtL μC w 12 κ b_P_court P)  : ∀ (σ : Hp) (x1 : Int32) (x2 : Int32) (x3 : Int32) (x4 : Int32) (s0 : Int32), j_P_court_41  P  σ x1 x2 x3 x4 s0 → V μC w 12 κ σ [some (.ref (w.1 0)), some (.int x1), some (.int x2), some (.int x3), some (.int x4), none, none, none, none, none, none, none] 41 [.int s0] := by
  intro σ x1 x2 x3 x4 s0 h
  unfold j_P_court_41 at h
  refine V.istore (y := s0) (lo' := [some (.ref (w.1 0)), some (.int x1), some (.int x2), some (.int x3), some (.int x4), some (.int s0), none, none, none, none, none, none]) hC d_P_court_41 rfl rfl rfl ?_
  refine V.iload hC d_P_court_43 rfl ?_
  refine V.if_ne (tgt := 52) hC d_P_court_45 (by decide) (fun c6 => ?_) (fun c6 => ?_)
  · replace h := h.1 c6
    refine V.aload_n hC d_P_court_52 rfl rfl ?_
    refine V.getR (j := 6) hC d_P_court_53 rfl rfl uC7 rfl rfl qf_P_52 ?_
    refine V.aload_n hC d_P_court_56 rfl rfl ?_
    refine V.getR (j := 2) hC d_P_court_57 rfl rfl uC7 rfl rfl qf_P_28 ?_
    refine V.iload_n hC d_P_court_60 rfl rfl ?_
    refine V.iload_n hC d_P_court_61 rfl rfl ?_
    refine V.callVN hC exC (w_B_hear w σ x2 x3 _ h) d_P_court_62 mo_B_hear qm_P_256 rfl rfl rfl rfl rfl rfl rfl (Nat.le_of_ble_eq_true rfl) (fun t8 h => ?_)
    refine V.aload_n hC d_P_court_65 rfl rfl ?_
    refine V.getR (j := 6) hC d_P_court_66 rfl rfl uC7 rfl rfl qf_P_52 ?_
    refine V.iload_n hC d_P_court_69 rfl rfl ?_
    refine V.callVL hC exC (w_B_weightAboveZero w t8 x1 _ h) d_P_court_70 mo_B_weightAboveZero qm_P_260 rfl rfl rfl rfl rfl rfl rfl (Nat.le_of_ble_eq_true rfl) (fun r9 t10 h => ?_)
    refine V.lstore (y := r9) (lo' := [some (.ref (w.1 0)), some (.int x1), some (.int x2), some (.int x3), some (.int x4), some (.int s0), some (.long r9), none, none, none, none, none]) hC d_P_court_73 rfl rfl rfl ?_
    refine V.lload hC d_P_court_75 rfl ?_
    refine V.lconst (v := 0) hC d_P_court_77 (by decide) ?_
    refine V.lcmp hC d_P_court_78 ?_
    refine V.if_ne (tgt := 86) hC d_P_court_79 (by decide) (fun c11 => ?_) (fun c11 => ?_)
    · replace h := h.1 c11
      refine V.aload_n hC d_P_court_86 rfl rfl ?_
      refine V.getR (j := 6) hC d_P_court_87 rfl rfl uC7 rfl rfl qf_P_52 ?_
      refine V.callVL hC exC (w_B_weightOfAll w t10  _ h) d_P_court_90 mo_B_weightOfAll qm_P_264 rfl rfl rfl rfl rfl rfl rfl (Nat.le_of_ble_eq_true rfl) (fun r12 t13 h => ?_)
      refine V.lstore (y := r12) (lo' := [some (.ref (w.1 0)), some (.int x1), some (.int x2), some (.int x3), some (.int x4), some (.int s0), some (.long r9), none, some (.long r12), none, none, none]) hC d_P_court_93 rfl rfl rfl ?_
      refine V.lload hC d_P_court_95 rfl ?_
      refine V.ldc2 (v := 2) hC d_P_court_97 ql_P_268 ?_
      refine V.ldiv hC d_P_court_100 (by decide) ?_
      obtain ⟨v14, ev14⟩ : ∃ y : Int64, y = r12 / (2 : Int64) := ⟨_, rfl⟩
      replace h := h v14 ev14
      refine V.lstore (y := v14) (lo' := [some (.ref (w.1 0)), some (.int x1), some (.int x2), some (.int x3), some (.int x4), some (.int s0), some (.long r9), none, some (.long r12), none, some (.long v14), none]) hC d_P_court_101 rfl ev14 rfl ?_
      exact V.msk [false, false, false, false, true, false, true, false, true, false, true, false] rfl (wj_P_court_103  hC hR  t13 x4 r9 r12 v14 h)
    · replace h := h.2 c11
      refine V.iload hC d_P_court_82 rfl ?_
      refine V.i2l hC d_P_court_84 ?_
      exact hR _ _ _ _ h d_P_court_85
  · replace h := h.2 c6
    refine V.ldc2 (v := -9223372036854775806) hC d_P_court_48 ql_P_254 ?_
    exact hR _ _ _ _ h d_P_court_51
set_option maxHeartbeats 4000000 in
set_option maxRecDepth 100000 in
theorem wj_P_court_40 {w : Wd} {κ : Kx} {P : Int64 → Hp → Prop} (hC : Cx μC w 12 κ nC7 b_P_court 15) (hR : RtL μC w 12 κ b_P_court P)  : ∀ (σ : Hp) (x1 : Int32) (x2 : Int32) (x3 : Int32) (x4 : Int32), j_P_court_40  P  σ x1 x2 x3 x4 → V μC w 12 κ σ [some (.ref (w.1 0)), some (.int x1), some (.int x2), some (.int x3), some (.int x4), none, none, none, none, none, none, none] 40 [] := by
  intro σ x1 x2 x3 x4 h
  unfold j_P_court_40 at h
  refine V.iconst (v := 0) hC d_P_court_40 (by decide) ?_
  exact V.msk [true, true, true, true, true, false, false, false, false, false, false, false] rfl (wj_P_court_41  hC hR  σ x1 x2 x3 x4 (0 : Int32) h)
set_option maxHeartbeats 4000000 in
set_option maxRecDepth 100000 in
theorem wj_P_court_36 {w : Wd} {κ : Kx} {P : Int64 → Hp → Prop} (hC : Cx μC w 12 κ nC7 b_P_court 15) (hR : RtL μC w 12 κ b_P_court P)  : ∀ (σ : Hp) (x1 : Int32) (x2 : Int32) (x3 : Int32) (x4 : Int32), j_P_court_36  P  σ x1 x2 x3 x4 → V μC w 12 κ σ [some (.ref (w.1 0)), some (.int x1), some (.int x2), some (.int x3), some (.int x4), none, none, none, none, none, none, none] 36 [] := by
  intro σ x1 x2 x3 x4 h
  unfold j_P_court_36 at h
  refine V.iconst (v := 1) hC d_P_court_36 (by decide) ?_
  refine V.goto (tgt := 41) hC d_P_court_37 (by decide) ?_
  exact V.msk [true, true, true, true, true, false, false, false, false, false, false, false] rfl (wj_P_court_41  hC hR  σ x1 x2 x3 x4 (1 : Int32) h)
set_option maxHeartbeats 4000000 in
set_option maxRecDepth 100000 in
theorem w_P_court (w : Wd) (σ : Hp) (a1 : Int32) (a2 : Int32) (a3 : Int32) (a4 : Int32) (P : Int64 → Hp → Prop) (h : wp_P_court σ a1 a2 a3 a4 P) : CtL μC w y_P_court b_P_court 12 (some .long) 15 [.ref (w.1 0), .int a1, .int a2, .int a3, .int a4] σ P := by
  unfold wp_P_court at h
  refine CtL.ofV (C := nC7) (lo := [some (.ref (w.1 0)), some (.int a1), some (.int a2), some (.int a3), some (.int a4), none, none, none, none, none, none, none]) exC (by decide +kernel) rfl rfl rfl (fun κ hC hR => ?_)
  refine V.iload_n hC d_P_court_0 rfl rfl ?_
  refine V.if_lt (tgt := 40) hC d_P_court_1 (by decide) (fun c15 => ?_) (fun c15 => ?_)
  · replace h := h.1 c15
    exact V.msk [true, true, true, true, true, false, false, false, false, false, false, false] rfl (wj_P_court_40  hC hR  σ a1 a2 a3 a4 h)
  · replace h := h.2 c15
    refine V.iload_n hC d_P_court_4 rfl rfl ?_
    refine V.bipush (v := 16) hC d_P_court_5 (by decide) ?_
    refine V.icmp_gt (tgt := 40) hC d_P_court_7 (by decide) (fun c16 => ?_) (fun c16 => ?_)
    · replace h := h.1 c16
      exact V.msk [true, true, true, true, true, false, false, false, false, false, false, false] rfl (wj_P_court_40  hC hR  σ a1 a2 a3 a4 h)
    · replace h := h.2 c16
      refine V.iload_n hC d_P_court_10 rfl rfl ?_
      refine V.callSI hC exC (w_P_isDay w σ a2 _ h) d_P_court_11 mo_P_isDay qm_P_126 rfl rfl rfl rfl (Nat.le_of_ble_eq_true rfl) (fun r17 t18 h => ?_)
      refine V.if_eq (tgt := 40) hC d_P_court_14 (by decide) (fun c19 => ?_) (fun c19 => ?_)
      · replace h := h.1 c19
        exact V.msk [true, true, true, true, true, false, false, false, false, false, false, false] rfl (wj_P_court_40  hC hR  t18 a1 a2 a3 a4 h)
      · replace h := h.2 c19
        refine V.aload_n hC d_P_court_17 rfl rfl ?_
        refine V.iload_n hC d_P_court_18 rfl rfl ?_
        refine V.callVI hC exC (w_P_isHouse w t18 a3 _ h) d_P_court_19 mo_P_isHouse qm_P_97 rfl rfl rfl rfl rfl rfl rfl (Nat.le_of_ble_eq_true rfl) (fun r20 t21 h => ?_)
        refine V.if_eq (tgt := 40) hC d_P_court_22 (by decide) (fun c22 => ?_) (fun c22 => ?_)
        · replace h := h.1 c22
          exact V.msk [true, true, true, true, true, false, false, false, false, false, false, false] rfl (wj_P_court_40  hC hR  t21 a1 a2 a3 a4 h)
        · replace h := h.2 c22
          refine V.iload hC d_P_court_25 rfl ?_
          refine V.if_eq (tgt := 36) hC d_P_court_27 (by decide) (fun c23 => ?_) (fun c23 => ?_)
          · replace h := h.1 c23
            exact V.msk [true, true, true, true, true, false, false, false, false, false, false, false] rfl (wj_P_court_36  hC hR  t21 a1 a2 a3 a4 h)
          · replace h := h.2 c23
            refine V.iload hC d_P_court_30 rfl ?_
            refine V.iconst (v := 1) hC d_P_court_32 (by decide) ?_
            refine V.icmp_ne (tgt := 40) hC d_P_court_33 (by decide) (fun c24 => ?_) (fun c24 => ?_)
            · replace h := h.1 c24
              exact V.msk [true, true, true, true, true, false, false, false, false, false, false, false] rfl (wj_P_court_40  hC hR  t21 a1 a2 a3 a4 h)
            · replace h := h.2 c24
              exact V.msk [true, true, true, true, true, false, false, false, false, false, false, false] rfl (wj_P_court_36  hC hR  t21 a1 a2 a3 a4 h)
abbrev b_K_closeByLots : ByteArray := prog_4_method_7_code
def y_K_closeByLots : MethodName := ⟨nC2, "closeByLots", "(III)V"⟩
theorem d_K_closeByLots_0 : decode b_K_closeByLots 0 = .ok (.aload_n 0, 1) := by decide +kernel
theorem d_K_closeByLots_1 : decode b_K_closeByLots 1 = .ok (.getfield 27, 3) := by decide +kernel
theorem d_K_closeByLots_4 : decode b_K_closeByLots 4 = .ok (.iconst 0, 1) := by decide +kernel
theorem d_K_closeByLots_5 : decode b_K_closeByLots 5 = .ok (.invokestatic 40, 3) := by decide +kernel
theorem d_K_closeByLots_8 : decode b_K_closeByLots 8 = .ok (.iload_n 3, 1) := by decide +kernel
theorem d_K_closeByLots_9 : decode b_K_closeByLots 9 = .ok (.ifCond .gt 4, 3) := by decide +kernel
theorem d_K_closeByLots_12 : decode b_K_closeByLots 12 = .ok (.return_, 1) := by decide +kernel
theorem d_K_closeByLots_13 : decode b_K_closeByLots 13 = .ok (.iload_n 1, 1) := by decide +kernel
theorem d_K_closeByLots_14 : decode b_K_closeByLots 14 = .ok (.istore 4, 2) := by decide +kernel
theorem d_K_closeByLots_16 : decode b_K_closeByLots 16 = .ok (.iconst 0, 1) := by decide +kernel
theorem d_K_closeByLots_17 : decode b_K_closeByLots 17 = .ok (.istore 5, 2) := by decide +kernel
theorem d_K_closeByLots_19 : decode b_K_closeByLots 19 = .ok (.iload 5, 2) := by decide +kernel
theorem d_K_closeByLots_21 : decode b_K_closeByLots 21 = .ok (.iload_n 2, 1) := by decide +kernel
theorem d_K_closeByLots_22 : decode b_K_closeByLots 22 = .ok (.if_icmp .gt 39, 3) := by decide +kernel
theorem d_K_closeByLots_25 : decode b_K_closeByLots 25 = .ok (.ldc 46, 2) := by decide +kernel
theorem d_K_closeByLots_27 : decode b_K_closeByLots 27 = .ok (.iload 4, 2) := by decide +kernel
theorem d_K_closeByLots_29 : decode b_K_closeByLots 29 = .ok (.imul, 1) := by decide +kernel
theorem d_K_closeByLots_30 : decode b_K_closeByLots 30 = .ok (.sipush 12345, 3) := by decide +kernel
theorem d_K_closeByLots_33 : decode b_K_closeByLots 33 = .ok (.iadd, 1) := by decide +kernel
theorem d_K_closeByLots_34 : decode b_K_closeByLots 34 = .ok (.istore 4, 2) := by decide +kernel
theorem d_K_closeByLots_36 : decode b_K_closeByLots 36 = .ok (.aload_n 0, 1) := by decide +kernel
theorem d_K_closeByLots_37 : decode b_K_closeByLots 37 = .ok (.getfield 27, 3) := by decide +kernel
theorem d_K_closeByLots_40 : decode b_K_closeByLots 40 = .ok (.iload 4, 2) := by decide +kernel
theorem d_K_closeByLots_42 : decode b_K_closeByLots 42 = .ok (.bipush 16, 2) := by decide +kernel
theorem d_K_closeByLots_44 : decode b_K_closeByLots 44 = .ok (.iushr, 1) := by decide +kernel
theorem d_K_closeByLots_45 : decode b_K_closeByLots 45 = .ok (.iload_n 3, 1) := by decide +kernel
theorem d_K_closeByLots_46 : decode b_K_closeByLots 46 = .ok (.irem, 1) := by decide +kernel
theorem d_K_closeByLots_47 : decode b_K_closeByLots 47 = .ok (.dup2, 1) := by decide +kernel
theorem d_K_closeByLots_48 : decode b_K_closeByLots 48 = .ok (.iaload, 1) := by decide +kernel
theorem d_K_closeByLots_49 : decode b_K_closeByLots 49 = .ok (.iconst 1, 1) := by decide +kernel
theorem d_K_closeByLots_50 : decode b_K_closeByLots 50 = .ok (.iload 5, 2) := by decide +kernel
theorem d_K_closeByLots_52 : decode b_K_closeByLots 52 = .ok (.ishl, 1) := by decide +kernel
theorem d_K_closeByLots_53 : decode b_K_closeByLots 53 = .ok (.ior, 1) := by decide +kernel
theorem d_K_closeByLots_54 : decode b_K_closeByLots 54 = .ok (.iastore, 1) := by decide +kernel
theorem d_K_closeByLots_55 : decode b_K_closeByLots 55 = .ok (.iinc 5 1, 3) := by decide +kernel
theorem d_K_closeByLots_58 : decode b_K_closeByLots 58 = .ok (.goto (-39), 3) := by decide +kernel
theorem d_K_closeByLots_61 : decode b_K_closeByLots 61 = .ok (.return_, 1) := by decide +kernel
theorem qc_K_46 : Cond.constant nC2 46 (1103515245) ∈ tbl := tbl_in 773 (by decide +kernel) rfl
theorem mo_K_closeByLots : MokV y_K_closeByLots b_K_closeByLots 6 none 3 := ⟨⟨(tbl_in 772 (by decide +kernel) rfl), (tbl_in 66 (by decide +kernel) rfl)⟩, ⟨(tbl_in 770 (by decide +kernel) rfl), tbl_lw _ (tbl_in 771 (by decide +kernel) rfl), (tbl_in 771 (by decide +kernel) rfl)⟩, ⟨by decide +kernel, by decide +kernel⟩, by decide +kernel⟩
def b_K_closeByLots_19_ (P : Hp → Prop)  (I19 : Hp → Int32 → Int32 → Int32 → Int32 → Prop) (σ : Hp) (x2 : Int32) (x3 : Int32) (x4 : Int32) (x5 : Int32) : Prop :=
  ((x2 < x5 → P σ) ∧ (¬ x2 < x5 → (∀ v2 : Int32, v2 = ((1103515245 : Int32) * x4) + (12345 : Int32) → (¬ x3 = 0) ∧ (vp_in (((v2.toUInt32 >>> ((16 : Int32).toUInt32 &&& Int32.toUInt32 31)).toInt32) - ((v2.toUInt32 >>> ((16 : Int32).toUInt32 &&& Int32.toUInt32 31)).toInt32) / x3 * x3) 8) ∧ (vp_in (((v2.toUInt32 >>> ((16 : Int32).toUInt32 &&& Int32.toUInt32 31)).toInt32) - ((v2.toUInt32 >>> ((16 : Int32).toUInt32 &&& Int32.toUInt32 31)).toInt32) / x3 * x3) 8) ∧ (∀ v6 : Int32, v6 = x5 + (1 : Int32) → I19 (st σ 32 (ix (((v2.toUInt32 >>> ((16 : Int32).toUInt32 &&& Int32.toUInt32 31)).toInt32) - ((v2.toUInt32 >>> ((16 : Int32).toUInt32 &&& Int32.toUInt32 31)).toInt32) / x3 * x3)) ((σ 32 (ix (((v2.toUInt32 >>> ((16 : Int32).toUInt32 &&& Int32.toUInt32 31)).toInt32) - ((v2.toUInt32 >>> ((16 : Int32).toUInt32 &&& Int32.toUInt32 31)).toInt32) / x3 * x3))) ||| ((1 : Int32) <<< (x5 &&& 31)))) x2 x3 v2 v6))))
def j_K_closeByLots_19 (P : Hp → Prop)  (σ : Hp) (x2 : Int32) (x3 : Int32) (x4 : Int32) (x5 : Int32) : Prop := ∀ I19 : Hp → Int32 → Int32 → Int32 → Int32 → Prop, (∀ (σ : Hp) (x2 : Int32) (x3 : Int32) (x4 : Int32) (x5 : Int32), b_K_closeByLots_19_  P  I19 σ x2 x3 x4 x5 → I19 σ x2 x3 x4 x5) → I19 σ x2 x3 x4 x5
def wp_K_closeByLots (σ : Hp) (a1 : Int32) (a2 : Int32) (a3 : Int32) (P : Hp → Prop) : Prop :=
  wp_JA_fill σ 32 8 (0 : Int32) (fun (t8 : Hp) => ((0 < a3 → j_K_closeByLots_19 P t8 a2 a3 a1 (0 : Int32)) ∧ (¬ 0 < a3 → P t8)))
set_option maxHeartbeats 4000000 in
set_option maxRecDepth 100000 in
theorem wj_K_closeByLots_19 {w : Wd} {κ : Kx} {P : Hp → Prop} (hC : Cx μC w 6 κ nC2 b_K_closeByLots 1) (hR : RtN μC w 6 κ b_K_closeByLots P)  : ∀ (σ : Hp) (x2 : Int32) (x3 : Int32) (x4 : Int32) (x5 : Int32), j_K_closeByLots_19  P  σ x2 x3 x4 x5 → V μC w 6 κ σ [some (.ref (w.1 5)), none, some (.int x2), some (.int x3), some (.int x4), some (.int x5)] 19 [] := by
  intro σ x2 x3 x4 x5 h
  refine h (fun σ x2 x3 x4 x5 => V μC w 6 κ σ [some (.ref (w.1 5)), none, some (.int x2), some (.int x3), some (.int x4), some (.int x5)] 19 []) (fun σ x2 x3 x4 x5 h => ?_)
  unfold b_K_closeByLots_19_ at h
  refine V.iload hC d_K_closeByLots_19 rfl ?_
  refine V.iload_n hC d_K_closeByLots_21 rfl rfl ?_
  refine V.icmp_gt (tgt := 61) hC d_K_closeByLots_22 (by decide) (fun c1 => ?_) (fun c1 => ?_)
  · replace h := h.1 c1
    exact hR _ _ _ h d_K_closeByLots_61
  · replace h := h.2 c1
    refine V.ldc (v := 1103515245) hC d_K_closeByLots_25 qc_K_46 ?_
    refine V.iload hC d_K_closeByLots_27 rfl ?_
    refine V.imul hC d_K_closeByLots_29 ?_
    refine V.sipush (v := 12345) hC d_K_closeByLots_30 (by decide) ?_
    refine V.iadd hC d_K_closeByLots_33 ?_
    obtain ⟨v2, ev2⟩ : ∃ y : Int32, y = ((1103515245 : Int32) * x4) + (12345 : Int32) := ⟨_, rfl⟩
    replace h := h v2 ev2
    refine V.istore (y := v2) (lo' := [some (.ref (w.1 5)), none, some (.int x2), some (.int x3), some (.int v2), some (.int x5)]) hC d_K_closeByLots_34 rfl ev2 rfl ?_
    refine V.aload_n hC d_K_closeByLots_36 rfl rfl ?_
    refine V.getR (j := 5) hC d_K_closeByLots_37 rfl rfl uC2 rfl rfl qf_K_27 ?_
    refine V.iload hC d_K_closeByLots_40 rfl ?_
    refine V.bipush (v := 16) hC d_K_closeByLots_42 (by decide) ?_
    refine V.iushr hC d_K_closeByLots_44 ?_
    refine V.iload_n hC d_K_closeByLots_45 rfl rfl ?_
    obtain ⟨z3, h⟩ := h
    refine V.irem hC d_K_closeByLots_46 z3 ?_
    refine V.dup2_11 hC d_K_closeByLots_47 rfl rfl ?_
    obtain ⟨b4, h⟩ := h
    refine V.iald hC d_K_closeByLots_48 rfl b4 ?_
    refine V.iconst (v := 1) hC d_K_closeByLots_49 (by decide) ?_
    refine V.iload hC d_K_closeByLots_50 rfl ?_
    refine V.ishl hC d_K_closeByLots_52 ?_
    refine V.ior hC d_K_closeByLots_53 ?_
    obtain ⟨b5, h⟩ := h
    refine V.iast hC d_K_closeByLots_54 rfl b5 ?_
    obtain ⟨v6, ev6⟩ : ∃ y : Int32, y = x5 + (1 : Int32) := ⟨_, rfl⟩
    replace h := h v6 ev6
    refine V.iinc (y := v6) (lo' := [some (.ref (w.1 5)), none, some (.int x2), some (.int x3), some (.int v2), some (.int v6)]) hC d_K_closeByLots_55 rfl rfl (show v6 = _ + Int32.ofInt (1) from ev6) rfl ?_
    refine V.goto (tgt := 19) hC d_K_closeByLots_58 (by decide) ?_
    exact V.msk [true, false, true, true, true, true] rfl h
set_option maxHeartbeats 4000000 in
set_option maxRecDepth 100000 in
theorem w_K_closeByLots (w : Wd) (σ : Hp) (a1 : Int32) (a2 : Int32) (a3 : Int32) (P : Hp → Prop) (h : wp_K_closeByLots σ a1 a2 a3 P) : CtN μC w y_K_closeByLots b_K_closeByLots 6 none 1 [.ref (w.1 5), .int a1, .int a2, .int a3] σ P := by
  unfold wp_K_closeByLots at h
  refine CtN.ofV (C := nC2) (lo := [some (.ref (w.1 5)), some (.int a1), some (.int a2), some (.int a3), none, none]) exC (by decide +kernel) rfl rfl rfl (fun κ hC hR => ?_)
  refine V.aload_n hC d_K_closeByLots_0 rfl rfl ?_
  refine V.getR (j := 5) hC d_K_closeByLots_1 rfl rfl uC2 rfl rfl qf_K_27 ?_
  refine V.iconst (v := 0) hC d_K_closeByLots_4 (by decide) ?_
  refine V.callSN hC exC (w_JA_fill w σ 32 8 (0 : Int32) _ h) d_K_closeByLots_5 mo_JA_fill qm_K_40 rfl rfl rfl rfl (Nat.le_of_ble_eq_true rfl) (fun t8 h => ?_)
  refine V.iload_n hC d_K_closeByLots_8 rfl rfl ?_
  refine V.if_gt (tgt := 13) hC d_K_closeByLots_9 (by decide) (fun c9 => ?_) (fun c9 => ?_)
  · replace h := h.1 c9
    refine V.iload_n hC d_K_closeByLots_13 rfl rfl ?_
    refine V.istore (y := a1) (lo' := [some (.ref (w.1 5)), some (.int a1), some (.int a2), some (.int a3), some (.int a1), none]) hC d_K_closeByLots_14 rfl rfl rfl ?_
    refine V.iconst (v := 0) hC d_K_closeByLots_16 (by decide) ?_
    refine V.istore (y := (0 : Int32)) (lo' := [some (.ref (w.1 5)), some (.int a1), some (.int a2), some (.int a3), some (.int a1), some (.int (0 : Int32))]) hC d_K_closeByLots_17 rfl rfl rfl ?_
    exact V.msk [true, false, true, true, true, true] rfl (wj_K_closeByLots_19  hC hR  t8 a2 a3 a1 (0 : Int32) h)
  · replace h := h.2 c9
    exact hR _ _ _ h d_K_closeByLots_12
abbrev b_P_month : ByteArray := prog_1_method_32_code
def y_P_month : MethodName := ⟨nC7, "month", "(III)I"⟩
theorem d_P_month_0 : decode b_P_month 0 = .ok (.iload_n 2, 1) := by decide +kernel
theorem d_P_month_1 : decode b_P_month 1 = .ok (.invokestatic 126, 3) := by decide +kernel
theorem d_P_month_4 : decode b_P_month 4 = .ok (.ifCond .eq 16, 3) := by decide +kernel
theorem d_P_month_7 : decode b_P_month 7 = .ok (.iload_n 3, 1) := by decide +kernel
theorem d_P_month_8 : decode b_P_month 8 = .ok (.iconst (-1), 1) := by decide +kernel
theorem d_P_month_9 : decode b_P_month 9 = .ok (.if_icmp .eq 14, 3) := by decide +kernel
theorem d_P_month_12 : decode b_P_month 12 = .ok (.aload_n 0, 1) := by decide +kernel
theorem d_P_month_13 : decode b_P_month 13 = .ok (.iload_n 3, 1) := by decide +kernel
theorem d_P_month_14 : decode b_P_month 14 = .ok (.invokevirtual 97, 3) := by decide +kernel
theorem d_P_month_17 : decode b_P_month 17 = .ok (.ifCond .ne 6, 3) := by decide +kernel
theorem d_P_month_20 : decode b_P_month 20 = .ok (.ldc 183, 2) := by decide +kernel
theorem d_P_month_22 : decode b_P_month 22 = .ok (.ireturn, 1) := by decide +kernel
theorem d_P_month_23 : decode b_P_month 23 = .ok (.aload_n 0, 1) := by decide +kernel
theorem d_P_month_24 : decode b_P_month 24 = .ok (.getfield 41, 3) := by decide +kernel
theorem d_P_month_27 : decode b_P_month 27 = .ok (.iload_n 1, 1) := by decide +kernel
theorem d_P_month_28 : decode b_P_month 28 = .ok (.iload_n 2, 1) := by decide +kernel
theorem d_P_month_29 : decode b_P_month 29 = .ok (.aload_n 0, 1) := by decide +kernel
theorem d_P_month_30 : decode b_P_month 30 = .ok (.getfield 36, 3) := by decide +kernel
theorem d_P_month_33 : decode b_P_month 33 = .ok (.getfield 196, 3) := by decide +kernel
theorem d_P_month_36 : decode b_P_month 36 = .ok (.invokevirtual 270, 3) := by decide +kernel
theorem d_P_month_39 : decode b_P_month 39 = .ok (.iload_n 3, 1) := by decide +kernel
theorem d_P_month_40 : decode b_P_month 40 = .ok (.iconst (-1), 1) := by decide +kernel
theorem d_P_month_41 : decode b_P_month 41 = .ok (.if_icmp .ne 14, 3) := by decide +kernel
theorem d_P_month_44 : decode b_P_month 44 = .ok (.aload_n 0, 1) := by decide +kernel
theorem d_P_month_45 : decode b_P_month 45 = .ok (.getfield 28, 3) := by decide +kernel
theorem d_P_month_48 : decode b_P_month 48 = .ok (.iload_n 2, 1) := by decide +kernel
theorem d_P_month_49 : decode b_P_month 49 = .ok (.invokevirtual 190, 3) := by decide +kernel
theorem d_P_month_52 : decode b_P_month 52 = .ok (.goto 19, 3) := by decide +kernel
theorem d_P_month_55 : decode b_P_month 55 = .ok (.aload_n 0, 1) := by decide +kernel
theorem d_P_month_56 : decode b_P_month 56 = .ok (.getfield 28, 3) := by decide +kernel
theorem d_P_month_59 : decode b_P_month 59 = .ok (.iload_n 2, 1) := by decide +kernel
theorem d_P_month_60 : decode b_P_month 60 = .ok (.iload_n 3, 1) := by decide +kernel
theorem d_P_month_61 : decode b_P_month 61 = .ok (.aload_n 0, 1) := by decide +kernel
theorem d_P_month_62 : decode b_P_month 62 = .ok (.getfield 41, 3) := by decide +kernel
theorem d_P_month_65 : decode b_P_month 65 = .ok (.invokevirtual 184, 3) := by decide +kernel
theorem d_P_month_68 : decode b_P_month 68 = .ok (.invokevirtual 187, 3) := by decide +kernel
theorem d_P_month_71 : decode b_P_month 71 = .ok (.istore 4, 2) := by decide +kernel
theorem d_P_month_73 : decode b_P_month 73 = .ok (.aload_n 0, 1) := by decide +kernel
theorem d_P_month_74 : decode b_P_month 74 = .ok (.getfield 41, 3) := by decide +kernel
theorem d_P_month_77 : decode b_P_month 77 = .ok (.invokevirtual 273, 3) := by decide +kernel
theorem d_P_month_80 : decode b_P_month 80 = .ok (.iload 4, 2) := by decide +kernel
theorem d_P_month_82 : decode b_P_month 82 = .ok (.ireturn, 1) := by decide +kernel
theorem qm_P_270 : Cond.methodLink nC7 270 y_K_closeByLots ∈ tbl := tbl_in 769 (by decide +kernel) rfl
theorem qm_P_273 : Cond.methodLink nC7 273 y_K_closeAsTold ∈ tbl := tbl_in 774 (by decide +kernel) rfl
theorem mo_P_month : MokV y_P_month b_P_month 5 (some .int) 3 := ⟨⟨(tbl_in 768 (by decide +kernel) rfl), (tbl_in 62 (by decide +kernel) rfl)⟩, ⟨(tbl_in 766 (by decide +kernel) rfl), tbl_lw _ (tbl_in 767 (by decide +kernel) rfl), (tbl_in 767 (by decide +kernel) rfl)⟩, ⟨by decide +kernel, by decide +kernel⟩, by decide +kernel⟩
def j_P_month_71 (P : Int32 → Hp → Prop)  (σ : Hp) (s0 : Int32) : Prop :=
  wp_K_closeAsTold σ (fun (t2 : Hp) => P s0 t2)
def j_P_month_23 (P : Int32 → Hp → Prop)  (σ : Hp) (x1 : Int32) (x2 : Int32) (x3 : Int32) : Prop :=
  wp_K_closeByLots σ x1 x2 (σ 4 6) (fun (t4 : Hp) => ((¬ x3 = (-1 : Int32) → wp_K_leadingOfAll t4 (fun (r6 : Int32) (t7 : Hp) => wp_D_balanceOf t7 x2 x3 r6 (fun (r8 : Int32) (t9 : Hp) => j_P_month_71 P t9 r8))) ∧ (x3 = (-1 : Int32) → wp_D_coinDue t4 x2 (fun (r10 : Int32) (t11 : Hp) => j_P_month_71 P t11 r10))))
def wp_P_month (σ : Hp) (a1 : Int32) (a2 : Int32) (a3 : Int32) (P : Int32 → Hp → Prop) : Prop :=
  wp_P_isDay σ a2 (fun (r12 : Int32) (t13 : Hp) => ((r12 = 0 → P (-100002 : Int32) t13) ∧ (¬ r12 = 0 → ((a3 = (-1 : Int32) → j_P_month_23 P t13 a1 a2 a3) ∧ (¬ a3 = (-1 : Int32) → wp_P_isHouse t13 a3 (fun (r16 : Int32) (t17 : Hp) => ((¬ r16 = 0 → j_P_month_23 P t17 a1 a2 a3) ∧ (r16 = 0 → P (-100002 : Int32) t17))))))))
set_option maxHeartbeats 4000000 in
set_option maxRecDepth 100000 in
theorem wj_P_month_71 {w : Wd} {κ : Kx} {P : Int32 → Hp → Prop} (hC : Cx μC w 5 κ nC7 b_P_month 5) (hR : RtI μC w 5 κ b_P_month .int P)  : ∀ (σ : Hp) (s0 : Int32), j_P_month_71  P  σ s0 → V μC w 5 κ σ [some (.ref (w.1 0)), none, none, none, none] 71 [.int s0] := by
  intro σ s0 h
  unfold j_P_month_71 at h
  refine V.istore (y := s0) (lo' := [some (.ref (w.1 0)), none, none, none, some (.int s0)]) hC d_P_month_71 rfl rfl rfl ?_
  refine V.aload_n hC d_P_month_73 rfl rfl ?_
  refine V.getR (j := 4) hC d_P_month_74 rfl rfl uC7 rfl rfl qf_P_41 ?_
  refine V.callVN hC exC (w_K_closeAsTold w σ  _ h) d_P_month_77 mo_K_closeAsTold qm_P_273 rfl rfl rfl rfl rfl rfl rfl (Nat.le_of_ble_eq_true rfl) (fun t2 h => ?_)
  refine V.iload hC d_P_month_80 rfl ?_
  exact hR _ _ _ _ h rfl d_P_month_82
set_option maxHeartbeats 4000000 in
set_option maxRecDepth 100000 in
theorem wj_P_month_23 {w : Wd} {κ : Kx} {P : Int32 → Hp → Prop} (hC : Cx μC w 5 κ nC7 b_P_month 5) (hR : RtI μC w 5 κ b_P_month .int P)  : ∀ (σ : Hp) (x1 : Int32) (x2 : Int32) (x3 : Int32), j_P_month_23  P  σ x1 x2 x3 → V μC w 5 κ σ [some (.ref (w.1 0)), some (.int x1), some (.int x2), some (.int x3), none] 23 [] := by
  intro σ x1 x2 x3 h
  unfold j_P_month_23 at h
  refine V.aload_n hC d_P_month_23 rfl rfl ?_
  refine V.getR (j := 4) hC d_P_month_24 rfl rfl uC7 rfl rfl qf_P_41 ?_
  refine V.iload_n hC d_P_month_27 rfl rfl ?_
  refine V.iload_n hC d_P_month_28 rfl rfl ?_
  refine V.aload_n hC d_P_month_29 rfl rfl ?_
  refine V.getR (j := 3) hC d_P_month_30 rfl rfl uC7 rfl rfl qf_P_36 ?_
  refine V.getI (j := 6) hC d_P_month_33 rfl rfl uC5 rfl rfl qf_P_196 ?_
  refine V.callVN hC exC (w_K_closeByLots w σ x1 x2 (σ 4 6) _ h) d_P_month_36 mo_K_closeByLots qm_P_270 rfl rfl rfl rfl rfl rfl rfl (Nat.le_of_ble_eq_true rfl) (fun t4 h => ?_)
  refine V.iload_n hC d_P_month_39 rfl rfl ?_
  refine V.iconst (v := -1) hC d_P_month_40 (by decide) ?_
  refine V.icmp_ne (tgt := 55) hC d_P_month_41 (by decide) (fun c5 => ?_) (fun c5 => ?_)
  · replace h := h.1 c5
    refine V.aload_n hC d_P_month_55 rfl rfl ?_
    refine V.getR (j := 2) hC d_P_month_56 rfl rfl uC7 rfl rfl qf_P_28 ?_
    refine V.iload_n hC d_P_month_59 rfl rfl ?_
    refine V.iload_n hC d_P_month_60 rfl rfl ?_
    refine V.aload_n hC d_P_month_61 rfl rfl ?_
    refine V.getR (j := 4) hC d_P_month_62 rfl rfl uC7 rfl rfl qf_P_41 ?_
    refine V.callVI hC exC (w_K_leadingOfAll w t4  _ h) d_P_month_65 mo_K_leadingOfAll qm_P_184 rfl rfl rfl rfl rfl rfl rfl (Nat.le_of_ble_eq_true rfl) (fun r6 t7 h => ?_)
    refine V.callVI hC exC (w_D_balanceOf w t7 x2 x3 r6 _ h) d_P_month_68 mo_D_balanceOf qm_P_187 rfl rfl rfl rfl rfl rfl rfl (Nat.le_of_ble_eq_true rfl) (fun r8 t9 h => ?_)
    exact V.msk [true, false, false, false, false] rfl (wj_P_month_71  hC hR  t9 r8 h)
  · replace h := h.2 c5
    refine V.aload_n hC d_P_month_44 rfl rfl ?_
    refine V.getR (j := 2) hC d_P_month_45 rfl rfl uC7 rfl rfl qf_P_28 ?_
    refine V.iload_n hC d_P_month_48 rfl rfl ?_
    refine V.callVI hC exC (w_D_coinDue w t4 x2 _ h) d_P_month_49 mo_D_coinDue qm_P_190 rfl rfl rfl rfl rfl rfl rfl (Nat.le_of_ble_eq_true rfl) (fun r10 t11 h => ?_)
    refine V.goto (tgt := 71) hC d_P_month_52 (by decide) ?_
    exact V.msk [true, false, false, false, false] rfl (wj_P_month_71  hC hR  t11 r10 h)
set_option maxHeartbeats 4000000 in
set_option maxRecDepth 100000 in
theorem w_P_month (w : Wd) (σ : Hp) (a1 : Int32) (a2 : Int32) (a3 : Int32) (P : Int32 → Hp → Prop) (h : wp_P_month σ a1 a2 a3 P) : CtI μC w y_P_month b_P_month 5 (some .int) 5 [.ref (w.1 0), .int a1, .int a2, .int a3] σ P := by
  unfold wp_P_month at h
  refine CtI.ofV (C := nC7) (lo := [some (.ref (w.1 0)), some (.int a1), some (.int a2), some (.int a3), none]) exC (by decide +kernel) rfl rfl rfl (fun κ hC hR => ?_)
  refine V.iload_n hC d_P_month_0 rfl rfl ?_
  refine V.callSI hC exC (w_P_isDay w σ a2 _ h) d_P_month_1 mo_P_isDay qm_P_126 rfl rfl rfl rfl (Nat.le_of_ble_eq_true rfl) (fun r12 t13 h => ?_)
  refine V.if_eq (tgt := 20) hC d_P_month_4 (by decide) (fun c14 => ?_) (fun c14 => ?_)
  · replace h := h.1 c14
    refine V.ldc (v := -100002) hC d_P_month_20 qc_P_183 ?_
    exact hR _ _ _ _ h rfl d_P_month_22
  · replace h := h.2 c14
    refine V.iload_n hC d_P_month_7 rfl rfl ?_
    refine V.iconst (v := -1) hC d_P_month_8 (by decide) ?_
    refine V.icmp_eq (tgt := 23) hC d_P_month_9 (by decide) (fun c15 => ?_) (fun c15 => ?_)
    · replace h := h.1 c15
      exact V.msk [true, true, true, true, false] rfl (wj_P_month_23  hC hR  t13 a1 a2 a3 h)
    · replace h := h.2 c15
      refine V.aload_n hC d_P_month_12 rfl rfl ?_
      refine V.iload_n hC d_P_month_13 rfl rfl ?_
      refine V.callVI hC exC (w_P_isHouse w t13 a3 _ h) d_P_month_14 mo_P_isHouse qm_P_97 rfl rfl rfl rfl rfl rfl rfl (Nat.le_of_ble_eq_true rfl) (fun r16 t17 h => ?_)
      refine V.if_ne (tgt := 23) hC d_P_month_17 (by decide) (fun c18 => ?_) (fun c18 => ?_)
      · replace h := h.1 c18
        exact V.msk [true, true, true, true, false] rfl (wj_P_month_23  hC hR  t17 a1 a2 a3 h)
      · replace h := h.2 c18
        refine V.ldc (v := -100002) hC d_P_month_20 qc_P_183 ?_
        exact hR _ _ _ _ h rfl d_P_month_22
abbrev b_P_isForm : ByteArray := prog_1_method_44_code
def y_P_isForm : MethodName := ⟨nC7, "isForm", "(I)Z"⟩
theorem d_P_isForm_0 : decode b_P_isForm 0 = .ok (.iload_n 0, 1) := by decide +kernel
theorem d_P_isForm_1 : decode b_P_isForm 1 = .ok (.ifCond .lt 12, 3) := by decide +kernel
theorem d_P_isForm_4 : decode b_P_isForm 4 = .ok (.iload_n 0, 1) := by decide +kernel
theorem d_P_isForm_5 : decode b_P_isForm 5 = .ok (.iconst 3, 1) := by decide +kernel
theorem d_P_isForm_6 : decode b_P_isForm 6 = .ok (.if_icmp .ge 7, 3) := by decide +kernel
theorem d_P_isForm_9 : decode b_P_isForm 9 = .ok (.iconst 1, 1) := by decide +kernel
theorem d_P_isForm_10 : decode b_P_isForm 10 = .ok (.goto 4, 3) := by decide +kernel
theorem d_P_isForm_13 : decode b_P_isForm 13 = .ok (.iconst 0, 1) := by decide +kernel
theorem d_P_isForm_14 : decode b_P_isForm 14 = .ok (.ireturn, 1) := by decide +kernel
theorem mo_P_isForm : MokS y_P_isForm b_P_isForm 1 (some .boolean) 1 := ⟨⟨(tbl_in 781 (by decide +kernel) rfl), (tbl_in 62 (by decide +kernel) rfl)⟩, (tbl_in 780 (by decide +kernel) rfl), ⟨by decide +kernel, by decide +kernel⟩, by decide +kernel⟩
def wp_P_isForm (σ : Hp) (a1 : Int32) (P : Int32 → Hp → Prop) : Prop :=
  ((a1 < 0 → P (0 : Int32) σ) ∧ (¬ a1 < 0 → (((3 : Int32) ≤ a1 → P (0 : Int32) σ) ∧ (¬ (3 : Int32) ≤ a1 → P (1 : Int32) σ))))
set_option maxHeartbeats 4000000 in
set_option maxRecDepth 100000 in
theorem w_P_isForm (w : Wd) (σ : Hp) (a1 : Int32) (P : Int32 → Hp → Prop) (h : wp_P_isForm σ a1 P) : CtI μC w y_P_isForm b_P_isForm 1 (some .boolean) 0 [.int a1] σ P := by
  unfold wp_P_isForm at h
  refine CtI.ofV (C := nC7) (lo := [some (.int a1)]) exC (by decide +kernel) rfl rfl rfl (fun κ hC hR => ?_)
  refine V.iload_n hC d_P_isForm_0 rfl rfl ?_
  refine V.if_lt (tgt := 13) hC d_P_isForm_1 (by decide) (fun c1 => ?_) (fun c1 => ?_)
  · replace h := h.1 c1
    refine V.iconst (v := 0) hC d_P_isForm_13 (by decide) ?_
    exact hR _ _ _ _ h (by decide) d_P_isForm_14
  · replace h := h.2 c1
    refine V.iload_n hC d_P_isForm_4 rfl rfl ?_
    refine V.iconst (v := 3) hC d_P_isForm_5 (by decide) ?_
    refine V.icmp_ge (tgt := 13) hC d_P_isForm_6 (by decide) (fun c2 => ?_) (fun c2 => ?_)
    · replace h := h.1 c2
      refine V.iconst (v := 0) hC d_P_isForm_13 (by decide) ?_
      exact hR _ _ _ _ h (by decide) d_P_isForm_14
    · replace h := h.2 c2
      refine V.iconst (v := 1) hC d_P_isForm_9 (by decide) ?_
      refine V.goto (tgt := 14) hC d_P_isForm_10 (by decide) ?_
      exact hR _ _ _ _ h (by decide) d_P_isForm_14
abbrev b_S_renew : ByteArray := prog_6_method_3_code
def y_S_renew : MethodName := ⟨nC4, "renew", "(II)V"⟩
theorem d_S_renew_0 : decode b_S_renew 0 = .ok (.aload_n 0, 1) := by decide +kernel
theorem d_S_renew_1 : decode b_S_renew 1 = .ok (.getfield 9, 3) := by decide +kernel
theorem d_S_renew_4 : decode b_S_renew 4 = .ok (.iconst 0, 1) := by decide +kernel
theorem d_S_renew_5 : decode b_S_renew 5 = .ok (.invokestatic 19, 3) := by decide +kernel
theorem d_S_renew_8 : decode b_S_renew 8 = .ok (.aload_n 0, 1) := by decide +kernel
theorem d_S_renew_9 : decode b_S_renew 9 = .ok (.iload_n 1, 1) := by decide +kernel
theorem d_S_renew_10 : decode b_S_renew 10 = .ok (.putfield 15, 3) := by decide +kernel
theorem d_S_renew_13 : decode b_S_renew 13 = .ok (.aload_n 0, 1) := by decide +kernel
theorem d_S_renew_14 : decode b_S_renew 14 = .ok (.iload_n 2, 1) := by decide +kernel
theorem d_S_renew_15 : decode b_S_renew 15 = .ok (.putfield 25, 3) := by decide +kernel
theorem d_S_renew_18 : decode b_S_renew 18 = .ok (.return_, 1) := by decide +kernel
theorem qf_S_25 : Cond.fieldLink nC4 25 (fC4 2).1 (fC4 2).2.1 (fC4 2).2.2.1 ∈ tbl := tbl_in 276 (by decide +kernel) rfl
theorem qf_S_9 : Cond.fieldLink nC4 9 (fC4 0).1 (fC4 0).2.1 (fC4 0).2.2.1 ∈ tbl := tbl_in 272 (by decide +kernel) rfl
theorem qm_S_19 : Cond.methodLink nC4 19 y_JA_fill ∈ tbl := tbl_in 786 (by decide +kernel) rfl
theorem mo_S_renew : MokV y_S_renew b_S_renew 3 none 2 := ⟨⟨(tbl_in 785 (by decide +kernel) rfl), (tbl_in 69 (by decide +kernel) rfl)⟩, ⟨(tbl_in 783 (by decide +kernel) rfl), tbl_lw _ (tbl_in 784 (by decide +kernel) rfl), (tbl_in 784 (by decide +kernel) rfl)⟩, ⟨by decide +kernel, by decide +kernel⟩, by decide +kernel⟩
def wp_S_renew (σ : Hp) (o0 : Nat) (a1 : Int32) (a2 : Int32) (P : Hp → Prop) : Prop :=
  (isS o0) ∧ wp_JA_fill σ (o0 + 28) 60 (0 : Int32) (fun (t3 : Hp) => P (st (st t3 o0 1 a1) o0 2 a2))
set_option maxHeartbeats 4000000 in
set_option maxRecDepth 100000 in
theorem w_S_renew (w : Wd) (σ : Hp) (o0 : Nat) (a1 : Int32) (a2 : Int32) (P : Hp → Prop) (h : wp_S_renew σ o0 a1 a2 P) : CtN μC w y_S_renew b_S_renew 3 none 1 [.ref (w.1 o0), .int a1, .int a2] σ P := by
  unfold wp_S_renew at h
  refine CtN.ofV (C := nC4) (lo := [some (.ref (w.1 o0)), some (.int a1), some (.int a2)]) exC (by decide +kernel) rfl rfl rfl (fun κ hC hR => ?_)
  obtain ⟨m1, h⟩ := h
  refine V.aload_n hC d_S_renew_0 rfl rfl ?_
  refine V.getR (j := 0) hC d_S_renew_1 (shS m1) rfl uC4 rfl rfl qf_S_9 ?_
  refine V.iconst (v := 0) hC d_S_renew_4 (by decide) ?_
  refine V.callSN hC exC (w_JA_fill w σ (o0 + 28) 60 (0 : Int32) _ h) d_S_renew_5 mo_JA_fill qm_S_19 rfl rfl rfl rfl (Nat.le_of_ble_eq_true rfl) (fun t3 h => ?_)
  refine V.aload_n hC d_S_renew_8 rfl rfl ?_
  refine V.iload_n hC d_S_renew_9 rfl rfl ?_
  refine V.put (j := 1) hC d_S_renew_10 (shS m1) rfl uC4 pC4 dC4 rfl rfl rfl rfl rfl qf_S_15 ?_
  refine V.aload_n hC d_S_renew_13 rfl rfl ?_
  refine V.iload_n hC d_S_renew_14 rfl rfl ?_
  refine V.put (j := 2) hC d_S_renew_15 (shS m1) rfl uC4 pC4 dC4 rfl rfl rfl rfl rfl qf_S_25 ?_
  exact hR _ _ _ h d_S_renew_18
abbrev b_P_sheet : ByteArray := prog_1_method_33_code
def y_P_sheet : MethodName := ⟨nC7, "sheet", "(III)I"⟩
theorem d_P_sheet_0 : decode b_P_sheet 0 = .ok (.aload_n 0, 1) := by decide +kernel
theorem d_P_sheet_1 : decode b_P_sheet 1 = .ok (.iload_n 1, 1) := by decide +kernel
theorem d_P_sheet_2 : decode b_P_sheet 2 = .ok (.invokevirtual 154, 3) := by decide +kernel
theorem d_P_sheet_5 : decode b_P_sheet 5 = .ok (.ifCond .eq 16, 3) := by decide +kernel
theorem d_P_sheet_8 : decode b_P_sheet 8 = .ok (.iload_n 2, 1) := by decide +kernel
theorem d_P_sheet_9 : decode b_P_sheet 9 = .ok (.invokestatic 276, 3) := by decide +kernel
theorem d_P_sheet_12 : decode b_P_sheet 12 = .ok (.ifCond .eq 9, 3) := by decide +kernel
theorem d_P_sheet_15 : decode b_P_sheet 15 = .ok (.iload_n 3, 1) := by decide +kernel
theorem d_P_sheet_16 : decode b_P_sheet 16 = .ok (.bipush 60, 2) := by decide +kernel
theorem d_P_sheet_18 : decode b_P_sheet 18 = .ok (.if_icmp .le 6, 3) := by decide +kernel
theorem d_P_sheet_21 : decode b_P_sheet 21 = .ok (.bipush (-2), 2) := by decide +kernel
theorem d_P_sheet_23 : decode b_P_sheet 23 = .ok (.ireturn, 1) := by decide +kernel
theorem d_P_sheet_24 : decode b_P_sheet 24 = .ok (.iload_n 3, 1) := by decide +kernel
theorem d_P_sheet_25 : decode b_P_sheet 25 = .ok (.ifCond .ge 9, 3) := by decide +kernel
theorem d_P_sheet_28 : decode b_P_sheet 28 = .ok (.aload_n 0, 1) := by decide +kernel
theorem d_P_sheet_29 : decode b_P_sheet 29 = .ok (.iconst 5, 1) := by decide +kernel
theorem d_P_sheet_30 : decode b_P_sheet 30 = .ok (.invokevirtual 160, 3) := by decide +kernel
theorem d_P_sheet_33 : decode b_P_sheet 33 = .ok (.ireturn, 1) := by decide +kernel
theorem d_P_sheet_34 : decode b_P_sheet 34 = .ok (.aload_n 0, 1) := by decide +kernel
theorem d_P_sheet_35 : decode b_P_sheet 35 = .ok (.getfield 59, 3) := by decide +kernel
theorem d_P_sheet_38 : decode b_P_sheet 38 = .ok (.iload_n 1, 1) := by decide +kernel
theorem d_P_sheet_39 : decode b_P_sheet 39 = .ok (.aaload, 1) := by decide +kernel
theorem d_P_sheet_40 : decode b_P_sheet 40 = .ok (.iload_n 2, 1) := by decide +kernel
theorem d_P_sheet_41 : decode b_P_sheet 41 = .ok (.iload_n 3, 1) := by decide +kernel
theorem d_P_sheet_42 : decode b_P_sheet 42 = .ok (.invokevirtual 279, 3) := by decide +kernel
theorem d_P_sheet_45 : decode b_P_sheet 45 = .ok (.iload_n 3, 1) := by decide +kernel
theorem d_P_sheet_46 : decode b_P_sheet 46 = .ok (.ireturn, 1) := by decide +kernel
theorem qm_P_276 : Cond.methodLink nC7 276 y_P_isForm ∈ tbl := tbl_in 779 (by decide +kernel) rfl
theorem qm_P_279 : Cond.methodLink nC7 279 y_S_renew ∈ tbl := tbl_in 782 (by decide +kernel) rfl
def wp_P_sheet (σ : Hp) (a1 : Int32) (a2 : Int32) (a3 : Int32) (P : Int32 → Hp → Prop) : Prop :=
  wp_P_isSheet σ a1 (fun (r1 : Int32) (t2 : Hp) => ((r1 = 0 → P (-2 : Int32) t2) ∧ (¬ r1 = 0 → wp_P_isForm t2 a2 (fun (r4 : Int32) (t5 : Hp) => ((r4 = 0 → P (-2 : Int32) t5) ∧ (¬ r4 = 0 → ((a3 ≤ (60 : Int32) → ((0 ≤ a3 → (vp_in a1 4) ∧ (∀ o10 : Nat, o10 = 10 + ix a1 → (isS o10) ∧ wp_S_renew t5 o10 a2 a3 (fun (t13 : Hp) => P a3 t13))) ∧ (¬ 0 ≤ a3 → wp_P_found t5 (5 : Int32) (fun (r14 : Int32) (t15 : Hp) => P r14 t15)))) ∧ (¬ a3 ≤ (60 : Int32) → P (-2 : Int32) t5))))))))
set_option maxHeartbeats 4000000 in
set_option maxRecDepth 100000 in
theorem w_P_sheet (w : Wd) (σ : Hp) (a1 : Int32) (a2 : Int32) (a3 : Int32) (P : Int32 → Hp → Prop) (h : wp_P_sheet σ a1 a2 a3 P) : CtI μC w y_P_sheet b_P_sheet 4 (some .int) 2 [.ref (w.1 0), .int a1, .int a2, .int a3] σ P := by
  unfold wp_P_sheet at h
  refine CtI.ofV (C := nC7) (lo := [some (.ref (w.1 0)), some (.int a1), some (.int a2), some (.int a3)]) exC (by decide +kernel) rfl rfl rfl (fun κ hC hR => ?_)
  refine V.aload_n hC d_P_sheet_0 rfl rfl ?_
  refine V.iload_n hC d_P_sheet_1 rfl rfl ?_
  refine V.callVI hC exC (w_P_isSheet w σ a1 _ h) d_P_sheet_2 mo_P_isSheet qm_P_154 rfl rfl rfl rfl rfl rfl rfl (Nat.le_of_ble_eq_true rfl) (fun r1 t2 h => ?_)
  refine V.if_eq (tgt := 21) hC d_P_sheet_5 (by decide) (fun c3 => ?_) (fun c3 => ?_)
  · replace h := h.1 c3
    refine V.bipush (v := -2) hC d_P_sheet_21 (by decide) ?_
    exact hR _ _ _ _ h rfl d_P_sheet_23
  · replace h := h.2 c3
    refine V.iload_n hC d_P_sheet_8 rfl rfl ?_
    refine V.callSI hC exC (w_P_isForm w t2 a2 _ h) d_P_sheet_9 mo_P_isForm qm_P_276 rfl rfl rfl rfl (Nat.le_of_ble_eq_true rfl) (fun r4 t5 h => ?_)
    refine V.if_eq (tgt := 21) hC d_P_sheet_12 (by decide) (fun c6 => ?_) (fun c6 => ?_)
    · replace h := h.1 c6
      refine V.bipush (v := -2) hC d_P_sheet_21 (by decide) ?_
      exact hR _ _ _ _ h rfl d_P_sheet_23
    · replace h := h.2 c6
      refine V.iload_n hC d_P_sheet_15 rfl rfl ?_
      refine V.bipush (v := 60) hC d_P_sheet_16 (by decide) ?_
      refine V.icmp_le (tgt := 24) hC d_P_sheet_18 (by decide) (fun c7 => ?_) (fun c7 => ?_)
      · replace h := h.1 c7
        refine V.iload_n hC d_P_sheet_24 rfl rfl ?_
        refine V.if_ge (tgt := 34) hC d_P_sheet_25 (by decide) (fun c8 => ?_) (fun c8 => ?_)
        · replace h := h.1 c8
          refine V.aload_n hC d_P_sheet_34 rfl rfl ?_
          refine V.getR (j := 7) hC d_P_sheet_35 rfl rfl uC7 rfl rfl qf_P_59 ?_
          refine V.iload_n hC d_P_sheet_38 rfl rfl ?_
          obtain ⟨b9, h⟩ := h
          obtain ⟨o10, eo10⟩ : ∃ y : Nat, y = 10 + ix a1 := ⟨_, rfl⟩
          replace h := h o10 eo10
          obtain ⟨m11, h⟩ := h
          refine V.qald (b := 10) hC d_P_sheet_39 rfl b9 ?_
          rw [show 10 + Int32.toNatClampNeg a1 = o10 from eo10.symm]
          refine V.iload_n hC d_P_sheet_40 rfl rfl ?_
          refine V.iload_n hC d_P_sheet_41 rfl rfl ?_
          refine V.callVN hC exC (w_S_renew w t5 o10 a2 a3 _ h) d_P_sheet_42 mo_S_renew qm_P_279 (shS m11) rfl rfl rfl rfl rfl rfl (Nat.le_of_ble_eq_true rfl) (fun t13 h => ?_)
          refine V.iload_n hC d_P_sheet_45 rfl rfl ?_
          exact hR _ _ _ _ h rfl d_P_sheet_46
        · replace h := h.2 c8
          refine V.aload_n hC d_P_sheet_28 rfl rfl ?_
          refine V.iconst (v := 5) hC d_P_sheet_29 (by decide) ?_
          refine V.callVI hC exC (w_P_found w t5 (5 : Int32) _ h) d_P_sheet_30 mo_P_found qm_P_160 rfl rfl rfl rfl rfl rfl rfl (Nat.le_of_ble_eq_true rfl) (fun r14 t15 h => ?_)
          exact hR _ _ _ _ h rfl d_P_sheet_33
      · replace h := h.2 c7
        refine V.bipush (v := -2) hC d_P_sheet_21 (by decide) ?_
        exact hR _ _ _ _ h rfl d_P_sheet_23
abbrev b_S_becomeLost : ByteArray := prog_6_method_4_code
def y_S_becomeLost : MethodName := ⟨nC4, "becomeLost", "()V"⟩
theorem d_S_becomeLost_0 : decode b_S_becomeLost 0 = .ok (.aload_n 0, 1) := by decide +kernel
theorem d_S_becomeLost_1 : decode b_S_becomeLost 1 = .ok (.iconst (-1), 1) := by decide +kernel
theorem d_S_becomeLost_2 : decode b_S_becomeLost 2 = .ok (.putfield 15, 3) := by decide +kernel
theorem d_S_becomeLost_5 : decode b_S_becomeLost 5 = .ok (.aload_n 0, 1) := by decide +kernel
theorem d_S_becomeLost_6 : decode b_S_becomeLost 6 = .ok (.iconst 0, 1) := by decide +kernel
theorem d_S_becomeLost_7 : decode b_S_becomeLost 7 = .ok (.putfield 25, 3) := by decide +kernel
theorem d_S_becomeLost_10 : decode b_S_becomeLost 10 = .ok (.return_, 1) := by decide +kernel
theorem mo_S_becomeLost : MokV y_S_becomeLost b_S_becomeLost 1 none 0 := ⟨⟨(tbl_in 794 (by decide +kernel) rfl), (tbl_in 69 (by decide +kernel) rfl)⟩, ⟨(tbl_in 792 (by decide +kernel) rfl), tbl_lw _ (tbl_in 793 (by decide +kernel) rfl), (tbl_in 793 (by decide +kernel) rfl)⟩, ⟨by decide +kernel, by decide +kernel⟩, by decide +kernel⟩
def wp_S_becomeLost (σ : Hp) (o0 : Nat) (P : Hp → Prop) : Prop :=
  (isS o0) ∧ P (st (st σ o0 1 (-1 : Int32)) o0 2 (0 : Int32))
set_option maxHeartbeats 4000000 in
set_option maxRecDepth 100000 in
theorem w_S_becomeLost (w : Wd) (σ : Hp) (o0 : Nat) (P : Hp → Prop) (h : wp_S_becomeLost σ o0 P) : CtN μC w y_S_becomeLost b_S_becomeLost 1 none 0 [.ref (w.1 o0)] σ P := by
  unfold wp_S_becomeLost at h
  refine CtN.ofV (C := nC4) (lo := [some (.ref (w.1 o0))]) exC (by decide +kernel) rfl rfl rfl (fun κ hC hR => ?_)
  obtain ⟨m1, h⟩ := h
  refine V.aload_n hC d_S_becomeLost_0 rfl rfl ?_
  refine V.iconst (v := -1) hC d_S_becomeLost_1 (by decide) ?_
  refine V.put (j := 1) hC d_S_becomeLost_2 (shS m1) rfl uC4 pC4 dC4 rfl rfl rfl rfl rfl qf_S_15 ?_
  refine V.aload_n hC d_S_becomeLost_5 rfl rfl ?_
  refine V.iconst (v := 0) hC d_S_becomeLost_6 (by decide) ?_
  refine V.put (j := 2) hC d_S_becomeLost_7 (shS m1) rfl uC4 pC4 dC4 rfl rfl rfl rfl rfl qf_S_25 ?_
  exact hR _ _ _ h d_S_becomeLost_10
abbrev b_P_lose : ByteArray := prog_1_method_34_code
def y_P_lose : MethodName := ⟨nC7, "lose", "(I)I"⟩
theorem d_P_lose_0 : decode b_P_lose 0 = .ok (.aload_n 0, 1) := by decide +kernel
theorem d_P_lose_1 : decode b_P_lose 1 = .ok (.iload_n 1, 1) := by decide +kernel
theorem d_P_lose_2 : decode b_P_lose 2 = .ok (.invokevirtual 154, 3) := by decide +kernel
theorem d_P_lose_5 : decode b_P_lose 5 = .ok (.ifCond .ne 6, 3) := by decide +kernel
theorem d_P_lose_8 : decode b_P_lose 8 = .ok (.bipush (-2), 2) := by decide +kernel
theorem d_P_lose_10 : decode b_P_lose 10 = .ok (.ireturn, 1) := by decide +kernel
theorem d_P_lose_11 : decode b_P_lose 11 = .ok (.aload_n 0, 1) := by decide +kernel
theorem d_P_lose_12 : decode b_P_lose 12 = .ok (.getfield 59, 3) := by decide +kernel
theorem d_P_lose_15 : decode b_P_lose 15 = .ok (.iload_n 1, 1) := by decide +kernel
theorem d_P_lose_16 : decode b_P_lose 16 = .ok (.aaload, 1) := by decide +kernel
theorem d_P_lose_17 : decode b_P_lose 17 = .ok (.invokevirtual 157, 3) := by decide +kernel
theorem d_P_lose_20 : decode b_P_lose 20 = .ok (.ifCond .eq 9, 3) := by decide +kernel
theorem d_P_lose_23 : decode b_P_lose 23 = .ok (.aload_n 0, 1) := by decide +kernel
theorem d_P_lose_24 : decode b_P_lose 24 = .ok (.iconst 1, 1) := by decide +kernel
theorem d_P_lose_25 : decode b_P_lose 25 = .ok (.invokevirtual 160, 3) := by decide +kernel
theorem d_P_lose_28 : decode b_P_lose 28 = .ok (.ireturn, 1) := by decide +kernel
theorem d_P_lose_29 : decode b_P_lose 29 = .ok (.aload_n 0, 1) := by decide +kernel
theorem d_P_lose_30 : decode b_P_lose 30 = .ok (.getfield 59, 3) := by decide +kernel
theorem d_P_lose_33 : decode b_P_lose 33 = .ok (.iload_n 1, 1) := by decide +kernel
theorem d_P_lose_34 : decode b_P_lose 34 = .ok (.aaload, 1) := by decide +kernel
theorem d_P_lose_35 : decode b_P_lose 35 = .ok (.getfield 164, 3) := by decide +kernel
theorem d_P_lose_38 : decode b_P_lose 38 = .ok (.istore_n 2, 1) := by decide +kernel
theorem d_P_lose_39 : decode b_P_lose 39 = .ok (.aload_n 0, 1) := by decide +kernel
theorem d_P_lose_40 : decode b_P_lose 40 = .ok (.getfield 59, 3) := by decide +kernel
theorem d_P_lose_43 : decode b_P_lose 43 = .ok (.iload_n 1, 1) := by decide +kernel
theorem d_P_lose_44 : decode b_P_lose 44 = .ok (.aaload, 1) := by decide +kernel
theorem d_P_lose_45 : decode b_P_lose 45 = .ok (.invokevirtual 282, 3) := by decide +kernel
theorem d_P_lose_48 : decode b_P_lose 48 = .ok (.iload_n 2, 1) := by decide +kernel
theorem d_P_lose_49 : decode b_P_lose 49 = .ok (.ireturn, 1) := by decide +kernel
theorem qm_P_282 : Cond.methodLink nC7 282 y_S_becomeLost ∈ tbl := tbl_in 791 (by decide +kernel) rfl
def wp_P_lose (σ : Hp) (a1 : Int32) (P : Int32 → Hp → Prop) : Prop :=
  wp_P_isSheet σ a1 (fun (r1 : Int32) (t2 : Hp) => ((¬ r1 = 0 → (vp_in a1 4) ∧ (∀ o5 : Nat, o5 = 10 + ix a1 → (isS o5) ∧ wp_S_isLost t2 o5 (fun (r7 : Int32) (t8 : Hp) => ((r7 = 0 → (vp_in a1 4) ∧ (∀ o11 : Nat, o11 = 10 + ix a1 → (isS o11) ∧ (∀ v13 : Int32, v13 = t8 o11 2 → (vp_in a1 4) ∧ (∀ o15 : Nat, o15 = 10 + ix a1 → (isS o15) ∧ wp_S_becomeLost t8 o15 (fun (t18 : Hp) => P v13 t18))))) ∧ (¬ r7 = 0 → wp_P_found t8 (1 : Int32) (fun (r19 : Int32) (t20 : Hp) => P r19 t20)))))) ∧ (r1 = 0 → P (-2 : Int32) t2)))
set_option maxHeartbeats 4000000 in
set_option maxRecDepth 100000 in
theorem w_P_lose (w : Wd) (σ : Hp) (a1 : Int32) (P : Int32 → Hp → Prop) (h : wp_P_lose σ a1 P) : CtI μC w y_P_lose b_P_lose 3 (some .int) 1 [.ref (w.1 0), .int a1] σ P := by
  unfold wp_P_lose at h
  refine CtI.ofV (C := nC7) (lo := [some (.ref (w.1 0)), some (.int a1), none]) exC (by decide +kernel) rfl rfl rfl (fun κ hC hR => ?_)
  refine V.aload_n hC d_P_lose_0 rfl rfl ?_
  refine V.iload_n hC d_P_lose_1 rfl rfl ?_
  refine V.callVI hC exC (w_P_isSheet w σ a1 _ h) d_P_lose_2 mo_P_isSheet qm_P_154 rfl rfl rfl rfl rfl rfl rfl (Nat.le_of_ble_eq_true rfl) (fun r1 t2 h => ?_)
  refine V.if_ne (tgt := 11) hC d_P_lose_5 (by decide) (fun c3 => ?_) (fun c3 => ?_)
  · replace h := h.1 c3
    refine V.aload_n hC d_P_lose_11 rfl rfl ?_
    refine V.getR (j := 7) hC d_P_lose_12 rfl rfl uC7 rfl rfl qf_P_59 ?_
    refine V.iload_n hC d_P_lose_15 rfl rfl ?_
    obtain ⟨b4, h⟩ := h
    obtain ⟨o5, eo5⟩ : ∃ y : Nat, y = 10 + ix a1 := ⟨_, rfl⟩
    replace h := h o5 eo5
    obtain ⟨m6, h⟩ := h
    refine V.qald (b := 10) hC d_P_lose_16 rfl b4 ?_
    rw [show 10 + Int32.toNatClampNeg a1 = o5 from eo5.symm]
    refine V.callVI hC exC (w_S_isLost w t2 o5 _ h) d_P_lose_17 mo_S_isLost qm_P_157 (shS m6) rfl rfl rfl rfl rfl rfl (Nat.le_of_ble_eq_true rfl) (fun r7 t8 h => ?_)
    refine V.if_eq (tgt := 29) hC d_P_lose_20 (by decide) (fun c9 => ?_) (fun c9 => ?_)
    · replace h := h.1 c9
      refine V.aload_n hC d_P_lose_29 rfl rfl ?_
      refine V.getR (j := 7) hC d_P_lose_30 rfl rfl uC7 rfl rfl qf_P_59 ?_
      refine V.iload_n hC d_P_lose_33 rfl rfl ?_
      obtain ⟨b10, h⟩ := h
      obtain ⟨o11, eo11⟩ : ∃ y : Nat, y = 10 + ix a1 := ⟨_, rfl⟩
      replace h := h o11 eo11
      obtain ⟨m12, h⟩ := h
      refine V.qald (b := 10) hC d_P_lose_34 rfl b10 ?_
      rw [show 10 + Int32.toNatClampNeg a1 = o11 from eo11.symm]
      refine V.getI (j := 2) hC d_P_lose_35 (shS m12) rfl uC4 rfl rfl qf_P_164 ?_
      obtain ⟨v13, ev13⟩ : ∃ y : Int32, y = t8 o11 2 := ⟨_, rfl⟩
      replace h := h v13 ev13
      refine V.istore_n (y := v13) (lo' := [some (.ref (w.1 0)), some (.int a1), some (.int v13)]) hC d_P_lose_38 rfl rfl ev13 rfl ?_
      refine V.aload_n hC d_P_lose_39 rfl rfl ?_
      refine V.getR (j := 7) hC d_P_lose_40 rfl rfl uC7 rfl rfl qf_P_59 ?_
      refine V.iload_n hC d_P_lose_43 rfl rfl ?_
      obtain ⟨b14, h⟩ := h
      obtain ⟨o15, eo15⟩ : ∃ y : Nat, y = 10 + ix a1 := ⟨_, rfl⟩
      replace h := h o15 eo15
      obtain ⟨m16, h⟩ := h
      refine V.qald (b := 10) hC d_P_lose_44 rfl b14 ?_
      rw [show 10 + Int32.toNatClampNeg a1 = o15 from eo15.symm]
      refine V.callVN hC exC (w_S_becomeLost w t8 o15 _ h) d_P_lose_45 mo_S_becomeLost qm_P_282 (shS m16) rfl rfl rfl rfl rfl rfl (Nat.le_of_ble_eq_true rfl) (fun t18 h => ?_)
      refine V.iload_n hC d_P_lose_48 rfl rfl ?_
      exact hR _ _ _ _ h rfl d_P_lose_49
    · replace h := h.2 c9
      refine V.aload_n hC d_P_lose_23 rfl rfl ?_
      refine V.iconst (v := 1) hC d_P_lose_24 (by decide) ?_
      refine V.callVI hC exC (w_P_found w t8 (1 : Int32) _ h) d_P_lose_25 mo_P_found qm_P_160 rfl rfl rfl rfl rfl rfl rfl (Nat.le_of_ble_eq_true rfl) (fun r19 t20 h => ?_)
      exact hR _ _ _ _ h rfl d_P_lose_28
  · replace h := h.2 c3
    refine V.bipush (v := -2) hC d_P_lose_8 (by decide) ?_
    exact hR _ _ _ _ h rfl d_P_lose_10
abbrev b_P_wrongWithItem : ByteArray := prog_1_method_52_code
def y_P_wrongWithItem : MethodName := ⟨nC7, "wrongWithItem", "(LSoundPaid$Sheet;II)I"⟩
theorem d_P_wrongWithItem_0 : decode b_P_wrongWithItem 0 = .ok (.aload_n 0, 1) := by decide +kernel
theorem d_P_wrongWithItem_1 : decode b_P_wrongWithItem 1 = .ok (.invokevirtual 157, 3) := by decide +kernel
theorem d_P_wrongWithItem_4 : decode b_P_wrongWithItem 4 = .ok (.ifCond .eq 5, 3) := by decide +kernel
theorem d_P_wrongWithItem_7 : decode b_P_wrongWithItem 7 = .ok (.iconst 1, 1) := by decide +kernel
theorem d_P_wrongWithItem_8 : decode b_P_wrongWithItem 8 = .ok (.ireturn, 1) := by decide +kernel
theorem d_P_wrongWithItem_9 : decode b_P_wrongWithItem 9 = .ok (.aload_n 0, 1) := by decide +kernel
theorem d_P_wrongWithItem_10 : decode b_P_wrongWithItem 10 = .ok (.getfield 293, 3) := by decide +kernel
theorem d_P_wrongWithItem_13 : decode b_P_wrongWithItem 13 = .ok (.iload_n 1, 1) := by decide +kernel
theorem d_P_wrongWithItem_14 : decode b_P_wrongWithItem 14 = .ok (.if_icmp .eq 5, 3) := by decide +kernel
theorem d_P_wrongWithItem_17 : decode b_P_wrongWithItem 17 = .ok (.iconst 3, 1) := by decide +kernel
theorem d_P_wrongWithItem_18 : decode b_P_wrongWithItem 18 = .ok (.ireturn, 1) := by decide +kernel
theorem d_P_wrongWithItem_19 : decode b_P_wrongWithItem 19 = .ok (.iload_n 2, 1) := by decide +kernel
theorem d_P_wrongWithItem_20 : decode b_P_wrongWithItem 20 = .ok (.ifCond .lt 11, 3) := by decide +kernel
theorem d_P_wrongWithItem_23 : decode b_P_wrongWithItem 23 = .ok (.iload_n 2, 1) := by decide +kernel
theorem d_P_wrongWithItem_24 : decode b_P_wrongWithItem 24 = .ok (.aload_n 0, 1) := by decide +kernel
theorem d_P_wrongWithItem_25 : decode b_P_wrongWithItem 25 = .ok (.getfield 164, 3) := by decide +kernel
theorem d_P_wrongWithItem_28 : decode b_P_wrongWithItem 28 = .ok (.if_icmp .lt 7, 3) := by decide +kernel
theorem d_P_wrongWithItem_31 : decode b_P_wrongWithItem 31 = .ok (.iconst 2, 1) := by decide +kernel
theorem d_P_wrongWithItem_32 : decode b_P_wrongWithItem 32 = .ok (.goto 4, 3) := by decide +kernel
theorem d_P_wrongWithItem_35 : decode b_P_wrongWithItem 35 = .ok (.iconst 0, 1) := by decide +kernel
theorem d_P_wrongWithItem_36 : decode b_P_wrongWithItem 36 = .ok (.ireturn, 1) := by decide +kernel
theorem qf_P_293 : Cond.fieldLink nC7 293 (fC4 1).1 (fC4 1).2.1 (fC4 1).2.2.1 ∈ tbl := tbl_in 275 (by decide +kernel) rfl
theorem mo_P_wrongWithItem : MokS y_P_wrongWithItem b_P_wrongWithItem 3 (some .int) 3 := ⟨⟨(tbl_in 801 (by decide +kernel) rfl), (tbl_in 62 (by decide +kernel) rfl)⟩, (tbl_in 800 (by decide +kernel) rfl), ⟨by decide +kernel, by decide +kernel⟩, by decide +kernel⟩
def wp_P_wrongWithItem (σ : Hp) (o1 : Nat) (a2 : Int32) (a3 : Int32) (P : Int32 → Hp → Prop) : Prop :=
  (isS o1) ∧ wp_S_isLost σ o1 (fun (r2 : Int32) (t3 : Hp) => ((r2 = 0 → (((t3 o1 1) = a2 → ((a3 < 0 → P (2 : Int32) t3) ∧ (¬ a3 < 0 → ((a3 < (t3 o1 2) → P (0 : Int32) t3) ∧ (¬ a3 < (t3 o1 2) → P (2 : Int32) t3))))) ∧ (¬ (t3 o1 1) = a2 → P (3 : Int32) t3))) ∧ (¬ r2 = 0 → P (1 : Int32) t3)))
set_option maxHeartbeats 4000000 in
set_option maxRecDepth 100000 in
theorem w_P_wrongWithItem (w : Wd) (σ : Hp) (o1 : Nat) (a2 : Int32) (a3 : Int32) (P : Int32 → Hp → Prop) (h : wp_P_wrongWithItem σ o1 a2 a3 P) : CtI μC w y_P_wrongWithItem b_P_wrongWithItem 3 (some .int) 1 [.ref (w.1 o1), .int a2, .int a3] σ P := by
  unfold wp_P_wrongWithItem at h
  refine CtI.ofV (C := nC7) (lo := [some (.ref (w.1 o1)), some (.int a2), some (.int a3)]) exC (by decide +kernel) rfl rfl rfl (fun κ hC hR => ?_)
  obtain ⟨m1, h⟩ := h
  refine V.aload_n hC d_P_wrongWithItem_0 rfl rfl ?_
  refine V.callVI hC exC (w_S_isLost w σ o1 _ h) d_P_wrongWithItem_1 mo_S_isLost qm_P_157 (shS m1) rfl rfl rfl rfl rfl rfl (Nat.le_of_ble_eq_true rfl) (fun r2 t3 h => ?_)
  refine V.if_eq (tgt := 9) hC d_P_wrongWithItem_4 (by decide) (fun c4 => ?_) (fun c4 => ?_)
  · replace h := h.1 c4
    refine V.aload_n hC d_P_wrongWithItem_9 rfl rfl ?_
    refine V.getI (j := 1) hC d_P_wrongWithItem_10 (shS m1) rfl uC4 rfl rfl qf_P_293 ?_
    refine V.iload_n hC d_P_wrongWithItem_13 rfl rfl ?_
    refine V.icmp_eq (tgt := 19) hC d_P_wrongWithItem_14 (by decide) (fun c5 => ?_) (fun c5 => ?_)
    · replace h := h.1 c5
      refine V.iload_n hC d_P_wrongWithItem_19 rfl rfl ?_
      refine V.if_lt (tgt := 31) hC d_P_wrongWithItem_20 (by decide) (fun c6 => ?_) (fun c6 => ?_)
      · replace h := h.1 c6
        refine V.iconst (v := 2) hC d_P_wrongWithItem_31 (by decide) ?_
        refine V.goto (tgt := 36) hC d_P_wrongWithItem_32 (by decide) ?_
        exact hR _ _ _ _ h rfl d_P_wrongWithItem_36
      · replace h := h.2 c6
        refine V.iload_n hC d_P_wrongWithItem_23 rfl rfl ?_
        refine V.aload_n hC d_P_wrongWithItem_24 rfl rfl ?_
        refine V.getI (j := 2) hC d_P_wrongWithItem_25 (shS m1) rfl uC4 rfl rfl qf_P_164 ?_
        refine V.icmp_lt (tgt := 35) hC d_P_wrongWithItem_28 (by decide) (fun c7 => ?_) (fun c7 => ?_)
        · replace h := h.1 c7
          refine V.iconst (v := 0) hC d_P_wrongWithItem_35 (by decide) ?_
          exact hR _ _ _ _ h rfl d_P_wrongWithItem_36
        · replace h := h.2 c7
          refine V.iconst (v := 2) hC d_P_wrongWithItem_31 (by decide) ?_
          refine V.goto (tgt := 36) hC d_P_wrongWithItem_32 (by decide) ?_
          exact hR _ _ _ _ h rfl d_P_wrongWithItem_36
    · replace h := h.2 c5
      refine V.iconst (v := 3) hC d_P_wrongWithItem_17 (by decide) ?_
      exact hR _ _ _ _ h rfl d_P_wrongWithItem_18
  · replace h := h.2 c4
    refine V.iconst (v := 1) hC d_P_wrongWithItem_7 (by decide) ?_
    exact hR _ _ _ _ h rfl d_P_wrongWithItem_8
abbrev b_S_store : ByteArray := prog_6_method_6_code
def y_S_store : MethodName := ⟨nC4, "store", "(II)V"⟩
theorem d_S_store_0 : decode b_S_store 0 = .ok (.aload_n 0, 1) := by decide +kernel
theorem d_S_store_1 : decode b_S_store 1 = .ok (.getfield 9, 3) := by decide +kernel
theorem d_S_store_4 : decode b_S_store 4 = .ok (.iload_n 1, 1) := by decide +kernel
theorem d_S_store_5 : decode b_S_store 5 = .ok (.aload_n 0, 1) := by decide +kernel
theorem d_S_store_6 : decode b_S_store 6 = .ok (.getfield 15, 3) := by decide +kernel
theorem d_S_store_9 : decode b_S_store 9 = .ok (.ifCond .ne 8, 3) := by decide +kernel
theorem d_S_store_12 : decode b_S_store 12 = .ok (.iload_n 2, 1) := by decide +kernel
theorem d_S_store_13 : decode b_S_store 13 = .ok (.i2b, 1) := by decide +kernel
theorem d_S_store_14 : decode b_S_store 14 = .ok (.goto 17, 3) := by decide +kernel
theorem d_S_store_17 : decode b_S_store 17 = .ok (.aload_n 0, 1) := by decide +kernel
theorem d_S_store_18 : decode b_S_store 18 = .ok (.getfield 15, 3) := by decide +kernel
theorem d_S_store_21 : decode b_S_store 21 = .ok (.iconst 1, 1) := by decide +kernel
theorem d_S_store_22 : decode b_S_store 22 = .ok (.if_icmp .ne 8, 3) := by decide +kernel
theorem d_S_store_25 : decode b_S_store 25 = .ok (.iload_n 2, 1) := by decide +kernel
theorem d_S_store_26 : decode b_S_store 26 = .ok (.i2s, 1) := by decide +kernel
theorem d_S_store_27 : decode b_S_store 27 = .ok (.goto 4, 3) := by decide +kernel
theorem d_S_store_30 : decode b_S_store 30 = .ok (.iload_n 2, 1) := by decide +kernel
theorem d_S_store_31 : decode b_S_store 31 = .ok (.iastore, 1) := by decide +kernel
theorem d_S_store_32 : decode b_S_store 32 = .ok (.return_, 1) := by decide +kernel
theorem mo_S_store : MokV y_S_store b_S_store 3 none 2 := ⟨⟨(tbl_in 805 (by decide +kernel) rfl), (tbl_in 69 (by decide +kernel) rfl)⟩, ⟨(tbl_in 803 (by decide +kernel) rfl), tbl_lw _ (tbl_in 804 (by decide +kernel) rfl), (tbl_in 804 (by decide +kernel) rfl)⟩, ⟨by decide +kernel, by decide +kernel⟩, by decide +kernel⟩
def wp_S_store (σ : Hp) (o0 : Nat) (a1 : Int32) (a2 : Int32) (P : Hp → Prop) : Prop :=
  (isS o0) ∧ ((¬ (σ o0 1) = 0 → ((¬ (σ o0 1) = (1 : Int32) → (vp_in a1 60) ∧ P (st σ (o0 + 28) (ix a1) a2)) ∧ ((σ o0 1) = (1 : Int32) → (vp_in a1 60) ∧ P (st σ (o0 + 28) (ix a1) (a2.toInt16.toInt32))))) ∧ ((σ o0 1) = 0 → (vp_in a1 60) ∧ P (st σ (o0 + 28) (ix a1) (a2.toInt8.toInt32))))
set_option maxHeartbeats 4000000 in
set_option maxRecDepth 100000 in
theorem w_S_store (w : Wd) (σ : Hp) (o0 : Nat) (a1 : Int32) (a2 : Int32) (P : Hp → Prop) (h : wp_S_store σ o0 a1 a2 P) : CtN μC w y_S_store b_S_store 3 none 0 [.ref (w.1 o0), .int a1, .int a2] σ P := by
  unfold wp_S_store at h
  refine CtN.ofV (C := nC4) (lo := [some (.ref (w.1 o0)), some (.int a1), some (.int a2)]) exC (by decide +kernel) rfl rfl rfl (fun κ hC hR => ?_)
  obtain ⟨m1, h⟩ := h
  refine V.aload_n hC d_S_store_0 rfl rfl ?_
  refine V.getR (j := 0) hC d_S_store_1 (shS m1) rfl uC4 rfl rfl qf_S_9 ?_
  refine V.iload_n hC d_S_store_4 rfl rfl ?_
  refine V.aload_n hC d_S_store_5 rfl rfl ?_
  refine V.getI (j := 1) hC d_S_store_6 (shS m1) rfl uC4 rfl rfl qf_S_15 ?_
  refine V.if_ne (tgt := 17) hC d_S_store_9 (by decide) (fun c2 => ?_) (fun c2 => ?_)
  · replace h := h.1 c2
    refine V.aload_n hC d_S_store_17 rfl rfl ?_
    refine V.getI (j := 1) hC d_S_store_18 (shS m1) rfl uC4 rfl rfl qf_S_15 ?_
    refine V.iconst (v := 1) hC d_S_store_21 (by decide) ?_
    refine V.icmp_ne (tgt := 30) hC d_S_store_22 (by decide) (fun c3 => ?_) (fun c3 => ?_)
    · replace h := h.1 c3
      refine V.iload_n hC d_S_store_30 rfl rfl ?_
      obtain ⟨b4, h⟩ := h
      refine V.iast hC d_S_store_31 (shSA m1) b4 ?_
      exact hR _ _ _ h d_S_store_32
    · replace h := h.2 c3
      refine V.iload_n hC d_S_store_25 rfl rfl ?_
      refine V.i2s hC d_S_store_26 ?_
      refine V.goto (tgt := 31) hC d_S_store_27 (by decide) ?_
      obtain ⟨b5, h⟩ := h
      refine V.iast hC d_S_store_31 (shSA m1) b5 ?_
      exact hR _ _ _ h d_S_store_32
  · replace h := h.2 c2
    refine V.iload_n hC d_S_store_12 rfl rfl ?_
    refine V.i2b hC d_S_store_13 ?_
    refine V.goto (tgt := 31) hC d_S_store_14 (by decide) ?_
    obtain ⟨b6, h⟩ := h
    refine V.iast hC d_S_store_31 (shSA m1) b6 ?_
    exact hR _ _ _ h d_S_store_32
abbrev b_P_put : ByteArray := prog_1_method_35_code
def y_P_put : MethodName := ⟨nC7, "put", "(IIII)I"⟩
theorem d_P_put_0 : decode b_P_put 0 = .ok (.aload_n 0, 1) := by decide +kernel
theorem d_P_put_1 : decode b_P_put 1 = .ok (.iload_n 1, 1) := by decide +kernel
theorem d_P_put_2 : decode b_P_put 2 = .ok (.invokevirtual 154, 3) := by decide +kernel
theorem d_P_put_5 : decode b_P_put 5 = .ok (.ifCond .eq 10, 3) := by decide +kernel
theorem d_P_put_8 : decode b_P_put 8 = .ok (.iload_n 2, 1) := by decide +kernel
theorem d_P_put_9 : decode b_P_put 9 = .ok (.invokestatic 276, 3) := by decide +kernel
theorem d_P_put_12 : decode b_P_put 12 = .ok (.ifCond .ne 6, 3) := by decide +kernel
theorem d_P_put_15 : decode b_P_put 15 = .ok (.bipush (-2), 2) := by decide +kernel
theorem d_P_put_17 : decode b_P_put 17 = .ok (.ireturn, 1) := by decide +kernel
theorem d_P_put_18 : decode b_P_put 18 = .ok (.aload_n 0, 1) := by decide +kernel
theorem d_P_put_19 : decode b_P_put 19 = .ok (.getfield 59, 3) := by decide +kernel
theorem d_P_put_22 : decode b_P_put 22 = .ok (.iload_n 1, 1) := by decide +kernel
theorem d_P_put_23 : decode b_P_put 23 = .ok (.aaload, 1) := by decide +kernel
theorem d_P_put_24 : decode b_P_put 24 = .ok (.iload_n 2, 1) := by decide +kernel
theorem d_P_put_25 : decode b_P_put 25 = .ok (.iload_n 3, 1) := by decide +kernel
theorem d_P_put_26 : decode b_P_put 26 = .ok (.invokestatic 285, 3) := by decide +kernel
theorem d_P_put_29 : decode b_P_put 29 = .ok (.istore 5, 2) := by decide +kernel
theorem d_P_put_31 : decode b_P_put 31 = .ok (.iload 5, 2) := by decide +kernel
theorem d_P_put_33 : decode b_P_put 33 = .ok (.ifCond .eq 10, 3) := by decide +kernel
theorem d_P_put_36 : decode b_P_put 36 = .ok (.aload_n 0, 1) := by decide +kernel
theorem d_P_put_37 : decode b_P_put 37 = .ok (.iload 5, 2) := by decide +kernel
theorem d_P_put_39 : decode b_P_put 39 = .ok (.invokevirtual 160, 3) := by decide +kernel
theorem d_P_put_42 : decode b_P_put 42 = .ok (.ireturn, 1) := by decide +kernel
theorem d_P_put_43 : decode b_P_put 43 = .ok (.aload_n 0, 1) := by decide +kernel
theorem d_P_put_44 : decode b_P_put 44 = .ok (.getfield 59, 3) := by decide +kernel
theorem d_P_put_47 : decode b_P_put 47 = .ok (.iload_n 1, 1) := by decide +kernel
theorem d_P_put_48 : decode b_P_put 48 = .ok (.aaload, 1) := by decide +kernel
theorem d_P_put_49 : decode b_P_put 49 = .ok (.iload_n 3, 1) := by decide +kernel
theorem d_P_put_50 : decode b_P_put 50 = .ok (.iload 4, 2) := by decide +kernel
theorem d_P_put_52 : decode b_P_put 52 = .ok (.invokevirtual 289, 3) := by decide +kernel
theorem d_P_put_55 : decode b_P_put 55 = .ok (.iconst 1, 1) := by decide +kernel
theorem d_P_put_56 : decode b_P_put 56 = .ok (.ireturn, 1) := by decide +kernel
theorem qm_P_285 : Cond.methodLink nC7 285 y_P_wrongWithItem ∈ tbl := tbl_in 799 (by decide +kernel) rfl
theorem qm_P_289 : Cond.methodLink nC7 289 y_S_store ∈ tbl := tbl_in 802 (by decide +kernel) rfl
def wp_P_put (σ : Hp) (a1 : Int32) (a2 : Int32) (a3 : Int32) (a4 : Int32) (P : Int32 → Hp → Prop) : Prop :=
  wp_P_isSheet σ a1 (fun (r1 : Int32) (t2 : Hp) => ((r1 = 0 → P (-2 : Int32) t2) ∧ (¬ r1 = 0 → wp_P_isForm t2 a2 (fun (r4 : Int32) (t5 : Hp) => ((¬ r4 = 0 → (vp_in a1 4) ∧ (∀ o8 : Nat, o8 = 10 + ix a1 → (isS o8) ∧ wp_P_wrongWithItem t5 o8 a2 a3 (fun (r10 : Int32) (t11 : Hp) => ((r10 = 0 → (vp_in a1 4) ∧ (∀ o14 : Nat, o14 = 10 + ix a1 → (isS o14) ∧ wp_S_store t11 o14 a3 a4 (fun (t17 : Hp) => P (1 : Int32) t17))) ∧ (¬ r10 = 0 → wp_P_found t11 r10 (fun (r18 : Int32) (t19 : Hp) => P r18 t19)))))) ∧ (r4 = 0 → P (-2 : Int32) t5))))))
set_option maxHeartbeats 4000000 in
set_option maxRecDepth 100000 in
theorem w_P_put (w : Wd) (σ : Hp) (a1 : Int32) (a2 : Int32) (a3 : Int32) (a4 : Int32) (P : Int32 → Hp → Prop) (h : wp_P_put σ a1 a2 a3 a4 P) : CtI μC w y_P_put b_P_put 6 (some .int) 2 [.ref (w.1 0), .int a1, .int a2, .int a3, .int a4] σ P := by
  unfold wp_P_put at h
  refine CtI.ofV (C := nC7) (lo := [some (.ref (w.1 0)), some (.int a1), some (.int a2), some (.int a3), some (.int a4), none]) exC (by decide +kernel) rfl rfl rfl (fun κ hC hR => ?_)
  refine V.aload_n hC d_P_put_0 rfl rfl ?_
  refine V.iload_n hC d_P_put_1 rfl rfl ?_
  refine V.callVI hC exC (w_P_isSheet w σ a1 _ h) d_P_put_2 mo_P_isSheet qm_P_154 rfl rfl rfl rfl rfl rfl rfl (Nat.le_of_ble_eq_true rfl) (fun r1 t2 h => ?_)
  refine V.if_eq (tgt := 15) hC d_P_put_5 (by decide) (fun c3 => ?_) (fun c3 => ?_)
  · replace h := h.1 c3
    refine V.bipush (v := -2) hC d_P_put_15 (by decide) ?_
    exact hR _ _ _ _ h rfl d_P_put_17
  · replace h := h.2 c3
    refine V.iload_n hC d_P_put_8 rfl rfl ?_
    refine V.callSI hC exC (w_P_isForm w t2 a2 _ h) d_P_put_9 mo_P_isForm qm_P_276 rfl rfl rfl rfl (Nat.le_of_ble_eq_true rfl) (fun r4 t5 h => ?_)
    refine V.if_ne (tgt := 18) hC d_P_put_12 (by decide) (fun c6 => ?_) (fun c6 => ?_)
    · replace h := h.1 c6
      refine V.aload_n hC d_P_put_18 rfl rfl ?_
      refine V.getR (j := 7) hC d_P_put_19 rfl rfl uC7 rfl rfl qf_P_59 ?_
      refine V.iload_n hC d_P_put_22 rfl rfl ?_
      obtain ⟨b7, h⟩ := h
      obtain ⟨o8, eo8⟩ : ∃ y : Nat, y = 10 + ix a1 := ⟨_, rfl⟩
      replace h := h o8 eo8
      obtain ⟨m9, h⟩ := h
      refine V.qald (b := 10) hC d_P_put_23 rfl b7 ?_
      rw [show 10 + Int32.toNatClampNeg a1 = o8 from eo8.symm]
      refine V.iload_n hC d_P_put_24 rfl rfl ?_
      refine V.iload_n hC d_P_put_25 rfl rfl ?_
      refine V.callSI hC exC (w_P_wrongWithItem w t5 o8 a2 a3 _ h) d_P_put_26 mo_P_wrongWithItem qm_P_285 rfl rfl rfl rfl (Nat.le_of_ble_eq_true rfl) (fun r10 t11 h => ?_)
      refine V.istore (y := r10) (lo' := [some (.ref (w.1 0)), some (.int a1), some (.int a2), some (.int a3), some (.int a4), some (.int r10)]) hC d_P_put_29 rfl rfl rfl ?_
      refine V.iload hC d_P_put_31 rfl ?_
      refine V.if_eq (tgt := 43) hC d_P_put_33 (by decide) (fun c12 => ?_) (fun c12 => ?_)
      · replace h := h.1 c12
        refine V.aload_n hC d_P_put_43 rfl rfl ?_
        refine V.getR (j := 7) hC d_P_put_44 rfl rfl uC7 rfl rfl qf_P_59 ?_
        refine V.iload_n hC d_P_put_47 rfl rfl ?_
        obtain ⟨b13, h⟩ := h
        obtain ⟨o14, eo14⟩ : ∃ y : Nat, y = 10 + ix a1 := ⟨_, rfl⟩
        replace h := h o14 eo14
        obtain ⟨m15, h⟩ := h
        refine V.qald (b := 10) hC d_P_put_48 rfl b13 ?_
        rw [show 10 + Int32.toNatClampNeg a1 = o14 from eo14.symm]
        refine V.iload_n hC d_P_put_49 rfl rfl ?_
        refine V.iload hC d_P_put_50 rfl ?_
        refine V.callVN hC exC (w_S_store w t11 o14 a3 a4 _ h) d_P_put_52 mo_S_store qm_P_289 (shS m15) rfl rfl rfl rfl rfl rfl (Nat.le_of_ble_eq_true rfl) (fun t17 h => ?_)
        refine V.iconst (v := 1) hC d_P_put_55 (by decide) ?_
        exact hR _ _ _ _ h rfl d_P_put_56
      · replace h := h.2 c12
        refine V.aload_n hC d_P_put_36 rfl rfl ?_
        refine V.iload hC d_P_put_37 rfl ?_
        refine V.callVI hC exC (w_P_found w t11 r10 _ h) d_P_put_39 mo_P_found qm_P_160 rfl rfl rfl rfl rfl rfl rfl (Nat.le_of_ble_eq_true rfl) (fun r18 t19 h => ?_)
        exact hR _ _ _ _ h rfl d_P_put_42
    · replace h := h.2 c6
      refine V.bipush (v := -2) hC d_P_put_15 (by decide) ?_
      exact hR _ _ _ _ h rfl d_P_put_17
