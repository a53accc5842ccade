abbrev b_R_month : ByteArray := prog_10_method_79_code
def y_R_month : MethodName := ⟨nC8, "month", "(III)I"⟩
theorem d_R_month_0 : decode b_R_month 0 = .ok (.iload_n 2, 1) := by decide +kernel
theorem d_R_month_1 : decode b_R_month 1 = .ok (.invokestatic 151, 3) := by decide +kernel
theorem d_R_month_4 : decode b_R_month 4 = .ok (.ifCond .eq 26, 3) := by decide +kernel
theorem d_R_month_7 : decode b_R_month 7 = .ok (.iload_n 3, 1) := by decide +kernel
theorem d_R_month_8 : decode b_R_month 8 = .ok (.iconst (-1), 1) := by decide +kernel
theorem d_R_month_9 : decode b_R_month 9 = .ok (.if_icmp .eq 11, 3) := by decide +kernel
theorem d_R_month_12 : decode b_R_month 12 = .ok (.aload_n 0, 1) := by decide +kernel
theorem d_R_month_13 : decode b_R_month 13 = .ok (.iload_n 3, 1) := by decide +kernel
theorem d_R_month_14 : decode b_R_month 14 = .ok (.invokevirtual 142, 3) := by decide +kernel
theorem d_R_month_17 : decode b_R_month 17 = .ok (.ifCond .eq 13, 3) := by decide +kernel
theorem d_R_month_20 : decode b_R_month 20 = .ok (.aload_n 0, 1) := by decide +kernel
theorem d_R_month_21 : decode b_R_month 21 = .ok (.iload_n 1, 1) := by decide +kernel
theorem d_R_month_22 : decode b_R_month 22 = .ok (.iload_n 2, 1) := by decide +kernel
theorem d_R_month_23 : decode b_R_month 23 = .ok (.iload_n 3, 1) := by decide +kernel
theorem d_R_month_24 : decode b_R_month 24 = .ok (.invokevirtual 281, 3) := by decide +kernel
theorem d_R_month_27 : decode b_R_month 27 = .ok (.goto 5, 3) := by decide +kernel
theorem d_R_month_30 : decode b_R_month 30 = .ok (.ldc 204, 2) := by decide +kernel
theorem d_R_month_32 : decode b_R_month 32 = .ok (.ireturn, 1) := by decide +kernel
theorem qm_R_281 : Cond.methodLink nC8 281 y_R_monthOf ∈ tbl := tbl_in 1282 (by decide +kernel) rfl
def j_R_month_20 (P : Int32 → Hp → Prop)  (σ : Hp) (x1 : Int32) (x2 : Int32) (x3 : Int32) : Prop :=
  wp_R_monthOf σ x1 x2 x3 (fun (r1 : Int32) (t2 : Hp) => P r1 t2)
def wp_R_month (σ : Hp) (a1 : Int32) (a2 : Int32) (a3 : Int32) (P : Int32 → Hp → Prop) : Prop :=
  wp_R_isDay σ a2 (fun (r3 : Int32) (t4 : Hp) => ((r3 = 0 → P (-100002 : Int32) t4) ∧ (¬ r3 = 0 → ((a3 = (-1 : Int32) → j_R_month_20 P t4 a1 a2 a3) ∧ (¬ a3 = (-1 : Int32) → wp_R_isHouse t4 a3 (fun (r7 : Int32) (t8 : Hp) => ((r7 = 0 → P (-100002 : Int32) t8) ∧ (¬ r7 = 0 → j_R_month_20 P t8 a1 a2 a3))))))))
set_option maxHeartbeats 4000000 in
set_option maxRecDepth 100000 in
theorem wj_R_month_20 {w : Wd} {κ : Kx} {P : Int32 → Hp → Prop} (hC : Cx μR w 4 κ nC8 b_R_month 8) (hR : RtI μR w 4 κ b_R_month .int P)  : ∀ (σ : Hp) (x1 : Int32) (x2 : Int32) (x3 : Int32), j_R_month_20  P  σ x1 x2 x3 → V μR w 4 κ σ [some (.ref (w.1 0)), some (.int x1), some (.int x2), some (.int x3)] 20 [] := by
  intro σ x1 x2 x3 h
  unfold j_R_month_20 at h
  refine V.aload_n hC d_R_month_20 rfl rfl ?_
  refine V.iload_n hC d_R_month_21 rfl rfl ?_
  refine V.iload_n hC d_R_month_22 rfl rfl ?_
  refine V.iload_n hC d_R_month_23 rfl rfl ?_
  refine V.callVI hC exR (w_R_monthOf w σ x1 x2 x3 _ h) d_R_month_24 mo_R_monthOf qm_R_281 rfl rfl rfl rfl rfl rfl rfl (Nat.le_of_ble_eq_true rfl) (fun r1 t2 h => ?_)
  refine V.goto (tgt := 32) hC d_R_month_27 (by decide) ?_
  exact hR _ _ _ _ h rfl d_R_month_32
set_option maxHeartbeats 4000000 in
set_option maxRecDepth 100000 in
theorem w_R_month (w : Wd) (σ : Hp) (a1 : Int32) (a2 : Int32) (a3 : Int32) (P : Int32 → Hp → Prop) (h : wp_R_month σ a1 a2 a3 P) : CtI μR w y_R_month b_R_month 4 (some .int) 8 [.ref (w.1 0), .int a1, .int a2, .int a3] σ P := by
  unfold wp_R_month at h
  refine CtI.ofV (C := nC8) (lo := [some (.ref (w.1 0)), some (.int a1), some (.int a2), some (.int a3)]) exR (by decide +kernel) rfl rfl rfl (fun κ hC hR => ?_)
  refine V.iload_n hC d_R_month_0 rfl rfl ?_
  refine V.callSI hC exR (w_R_isDay w σ a2 _ h) d_R_month_1 mo_R_isDay qm_R_151 rfl rfl rfl rfl (Nat.le_of_ble_eq_true rfl) (fun r3 t4 h => ?_)
  refine V.if_eq (tgt := 30) hC d_R_month_4 (by decide) (fun c5 => ?_) (fun c5 => ?_)
  · replace h := h.1 c5
    refine V.ldc (v := -100002) hC d_R_month_30 qc_R_204 ?_
    exact hR _ _ _ _ h rfl d_R_month_32
  · replace h := h.2 c5
    refine V.iload_n hC d_R_month_7 rfl rfl ?_
    refine V.iconst (v := -1) hC d_R_month_8 (by decide) ?_
    refine V.icmp_eq (tgt := 20) hC d_R_month_9 (by decide) (fun c6 => ?_) (fun c6 => ?_)
    · replace h := h.1 c6
      exact V.msk [true, true, true, true] rfl (wj_R_month_20  hC hR  t4 a1 a2 a3 h)
    · replace h := h.2 c6
      refine V.aload_n hC d_R_month_12 rfl rfl ?_
      refine V.iload_n hC d_R_month_13 rfl rfl ?_
      refine V.callVI hC exR (w_R_isHouse w t4 a3 _ h) d_R_month_14 mo_R_isHouse qm_R_142 rfl rfl rfl rfl rfl rfl rfl (Nat.le_of_ble_eq_true rfl) (fun r7 t8 h => ?_)
      refine V.if_eq (tgt := 30) hC d_R_month_17 (by decide) (fun c9 => ?_) (fun c9 => ?_)
      · replace h := h.1 c9
        refine V.ldc (v := -100002) hC d_R_month_30 qc_R_204 ?_
        exact hR _ _ _ _ h rfl d_R_month_32
      · replace h := h.2 c9
        exact V.msk [true, true, true, true] rfl (wj_R_month_20  hC hR  t8 a1 a2 a3 h)
abbrev b_R_sheet : ByteArray := prog_10_method_82_code
def y_R_sheet : MethodName := ⟨nC8, "sheet", "(III)I"⟩
theorem d_R_sheet_0 : decode b_R_sheet 0 = .ok (.iload_n 1, 1) := by decide +kernel
theorem d_R_sheet_1 : decode b_R_sheet 1 = .ok (.invokestatic 163, 3) := by decide +kernel
theorem d_R_sheet_4 : decode b_R_sheet 4 = .ok (.ifCond .eq 18, 3) := by decide +kernel
theorem d_R_sheet_7 : decode b_R_sheet 7 = .ok (.iload_n 2, 1) := by decide +kernel
theorem d_R_sheet_8 : decode b_R_sheet 8 = .ok (.iconst 0, 1) := by decide +kernel
theorem d_R_sheet_9 : decode b_R_sheet 9 = .ok (.iconst 2, 1) := by decide +kernel
theorem d_R_sheet_10 : decode b_R_sheet 10 = .ok (.invokestatic 97, 3) := by decide +kernel
theorem d_R_sheet_13 : decode b_R_sheet 13 = .ok (.ifCond .eq 9, 3) := by decide +kernel
theorem d_R_sheet_16 : decode b_R_sheet 16 = .ok (.iload_n 3, 1) := by decide +kernel
theorem d_R_sheet_17 : decode b_R_sheet 17 = .ok (.bipush 60, 2) := by decide +kernel
theorem d_R_sheet_19 : decode b_R_sheet 19 = .ok (.if_icmp .le 6, 3) := by decide +kernel
theorem d_R_sheet_22 : decode b_R_sheet 22 = .ok (.bipush (-2), 2) := by decide +kernel
theorem d_R_sheet_24 : decode b_R_sheet 24 = .ok (.ireturn, 1) := by decide +kernel
theorem d_R_sheet_25 : decode b_R_sheet 25 = .ok (.iload_n 3, 1) := by decide +kernel
theorem d_R_sheet_26 : decode b_R_sheet 26 = .ok (.ifCond .ge 9, 3) := by decide +kernel
theorem d_R_sheet_29 : decode b_R_sheet 29 = .ok (.aload_n 0, 1) := by decide +kernel
theorem d_R_sheet_30 : decode b_R_sheet 30 = .ok (.iconst 5, 1) := by decide +kernel
theorem d_R_sheet_31 : decode b_R_sheet 31 = .ok (.invokevirtual 166, 3) := by decide +kernel
theorem d_R_sheet_34 : decode b_R_sheet 34 = .ok (.ireturn, 1) := by decide +kernel
theorem d_R_sheet_35 : decode b_R_sheet 35 = .ok (.aload_n 0, 1) := by decide +kernel
theorem d_R_sheet_36 : decode b_R_sheet 36 = .ok (.getfield 80, 3) := by decide +kernel
theorem d_R_sheet_39 : decode b_R_sheet 39 = .ok (.iload_n 1, 1) := by decide +kernel
theorem d_R_sheet_40 : decode b_R_sheet 40 = .ok (.iconst 1, 1) := by decide +kernel
theorem d_R_sheet_41 : decode b_R_sheet 41 = .ok (.bastore, 1) := by decide +kernel
theorem d_R_sheet_42 : decode b_R_sheet 42 = .ok (.aload_n 0, 1) := by decide +kernel
theorem d_R_sheet_43 : decode b_R_sheet 43 = .ok (.getfield 83, 3) := by decide +kernel
theorem d_R_sheet_46 : decode b_R_sheet 46 = .ok (.iload_n 1, 1) := by decide +kernel
theorem d_R_sheet_47 : decode b_R_sheet 47 = .ok (.iload_n 2, 1) := by decide +kernel
theorem d_R_sheet_48 : decode b_R_sheet 48 = .ok (.iastore, 1) := by decide +kernel
theorem d_R_sheet_49 : decode b_R_sheet 49 = .ok (.aload_n 0, 1) := by decide +kernel
theorem d_R_sheet_50 : decode b_R_sheet 50 = .ok (.getfield 86, 3) := by decide +kernel
theorem d_R_sheet_53 : decode b_R_sheet 53 = .ok (.iload_n 1, 1) := by decide +kernel
theorem d_R_sheet_54 : decode b_R_sheet 54 = .ok (.iload_n 3, 1) := by decide +kernel
theorem d_R_sheet_55 : decode b_R_sheet 55 = .ok (.iastore, 1) := by decide +kernel
theorem d_R_sheet_56 : decode b_R_sheet 56 = .ok (.iconst 0, 1) := by decide +kernel
theorem d_R_sheet_57 : decode b_R_sheet 57 = .ok (.istore 4, 2) := by decide +kernel
theorem d_R_sheet_59 : decode b_R_sheet 59 = .ok (.iload 4, 2) := by decide +kernel
theorem d_R_sheet_61 : decode b_R_sheet 61 = .ok (.bipush 60, 2) := by decide +kernel
theorem d_R_sheet_63 : decode b_R_sheet 63 = .ok (.if_icmp .ge 22, 3) := by decide +kernel
theorem d_R_sheet_66 : decode b_R_sheet 66 = .ok (.aload_n 0, 1) := by decide +kernel
theorem d_R_sheet_67 : decode b_R_sheet 67 = .ok (.getfield 89, 3) := by decide +kernel
theorem d_R_sheet_70 : decode b_R_sheet 70 = .ok (.bipush 60, 2) := by decide +kernel
theorem d_R_sheet_72 : decode b_R_sheet 72 = .ok (.iload_n 1, 1) := by decide +kernel
theorem d_R_sheet_73 : decode b_R_sheet 73 = .ok (.imul, 1) := by decide +kernel
theorem d_R_sheet_74 : decode b_R_sheet 74 = .ok (.iload 4, 2) := by decide +kernel
theorem d_R_sheet_76 : decode b_R_sheet 76 = .ok (.iadd, 1) := by decide +kernel
theorem d_R_sheet_77 : decode b_R_sheet 77 = .ok (.iconst 0, 1) := by decide +kernel
theorem d_R_sheet_78 : decode b_R_sheet 78 = .ok (.iastore, 1) := by decide +kernel
theorem d_R_sheet_79 : decode b_R_sheet 79 = .ok (.iinc 4 1, 3) := by decide +kernel
theorem d_R_sheet_82 : decode b_R_sheet 82 = .ok (.goto (-23), 3) := by decide +kernel
theorem d_R_sheet_85 : decode b_R_sheet 85 = .ok (.iload_n 3, 1) := by decide +kernel
theorem d_R_sheet_86 : decode b_R_sheet 86 = .ok (.ireturn, 1) := by decide +kernel
theorem qf_R_83 : Cond.fieldLink nC8 83 (fC8 30).1 (fC8 30).2.1 (fC8 30).2.2.1 ∈ tbl := tbl_in 898 (by decide +kernel) rfl
def b_R_sheet_59_ (P : Int32 → Hp → Prop)  (I59 : Hp → Int32 → Int32 → Int32 → Prop) (σ : Hp) (x1 : Int32) (x3 : Int32) (x4 : Int32) : Prop :=
  (((60 : Int32) ≤ x4 → P x3 σ) ∧ (¬ (60 : Int32) ≤ x4 → (vp_in (((60 : Int32) * x1) + x4) 240) ∧ (∀ v3 : Int32, v3 = x4 + (1 : Int32) → I59 (st σ 27 (ix (((60 : Int32) * x1) + x4)) (0 : Int32)) x1 x3 v3)))
def j_R_sheet_59 (P : Int32 → Hp → Prop)  (σ : Hp) (x1 : Int32) (x3 : Int32) (x4 : Int32) : Prop := ∀ I59 : Hp → Int32 → Int32 → Int32 → Prop, (∀ (σ : Hp) (x1 : Int32) (x3 : Int32) (x4 : Int32), b_R_sheet_59_  P  I59 σ x1 x3 x4 → I59 σ x1 x3 x4) → I59 σ x1 x3 x4
def wp_R_sheet (σ : Hp) (a1 : Int32) (a2 : Int32) (a3 : Int32) (P : Int32 → Hp → Prop) : Prop :=
  wp_R_isSheet σ a1 (fun (r4 : Int32) (t5 : Hp) => ((r4 = 0 → P (-2 : Int32) t5) ∧ (¬ r4 = 0 → wp_R_in t5 a2 (0 : Int32) (2 : Int32) (fun (r7 : Int32) (t8 : Hp) => ((r7 = 0 → P (-2 : Int32) t8) ∧ (¬ r7 = 0 → ((a3 ≤ (60 : Int32) → ((0 ≤ a3 → (vp_in a1 4) ∧ (vp_in a1 4) ∧ (vp_in a1 4) ∧ j_R_sheet_59 P (st (st (st t8 24 (ix a1) (1 : Int32)) 25 (ix a1) a2) 26 (ix a1) a3) a1 a3 (0 : Int32)) ∧ (¬ 0 ≤ a3 → wp_R_meets t8 (5 : Int32) (fun (r15 : Int32) (t16 : Hp) => P r15 t16)))) ∧ (¬ a3 ≤ (60 : Int32) → P (-2 : Int32) t8))))))))
set_option maxHeartbeats 4000000 in
set_option maxRecDepth 100000 in
theorem wj_R_sheet_59 {w : Wd} {κ : Kx} {P : Int32 → Hp → Prop} (hC : Cx μR w 5 κ nC8 b_R_sheet 2) (hR : RtI μR w 5 κ b_R_sheet .int P)  : ∀ (σ : Hp) (x1 : Int32) (x3 : Int32) (x4 : Int32), j_R_sheet_59  P  σ x1 x3 x4 → V μR w 5 κ σ [some (.ref (w.1 0)), some (.int x1), none, some (.int x3), some (.int x4)] 59 [] := by
  intro σ x1 x3 x4 h
  refine h (fun σ x1 x3 x4 => V μR w 5 κ σ [some (.ref (w.1 0)), some (.int x1), none, some (.int x3), some (.int x4)] 59 []) (fun σ x1 x3 x4 h => ?_)
  unfold b_R_sheet_59_ at h
  refine V.iload hC d_R_sheet_59 rfl ?_
  refine V.bipush (v := 60) hC d_R_sheet_61 (by decide) ?_
  refine V.icmp_ge (tgt := 85) hC d_R_sheet_63 (by decide) (fun c1 => ?_) (fun c1 => ?_)
  · replace h := h.1 c1
    refine V.iload_n hC d_R_sheet_85 rfl rfl ?_
    exact hR _ _ _ _ h rfl d_R_sheet_86
  · replace h := h.2 c1
    refine V.aload_n hC d_R_sheet_66 rfl rfl ?_
    refine V.getR (j := 32) hC d_R_sheet_67 rfl rfl uC8 rfl rfl qf_R_89 ?_
    refine V.bipush (v := 60) hC d_R_sheet_70 (by decide) ?_
    refine V.iload_n hC d_R_sheet_72 rfl rfl ?_
    refine V.imul hC d_R_sheet_73 ?_
    refine V.iload hC d_R_sheet_74 rfl ?_
    refine V.iadd hC d_R_sheet_76 ?_
    refine V.iconst (v := 0) hC d_R_sheet_77 (by decide) ?_
    obtain ⟨b2, h⟩ := h
    refine V.iast hC d_R_sheet_78 rfl b2 ?_
    obtain ⟨v3, ev3⟩ : ∃ y : Int32, y = x4 + (1 : Int32) := ⟨_, rfl⟩
    replace h := h v3 ev3
    refine V.iinc (y := v3) (lo' := [some (.ref (w.1 0)), some (.int x1), none, some (.int x3), some (.int v3)]) hC d_R_sheet_79 rfl rfl (show v3 = _ + Int32.ofInt (1) from ev3) rfl ?_
    refine V.goto (tgt := 59) hC d_R_sheet_82 (by decide) ?_
    exact V.msk [true, true, false, true, true] rfl h
set_option maxHeartbeats 4000000 in
set_option maxRecDepth 100000 in
theorem w_R_sheet (w : Wd) (σ : Hp) (a1 : Int32) (a2 : Int32) (a3 : Int32) (P : Int32 → Hp → Prop) (h : wp_R_sheet σ a1 a2 a3 P) : CtI μR w y_R_sheet b_R_sheet 5 (some .int) 2 [.ref (w.1 0), .int a1, .int a2, .int a3] σ P := by
  unfold wp_R_sheet at h
  refine CtI.ofV (C := nC8) (lo := [some (.ref (w.1 0)), some (.int a1), some (.int a2), some (.int a3), none]) exR (by decide +kernel) rfl rfl rfl (fun κ hC hR => ?_)
  refine V.iload_n hC d_R_sheet_0 rfl rfl ?_
  refine V.callSI hC exR (w_R_isSheet w σ a1 _ h) d_R_sheet_1 mo_R_isSheet qm_R_163 rfl rfl rfl rfl (Nat.le_of_ble_eq_true rfl) (fun r4 t5 h => ?_)
  refine V.if_eq (tgt := 22) hC d_R_sheet_4 (by decide) (fun c6 => ?_) (fun c6 => ?_)
  · replace h := h.1 c6
    refine V.bipush (v := -2) hC d_R_sheet_22 (by decide) ?_
    exact hR _ _ _ _ h rfl d_R_sheet_24
  · replace h := h.2 c6
    refine V.iload_n hC d_R_sheet_7 rfl rfl ?_
    refine V.iconst (v := 0) hC d_R_sheet_8 (by decide) ?_
    refine V.iconst (v := 2) hC d_R_sheet_9 (by decide) ?_
    refine V.callSI hC exR (w_R_in w t5 a2 (0 : Int32) (2 : Int32) _ h) d_R_sheet_10 mo_R_in qm_R_97 rfl rfl rfl rfl (Nat.le_of_ble_eq_true rfl) (fun r7 t8 h => ?_)
    refine V.if_eq (tgt := 22) hC d_R_sheet_13 (by decide) (fun c9 => ?_) (fun c9 => ?_)
    · replace h := h.1 c9
      refine V.bipush (v := -2) hC d_R_sheet_22 (by decide) ?_
      exact hR _ _ _ _ h rfl d_R_sheet_24
    · replace h := h.2 c9
      refine V.iload_n hC d_R_sheet_16 rfl rfl ?_
      refine V.bipush (v := 60) hC d_R_sheet_17 (by decide) ?_
      refine V.icmp_le (tgt := 25) hC d_R_sheet_19 (by decide) (fun c10 => ?_) (fun c10 => ?_)
      · replace h := h.1 c10
        refine V.iload_n hC d_R_sheet_25 rfl rfl ?_
        refine V.if_ge (tgt := 35) hC d_R_sheet_26 (by decide) (fun c11 => ?_) (fun c11 => ?_)
        · replace h := h.1 c11
          refine V.aload_n hC d_R_sheet_35 rfl rfl ?_
          refine V.getR (j := 29) hC d_R_sheet_36 rfl rfl uC8 rfl rfl qf_R_80 ?_
          refine V.iload_n hC d_R_sheet_39 rfl rfl ?_
          refine V.iconst (v := 1) hC d_R_sheet_40 (by decide) ?_
          obtain ⟨b12, h⟩ := h
          refine V.zast hC d_R_sheet_41 rfl b12 (by decide) ?_
          refine V.aload_n hC d_R_sheet_42 rfl rfl ?_
          refine V.getR (j := 30) hC d_R_sheet_43 rfl rfl uC8 rfl rfl qf_R_83 ?_
          refine V.iload_n hC d_R_sheet_46 rfl rfl ?_
          refine V.iload_n hC d_R_sheet_47 rfl rfl ?_
          obtain ⟨b13, h⟩ := h
          refine V.iast hC d_R_sheet_48 rfl b13 ?_
          refine V.aload_n hC d_R_sheet_49 rfl rfl ?_
          refine V.getR (j := 31) hC d_R_sheet_50 rfl rfl uC8 rfl rfl qf_R_86 ?_
          refine V.iload_n hC d_R_sheet_53 rfl rfl ?_
          refine V.iload_n hC d_R_sheet_54 rfl rfl ?_
          obtain ⟨b14, h⟩ := h
          refine V.iast hC d_R_sheet_55 rfl b14 ?_
          refine V.iconst (v := 0) hC d_R_sheet_56 (by decide) ?_
          refine V.istore (y := (0 : Int32)) (lo' := [some (.ref (w.1 0)), some (.int a1), some (.int a2), some (.int a3), some (.int (0 : Int32))]) hC d_R_sheet_57 rfl rfl rfl ?_
          exact V.msk [true, true, false, true, true] rfl (wj_R_sheet_59  hC hR  (st (st (st t8 24 (ix a1) (1 : Int32)) 25 (ix a1) a2) 26 (ix a1) a3) a1 a3 (0 : Int32) h)
        · replace h := h.2 c11
          refine V.aload_n hC d_R_sheet_29 rfl rfl ?_
          refine V.iconst (v := 5) hC d_R_sheet_30 (by decide) ?_
          refine V.callVI hC exR (w_R_meets w t8 (5 : Int32) _ h) d_R_sheet_31 mo_R_meets qm_R_166 rfl rfl rfl rfl rfl rfl rfl (Nat.le_of_ble_eq_true rfl) (fun r15 t16 h => ?_)
          exact hR _ _ _ _ h rfl d_R_sheet_34
      · replace h := h.2 c10
        refine V.bipush (v := -2) hC d_R_sheet_22 (by decide) ?_
        exact hR _ _ _ _ h rfl d_R_sheet_24
abbrev b_R_lose : ByteArray := prog_10_method_83_code
def y_R_lose : MethodName := ⟨nC8, "lose", "(I)I"⟩
theorem d_R_lose_0 : decode b_R_lose 0 = .ok (.iload_n 1, 1) := by decide +kernel
theorem d_R_lose_1 : decode b_R_lose 1 = .ok (.invokestatic 163, 3) := by decide +kernel
theorem d_R_lose_4 : decode b_R_lose 4 = .ok (.ifCond .ne 6, 3) := by decide +kernel
theorem d_R_lose_7 : decode b_R_lose 7 = .ok (.bipush (-2), 2) := by decide +kernel
theorem d_R_lose_9 : decode b_R_lose 9 = .ok (.ireturn, 1) := by decide +kernel
theorem d_R_lose_10 : decode b_R_lose 10 = .ok (.aload_n 0, 1) := by decide +kernel
theorem d_R_lose_11 : decode b_R_lose 11 = .ok (.getfield 80, 3) := by decide +kernel
theorem d_R_lose_14 : decode b_R_lose 14 = .ok (.iload_n 1, 1) := by decide +kernel
theorem d_R_lose_15 : decode b_R_lose 15 = .ok (.baload, 1) := by decide +kernel
theorem d_R_lose_16 : decode b_R_lose 16 = .ok (.ifCond .ne 9, 3) := by decide +kernel
theorem d_R_lose_19 : decode b_R_lose 19 = .ok (.aload_n 0, 1) := by decide +kernel
theorem d_R_lose_20 : decode b_R_lose 20 = .ok (.iconst 1, 1) := by decide +kernel
theorem d_R_lose_21 : decode b_R_lose 21 = .ok (.invokevirtual 166, 3) := by decide +kernel
theorem d_R_lose_24 : decode b_R_lose 24 = .ok (.ireturn, 1) := by decide +kernel
theorem d_R_lose_25 : decode b_R_lose 25 = .ok (.aload_n 0, 1) := by decide +kernel
theorem d_R_lose_26 : decode b_R_lose 26 = .ok (.getfield 80, 3) := by decide +kernel
theorem d_R_lose_29 : decode b_R_lose 29 = .ok (.iload_n 1, 1) := by decide +kernel
theorem d_R_lose_30 : decode b_R_lose 30 = .ok (.iconst 0, 1) := by decide +kernel
theorem d_R_lose_31 : decode b_R_lose 31 = .ok (.bastore, 1) := by decide +kernel
theorem d_R_lose_32 : decode b_R_lose 32 = .ok (.aload_n 0, 1) := by decide +kernel
theorem d_R_lose_33 : decode b_R_lose 33 = .ok (.getfield 86, 3) := by decide +kernel
theorem d_R_lose_36 : decode b_R_lose 36 = .ok (.iload_n 1, 1) := by decide +kernel
theorem d_R_lose_37 : decode b_R_lose 37 = .ok (.iaload, 1) := by decide +kernel
theorem d_R_lose_38 : decode b_R_lose 38 = .ok (.ireturn, 1) := by decide +kernel
def wp_R_lose (σ : Hp) (a1 : Int32) (P : Int32 → Hp → Prop) : Prop :=
  wp_R_isSheet σ a1 (fun (r1 : Int32) (t2 : Hp) => ((¬ r1 = 0 → (vp_in a1 4) ∧ ((¬ (t2 24 (ix a1)) = 0 → (vp_in a1 4) ∧ (vp_in a1 4) ∧ P ((st t2 24 (ix a1) (0 : Int32)) 26 (ix a1)) (st t2 24 (ix a1) (0 : Int32))) ∧ ((t2 24 (ix a1)) = 0 → wp_R_meets t2 (1 : Int32) (fun (r8 : Int32) (t9 : Hp) => P r8 t9)))) ∧ (r1 = 0 → P (-2 : Int32) t2)))
set_option maxHeartbeats 4000000 in
set_option maxRecDepth 100000 in
theorem w_R_lose (w : Wd) (σ : Hp) (a1 : Int32) (P : Int32 → Hp → Prop) (h : wp_R_lose σ a1 P) : CtI μR w y_R_lose b_R_lose 2 (some .int) 2 [.ref (w.1 0), .int a1] σ P := by
  unfold wp_R_lose at h
  refine CtI.ofV (C := nC8) (lo := [some (.ref (w.1 0)), some (.int a1)]) exR (by decide +kernel) rfl rfl rfl (fun κ hC hR => ?_)
  refine V.iload_n hC d_R_lose_0 rfl rfl ?_
  refine V.callSI hC exR (w_R_isSheet w σ a1 _ h) d_R_lose_1 mo_R_isSheet qm_R_163 rfl rfl rfl rfl (Nat.le_of_ble_eq_true rfl) (fun r1 t2 h => ?_)
  refine V.if_ne (tgt := 10) hC d_R_lose_4 (by decide) (fun c3 => ?_) (fun c3 => ?_)
  · replace h := h.1 c3
    refine V.aload_n hC d_R_lose_10 rfl rfl ?_
    refine V.getR (j := 29) hC d_R_lose_11 rfl rfl uC8 rfl rfl qf_R_80 ?_
    refine V.iload_n hC d_R_lose_14 rfl rfl ?_
    obtain ⟨b4, h⟩ := h
    refine V.zald hC d_R_lose_15 rfl b4 ?_
    refine V.if_ne (tgt := 25) hC d_R_lose_16 (by decide) (fun c5 => ?_) (fun c5 => ?_)
    · replace h := h.1 c5
      refine V.aload_n hC d_R_lose_25 rfl rfl ?_
      refine V.getR (j := 29) hC d_R_lose_26 rfl rfl uC8 rfl rfl qf_R_80 ?_
      refine V.iload_n hC d_R_lose_29 rfl rfl ?_
      refine V.iconst (v := 0) hC d_R_lose_30 (by decide) ?_
      obtain ⟨b6, h⟩ := h
      refine V.zast hC d_R_lose_31 rfl b6 (by decide) ?_
      refine V.aload_n hC d_R_lose_32 rfl rfl ?_
      refine V.getR (j := 31) hC d_R_lose_33 rfl rfl uC8 rfl rfl qf_R_86 ?_
      refine V.iload_n hC d_R_lose_36 rfl rfl ?_
      obtain ⟨b7, h⟩ := h
      refine V.iald hC d_R_lose_37 rfl b7 ?_
      exact hR _ _ _ _ h rfl d_R_lose_38
    · replace h := h.2 c5
      refine V.aload_n hC d_R_lose_19 rfl rfl ?_
      refine V.iconst (v := 1) hC d_R_lose_20 (by decide) ?_
      refine V.callVI hC exR (w_R_meets w t2 (1 : Int32) _ h) d_R_lose_21 mo_R_meets qm_R_166 rfl rfl rfl rfl rfl rfl rfl (Nat.le_of_ble_eq_true rfl) (fun r8 t9 h => ?_)
      exact hR _ _ _ _ h rfl d_R_lose_24
  · replace h := h.2 c3
    refine V.bipush (v := -2) hC d_R_lose_7 (by decide) ?_
    exact hR _ _ _ _ h rfl d_R_lose_9
abbrev b_R_lacks : ByteArray := prog_10_method_84_code
def y_R_lacks : MethodName := ⟨nC8, "lacks", "(III)I"⟩
theorem d_R_lacks_0 : decode b_R_lacks 0 = .ok (.aload_n 0, 1) := by decide +kernel
theorem d_R_lacks_1 : decode b_R_lacks 1 = .ok (.getfield 80, 3) := by decide +kernel
theorem d_R_lacks_4 : decode b_R_lacks 4 = .ok (.iload_n 1, 1) := by decide +kernel
theorem d_R_lacks_5 : decode b_R_lacks 5 = .ok (.baload, 1) := by decide +kernel
theorem d_R_lacks_6 : decode b_R_lacks 6 = .ok (.ifCond .ne 7, 3) := by decide +kernel
theorem d_R_lacks_9 : decode b_R_lacks 9 = .ok (.iconst 1, 1) := by decide +kernel
theorem d_R_lacks_10 : decode b_R_lacks 10 = .ok (.goto 38, 3) := by decide +kernel
theorem d_R_lacks_13 : decode b_R_lacks 13 = .ok (.aload_n 0, 1) := by decide +kernel
theorem d_R_lacks_14 : decode b_R_lacks 14 = .ok (.getfield 83, 3) := by decide +kernel
theorem d_R_lacks_17 : decode b_R_lacks 17 = .ok (.iload_n 1, 1) := by decide +kernel
theorem d_R_lacks_18 : decode b_R_lacks 18 = .ok (.iaload, 1) := by decide +kernel
theorem d_R_lacks_19 : decode b_R_lacks 19 = .ok (.iload_n 2, 1) := by decide +kernel
theorem d_R_lacks_20 : decode b_R_lacks 20 = .ok (.if_icmp .eq 7, 3) := by decide +kernel
theorem d_R_lacks_23 : decode b_R_lacks 23 = .ok (.iconst 3, 1) := by decide +kernel
theorem d_R_lacks_24 : decode b_R_lacks 24 = .ok (.goto 24, 3) := by decide +kernel
theorem d_R_lacks_27 : decode b_R_lacks 27 = .ok (.iload_n 3, 1) := by decide +kernel
theorem d_R_lacks_28 : decode b_R_lacks 28 = .ok (.iconst 0, 1) := by decide +kernel
theorem d_R_lacks_29 : decode b_R_lacks 29 = .ok (.aload_n 0, 1) := by decide +kernel
theorem d_R_lacks_30 : decode b_R_lacks 30 = .ok (.getfield 86, 3) := by decide +kernel
theorem d_R_lacks_33 : decode b_R_lacks 33 = .ok (.iload_n 1, 1) := by decide +kernel
theorem d_R_lacks_34 : decode b_R_lacks 34 = .ok (.iaload, 1) := by decide +kernel
theorem d_R_lacks_35 : decode b_R_lacks 35 = .ok (.iconst 1, 1) := by decide +kernel
theorem d_R_lacks_36 : decode b_R_lacks 36 = .ok (.isub, 1) := by decide +kernel
theorem d_R_lacks_37 : decode b_R_lacks 37 = .ok (.invokestatic 97, 3) := by decide +kernel
theorem d_R_lacks_40 : decode b_R_lacks 40 = .ok (.ifCond .eq 7, 3) := by decide +kernel
theorem d_R_lacks_43 : decode b_R_lacks 43 = .ok (.iconst 0, 1) := by decide +kernel
theorem d_R_lacks_44 : decode b_R_lacks 44 = .ok (.goto 4, 3) := by decide +kernel
theorem d_R_lacks_47 : decode b_R_lacks 47 = .ok (.iconst 2, 1) := by decide +kernel
theorem d_R_lacks_48 : decode b_R_lacks 48 = .ok (.ireturn, 1) := by decide +kernel
theorem mo_R_lacks : MokV y_R_lacks b_R_lacks 4 (some .int) 3 := ⟨⟨(tbl_in 1302 (by decide +kernel) rfl), (tbl_in 70 (by decide +kernel) rfl)⟩, ⟨(tbl_in 1301 (by decide +kernel) rfl), tbl_lw _ (tbl_in 55 (by decide +kernel) rfl), (tbl_in 55 (by decide +kernel) rfl)⟩, ⟨by decide +kernel, by decide +kernel⟩, by decide +kernel⟩
def wp_R_lacks (σ : Hp) (a1 : Int32) (a2 : Int32) (a3 : Int32) (P : Int32 → Hp → Prop) : Prop :=
  (vp_in a1 4) ∧ ((¬ (σ 24 (ix a1)) = 0 → (vp_in a1 4) ∧ (((σ 25 (ix a1)) = a2 → (vp_in a1 4) ∧ wp_R_in σ a3 (0 : Int32) ((σ 26 (ix a1)) - (1 : Int32)) (fun (r6 : Int32) (t7 : Hp) => ((r6 = 0 → P (2 : Int32) t7) ∧ (¬ r6 = 0 → P (0 : Int32) t7)))) ∧ (¬ (σ 25 (ix a1)) = a2 → P (3 : Int32) σ))) ∧ ((σ 24 (ix a1)) = 0 → P (1 : Int32) σ))
set_option maxHeartbeats 4000000 in
set_option maxRecDepth 100000 in
theorem w_R_lacks (w : Wd) (σ : Hp) (a1 : Int32) (a2 : Int32) (a3 : Int32) (P : Int32 → Hp → Prop) (h : wp_R_lacks σ a1 a2 a3 P) : CtI μR w y_R_lacks b_R_lacks 4 (some .int) 1 [.ref (w.1 0), .int a1, .int a2, .int a3] σ P := by
  unfold wp_R_lacks at h
  refine CtI.ofV (C := nC8) (lo := [some (.ref (w.1 0)), some (.int a1), some (.int a2), some (.int a3)]) exR (by decide +kernel) rfl rfl rfl (fun κ hC hR => ?_)
  refine V.aload_n hC d_R_lacks_0 rfl rfl ?_
  refine V.getR (j := 29) hC d_R_lacks_1 rfl rfl uC8 rfl rfl qf_R_80 ?_
  refine V.iload_n hC d_R_lacks_4 rfl rfl ?_
  obtain ⟨b1, h⟩ := h
  refine V.zald hC d_R_lacks_5 rfl b1 ?_
  refine V.if_ne (tgt := 13) hC d_R_lacks_6 (by decide) (fun c2 => ?_) (fun c2 => ?_)
  · replace h := h.1 c2
    refine V.aload_n hC d_R_lacks_13 rfl rfl ?_
    refine V.getR (j := 30) hC d_R_lacks_14 rfl rfl uC8 rfl rfl qf_R_83 ?_
    refine V.iload_n hC d_R_lacks_17 rfl rfl ?_
    obtain ⟨b3, h⟩ := h
    refine V.iald hC d_R_lacks_18 rfl b3 ?_
    refine V.iload_n hC d_R_lacks_19 rfl rfl ?_
    refine V.icmp_eq (tgt := 27) hC d_R_lacks_20 (by decide) (fun c4 => ?_) (fun c4 => ?_)
    · replace h := h.1 c4
      refine V.iload_n hC d_R_lacks_27 rfl rfl ?_
      refine V.iconst (v := 0) hC d_R_lacks_28 (by decide) ?_
      refine V.aload_n hC d_R_lacks_29 rfl rfl ?_
      refine V.getR (j := 31) hC d_R_lacks_30 rfl rfl uC8 rfl rfl qf_R_86 ?_
      refine V.iload_n hC d_R_lacks_33 rfl rfl ?_
      obtain ⟨b5, h⟩ := h
      refine V.iald hC d_R_lacks_34 rfl b5 ?_
      refine V.iconst (v := 1) hC d_R_lacks_35 (by decide) ?_
      refine V.isub hC d_R_lacks_36 ?_
      refine V.callSI hC exR (w_R_in w σ a3 (0 : Int32) ((σ 26 (ix a1)) - (1 : Int32)) _ h) d_R_lacks_37 mo_R_in qm_R_97 rfl rfl rfl rfl (Nat.le_of_ble_eq_true rfl) (fun r6 t7 h => ?_)
      refine V.if_eq (tgt := 47) hC d_R_lacks_40 (by decide) (fun c8 => ?_) (fun c8 => ?_)
      · replace h := h.1 c8
        refine V.iconst (v := 2) hC d_R_lacks_47 (by decide) ?_
        exact hR _ _ _ _ h rfl d_R_lacks_48
      · replace h := h.2 c8
        refine V.iconst (v := 0) hC d_R_lacks_43 (by decide) ?_
        refine V.goto (tgt := 48) hC d_R_lacks_44 (by decide) ?_
        exact hR _ _ _ _ h rfl d_R_lacks_48
    · replace h := h.2 c4
      refine V.iconst (v := 3) hC d_R_lacks_23 (by decide) ?_
      refine V.goto (tgt := 48) hC d_R_lacks_24 (by decide) ?_
      exact hR _ _ _ _ h rfl d_R_lacks_48
  · replace h := h.2 c2
    refine V.iconst (v := 1) hC d_R_lacks_9 (by decide) ?_
    refine V.goto (tgt := 48) hC d_R_lacks_10 (by decide) ?_
    exact hR _ _ _ _ h rfl d_R_lacks_48
abbrev b_R_keep : ByteArray := prog_10_method_85_code
def y_R_keep : MethodName := ⟨nC8, "keep", "(III)V"⟩
theorem d_R_keep_0 : decode b_R_keep 0 = .ok (.aload_n 0, 1) := by decide +kernel
theorem d_R_keep_1 : decode b_R_keep 1 = .ok (.getfield 89, 3) := by decide +kernel
theorem d_R_keep_4 : decode b_R_keep 4 = .ok (.bipush 60, 2) := by decide +kernel
theorem d_R_keep_6 : decode b_R_keep 6 = .ok (.iload_n 1, 1) := by decide +kernel
theorem d_R_keep_7 : decode b_R_keep 7 = .ok (.imul, 1) := by decide +kernel
theorem d_R_keep_8 : decode b_R_keep 8 = .ok (.iload_n 2, 1) := by decide +kernel
theorem d_R_keep_9 : decode b_R_keep 9 = .ok (.iadd, 1) := by decide +kernel
theorem d_R_keep_10 : decode b_R_keep 10 = .ok (.aload_n 0, 1) := by decide +kernel
theorem d_R_keep_11 : decode b_R_keep 11 = .ok (.getfield 83, 3) := by decide +kernel
theorem d_R_keep_14 : decode b_R_keep 14 = .ok (.iload_n 1, 1) := by decide +kernel
theorem d_R_keep_15 : decode b_R_keep 15 = .ok (.iaload, 1) := by decide +kernel
theorem d_R_keep_16 : decode b_R_keep 16 = .ok (.ifCond .ne 8, 3) := by decide +kernel
theorem d_R_keep_19 : decode b_R_keep 19 = .ok (.iload_n 3, 1) := by decide +kernel
theorem d_R_keep_20 : decode b_R_keep 20 = .ok (.i2b, 1) := by decide +kernel
theorem d_R_keep_21 : decode b_R_keep 21 = .ok (.goto 19, 3) := by decide +kernel
theorem d_R_keep_24 : decode b_R_keep 24 = .ok (.aload_n 0, 1) := by decide +kernel
theorem d_R_keep_25 : decode b_R_keep 25 = .ok (.getfield 83, 3) := by decide +kernel
theorem d_R_keep_28 : decode b_R_keep 28 = .ok (.iload_n 1, 1) := by decide +kernel
theorem d_R_keep_29 : decode b_R_keep 29 = .ok (.iaload, 1) := by decide +kernel
theorem d_R_keep_30 : decode b_R_keep 30 = .ok (.iconst 1, 1) := by decide +kernel
theorem d_R_keep_31 : decode b_R_keep 31 = .ok (.if_icmp .ne 8, 3) := by decide +kernel
theorem d_R_keep_34 : decode b_R_keep 34 = .ok (.iload_n 3, 1) := by decide +kernel
theorem d_R_keep_35 : decode b_R_keep 35 = .ok (.i2s, 1) := by decide +kernel
theorem d_R_keep_36 : decode b_R_keep 36 = .ok (.goto 4, 3) := by decide +kernel
theorem d_R_keep_39 : decode b_R_keep 39 = .ok (.iload_n 3, 1) := by decide +kernel
theorem d_R_keep_40 : decode b_R_keep 40 = .ok (.iastore, 1) := by decide +kernel
theorem d_R_keep_41 : decode b_R_keep 41 = .ok (.return_, 1) := by decide +kernel
theorem mo_R_keep : MokV y_R_keep b_R_keep 4 none 3 := ⟨⟨(tbl_in 1306 (by decide +kernel) rfl), (tbl_in 70 (by decide +kernel) rfl)⟩, ⟨(tbl_in 1305 (by decide +kernel) rfl), tbl_lw _ (tbl_in 56 (by decide +kernel) rfl), (tbl_in 56 (by decide +kernel) rfl)⟩, ⟨by decide +kernel, by decide +kernel⟩, by decide +kernel⟩
def wp_R_keep (σ : Hp) (a1 : Int32) (a2 : Int32) (a3 : Int32) (P : Hp → Prop) : Prop :=
  (vp_in a1 4) ∧ ((¬ (σ 25 (ix a1)) = 0 → (vp_in a1 4) ∧ ((¬ (σ 25 (ix a1)) = (1 : Int32) → (vp_in (((60 : Int32) * a1) + a2) 240) ∧ P (st σ 27 (ix (((60 : Int32) * a1) + a2)) a3)) ∧ ((σ 25 (ix a1)) = (1 : Int32) → (vp_in (((60 : Int32) * a1) + a2) 240) ∧ P (st σ 27 (ix (((60 : Int32) * a1) + a2)) (a3.toInt16.toInt32))))) ∧ ((σ 25 (ix a1)) = 0 → (vp_in (((60 : Int32) * a1) + a2) 240) ∧ P (st σ 27 (ix (((60 : Int32) * a1) + a2)) (a3.toInt8.toInt32))))
set_option maxHeartbeats 4000000 in
set_option maxRecDepth 100000 in
theorem w_R_keep (w : Wd) (σ : Hp) (a1 : Int32) (a2 : Int32) (a3 : Int32) (P : Hp → Prop) (h : wp_R_keep σ a1 a2 a3 P) : CtN μR w y_R_keep b_R_keep 4 none 0 [.ref (w.1 0), .int a1, .int a2, .int a3] σ P := by
  unfold wp_R_keep at h
  refine CtN.ofV (C := nC8) (lo := [some (.ref (w.1 0)), some (.int a1), some (.int a2), some (.int a3)]) exR (by decide +kernel) rfl rfl rfl (fun κ hC hR => ?_)
  refine V.aload_n hC d_R_keep_0 rfl rfl ?_
  refine V.getR (j := 32) hC d_R_keep_1 rfl rfl uC8 rfl rfl qf_R_89 ?_
  refine V.bipush (v := 60) hC d_R_keep_4 (by decide) ?_
  refine V.iload_n hC d_R_keep_6 rfl rfl ?_
  refine V.imul hC d_R_keep_7 ?_
  refine V.iload_n hC d_R_keep_8 rfl rfl ?_
  refine V.iadd hC d_R_keep_9 ?_
  refine V.aload_n hC d_R_keep_10 rfl rfl ?_
  refine V.getR (j := 30) hC d_R_keep_11 rfl rfl uC8 rfl rfl qf_R_83 ?_
  refine V.iload_n hC d_R_keep_14 rfl rfl ?_
  obtain ⟨b1, h⟩ := h
  refine V.iald hC d_R_keep_15 rfl b1 ?_
  refine V.if_ne (tgt := 24) hC d_R_keep_16 (by decide) (fun c2 => ?_) (fun c2 => ?_)
  · replace h := h.1 c2
    refine V.aload_n hC d_R_keep_24 rfl rfl ?_
    refine V.getR (j := 30) hC d_R_keep_25 rfl rfl uC8 rfl rfl qf_R_83 ?_
    refine V.iload_n hC d_R_keep_28 rfl rfl ?_
    obtain ⟨b3, h⟩ := h
    refine V.iald hC d_R_keep_29 rfl b3 ?_
    refine V.iconst (v := 1) hC d_R_keep_30 (by decide) ?_
    refine V.icmp_ne (tgt := 39) hC d_R_keep_31 (by decide) (fun c4 => ?_) (fun c4 => ?_)
    · replace h := h.1 c4
      refine V.iload_n hC d_R_keep_39 rfl rfl ?_
      obtain ⟨b5, h⟩ := h
      refine V.iast hC d_R_keep_40 rfl b5 ?_
      exact hR _ _ _ h d_R_keep_41
    · replace h := h.2 c4
      refine V.iload_n hC d_R_keep_34 rfl rfl ?_
      refine V.i2s hC d_R_keep_35 ?_
      refine V.goto (tgt := 40) hC d_R_keep_36 (by decide) ?_
      obtain ⟨b6, h⟩ := h
      refine V.iast hC d_R_keep_40 rfl b6 ?_
      exact hR _ _ _ h d_R_keep_41
  · replace h := h.2 c2
    refine V.iload_n hC d_R_keep_19 rfl rfl ?_
    refine V.i2b hC d_R_keep_20 ?_
    refine V.goto (tgt := 40) hC d_R_keep_21 (by decide) ?_
    obtain ⟨b7, h⟩ := h
    refine V.iast hC d_R_keep_40 rfl b7 ?_
    exact hR _ _ _ h d_R_keep_41
abbrev b_R_put : ByteArray := prog_10_method_86_code
def y_R_put : MethodName := ⟨nC8, "put", "(IIII)I"⟩
theorem d_R_put_0 : decode b_R_put 0 = .ok (.iload_n 1, 1) := by decide +kernel
theorem d_R_put_1 : decode b_R_put 1 = .ok (.invokestatic 163, 3) := by decide +kernel
theorem d_R_put_4 : decode b_R_put 4 = .ok (.ifCond .eq 12, 3) := by decide +kernel
theorem d_R_put_7 : decode b_R_put 7 = .ok (.iload_n 2, 1) := by decide +kernel
theorem d_R_put_8 : decode b_R_put 8 = .ok (.iconst 0, 1) := by decide +kernel
theorem d_R_put_9 : decode b_R_put 9 = .ok (.iconst 2, 1) := by decide +kernel
theorem d_R_put_10 : decode b_R_put 10 = .ok (.invokestatic 97, 3) := by decide +kernel
theorem d_R_put_13 : decode b_R_put 13 = .ok (.ifCond .ne 6, 3) := by decide +kernel
theorem d_R_put_16 : decode b_R_put 16 = .ok (.bipush (-2), 2) := by decide +kernel
theorem d_R_put_18 : decode b_R_put 18 = .ok (.ireturn, 1) := by decide +kernel
theorem d_R_put_19 : decode b_R_put 19 = .ok (.aload_n 0, 1) := by decide +kernel
theorem d_R_put_20 : decode b_R_put 20 = .ok (.iload_n 1, 1) := by decide +kernel
theorem d_R_put_21 : decode b_R_put 21 = .ok (.iload_n 2, 1) := by decide +kernel
theorem d_R_put_22 : decode b_R_put 22 = .ok (.iload_n 3, 1) := by decide +kernel
theorem d_R_put_23 : decode b_R_put 23 = .ok (.invokevirtual 287, 3) := by decide +kernel
theorem d_R_put_26 : decode b_R_put 26 = .ok (.istore 5, 2) := by decide +kernel
theorem d_R_put_28 : decode b_R_put 28 = .ok (.iload 5, 2) := by decide +kernel
theorem d_R_put_30 : decode b_R_put 30 = .ok (.ifCond .le 10, 3) := by decide +kernel
theorem d_R_put_33 : decode b_R_put 33 = .ok (.aload_n 0, 1) := by decide +kernel
theorem d_R_put_34 : decode b_R_put 34 = .ok (.iload 5, 2) := by decide +kernel
theorem d_R_put_36 : decode b_R_put 36 = .ok (.invokevirtual 166, 3) := by decide +kernel
theorem d_R_put_39 : decode b_R_put 39 = .ok (.ireturn, 1) := by decide +kernel
theorem d_R_put_40 : decode b_R_put 40 = .ok (.aload_n 0, 1) := by decide +kernel
theorem d_R_put_41 : decode b_R_put 41 = .ok (.iload_n 1, 1) := by decide +kernel
theorem d_R_put_42 : decode b_R_put 42 = .ok (.iload_n 3, 1) := by decide +kernel
theorem d_R_put_43 : decode b_R_put 43 = .ok (.iload 4, 2) := by decide +kernel
theorem d_R_put_45 : decode b_R_put 45 = .ok (.invokevirtual 290, 3) := by decide +kernel
theorem d_R_put_48 : decode b_R_put 48 = .ok (.iconst 1, 1) := by decide +kernel
theorem d_R_put_49 : decode b_R_put 49 = .ok (.ireturn, 1) := by decide +kernel
theorem qm_R_287 : Cond.methodLink nC8 287 y_R_lacks ∈ tbl := tbl_in 1299 (by decide +kernel) rfl
theorem qm_R_290 : Cond.methodLink nC8 290 y_R_keep ∈ tbl := tbl_in 1303 (by decide +kernel) rfl
def wp_R_put (σ : Hp) (a1 : Int32) (a2 : Int32) (a3 : Int32) (a4 : Int32) (P : Int32 → Hp → Prop) : Prop :=
  wp_R_isSheet σ a1 (fun (r1 : Int32) (t2 : Hp) => ((r1 = 0 → P (-2 : Int32) t2) ∧ (¬ r1 = 0 → wp_R_in t2 a2 (0 : Int32) (2 : Int32) (fun (r4 : Int32) (t5 : Hp) => ((¬ r4 = 0 → wp_R_lacks t5 a1 a2 a3 (fun (r7 : Int32) (t8 : Hp) => ((r7 ≤ 0 → wp_R_keep t8 a1 a3 a4 (fun (t11 : Hp) => P (1 : Int32) t11)) ∧ (¬ r7 ≤ 0 → wp_R_meets t8 r7 (fun (r12 : Int32) (t13 : Hp) => P r12 t13))))) ∧ (r4 = 0 → P (-2 : Int32) t5))))))
set_option maxHeartbeats 4000000 in
set_option maxRecDepth 100000 in
theorem w_R_put (w : Wd) (σ : Hp) (a1 : Int32) (a2 : Int32) (a3 : Int32) (a4 : Int32) (P : Int32 → Hp → Prop) (h : wp_R_put σ a1 a2 a3 a4 P) : CtI μR w y_R_put b_R_put 6 (some .int) 2 [.ref (w.1 0), .int a1, .int a2, .int a3, .int a4] σ P := by
  unfold wp_R_put at h
  refine CtI.ofV (C := nC8) (lo := [some (.ref (w.1 0)), some (.int a1), some (.int a2), some (.int a3), some (.int a4), none]) exR (by decide +kernel) rfl rfl rfl (fun κ hC hR => ?_)
  refine V.iload_n hC d_R_put_0 rfl rfl ?_
  refine V.callSI hC exR (w_R_isSheet w σ a1 _ h) d_R_put_1 mo_R_isSheet qm_R_163 rfl rfl rfl rfl (Nat.le_of_ble_eq_true rfl) (fun r1 t2 h => ?_)
  refine V.if_eq (tgt := 16) hC d_R_put_4 (by decide) (fun c3 => ?_) (fun c3 => ?_)
  · replace h := h.1 c3
    refine V.bipush (v := -2) hC d_R_put_16 (by decide) ?_
    exact hR _ _ _ _ h rfl d_R_put_18
  · replace h := h.2 c3
    refine V.iload_n hC d_R_put_7 rfl rfl ?_
    refine V.iconst (v := 0) hC d_R_put_8 (by decide) ?_
    refine V.iconst (v := 2) hC d_R_put_9 (by decide) ?_
    refine V.callSI hC exR (w_R_in w t2 a2 (0 : Int32) (2 : Int32) _ h) d_R_put_10 mo_R_in qm_R_97 rfl rfl rfl rfl (Nat.le_of_ble_eq_true rfl) (fun r4 t5 h => ?_)
    refine V.if_ne (tgt := 19) hC d_R_put_13 (by decide) (fun c6 => ?_) (fun c6 => ?_)
    · replace h := h.1 c6
      refine V.aload_n hC d_R_put_19 rfl rfl ?_
      refine V.iload_n hC d_R_put_20 rfl rfl ?_
      refine V.iload_n hC d_R_put_21 rfl rfl ?_
      refine V.iload_n hC d_R_put_22 rfl rfl ?_
      refine V.callVI hC exR (w_R_lacks w t5 a1 a2 a3 _ h) d_R_put_23 mo_R_lacks qm_R_287 rfl rfl rfl rfl rfl rfl rfl (Nat.le_of_ble_eq_true rfl) (fun r7 t8 h => ?_)
      refine V.istore (y := r7) (lo' := [some (.ref (w.1 0)), some (.int a1), some (.int a2), some (.int a3), some (.int a4), some (.int r7)]) hC d_R_put_26 rfl rfl rfl ?_
      refine V.iload hC d_R_put_28 rfl ?_
      refine V.if_le (tgt := 40) hC d_R_put_30 (by decide) (fun c9 => ?_) (fun c9 => ?_)
      · replace h := h.1 c9
        refine V.aload_n hC d_R_put_40 rfl rfl ?_
        refine V.iload_n hC d_R_put_41 rfl rfl ?_
        refine V.iload_n hC d_R_put_42 rfl rfl ?_
        refine V.iload hC d_R_put_43 rfl ?_
        refine V.callVN hC exR (w_R_keep w t8 a1 a3 a4 _ h) d_R_put_45 mo_R_keep qm_R_290 rfl rfl rfl rfl rfl rfl rfl (Nat.le_of_ble_eq_true rfl) (fun t11 h => ?_)
        refine V.iconst (v := 1) hC d_R_put_48 (by decide) ?_
        exact hR _ _ _ _ h rfl d_R_put_49
      · replace h := h.2 c9
        refine V.aload_n hC d_R_put_33 rfl rfl ?_
        refine V.iload hC d_R_put_34 rfl ?_
        refine V.callVI hC exR (w_R_meets w t8 r7 _ h) d_R_put_36 mo_R_meets qm_R_166 rfl rfl rfl rfl rfl rfl rfl (Nat.le_of_ble_eq_true rfl) (fun r12 t13 h => ?_)
        exact hR _ _ _ _ h rfl d_R_put_39
    · replace h := h.2 c6
      refine V.bipush (v := -2) hC d_R_put_16 (by decide) ?_
      exact hR _ _ _ _ h rfl d_R_put_18
abbrev b_R_get : ByteArray := prog_10_method_87_code
def y_R_get : MethodName := ⟨nC8, "get", "(III)I"⟩
theorem d_R_get_0 : decode b_R_get 0 = .ok (.iload_n 1, 1) := by decide +kernel
theorem d_R_get_1 : decode b_R_get 1 = .ok (.invokestatic 163, 3) := by decide +kernel
theorem d_R_get_4 : decode b_R_get 4 = .ok (.ifCond .eq 12, 3) := by decide +kernel
theorem d_R_get_7 : decode b_R_get 7 = .ok (.iload_n 2, 1) := by decide +kernel
theorem d_R_get_8 : decode b_R_get 8 = .ok (.iconst 0, 1) := by decide +kernel
theorem d_R_get_9 : decode b_R_get 9 = .ok (.iconst 2, 1) := by decide +kernel
theorem d_R_get_10 : decode b_R_get 10 = .ok (.invokestatic 97, 3) := by decide +kernel
theorem d_R_get_13 : decode b_R_get 13 = .ok (.ifCond .ne 7, 3) := by decide +kernel
theorem d_R_get_16 : decode b_R_get 16 = .ok (.ldc_w 294, 3) := by decide +kernel
theorem d_R_get_19 : decode b_R_get 19 = .ok (.ireturn, 1) := by decide +kernel
theorem d_R_get_20 : decode b_R_get 20 = .ok (.aload_n 0, 1) := by decide +kernel
theorem d_R_get_21 : decode b_R_get 21 = .ok (.iload_n 1, 1) := by decide +kernel
theorem d_R_get_22 : decode b_R_get 22 = .ok (.iload_n 2, 1) := by decide +kernel
theorem d_R_get_23 : decode b_R_get 23 = .ok (.iload_n 3, 1) := by decide +kernel
theorem d_R_get_24 : decode b_R_get 24 = .ok (.invokevirtual 287, 3) := by decide +kernel
theorem d_R_get_27 : decode b_R_get 27 = .ok (.istore 4, 2) := by decide +kernel
theorem d_R_get_29 : decode b_R_get 29 = .ok (.iload 4, 2) := by decide +kernel
theorem d_R_get_31 : decode b_R_get 31 = .ok (.ifCond .le 13, 3) := by decide +kernel
theorem d_R_get_34 : decode b_R_get 34 = .ok (.aload_n 0, 1) := by decide +kernel
theorem d_R_get_35 : decode b_R_get 35 = .ok (.iload 4, 2) := by decide +kernel
theorem d_R_get_37 : decode b_R_get 37 = .ok (.putfield 284, 3) := by decide +kernel
theorem d_R_get_40 : decode b_R_get 40 = .ok (.ldc_w 294, 3) := by decide +kernel
theorem d_R_get_43 : decode b_R_get 43 = .ok (.ireturn, 1) := by decide +kernel
theorem d_R_get_44 : decode b_R_get 44 = .ok (.aload_n 0, 1) := by decide +kernel
theorem d_R_get_45 : decode b_R_get 45 = .ok (.getfield 89, 3) := by decide +kernel
theorem d_R_get_48 : decode b_R_get 48 = .ok (.bipush 60, 2) := by decide +kernel
theorem d_R_get_50 : decode b_R_get 50 = .ok (.iload_n 1, 1) := by decide +kernel
theorem d_R_get_51 : decode b_R_get 51 = .ok (.imul, 1) := by decide +kernel
theorem d_R_get_52 : decode b_R_get 52 = .ok (.iload_n 3, 1) := by decide +kernel
theorem d_R_get_53 : decode b_R_get 53 = .ok (.iadd, 1) := by decide +kernel
theorem d_R_get_54 : decode b_R_get 54 = .ok (.iaload, 1) := by decide +kernel
theorem d_R_get_55 : decode b_R_get 55 = .ok (.ireturn, 1) := by decide +kernel
theorem qc_R_294 : Cond.constant nC8 294 (-2147483648) ∈ tbl := tbl_in 1311 (by decide +kernel) rfl
def wp_R_get (σ : Hp) (a1 : Int32) (a2 : Int32) (a3 : Int32) (P : Int32 → Hp → Prop) : Prop :=
  wp_R_isSheet σ a1 (fun (r1 : Int32) (t2 : Hp) => ((r1 = 0 → P (-2147483648 : Int32) t2) ∧ (¬ r1 = 0 → wp_R_in t2 a2 (0 : Int32) (2 : Int32) (fun (r4 : Int32) (t5 : Hp) => ((¬ r4 = 0 → wp_R_lacks t5 a1 a2 a3 (fun (r7 : Int32) (t8 : Hp) => ((r7 ≤ 0 → (vp_in (((60 : Int32) * a1) + a3) 240) ∧ P (t8 27 (ix (((60 : Int32) * a1) + a3))) t8) ∧ (¬ r7 ≤ 0 → P (-2147483648 : Int32) (st t8 0 34 r7))))) ∧ (r4 = 0 → P (-2147483648 : Int32) t5))))))
set_option maxHeartbeats 4000000 in
set_option maxRecDepth 100000 in
theorem w_R_get (w : Wd) (σ : Hp) (a1 : Int32) (a2 : Int32) (a3 : Int32) (P : Int32 → Hp → Prop) (h : wp_R_get σ a1 a2 a3 P) : CtI μR w y_R_get b_R_get 5 (some .int) 2 [.ref (w.1 0), .int a1, .int a2, .int a3] σ P := by
  unfold wp_R_get at h
  refine CtI.ofV (C := nC8) (lo := [some (.ref (w.1 0)), some (.int a1), some (.int a2), some (.int a3), none]) exR (by decide +kernel) rfl rfl rfl (fun κ hC hR => ?_)
  refine V.iload_n hC d_R_get_0 rfl rfl ?_
  refine V.callSI hC exR (w_R_isSheet w σ a1 _ h) d_R_get_1 mo_R_isSheet qm_R_163 rfl rfl rfl rfl (Nat.le_of_ble_eq_true rfl) (fun r1 t2 h => ?_)
  refine V.if_eq (tgt := 16) hC d_R_get_4 (by decide) (fun c3 => ?_) (fun c3 => ?_)
  · replace h := h.1 c3
    refine V.ldcw (v := -2147483648) hC d_R_get_16 qc_R_294 ?_
    exact hR _ _ _ _ h rfl d_R_get_19
  · replace h := h.2 c3
    refine V.iload_n hC d_R_get_7 rfl rfl ?_
    refine V.iconst (v := 0) hC d_R_get_8 (by decide) ?_
    refine V.iconst (v := 2) hC d_R_get_9 (by decide) ?_
    refine V.callSI hC exR (w_R_in w t2 a2 (0 : Int32) (2 : Int32) _ h) d_R_get_10 mo_R_in qm_R_97 rfl rfl rfl rfl (Nat.le_of_ble_eq_true rfl) (fun r4 t5 h => ?_)
    refine V.if_ne (tgt := 20) hC d_R_get_13 (by decide) (fun c6 => ?_) (fun c6 => ?_)
    · replace h := h.1 c6
      refine V.aload_n hC d_R_get_20 rfl rfl ?_
      refine V.iload_n hC d_R_get_21 rfl rfl ?_
      refine V.iload_n hC d_R_get_22 rfl rfl ?_
      refine V.iload_n hC d_R_get_23 rfl rfl ?_
      refine V.callVI hC exR (w_R_lacks w t5 a1 a2 a3 _ h) d_R_get_24 mo_R_lacks qm_R_287 rfl rfl rfl rfl rfl rfl rfl (Nat.le_of_ble_eq_true rfl) (fun r7 t8 h => ?_)
      refine V.istore (y := r7) (lo' := [some (.ref (w.1 0)), some (.int a1), some (.int a2), some (.int a3), some (.int r7)]) hC d_R_get_27 rfl rfl rfl ?_
      refine V.iload hC d_R_get_29 rfl ?_
      refine V.if_le (tgt := 44) hC d_R_get_31 (by decide) (fun c9 => ?_) (fun c9 => ?_)
      · replace h := h.1 c9
        refine V.aload_n hC d_R_get_44 rfl rfl ?_
        refine V.getR (j := 32) hC d_R_get_45 rfl rfl uC8 rfl rfl qf_R_89 ?_
        refine V.bipush (v := 60) hC d_R_get_48 (by decide) ?_
        refine V.iload_n hC d_R_get_50 rfl rfl ?_
        refine V.imul hC d_R_get_51 ?_
        refine V.iload_n hC d_R_get_52 rfl rfl ?_
        refine V.iadd hC d_R_get_53 ?_
        obtain ⟨b10, h⟩ := h
        refine V.iald hC d_R_get_54 rfl b10 ?_
        exact hR _ _ _ _ h rfl d_R_get_55
      · replace h := h.2 c9
        refine V.aload_n hC d_R_get_34 rfl rfl ?_
        refine V.iload hC d_R_get_35 rfl ?_
        refine V.put (j := 34) hC d_R_get_37 rfl rfl uC8 pC8 dC8 rfl rfl rfl rfl rfl qf_R_284 ?_
        refine V.ldcw (v := -2147483648) hC d_R_get_40 qc_R_294 ?_
        exact hR _ _ _ _ h rfl d_R_get_43
    · replace h := h.2 c6
      refine V.ldcw (v := -2147483648) hC d_R_get_16 qc_R_294 ?_
      exact hR _ _ _ _ h rfl d_R_get_19
abbrev b_R_copy : ByteArray := prog_10_method_88_code
def y_R_copy : MethodName := ⟨nC8, "copy", "(IIIII)I"⟩
theorem d_R_copy_0 : decode b_R_copy 0 = .ok (.iload_n 1, 1) := by decide +kernel
theorem d_R_copy_1 : decode b_R_copy 1 = .ok (.invokestatic 163, 3) := by decide +kernel
theorem d_R_copy_4 : decode b_R_copy 4 = .ok (.ifCond .eq 10, 3) := by decide +kernel
theorem d_R_copy_7 : decode b_R_copy 7 = .ok (.iload_n 3, 1) := by decide +kernel
theorem d_R_copy_8 : decode b_R_copy 8 = .ok (.invokestatic 163, 3) := by decide +kernel
theorem d_R_copy_11 : decode b_R_copy 11 = .ok (.ifCond .ne 6, 3) := by decide +kernel
theorem d_R_copy_14 : decode b_R_copy 14 = .ok (.bipush (-2), 2) := by decide +kernel
theorem d_R_copy_16 : decode b_R_copy 16 = .ok (.ireturn, 1) := by decide +kernel
theorem d_R_copy_17 : decode b_R_copy 17 = .ok (.aload_n 0, 1) := by decide +kernel
theorem d_R_copy_18 : decode b_R_copy 18 = .ok (.getfield 80, 3) := by decide +kernel
theorem d_R_copy_21 : decode b_R_copy 21 = .ok (.iload_n 1, 1) := by decide +kernel
theorem d_R_copy_22 : decode b_R_copy 22 = .ok (.baload, 1) := by decide +kernel
theorem d_R_copy_23 : decode b_R_copy 23 = .ok (.ifCond .eq 12, 3) := by decide +kernel
theorem d_R_copy_26 : decode b_R_copy 26 = .ok (.aload_n 0, 1) := by decide +kernel
theorem d_R_copy_27 : decode b_R_copy 27 = .ok (.getfield 80, 3) := by decide +kernel
theorem d_R_copy_30 : decode b_R_copy 30 = .ok (.iload_n 3, 1) := by decide +kernel
theorem d_R_copy_31 : decode b_R_copy 31 = .ok (.baload, 1) := by decide +kernel
theorem d_R_copy_32 : decode b_R_copy 32 = .ok (.ifCond .ne 9, 3) := by decide +kernel
theorem d_R_copy_35 : decode b_R_copy 35 = .ok (.aload_n 0, 1) := by decide +kernel
theorem d_R_copy_36 : decode b_R_copy 36 = .ok (.iconst 1, 1) := by decide +kernel
theorem d_R_copy_37 : decode b_R_copy 37 = .ok (.invokevirtual 166, 3) := by decide +kernel
theorem d_R_copy_40 : decode b_R_copy 40 = .ok (.ireturn, 1) := by decide +kernel
theorem d_R_copy_41 : decode b_R_copy 41 = .ok (.aload_n 0, 1) := by decide +kernel
theorem d_R_copy_42 : decode b_R_copy 42 = .ok (.getfield 83, 3) := by decide +kernel
theorem d_R_copy_45 : decode b_R_copy 45 = .ok (.iload_n 1, 1) := by decide +kernel
theorem d_R_copy_46 : decode b_R_copy 46 = .ok (.iaload, 1) := by decide +kernel
theorem d_R_copy_47 : decode b_R_copy 47 = .ok (.aload_n 0, 1) := by decide +kernel
theorem d_R_copy_48 : decode b_R_copy 48 = .ok (.getfield 83, 3) := by decide +kernel
theorem d_R_copy_51 : decode b_R_copy 51 = .ok (.iload_n 3, 1) := by decide +kernel
theorem d_R_copy_52 : decode b_R_copy 52 = .ok (.iaload, 1) := by decide +kernel
theorem d_R_copy_53 : decode b_R_copy 53 = .ok (.if_icmp .eq 9, 3) := by decide +kernel
theorem d_R_copy_56 : decode b_R_copy 56 = .ok (.aload_n 0, 1) := by decide +kernel
theorem d_R_copy_57 : decode b_R_copy 57 = .ok (.iconst 4, 1) := by decide +kernel
theorem d_R_copy_58 : decode b_R_copy 58 = .ok (.invokevirtual 166, 3) := by decide +kernel
theorem d_R_copy_61 : decode b_R_copy 61 = .ok (.ireturn, 1) := by decide +kernel
theorem d_R_copy_62 : decode b_R_copy 62 = .ok (.iload_n 2, 1) := by decide +kernel
theorem d_R_copy_63 : decode b_R_copy 63 = .ok (.ifCond .lt 48, 3) := by decide +kernel
theorem d_R_copy_66 : decode b_R_copy 66 = .ok (.iload 4, 2) := by decide +kernel
theorem d_R_copy_68 : decode b_R_copy 68 = .ok (.ifCond .lt 43, 3) := by decide +kernel
theorem d_R_copy_71 : decode b_R_copy 71 = .ok (.iload 5, 2) := by decide +kernel
theorem d_R_copy_73 : decode b_R_copy 73 = .ok (.ifCond .lt 38, 3) := by decide +kernel
theorem d_R_copy_76 : decode b_R_copy 76 = .ok (.iload_n 2, 1) := by decide +kernel
theorem d_R_copy_77 : decode b_R_copy 77 = .ok (.i2l, 1) := by decide +kernel
theorem d_R_copy_78 : decode b_R_copy 78 = .ok (.iload 5, 2) := by decide +kernel
theorem d_R_copy_80 : decode b_R_copy 80 = .ok (.i2l, 1) := by decide +kernel
theorem d_R_copy_81 : decode b_R_copy 81 = .ok (.ladd, 1) := by decide +kernel
theorem d_R_copy_82 : decode b_R_copy 82 = .ok (.aload_n 0, 1) := by decide +kernel
theorem d_R_copy_83 : decode b_R_copy 83 = .ok (.getfield 86, 3) := by decide +kernel
theorem d_R_copy_86 : decode b_R_copy 86 = .ok (.iload_n 1, 1) := by decide +kernel
theorem d_R_copy_87 : decode b_R_copy 87 = .ok (.iaload, 1) := by decide +kernel
theorem d_R_copy_88 : decode b_R_copy 88 = .ok (.i2l, 1) := by decide +kernel
theorem d_R_copy_89 : decode b_R_copy 89 = .ok (.lcmp, 1) := by decide +kernel
theorem d_R_copy_90 : decode b_R_copy 90 = .ok (.ifCond .gt 21, 3) := by decide +kernel
theorem d_R_copy_93 : decode b_R_copy 93 = .ok (.iload 4, 2) := by decide +kernel
theorem d_R_copy_95 : decode b_R_copy 95 = .ok (.i2l, 1) := by decide +kernel
theorem d_R_copy_96 : decode b_R_copy 96 = .ok (.iload 5, 2) := by decide +kernel
theorem d_R_copy_98 : decode b_R_copy 98 = .ok (.i2l, 1) := by decide +kernel
theorem d_R_copy_99 : decode b_R_copy 99 = .ok (.ladd, 1) := by decide +kernel
theorem d_R_copy_100 : decode b_R_copy 100 = .ok (.aload_n 0, 1) := by decide +kernel
theorem d_R_copy_101 : decode b_R_copy 101 = .ok (.getfield 86, 3) := by decide +kernel
theorem d_R_copy_104 : decode b_R_copy 104 = .ok (.iload_n 3, 1) := by decide +kernel
theorem d_R_copy_105 : decode b_R_copy 105 = .ok (.iaload, 1) := by decide +kernel
theorem d_R_copy_106 : decode b_R_copy 106 = .ok (.i2l, 1) := by decide +kernel
theorem d_R_copy_107 : decode b_R_copy 107 = .ok (.lcmp, 1) := by decide +kernel
theorem d_R_copy_108 : decode b_R_copy 108 = .ok (.ifCond .le 9, 3) := by decide +kernel
theorem d_R_copy_111 : decode b_R_copy 111 = .ok (.aload_n 0, 1) := by decide +kernel
theorem d_R_copy_112 : decode b_R_copy 112 = .ok (.iconst 2, 1) := by decide +kernel
theorem d_R_copy_113 : decode b_R_copy 113 = .ok (.invokevirtual 166, 3) := by decide +kernel
theorem d_R_copy_116 : decode b_R_copy 116 = .ok (.ireturn, 1) := by decide +kernel
theorem d_R_copy_117 : decode b_R_copy 117 = .ok (.iconst 0, 1) := by decide +kernel
theorem d_R_copy_118 : decode b_R_copy 118 = .ok (.istore 6, 2) := by decide +kernel
theorem d_R_copy_120 : decode b_R_copy 120 = .ok (.iload 6, 2) := by decide +kernel
theorem d_R_copy_122 : decode b_R_copy 122 = .ok (.iload 5, 2) := by decide +kernel
theorem d_R_copy_124 : decode b_R_copy 124 = .ok (.if_icmp .ge 30, 3) := by decide +kernel
theorem d_R_copy_127 : decode b_R_copy 127 = .ok (.aload_n 0, 1) := by decide +kernel
theorem d_R_copy_128 : decode b_R_copy 128 = .ok (.getfield 92, 3) := by decide +kernel
theorem d_R_copy_131 : decode b_R_copy 131 = .ok (.iload 6, 2) := by decide +kernel
theorem d_R_copy_133 : decode b_R_copy 133 = .ok (.aload_n 0, 1) := by decide +kernel
theorem d_R_copy_134 : decode b_R_copy 134 = .ok (.getfield 89, 3) := by decide +kernel
theorem d_R_copy_137 : decode b_R_copy 137 = .ok (.bipush 60, 2) := by decide +kernel
theorem d_R_copy_139 : decode b_R_copy 139 = .ok (.iload_n 1, 1) := by decide +kernel
theorem d_R_copy_140 : decode b_R_copy 140 = .ok (.imul, 1) := by decide +kernel
theorem d_R_copy_141 : decode b_R_copy 141 = .ok (.iload_n 2, 1) := by decide +kernel
theorem d_R_copy_142 : decode b_R_copy 142 = .ok (.iadd, 1) := by decide +kernel
theorem d_R_copy_143 : decode b_R_copy 143 = .ok (.iload 6, 2) := by decide +kernel
theorem d_R_copy_145 : decode b_R_copy 145 = .ok (.iadd, 1) := by decide +kernel
theorem d_R_copy_146 : decode b_R_copy 146 = .ok (.iaload, 1) := by decide +kernel
theorem d_R_copy_147 : decode b_R_copy 147 = .ok (.iastore, 1) := by decide +kernel
theorem d_R_copy_148 : decode b_R_copy 148 = .ok (.iinc 6 1, 3) := by decide +kernel
theorem d_R_copy_151 : decode b_R_copy 151 = .ok (.goto (-31), 3) := by decide +kernel
theorem d_R_copy_154 : decode b_R_copy 154 = .ok (.iconst 0, 1) := by decide +kernel
theorem d_R_copy_155 : decode b_R_copy 155 = .ok (.istore 6, 2) := by decide +kernel
theorem d_R_copy_157 : decode b_R_copy 157 = .ok (.iload 6, 2) := by decide +kernel
theorem d_R_copy_159 : decode b_R_copy 159 = .ok (.iload 5, 2) := by decide +kernel
theorem d_R_copy_161 : decode b_R_copy 161 = .ok (.if_icmp .ge 31, 3) := by decide +kernel
theorem d_R_copy_164 : decode b_R_copy 164 = .ok (.aload_n 0, 1) := by decide +kernel
theorem d_R_copy_165 : decode b_R_copy 165 = .ok (.getfield 89, 3) := by decide +kernel
theorem d_R_copy_168 : decode b_R_copy 168 = .ok (.bipush 60, 2) := by decide +kernel
theorem d_R_copy_170 : decode b_R_copy 170 = .ok (.iload_n 3, 1) := by decide +kernel
theorem d_R_copy_171 : decode b_R_copy 171 = .ok (.imul, 1) := by decide +kernel
theorem d_R_copy_172 : decode b_R_copy 172 = .ok (.iload 4, 2) := by decide +kernel
theorem d_R_copy_174 : decode b_R_copy 174 = .ok (.iadd, 1) := by decide +kernel
theorem d_R_copy_175 : decode b_R_copy 175 = .ok (.iload 6, 2) := by decide +kernel
theorem d_R_copy_177 : decode b_R_copy 177 = .ok (.iadd, 1) := by decide +kernel
theorem d_R_copy_178 : decode b_R_copy 178 = .ok (.aload_n 0, 1) := by decide +kernel
theorem d_R_copy_179 : decode b_R_copy 179 = .ok (.getfield 92, 3) := by decide +kernel
theorem d_R_copy_182 : decode b_R_copy 182 = .ok (.iload 6, 2) := by decide +kernel
theorem d_R_copy_184 : decode b_R_copy 184 = .ok (.iaload, 1) := by decide +kernel
theorem d_R_copy_185 : decode b_R_copy 185 = .ok (.iastore, 1) := by decide +kernel
theorem d_R_copy_186 : decode b_R_copy 186 = .ok (.iinc 6 1, 3) := by decide +kernel
theorem d_R_copy_189 : decode b_R_copy 189 = .ok (.goto (-32), 3) := by decide +kernel
theorem d_R_copy_192 : decode b_R_copy 192 = .ok (.iconst 1, 1) := by decide +kernel
theorem d_R_copy_193 : decode b_R_copy 193 = .ok (.ireturn, 1) := by decide +kernel
theorem qf_R_92 : Cond.fieldLink nC8 92 (fC8 33).1 (fC8 33).2.1 (fC8 33).2.2.1 ∈ tbl := tbl_in 901 (by decide +kernel) rfl
def j_R_copy_35 (P : Int32 → Hp → Prop)  (σ : Hp)  : Prop :=
  wp_R_meets σ (1 : Int32) (fun (r1 : Int32) (t2 : Hp) => P r1 t2)
def j_R_copy_111 (P : Int32 → Hp → Prop)  (σ : Hp)  : Prop :=
  wp_R_meets σ (2 : Int32) (fun (r3 : Int32) (t4 : Hp) => P r3 t4)
def b_R_copy_157_ (P : Int32 → Hp → Prop)  (I157 : Hp → Int32 → Int32 → Int32 → Int32 → Prop) (σ : Hp) (x3 : Int32) (x4 : Int32) (x5 : Int32) (x6 : Int32) : Prop :=
  ((x5 ≤ x6 → P (1 : Int32) σ) ∧ (¬ x5 ≤ x6 → (vp_in x6 60) ∧ (vp_in ((((60 : Int32) * x3) + x4) + x6) 240) ∧ (∀ v8 : Int32, v8 = x6 + (1 : Int32) → I157 (st σ 27 (ix ((((60 : Int32) * x3) + x4) + x6)) (σ 28 (ix x6))) x3 x4 x5 v8)))
def j_R_copy_157 (P : Int32 → Hp → Prop)  (σ : Hp) (x3 : Int32) (x4 : Int32) (x5 : Int32) (x6 : Int32) : Prop := ∀ I157 : Hp → Int32 → Int32 → Int32 → Int32 → Prop, (∀ (σ : Hp) (x3 : Int32) (x4 : Int32) (x5 : Int32) (x6 : Int32), b_R_copy_157_  P  I157 σ x3 x4 x5 x6 → I157 σ x3 x4 x5 x6) → I157 σ x3 x4 x5 x6
def b_R_copy_120_ (P : Int32 → Hp → Prop)  (I120 : Hp → Int32 → Int32 → Int32 → Int32 → Int32 → Int32 → Prop) (σ : Hp) (x1 : Int32) (x2 : Int32) (x3 : Int32) (x4 : Int32) (x5 : Int32) (x6 : Int32) : Prop :=
  ((x5 ≤ x6 → j_R_copy_157 P σ x3 x4 x5 (0 : Int32)) ∧ (¬ x5 ≤ x6 → (vp_in ((((60 : Int32) * x1) + x2) + x6) 240) ∧ (vp_in x6 60) ∧ (∀ v12 : Int32, v12 = x6 + (1 : Int32) → I120 (st σ 28 (ix x6) (σ 27 (ix ((((60 : Int32) * x1) + x2) + x6)))) x1 x2 x3 x4 x5 v12)))
def j_R_copy_120 (P : Int32 → Hp → Prop)  (σ : Hp) (x1 : Int32) (x2 : Int32) (x3 : Int32) (x4 : Int32) (x5 : Int32) (x6 : Int32) : Prop := ∀ I120 : Hp → Int32 → Int32 → Int32 → Int32 → Int32 → Int32 → Prop, (∀ (σ : Hp) (x1 : Int32) (x2 : Int32) (x3 : Int32) (x4 : Int32) (x5 : Int32) (x6 : Int32), b_R_copy_120_  P  I120 σ x1 x2 x3 x4 x5 x6 → I120 σ x1 x2 x3 x4 x5 x6) → I120 σ x1 x2 x3 x4 x5 x6
def wp_R_copy (σ : Hp) (a1 : Int32) (a2 : Int32) (a3 : Int32) (a4 : Int32) (a5 : Int32) (P : Int32 → Hp → Prop) : Prop :=
  wp_R_isSheet σ a1 (fun (r13 : Int32) (t14 : Hp) => ((r13 = 0 → P (-2 : Int32) t14) ∧ (¬ r13 = 0 → wp_R_isSheet t14 a3 (fun (r16 : Int32) (t17 : Hp) => ((¬ r16 = 0 → (vp_in a1 4) ∧ (((t17 24 (ix a1)) = 0 → j_R_copy_35 P t17 ) ∧ (¬ (t17 24 (ix a1)) = 0 → (vp_in a3 4) ∧ ((¬ (t17 24 (ix a3)) = 0 → (vp_in a1 4) ∧ (vp_in a3 4) ∧ (((t17 25 (ix a1)) = (t17 25 (ix a3)) → ((a2 < 0 → j_R_copy_111 P t17 ) ∧ (¬ a2 < 0 → ((a4 < 0 → j_R_copy_111 P t17 ) ∧ (¬ a4 < 0 → ((a5 < 0 → j_R_copy_111 P t17 ) ∧ (¬ a5 < 0 → (vp_in a1 4) ∧ ((0 < (lg_cmp ((a2.toInt64) + (a5.toInt64)) ((t17 26 (ix a1)).toInt64)) → j_R_copy_111 P t17 ) ∧ (¬ 0 < (lg_cmp ((a2.toInt64) + (a5.toInt64)) ((t17 26 (ix a1)).toInt64)) → (vp_in a3 4) ∧ (((lg_cmp ((a4.toInt64) + (a5.toInt64)) ((t17 26 (ix a3)).toInt64)) ≤ 0 → j_R_copy_120 P t17 a1 a2 a3 a4 a5 (0 : Int32)) ∧ (¬ (lg_cmp ((a4.toInt64) + (a5.toInt64)) ((t17 26 (ix a3)).toInt64)) ≤ 0 → j_R_copy_111 P t17 ))))))))))) ∧ (¬ (t17 25 (ix a1)) = (t17 25 (ix a3)) → wp_R_meets t17 (4 : Int32) (fun (r33 : Int32) (t34 : Hp) => P r33 t34)))) ∧ ((t17 24 (ix a3)) = 0 → j_R_copy_35 P t17 ))))) ∧ (r16 = 0 → P (-2 : Int32) t17))))))
set_option maxHeartbeats 4000000 in
set_option maxRecDepth 100000 in
theorem wj_R_copy_35 {w : Wd} {κ : Kx} {P : Int32 → Hp → Prop} (hC : Cx μR w 7 κ nC8 b_R_copy 2) (hR : RtI μR w 7 κ b_R_copy .int P)  : ∀ (σ : Hp) , j_R_copy_35  P  σ  → V μR w 7 κ σ [some (.ref (w.1 0)), none, none, none, none, none, none] 35 [] := by
  intro σ  h
  unfold j_R_copy_35 at h
  refine V.aload_n hC d_R_copy_35 rfl rfl ?_
  refine V.iconst (v := 1) hC d_R_copy_36 (by decide) ?_
  refine V.callVI hC exR (w_R_meets w σ (1 : Int32) _ h) d_R_copy_37 mo_R_meets qm_R_166 rfl rfl rfl rfl rfl rfl rfl (Nat.le_of_ble_eq_true rfl) (fun r1 t2 h => ?_)
  exact hR _ _ _ _ h rfl d_R_copy_40
set_option maxHeartbeats 4000000 in
set_option maxRecDepth 100000 in
theorem wj_R_copy_111 {w : Wd} {κ : Kx} {P : Int32 → Hp → Prop} (hC : Cx μR w 7 κ nC8 b_R_copy 2) (hR : RtI μR w 7 κ b_R_copy .int P)  : ∀ (σ : Hp) , j_R_copy_111  P  σ  → V μR w 7 κ σ [some (.ref (w.1 0)), none, none, none, none, none, none] 111 [] := by
  intro σ  h
  unfold j_R_copy_111 at h
  refine V.aload_n hC d_R_copy_111 rfl rfl ?_
  refine V.iconst (v := 2) hC d_R_copy_112 (by decide) ?_
  refine V.callVI hC exR (w_R_meets w σ (2 : Int32) _ h) d_R_copy_113 mo_R_meets qm_R_166 rfl rfl rfl rfl rfl rfl rfl (Nat.le_of_ble_eq_true rfl) (fun r3 t4 h => ?_)
  exact hR _ _ _ _ h rfl d_R_copy_116
set_option maxHeartbeats 4000000 in
set_option maxRecDepth 100000 in
theorem wj_R_copy_157 {w : Wd} {κ : Kx} {P : Int32 → Hp → Prop} (hC : Cx μR w 7 κ nC8 b_R_copy 2) (hR : RtI μR w 7 κ b_R_copy .int P)  : ∀ (σ : Hp) (x3 : Int32) (x4 : Int32) (x5 : Int32) (x6 : Int32), j_R_copy_157  P  σ x3 x4 x5 x6 → V μR w 7 κ σ [some (.ref (w.1 0)), none, none, some (.int x3), some (.int x4), some (.int x5), some (.int x6)] 157 [] := by
  intro σ x3 x4 x5 x6 h
  refine h (fun σ x3 x4 x5 x6 => V μR w 7 κ σ [some (.ref (w.1 0)), none, none, some (.int x3), some (.int x4), some (.int x5), some (.int x6)] 157 []) (fun σ x3 x4 x5 x6 h => ?_)
  unfold b_R_copy_157_ at h
  refine V.iload hC d_R_copy_157 rfl ?_
  refine V.iload hC d_R_copy_159 rfl ?_
  refine V.icmp_ge (tgt := 192) hC d_R_copy_161 (by decide) (fun c5 => ?_) (fun c5 => ?_)
  · replace h := h.1 c5
    refine V.iconst (v := 1) hC d_R_copy_192 (by decide) ?_
    exact hR _ _ _ _ h rfl d_R_copy_193
  · replace h := h.2 c5
    refine V.aload_n hC d_R_copy_164 rfl rfl ?_
    refine V.getR (j := 32) hC d_R_copy_165 rfl rfl uC8 rfl rfl qf_R_89 ?_
    refine V.bipush (v := 60) hC d_R_copy_168 (by decide) ?_
    refine V.iload_n hC d_R_copy_170 rfl rfl ?_
    refine V.imul hC d_R_copy_171 ?_
    refine V.iload hC d_R_copy_172 rfl ?_
    refine V.iadd hC d_R_copy_174 ?_
    refine V.iload hC d_R_copy_175 rfl ?_
    refine V.iadd hC d_R_copy_177 ?_
    refine V.aload_n hC d_R_copy_178 rfl rfl ?_
    refine V.getR (j := 33) hC d_R_copy_179 rfl rfl uC8 rfl rfl qf_R_92 ?_
    refine V.iload hC d_R_copy_182 rfl ?_
    obtain ⟨b6, h⟩ := h
    refine V.iald hC d_R_copy_184 rfl b6 ?_
    obtain ⟨b7, h⟩ := h
    refine V.iast hC d_R_copy_185 rfl b7 ?_
    obtain ⟨v8, ev8⟩ : ∃ y : Int32, y = x6 + (1 : Int32) := ⟨_, rfl⟩
    replace h := h v8 ev8
    refine V.iinc (y := v8) (lo' := [some (.ref (w.1 0)), none, none, some (.int x3), some (.int x4), some (.int x5), some (.int v8)]) hC d_R_copy_186 rfl rfl (show v8 = _ + Int32.ofInt (1) from ev8) rfl ?_
    refine V.goto (tgt := 157) hC d_R_copy_189 (by decide) ?_
    exact V.msk [true, false, false, true, true, true, true] rfl h
set_option maxHeartbeats 4000000 in
set_option maxRecDepth 100000 in
theorem wj_R_copy_120 {w : Wd} {κ : Kx} {P : Int32 → Hp → Prop} (hC : Cx μR w 7 κ nC8 b_R_copy 2) (hR : RtI μR w 7 κ b_R_copy .int P)  : ∀ (σ : Hp) (x1 : Int32) (x2 : Int32) (x3 : Int32) (x4 : Int32) (x5 : Int32) (x6 : Int32), j_R_copy_120  P  σ x1 x2 x3 x4 x5 x6 → V μR w 7 κ σ [some (.ref (w.1 0)), some (.int x1), some (.int x2), some (.int x3), some (.int x4), some (.int x5), some (.int x6)] 120 [] := by
  intro σ x1 x2 x3 x4 x5 x6 h
  refine h (fun σ x1 x2 x3 x4 x5 x6 => V μR w 7 κ σ [some (.ref (w.1 0)), some (.int x1), some (.int x2), some (.int x3), some (.int x4), some (.int x5), some (.int x6)] 120 []) (fun σ x1 x2 x3 x4 x5 x6 h => ?_)
  unfold b_R_copy_120_ at h
  refine V.iload hC d_R_copy_120 rfl ?_
  refine V.iload hC d_R_copy_122 rfl ?_
  refine V.icmp_ge (tgt := 154) hC d_R_copy_124 (by decide) (fun c9 => ?_) (fun c9 => ?_)
  · replace h := h.1 c9
    refine V.iconst (v := 0) hC d_R_copy_154 (by decide) ?_
    refine V.istore (y := (0 : Int32)) (lo' := [some (.ref (w.1 0)), some (.int x1), some (.int x2), some (.int x3), some (.int x4), some (.int x5), some (.int (0 : Int32))]) hC d_R_copy_155 rfl rfl rfl ?_
    exact V.msk [true, false, false, true, true, true, true] rfl (wj_R_copy_157  hC hR  σ x3 x4 x5 (0 : Int32) h)
  · replace h := h.2 c9
    refine V.aload_n hC d_R_copy_127 rfl rfl ?_
    refine V.getR (j := 33) hC d_R_copy_128 rfl rfl uC8 rfl rfl qf_R_92 ?_
    refine V.iload hC d_R_copy_131 rfl ?_
    refine V.aload_n hC d_R_copy_133 rfl rfl ?_
    refine V.getR (j := 32) hC d_R_copy_134 rfl rfl uC8 rfl rfl qf_R_89 ?_
    refine V.bipush (v := 60) hC d_R_copy_137 (by decide) ?_
    refine V.iload_n hC d_R_copy_139 rfl rfl ?_
    refine V.imul hC d_R_copy_140 ?_
    refine V.iload_n hC d_R_copy_141 rfl rfl ?_
    refine V.iadd hC d_R_copy_142 ?_
    refine V.iload hC d_R_copy_143 rfl ?_
    refine V.iadd hC d_R_copy_145 ?_
    obtain ⟨b10, h⟩ := h
    refine V.iald hC d_R_copy_146 rfl b10 ?_
    obtain ⟨b11, h⟩ := h
    refine V.iast hC d_R_copy_147 rfl b11 ?_
    obtain ⟨v12, ev12⟩ : ∃ y : Int32, y = x6 + (1 : Int32) := ⟨_, rfl⟩
    replace h := h v12 ev12
    refine V.iinc (y := v12) (lo' := [some (.ref (w.1 0)), some (.int x1), some (.int x2), some (.int x3), some (.int x4), some (.int x5), some (.int v12)]) hC d_R_copy_148 rfl rfl (show v12 = _ + Int32.ofInt (1) from ev12) rfl ?_
    refine V.goto (tgt := 120) hC d_R_copy_151 (by decide) ?_
    exact V.msk [true, true, true, true, true, true, true] rfl h
set_option maxHeartbeats 4000000 in
set_option maxRecDepth 100000 in
theorem w_R_copy (w : Wd) (σ : Hp) (a1 : Int32) (a2 : Int32) (a3 : Int32) (a4 : Int32) (a5 : Int32) (P : Int32 → Hp → Prop) (h : wp_R_copy σ a1 a2 a3 a4 a5 P) : CtI μR w y_R_copy b_R_copy 7 (some .int) 2 [.ref (w.1 0), .int a1, .int a2, .int a3, .int a4, .int a5] σ P := by
  unfold wp_R_copy at h
  refine CtI.ofV (C := nC8) (lo := [some (.ref (w.1 0)), some (.int a1), some (.int a2), some (.int a3), some (.int a4), some (.int a5), none]) exR (by decide +kernel) rfl rfl rfl (fun κ hC hR => ?_)
  refine V.iload_n hC d_R_copy_0 rfl rfl ?_
  refine V.callSI hC exR (w_R_isSheet w σ a1 _ h) d_R_copy_1 mo_R_isSheet qm_R_163 rfl rfl rfl rfl (Nat.le_of_ble_eq_true rfl) (fun r13 t14 h => ?_)
  refine V.if_eq (tgt := 14) hC d_R_copy_4 (by decide) (fun c15 => ?_) (fun c15 => ?_)
  · replace h := h.1 c15
    refine V.bipush (v := -2) hC d_R_copy_14 (by decide) ?_
    exact hR _ _ _ _ h rfl d_R_copy_16
  · replace h := h.2 c15
    refine V.iload_n hC d_R_copy_7 rfl rfl ?_
    refine V.callSI hC exR (w_R_isSheet w t14 a3 _ h) d_R_copy_8 mo_R_isSheet qm_R_163 rfl rfl rfl rfl (Nat.le_of_ble_eq_true rfl) (fun r16 t17 h => ?_)
    refine V.if_ne (tgt := 17) hC d_R_copy_11 (by decide) (fun c18 => ?_) (fun c18 => ?_)
    · replace h := h.1 c18
      refine V.aload_n hC d_R_copy_17 rfl rfl ?_
      refine V.getR (j := 29) hC d_R_copy_18 rfl rfl uC8 rfl rfl qf_R_80 ?_
      refine V.iload_n hC d_R_copy_21 rfl rfl ?_
      obtain ⟨b19, h⟩ := h
      refine V.zald hC d_R_copy_22 rfl b19 ?_
      refine V.if_eq (tgt := 35) hC d_R_copy_23 (by decide) (fun c20 => ?_) (fun c20 => ?_)
      · replace h := h.1 c20
        exact V.msk [true, false, false, false, false, false, false] rfl (wj_R_copy_35  hC hR  t17  h)
      · replace h := h.2 c20
        refine V.aload_n hC d_R_copy_26 rfl rfl ?_
        refine V.getR (j := 29) hC d_R_copy_27 rfl rfl uC8 rfl rfl qf_R_80 ?_
        refine V.iload_n hC d_R_copy_30 rfl rfl ?_
        obtain ⟨b21, h⟩ := h
        refine V.zald hC d_R_copy_31 rfl b21 ?_
        refine V.if_ne (tgt := 41) hC d_R_copy_32 (by decide) (fun c22 => ?_) (fun c22 => ?_)
        · replace h := h.1 c22
          refine V.aload_n hC d_R_copy_41 rfl rfl ?_
          refine V.getR (j := 30) hC d_R_copy_42 rfl rfl uC8 rfl rfl qf_R_83 ?_
          refine V.iload_n hC d_R_copy_45 rfl rfl ?_
          obtain ⟨b23, h⟩ := h
          refine V.iald hC d_R_copy_46 rfl b23 ?_
          refine V.aload_n hC d_R_copy_47 rfl rfl ?_
          refine V.getR (j := 30) hC d_R_copy_48 rfl rfl uC8 rfl rfl qf_R_83 ?_
          refine V.iload_n hC d_R_copy_51 rfl rfl ?_
          obtain ⟨b24, h⟩ := h
          refine V.iald hC d_R_copy_52 rfl b24 ?_
          refine V.icmp_eq (tgt := 62) hC d_R_copy_53 (by decide) (fun c25 => ?_) (fun c25 => ?_)
          · replace h := h.1 c25
            refine V.iload_n hC d_R_copy_62 rfl rfl ?_
            refine V.if_lt (tgt := 111) hC d_R_copy_63 (by decide) (fun c26 => ?_) (fun c26 => ?_)
            · replace h := h.1 c26
              exact V.msk [true, false, false, false, false, false, false] rfl (wj_R_copy_111  hC hR  t17  h)
            · replace h := h.2 c26
              refine V.iload hC d_R_copy_66 rfl ?_
              refine V.if_lt (tgt := 111) hC d_R_copy_68 (by decide) (fun c27 => ?_) (fun c27 => ?_)
              · replace h := h.1 c27
                exact V.msk [true, false, false, false, false, false, false] rfl (wj_R_copy_111  hC hR  t17  h)
              · replace h := h.2 c27
                refine V.iload hC d_R_copy_71 rfl ?_
                refine V.if_lt (tgt := 111) hC d_R_copy_73 (by decide) (fun c28 => ?_) (fun c28 => ?_)
                · replace h := h.1 c28
                  exact V.msk [true, false, false, false, false, false, false] rfl (wj_R_copy_111  hC hR  t17  h)
                · replace h := h.2 c28
                  refine V.iload_n hC d_R_copy_76 rfl rfl ?_
                  refine V.i2l hC d_R_copy_77 ?_
                  refine V.iload hC d_R_copy_78 rfl ?_
                  refine V.i2l hC d_R_copy_80 ?_
                  refine V.ladd hC d_R_copy_81 ?_
                  refine V.aload_n hC d_R_copy_82 rfl rfl ?_
                  refine V.getR (j := 31) hC d_R_copy_83 rfl rfl uC8 rfl rfl qf_R_86 ?_
                  refine V.iload_n hC d_R_copy_86 rfl rfl ?_
                  obtain ⟨b29, h⟩ := h
                  refine V.iald hC d_R_copy_87 rfl b29 ?_
                  refine V.i2l hC d_R_copy_88 ?_
                  refine V.lcmp hC d_R_copy_89 ?_
                  refine V.if_gt (tgt := 111) hC d_R_copy_90 (by decide) (fun c30 => ?_) (fun c30 => ?_)
                  · replace h := h.1 c30
                    exact V.msk [true, false, false, false, false, false, false] rfl (wj_R_copy_111  hC hR  t17  h)
                  · replace h := h.2 c30
                    refine V.iload hC d_R_copy_93 rfl ?_
                    refine V.i2l hC d_R_copy_95 ?_
                    refine V.iload hC d_R_copy_96 rfl ?_
                    refine V.i2l hC d_R_copy_98 ?_
                    refine V.ladd hC d_R_copy_99 ?_
                    refine V.aload_n hC d_R_copy_100 rfl rfl ?_
                    refine V.getR (j := 31) hC d_R_copy_101 rfl rfl uC8 rfl rfl qf_R_86 ?_
                    refine V.iload_n hC d_R_copy_104 rfl rfl ?_
                    obtain ⟨b31, h⟩ := h
                    refine V.iald hC d_R_copy_105 rfl b31 ?_
                    refine V.i2l hC d_R_copy_106 ?_
                    refine V.lcmp hC d_R_copy_107 ?_
                    refine V.if_le (tgt := 117) hC d_R_copy_108 (by decide) (fun c32 => ?_) (fun c32 => ?_)
                    · replace h := h.1 c32
                      refine V.iconst (v := 0) hC d_R_copy_117 (by decide) ?_
                      refine V.istore (y := (0 : Int32)) (lo' := [some (.ref (w.1 0)), some (.int a1), some (.int a2), some (.int a3), some (.int a4), some (.int a5), some (.int (0 : Int32))]) hC d_R_copy_118 rfl rfl rfl ?_
                      exact V.msk [true, true, true, true, true, true, true] rfl (wj_R_copy_120  hC hR  t17 a1 a2 a3 a4 a5 (0 : Int32) h)
                    · replace h := h.2 c32
                      exact V.msk [true, false, false, false, false, false, false] rfl (wj_R_copy_111  hC hR  t17  h)
          · replace h := h.2 c25
            refine V.aload_n hC d_R_copy_56 rfl rfl ?_
            refine V.iconst (v := 4) hC d_R_copy_57 (by decide) ?_
            refine V.callVI hC exR (w_R_meets w t17 (4 : Int32) _ h) d_R_copy_58 mo_R_meets qm_R_166 rfl rfl rfl rfl rfl rfl rfl (Nat.le_of_ble_eq_true rfl) (fun r33 t34 h => ?_)
            exact hR _ _ _ _ h rfl d_R_copy_61
        · replace h := h.2 c22
          exact V.msk [true, false, false, false, false, false, false] rfl (wj_R_copy_35  hC hR  t17  h)
    · replace h := h.2 c18
      refine V.bipush (v := -2) hC d_R_copy_14 (by decide) ?_
      exact hR _ _ _ _ h rfl d_R_copy_16
abbrev b_R_write : ByteArray := prog_10_method_89_code
def y_R_write : MethodName := ⟨nC8, "write", "(II)I"⟩
theorem d_R_write_0 : decode b_R_write 0 = .ok (.aload_n 0, 1) := by decide +kernel
theorem d_R_write_1 : decode b_R_write 1 = .ok (.iload_n 1, 1) := by decide +kernel
theorem d_R_write_2 : decode b_R_write 2 = .ok (.invokevirtual 142, 3) := by decide +kernel
theorem d_R_write_5 : decode b_R_write 5 = .ok (.ifCond .eq 10, 3) := by decide +kernel
theorem d_R_write_8 : decode b_R_write 8 = .ok (.iload_n 2, 1) := by decide +kernel
theorem d_R_write_9 : decode b_R_write 9 = .ok (.invokestatic 163, 3) := by decide +kernel
theorem d_R_write_12 : decode b_R_write 12 = .ok (.ifCond .ne 6, 3) := by decide +kernel
theorem d_R_write_15 : decode b_R_write 15 = .ok (.bipush (-2), 2) := by decide +kernel
theorem d_R_write_17 : decode b_R_write 17 = .ok (.ireturn, 1) := by decide +kernel
theorem d_R_write_18 : decode b_R_write 18 = .ok (.aload_n 0, 1) := by decide +kernel
theorem d_R_write_19 : decode b_R_write 19 = .ok (.getfield 80, 3) := by decide +kernel
theorem d_R_write_22 : decode b_R_write 22 = .ok (.iload_n 2, 1) := by decide +kernel
theorem d_R_write_23 : decode b_R_write 23 = .ok (.baload, 1) := by decide +kernel
theorem d_R_write_24 : decode b_R_write 24 = .ok (.ifCond .ne 9, 3) := by decide +kernel
theorem d_R_write_27 : decode b_R_write 27 = .ok (.aload_n 0, 1) := by decide +kernel
theorem d_R_write_28 : decode b_R_write 28 = .ok (.iconst 1, 1) := by decide +kernel
theorem d_R_write_29 : decode b_R_write 29 = .ok (.invokevirtual 166, 3) := by decide +kernel
theorem d_R_write_32 : decode b_R_write 32 = .ok (.ireturn, 1) := by decide +kernel
theorem d_R_write_33 : decode b_R_write 33 = .ok (.iconst 0, 1) := by decide +kernel
theorem d_R_write_34 : decode b_R_write 34 = .ok (.istore_n 3, 1) := by decide +kernel
theorem d_R_write_35 : decode b_R_write 35 = .ok (.iload_n 3, 1) := by decide +kernel
theorem d_R_write_36 : decode b_R_write 36 = .ok (.aload_n 0, 1) := by decide +kernel
theorem d_R_write_37 : decode b_R_write 37 = .ok (.getfield 86, 3) := by decide +kernel
theorem d_R_write_40 : decode b_R_write 40 = .ok (.iload_n 2, 1) := by decide +kernel
theorem d_R_write_41 : decode b_R_write 41 = .ok (.iaload, 1) := by decide +kernel
theorem d_R_write_42 : decode b_R_write 42 = .ok (.if_icmp .ge 27, 3) := by decide +kernel
theorem d_R_write_45 : decode b_R_write 45 = .ok (.iload_n 3, 1) := by decide +kernel
theorem d_R_write_46 : decode b_R_write 46 = .ok (.bipush 30, 2) := by decide +kernel
theorem d_R_write_48 : decode b_R_write 48 = .ok (.if_icmp .ge 21, 3) := by decide +kernel
theorem d_R_write_51 : decode b_R_write 51 = .ok (.aload_n 0, 1) := by decide +kernel
theorem d_R_write_52 : decode b_R_write 52 = .ok (.iload_n 2, 1) := by decide +kernel
theorem d_R_write_53 : decode b_R_write 53 = .ok (.iload_n 3, 1) := by decide +kernel
theorem d_R_write_54 : decode b_R_write 54 = .ok (.aload_n 0, 1) := by decide +kernel
theorem d_R_write_55 : decode b_R_write 55 = .ok (.iload_n 3, 1) := by decide +kernel
theorem d_R_write_56 : decode b_R_write 56 = .ok (.iload_n 1, 1) := by decide +kernel
theorem d_R_write_57 : decode b_R_write 57 = .ok (.invokevirtual 201, 3) := by decide +kernel
theorem d_R_write_60 : decode b_R_write 60 = .ok (.invokevirtual 290, 3) := by decide +kernel
theorem d_R_write_63 : decode b_R_write 63 = .ok (.iinc 3 1, 3) := by decide +kernel
theorem d_R_write_66 : decode b_R_write 66 = .ok (.goto (-31), 3) := by decide +kernel
theorem d_R_write_69 : decode b_R_write 69 = .ok (.iload_n 3, 1) := by decide +kernel
theorem d_R_write_70 : decode b_R_write 70 = .ok (.ireturn, 1) := by decide +kernel
def b_R_write_35_ (P : Int32 → Hp → Prop)  (I35 : Hp → Int32 → Int32 → Int32 → Prop) (σ : Hp) (x1 : Int32) (x2 : Int32) (x3 : Int32) : Prop :=
  (vp_in x2 4) ∧ (((σ 26 (ix x2)) ≤ x3 → P x3 σ) ∧ (¬ (σ 26 (ix x2)) ≤ x3 → (((30 : Int32) ≤ x3 → P x3 σ) ∧ (¬ (30 : Int32) ≤ x3 → wp_R_balanceOf σ x3 x1 (fun (r4 : Int32) (t5 : Hp) => wp_R_keep t5 x2 x3 r4 (fun (t7 : Hp) => (∀ v8 : Int32, v8 = x3 + (1 : Int32) → I35 t7 x1 x2 v8)))))))
def j_R_write_35 (P : Int32 → Hp → Prop)  (σ : Hp) (x1 : Int32) (x2 : Int32) (x3 : Int32) : Prop := ∀ I35 : Hp → Int32 → Int32 → Int32 → Prop, (∀ (σ : Hp) (x1 : Int32) (x2 : Int32) (x3 : Int32), b_R_write_35_  P  I35 σ x1 x2 x3 → I35 σ x1 x2 x3) → I35 σ x1 x2 x3
def wp_R_write (σ : Hp) (a1 : Int32) (a2 : Int32) (P : Int32 → Hp → Prop) : Prop :=
  wp_R_isHouse σ a1 (fun (r9 : Int32) (t10 : Hp) => ((r9 = 0 → P (-2 : Int32) t10) ∧ (¬ r9 = 0 → wp_R_isSheet t10 a2 (fun (r12 : Int32) (t13 : Hp) => ((¬ r12 = 0 → (vp_in a2 4) ∧ ((¬ (t13 24 (ix a2)) = 0 → j_R_write_35 P t13 a1 a2 (0 : Int32)) ∧ ((t13 24 (ix a2)) = 0 → wp_R_meets t13 (1 : Int32) (fun (r17 : Int32) (t18 : Hp) => P r17 t18)))) ∧ (r12 = 0 → P (-2 : Int32) t13))))))
set_option maxHeartbeats 4000000 in
set_option maxRecDepth 100000 in
theorem wj_R_write_35 {w : Wd} {κ : Kx} {P : Int32 → Hp → Prop} (hC : Cx μR w 4 κ nC8 b_R_write 9) (hR : RtI μR w 4 κ b_R_write .int P)  : ∀ (σ : Hp) (x1 : Int32) (x2 : Int32) (x3 : Int32), j_R_write_35  P  σ x1 x2 x3 → V μR w 4 κ σ [some (.ref (w.1 0)), some (.int x1), some (.int x2), some (.int x3)] 35 [] := by
  intro σ x1 x2 x3 h
  refine h (fun σ x1 x2 x3 => V μR w 4 κ σ [some (.ref (w.1 0)), some (.int x1), some (.int x2), some (.int x3)] 35 []) (fun σ x1 x2 x3 h => ?_)
  unfold b_R_write_35_ at h
  refine V.iload_n hC d_R_write_35 rfl rfl ?_
  refine V.aload_n hC d_R_write_36 rfl rfl ?_
  refine V.getR (j := 31) hC d_R_write_37 rfl rfl uC8 rfl rfl qf_R_86 ?_
  refine V.iload_n hC d_R_write_40 rfl rfl ?_
  obtain ⟨b1, h⟩ := h
  refine V.iald hC d_R_write_41 rfl b1 ?_
  refine V.icmp_ge (tgt := 69) hC d_R_write_42 (by decide) (fun c2 => ?_) (fun c2 => ?_)
  · replace h := h.1 c2
    refine V.iload_n hC d_R_write_69 rfl rfl ?_
    exact hR _ _ _ _ h rfl d_R_write_70
  · replace h := h.2 c2
    refine V.iload_n hC d_R_write_45 rfl rfl ?_
    refine V.bipush (v := 30) hC d_R_write_46 (by decide) ?_
    refine V.icmp_ge (tgt := 69) hC d_R_write_48 (by decide) (fun c3 => ?_) (fun c3 => ?_)
    · replace h := h.1 c3
      refine V.iload_n hC d_R_write_69 rfl rfl ?_
      exact hR _ _ _ _ h rfl d_R_write_70
    · replace h := h.2 c3
      refine V.aload_n hC d_R_write_51 rfl rfl ?_
      refine V.iload_n hC d_R_write_52 rfl rfl ?_
      refine V.iload_n hC d_R_write_53 rfl rfl ?_
      refine V.aload_n hC d_R_write_54 rfl rfl ?_
      refine V.iload_n hC d_R_write_55 rfl rfl ?_
      refine V.iload_n hC d_R_write_56 rfl rfl ?_
      refine V.callVI hC exR (w_R_balanceOf w σ x3 x1 _ h) d_R_write_57 mo_R_balanceOf qm_R_201 rfl rfl rfl rfl rfl rfl rfl (Nat.le_of_ble_eq_true rfl) (fun r4 t5 h => ?_)
      refine V.callVN hC exR (w_R_keep w t5 x2 x3 r4 _ h) d_R_write_60 mo_R_keep qm_R_290 rfl rfl rfl rfl rfl rfl rfl (Nat.le_of_ble_eq_true rfl) (fun t7 h => ?_)
      obtain ⟨v8, ev8⟩ : ∃ y : Int32, y = x3 + (1 : Int32) := ⟨_, rfl⟩
      replace h := h v8 ev8
      refine V.iinc (y := v8) (lo' := [some (.ref (w.1 0)), some (.int x1), some (.int x2), some (.int v8)]) hC d_R_write_63 rfl rfl (show v8 = _ + Int32.ofInt (1) from ev8) rfl ?_
      refine V.goto (tgt := 35) hC d_R_write_66 (by decide) ?_
      exact V.msk [true, true, true, true] rfl h
set_option maxHeartbeats 4000000 in
set_option maxRecDepth 100000 in
theorem w_R_write (w : Wd) (σ : Hp) (a1 : Int32) (a2 : Int32) (P : Int32 → Hp → Prop) (h : wp_R_write σ a1 a2 P) : CtI μR w y_R_write b_R_write 4 (some .int) 9 [.ref (w.1 0), .int a1, .int a2] σ P := by
  unfold wp_R_write at h
  refine CtI.ofV (C := nC8) (lo := [some (.ref (w.1 0)), some (.int a1), some (.int a2), none]) exR (by decide +kernel) rfl rfl rfl (fun κ hC hR => ?_)
  refine V.aload_n hC d_R_write_0 rfl rfl ?_
  refine V.iload_n hC d_R_write_1 rfl rfl ?_
  refine V.callVI hC exR (w_R_isHouse w σ a1 _ h) d_R_write_2 mo_R_isHouse qm_R_142 rfl rfl rfl rfl rfl rfl rfl (Nat.le_of_ble_eq_true rfl) (fun r9 t10 h => ?_)
  refine V.if_eq (tgt := 15) hC d_R_write_5 (by decide) (fun c11 => ?_) (fun c11 => ?_)
  · replace h := h.1 c11
    refine V.bipush (v := -2) hC d_R_write_15 (by decide) ?_
    exact hR _ _ _ _ h rfl d_R_write_17
  · replace h := h.2 c11
    refine V.iload_n hC d_R_write_8 rfl rfl ?_
    refine V.callSI hC exR (w_R_isSheet w t10 a2 _ h) d_R_write_9 mo_R_isSheet qm_R_163 rfl rfl rfl rfl (Nat.le_of_ble_eq_true rfl) (fun r12 t13 h => ?_)
    refine V.if_ne (tgt := 18) hC d_R_write_12 (by decide) (fun c14 => ?_) (fun c14 => ?_)
    · replace h := h.1 c14
      refine V.aload_n hC d_R_write_18 rfl rfl ?_
      refine V.getR (j := 29) hC d_R_write_19 rfl rfl uC8 rfl rfl qf_R_80 ?_
      refine V.iload_n hC d_R_write_22 rfl rfl ?_
      obtain ⟨b15, h⟩ := h
      refine V.zald hC d_R_write_23 rfl b15 ?_
      refine V.if_ne (tgt := 33) hC d_R_write_24 (by decide) (fun c16 => ?_) (fun c16 => ?_)
      · replace h := h.1 c16
        refine V.iconst (v := 0) hC d_R_write_33 (by decide) ?_
        refine V.istore_n (y := (0 : Int32)) (lo' := [some (.ref (w.1 0)), some (.int a1), some (.int a2), some (.int (0 : Int32))]) hC d_R_write_34 rfl rfl rfl rfl ?_
        exact V.msk [true, true, true, true] rfl (wj_R_write_35  hC hR  t13 a1 a2 (0 : Int32) h)
      · replace h := h.2 c16
        refine V.aload_n hC d_R_write_27 rfl rfl ?_
        refine V.iconst (v := 1) hC d_R_write_28 (by decide) ?_
        refine V.callVI hC exR (w_R_meets w t13 (1 : Int32) _ h) d_R_write_29 mo_R_meets qm_R_166 rfl rfl rfl rfl rfl rfl rfl (Nat.le_of_ble_eq_true rfl) (fun r17 t18 h => ?_)
        exact hR _ _ _ _ h rfl d_R_write_32
    · replace h := h.2 c14
      refine V.bipush (v := -2) hC d_R_write_15 (by decide) ?_
      exact hR _ _ _ _ h rfl d_R_write_17
abbrev b_R_partsMany : ByteArray := prog_10_method_90_code
def y_R_partsMany : MethodName := ⟨nC8, "partsMany", "(I)I"⟩
theorem d_R_partsMany_0 : decode b_R_partsMany 0 = .ok (.aload_n 0, 1) := by decide +kernel
theorem d_R_partsMany_1 : decode b_R_partsMany 1 = .ok (.invokevirtual 139, 3) := by decide +kernel
theorem d_R_partsMany_4 : decode b_R_partsMany 4 = .ok (.iload_n 1, 1) := by decide +kernel
theorem d_R_partsMany_5 : decode b_R_partsMany 5 = .ok (.ifCond .ne 10, 3) := by decide +kernel
theorem d_R_partsMany_8 : decode b_R_partsMany 8 = .ok (.aload_n 0, 1) := by decide +kernel
theorem d_R_partsMany_9 : decode b_R_partsMany 9 = .ok (.getfield 116, 3) := by decide +kernel
theorem d_R_partsMany_12 : decode b_R_partsMany 12 = .ok (.goto 7, 3) := by decide +kernel
theorem d_R_partsMany_15 : decode b_R_partsMany 15 = .ok (.aload_n 0, 1) := by decide +kernel
theorem d_R_partsMany_16 : decode b_R_partsMany 16 = .ok (.getfield 123, 3) := by decide +kernel
theorem d_R_partsMany_19 : decode b_R_partsMany 19 = .ok (.ireturn, 1) := by decide +kernel
theorem mo_R_partsMany : MokV y_R_partsMany b_R_partsMany 2 (some .int) 1 := ⟨⟨(tbl_in 1327 (by decide +kernel) rfl), (tbl_in 70 (by decide +kernel) rfl)⟩, ⟨(tbl_in 1326 (by decide +kernel) rfl), tbl_lw _ (tbl_in 57 (by decide +kernel) rfl), (tbl_in 57 (by decide +kernel) rfl)⟩, ⟨by decide +kernel, by decide +kernel⟩, by decide +kernel⟩
def wp_R_partsMany (σ : Hp) (a1 : Int32) (P : Int32 → Hp → Prop) : Prop :=
  wp_R_reads σ (fun (t2 : Hp) => ((¬ a1 = 0 → P (t2 0 7) t2) ∧ (a1 = 0 → P (t2 0 2) t2)))
set_option maxHeartbeats 4000000 in
set_option maxRecDepth 100000 in
theorem w_R_partsMany (w : Wd) (σ : Hp) (a1 : Int32) (P : Int32 → Hp → Prop) (h : wp_R_partsMany σ a1 P) : CtI μR w y_R_partsMany b_R_partsMany 2 (some .int) 6 [.ref (w.1 0), .int a1] σ P := by
  unfold wp_R_partsMany at h
  refine CtI.ofV (C := nC8) (lo := [some (.ref (w.1 0)), some (.int a1)]) exR (by decide +kernel) rfl rfl rfl (fun κ hC hR => ?_)
  refine V.aload_n hC d_R_partsMany_0 rfl rfl ?_
  refine V.callVN hC exR (w_R_reads w σ  _ h) d_R_partsMany_1 mo_R_reads qm_R_139 rfl rfl rfl rfl rfl rfl rfl (Nat.le_of_ble_eq_true rfl) (fun t2 h => ?_)
  refine V.iload_n hC d_R_partsMany_4 rfl rfl ?_
  refine V.if_ne (tgt := 15) hC d_R_partsMany_5 (by decide) (fun c3 => ?_) (fun c3 => ?_)
  · replace h := h.1 c3
    refine V.aload_n hC d_R_partsMany_15 rfl rfl ?_
    refine V.getI (j := 7) hC d_R_partsMany_16 rfl rfl uC8 rfl rfl qf_R_123 ?_
    exact hR _ _ _ _ h rfl d_R_partsMany_19
  · replace h := h.2 c3
    refine V.aload_n hC d_R_partsMany_8 rfl rfl ?_
    refine V.getI (j := 2) hC d_R_partsMany_9 rfl rfl uC8 rfl rfl qf_R_116 ?_
    refine V.goto (tgt := 19) hC d_R_partsMany_12 (by decide) ?_
    exact hR _ _ _ _ h rfl d_R_partsMany_19
abbrev b_R_allThick : ByteArray := prog_10_method_91_code
def y_R_allThick : MethodName := ⟨nC8, "allThick", "()I"⟩
theorem d_R_allThick_0 : decode b_R_allThick 0 = .ok (.iconst 0, 1) := by decide +kernel
theorem d_R_allThick_1 : decode b_R_allThick 1 = .ok (.istore_n 1, 1) := by decide +kernel
theorem d_R_allThick_2 : decode b_R_allThick 2 = .ok (.iconst 0, 1) := by decide +kernel
theorem d_R_allThick_3 : decode b_R_allThick 3 = .ok (.istore_n 2, 1) := by decide +kernel
theorem d_R_allThick_4 : decode b_R_allThick 4 = .ok (.iload_n 2, 1) := by decide +kernel
theorem d_R_allThick_5 : decode b_R_allThick 5 = .ok (.bipush 7, 2) := by decide +kernel
theorem d_R_allThick_7 : decode b_R_allThick 7 = .ok (.if_icmp .ge 18, 3) := by decide +kernel
theorem d_R_allThick_10 : decode b_R_allThick 10 = .ok (.iload_n 1, 1) := by decide +kernel
theorem d_R_allThick_11 : decode b_R_allThick 11 = .ok (.aload_n 0, 1) := by decide +kernel
theorem d_R_allThick_12 : decode b_R_allThick 12 = .ok (.getfield 31, 3) := by decide +kernel
theorem d_R_allThick_15 : decode b_R_allThick 15 = .ok (.iload_n 2, 1) := by decide +kernel
theorem d_R_allThick_16 : decode b_R_allThick 16 = .ok (.iaload, 1) := by decide +kernel
theorem d_R_allThick_17 : decode b_R_allThick 17 = .ok (.iadd, 1) := by decide +kernel
theorem d_R_allThick_18 : decode b_R_allThick 18 = .ok (.istore_n 1, 1) := by decide +kernel
theorem d_R_allThick_19 : decode b_R_allThick 19 = .ok (.iinc 2 1, 3) := by decide +kernel
theorem d_R_allThick_22 : decode b_R_allThick 22 = .ok (.goto (-18), 3) := by decide +kernel
theorem d_R_allThick_25 : decode b_R_allThick 25 = .ok (.iload_n 1, 1) := by decide +kernel
theorem d_R_allThick_26 : decode b_R_allThick 26 = .ok (.ireturn, 1) := by decide +kernel
theorem mo_R_allThick : MokV y_R_allThick b_R_allThick 3 (some .int) 0 := ⟨⟨(tbl_in 1331 (by decide +kernel) rfl), (tbl_in 70 (by decide +kernel) rfl)⟩, ⟨(tbl_in 1330 (by decide +kernel) rfl), tbl_lw _ (tbl_in 58 (by decide +kernel) rfl), (tbl_in 58 (by decide +kernel) rfl)⟩, ⟨by decide +kernel, by decide +kernel⟩, by decide +kernel⟩
def b_R_allThick_4_ (P : Int32 → Hp → Prop)  (I4 : Hp → Int32 → Int32 → Prop) (σ : Hp) (x1 : Int32) (x2 : Int32) : Prop :=
  (((7 : Int32) ≤ x2 → P x1 σ) ∧ (¬ (7 : Int32) ≤ x2 → (vp_in x2 7) ∧ (∀ v3 : Int32, v3 = x1 + (σ 8 (ix x2)) → (∀ v4 : Int32, v4 = x2 + (1 : Int32) → I4 σ v3 v4))))
def j_R_allThick_4 (P : Int32 → Hp → Prop)  (σ : Hp) (x1 : Int32) (x2 : Int32) : Prop := ∀ I4 : Hp → Int32 → Int32 → Prop, (∀ (σ : Hp) (x1 : Int32) (x2 : Int32), b_R_allThick_4_  P  I4 σ x1 x2 → I4 σ x1 x2) → I4 σ x1 x2
def wp_R_allThick (σ : Hp)  (P : Int32 → Hp → Prop) : Prop :=
  j_R_allThick_4 P σ (0 : Int32) (0 : Int32)
set_option maxHeartbeats 4000000 in
set_option maxRecDepth 100000 in
theorem wj_R_allThick_4 {w : Wd} {κ : Kx} {P : Int32 → Hp → Prop} (hC : Cx μR w 3 κ nC8 b_R_allThick 0) (hR : RtI μR w 3 κ b_R_allThick .int P)  : ∀ (σ : Hp) (x1 : Int32) (x2 : Int32), j_R_allThick_4  P  σ x1 x2 → V μR w 3 κ σ [some (.ref (w.1 0)), some (.int x1), some (.int x2)] 4 [] := by
  intro σ x1 x2 h
  refine h (fun σ x1 x2 => V μR w 3 κ σ [some (.ref (w.1 0)), some (.int x1), some (.int x2)] 4 []) (fun σ x1 x2 h => ?_)
  unfold b_R_allThick_4_ at h
  refine V.iload_n hC d_R_allThick_4 rfl rfl ?_
  refine V.bipush (v := 7) hC d_R_allThick_5 (by decide) ?_
  refine V.icmp_ge (tgt := 25) hC d_R_allThick_7 (by decide) (fun c1 => ?_) (fun c1 => ?_)
  · replace h := h.1 c1
    refine V.iload_n hC d_R_allThick_25 rfl rfl ?_
    exact hR _ _ _ _ h rfl d_R_allThick_26
  · replace h := h.2 c1
    refine V.iload_n hC d_R_allThick_10 rfl rfl ?_
    refine V.aload_n hC d_R_allThick_11 rfl rfl ?_
    refine V.getR (j := 9) hC d_R_allThick_12 rfl rfl uC8 rfl rfl qf_R_31 ?_
    refine V.iload_n hC d_R_allThick_15 rfl rfl ?_
    obtain ⟨b2, h⟩ := h
    refine V.iald hC d_R_allThick_16 rfl b2 ?_
    refine V.iadd hC d_R_allThick_17 ?_
    obtain ⟨v3, ev3⟩ : ∃ y : Int32, y = x1 + (σ 8 (ix x2)) := ⟨_, rfl⟩
    replace h := h v3 ev3
    refine V.istore_n (y := v3) (lo' := [some (.ref (w.1 0)), some (.int v3), some (.int x2)]) hC d_R_allThick_18 rfl rfl ev3 rfl ?_
    obtain ⟨v4, ev4⟩ : ∃ y : Int32, y = x2 + (1 : Int32) := ⟨_, rfl⟩
    replace h := h v4 ev4
    refine V.iinc (y := v4) (lo' := [some (.ref (w.1 0)), some (.int v3), some (.int v4)]) hC d_R_allThick_19 rfl rfl (show v4 = _ + Int32.ofInt (1) from ev4) rfl ?_
    refine V.goto (tgt := 4) hC d_R_allThick_22 (by decide) ?_
    exact V.msk [true, true, true] rfl h
set_option maxHeartbeats 4000000 in
set_option maxRecDepth 100000 in
theorem w_R_allThick (w : Wd) (σ : Hp)  (P : Int32 → Hp → Prop) (h : wp_R_allThick σ  P) : CtI μR w y_R_allThick b_R_allThick 3 (some .int) 0 [.ref (w.1 0)] σ P := by
  unfold wp_R_allThick at h
  refine CtI.ofV (C := nC8) (lo := [some (.ref (w.1 0)), none, none]) exR (by decide +kernel) rfl rfl rfl (fun κ hC hR => ?_)
  refine V.iconst (v := 0) hC d_R_allThick_0 (by decide) ?_
  refine V.istore_n (y := (0 : Int32)) (lo' := [some (.ref (w.1 0)), some (.int (0 : Int32)), none]) hC d_R_allThick_1 rfl rfl rfl rfl ?_
  refine V.iconst (v := 0) hC d_R_allThick_2 (by decide) ?_
  refine V.istore_n (y := (0 : Int32)) (lo' := [some (.ref (w.1 0)), some (.int (0 : Int32)), some (.int (0 : Int32))]) hC d_R_allThick_3 rfl rfl rfl rfl ?_
  exact V.msk [true, true, true] rfl (wj_R_allThick_4  hC hR  σ (0 : Int32) (0 : Int32) h)
abbrev b_R_count : ByteArray := prog_10_method_92_code
def y_R_count : MethodName := ⟨nC8, "count", "(I)I"⟩
theorem d_R_count_0 : decode b_R_count 0 = .ok (.iload_n 1, 1) := by decide +kernel
theorem d_R_count_1 : decode b_R_count 1 = .ok (.tableswitch 91 0 8 #[51, 51, 57, 57, 66, 71, 76, 81, 86], 51) := by decide +kernel
theorem d_R_count_52 : decode b_R_count 52 = .ok (.aload_n 0, 1) := by decide +kernel
theorem d_R_count_53 : decode b_R_count 53 = .ok (.iload_n 1, 1) := by decide +kernel
theorem d_R_count_54 : decode b_R_count 54 = .ok (.invokevirtual 295, 3) := by decide +kernel
theorem d_R_count_57 : decode b_R_count 57 = .ok (.ireturn, 1) := by decide +kernel
theorem d_R_count_58 : decode b_R_count 58 = .ok (.aload_n 0, 1) := by decide +kernel
theorem d_R_count_59 : decode b_R_count 59 = .ok (.getfield 7, 3) := by decide +kernel
theorem d_R_count_62 : decode b_R_count 62 = .ok (.iload_n 1, 1) := by decide +kernel
theorem d_R_count_63 : decode b_R_count 63 = .ok (.iconst 2, 1) := by decide +kernel
theorem d_R_count_64 : decode b_R_count 64 = .ok (.isub, 1) := by decide +kernel
theorem d_R_count_65 : decode b_R_count 65 = .ok (.iaload, 1) := by decide +kernel
theorem d_R_count_66 : decode b_R_count 66 = .ok (.ireturn, 1) := by decide +kernel
theorem d_R_count_67 : decode b_R_count 67 = .ok (.aload_n 0, 1) := by decide +kernel
theorem d_R_count_68 : decode b_R_count 68 = .ok (.getfield 157, 3) := by decide +kernel
theorem d_R_count_71 : decode b_R_count 71 = .ok (.ireturn, 1) := by decide +kernel
theorem d_R_count_72 : decode b_R_count 72 = .ok (.aload_n 0, 1) := by decide +kernel
theorem d_R_count_73 : decode b_R_count 73 = .ok (.getfield 160, 3) := by decide +kernel
theorem d_R_count_76 : decode b_R_count 76 = .ok (.ireturn, 1) := by decide +kernel
theorem d_R_count_77 : decode b_R_count 77 = .ok (.aload_n 0, 1) := by decide +kernel
theorem d_R_count_78 : decode b_R_count 78 = .ok (.invokevirtual 298, 3) := by decide +kernel
theorem d_R_count_81 : decode b_R_count 81 = .ok (.ireturn, 1) := by decide +kernel
theorem d_R_count_82 : decode b_R_count 82 = .ok (.aload_n 0, 1) := by decide +kernel
theorem d_R_count_83 : decode b_R_count 83 = .ok (.getfield 252, 3) := by decide +kernel
theorem d_R_count_86 : decode b_R_count 86 = .ok (.ireturn, 1) := by decide +kernel
theorem d_R_count_87 : decode b_R_count 87 = .ok (.aload_n 0, 1) := by decide +kernel
theorem d_R_count_88 : decode b_R_count 88 = .ok (.getfield 284, 3) := by decide +kernel
theorem d_R_count_91 : decode b_R_count 91 = .ok (.ireturn, 1) := by decide +kernel
theorem d_R_count_92 : decode b_R_count 92 = .ok (.bipush (-2), 2) := by decide +kernel
theorem d_R_count_94 : decode b_R_count 94 = .ok (.ireturn, 1) := by decide +kernel
theorem qm_R_295 : Cond.methodLink nC8 295 y_R_partsMany ∈ tbl := tbl_in 1324 (by decide +kernel) rfl
theorem qm_R_298 : Cond.methodLink nC8 298 y_R_allThick ∈ tbl := tbl_in 1328 (by decide +kernel) rfl
theorem mo_R_count : MokV y_R_count b_R_count 2 (some .int) 1 := ⟨⟨(tbl_in 1323 (by decide +kernel) rfl), (tbl_in 70 (by decide +kernel) rfl)⟩, ⟨(tbl_in 1321 (by decide +kernel) rfl), tbl_lw _ (tbl_in 1322 (by decide +kernel) rfl), (tbl_in 1322 (by decide +kernel) rfl)⟩, ⟨by decide +kernel, by decide +kernel⟩, by decide +kernel⟩
def j_R_count_52 (P : Int32 → Hp → Prop)  (σ : Hp) (x1 : Int32) : Prop :=
  wp_R_partsMany σ x1 (fun (r1 : Int32) (t2 : Hp) => P r1 t2)
def wp_R_count (σ : Hp) (a1 : Int32) (P : Int32 → Hp → Prop) : Prop :=
  (((a1.toInt < 0 ∨ (8 : Int) < a1.toInt) → P (-2 : Int32) σ) ∧ (a1 = 0 → j_R_count_52 P σ a1) ∧ (a1 = 1 → j_R_count_52 P σ a1) ∧ (a1 = 2 → (vp_in (a1 - (2 : Int32)) 2) ∧ P (σ 1 (ix (a1 - (2 : Int32)))) σ) ∧ (a1 = 3 → (vp_in (a1 - (2 : Int32)) 2) ∧ P (σ 1 (ix (a1 - (2 : Int32)))) σ) ∧ (a1 = 4 → P (σ 0 10) σ) ∧ (a1 = 5 → P (σ 0 14) σ) ∧ (a1 = 6 → wp_R_allThick σ (fun (r6 : Int32) (t7 : Hp) => P r6 t7)) ∧ (a1 = 7 → P (σ 0 24) σ) ∧ (a1 = 8 → P (σ 0 34) σ))
set_option maxHeartbeats 4000000 in
set_option maxRecDepth 100000 in
theorem wj_R_count_52 {w : Wd} {κ : Kx} {P : Int32 → Hp → Prop} (hC : Cx μR w 2 κ nC8 b_R_count 7) (hR : RtI μR w 2 κ b_R_count .int P)  : ∀ (σ : Hp) (x1 : Int32), j_R_count_52  P  σ x1 → V μR w 2 κ σ [some (.ref (w.1 0)), some (.int x1)] 52 [] := by
  intro σ x1 h
  unfold j_R_count_52 at h
  refine V.aload_n hC d_R_count_52 rfl rfl ?_
  refine V.iload_n hC d_R_count_53 rfl rfl ?_
  refine V.callVI hC exR (w_R_partsMany w σ x1 _ h) d_R_count_54 mo_R_partsMany qm_R_295 rfl rfl rfl rfl rfl rfl rfl (Nat.le_of_ble_eq_true rfl) (fun r1 t2 h => ?_)
  exact hR _ _ _ _ h rfl d_R_count_57
set_option maxHeartbeats 4000000 in
set_option maxRecDepth 100000 in
theorem w_R_count (w : Wd) (σ : Hp) (a1 : Int32) (P : Int32 → Hp → Prop) (h : wp_R_count σ a1 P) : CtI μR w y_R_count b_R_count 2 (some .int) 7 [.ref (w.1 0), .int a1] σ P := by
  unfold wp_R_count at h
  refine CtI.ofV (C := nC8) (lo := [some (.ref (w.1 0)), some (.int a1)]) exR (by decide +kernel) rfl rfl rfl (fun κ hC hR => ?_)
  refine V.iload_n hC d_R_count_0 rfl rfl ?_
  rcases sw_cases a1 8 with c3 | ⟨k9, hk9, c3⟩
  · refine V.tabOut (tgt := 92) hC d_R_count_1 c3 (by decide) ?_
    replace h := h.1 c3
    refine V.bipush (v := -2) hC d_R_count_92 (by decide) ?_
    exact hR _ _ _ _ h rfl d_R_count_94
  · rcases (show k9 = 0 ∨ k9 = 1 ∨ k9 = 2 ∨ k9 = 3 ∨ k9 = 4 ∨ k9 = 5 ∨ k9 = 6 ∨ k9 = 7 ∨ k9 = 8 by omega) with rfl | rfl | rfl | rfl | rfl | rfl | rfl | rfl | rfl
    · refine V.tabIn (tgt := 52) hC d_R_count_1 (by rw [c3]; decide) (by rw [c3]; decide) (by rw [c3]; rfl) (by decide) ?_
      replace h := h.2.1 c3
      exact V.msk [true, true] rfl (wj_R_count_52  hC hR  σ a1 h)
    · refine V.tabIn (tgt := 52) hC d_R_count_1 (by rw [c3]; decide) (by rw [c3]; decide) (by rw [c3]; rfl) (by decide) ?_
      replace h := h.2.2.1 c3
      exact V.msk [true, true] rfl (wj_R_count_52  hC hR  σ a1 h)
    · refine V.tabIn (tgt := 58) hC d_R_count_1 (by rw [c3]; decide) (by rw [c3]; decide) (by rw [c3]; rfl) (by decide) ?_
      replace h := h.2.2.2.1 c3
      refine V.aload_n hC d_R_count_58 rfl rfl ?_
      refine V.getR (j := 0) hC d_R_count_59 rfl rfl uC8 rfl rfl qf_R_7 ?_
      refine V.iload_n hC d_R_count_62 rfl rfl ?_
      refine V.iconst (v := 2) hC d_R_count_63 (by decide) ?_
      refine V.isub hC d_R_count_64 ?_
      obtain ⟨b4, h⟩ := h
      refine V.iald hC d_R_count_65 rfl b4 ?_
      exact hR _ _ _ _ h rfl d_R_count_66
    · refine V.tabIn (tgt := 58) hC d_R_count_1 (by rw [c3]; decide) (by rw [c3]; decide) (by rw [c3]; rfl) (by decide) ?_
      replace h := h.2.2.2.2.1 c3
      refine V.aload_n hC d_R_count_58 rfl rfl ?_
      refine V.getR (j := 0) hC d_R_count_59 rfl rfl uC8 rfl rfl qf_R_7 ?_
      refine V.iload_n hC d_R_count_62 rfl rfl ?_
      refine V.iconst (v := 2) hC d_R_count_63 (by decide) ?_
      refine V.isub hC d_R_count_64 ?_
      obtain ⟨b5, h⟩ := h
      refine V.iald hC d_R_count_65 rfl b5 ?_
      exact hR _ _ _ _ h rfl d_R_count_66
    · refine V.tabIn (tgt := 67) hC d_R_count_1 (by rw [c3]; decide) (by rw [c3]; decide) (by rw [c3]; rfl) (by decide) ?_
      replace h := h.2.2.2.2.2.1 c3
      refine V.aload_n hC d_R_count_67 rfl rfl ?_
      refine V.getI (j := 10) hC d_R_count_68 rfl rfl uC8 rfl rfl qf_R_157 ?_
      exact hR _ _ _ _ h rfl d_R_count_71
    · refine V.tabIn (tgt := 72) hC d_R_count_1 (by rw [c3]; decide) (by rw [c3]; decide) (by rw [c3]; rfl) (by decide) ?_
      replace h := h.2.2.2.2.2.2.1 c3
      refine V.aload_n hC d_R_count_72 rfl rfl ?_
      refine V.getI (j := 14) hC d_R_count_73 rfl rfl uC8 rfl rfl qf_R_160 ?_
      exact hR _ _ _ _ h rfl d_R_count_76
    · refine V.tabIn (tgt := 77) hC d_R_count_1 (by rw [c3]; decide) (by rw [c3]; decide) (by rw [c3]; rfl) (by decide) ?_
      replace h := h.2.2.2.2.2.2.2.1 c3
      refine V.aload_n hC d_R_count_77 rfl rfl ?_
      refine V.callVI hC exR (w_R_allThick w σ  _ h) d_R_count_78 mo_R_allThick qm_R_298 rfl rfl rfl rfl rfl rfl rfl (Nat.le_of_ble_eq_true rfl) (fun r6 t7 h => ?_)
      exact hR _ _ _ _ h rfl d_R_count_81
    · refine V.tabIn (tgt := 82) hC d_R_count_1 (by rw [c3]; decide) (by rw [c3]; decide) (by rw [c3]; rfl) (by decide) ?_
      replace h := h.2.2.2.2.2.2.2.2.1 c3
      refine V.aload_n hC d_R_count_82 rfl rfl ?_
      refine V.getI (j := 24) hC d_R_count_83 rfl rfl uC8 rfl rfl qf_R_252 ?_
      exact hR _ _ _ _ h rfl d_R_count_86
    · refine V.tabIn (tgt := 87) hC d_R_count_1 (by rw [c3]; decide) (by rw [c3]; decide) (by rw [c3]; rfl) (by decide) ?_
      replace h := h.2.2.2.2.2.2.2.2.2 c3
      refine V.aload_n hC d_R_count_87 rfl rfl ?_
      refine V.getI (j := 34) hC d_R_count_88 rfl rfl uC8 rfl rfl qf_R_284 ?_
      exact hR _ _ _ _ h rfl d_R_count_91
abbrev b_R_houseDigest : ByteArray := prog_10_method_93_code
def y_R_houseDigest : MethodName := ⟨nC8, "houseDigest", "(JI)J"⟩
theorem d_R_houseDigest_0 : decode b_R_houseDigest 0 = .ok (.lload_n 1, 1) := by decide +kernel
theorem d_R_houseDigest_1 : decode b_R_houseDigest 1 = .ok (.lstore 4, 2) := by decide +kernel
theorem d_R_houseDigest_3 : decode b_R_houseDigest 3 = .ok (.iconst 0, 1) := by decide +kernel
theorem d_R_houseDigest_4 : decode b_R_houseDigest 4 = .ok (.istore 6, 2) := by decide +kernel
theorem d_R_houseDigest_6 : decode b_R_houseDigest 6 = .ok (.iload 6, 2) := by decide +kernel
theorem d_R_houseDigest_8 : decode b_R_houseDigest 8 = .ok (.iconst 4, 1) := by decide +kernel
theorem d_R_houseDigest_9 : decode b_R_houseDigest 9 = .ok (.if_icmp .ge 26, 3) := by decide +kernel
theorem d_R_houseDigest_12 : decode b_R_houseDigest 12 = .ok (.ldc2_w 301, 3) := by decide +kernel
theorem d_R_houseDigest_15 : decode b_R_houseDigest 15 = .ok (.lload 4, 2) := by decide +kernel
theorem d_R_houseDigest_17 : decode b_R_houseDigest 17 = .ok (.lmul, 1) := by decide +kernel
theorem d_R_houseDigest_18 : decode b_R_houseDigest 18 = .ok (.aload_n 0, 1) := by decide +kernel
theorem d_R_houseDigest_19 : decode b_R_houseDigest 19 = .ok (.iload_n 3, 1) := by decide +kernel
theorem d_R_houseDigest_20 : decode b_R_houseDigest 20 = .ok (.iload 6, 2) := by decide +kernel
theorem d_R_houseDigest_22 : decode b_R_houseDigest 22 = .ok (.invokevirtual 145, 3) := by decide +kernel
theorem d_R_houseDigest_25 : decode b_R_houseDigest 25 = .ok (.i2l, 1) := by decide +kernel
theorem d_R_houseDigest_26 : decode b_R_houseDigest 26 = .ok (.ladd, 1) := by decide +kernel
theorem d_R_houseDigest_27 : decode b_R_houseDigest 27 = .ok (.lstore 4, 2) := by decide +kernel
theorem d_R_houseDigest_29 : decode b_R_houseDigest 29 = .ok (.iinc 6 1, 3) := by decide +kernel
theorem d_R_houseDigest_32 : decode b_R_houseDigest 32 = .ok (.goto (-26), 3) := by decide +kernel
theorem d_R_houseDigest_35 : decode b_R_houseDigest 35 = .ok (.ldc2_w 301, 3) := by decide +kernel
theorem d_R_houseDigest_38 : decode b_R_houseDigest 38 = .ok (.lload 4, 2) := by decide +kernel
theorem d_R_houseDigest_40 : decode b_R_houseDigest 40 = .ok (.lmul, 1) := by decide +kernel
theorem d_R_houseDigest_41 : decode b_R_houseDigest 41 = .ok (.aload_n 0, 1) := by decide +kernel
theorem d_R_houseDigest_42 : decode b_R_houseDigest 42 = .ok (.iconst 0, 1) := by decide +kernel
theorem d_R_houseDigest_43 : decode b_R_houseDigest 43 = .ok (.iload_n 3, 1) := by decide +kernel
theorem d_R_houseDigest_44 : decode b_R_houseDigest 44 = .ok (.invokevirtual 303, 3) := by decide +kernel
theorem d_R_houseDigest_47 : decode b_R_houseDigest 47 = .ok (.i2l, 1) := by decide +kernel
theorem d_R_houseDigest_48 : decode b_R_houseDigest 48 = .ok (.ladd, 1) := by decide +kernel
theorem d_R_houseDigest_49 : decode b_R_houseDigest 49 = .ok (.lstore 4, 2) := by decide +kernel
theorem d_R_houseDigest_51 : decode b_R_houseDigest 51 = .ok (.ldc2_w 301, 3) := by decide +kernel
theorem d_R_houseDigest_54 : decode b_R_houseDigest 54 = .ok (.lload 4, 2) := by decide +kernel
theorem d_R_houseDigest_56 : decode b_R_houseDigest 56 = .ok (.lmul, 1) := by decide +kernel
theorem d_R_houseDigest_57 : decode b_R_houseDigest 57 = .ok (.aload_n 0, 1) := by decide +kernel
theorem d_R_houseDigest_58 : decode b_R_houseDigest 58 = .ok (.bipush 9, 2) := by decide +kernel
theorem d_R_houseDigest_60 : decode b_R_houseDigest 60 = .ok (.iconst 0, 1) := by decide +kernel
theorem d_R_houseDigest_61 : decode b_R_houseDigest 61 = .ok (.iload_n 3, 1) := by decide +kernel
theorem d_R_houseDigest_62 : decode b_R_houseDigest 62 = .ok (.invokevirtual 306, 3) := by decide +kernel
theorem d_R_houseDigest_65 : decode b_R_houseDigest 65 = .ok (.i2l, 1) := by decide +kernel
theorem d_R_houseDigest_66 : decode b_R_houseDigest 66 = .ok (.ladd, 1) := by decide +kernel
theorem d_R_houseDigest_67 : decode b_R_houseDigest 67 = .ok (.lstore 4, 2) := by decide +kernel
theorem d_R_houseDigest_69 : decode b_R_houseDigest 69 = .ok (.ldc2_w 301, 3) := by decide +kernel
theorem d_R_houseDigest_72 : decode b_R_houseDigest 72 = .ok (.lload 4, 2) := by decide +kernel
theorem d_R_houseDigest_74 : decode b_R_houseDigest 74 = .ok (.lmul, 1) := by decide +kernel
theorem d_R_houseDigest_75 : decode b_R_houseDigest 75 = .ok (.aload_n 0, 1) := by decide +kernel
theorem d_R_houseDigest_76 : decode b_R_houseDigest 76 = .ok (.bipush 9, 2) := by decide +kernel
theorem d_R_houseDigest_78 : decode b_R_houseDigest 78 = .ok (.iload_n 3, 1) := by decide +kernel
theorem d_R_houseDigest_79 : decode b_R_houseDigest 79 = .ok (.invokevirtual 201, 3) := by decide +kernel
theorem d_R_houseDigest_82 : decode b_R_houseDigest 82 = .ok (.i2l, 1) := by decide +kernel
theorem d_R_houseDigest_83 : decode b_R_houseDigest 83 = .ok (.ladd, 1) := by decide +kernel
theorem d_R_houseDigest_84 : decode b_R_houseDigest 84 = .ok (.lstore 4, 2) := by decide +kernel
theorem d_R_houseDigest_86 : decode b_R_houseDigest 86 = .ok (.ldc2_w 301, 3) := by decide +kernel
theorem d_R_houseDigest_89 : decode b_R_houseDigest 89 = .ok (.lload 4, 2) := by decide +kernel
theorem d_R_houseDigest_91 : decode b_R_houseDigest 91 = .ok (.lmul, 1) := by decide +kernel
theorem d_R_houseDigest_92 : decode b_R_houseDigest 92 = .ok (.aload_n 0, 1) := by decide +kernel
theorem d_R_houseDigest_93 : decode b_R_houseDigest 93 = .ok (.bipush 29, 2) := by decide +kernel
theorem d_R_houseDigest_95 : decode b_R_houseDigest 95 = .ok (.iload_n 3, 1) := by decide +kernel
theorem d_R_houseDigest_96 : decode b_R_houseDigest 96 = .ok (.invokevirtual 201, 3) := by decide +kernel
theorem d_R_houseDigest_99 : decode b_R_houseDigest 99 = .ok (.i2l, 1) := by decide +kernel
theorem d_R_houseDigest_100 : decode b_R_houseDigest 100 = .ok (.ladd, 1) := by decide +kernel
theorem d_R_houseDigest_101 : decode b_R_houseDigest 101 = .ok (.lstore 4, 2) := by decide +kernel
theorem d_R_houseDigest_103 : decode b_R_houseDigest 103 = .ok (.ldc2_w 301, 3) := by decide +kernel
theorem d_R_houseDigest_106 : decode b_R_houseDigest 106 = .ok (.lload 4, 2) := by decide +kernel
theorem d_R_houseDigest_108 : decode b_R_houseDigest 108 = .ok (.lmul, 1) := by decide +kernel
theorem d_R_houseDigest_109 : decode b_R_houseDigest 109 = .ok (.aload_n 0, 1) := by decide +kernel
theorem d_R_houseDigest_110 : decode b_R_houseDigest 110 = .ok (.iload_n 3, 1) := by decide +kernel
theorem d_R_houseDigest_111 : decode b_R_houseDigest 111 = .ok (.invokevirtual 221, 3) := by decide +kernel
theorem d_R_houseDigest_114 : decode b_R_houseDigest 114 = .ok (.i2l, 1) := by decide +kernel
theorem d_R_houseDigest_115 : decode b_R_houseDigest 115 = .ok (.ladd, 1) := by decide +kernel
theorem d_R_houseDigest_116 : decode b_R_houseDigest 116 = .ok (.lstore 4, 2) := by decide +kernel
theorem d_R_houseDigest_118 : decode b_R_houseDigest 118 = .ok (.iconst 0, 1) := by decide +kernel
theorem d_R_houseDigest_119 : decode b_R_houseDigest 119 = .ok (.istore 6, 2) := by decide +kernel
theorem d_R_houseDigest_121 : decode b_R_houseDigest 121 = .ok (.iload 6, 2) := by decide +kernel
theorem d_R_houseDigest_123 : decode b_R_houseDigest 123 = .ok (.iconst 3, 1) := by decide +kernel
theorem d_R_houseDigest_124 : decode b_R_houseDigest 124 = .ok (.if_icmp .ge 28, 3) := by decide +kernel
theorem d_R_houseDigest_127 : decode b_R_houseDigest 127 = .ok (.ldc2_w 301, 3) := by decide +kernel
theorem d_R_houseDigest_130 : decode b_R_houseDigest 130 = .ok (.lload 4, 2) := by decide +kernel
theorem d_R_houseDigest_132 : decode b_R_houseDigest 132 = .ok (.lmul, 1) := by decide +kernel
theorem d_R_houseDigest_133 : decode b_R_houseDigest 133 = .ok (.aload_n 0, 1) := by decide +kernel
theorem d_R_houseDigest_134 : decode b_R_houseDigest 134 = .ok (.bipush 9, 2) := by decide +kernel
theorem d_R_houseDigest_136 : decode b_R_houseDigest 136 = .ok (.iload_n 3, 1) := by decide +kernel
theorem d_R_houseDigest_137 : decode b_R_houseDigest 137 = .ok (.iload 6, 2) := by decide +kernel
theorem d_R_houseDigest_139 : decode b_R_houseDigest 139 = .ok (.invokevirtual 237, 3) := by decide +kernel
theorem d_R_houseDigest_142 : decode b_R_houseDigest 142 = .ok (.i2l, 1) := by decide +kernel
theorem d_R_houseDigest_143 : decode b_R_houseDigest 143 = .ok (.ladd, 1) := by decide +kernel
theorem d_R_houseDigest_144 : decode b_R_houseDigest 144 = .ok (.lstore 4, 2) := by decide +kernel
theorem d_R_houseDigest_146 : decode b_R_houseDigest 146 = .ok (.iinc 6 1, 3) := by decide +kernel
theorem d_R_houseDigest_149 : decode b_R_houseDigest 149 = .ok (.goto (-28), 3) := by decide +kernel
theorem d_R_houseDigest_152 : decode b_R_houseDigest 152 = .ok (.ldc2_w 301, 3) := by decide +kernel
theorem d_R_houseDigest_155 : decode b_R_houseDigest 155 = .ok (.lload 4, 2) := by decide +kernel
theorem d_R_houseDigest_157 : decode b_R_houseDigest 157 = .ok (.lmul, 1) := by decide +kernel
theorem d_R_houseDigest_158 : decode b_R_houseDigest 158 = .ok (.aload_n 0, 1) := by decide +kernel
theorem d_R_houseDigest_159 : decode b_R_houseDigest 159 = .ok (.iload_n 3, 1) := by decide +kernel
theorem d_R_houseDigest_160 : decode b_R_houseDigest 160 = .ok (.invokevirtual 262, 3) := by decide +kernel
theorem d_R_houseDigest_163 : decode b_R_houseDigest 163 = .ok (.i2l, 1) := by decide +kernel
theorem d_R_houseDigest_164 : decode b_R_houseDigest 164 = .ok (.ladd, 1) := by decide +kernel
theorem d_R_houseDigest_165 : decode b_R_houseDigest 165 = .ok (.lstore 4, 2) := by decide +kernel
theorem d_R_houseDigest_167 : decode b_R_houseDigest 167 = .ok (.ldc2_w 301, 3) := by decide +kernel
theorem d_R_houseDigest_170 : decode b_R_houseDigest 170 = .ok (.lload 4, 2) := by decide +kernel
theorem d_R_houseDigest_172 : decode b_R_houseDigest 172 = .ok (.lmul, 1) := by decide +kernel
theorem d_R_houseDigest_173 : decode b_R_houseDigest 173 = .ok (.aload_n 0, 1) := by decide +kernel
theorem d_R_houseDigest_174 : decode b_R_houseDigest 174 = .ok (.iconst 5, 1) := by decide +kernel
theorem d_R_houseDigest_175 : decode b_R_houseDigest 175 = .ok (.bipush 9, 2) := by decide +kernel
theorem d_R_houseDigest_177 : decode b_R_houseDigest 177 = .ok (.iload_n 3, 1) := by decide +kernel
theorem d_R_houseDigest_178 : decode b_R_houseDigest 178 = .ok (.iconst 0, 1) := by decide +kernel
theorem d_R_houseDigest_179 : decode b_R_houseDigest 179 = .ok (.invokevirtual 272, 3) := by decide +kernel
theorem d_R_houseDigest_182 : decode b_R_houseDigest 182 = .ok (.ladd, 1) := by decide +kernel
theorem d_R_houseDigest_183 : decode b_R_houseDigest 183 = .ok (.lstore 4, 2) := by decide +kernel
theorem d_R_houseDigest_185 : decode b_R_houseDigest 185 = .ok (.ldc2_w 301, 3) := by decide +kernel
theorem d_R_houseDigest_188 : decode b_R_houseDigest 188 = .ok (.lload 4, 2) := by decide +kernel
theorem d_R_houseDigest_190 : decode b_R_houseDigest 190 = .ok (.lmul, 1) := by decide +kernel
theorem d_R_houseDigest_191 : decode b_R_houseDigest 191 = .ok (.aload_n 0, 1) := by decide +kernel
theorem d_R_houseDigest_192 : decode b_R_houseDigest 192 = .ok (.iconst 5, 1) := by decide +kernel
theorem d_R_houseDigest_193 : decode b_R_houseDigest 193 = .ok (.bipush 9, 2) := by decide +kernel
theorem d_R_houseDigest_195 : decode b_R_houseDigest 195 = .ok (.iload_n 3, 1) := by decide +kernel
theorem d_R_houseDigest_196 : decode b_R_houseDigest 196 = .ok (.iconst 1, 1) := by decide +kernel
theorem d_R_houseDigest_197 : decode b_R_houseDigest 197 = .ok (.invokevirtual 272, 3) := by decide +kernel
theorem d_R_houseDigest_200 : decode b_R_houseDigest 200 = .ok (.ladd, 1) := by decide +kernel
theorem d_R_houseDigest_201 : decode b_R_houseDigest 201 = .ok (.lstore 4, 2) := by decide +kernel
theorem d_R_houseDigest_203 : decode b_R_houseDigest 203 = .ok (.ldc2_w 301, 3) := by decide +kernel
theorem d_R_houseDigest_206 : decode b_R_houseDigest 206 = .ok (.lload 4, 2) := by decide +kernel
theorem d_R_houseDigest_208 : decode b_R_houseDigest 208 = .ok (.lmul, 1) := by decide +kernel
theorem d_R_houseDigest_209 : decode b_R_houseDigest 209 = .ok (.aload_n 0, 1) := by decide +kernel
theorem d_R_houseDigest_210 : decode b_R_houseDigest 210 = .ok (.bipush 7, 2) := by decide +kernel
theorem d_R_houseDigest_212 : decode b_R_houseDigest 212 = .ok (.bipush 20, 2) := by decide +kernel
theorem d_R_houseDigest_214 : decode b_R_houseDigest 214 = .ok (.iload_n 3, 1) := by decide +kernel
theorem d_R_houseDigest_215 : decode b_R_houseDigest 215 = .ok (.invokevirtual 281, 3) := by decide +kernel
theorem d_R_houseDigest_218 : decode b_R_houseDigest 218 = .ok (.i2l, 1) := by decide +kernel
theorem d_R_houseDigest_219 : decode b_R_houseDigest 219 = .ok (.ladd, 1) := by decide +kernel
theorem d_R_houseDigest_220 : decode b_R_houseDigest 220 = .ok (.lreturn, 1) := by decide +kernel
theorem ql_R_301 : Cond.constantLong nC8 301 (31) ∈ tbl := tbl_in 1337 (by decide +kernel) rfl
theorem qm_R_303 : Cond.methodLink nC8 303 y_R_through ∈ tbl := tbl_in 1343 (by decide +kernel) rfl
theorem qm_R_306 : Cond.methodLink nC8 306 y_R_owes ∈ tbl := tbl_in 1344 (by decide +kernel) rfl
theorem mo_R_houseDigest : MokV y_R_houseDigest b_R_houseDigest 7 (some .long) 2 := ⟨⟨(tbl_in 1342 (by decide +kernel) rfl), (tbl_in 70 (by decide +kernel) rfl)⟩, ⟨(tbl_in 1341 (by decide +kernel) rfl), tbl_lw _ (tbl_in 59 (by decide +kernel) rfl), (tbl_in 59 (by decide +kernel) rfl)⟩, ⟨by decide +kernel, by decide +kernel⟩, by decide +kernel⟩
def b_R_houseDigest_121_ (P : Int64 → Hp → Prop)  (I121 : Hp → Int32 → Int64 → Int32 → Prop) (σ : Hp) (x3 : Int32) (x4 : Int64) (x6 : Int32) : Prop :=
  (((3 : Int32) ≤ x6 → wp_R_leakedOf σ x3 (fun (r2 : Int32) (t3 : Hp) => (∀ v4 : Int64, v4 = ((31 : Int64) * x4) + (r2.toInt64) → wp_R_courtOf t3 (5 : Int32) (9 : Int32) x3 (0 : Int32) (fun (r5 : Int64) (t6 : Hp) => (∀ v7 : Int64, v7 = ((31 : Int64) * v4) + r5 → wp_R_courtOf t6 (5 : Int32) (9 : Int32) x3 (1 : Int32) (fun (r8 : Int64) (t9 : Hp) => (∀ v10 : Int64, v10 = ((31 : Int64) * v7) + r8 → wp_R_monthOf t9 (7 : Int32) (20 : Int32) x3 (fun (r11 : Int32) (t12 : Hp) => P (((31 : Int64) * v10) + (r11.toInt64)) t12)))))))) ∧ (¬ (3 : Int32) ≤ x6 → wp_R_buildOf σ (9 : Int32) x3 x6 (fun (r13 : Int32) (t14 : Hp) => (∀ v15 : Int64, v15 = ((31 : Int64) * x4) + (r13.toInt64) → (∀ v16 : Int32, v16 = x6 + (1 : Int32) → I121 t14 x3 v15 v16)))))
def j_R_houseDigest_121 (P : Int64 → Hp → Prop)  (σ : Hp) (x3 : Int32) (x4 : Int64) (x6 : Int32) : Prop := ∀ I121 : Hp → Int32 → Int64 → Int32 → Prop, (∀ (σ : Hp) (x3 : Int32) (x4 : Int64) (x6 : Int32), b_R_houseDigest_121_  P  I121 σ x3 x4 x6 → I121 σ x3 x4 x6) → I121 σ x3 x4 x6
def b_R_houseDigest_6_ (P : Int64 → Hp → Prop)  (I6 : Hp → Int32 → Int64 → Int32 → Prop) (σ : Hp) (x3 : Int32) (x4 : Int64) (x6 : Int32) : Prop :=
  (((4 : Int32) ≤ x6 → wp_R_through σ (0 : Int32) x3 (fun (r18 : Int32) (t19 : Hp) => (∀ v20 : Int64, v20 = ((31 : Int64) * x4) + (r18.toInt64) → wp_R_owes t19 (9 : Int32) (0 : Int32) x3 (fun (r21 : Int32) (t22 : Hp) => (∀ v23 : Int64, v23 = ((31 : Int64) * v20) + (r21.toInt64) → wp_R_balanceOf t22 (9 : Int32) x3 (fun (r24 : Int32) (t25 : Hp) => (∀ v26 : Int64, v26 = ((31 : Int64) * v23) + (r24.toInt64) → wp_R_balanceOf t25 (29 : Int32) x3 (fun (r27 : Int32) (t28 : Hp) => (∀ v29 : Int64, v29 = ((31 : Int64) * v26) + (r27.toInt64) → wp_R_brokeOf t28 x3 (fun (r30 : Int32) (t31 : Hp) => (∀ v32 : Int64, v32 = ((31 : Int64) * v29) + (r30.toInt64) → j_R_houseDigest_121 P t31 x3 v32 (0 : Int32)))))))))))) ∧ (¬ (4 : Int32) ≤ x6 → wp_R_houseOf σ x3 x6 (fun (r33 : Int32) (t34 : Hp) => (∀ v35 : Int64, v35 = ((31 : Int64) * x4) + (r33.toInt64) → (∀ v36 : Int32, v36 = x6 + (1 : Int32) → I6 t34 x3 v35 v36)))))
def j_R_houseDigest_6 (P : Int64 → Hp → Prop)  (σ : Hp) (x3 : Int32) (x4 : Int64) (x6 : Int32) : Prop := ∀ I6 : Hp → Int32 → Int64 → Int32 → Prop, (∀ (σ : Hp) (x3 : Int32) (x4 : Int64) (x6 : Int32), b_R_houseDigest_6_  P  I6 σ x3 x4 x6 → I6 σ x3 x4 x6) → I6 σ x3 x4 x6
def wp_R_houseDigest (σ : Hp) (a1 : Int64) (a2 : Int32) (P : Int64 → Hp → Prop) : Prop :=
  j_R_houseDigest_6 P σ a2 a1 (0 : Int32)
set_option maxHeartbeats 4000000 in
set_option maxRecDepth 100000 in
theorem wj_R_houseDigest_121 {w : Wd} {κ : Kx} {P : Int64 → Hp → Prop} (hC : Cx μR w 7 κ nC8 b_R_houseDigest 10) (hR : RtL μR w 7 κ b_R_houseDigest P)  : ∀ (σ : Hp) (x3 : Int32) (x4 : Int64) (x6 : Int32), j_R_houseDigest_121  P  σ x3 x4 x6 → V μR w 7 κ σ [some (.ref (w.1 0)), none, none, some (.int x3), some (.long x4), none, some (.int x6)] 121 [] := by
  intro σ x3 x4 x6 h
  refine h (fun σ x3 x4 x6 => V μR w 7 κ σ [some (.ref (w.1 0)), none, none, some (.int x3), some (.long x4), none, some (.int x6)] 121 []) (fun σ x3 x4 x6 h => ?_)
  unfold b_R_houseDigest_121_ at h
  refine V.iload hC d_R_houseDigest_121 rfl ?_
  refine V.iconst (v := 3) hC d_R_houseDigest_123 (by decide) ?_
  refine V.icmp_ge (tgt := 152) hC d_R_houseDigest_124 (by decide) (fun c1 => ?_) (fun c1 => ?_)
  · replace h := h.1 c1
    refine V.ldc2 (v := 31) hC d_R_houseDigest_152 ql_R_301 ?_
    refine V.lload hC d_R_houseDigest_155 rfl ?_
    refine V.lmul hC d_R_houseDigest_157 ?_
    refine V.aload_n hC d_R_houseDigest_158 rfl rfl ?_
    refine V.iload_n hC d_R_houseDigest_159 rfl rfl ?_
    refine V.callVI hC exR (w_R_leakedOf w σ x3 _ h) d_R_houseDigest_160 mo_R_leakedOf qm_R_262 rfl rfl rfl rfl rfl rfl rfl (Nat.le_of_ble_eq_true rfl) (fun r2 t3 h => ?_)
    refine V.i2l hC d_R_houseDigest_163 ?_
    refine V.ladd hC d_R_houseDigest_164 ?_
    obtain ⟨v4, ev4⟩ : ∃ y : Int64, y = ((31 : Int64) * x4) + (r2.toInt64) := ⟨_, rfl⟩
    replace h := h v4 ev4
    refine V.lstore (y := v4) (lo' := [some (.ref (w.1 0)), none, none, some (.int x3), some (.long v4), none, some (.int x6)]) hC d_R_houseDigest_165 rfl ev4 rfl ?_
    refine V.ldc2 (v := 31) hC d_R_houseDigest_167 ql_R_301 ?_
    refine V.lload hC d_R_houseDigest_170 rfl ?_
    refine V.lmul hC d_R_houseDigest_172 ?_
    refine V.aload_n hC d_R_houseDigest_173 rfl rfl ?_
    refine V.iconst (v := 5) hC d_R_houseDigest_174 (by decide) ?_
    refine V.bipush (v := 9) hC d_R_houseDigest_175 (by decide) ?_
    refine V.iload_n hC d_R_houseDigest_177 rfl rfl ?_
    refine V.iconst (v := 0) hC d_R_houseDigest_178 (by decide) ?_
    refine V.callVL hC exR (w_R_courtOf w t3 (5 : Int32) (9 : Int32) x3 (0 : Int32) _ h) d_R_houseDigest_179 mo_R_courtOf qm_R_272 rfl rfl rfl rfl rfl rfl rfl (Nat.le_of_ble_eq_true rfl) (fun r5 t6 h => ?_)
    refine V.ladd hC d_R_houseDigest_182 ?_
    obtain ⟨v7, ev7⟩ : ∃ y : Int64, y = ((31 : Int64) * v4) + r5 := ⟨_, rfl⟩
    replace h := h v7 ev7
    refine V.lstore (y := v7) (lo' := [some (.ref (w.1 0)), none, none, some (.int x3), some (.long v7), none, some (.int x6)]) hC d_R_houseDigest_183 rfl ev7 rfl ?_
    refine V.ldc2 (v := 31) hC d_R_houseDigest_185 ql_R_301 ?_
    refine V.lload hC d_R_houseDigest_188 rfl ?_
    refine V.lmul hC d_R_houseDigest_190 ?_
    refine V.aload_n hC d_R_houseDigest_191 rfl rfl ?_
    refine V.iconst (v := 5) hC d_R_houseDigest_192 (by decide) ?_
    refine V.bipush (v := 9) hC d_R_houseDigest_193 (by decide) ?_
    refine V.iload_n hC d_R_houseDigest_195 rfl rfl ?_
    refine V.iconst (v := 1) hC d_R_houseDigest_196 (by decide) ?_
    refine V.callVL hC exR (w_R_courtOf w t6 (5 : Int32) (9 : Int32) x3 (1 : Int32) _ h) d_R_houseDigest_197 mo_R_courtOf qm_R_272 rfl rfl rfl rfl rfl rfl rfl (Nat.le_of_ble_eq_true rfl) (fun r8 t9 h => ?_)
    refine V.ladd hC d_R_houseDigest_200 ?_
    obtain ⟨v10, ev10⟩ : ∃ y : Int64, y = ((31 : Int64) * v7) + r8 := ⟨_, rfl⟩
    replace h := h v10 ev10
    refine V.lstore (y := v10) (lo' := [some (.ref (w.1 0)), none, none, some (.int x3), some (.long v10), none, some (.int x6)]) hC d_R_houseDigest_201 rfl ev10 rfl ?_
    refine V.ldc2 (v := 31) hC d_R_houseDigest_203 ql_R_301 ?_
    refine V.lload hC d_R_houseDigest_206 rfl ?_
    refine V.lmul hC d_R_houseDigest_208 ?_
    refine V.aload_n hC d_R_houseDigest_209 rfl rfl ?_
    refine V.bipush (v := 7) hC d_R_houseDigest_210 (by decide) ?_
    refine V.bipush (v := 20) hC d_R_houseDigest_212 (by decide) ?_
    refine V.iload_n hC d_R_houseDigest_214 rfl rfl ?_
    refine V.callVI hC exR (w_R_monthOf w t9 (7 : Int32) (20 : Int32) x3 _ h) d_R_houseDigest_215 mo_R_monthOf qm_R_281 rfl rfl rfl rfl rfl rfl rfl (Nat.le_of_ble_eq_true rfl) (fun r11 t12 h => ?_)
    refine V.i2l hC d_R_houseDigest_218 ?_
    refine V.ladd hC d_R_houseDigest_219 ?_
    exact hR _ _ _ _ h d_R_houseDigest_220
  · replace h := h.2 c1
    refine V.ldc2 (v := 31) hC d_R_houseDigest_127 ql_R_301 ?_
    refine V.lload hC d_R_houseDigest_130 rfl ?_
    refine V.lmul hC d_R_houseDigest_132 ?_
    refine V.aload_n hC d_R_houseDigest_133 rfl rfl ?_
    refine V.bipush (v := 9) hC d_R_houseDigest_134 (by decide) ?_
    refine V.iload_n hC d_R_houseDigest_136 rfl rfl ?_
    refine V.iload hC d_R_houseDigest_137 rfl ?_
    refine V.callVI hC exR (w_R_buildOf w σ (9 : Int32) x3 x6 _ h) d_R_houseDigest_139 mo_R_buildOf qm_R_237 rfl rfl rfl rfl rfl rfl rfl (Nat.le_of_ble_eq_true rfl) (fun r13 t14 h => ?_)
    refine V.i2l hC d_R_houseDigest_142 ?_
    refine V.ladd hC d_R_houseDigest_143 ?_
    obtain ⟨v15, ev15⟩ : ∃ y : Int64, y = ((31 : Int64) * x4) + (r13.toInt64) := ⟨_, rfl⟩
    replace h := h v15 ev15
    refine V.lstore (y := v15) (lo' := [some (.ref (w.1 0)), none, none, some (.int x3), some (.long v15), none, some (.int x6)]) hC d_R_houseDigest_144 rfl ev15 rfl ?_
    obtain ⟨v16, ev16⟩ : ∃ y : Int32, y = x6 + (1 : Int32) := ⟨_, rfl⟩
    replace h := h v16 ev16
    refine V.iinc (y := v16) (lo' := [some (.ref (w.1 0)), none, none, some (.int x3), some (.long v15), none, some (.int v16)]) hC d_R_houseDigest_146 rfl rfl (show v16 = _ + Int32.ofInt (1) from ev16) rfl ?_
    refine V.goto (tgt := 121) hC d_R_houseDigest_149 (by decide) ?_
    exact V.msk [true, false, false, true, true, false, true] rfl h
set_option maxHeartbeats 4000000 in
set_option maxRecDepth 100000 in
theorem wj_R_houseDigest_6 {w : Wd} {κ : Kx} {P : Int64 → Hp → Prop} (hC : Cx μR w 7 κ nC8 b_R_houseDigest 10) (hR : RtL μR w 7 κ b_R_houseDigest P)  : ∀ (σ : Hp) (x3 : Int32) (x4 : Int64) (x6 : Int32), j_R_houseDigest_6  P  σ x3 x4 x6 → V μR w 7 κ σ [some (.ref (w.1 0)), none, none, some (.int x3), some (.long x4), none, some (.int x6)] 6 [] := by
  intro σ x3 x4 x6 h
  refine h (fun σ x3 x4 x6 => V μR w 7 κ σ [some (.ref (w.1 0)), none, none, some (.int x3), some (.long x4), none, some (.int x6)] 6 []) (fun σ x3 x4 x6 h => ?_)
  unfold b_R_houseDigest_6_ at h
  refine V.iload hC d_R_houseDigest_6 rfl ?_
  refine V.iconst (v := 4) hC d_R_houseDigest_8 (by decide) ?_
  refine V.icmp_ge (tgt := 35) hC d_R_houseDigest_9 (by decide) (fun c17 => ?_) (fun c17 => ?_)
  · replace h := h.1 c17
    refine V.ldc2 (v := 31) hC d_R_houseDigest_35 ql_R_301 ?_
    refine V.lload hC d_R_houseDigest_38 rfl ?_
    refine V.lmul hC d_R_houseDigest_40 ?_
    refine V.aload_n hC d_R_houseDigest_41 rfl rfl ?_
    refine V.iconst (v := 0) hC d_R_houseDigest_42 (by decide) ?_
    refine V.iload_n hC d_R_houseDigest_43 rfl rfl ?_
    refine V.callVI hC exR (w_R_through w σ (0 : Int32) x3 _ h) d_R_houseDigest_44 mo_R_through qm_R_303 rfl rfl rfl rfl rfl rfl rfl (Nat.le_of_ble_eq_true rfl) (fun r18 t19 h => ?_)
    refine V.i2l hC d_R_houseDigest_47 ?_
    refine V.ladd hC d_R_houseDigest_48 ?_
    obtain ⟨v20, ev20⟩ : ∃ y : Int64, y = ((31 : Int64) * x4) + (r18.toInt64) := ⟨_, rfl⟩
    replace h := h v20 ev20
    refine V.lstore (y := v20) (lo' := [some (.ref (w.1 0)), none, none, some (.int x3), some (.long v20), none, some (.int x6)]) hC d_R_houseDigest_49 rfl ev20 rfl ?_
    refine V.ldc2 (v := 31) hC d_R_houseDigest_51 ql_R_301 ?_
    refine V.lload hC d_R_houseDigest_54 rfl ?_
    refine V.lmul hC d_R_houseDigest_56 ?_
    refine V.aload_n hC d_R_houseDigest_57 rfl rfl ?_
    refine V.bipush (v := 9) hC d_R_houseDigest_58 (by decide) ?_
    refine V.iconst (v := 0) hC d_R_houseDigest_60 (by decide) ?_
    refine V.iload_n hC d_R_houseDigest_61 rfl rfl ?_
    refine V.callVI hC exR (w_R_owes w t19 (9 : Int32) (0 : Int32) x3 _ h) d_R_houseDigest_62 mo_R_owes qm_R_306 rfl rfl rfl rfl rfl rfl rfl (Nat.le_of_ble_eq_true rfl) (fun r21 t22 h => ?_)
    refine V.i2l hC d_R_houseDigest_65 ?_
    refine V.ladd hC d_R_houseDigest_66 ?_
    obtain ⟨v23, ev23⟩ : ∃ y : Int64, y = ((31 : Int64) * v20) + (r21.toInt64) := ⟨_, rfl⟩
    replace h := h v23 ev23
    refine V.lstore (y := v23) (lo' := [some (.ref (w.1 0)), none, none, some (.int x3), some (.long v23), none, some (.int x6)]) hC d_R_houseDigest_67 rfl ev23 rfl ?_
    refine V.ldc2 (v := 31) hC d_R_houseDigest_69 ql_R_301 ?_
    refine V.lload hC d_R_houseDigest_72 rfl ?_
    refine V.lmul hC d_R_houseDigest_74 ?_
    refine V.aload_n hC d_R_houseDigest_75 rfl rfl ?_
    refine V.bipush (v := 9) hC d_R_houseDigest_76 (by decide) ?_
    refine V.iload_n hC d_R_houseDigest_78 rfl rfl ?_
    refine V.callVI hC exR (w_R_balanceOf w t22 (9 : Int32) x3 _ h) d_R_houseDigest_79 mo_R_balanceOf qm_R_201 rfl rfl rfl rfl rfl rfl rfl (Nat.le_of_ble_eq_true rfl) (fun r24 t25 h => ?_)
    refine V.i2l hC d_R_houseDigest_82 ?_
    refine V.ladd hC d_R_houseDigest_83 ?_
    obtain ⟨v26, ev26⟩ : ∃ y : Int64, y = ((31 : Int64) * v23) + (r24.toInt64) := ⟨_, rfl⟩
    replace h := h v26 ev26
    refine V.lstore (y := v26) (lo' := [some (.ref (w.1 0)), none, none, some (.int x3), some (.long v26), none, some (.int x6)]) hC d_R_houseDigest_84 rfl ev26 rfl ?_
    refine V.ldc2 (v := 31) hC d_R_houseDigest_86 ql_R_301 ?_
    refine V.lload hC d_R_houseDigest_89 rfl ?_
    refine V.lmul hC d_R_houseDigest_91 ?_
    refine V.aload_n hC d_R_houseDigest_92 rfl rfl ?_
    refine V.bipush (v := 29) hC d_R_houseDigest_93 (by decide) ?_
    refine V.iload_n hC d_R_houseDigest_95 rfl rfl ?_
    refine V.callVI hC exR (w_R_balanceOf w t25 (29 : Int32) x3 _ h) d_R_houseDigest_96 mo_R_balanceOf qm_R_201 rfl rfl rfl rfl rfl rfl rfl (Nat.le_of_ble_eq_true rfl) (fun r27 t28 h => ?_)
    refine V.i2l hC d_R_houseDigest_99 ?_
    refine V.ladd hC d_R_houseDigest_100 ?_
    obtain ⟨v29, ev29⟩ : ∃ y : Int64, y = ((31 : Int64) * v26) + (r27.toInt64) := ⟨_, rfl⟩
    replace h := h v29 ev29
    refine V.lstore (y := v29) (lo' := [some (.ref (w.1 0)), none, none, some (.int x3), some (.long v29), none, some (.int x6)]) hC d_R_houseDigest_101 rfl ev29 rfl ?_
    refine V.ldc2 (v := 31) hC d_R_houseDigest_103 ql_R_301 ?_
    refine V.lload hC d_R_houseDigest_106 rfl ?_
    refine V.lmul hC d_R_houseDigest_108 ?_
    refine V.aload_n hC d_R_houseDigest_109 rfl rfl ?_
    refine V.iload_n hC d_R_houseDigest_110 rfl rfl ?_
    refine V.callVI hC exR (w_R_brokeOf w t28 x3 _ h) d_R_houseDigest_111 mo_R_brokeOf qm_R_221 rfl rfl rfl rfl rfl rfl rfl (Nat.le_of_ble_eq_true rfl) (fun r30 t31 h => ?_)
    refine V.i2l hC d_R_houseDigest_114 ?_
    refine V.ladd hC d_R_houseDigest_115 ?_
    obtain ⟨v32, ev32⟩ : ∃ y : Int64, y = ((31 : Int64) * v29) + (r30.toInt64) := ⟨_, rfl⟩
    replace h := h v32 ev32
    refine V.lstore (y := v32) (lo' := [some (.ref (w.1 0)), none, none, some (.int x3), some (.long v32), none, some (.int x6)]) hC d_R_houseDigest_116 rfl ev32 rfl ?_
    refine V.iconst (v := 0) hC d_R_houseDigest_118 (by decide) ?_
    refine V.istore (y := (0 : Int32)) (lo' := [some (.ref (w.1 0)), none, none, some (.int x3), some (.long v32), none, some (.int (0 : Int32))]) hC d_R_houseDigest_119 rfl rfl rfl ?_
    exact V.msk [true, false, false, true, true, false, true] rfl (wj_R_houseDigest_121  hC hR  t31 x3 v32 (0 : Int32) h)
  · replace h := h.2 c17
    refine V.ldc2 (v := 31) hC d_R_houseDigest_12 ql_R_301 ?_
    refine V.lload hC d_R_houseDigest_15 rfl ?_
    refine V.lmul hC d_R_houseDigest_17 ?_
    refine V.aload_n hC d_R_houseDigest_18 rfl rfl ?_
    refine V.iload_n hC d_R_houseDigest_19 rfl rfl ?_
    refine V.iload hC d_R_houseDigest_20 rfl ?_
    refine V.callVI hC exR (w_R_houseOf w σ x3 x6 _ h) d_R_houseDigest_22 mo_R_houseOf qm_R_145 rfl rfl rfl rfl rfl rfl rfl (Nat.le_of_ble_eq_true rfl) (fun r33 t34 h => ?_)
    refine V.i2l hC d_R_houseDigest_25 ?_
    refine V.ladd hC d_R_houseDigest_26 ?_
    obtain ⟨v35, ev35⟩ : ∃ y : Int64, y = ((31 : Int64) * x4) + (r33.toInt64) := ⟨_, rfl⟩
    replace h := h v35 ev35
    refine V.lstore (y := v35) (lo' := [some (.ref (w.1 0)), none, none, some (.int x3), some (.long v35), none, some (.int x6)]) hC d_R_houseDigest_27 rfl ev35 rfl ?_
    obtain ⟨v36, ev36⟩ : ∃ y : Int32, y = x6 + (1 : Int32) := ⟨_, rfl⟩
    replace h := h v36 ev36
    refine V.iinc (y := v36) (lo' := [some (.ref (w.1 0)), none, none, some (.int x3), some (.long v35), none, some (.int v36)]) hC d_R_houseDigest_29 rfl rfl (show v36 = _ + Int32.ofInt (1) from ev36) rfl ?_
    refine V.goto (tgt := 6) hC d_R_houseDigest_32 (by decide) ?_
    exact V.msk [true, false, false, true, true, false, true] rfl h
set_option maxHeartbeats 4000000 in
set_option maxRecDepth 100000 in
theorem w_R_houseDigest (w : Wd) (σ : Hp) (a1 : Int64) (a2 : Int32) (P : Int64 → Hp → Prop) (h : wp_R_houseDigest σ a1 a2 P) : CtL μR w y_R_houseDigest b_R_houseDigest 7 (some .long) 10 [.ref (w.1 0), .long a1, .int a2] σ P := by
  unfold wp_R_houseDigest at h
  refine CtL.ofV (C := nC8) (lo := [some (.ref (w.1 0)), some (.long a1), none, some (.int a2), none, none, none]) exR (by decide +kernel) rfl rfl rfl (fun κ hC hR => ?_)
  refine V.lload_n hC d_R_houseDigest_0 rfl rfl ?_
  refine V.lstore (y := a1) (lo' := [some (.ref (w.1 0)), some (.long a1), none, some (.int a2), some (.long a1), none, none]) hC d_R_houseDigest_1 rfl rfl rfl ?_
  refine V.iconst (v := 0) hC d_R_houseDigest_3 (by decide) ?_
  refine V.istore (y := (0 : Int32)) (lo' := [some (.ref (w.1 0)), some (.long a1), none, some (.int a2), some (.long a1), none, some (.int (0 : Int32))]) hC d_R_houseDigest_4 rfl rfl rfl ?_
  exact V.msk [true, false, false, true, true, false, true] rfl (wj_R_houseDigest_6  hC hR  σ a2 a1 (0 : Int32) h)
abbrev b_R_dayDigest : ByteArray := prog_10_method_94_code
def y_R_dayDigest : MethodName := ⟨nC8, "dayDigest", "(JI)J"⟩
theorem d_R_dayDigest_0 : decode b_R_dayDigest 0 = .ok (.ldc2_w 301, 3) := by decide +kernel
theorem d_R_dayDigest_3 : decode b_R_dayDigest 3 = .ok (.lload_n 1, 1) := by decide +kernel
theorem d_R_dayDigest_4 : decode b_R_dayDigest 4 = .ok (.lmul, 1) := by decide +kernel
theorem d_R_dayDigest_5 : decode b_R_dayDigest 5 = .ok (.aload_n 0, 1) := by decide +kernel
theorem d_R_dayDigest_6 : decode b_R_dayDigest 6 = .ok (.iload_n 3, 1) := by decide +kernel
theorem d_R_dayDigest_7 : decode b_R_dayDigest 7 = .ok (.invokevirtual 212, 3) := by decide +kernel
theorem d_R_dayDigest_10 : decode b_R_dayDigest 10 = .ok (.i2l, 1) := by decide +kernel
theorem d_R_dayDigest_11 : decode b_R_dayDigest 11 = .ok (.ladd, 1) := by decide +kernel
theorem d_R_dayDigest_12 : decode b_R_dayDigest 12 = .ok (.lstore 4, 2) := by decide +kernel
theorem d_R_dayDigest_14 : decode b_R_dayDigest 14 = .ok (.ldc2_w 301, 3) := by decide +kernel
theorem d_R_dayDigest_17 : decode b_R_dayDigest 17 = .ok (.lload 4, 2) := by decide +kernel
theorem d_R_dayDigest_19 : decode b_R_dayDigest 19 = .ok (.lmul, 1) := by decide +kernel
theorem d_R_dayDigest_20 : decode b_R_dayDigest 20 = .ok (.aload_n 0, 1) := by decide +kernel
theorem d_R_dayDigest_21 : decode b_R_dayDigest 21 = .ok (.iload_n 3, 1) := by decide +kernel
theorem d_R_dayDigest_22 : decode b_R_dayDigest 22 = .ok (.invokevirtual 224, 3) := by decide +kernel
theorem d_R_dayDigest_25 : decode b_R_dayDigest 25 = .ok (.i2l, 1) := by decide +kernel
theorem d_R_dayDigest_26 : decode b_R_dayDigest 26 = .ok (.ladd, 1) := by decide +kernel
theorem d_R_dayDigest_27 : decode b_R_dayDigest 27 = .ok (.lstore 4, 2) := by decide +kernel
theorem d_R_dayDigest_29 : decode b_R_dayDigest 29 = .ok (.ldc2_w 301, 3) := by decide +kernel
theorem d_R_dayDigest_32 : decode b_R_dayDigest 32 = .ok (.lload 4, 2) := by decide +kernel
theorem d_R_dayDigest_34 : decode b_R_dayDigest 34 = .ok (.lmul, 1) := by decide +kernel
theorem d_R_dayDigest_35 : decode b_R_dayDigest 35 = .ok (.aload_n 0, 1) := by decide +kernel
theorem d_R_dayDigest_36 : decode b_R_dayDigest 36 = .ok (.iload_n 3, 1) := by decide +kernel
theorem d_R_dayDigest_37 : decode b_R_dayDigest 37 = .ok (.invokevirtual 227, 3) := by decide +kernel
theorem d_R_dayDigest_40 : decode b_R_dayDigest 40 = .ok (.i2l, 1) := by decide +kernel
theorem d_R_dayDigest_41 : decode b_R_dayDigest 41 = .ok (.ladd, 1) := by decide +kernel
theorem d_R_dayDigest_42 : decode b_R_dayDigest 42 = .ok (.lstore 4, 2) := by decide +kernel
theorem d_R_dayDigest_44 : decode b_R_dayDigest 44 = .ok (.ldc2_w 301, 3) := by decide +kernel
theorem d_R_dayDigest_47 : decode b_R_dayDigest 47 = .ok (.lload 4, 2) := by decide +kernel
theorem d_R_dayDigest_49 : decode b_R_dayDigest 49 = .ok (.lmul, 1) := by decide +kernel
theorem d_R_dayDigest_50 : decode b_R_dayDigest 50 = .ok (.aload_n 0, 1) := by decide +kernel
theorem d_R_dayDigest_51 : decode b_R_dayDigest 51 = .ok (.iload_n 3, 1) := by decide +kernel
theorem d_R_dayDigest_52 : decode b_R_dayDigest 52 = .ok (.iconst 0, 1) := by decide +kernel
theorem d_R_dayDigest_53 : decode b_R_dayDigest 53 = .ok (.invokevirtual 233, 3) := by decide +kernel
theorem d_R_dayDigest_56 : decode b_R_dayDigest 56 = .ok (.i2l, 1) := by decide +kernel
theorem d_R_dayDigest_57 : decode b_R_dayDigest 57 = .ok (.ladd, 1) := by decide +kernel
theorem d_R_dayDigest_58 : decode b_R_dayDigest 58 = .ok (.lstore 4, 2) := by decide +kernel
theorem d_R_dayDigest_60 : decode b_R_dayDigest 60 = .ok (.ldc2_w 301, 3) := by decide +kernel
theorem d_R_dayDigest_63 : decode b_R_dayDigest 63 = .ok (.lload 4, 2) := by decide +kernel
theorem d_R_dayDigest_65 : decode b_R_dayDigest 65 = .ok (.lmul, 1) := by decide +kernel
theorem d_R_dayDigest_66 : decode b_R_dayDigest 66 = .ok (.aload_n 0, 1) := by decide +kernel
theorem d_R_dayDigest_67 : decode b_R_dayDigest 67 = .ok (.iload_n 3, 1) := by decide +kernel
theorem d_R_dayDigest_68 : decode b_R_dayDigest 68 = .ok (.iconst 1, 1) := by decide +kernel
theorem d_R_dayDigest_69 : decode b_R_dayDigest 69 = .ok (.invokevirtual 233, 3) := by decide +kernel
theorem d_R_dayDigest_72 : decode b_R_dayDigest 72 = .ok (.i2l, 1) := by decide +kernel
theorem d_R_dayDigest_73 : decode b_R_dayDigest 73 = .ok (.ladd, 1) := by decide +kernel
theorem d_R_dayDigest_74 : decode b_R_dayDigest 74 = .ok (.lstore 4, 2) := by decide +kernel
theorem d_R_dayDigest_76 : decode b_R_dayDigest 76 = .ok (.aload_n 0, 1) := by decide +kernel
theorem d_R_dayDigest_77 : decode b_R_dayDigest 77 = .ok (.iload_n 3, 1) := by decide +kernel
theorem d_R_dayDigest_78 : decode b_R_dayDigest 78 = .ok (.invokevirtual 246, 3) := by decide +kernel
theorem d_R_dayDigest_81 : decode b_R_dayDigest 81 = .ok (.istore 6, 2) := by decide +kernel
theorem d_R_dayDigest_83 : decode b_R_dayDigest 83 = .ok (.ldc2_w 301, 3) := by decide +kernel
theorem d_R_dayDigest_86 : decode b_R_dayDigest 86 = .ok (.lload 4, 2) := by decide +kernel
theorem d_R_dayDigest_88 : decode b_R_dayDigest 88 = .ok (.lmul, 1) := by decide +kernel
theorem d_R_dayDigest_89 : decode b_R_dayDigest 89 = .ok (.iload 6, 2) := by decide +kernel
theorem d_R_dayDigest_91 : decode b_R_dayDigest 91 = .ok (.i2l, 1) := by decide +kernel
theorem d_R_dayDigest_92 : decode b_R_dayDigest 92 = .ok (.ladd, 1) := by decide +kernel
theorem d_R_dayDigest_93 : decode b_R_dayDigest 93 = .ok (.lstore 4, 2) := by decide +kernel
theorem d_R_dayDigest_95 : decode b_R_dayDigest 95 = .ok (.ldc2_w 301, 3) := by decide +kernel
theorem d_R_dayDigest_98 : decode b_R_dayDigest 98 = .ok (.lload 4, 2) := by decide +kernel
theorem d_R_dayDigest_100 : decode b_R_dayDigest 100 = .ok (.lmul, 1) := by decide +kernel
theorem d_R_dayDigest_101 : decode b_R_dayDigest 101 = .ok (.aload_n 0, 1) := by decide +kernel
theorem d_R_dayDigest_102 : decode b_R_dayDigest 102 = .ok (.iload 6, 2) := by decide +kernel
theorem d_R_dayDigest_104 : decode b_R_dayDigest 104 = .ok (.iconst 0, 1) := by decide +kernel
theorem d_R_dayDigest_105 : decode b_R_dayDigest 105 = .ok (.invokevirtual 249, 3) := by decide +kernel
theorem d_R_dayDigest_108 : decode b_R_dayDigest 108 = .ok (.i2l, 1) := by decide +kernel
theorem d_R_dayDigest_109 : decode b_R_dayDigest 109 = .ok (.ladd, 1) := by decide +kernel
theorem d_R_dayDigest_110 : decode b_R_dayDigest 110 = .ok (.lstore 4, 2) := by decide +kernel
theorem d_R_dayDigest_112 : decode b_R_dayDigest 112 = .ok (.ldc2_w 301, 3) := by decide +kernel
theorem d_R_dayDigest_115 : decode b_R_dayDigest 115 = .ok (.lload 4, 2) := by decide +kernel
theorem d_R_dayDigest_117 : decode b_R_dayDigest 117 = .ok (.lmul, 1) := by decide +kernel
theorem d_R_dayDigest_118 : decode b_R_dayDigest 118 = .ok (.aload_n 0, 1) := by decide +kernel
theorem d_R_dayDigest_119 : decode b_R_dayDigest 119 = .ok (.iload_n 3, 1) := by decide +kernel
theorem d_R_dayDigest_120 : decode b_R_dayDigest 120 = .ok (.invokevirtual 265, 3) := by decide +kernel
theorem d_R_dayDigest_123 : decode b_R_dayDigest 123 = .ok (.i2l, 1) := by decide +kernel
theorem d_R_dayDigest_124 : decode b_R_dayDigest 124 = .ok (.ladd, 1) := by decide +kernel
theorem d_R_dayDigest_125 : decode b_R_dayDigest 125 = .ok (.lreturn, 1) := by decide +kernel
theorem mo_R_dayDigest : MokV y_R_dayDigest b_R_dayDigest 7 (some .long) 2 := ⟨⟨(tbl_in 1348 (by decide +kernel) rfl), (tbl_in 70 (by decide +kernel) rfl)⟩, ⟨(tbl_in 1347 (by decide +kernel) rfl), tbl_lw _ (tbl_in 60 (by decide +kernel) rfl), (tbl_in 60 (by decide +kernel) rfl)⟩, ⟨by decide +kernel, by decide +kernel⟩, by decide +kernel⟩
def wp_R_dayDigest (σ : Hp) (a1 : Int64) (a2 : Int32) (P : Int64 → Hp → Prop) : Prop :=
  wp_R_coinOf σ a2 (fun (r1 : Int32) (t2 : Hp) => (∀ v3 : Int64, v3 = ((31 : Int64) * a1) + (r1.toInt64) → wp_R_richestOf t2 a2 (fun (r4 : Int32) (t5 : Hp) => (∀ v6 : Int64, v6 = ((31 : Int64) * v3) + (r4.toInt64) → wp_R_paymentsOf t5 a2 (fun (r7 : Int32) (t8 : Hp) => (∀ v9 : Int64, v9 = ((31 : Int64) * v6) + (r7.toInt64) → wp_R_ringsOf t8 a2 (0 : Int32) (fun (r10 : Int32) (t11 : Hp) => (∀ v12 : Int64, v12 = ((31 : Int64) * v9) + (r10.toInt64) → wp_R_ringsOf t11 a2 (1 : Int32) (fun (r13 : Int32) (t14 : Hp) => (∀ v15 : Int64, v15 = ((31 : Int64) * v12) + (r13.toInt64) → wp_R_dropBy t14 a2 (fun (r16 : Int32) (t17 : Hp) => (∀ v18 : Int64, v18 = ((31 : Int64) * v15) + (r16.toInt64) → wp_R_ofRow t17 r16 (0 : Int32) (fun (r19 : Int32) (t20 : Hp) => (∀ v21 : Int64, v21 = ((31 : Int64) * v18) + (r19.toInt64) → wp_R_askOf t20 a2 (fun (r22 : Int32) (t23 : Hp) => P (((31 : Int64) * v21) + (r22.toInt64)) t23)))))))))))))))
set_option maxHeartbeats 4000000 in
set_option maxRecDepth 100000 in
theorem w_R_dayDigest (w : Wd) (σ : Hp) (a1 : Int64) (a2 : Int32) (P : Int64 → Hp → Prop) (h : wp_R_dayDigest σ a1 a2 P) : CtL μR w y_R_dayDigest b_R_dayDigest 7 (some .long) 9 [.ref (w.1 0), .long a1, .int a2] σ P := by
  unfold wp_R_dayDigest at h
  refine CtL.ofV (C := nC8) (lo := [some (.ref (w.1 0)), some (.long a1), none, some (.int a2), none, none, none]) exR (by decide +kernel) rfl rfl rfl (fun κ hC hR => ?_)
  refine V.ldc2 (v := 31) hC d_R_dayDigest_0 ql_R_301 ?_
  refine V.lload_n hC d_R_dayDigest_3 rfl rfl ?_
  refine V.lmul hC d_R_dayDigest_4 ?_
  refine V.aload_n hC d_R_dayDigest_5 rfl rfl ?_
  refine V.iload_n hC d_R_dayDigest_6 rfl rfl ?_
  refine V.callVI hC exR (w_R_coinOf w σ a2 _ h) d_R_dayDigest_7 mo_R_coinOf qm_R_212 rfl rfl rfl rfl rfl rfl rfl (Nat.le_of_ble_eq_true rfl) (fun r1 t2 h => ?_)
  refine V.i2l hC d_R_dayDigest_10 ?_
  refine V.ladd hC d_R_dayDigest_11 ?_
  obtain ⟨v3, ev3⟩ : ∃ y : Int64, y = ((31 : Int64) * a1) + (r1.toInt64) := ⟨_, rfl⟩
  replace h := h v3 ev3
  refine V.lstore (y := v3) (lo' := [some (.ref (w.1 0)), some (.long a1), none, some (.int a2), some (.long v3), none, none]) hC d_R_dayDigest_12 rfl ev3 rfl ?_
  refine V.ldc2 (v := 31) hC d_R_dayDigest_14 ql_R_301 ?_
  refine V.lload hC d_R_dayDigest_17 rfl ?_
  refine V.lmul hC d_R_dayDigest_19 ?_
  refine V.aload_n hC d_R_dayDigest_20 rfl rfl ?_
  refine V.iload_n hC d_R_dayDigest_21 rfl rfl ?_
  refine V.callVI hC exR (w_R_richestOf w t2 a2 _ h) d_R_dayDigest_22 mo_R_richestOf qm_R_224 rfl rfl rfl rfl rfl rfl rfl (Nat.le_of_ble_eq_true rfl) (fun r4 t5 h => ?_)
  refine V.i2l hC d_R_dayDigest_25 ?_
  refine V.ladd hC d_R_dayDigest_26 ?_
  obtain ⟨v6, ev6⟩ : ∃ y : Int64, y = ((31 : Int64) * v3) + (r4.toInt64) := ⟨_, rfl⟩
  replace h := h v6 ev6
  refine V.lstore (y := v6) (lo' := [some (.ref (w.1 0)), some (.long a1), none, some (.int a2), some (.long v6), none, none]) hC d_R_dayDigest_27 rfl ev6 rfl ?_
  refine V.ldc2 (v := 31) hC d_R_dayDigest_29 ql_R_301 ?_
  refine V.lload hC d_R_dayDigest_32 rfl ?_
  refine V.lmul hC d_R_dayDigest_34 ?_
  refine V.aload_n hC d_R_dayDigest_35 rfl rfl ?_
  refine V.iload_n hC d_R_dayDigest_36 rfl rfl ?_
  refine V.callVI hC exR (w_R_paymentsOf w t5 a2 _ h) d_R_dayDigest_37 mo_R_paymentsOf qm_R_227 rfl rfl rfl rfl rfl rfl rfl (Nat.le_of_ble_eq_true rfl) (fun r7 t8 h => ?_)
  refine V.i2l hC d_R_dayDigest_40 ?_
  refine V.ladd hC d_R_dayDigest_41 ?_
  obtain ⟨v9, ev9⟩ : ∃ y : Int64, y = ((31 : Int64) * v6) + (r7.toInt64) := ⟨_, rfl⟩
  replace h := h v9 ev9
  refine V.lstore (y := v9) (lo' := [some (.ref (w.1 0)), some (.long a1), none, some (.int a2), some (.long v9), none, none]) hC d_R_dayDigest_42 rfl ev9 rfl ?_
  refine V.ldc2 (v := 31) hC d_R_dayDigest_44 ql_R_301 ?_
  refine V.lload hC d_R_dayDigest_47 rfl ?_
  refine V.lmul hC d_R_dayDigest_49 ?_
  refine V.aload_n hC d_R_dayDigest_50 rfl rfl ?_
  refine V.iload_n hC d_R_dayDigest_51 rfl rfl ?_
  refine V.iconst (v := 0) hC d_R_dayDigest_52 (by decide) ?_
  refine V.callVI hC exR (w_R_ringsOf w t8 a2 (0 : Int32) _ h) d_R_dayDigest_53 mo_R_ringsOf qm_R_233 rfl rfl rfl rfl rfl rfl rfl (Nat.le_of_ble_eq_true rfl) (fun r10 t11 h => ?_)
  refine V.i2l hC d_R_dayDigest_56 ?_
  refine V.ladd hC d_R_dayDigest_57 ?_
  obtain ⟨v12, ev12⟩ : ∃ y : Int64, y = ((31 : Int64) * v9) + (r10.toInt64) := ⟨_, rfl⟩
  replace h := h v12 ev12
  refine V.lstore (y := v12) (lo' := [some (.ref (w.1 0)), some (.long a1), none, some (.int a2), some (.long v12), none, none]) hC d_R_dayDigest_58 rfl ev12 rfl ?_
  refine V.ldc2 (v := 31) hC d_R_dayDigest_60 ql_R_301 ?_
  refine V.lload hC d_R_dayDigest_63 rfl ?_
  refine V.lmul hC d_R_dayDigest_65 ?_
  refine V.aload_n hC d_R_dayDigest_66 rfl rfl ?_
  refine V.iload_n hC d_R_dayDigest_67 rfl rfl ?_
  refine V.iconst (v := 1) hC d_R_dayDigest_68 (by decide) ?_
  refine V.callVI hC exR (w_R_ringsOf w t11 a2 (1 : Int32) _ h) d_R_dayDigest_69 mo_R_ringsOf qm_R_233 rfl rfl rfl rfl rfl rfl rfl (Nat.le_of_ble_eq_true rfl) (fun r13 t14 h => ?_)
  refine V.i2l hC d_R_dayDigest_72 ?_
  refine V.ladd hC d_R_dayDigest_73 ?_
  obtain ⟨v15, ev15⟩ : ∃ y : Int64, y = ((31 : Int64) * v12) + (r13.toInt64) := ⟨_, rfl⟩
  replace h := h v15 ev15
  refine V.lstore (y := v15) (lo' := [some (.ref (w.1 0)), some (.long a1), none, some (.int a2), some (.long v15), none, none]) hC d_R_dayDigest_74 rfl ev15 rfl ?_
  refine V.aload_n hC d_R_dayDigest_76 rfl rfl ?_
  refine V.iload_n hC d_R_dayDigest_77 rfl rfl ?_
  refine V.callVI hC exR (w_R_dropBy w t14 a2 _ h) d_R_dayDigest_78 mo_R_dropBy qm_R_246 rfl rfl rfl rfl rfl rfl rfl (Nat.le_of_ble_eq_true rfl) (fun r16 t17 h => ?_)
  refine V.istore (y := r16) (lo' := [some (.ref (w.1 0)), some (.long a1), none, some (.int a2), some (.long v15), none, some (.int r16)]) hC d_R_dayDigest_81 rfl rfl rfl ?_
  refine V.ldc2 (v := 31) hC d_R_dayDigest_83 ql_R_301 ?_
  refine V.lload hC d_R_dayDigest_86 rfl ?_
  refine V.lmul hC d_R_dayDigest_88 ?_
  refine V.iload hC d_R_dayDigest_89 rfl ?_
  refine V.i2l hC d_R_dayDigest_91 ?_
  refine V.ladd hC d_R_dayDigest_92 ?_
  obtain ⟨v18, ev18⟩ : ∃ y : Int64, y = ((31 : Int64) * v15) + (r16.toInt64) := ⟨_, rfl⟩
  replace h := h v18 ev18
  refine V.lstore (y := v18) (lo' := [some (.ref (w.1 0)), some (.long a1), none, some (.int a2), some (.long v18), none, some (.int r16)]) hC d_R_dayDigest_93 rfl ev18 rfl ?_
  refine V.ldc2 (v := 31) hC d_R_dayDigest_95 ql_R_301 ?_
  refine V.lload hC d_R_dayDigest_98 rfl ?_
  refine V.lmul hC d_R_dayDigest_100 ?_
  refine V.aload_n hC d_R_dayDigest_101 rfl rfl ?_
  refine V.iload hC d_R_dayDigest_102 rfl ?_
  refine V.iconst (v := 0) hC d_R_dayDigest_104 (by decide) ?_
  refine V.callVI hC exR (w_R_ofRow w t17 r16 (0 : Int32) _ h) d_R_dayDigest_105 mo_R_ofRow qm_R_249 rfl rfl rfl rfl rfl rfl rfl (Nat.le_of_ble_eq_true rfl) (fun r19 t20 h => ?_)
  refine V.i2l hC d_R_dayDigest_108 ?_
  refine V.ladd hC d_R_dayDigest_109 ?_
  obtain ⟨v21, ev21⟩ : ∃ y : Int64, y = ((31 : Int64) * v18) + (r19.toInt64) := ⟨_, rfl⟩
  replace h := h v21 ev21
  refine V.lstore (y := v21) (lo' := [some (.ref (w.1 0)), some (.long a1), none, some (.int a2), some (.long v21), none, some (.int r16)]) hC d_R_dayDigest_110 rfl ev21 rfl ?_
  refine V.ldc2 (v := 31) hC d_R_dayDigest_112 ql_R_301 ?_
  refine V.lload hC d_R_dayDigest_115 rfl ?_
  refine V.lmul hC d_R_dayDigest_117 ?_
  refine V.aload_n hC d_R_dayDigest_118 rfl rfl ?_
  refine V.iload_n hC d_R_dayDigest_119 rfl rfl ?_
  refine V.callVI hC exR (w_R_askOf w t20 a2 _ h) d_R_dayDigest_120 mo_R_askOf qm_R_265 rfl rfl rfl rfl rfl rfl rfl (Nat.le_of_ble_eq_true rfl) (fun r22 t23 h => ?_)
  refine V.i2l hC d_R_dayDigest_123 ?_
  refine V.ladd hC d_R_dayDigest_124 ?_
  exact hR _ _ _ _ h d_R_dayDigest_125
abbrev b_R_digest : ByteArray := prog_10_method_95_code
def y_R_digest : MethodName := ⟨nC8, "digest", "()J"⟩
theorem d_R_digest_0 : decode b_R_digest 0 = .ok (.ldc2_w 309, 3) := by decide +kernel
theorem d_R_digest_3 : decode b_R_digest 3 = .ok (.lstore_n 1, 1) := by decide +kernel
theorem d_R_digest_4 : decode b_R_digest 4 = .ok (.iconst 0, 1) := by decide +kernel
theorem d_R_digest_5 : decode b_R_digest 5 = .ok (.istore_n 3, 1) := by decide +kernel
theorem d_R_digest_6 : decode b_R_digest 6 = .ok (.iload_n 3, 1) := by decide +kernel
theorem d_R_digest_7 : decode b_R_digest 7 = .ok (.bipush 8, 2) := by decide +kernel
theorem d_R_digest_9 : decode b_R_digest 9 = .ok (.if_icmp .ge 22, 3) := by decide +kernel
theorem d_R_digest_12 : decode b_R_digest 12 = .ok (.ldc2_w 301, 3) := by decide +kernel
theorem d_R_digest_15 : decode b_R_digest 15 = .ok (.lload_n 1, 1) := by decide +kernel
theorem d_R_digest_16 : decode b_R_digest 16 = .ok (.lmul, 1) := by decide +kernel
theorem d_R_digest_17 : decode b_R_digest 17 = .ok (.aload_n 0, 1) := by decide +kernel
theorem d_R_digest_18 : decode b_R_digest 18 = .ok (.iload_n 3, 1) := by decide +kernel
theorem d_R_digest_19 : decode b_R_digest 19 = .ok (.invokevirtual 311, 3) := by decide +kernel
theorem d_R_digest_22 : decode b_R_digest 22 = .ok (.i2l, 1) := by decide +kernel
theorem d_R_digest_23 : decode b_R_digest 23 = .ok (.ladd, 1) := by decide +kernel
theorem d_R_digest_24 : decode b_R_digest 24 = .ok (.lstore_n 1, 1) := by decide +kernel
theorem d_R_digest_25 : decode b_R_digest 25 = .ok (.iinc 3 1, 3) := by decide +kernel
theorem d_R_digest_28 : decode b_R_digest 28 = .ok (.goto (-22), 3) := by decide +kernel
theorem d_R_digest_31 : decode b_R_digest 31 = .ok (.ldc2_w 301, 3) := by decide +kernel
theorem d_R_digest_34 : decode b_R_digest 34 = .ok (.lload_n 1, 1) := by decide +kernel
theorem d_R_digest_35 : decode b_R_digest 35 = .ok (.lmul, 1) := by decide +kernel
theorem d_R_digest_36 : decode b_R_digest 36 = .ok (.aload_n 0, 1) := by decide +kernel
theorem d_R_digest_37 : decode b_R_digest 37 = .ok (.iconst 0, 1) := by decide +kernel
theorem d_R_digest_38 : decode b_R_digest 38 = .ok (.invokevirtual 136, 3) := by decide +kernel
theorem d_R_digest_41 : decode b_R_digest 41 = .ok (.i2l, 1) := by decide +kernel
theorem d_R_digest_42 : decode b_R_digest 42 = .ok (.ladd, 1) := by decide +kernel
theorem d_R_digest_43 : decode b_R_digest 43 = .ok (.lstore_n 1, 1) := by decide +kernel
theorem d_R_digest_44 : decode b_R_digest 44 = .ok (.ldc2_w 301, 3) := by decide +kernel
theorem d_R_digest_47 : decode b_R_digest 47 = .ok (.lload_n 1, 1) := by decide +kernel
theorem d_R_digest_48 : decode b_R_digest 48 = .ok (.lmul, 1) := by decide +kernel
theorem d_R_digest_49 : decode b_R_digest 49 = .ok (.aload_n 0, 1) := by decide +kernel
theorem d_R_digest_50 : decode b_R_digest 50 = .ok (.iconst 1, 1) := by decide +kernel
theorem d_R_digest_51 : decode b_R_digest 51 = .ok (.invokevirtual 136, 3) := by decide +kernel
theorem d_R_digest_54 : decode b_R_digest 54 = .ok (.i2l, 1) := by decide +kernel
theorem d_R_digest_55 : decode b_R_digest 55 = .ok (.ladd, 1) := by decide +kernel
theorem d_R_digest_56 : decode b_R_digest 56 = .ok (.lstore_n 1, 1) := by decide +kernel
theorem d_R_digest_57 : decode b_R_digest 57 = .ok (.iconst 0, 1) := by decide +kernel
theorem d_R_digest_58 : decode b_R_digest 58 = .ok (.istore_n 3, 1) := by decide +kernel
theorem d_R_digest_59 : decode b_R_digest 59 = .ok (.iload_n 3, 1) := by decide +kernel
theorem d_R_digest_60 : decode b_R_digest 60 = .ok (.aload_n 0, 1) := by decide +kernel
theorem d_R_digest_61 : decode b_R_digest 61 = .ok (.getfield 116, 3) := by decide +kernel
theorem d_R_digest_64 : decode b_R_digest 64 = .ok (.if_icmp .ge 16, 3) := by decide +kernel
theorem d_R_digest_67 : decode b_R_digest 67 = .ok (.aload_n 0, 1) := by decide +kernel
theorem d_R_digest_68 : decode b_R_digest 68 = .ok (.lload_n 1, 1) := by decide +kernel
theorem d_R_digest_69 : decode b_R_digest 69 = .ok (.iload_n 3, 1) := by decide +kernel
theorem d_R_digest_70 : decode b_R_digest 70 = .ok (.invokevirtual 314, 3) := by decide +kernel
theorem d_R_digest_73 : decode b_R_digest 73 = .ok (.lstore_n 1, 1) := by decide +kernel
theorem d_R_digest_74 : decode b_R_digest 74 = .ok (.iinc 3 1, 3) := by decide +kernel
theorem d_R_digest_77 : decode b_R_digest 77 = .ok (.goto (-18), 3) := by decide +kernel
theorem d_R_digest_80 : decode b_R_digest 80 = .ok (.iconst 0, 1) := by decide +kernel
theorem d_R_digest_81 : decode b_R_digest 81 = .ok (.istore_n 3, 1) := by decide +kernel
theorem d_R_digest_82 : decode b_R_digest 82 = .ok (.iload_n 3, 1) := by decide +kernel
theorem d_R_digest_83 : decode b_R_digest 83 = .ok (.iconst 3, 1) := by decide +kernel
theorem d_R_digest_84 : decode b_R_digest 84 = .ok (.if_icmp .ge 54, 3) := by decide +kernel
theorem d_R_digest_87 : decode b_R_digest 87 = .ok (.ldc2_w 301, 3) := by decide +kernel
theorem d_R_digest_90 : decode b_R_digest 90 = .ok (.lload_n 1, 1) := by decide +kernel
theorem d_R_digest_91 : decode b_R_digest 91 = .ok (.lmul, 1) := by decide +kernel
theorem d_R_digest_92 : decode b_R_digest 92 = .ok (.aload_n 0, 1) := by decide +kernel
theorem d_R_digest_93 : decode b_R_digest 93 = .ok (.iload_n 3, 1) := by decide +kernel
theorem d_R_digest_94 : decode b_R_digest 94 = .ok (.invokevirtual 148, 3) := by decide +kernel
theorem d_R_digest_97 : decode b_R_digest 97 = .ok (.i2l, 1) := by decide +kernel
theorem d_R_digest_98 : decode b_R_digest 98 = .ok (.ladd, 1) := by decide +kernel
theorem d_R_digest_99 : decode b_R_digest 99 = .ok (.lstore_n 1, 1) := by decide +kernel
theorem d_R_digest_100 : decode b_R_digest 100 = .ok (.ldc2_w 301, 3) := by decide +kernel
theorem d_R_digest_103 : decode b_R_digest 103 = .ok (.lload_n 1, 1) := by decide +kernel
theorem d_R_digest_104 : decode b_R_digest 104 = .ok (.lmul, 1) := by decide +kernel
theorem d_R_digest_105 : decode b_R_digest 105 = .ok (.aload_n 0, 1) := by decide +kernel
theorem d_R_digest_106 : decode b_R_digest 106 = .ok (.bipush 9, 2) := by decide +kernel
theorem d_R_digest_108 : decode b_R_digest 108 = .ok (.iload_n 3, 1) := by decide +kernel
theorem d_R_digest_109 : decode b_R_digest 109 = .ok (.iconst 0, 1) := by decide +kernel
theorem d_R_digest_110 : decode b_R_digest 110 = .ok (.invokevirtual 240, 3) := by decide +kernel
theorem d_R_digest_113 : decode b_R_digest 113 = .ok (.i2l, 1) := by decide +kernel
theorem d_R_digest_114 : decode b_R_digest 114 = .ok (.ladd, 1) := by decide +kernel
theorem d_R_digest_115 : decode b_R_digest 115 = .ok (.lstore_n 1, 1) := by decide +kernel
theorem d_R_digest_116 : decode b_R_digest 116 = .ok (.ldc2_w 301, 3) := by decide +kernel
theorem d_R_digest_119 : decode b_R_digest 119 = .ok (.lload_n 1, 1) := by decide +kernel
theorem d_R_digest_120 : decode b_R_digest 120 = .ok (.lmul, 1) := by decide +kernel
theorem d_R_digest_121 : decode b_R_digest 121 = .ok (.aload_n 0, 1) := by decide +kernel
theorem d_R_digest_122 : decode b_R_digest 122 = .ok (.bipush 9, 2) := by decide +kernel
theorem d_R_digest_124 : decode b_R_digest 124 = .ok (.iload_n 3, 1) := by decide +kernel
theorem d_R_digest_125 : decode b_R_digest 125 = .ok (.iconst 1, 1) := by decide +kernel
theorem d_R_digest_126 : decode b_R_digest 126 = .ok (.invokevirtual 240, 3) := by decide +kernel
theorem d_R_digest_129 : decode b_R_digest 129 = .ok (.i2l, 1) := by decide +kernel
theorem d_R_digest_130 : decode b_R_digest 130 = .ok (.ladd, 1) := by decide +kernel
theorem d_R_digest_131 : decode b_R_digest 131 = .ok (.lstore_n 1, 1) := by decide +kernel
theorem d_R_digest_132 : decode b_R_digest 132 = .ok (.iinc 3 1, 3) := by decide +kernel
theorem d_R_digest_135 : decode b_R_digest 135 = .ok (.goto (-53), 3) := by decide +kernel
theorem d_R_digest_138 : decode b_R_digest 138 = .ok (.aload_n 0, 1) := by decide +kernel
theorem d_R_digest_139 : decode b_R_digest 139 = .ok (.lload_n 1, 1) := by decide +kernel
theorem d_R_digest_140 : decode b_R_digest 140 = .ok (.iconst 0, 1) := by decide +kernel
theorem d_R_digest_141 : decode b_R_digest 141 = .ok (.invokevirtual 318, 3) := by decide +kernel
theorem d_R_digest_144 : decode b_R_digest 144 = .ok (.lstore_n 1, 1) := by decide +kernel
theorem d_R_digest_145 : decode b_R_digest 145 = .ok (.aload_n 0, 1) := by decide +kernel
theorem d_R_digest_146 : decode b_R_digest 146 = .ok (.lload_n 1, 1) := by decide +kernel
theorem d_R_digest_147 : decode b_R_digest 147 = .ok (.iconst 5, 1) := by decide +kernel
theorem d_R_digest_148 : decode b_R_digest 148 = .ok (.invokevirtual 318, 3) := by decide +kernel
theorem d_R_digest_151 : decode b_R_digest 151 = .ok (.lstore_n 1, 1) := by decide +kernel
theorem d_R_digest_152 : decode b_R_digest 152 = .ok (.aload_n 0, 1) := by decide +kernel
theorem d_R_digest_153 : decode b_R_digest 153 = .ok (.lload_n 1, 1) := by decide +kernel
theorem d_R_digest_154 : decode b_R_digest 154 = .ok (.bipush 29, 2) := by decide +kernel
theorem d_R_digest_156 : decode b_R_digest 156 = .ok (.invokevirtual 318, 3) := by decide +kernel
theorem d_R_digest_159 : decode b_R_digest 159 = .ok (.lstore_n 1, 1) := by decide +kernel
theorem d_R_digest_160 : decode b_R_digest 160 = .ok (.ldc2_w 301, 3) := by decide +kernel
theorem d_R_digest_163 : decode b_R_digest 163 = .ok (.lload_n 1, 1) := by decide +kernel
theorem d_R_digest_164 : decode b_R_digest 164 = .ok (.lmul, 1) := by decide +kernel
theorem d_R_digest_165 : decode b_R_digest 165 = .ok (.aload_n 0, 1) := by decide +kernel
theorem d_R_digest_166 : decode b_R_digest 166 = .ok (.invokevirtual 259, 3) := by decide +kernel
theorem d_R_digest_169 : decode b_R_digest 169 = .ok (.i2l, 1) := by decide +kernel
theorem d_R_digest_170 : decode b_R_digest 170 = .ok (.ladd, 1) := by decide +kernel
theorem d_R_digest_171 : decode b_R_digest 171 = .ok (.lstore_n 1, 1) := by decide +kernel
theorem d_R_digest_172 : decode b_R_digest 172 = .ok (.ldc2_w 301, 3) := by decide +kernel
theorem d_R_digest_175 : decode b_R_digest 175 = .ok (.lload_n 1, 1) := by decide +kernel
theorem d_R_digest_176 : decode b_R_digest 176 = .ok (.lmul, 1) := by decide +kernel
theorem d_R_digest_177 : decode b_R_digest 177 = .ok (.aload_n 0, 1) := by decide +kernel
theorem d_R_digest_178 : decode b_R_digest 178 = .ok (.bipush 7, 2) := by decide +kernel
theorem d_R_digest_180 : decode b_R_digest 180 = .ok (.bipush 20, 2) := by decide +kernel
theorem d_R_digest_182 : decode b_R_digest 182 = .ok (.iconst (-1), 1) := by decide +kernel
theorem d_R_digest_183 : decode b_R_digest 183 = .ok (.invokevirtual 281, 3) := by decide +kernel
theorem d_R_digest_186 : decode b_R_digest 186 = .ok (.i2l, 1) := by decide +kernel
theorem d_R_digest_187 : decode b_R_digest 187 = .ok (.ladd, 1) := by decide +kernel
theorem d_R_digest_188 : decode b_R_digest 188 = .ok (.lreturn, 1) := by decide +kernel
theorem ql_R_309 : Cond.constantLong nC8 309 (17) ∈ tbl := tbl_in 1336 (by decide +kernel) rfl
theorem qm_R_311 : Cond.methodLink nC8 311 y_R_count ∈ tbl := tbl_in 1338 (by decide +kernel) rfl
theorem qm_R_314 : Cond.methodLink nC8 314 y_R_houseDigest ∈ tbl := tbl_in 1339 (by decide +kernel) rfl
theorem qm_R_318 : Cond.methodLink nC8 318 y_R_dayDigest ∈ tbl := tbl_in 1345 (by decide +kernel) rfl
def b_R_digest_82_ (P : Int64 → Hp → Prop)  (I82 : Hp → Int64 → Int32 → Prop) (σ : Hp) (x1 : Int64) (x3 : Int32) : Prop :=
  (((3 : Int32) ≤ x3 → wp_R_dayDigest σ x1 (0 : Int32) (fun (r2 : Int64) (t3 : Hp) => wp_R_dayDigest t3 r2 (5 : Int32) (fun (r4 : Int64) (t5 : Hp) => wp_R_dayDigest t5 r4 (29 : Int32) (fun (r6 : Int64) (t7 : Hp) => wp_R_neverNow t7 (fun (r8 : Int32) (t9 : Hp) => (∀ v10 : Int64, v10 = ((31 : Int64) * r6) + (r8.toInt64) → wp_R_monthOf t9 (7 : Int32) (20 : Int32) (-1 : Int32) (fun (r11 : Int32) (t12 : Hp) => P (((31 : Int64) * v10) + (r11.toInt64)) t12))))))) ∧ (¬ (3 : Int32) ≤ x3 → wp_R_rateOf σ x3 (fun (r13 : Int32) (t14 : Hp) => (∀ v15 : Int64, v15 = ((31 : Int64) * x1) + (r13.toInt64) → wp_R_fairOf t14 (9 : Int32) x3 (0 : Int32) (fun (r16 : Int32) (t17 : Hp) => (∀ v18 : Int64, v18 = ((31 : Int64) * v15) + (r16.toInt64) → wp_R_fairOf t17 (9 : Int32) x3 (1 : Int32) (fun (r19 : Int32) (t20 : Hp) => (∀ v21 : Int64, v21 = ((31 : Int64) * v18) + (r19.toInt64) → (∀ v22 : Int32, v22 = x3 + (1 : Int32) → I82 t20 v21 v22)))))))))
def j_R_digest_82 (P : Int64 → Hp → Prop)  (σ : Hp) (x1 : Int64) (x3 : Int32) : Prop := ∀ I82 : Hp → Int64 → Int32 → Prop, (∀ (σ : Hp) (x1 : Int64) (x3 : Int32), b_R_digest_82_  P  I82 σ x1 x3 → I82 σ x1 x3) → I82 σ x1 x3
def b_R_digest_59_ (P : Int64 → Hp → Prop)  (I59 : Hp → Int64 → Int32 → Prop) (σ : Hp) (x1 : Int64) (x3 : Int32) : Prop :=
  (((σ 0 2) ≤ x3 → j_R_digest_82 P σ x1 (0 : Int32)) ∧ (¬ (σ 0 2) ≤ x3 → wp_R_houseDigest σ x1 x3 (fun (r24 : Int64) (t25 : Hp) => (∀ v26 : Int32, v26 = x3 + (1 : Int32) → I59 t25 r24 v26))))
def j_R_digest_59 (P : Int64 → Hp → Prop)  (σ : Hp) (x1 : Int64) (x3 : Int32) : Prop := ∀ I59 : Hp → Int64 → Int32 → Prop, (∀ (σ : Hp) (x1 : Int64) (x3 : Int32), b_R_digest_59_  P  I59 σ x1 x3 → I59 σ x1 x3) → I59 σ x1 x3
def b_R_digest_6_ (P : Int64 → Hp → Prop)  (I6 : Hp → Int64 → Int32 → Prop) (σ : Hp) (x1 : Int64) (x3 : Int32) : Prop :=
  (((8 : Int32) ≤ x3 → wp_R_faultOf σ (0 : Int32) (fun (r28 : Int32) (t29 : Hp) => (∀ v30 : Int64, v30 = ((31 : Int64) * x1) + (r28.toInt64) → wp_R_faultOf t29 (1 : Int32) (fun (r31 : Int32) (t32 : Hp) => (∀ v33 : Int64, v33 = ((31 : Int64) * v30) + (r31.toInt64) → j_R_digest_59 P t32 v33 (0 : Int32)))))) ∧ (¬ (8 : Int32) ≤ x3 → wp_R_count σ x3 (fun (r34 : Int32) (t35 : Hp) => (∀ v36 : Int64, v36 = ((31 : Int64) * x1) + (r34.toInt64) → (∀ v37 : Int32, v37 = x3 + (1 : Int32) → I6 t35 v36 v37)))))
def j_R_digest_6 (P : Int64 → Hp → Prop)  (σ : Hp) (x1 : Int64) (x3 : Int32) : Prop := ∀ I6 : Hp → Int64 → Int32 → Prop, (∀ (σ : Hp) (x1 : Int64) (x3 : Int32), b_R_digest_6_  P  I6 σ x1 x3 → I6 σ x1 x3) → I6 σ x1 x3
def wp_R_digest (σ : Hp)  (P : Int64 → Hp → Prop) : Prop :=
  j_R_digest_6 P σ (17 : Int64) (0 : Int32)
set_option maxHeartbeats 4000000 in
set_option maxRecDepth 100000 in
theorem wj_R_digest_82 {w : Wd} {κ : Kx} {P : Int64 → Hp → Prop} (hC : Cx μR w 4 κ nC8 b_R_digest 11) (hR : RtL μR w 4 κ b_R_digest P)  : ∀ (σ : Hp) (x1 : Int64) (x3 : Int32), j_R_digest_82  P  σ x1 x3 → V μR w 4 κ σ [some (.ref (w.1 0)), some (.long x1), none, some (.int x3)] 82 [] := by
  intro σ x1 x3 h
  refine h (fun σ x1 x3 => V μR w 4 κ σ [some (.ref (w.1 0)), some (.long x1), none, some (.int x3)] 82 []) (fun σ x1 x3 h => ?_)
  unfold b_R_digest_82_ at h
  refine V.iload_n hC d_R_digest_82 rfl rfl ?_
  refine V.iconst (v := 3) hC d_R_digest_83 (by decide) ?_
  refine V.icmp_ge (tgt := 138) hC d_R_digest_84 (by decide) (fun c1 => ?_) (fun c1 => ?_)
  · replace h := h.1 c1
    refine V.aload_n hC d_R_digest_138 rfl rfl ?_
    refine V.lload_n hC d_R_digest_139 rfl rfl ?_
    refine V.iconst (v := 0) hC d_R_digest_140 (by decide) ?_
    refine V.callVL hC exR (w_R_dayDigest w σ x1 (0 : Int32) _ h) d_R_digest_141 mo_R_dayDigest qm_R_318 rfl rfl rfl rfl rfl rfl rfl (Nat.le_of_ble_eq_true rfl) (fun r2 t3 h => ?_)
    refine V.lstore_n (y := r2) (lo' := [some (.ref (w.1 0)), some (.long r2), none, some (.int x3)]) hC d_R_digest_144 rfl rfl rfl rfl ?_
    refine V.aload_n hC d_R_digest_145 rfl rfl ?_
    refine V.lload_n hC d_R_digest_146 rfl rfl ?_
    refine V.iconst (v := 5) hC d_R_digest_147 (by decide) ?_
    refine V.callVL hC exR (w_R_dayDigest w t3 r2 (5 : Int32) _ h) d_R_digest_148 mo_R_dayDigest qm_R_318 rfl rfl rfl rfl rfl rfl rfl (Nat.le_of_ble_eq_true rfl) (fun r4 t5 h => ?_)
    refine V.lstore_n (y := r4) (lo' := [some (.ref (w.1 0)), some (.long r4), none, some (.int x3)]) hC d_R_digest_151 rfl rfl rfl rfl ?_
    refine V.aload_n hC d_R_digest_152 rfl rfl ?_
    refine V.lload_n hC d_R_digest_153 rfl rfl ?_
    refine V.bipush (v := 29) hC d_R_digest_154 (by decide) ?_
    refine V.callVL hC exR (w_R_dayDigest w t5 r4 (29 : Int32) _ h) d_R_digest_156 mo_R_dayDigest qm_R_318 rfl rfl rfl rfl rfl rfl rfl (Nat.le_of_ble_eq_true rfl) (fun r6 t7 h => ?_)
    refine V.lstore_n (y := r6) (lo' := [some (.ref (w.1 0)), some (.long r6), none, some (.int x3)]) hC d_R_digest_159 rfl rfl rfl rfl ?_
    refine V.ldc2 (v := 31) hC d_R_digest_160 ql_R_301 ?_
    refine V.lload_n hC d_R_digest_163 rfl rfl ?_
    refine V.lmul hC d_R_digest_164 ?_
    refine V.aload_n hC d_R_digest_165 rfl rfl ?_
    refine V.callVI hC exR (w_R_neverNow w t7  _ h) d_R_digest_166 mo_R_neverNow qm_R_259 rfl rfl rfl rfl rfl rfl rfl (Nat.le_of_ble_eq_true rfl) (fun r8 t9 h => ?_)
    refine V.i2l hC d_R_digest_169 ?_
    refine V.ladd hC d_R_digest_170 ?_
    obtain ⟨v10, ev10⟩ : ∃ y : Int64, y = ((31 : Int64) * r6) + (r8.toInt64) := ⟨_, rfl⟩
    replace h := h v10 ev10
    refine V.lstore_n (y := v10) (lo' := [some (.ref (w.1 0)), some (.long v10), none, some (.int x3)]) hC d_R_digest_171 rfl rfl ev10 rfl ?_
    refine V.ldc2 (v := 31) hC d_R_digest_172 ql_R_301 ?_
    refine V.lload_n hC d_R_digest_175 rfl rfl ?_
    refine V.lmul hC d_R_digest_176 ?_
    refine V.aload_n hC d_R_digest_177 rfl rfl ?_
    refine V.bipush (v := 7) hC d_R_digest_178 (by decide) ?_
    refine V.bipush (v := 20) hC d_R_digest_180 (by decide) ?_
    refine V.iconst (v := -1) hC d_R_digest_182 (by decide) ?_
    refine V.callVI hC exR (w_R_monthOf w t9 (7 : Int32) (20 : Int32) (-1 : Int32) _ h) d_R_digest_183 mo_R_monthOf qm_R_281 rfl rfl rfl rfl rfl rfl rfl (Nat.le_of_ble_eq_true rfl) (fun r11 t12 h => ?_)
    refine V.i2l hC d_R_digest_186 ?_
    refine V.ladd hC d_R_digest_187 ?_
    exact hR _ _ _ _ h d_R_digest_188
  · replace h := h.2 c1
    refine V.ldc2 (v := 31) hC d_R_digest_87 ql_R_301 ?_
    refine V.lload_n hC d_R_digest_90 rfl rfl ?_
    refine V.lmul hC d_R_digest_91 ?_
    refine V.aload_n hC d_R_digest_92 rfl rfl ?_
    refine V.iload_n hC d_R_digest_93 rfl rfl ?_
    refine V.callVI hC exR (w_R_rateOf w σ x3 _ h) d_R_digest_94 mo_R_rateOf qm_R_148 rfl rfl rfl rfl rfl rfl rfl (Nat.le_of_ble_eq_true rfl) (fun r13 t14 h => ?_)
    refine V.i2l hC d_R_digest_97 ?_
    refine V.ladd hC d_R_digest_98 ?_
    obtain ⟨v15, ev15⟩ : ∃ y : Int64, y = ((31 : Int64) * x1) + (r13.toInt64) := ⟨_, rfl⟩
    replace h := h v15 ev15
    refine V.lstore_n (y := v15) (lo' := [some (.ref (w.1 0)), some (.long v15), none, some (.int x3)]) hC d_R_digest_99 rfl rfl ev15 rfl ?_
    refine V.ldc2 (v := 31) hC d_R_digest_100 ql_R_301 ?_
    refine V.lload_n hC d_R_digest_103 rfl rfl ?_
    refine V.lmul hC d_R_digest_104 ?_
    refine V.aload_n hC d_R_digest_105 rfl rfl ?_
    refine V.bipush (v := 9) hC d_R_digest_106 (by decide) ?_
    refine V.iload_n hC d_R_digest_108 rfl rfl ?_
    refine V.iconst (v := 0) hC d_R_digest_109 (by decide) ?_
    refine V.callVI hC exR (w_R_fairOf w t14 (9 : Int32) x3 (0 : Int32) _ h) d_R_digest_110 mo_R_fairOf qm_R_240 rfl rfl rfl rfl rfl rfl rfl (Nat.le_of_ble_eq_true rfl) (fun r16 t17 h => ?_)
    refine V.i2l hC d_R_digest_113 ?_
    refine V.ladd hC d_R_digest_114 ?_
    obtain ⟨v18, ev18⟩ : ∃ y : Int64, y = ((31 : Int64) * v15) + (r16.toInt64) := ⟨_, rfl⟩
    replace h := h v18 ev18
    refine V.lstore_n (y := v18) (lo' := [some (.ref (w.1 0)), some (.long v18), none, some (.int x3)]) hC d_R_digest_115 rfl rfl ev18 rfl ?_
    refine V.ldc2 (v := 31) hC d_R_digest_116 ql_R_301 ?_
    refine V.lload_n hC d_R_digest_119 rfl rfl ?_
    refine V.lmul hC d_R_digest_120 ?_
    refine V.aload_n hC d_R_digest_121 rfl rfl ?_
    refine V.bipush (v := 9) hC d_R_digest_122 (by decide) ?_
    refine V.iload_n hC d_R_digest_124 rfl rfl ?_
    refine V.iconst (v := 1) hC d_R_digest_125 (by decide) ?_
    refine V.callVI hC exR (w_R_fairOf w t17 (9 : Int32) x3 (1 : Int32) _ h) d_R_digest_126 mo_R_fairOf qm_R_240 rfl rfl rfl rfl rfl rfl rfl (Nat.le_of_ble_eq_true rfl) (fun r19 t20 h => ?_)
    refine V.i2l hC d_R_digest_129 ?_
    refine V.ladd hC d_R_digest_130 ?_
    obtain ⟨v21, ev21⟩ : ∃ y : Int64, y = ((31 : Int64) * v18) + (r19.toInt64) := ⟨_, rfl⟩
    replace h := h v21 ev21
    refine V.lstore_n (y := v21) (lo' := [some (.ref (w.1 0)), some (.long v21), none, some (.int x3)]) hC d_R_digest_131 rfl rfl ev21 rfl ?_
    obtain ⟨v22, ev22⟩ : ∃ y : Int32, y = x3 + (1 : Int32) := ⟨_, rfl⟩
    replace h := h v22 ev22
    refine V.iinc (y := v22) (lo' := [some (.ref (w.1 0)), some (.long v21), none, some (.int v22)]) hC d_R_digest_132 rfl rfl (show v22 = _ + Int32.ofInt (1) from ev22) rfl ?_
    refine V.goto (tgt := 82) hC d_R_digest_135 (by decide) ?_
    exact V.msk [true, true, false, true] rfl h
set_option maxHeartbeats 4000000 in
set_option maxRecDepth 100000 in
theorem wj_R_digest_59 {w : Wd} {κ : Kx} {P : Int64 → Hp → Prop} (hC : Cx μR w 4 κ nC8 b_R_digest 11) (hR : RtL μR w 4 κ b_R_digest P)  : ∀ (σ : Hp) (x1 : Int64) (x3 : Int32), j_R_digest_59  P  σ x1 x3 → V μR w 4 κ σ [some (.ref (w.1 0)), some (.long x1), none, some (.int x3)] 59 [] := by
  intro σ x1 x3 h
  refine h (fun σ x1 x3 => V μR w 4 κ σ [some (.ref (w.1 0)), some (.long x1), none, some (.int x3)] 59 []) (fun σ x1 x3 h => ?_)
  unfold b_R_digest_59_ at h
  refine V.iload_n hC d_R_digest_59 rfl rfl ?_
  refine V.aload_n hC d_R_digest_60 rfl rfl ?_
  refine V.getI (j := 2) hC d_R_digest_61 rfl rfl uC8 rfl rfl qf_R_116 ?_
  refine V.icmp_ge (tgt := 80) hC d_R_digest_64 (by decide) (fun c23 => ?_) (fun c23 => ?_)
  · replace h := h.1 c23
    refine V.iconst (v := 0) hC d_R_digest_80 (by decide) ?_
    refine V.istore_n (y := (0 : Int32)) (lo' := [some (.ref (w.1 0)), some (.long x1), none, some (.int (0 : Int32))]) hC d_R_digest_81 rfl rfl rfl rfl ?_
    exact V.msk [true, true, false, true] rfl (wj_R_digest_82  hC hR  σ x1 (0 : Int32) h)
  · replace h := h.2 c23
    refine V.aload_n hC d_R_digest_67 rfl rfl ?_
    refine V.lload_n hC d_R_digest_68 rfl rfl ?_
    refine V.iload_n hC d_R_digest_69 rfl rfl ?_
    refine V.callVL hC exR (w_R_houseDigest w σ x1 x3 _ h) d_R_digest_70 mo_R_houseDigest qm_R_314 rfl rfl rfl rfl rfl rfl rfl (Nat.le_of_ble_eq_true rfl) (fun r24 t25 h => ?_)
    refine V.lstore_n (y := r24) (lo' := [some (.ref (w.1 0)), some (.long r24), none, some (.int x3)]) hC d_R_digest_73 rfl rfl rfl rfl ?_
    obtain ⟨v26, ev26⟩ : ∃ y : Int32, y = x3 + (1 : Int32) := ⟨_, rfl⟩
    replace h := h v26 ev26
    refine V.iinc (y := v26) (lo' := [some (.ref (w.1 0)), some (.long r24), none, some (.int v26)]) hC d_R_digest_74 rfl rfl (show v26 = _ + Int32.ofInt (1) from ev26) rfl ?_
    refine V.goto (tgt := 59) hC d_R_digest_77 (by decide) ?_
    exact V.msk [true, true, false, true] rfl h
set_option maxHeartbeats 4000000 in
set_option maxRecDepth 100000 in
theorem wj_R_digest_6 {w : Wd} {κ : Kx} {P : Int64 → Hp → Prop} (hC : Cx μR w 4 κ nC8 b_R_digest 11) (hR : RtL μR w 4 κ b_R_digest P)  : ∀ (σ : Hp) (x1 : Int64) (x3 : Int32), j_R_digest_6  P  σ x1 x3 → V μR w 4 κ σ [some (.ref (w.1 0)), some (.long x1), none, some (.int x3)] 6 [] := by
  intro σ x1 x3 h
  refine h (fun σ x1 x3 => V μR w 4 κ σ [some (.ref (w.1 0)), some (.long x1), none, some (.int x3)] 6 []) (fun σ x1 x3 h => ?_)
  unfold b_R_digest_6_ at h
  refine V.iload_n hC d_R_digest_6 rfl rfl ?_
  refine V.bipush (v := 8) hC d_R_digest_7 (by decide) ?_
  refine V.icmp_ge (tgt := 31) hC d_R_digest_9 (by decide) (fun c27 => ?_) (fun c27 => ?_)
  · replace h := h.1 c27
    refine V.ldc2 (v := 31) hC d_R_digest_31 ql_R_301 ?_
    refine V.lload_n hC d_R_digest_34 rfl rfl ?_
    refine V.lmul hC d_R_digest_35 ?_
    refine V.aload_n hC d_R_digest_36 rfl rfl ?_
    refine V.iconst (v := 0) hC d_R_digest_37 (by decide) ?_
    refine V.callVI hC exR (w_R_faultOf w σ (0 : Int32) _ h) d_R_digest_38 mo_R_faultOf qm_R_136 rfl rfl rfl rfl rfl rfl rfl (Nat.le_of_ble_eq_true rfl) (fun r28 t29 h => ?_)
    refine V.i2l hC d_R_digest_41 ?_
    refine V.ladd hC d_R_digest_42 ?_
    obtain ⟨v30, ev30⟩ : ∃ y : Int64, y = ((31 : Int64) * x1) + (r28.toInt64) := ⟨_, rfl⟩
    replace h := h v30 ev30
    refine V.lstore_n (y := v30) (lo' := [some (.ref (w.1 0)), some (.long v30), none, some (.int x3)]) hC d_R_digest_43 rfl rfl ev30 rfl ?_
    refine V.ldc2 (v := 31) hC d_R_digest_44 ql_R_301 ?_
    refine V.lload_n hC d_R_digest_47 rfl rfl ?_
    refine V.lmul hC d_R_digest_48 ?_
    refine V.aload_n hC d_R_digest_49 rfl rfl ?_
    refine V.iconst (v := 1) hC d_R_digest_50 (by decide) ?_
    refine V.callVI hC exR (w_R_faultOf w t29 (1 : Int32) _ h) d_R_digest_51 mo_R_faultOf qm_R_136 rfl rfl rfl rfl rfl rfl rfl (Nat.le_of_ble_eq_true rfl) (fun r31 t32 h => ?_)
    refine V.i2l hC d_R_digest_54 ?_
    refine V.ladd hC d_R_digest_55 ?_
    obtain ⟨v33, ev33⟩ : ∃ y : Int64, y = ((31 : Int64) * v30) + (r31.toInt64) := ⟨_, rfl⟩
    replace h := h v33 ev33
    refine V.lstore_n (y := v33) (lo' := [some (.ref (w.1 0)), some (.long v33), none, some (.int x3)]) hC d_R_digest_56 rfl rfl ev33 rfl ?_
    refine V.iconst (v := 0) hC d_R_digest_57 (by decide) ?_
    refine V.istore_n (y := (0 : Int32)) (lo' := [some (.ref (w.1 0)), some (.long v33), none, some (.int (0 : Int32))]) hC d_R_digest_58 rfl rfl rfl rfl ?_
    exact V.msk [true, true, false, true] rfl (wj_R_digest_59  hC hR  t32 v33 (0 : Int32) h)
  · replace h := h.2 c27
    refine V.ldc2 (v := 31) hC d_R_digest_12 ql_R_301 ?_
    refine V.lload_n hC d_R_digest_15 rfl rfl ?_
    refine V.lmul hC d_R_digest_16 ?_
    refine V.aload_n hC d_R_digest_17 rfl rfl ?_
    refine V.iload_n hC d_R_digest_18 rfl rfl ?_
    refine V.callVI hC exR (w_R_count w σ x3 _ h) d_R_digest_19 mo_R_count qm_R_311 rfl rfl rfl rfl rfl rfl rfl (Nat.le_of_ble_eq_true rfl) (fun r34 t35 h => ?_)
    refine V.i2l hC d_R_digest_22 ?_
    refine V.ladd hC d_R_digest_23 ?_
    obtain ⟨v36, ev36⟩ : ∃ y : Int64, y = ((31 : Int64) * x1) + (r34.toInt64) := ⟨_, rfl⟩
    replace h := h v36 ev36
    refine V.lstore_n (y := v36) (lo' := [some (.ref (w.1 0)), some (.long v36), none, some (.int x3)]) hC d_R_digest_24 rfl rfl ev36 rfl ?_
    obtain ⟨v37, ev37⟩ : ∃ y : Int32, y = x3 + (1 : Int32) := ⟨_, rfl⟩
    replace h := h v37 ev37
    refine V.iinc (y := v37) (lo' := [some (.ref (w.1 0)), some (.long v36), none, some (.int v37)]) hC d_R_digest_25 rfl rfl (show v37 = _ + Int32.ofInt (1) from ev37) rfl ?_
    refine V.goto (tgt := 6) hC d_R_digest_28 (by decide) ?_
    exact V.msk [true, true, false, true] rfl h
set_option maxHeartbeats 4000000 in
set_option maxRecDepth 100000 in
theorem w_R_digest (w : Wd) (σ : Hp)  (P : Int64 → Hp → Prop) (h : wp_R_digest σ  P) : CtL μR w y_R_digest b_R_digest 4 (some .long) 11 [.ref (w.1 0)] σ P := by
  unfold wp_R_digest at h
  refine CtL.ofV (C := nC8) (lo := [some (.ref (w.1 0)), none, none, none]) exR (by decide +kernel) rfl rfl rfl (fun κ hC hR => ?_)
  refine V.ldc2 (v := 17) hC d_R_digest_0 ql_R_309 ?_
  refine V.lstore_n (y := (17 : Int64)) (lo' := [some (.ref (w.1 0)), some (.long (17 : Int64)), none, none]) hC d_R_digest_3 rfl rfl rfl rfl ?_
  refine V.iconst (v := 0) hC d_R_digest_4 (by decide) ?_
  refine V.istore_n (y := (0 : Int32)) (lo' := [some (.ref (w.1 0)), some (.long (17 : Int64)), none, some (.int (0 : Int32))]) hC d_R_digest_5 rfl rfl rfl rfl ?_
  exact V.msk [true, true, false, true] rfl (wj_R_digest_6  hC hR  σ (17 : Int64) (0 : Int32) h)
