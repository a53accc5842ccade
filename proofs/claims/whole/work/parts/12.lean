abbrev b_K_leading : ByteArray := prog_4_method_11_code
def y_K_leading : MethodName := ⟨nC2, "leading", "(I)I"⟩
theorem d_K_leading_0 : decode b_K_leading 0 = .ok (.iconst 0, 1) := by decide +kernel
theorem d_K_leading_1 : decode b_K_leading 1 = .ok (.istore_n 2, 1) := by decide +kernel
theorem d_K_leading_2 : decode b_K_leading 2 = .ok (.iconst 0, 1) := by decide +kernel
theorem d_K_leading_3 : decode b_K_leading 3 = .ok (.istore_n 3, 1) := by decide +kernel
theorem d_K_leading_4 : decode b_K_leading 4 = .ok (.iload_n 3, 1) := by decide +kernel
theorem d_K_leading_5 : decode b_K_leading 5 = .ok (.aload_n 0, 1) := by decide +kernel
theorem d_K_leading_6 : decode b_K_leading 6 = .ok (.getfield 30, 3) := by decide +kernel
theorem d_K_leading_9 : decode b_K_leading 9 = .ok (.if_icmp .ge 24, 3) := by decide +kernel
theorem d_K_leading_12 : decode b_K_leading 12 = .ok (.aload_n 0, 1) := by decide +kernel
theorem d_K_leading_13 : decode b_K_leading 13 = .ok (.iload_n 3, 1) := by decide +kernel
theorem d_K_leading_14 : decode b_K_leading 14 = .ok (.iload_n 1, 1) := by decide +kernel
theorem d_K_leading_15 : decode b_K_leading 15 = .ok (.invokevirtual 55, 3) := by decide +kernel
theorem d_K_leading_18 : decode b_K_leading 18 = .ok (.ifCond .eq 9, 3) := by decide +kernel
theorem d_K_leading_21 : decode b_K_leading 21 = .ok (.iload_n 2, 1) := by decide +kernel
theorem d_K_leading_22 : decode b_K_leading 22 = .ok (.iconst 1, 1) := by decide +kernel
theorem d_K_leading_23 : decode b_K_leading 23 = .ok (.iload_n 3, 1) := by decide +kernel
theorem d_K_leading_24 : decode b_K_leading 24 = .ok (.ishl, 1) := by decide +kernel
theorem d_K_leading_25 : decode b_K_leading 25 = .ok (.ior, 1) := by decide +kernel
theorem d_K_leading_26 : decode b_K_leading 26 = .ok (.istore_n 2, 1) := by decide +kernel
theorem d_K_leading_27 : decode b_K_leading 27 = .ok (.iinc 3 1, 3) := by decide +kernel
theorem d_K_leading_30 : decode b_K_leading 30 = .ok (.goto (-26), 3) := by decide +kernel
theorem d_K_leading_33 : decode b_K_leading 33 = .ok (.iload_n 2, 1) := by decide +kernel
theorem d_K_leading_34 : decode b_K_leading 34 = .ok (.ireturn, 1) := by decide +kernel
theorem qm_K_55 : Cond.methodLink nC2 55 y_K_leads ∈ tbl := tbl_in 592 (by decide +kernel) rfl
theorem mo_K_leading : MokV y_K_leading b_K_leading 4 (some .int) 1 := ⟨⟨(tbl_in 591 (by decide +kernel) rfl), (tbl_in 66 (by decide +kernel) rfl)⟩, ⟨(tbl_in 589 (by decide +kernel) rfl), tbl_lw _ (tbl_in 590 (by decide +kernel) rfl), (tbl_in 590 (by decide +kernel) rfl)⟩, ⟨by decide +kernel, by decide +kernel⟩, by decide +kernel⟩
def b_K_leading_4_ (P : Int32 → Hp → Prop)  (I4 : Hp → Int32 → Int32 → Int32 → Prop) (σ : Hp) (x1 : Int32) (x2 : Int32) (x3 : Int32) : Prop :=
  (((σ 5 6) ≤ x3 → P x2 σ) ∧ (¬ (σ 5 6) ≤ x3 → wp_K_leads σ x3 x1 (fun (r2 : Int32) (t3 : Hp) => ((r2 = 0 → (∀ v5 : Int32, v5 = x3 + (1 : Int32) → I4 t3 x1 x2 v5)) ∧ (¬ r2 = 0 → (∀ v6 : Int32, v6 = x2 ||| ((1 : Int32) <<< (x3 &&& 31)) → (∀ v7 : Int32, v7 = x3 + (1 : Int32) → I4 t3 x1 v6 v7)))))))
def j_K_leading_4 (P : Int32 → Hp → Prop)  (σ : Hp) (x1 : Int32) (x2 : Int32) (x3 : Int32) : Prop := ∀ I4 : Hp → Int32 → Int32 → Int32 → Prop, (∀ (σ : Hp) (x1 : Int32) (x2 : Int32) (x3 : Int32), b_K_leading_4_  P  I4 σ x1 x2 x3 → I4 σ x1 x2 x3) → I4 σ x1 x2 x3
def wp_K_leading (σ : Hp) (a1 : Int32) (P : Int32 → Hp → Prop) : Prop :=
  j_K_leading_4 P σ a1 (0 : Int32) (0 : Int32)
set_option maxHeartbeats 4000000 in
set_option maxRecDepth 100000 in
theorem wj_K_leading_4 {w : Wd} {κ : Kx} {P : Int32 → Hp → Prop} (hC : Cx μC w 4 κ nC2 b_K_leading 1) (hR : RtI μC w 4 κ b_K_leading .int P)  : ∀ (σ : Hp) (x1 : Int32) (x2 : Int32) (x3 : Int32), j_K_leading_4  P  σ x1 x2 x3 → V μC w 4 κ σ [some (.ref (w.1 5)), some (.int x1), some (.int x2), some (.int x3)] 4 [] := by
  intro σ x1 x2 x3 h
  refine h (fun σ x1 x2 x3 => V μC w 4 κ σ [some (.ref (w.1 5)), some (.int x1), some (.int x2), some (.int x3)] 4 []) (fun σ x1 x2 x3 h => ?_)
  unfold b_K_leading_4_ at h
  refine V.iload_n hC d_K_leading_4 rfl rfl ?_
  refine V.aload_n hC d_K_leading_5 rfl rfl ?_
  refine V.getI (j := 6) hC d_K_leading_6 rfl rfl uC2 rfl rfl qf_K_30 ?_
  refine V.icmp_ge (tgt := 33) hC d_K_leading_9 (by decide) (fun c1 => ?_) (fun c1 => ?_)
  · replace h := h.1 c1
    refine V.iload_n hC d_K_leading_33 rfl rfl ?_
    exact hR _ _ _ _ h rfl d_K_leading_34
  · replace h := h.2 c1
    refine V.aload_n hC d_K_leading_12 rfl rfl ?_
    refine V.iload_n hC d_K_leading_13 rfl rfl ?_
    refine V.iload_n hC d_K_leading_14 rfl rfl ?_
    refine V.callVI hC exC (w_K_leads w σ x3 x1 _ h) d_K_leading_15 mo_K_leads qm_K_55 rfl rfl rfl rfl rfl rfl rfl (Nat.le_of_ble_eq_true rfl) (fun r2 t3 h => ?_)
    refine V.if_eq (tgt := 27) hC d_K_leading_18 (by decide) (fun c4 => ?_) (fun c4 => ?_)
    · replace h := h.1 c4
      obtain ⟨v5, ev5⟩ : ∃ y : Int32, y = x3 + (1 : Int32) := ⟨_, rfl⟩
      replace h := h v5 ev5
      refine V.iinc (y := v5) (lo' := [some (.ref (w.1 5)), some (.int x1), some (.int x2), some (.int v5)]) hC d_K_leading_27 rfl rfl (show v5 = _ + Int32.ofInt (1) from ev5) rfl ?_
      refine V.goto (tgt := 4) hC d_K_leading_30 (by decide) ?_
      exact V.msk [true, true, true, true] rfl h
    · replace h := h.2 c4
      refine V.iload_n hC d_K_leading_21 rfl rfl ?_
      refine V.iconst (v := 1) hC d_K_leading_22 (by decide) ?_
      refine V.iload_n hC d_K_leading_23 rfl rfl ?_
      refine V.ishl hC d_K_leading_24 ?_
      refine V.ior hC d_K_leading_25 ?_
      obtain ⟨v6, ev6⟩ : ∃ y : Int32, y = x2 ||| ((1 : Int32) <<< (x3 &&& 31)) := ⟨_, rfl⟩
      replace h := h v6 ev6
      refine V.istore_n (y := v6) (lo' := [some (.ref (w.1 5)), some (.int x1), some (.int v6), some (.int x3)]) hC d_K_leading_26 rfl rfl ev6 rfl ?_
      obtain ⟨v7, ev7⟩ : ∃ y : Int32, y = x3 + (1 : Int32) := ⟨_, rfl⟩
      replace h := h v7 ev7
      refine V.iinc (y := v7) (lo' := [some (.ref (w.1 5)), some (.int x1), some (.int v6), some (.int v7)]) hC d_K_leading_27 rfl rfl (show v7 = _ + Int32.ofInt (1) from ev7) rfl ?_
      refine V.goto (tgt := 4) hC d_K_leading_30 (by decide) ?_
      exact V.msk [true, true, true, true] rfl h
set_option maxHeartbeats 4000000 in
set_option maxRecDepth 100000 in
theorem w_K_leading (w : Wd) (σ : Hp) (a1 : Int32) (P : Int32 → Hp → Prop) (h : wp_K_leading σ a1 P) : CtI μC w y_K_leading b_K_leading 4 (some .int) 1 [.ref (w.1 5), .int a1] σ P := by
  unfold wp_K_leading at h
  refine CtI.ofV (C := nC2) (lo := [some (.ref (w.1 5)), some (.int a1), none, none]) exC (by decide +kernel) rfl rfl rfl (fun κ hC hR => ?_)
  refine V.iconst (v := 0) hC d_K_leading_0 (by decide) ?_
  refine V.istore_n (y := (0 : Int32)) (lo' := [some (.ref (w.1 5)), some (.int a1), some (.int (0 : Int32)), none]) hC d_K_leading_1 rfl rfl rfl rfl ?_
  refine V.iconst (v := 0) hC d_K_leading_2 (by decide) ?_
  refine V.istore_n (y := (0 : Int32)) (lo' := [some (.ref (w.1 5)), some (.int a1), some (.int (0 : Int32)), some (.int (0 : Int32))]) hC d_K_leading_3 rfl rfl rfl rfl ?_
  exact V.msk [true, true, true, true] rfl (wj_K_leading_4  hC hR  σ a1 (0 : Int32) (0 : Int32) h)
abbrev b_K_leadingOfAll : ByteArray := prog_4_method_9_code
def y_K_leadingOfAll : MethodName := ⟨nC2, "leadingOfAll", "()I"⟩
theorem d_K_leadingOfAll_0 : decode b_K_leadingOfAll 0 = .ok (.aload_n 0, 1) := by decide +kernel
theorem d_K_leadingOfAll_1 : decode b_K_leadingOfAll 1 = .ok (.aload_n 0, 1) := by decide +kernel
theorem d_K_leadingOfAll_2 : decode b_K_leadingOfAll 2 = .ok (.invokevirtual 47, 3) := by decide +kernel
theorem d_K_leadingOfAll_5 : decode b_K_leadingOfAll 5 = .ok (.invokevirtual 51, 3) := by decide +kernel
theorem d_K_leadingOfAll_8 : decode b_K_leadingOfAll 8 = .ok (.ireturn, 1) := by decide +kernel
theorem qm_K_47 : Cond.methodLink nC2 47 y_K_allSuits ∈ tbl := tbl_in 584 (by decide +kernel) rfl
theorem qm_K_51 : Cond.methodLink nC2 51 y_K_leading ∈ tbl := tbl_in 588 (by decide +kernel) rfl
theorem mo_K_leadingOfAll : MokV y_K_leadingOfAll b_K_leadingOfAll 1 (some .int) 0 := ⟨⟨(tbl_in 583 (by decide +kernel) rfl), (tbl_in 66 (by decide +kernel) rfl)⟩, ⟨(tbl_in 581 (by decide +kernel) rfl), tbl_lw _ (tbl_in 582 (by decide +kernel) rfl), (tbl_in 582 (by decide +kernel) rfl)⟩, ⟨by decide +kernel, by decide +kernel⟩, by decide +kernel⟩
def wp_K_leadingOfAll (σ : Hp)  (P : Int32 → Hp → Prop) : Prop :=
  wp_K_allSuits σ (fun (r1 : Int32) (t2 : Hp) => wp_K_leading t2 r1 (fun (r3 : Int32) (t4 : Hp) => P r3 t4))
set_option maxHeartbeats 4000000 in
set_option maxRecDepth 100000 in
theorem w_K_leadingOfAll (w : Wd) (σ : Hp)  (P : Int32 → Hp → Prop) (h : wp_K_leadingOfAll σ  P) : CtI μC w y_K_leadingOfAll b_K_leadingOfAll 1 (some .int) 2 [.ref (w.1 5)] σ P := by
  unfold wp_K_leadingOfAll at h
  refine CtI.ofV (C := nC2) (lo := [some (.ref (w.1 5))]) exC (by decide +kernel) rfl rfl rfl (fun κ hC hR => ?_)
  refine V.aload_n hC d_K_leadingOfAll_0 rfl rfl ?_
  refine V.aload_n hC d_K_leadingOfAll_1 rfl rfl ?_
  refine V.callVI hC exC (w_K_allSuits w σ  _ h) d_K_leadingOfAll_2 mo_K_allSuits qm_K_47 rfl rfl rfl rfl rfl rfl rfl (Nat.le_of_ble_eq_true rfl) (fun r1 t2 h => ?_)
  refine V.callVI hC exC (w_K_leading w t2 r1 _ h) d_K_leadingOfAll_5 mo_K_leading qm_K_51 rfl rfl rfl rfl rfl rfl rfl (Nat.le_of_ble_eq_true rfl) (fun r3 t4 h => ?_)
  exact hR _ _ _ _ h rfl d_K_leadingOfAll_8
abbrev b_JI_bitCount : ByteArray := prog_12_method_49_code
def y_JI_bitCount : MethodName := ⟨"java/lang/Integer", "bitCount", "(I)I"⟩
theorem d_JI_bitCount_0 : decode b_JI_bitCount 0 = .ok (.iload_n 0, 1) := by decide +kernel
theorem d_JI_bitCount_1 : decode b_JI_bitCount 1 = .ok (.iload_n 0, 1) := by decide +kernel
theorem d_JI_bitCount_2 : decode b_JI_bitCount 2 = .ok (.iconst 1, 1) := by decide +kernel
theorem d_JI_bitCount_3 : decode b_JI_bitCount 3 = .ok (.iushr, 1) := by decide +kernel
theorem d_JI_bitCount_4 : decode b_JI_bitCount 4 = .ok (.ldc_w 265, 3) := by decide +kernel
theorem d_JI_bitCount_7 : decode b_JI_bitCount 7 = .ok (.iand, 1) := by decide +kernel
theorem d_JI_bitCount_8 : decode b_JI_bitCount 8 = .ok (.isub, 1) := by decide +kernel
theorem d_JI_bitCount_9 : decode b_JI_bitCount 9 = .ok (.istore_n 0, 1) := by decide +kernel
theorem d_JI_bitCount_10 : decode b_JI_bitCount 10 = .ok (.iload_n 0, 1) := by decide +kernel
theorem d_JI_bitCount_11 : decode b_JI_bitCount 11 = .ok (.ldc_w 266, 3) := by decide +kernel
theorem d_JI_bitCount_14 : decode b_JI_bitCount 14 = .ok (.iand, 1) := by decide +kernel
theorem d_JI_bitCount_15 : decode b_JI_bitCount 15 = .ok (.iload_n 0, 1) := by decide +kernel
theorem d_JI_bitCount_16 : decode b_JI_bitCount 16 = .ok (.iconst 2, 1) := by decide +kernel
theorem d_JI_bitCount_17 : decode b_JI_bitCount 17 = .ok (.iushr, 1) := by decide +kernel
theorem d_JI_bitCount_18 : decode b_JI_bitCount 18 = .ok (.ldc_w 266, 3) := by decide +kernel
theorem d_JI_bitCount_21 : decode b_JI_bitCount 21 = .ok (.iand, 1) := by decide +kernel
theorem d_JI_bitCount_22 : decode b_JI_bitCount 22 = .ok (.iadd, 1) := by decide +kernel
theorem d_JI_bitCount_23 : decode b_JI_bitCount 23 = .ok (.istore_n 0, 1) := by decide +kernel
theorem d_JI_bitCount_24 : decode b_JI_bitCount 24 = .ok (.iload_n 0, 1) := by decide +kernel
theorem d_JI_bitCount_25 : decode b_JI_bitCount 25 = .ok (.iload_n 0, 1) := by decide +kernel
theorem d_JI_bitCount_26 : decode b_JI_bitCount 26 = .ok (.iconst 4, 1) := by decide +kernel
theorem d_JI_bitCount_27 : decode b_JI_bitCount 27 = .ok (.iushr, 1) := by decide +kernel
theorem d_JI_bitCount_28 : decode b_JI_bitCount 28 = .ok (.iadd, 1) := by decide +kernel
theorem d_JI_bitCount_29 : decode b_JI_bitCount 29 = .ok (.ldc_w 267, 3) := by decide +kernel
theorem d_JI_bitCount_32 : decode b_JI_bitCount 32 = .ok (.iand, 1) := by decide +kernel
theorem d_JI_bitCount_33 : decode b_JI_bitCount 33 = .ok (.istore_n 0, 1) := by decide +kernel
theorem d_JI_bitCount_34 : decode b_JI_bitCount 34 = .ok (.iload_n 0, 1) := by decide +kernel
theorem d_JI_bitCount_35 : decode b_JI_bitCount 35 = .ok (.iload_n 0, 1) := by decide +kernel
theorem d_JI_bitCount_36 : decode b_JI_bitCount 36 = .ok (.bipush 8, 2) := by decide +kernel
theorem d_JI_bitCount_38 : decode b_JI_bitCount 38 = .ok (.iushr, 1) := by decide +kernel
theorem d_JI_bitCount_39 : decode b_JI_bitCount 39 = .ok (.iadd, 1) := by decide +kernel
theorem d_JI_bitCount_40 : decode b_JI_bitCount 40 = .ok (.istore_n 0, 1) := by decide +kernel
theorem d_JI_bitCount_41 : decode b_JI_bitCount 41 = .ok (.iload_n 0, 1) := by decide +kernel
theorem d_JI_bitCount_42 : decode b_JI_bitCount 42 = .ok (.iload_n 0, 1) := by decide +kernel
theorem d_JI_bitCount_43 : decode b_JI_bitCount 43 = .ok (.bipush 16, 2) := by decide +kernel
theorem d_JI_bitCount_45 : decode b_JI_bitCount 45 = .ok (.iushr, 1) := by decide +kernel
theorem d_JI_bitCount_46 : decode b_JI_bitCount 46 = .ok (.iadd, 1) := by decide +kernel
theorem d_JI_bitCount_47 : decode b_JI_bitCount 47 = .ok (.istore_n 0, 1) := by decide +kernel
theorem d_JI_bitCount_48 : decode b_JI_bitCount 48 = .ok (.iload_n 0, 1) := by decide +kernel
theorem d_JI_bitCount_49 : decode b_JI_bitCount 49 = .ok (.bipush 63, 2) := by decide +kernel
theorem d_JI_bitCount_51 : decode b_JI_bitCount 51 = .ok (.iand, 1) := by decide +kernel
theorem d_JI_bitCount_52 : decode b_JI_bitCount 52 = .ok (.ireturn, 1) := by decide +kernel
theorem qc_JI_265 : Cond.constant "java/lang/Integer" 265 (1431655765) ∈ tbl := tbl_in 607 (by decide +kernel) rfl
theorem qc_JI_266 : Cond.constant "java/lang/Integer" 266 (858993459) ∈ tbl := tbl_in 608 (by decide +kernel) rfl
theorem qc_JI_267 : Cond.constant "java/lang/Integer" 267 (252645135) ∈ tbl := tbl_in 609 (by decide +kernel) rfl
theorem mo_JI_bitCount : MokS y_JI_bitCount b_JI_bitCount 1 (some .int) 1 := ⟨⟨(tbl_in 606 (by decide +kernel) rfl), (tbl_in 78 (by decide +kernel) rfl)⟩, (tbl_in 605 (by decide +kernel) rfl), ⟨by decide +kernel, by decide +kernel⟩, by decide +kernel⟩
def wp_JI_bitCount (σ : Hp) (a1 : Int32) (P : Int32 → Hp → Prop) : Prop :=
  (∀ v1 : Int32, v1 = a1 - (((a1.toUInt32 >>> ((1 : Int32).toUInt32 &&& Int32.toUInt32 31)).toInt32) &&& (1431655765 : Int32)) → (∀ v2 : Int32, v2 = (v1 &&& (858993459 : Int32)) + (((v1.toUInt32 >>> ((2 : Int32).toUInt32 &&& Int32.toUInt32 31)).toInt32) &&& (858993459 : Int32)) → (∀ v3 : Int32, v3 = (v2 + ((v2.toUInt32 >>> ((4 : Int32).toUInt32 &&& Int32.toUInt32 31)).toInt32)) &&& (252645135 : Int32) → (∀ v4 : Int32, v4 = v3 + ((v3.toUInt32 >>> ((8 : Int32).toUInt32 &&& Int32.toUInt32 31)).toInt32) → (∀ v5 : Int32, v5 = v4 + ((v4.toUInt32 >>> ((16 : Int32).toUInt32 &&& Int32.toUInt32 31)).toInt32) → P (v5 &&& (63 : Int32)) σ)))))
set_option maxHeartbeats 4000000 in
set_option maxRecDepth 100000 in
theorem w_JI_bitCount (w : Wd) (σ : Hp) (a1 : Int32) (P : Int32 → Hp → Prop) (h : wp_JI_bitCount σ a1 P) : CtI μC w y_JI_bitCount b_JI_bitCount 1 (some .int) 0 [.int a1] σ P := by
  unfold wp_JI_bitCount at h
  refine CtI.ofV (C := "java/lang/Integer") (lo := [some (.int a1)]) exC (by decide +kernel) rfl rfl rfl (fun κ hC hR => ?_)
  refine V.iload_n hC d_JI_bitCount_0 rfl rfl ?_
  refine V.iload_n hC d_JI_bitCount_1 rfl rfl ?_
  refine V.iconst (v := 1) hC d_JI_bitCount_2 (by decide) ?_
  refine V.iushr hC d_JI_bitCount_3 ?_
  refine V.ldcw (v := 1431655765) hC d_JI_bitCount_4 qc_JI_265 ?_
  refine V.iand hC d_JI_bitCount_7 ?_
  refine V.isub hC d_JI_bitCount_8 ?_
  obtain ⟨v1, ev1⟩ : ∃ y : Int32, y = a1 - (((a1.toUInt32 >>> ((1 : Int32).toUInt32 &&& Int32.toUInt32 31)).toInt32) &&& (1431655765 : Int32)) := ⟨_, rfl⟩
  replace h := h v1 ev1
  refine V.istore_n (y := v1) (lo' := [some (.int v1)]) hC d_JI_bitCount_9 rfl rfl ev1 rfl ?_
  refine V.iload_n hC d_JI_bitCount_10 rfl rfl ?_
  refine V.ldcw (v := 858993459) hC d_JI_bitCount_11 qc_JI_266 ?_
  refine V.iand hC d_JI_bitCount_14 ?_
  refine V.iload_n hC d_JI_bitCount_15 rfl rfl ?_
  refine V.iconst (v := 2) hC d_JI_bitCount_16 (by decide) ?_
  refine V.iushr hC d_JI_bitCount_17 ?_
  refine V.ldcw (v := 858993459) hC d_JI_bitCount_18 qc_JI_266 ?_
  refine V.iand hC d_JI_bitCount_21 ?_
  refine V.iadd hC d_JI_bitCount_22 ?_
  obtain ⟨v2, ev2⟩ : ∃ y : Int32, y = (v1 &&& (858993459 : Int32)) + (((v1.toUInt32 >>> ((2 : Int32).toUInt32 &&& Int32.toUInt32 31)).toInt32) &&& (858993459 : Int32)) := ⟨_, rfl⟩
  replace h := h v2 ev2
  refine V.istore_n (y := v2) (lo' := [some (.int v2)]) hC d_JI_bitCount_23 rfl rfl ev2 rfl ?_
  refine V.iload_n hC d_JI_bitCount_24 rfl rfl ?_
  refine V.iload_n hC d_JI_bitCount_25 rfl rfl ?_
  refine V.iconst (v := 4) hC d_JI_bitCount_26 (by decide) ?_
  refine V.iushr hC d_JI_bitCount_27 ?_
  refine V.iadd hC d_JI_bitCount_28 ?_
  refine V.ldcw (v := 252645135) hC d_JI_bitCount_29 qc_JI_267 ?_
  refine V.iand hC d_JI_bitCount_32 ?_
  obtain ⟨v3, ev3⟩ : ∃ y : Int32, y = (v2 + ((v2.toUInt32 >>> ((4 : Int32).toUInt32 &&& Int32.toUInt32 31)).toInt32)) &&& (252645135 : Int32) := ⟨_, rfl⟩
  replace h := h v3 ev3
  refine V.istore_n (y := v3) (lo' := [some (.int v3)]) hC d_JI_bitCount_33 rfl rfl ev3 rfl ?_
  refine V.iload_n hC d_JI_bitCount_34 rfl rfl ?_
  refine V.iload_n hC d_JI_bitCount_35 rfl rfl ?_
  refine V.bipush (v := 8) hC d_JI_bitCount_36 (by decide) ?_
  refine V.iushr hC d_JI_bitCount_38 ?_
  refine V.iadd hC d_JI_bitCount_39 ?_
  obtain ⟨v4, ev4⟩ : ∃ y : Int32, y = v3 + ((v3.toUInt32 >>> ((8 : Int32).toUInt32 &&& Int32.toUInt32 31)).toInt32) := ⟨_, rfl⟩
  replace h := h v4 ev4
  refine V.istore_n (y := v4) (lo' := [some (.int v4)]) hC d_JI_bitCount_40 rfl rfl ev4 rfl ?_
  refine V.iload_n hC d_JI_bitCount_41 rfl rfl ?_
  refine V.iload_n hC d_JI_bitCount_42 rfl rfl ?_
  refine V.bipush (v := 16) hC d_JI_bitCount_43 (by decide) ?_
  refine V.iushr hC d_JI_bitCount_45 ?_
  refine V.iadd hC d_JI_bitCount_46 ?_
  obtain ⟨v5, ev5⟩ : ∃ y : Int32, y = v4 + ((v4.toUInt32 >>> ((16 : Int32).toUInt32 &&& Int32.toUInt32 31)).toInt32) := ⟨_, rfl⟩
  replace h := h v5 ev5
  refine V.istore_n (y := v5) (lo' := [some (.int v5)]) hC d_JI_bitCount_47 rfl rfl ev5 rfl ?_
  refine V.iload_n hC d_JI_bitCount_48 rfl rfl ?_
  refine V.bipush (v := 63) hC d_JI_bitCount_49 (by decide) ?_
  refine V.iand hC d_JI_bitCount_51 ?_
  exact hR _ _ _ _ h rfl d_JI_bitCount_52
abbrev b_K_openDays : ByteArray := prog_4_method_13_code
def y_K_openDays : MethodName := ⟨nC2, "openDays", "(II)I"⟩
theorem d_K_openDays_0 : decode b_K_openDays 0 = .ok (.aload_n 0, 1) := by decide +kernel
theorem d_K_openDays_1 : decode b_K_openDays 1 = .ok (.getfield 9, 3) := by decide +kernel
theorem d_K_openDays_4 : decode b_K_openDays 4 = .ok (.iload_n 1, 1) := by decide +kernel
theorem d_K_openDays_5 : decode b_K_openDays 5 = .ok (.iaload, 1) := by decide +kernel
theorem d_K_openDays_6 : decode b_K_openDays 6 = .ok (.iload_n 2, 1) := by decide +kernel
theorem d_K_openDays_7 : decode b_K_openDays 7 = .ok (.if_icmp .le 5, 3) := by decide +kernel
theorem d_K_openDays_10 : decode b_K_openDays 10 = .ok (.iconst 0, 1) := by decide +kernel
theorem d_K_openDays_11 : decode b_K_openDays 11 = .ok (.ireturn, 1) := by decide +kernel
theorem d_K_openDays_12 : decode b_K_openDays 12 = .ok (.iconst 2, 1) := by decide +kernel
theorem d_K_openDays_13 : decode b_K_openDays 13 = .ok (.iload_n 2, 1) := by decide +kernel
theorem d_K_openDays_14 : decode b_K_openDays 14 = .ok (.ishl, 1) := by decide +kernel
theorem d_K_openDays_15 : decode b_K_openDays 15 = .ok (.iconst 1, 1) := by decide +kernel
theorem d_K_openDays_16 : decode b_K_openDays 16 = .ok (.aload_n 0, 1) := by decide +kernel
theorem d_K_openDays_17 : decode b_K_openDays 17 = .ok (.getfield 9, 3) := by decide +kernel
theorem d_K_openDays_20 : decode b_K_openDays 20 = .ok (.iload_n 1, 1) := by decide +kernel
theorem d_K_openDays_21 : decode b_K_openDays 21 = .ok (.iaload, 1) := by decide +kernel
theorem d_K_openDays_22 : decode b_K_openDays 22 = .ok (.ishl, 1) := by decide +kernel
theorem d_K_openDays_23 : decode b_K_openDays 23 = .ok (.isub, 1) := by decide +kernel
theorem d_K_openDays_24 : decode b_K_openDays 24 = .ok (.istore_n 3, 1) := by decide +kernel
theorem d_K_openDays_25 : decode b_K_openDays 25 = .ok (.iload_n 3, 1) := by decide +kernel
theorem d_K_openDays_26 : decode b_K_openDays 26 = .ok (.aload_n 0, 1) := by decide +kernel
theorem d_K_openDays_27 : decode b_K_openDays 27 = .ok (.getfield 27, 3) := by decide +kernel
theorem d_K_openDays_30 : decode b_K_openDays 30 = .ok (.aload_n 0, 1) := by decide +kernel
theorem d_K_openDays_31 : decode b_K_openDays 31 = .ok (.getfield 15, 3) := by decide +kernel
theorem d_K_openDays_34 : decode b_K_openDays 34 = .ok (.iload_n 1, 1) := by decide +kernel
theorem d_K_openDays_35 : decode b_K_openDays 35 = .ok (.iaload, 1) := by decide +kernel
theorem d_K_openDays_36 : decode b_K_openDays 36 = .ok (.iaload, 1) := by decide +kernel
theorem d_K_openDays_37 : decode b_K_openDays 37 = .ok (.iconst (-1), 1) := by decide +kernel
theorem d_K_openDays_38 : decode b_K_openDays 38 = .ok (.ixor, 1) := by decide +kernel
theorem d_K_openDays_39 : decode b_K_openDays 39 = .ok (.iand, 1) := by decide +kernel
theorem d_K_openDays_40 : decode b_K_openDays 40 = .ok (.invokestatic 59, 3) := by decide +kernel
theorem d_K_openDays_43 : decode b_K_openDays 43 = .ok (.ireturn, 1) := by decide +kernel
theorem qm_K_59 : Cond.methodLink nC2 59 y_JI_bitCount ∈ tbl := tbl_in 604 (by decide +kernel) rfl
theorem mo_K_openDays : MokV y_K_openDays b_K_openDays 4 (some .int) 2 := ⟨⟨(tbl_in 603 (by decide +kernel) rfl), (tbl_in 66 (by decide +kernel) rfl)⟩, ⟨(tbl_in 601 (by decide +kernel) rfl), tbl_lw _ (tbl_in 602 (by decide +kernel) rfl), (tbl_in 602 (by decide +kernel) rfl)⟩, ⟨by decide +kernel, by decide +kernel⟩, by decide +kernel⟩
def wp_K_openDays (σ : Hp) (a1 : Int32) (a2 : Int32) (P : Int32 → Hp → Prop) : Prop :=
  (vp_in a1 12) ∧ (((σ 27 (ix a1)) ≤ a2 → (vp_in a1 12) ∧ (∀ v4 : Int32, v4 = ((2 : Int32) <<< (a2 &&& 31)) - ((1 : Int32) <<< ((σ 27 (ix a1)) &&& 31)) → (vp_in a1 12) ∧ (vp_in (σ 28 (ix a1)) 8) ∧ wp_JI_bitCount σ (v4 &&& ((σ 32 (ix (σ 28 (ix a1)))) ^^^ (-1 : Int32))) (fun (r7 : Int32) (t8 : Hp) => P r7 t8))) ∧ (¬ (σ 27 (ix a1)) ≤ a2 → P (0 : Int32) σ))
set_option maxHeartbeats 4000000 in
set_option maxRecDepth 100000 in
theorem w_K_openDays (w : Wd) (σ : Hp) (a1 : Int32) (a2 : Int32) (P : Int32 → Hp → Prop) (h : wp_K_openDays σ a1 a2 P) : CtI μC w y_K_openDays b_K_openDays 4 (some .int) 1 [.ref (w.1 5), .int a1, .int a2] σ P := by
  unfold wp_K_openDays at h
  refine CtI.ofV (C := nC2) (lo := [some (.ref (w.1 5)), some (.int a1), some (.int a2), none]) exC (by decide +kernel) rfl rfl rfl (fun κ hC hR => ?_)
  refine V.aload_n hC d_K_openDays_0 rfl rfl ?_
  refine V.getR (j := 0) hC d_K_openDays_1 rfl rfl uC2 rfl rfl qf_K_9 ?_
  refine V.iload_n hC d_K_openDays_4 rfl rfl ?_
  obtain ⟨b1, h⟩ := h
  refine V.iald hC d_K_openDays_5 rfl b1 ?_
  refine V.iload_n hC d_K_openDays_6 rfl rfl ?_
  refine V.icmp_le (tgt := 12) hC d_K_openDays_7 (by decide) (fun c2 => ?_) (fun c2 => ?_)
  · replace h := h.1 c2
    refine V.iconst (v := 2) hC d_K_openDays_12 (by decide) ?_
    refine V.iload_n hC d_K_openDays_13 rfl rfl ?_
    refine V.ishl hC d_K_openDays_14 ?_
    refine V.iconst (v := 1) hC d_K_openDays_15 (by decide) ?_
    refine V.aload_n hC d_K_openDays_16 rfl rfl ?_
    refine V.getR (j := 0) hC d_K_openDays_17 rfl rfl uC2 rfl rfl qf_K_9 ?_
    refine V.iload_n hC d_K_openDays_20 rfl rfl ?_
    obtain ⟨b3, h⟩ := h
    refine V.iald hC d_K_openDays_21 rfl b3 ?_
    refine V.ishl hC d_K_openDays_22 ?_
    refine V.isub hC d_K_openDays_23 ?_
    obtain ⟨v4, ev4⟩ : ∃ y : Int32, y = ((2 : Int32) <<< (a2 &&& 31)) - ((1 : Int32) <<< ((σ 27 (ix a1)) &&& 31)) := ⟨_, rfl⟩
    replace h := h v4 ev4
    refine V.istore_n (y := v4) (lo' := [some (.ref (w.1 5)), some (.int a1), some (.int a2), some (.int v4)]) hC d_K_openDays_24 rfl rfl ev4 rfl ?_
    refine V.iload_n hC d_K_openDays_25 rfl rfl ?_
    refine V.aload_n hC d_K_openDays_26 rfl rfl ?_
    refine V.getR (j := 5) hC d_K_openDays_27 rfl rfl uC2 rfl rfl qf_K_27 ?_
    refine V.aload_n hC d_K_openDays_30 rfl rfl ?_
    refine V.getR (j := 1) hC d_K_openDays_31 rfl rfl uC2 rfl rfl qf_K_15 ?_
    refine V.iload_n hC d_K_openDays_34 rfl rfl ?_
    obtain ⟨b5, h⟩ := h
    refine V.iald hC d_K_openDays_35 rfl b5 ?_
    obtain ⟨b6, h⟩ := h
    refine V.iald hC d_K_openDays_36 rfl b6 ?_
    refine V.iconst (v := -1) hC d_K_openDays_37 (by decide) ?_
    refine V.ixor hC d_K_openDays_38 ?_
    refine V.iand hC d_K_openDays_39 ?_
    refine V.callSI hC exC (w_JI_bitCount w σ (v4 &&& ((σ 32 (ix (σ 28 (ix a1)))) ^^^ (-1 : Int32))) _ h) d_K_openDays_40 mo_JI_bitCount qm_K_59 rfl rfl rfl rfl (Nat.le_of_ble_eq_true rfl) (fun r7 t8 h => ?_)
    exact hR _ _ _ _ h rfl d_K_openDays_43
  · replace h := h.2 c2
    refine V.iconst (v := 0) hC d_K_openDays_10 (by decide) ?_
    exact hR _ _ _ _ h rfl d_K_openDays_11
abbrev b_D_won : ByteArray := prog_3_method_3_code
def y_D_won : MethodName := ⟨nC1, "won", "(II)I"⟩
theorem d_D_won_0 : decode b_D_won 0 = .ok (.aload_n 0, 1) := by decide +kernel
theorem d_D_won_1 : decode b_D_won 1 = .ok (.getfield 29, 3) := by decide +kernel
theorem d_D_won_4 : decode b_D_won 4 = .ok (.iload_n 1, 1) := by decide +kernel
theorem d_D_won_5 : decode b_D_won 5 = .ok (.iaload, 1) := by decide +kernel
theorem d_D_won_6 : decode b_D_won 6 = .ok (.aload_n 0, 1) := by decide +kernel
theorem d_D_won_7 : decode b_D_won 7 = .ok (.getfield 21, 3) := by decide +kernel
theorem d_D_won_10 : decode b_D_won 10 = .ok (.iload_n 1, 1) := by decide +kernel
theorem d_D_won_11 : decode b_D_won 11 = .ok (.iload_n 2, 1) := by decide +kernel
theorem d_D_won_12 : decode b_D_won 12 = .ok (.invokevirtual 55, 3) := by decide +kernel
theorem d_D_won_15 : decode b_D_won 15 = .ok (.imul, 1) := by decide +kernel
theorem d_D_won_16 : decode b_D_won 16 = .ok (.ireturn, 1) := by decide +kernel
theorem qm_D_55 : Cond.methodLink nC1 55 y_K_openDays ∈ tbl := tbl_in 600 (by decide +kernel) rfl
theorem mo_D_won : MokV y_D_won b_D_won 3 (some .int) 2 := ⟨⟨(tbl_in 599 (by decide +kernel) rfl), (tbl_in 64 (by decide +kernel) rfl)⟩, ⟨(tbl_in 597 (by decide +kernel) rfl), tbl_lw _ (tbl_in 598 (by decide +kernel) rfl), (tbl_in 598 (by decide +kernel) rfl)⟩, ⟨by decide +kernel, by decide +kernel⟩, by decide +kernel⟩
def wp_D_won (σ : Hp) (a1 : Int32) (a2 : Int32) (P : Int32 → Hp → Prop) : Prop :=
  (vp_in a1 12) ∧ wp_K_openDays σ a1 a2 (fun (r2 : Int32) (t3 : Hp) => P ((σ 17 (ix a1)) * r2) t3)
set_option maxHeartbeats 4000000 in
set_option maxRecDepth 100000 in
theorem w_D_won (w : Wd) (σ : Hp) (a1 : Int32) (a2 : Int32) (P : Int32 → Hp → Prop) (h : wp_D_won σ a1 a2 P) : CtI μC w y_D_won b_D_won 3 (some .int) 2 [.ref (w.1 3), .int a1, .int a2] σ P := by
  unfold wp_D_won at h
  refine CtI.ofV (C := nC1) (lo := [some (.ref (w.1 3)), some (.int a1), some (.int a2)]) exC (by decide +kernel) rfl rfl rfl (fun κ hC hR => ?_)
  refine V.aload_n hC d_D_won_0 rfl rfl ?_
  refine V.getR (j := 3) hC d_D_won_1 rfl rfl uC1 rfl rfl qf_D_29 ?_
  refine V.iload_n hC d_D_won_4 rfl rfl ?_
  obtain ⟨b1, h⟩ := h
  refine V.iald hC d_D_won_5 rfl b1 ?_
  refine V.aload_n hC d_D_won_6 rfl rfl ?_
  refine V.getR (j := 1) hC d_D_won_7 rfl rfl uC1 rfl rfl qf_D_21 ?_
  refine V.iload_n hC d_D_won_10 rfl rfl ?_
  refine V.iload_n hC d_D_won_11 rfl rfl ?_
  refine V.callVI hC exC (w_K_openDays w σ a1 a2 _ h) d_D_won_12 mo_K_openDays qm_D_55 rfl rfl rfl rfl rfl rfl rfl (Nat.le_of_ble_eq_true rfl) (fun r2 t3 h => ?_)
  refine V.imul hC d_D_won_15 ?_
  exact hR _ _ _ _ h rfl d_D_won_16
abbrev b_D_owed : ByteArray := prog_3_method_4_code
def y_D_owed : MethodName := ⟨nC1, "owed", "(III)I"⟩
theorem d_D_owed_0 : decode b_D_owed 0 = .ok (.aload_n 0, 1) := by decide +kernel
theorem d_D_owed_1 : decode b_D_owed 1 = .ok (.getfield 21, 3) := by decide +kernel
theorem d_D_owed_4 : decode b_D_owed 4 = .ok (.invokevirtual 58, 3) := by decide +kernel
theorem d_D_owed_7 : decode b_D_owed 7 = .ok (.istore 4, 2) := by decide +kernel
theorem d_D_owed_9 : decode b_D_owed 9 = .ok (.iconst 0, 1) := by decide +kernel
theorem d_D_owed_10 : decode b_D_owed 10 = .ok (.istore 5, 2) := by decide +kernel
theorem d_D_owed_12 : decode b_D_owed 12 = .ok (.iload 5, 2) := by decide +kernel
theorem d_D_owed_14 : decode b_D_owed 14 = .ok (.aload_n 0, 1) := by decide +kernel
theorem d_D_owed_15 : decode b_D_owed 15 = .ok (.getfield 21, 3) := by decide +kernel
theorem d_D_owed_18 : decode b_D_owed 18 = .ok (.getfield 41, 3) := by decide +kernel
theorem d_D_owed_21 : decode b_D_owed 21 = .ok (.if_icmp .ge 68, 3) := by decide +kernel
theorem d_D_owed_24 : decode b_D_owed 24 = .ok (.aload_n 0, 1) := by decide +kernel
theorem d_D_owed_25 : decode b_D_owed 25 = .ok (.getfield 21, 3) := by decide +kernel
theorem d_D_owed_28 : decode b_D_owed 28 = .ok (.getfield 45, 3) := by decide +kernel
theorem d_D_owed_31 : decode b_D_owed 31 = .ok (.iload 5, 2) := by decide +kernel
theorem d_D_owed_33 : decode b_D_owed 33 = .ok (.iaload, 1) := by decide +kernel
theorem d_D_owed_34 : decode b_D_owed 34 = .ok (.iload_n 3, 1) := by decide +kernel
theorem d_D_owed_35 : decode b_D_owed 35 = .ok (.if_icmp .ne 21, 3) := by decide +kernel
theorem d_D_owed_38 : decode b_D_owed 38 = .ok (.aload_n 0, 1) := by decide +kernel
theorem d_D_owed_39 : decode b_D_owed 39 = .ok (.getfield 21, 3) := by decide +kernel
theorem d_D_owed_42 : decode b_D_owed 42 = .ok (.getfield 48, 3) := by decide +kernel
theorem d_D_owed_45 : decode b_D_owed 45 = .ok (.iload 5, 2) := by decide +kernel
theorem d_D_owed_47 : decode b_D_owed 47 = .ok (.iaload, 1) := by decide +kernel
theorem d_D_owed_48 : decode b_D_owed 48 = .ok (.iload_n 2, 1) := by decide +kernel
theorem d_D_owed_49 : decode b_D_owed 49 = .ok (.if_icmp .ne 7, 3) := by decide +kernel
theorem d_D_owed_52 : decode b_D_owed 52 = .ok (.iconst 1, 1) := by decide +kernel
theorem d_D_owed_53 : decode b_D_owed 53 = .ok (.goto 4, 3) := by decide +kernel
theorem d_D_owed_56 : decode b_D_owed 56 = .ok (.iconst 0, 1) := by decide +kernel
theorem d_D_owed_57 : decode b_D_owed 57 = .ok (.istore 6, 2) := by decide +kernel
theorem d_D_owed_59 : decode b_D_owed 59 = .ok (.iload 6, 2) := by decide +kernel
theorem d_D_owed_61 : decode b_D_owed 61 = .ok (.ifCond .eq 22, 3) := by decide +kernel
theorem d_D_owed_64 : decode b_D_owed 64 = .ok (.iload 4, 2) := by decide +kernel
theorem d_D_owed_66 : decode b_D_owed 66 = .ok (.iload 5, 2) := by decide +kernel
theorem d_D_owed_68 : decode b_D_owed 68 = .ok (.ishr, 1) := by decide +kernel
theorem d_D_owed_69 : decode b_D_owed 69 = .ok (.iconst 1, 1) := by decide +kernel
theorem d_D_owed_70 : decode b_D_owed 70 = .ok (.iand, 1) := by decide +kernel
theorem d_D_owed_71 : decode b_D_owed 71 = .ok (.iconst 1, 1) := by decide +kernel
theorem d_D_owed_72 : decode b_D_owed 72 = .ok (.if_icmp .ne 11, 3) := by decide +kernel
theorem d_D_owed_75 : decode b_D_owed 75 = .ok (.aload_n 0, 1) := by decide +kernel
theorem d_D_owed_76 : decode b_D_owed 76 = .ok (.iload 5, 2) := by decide +kernel
theorem d_D_owed_78 : decode b_D_owed 78 = .ok (.iload_n 1, 1) := by decide +kernel
theorem d_D_owed_79 : decode b_D_owed 79 = .ok (.invokevirtual 62, 3) := by decide +kernel
theorem d_D_owed_82 : decode b_D_owed 82 = .ok (.ireturn, 1) := by decide +kernel
theorem d_D_owed_83 : decode b_D_owed 83 = .ok (.iinc 5 1, 3) := by decide +kernel
theorem d_D_owed_86 : decode b_D_owed 86 = .ok (.goto (-74), 3) := by decide +kernel
theorem d_D_owed_89 : decode b_D_owed 89 = .ok (.iconst 0, 1) := by decide +kernel
theorem d_D_owed_90 : decode b_D_owed 90 = .ok (.ireturn, 1) := by decide +kernel
theorem qm_D_58 : Cond.methodLink nC1 58 y_K_leadingOfAll ∈ tbl := tbl_in 580 (by decide +kernel) rfl
theorem qm_D_62 : Cond.methodLink nC1 62 y_D_won ∈ tbl := tbl_in 596 (by decide +kernel) rfl
theorem mo_D_owed : MokV y_D_owed b_D_owed 7 (some .int) 3 := ⟨⟨(tbl_in 579 (by decide +kernel) rfl), (tbl_in 64 (by decide +kernel) rfl)⟩, ⟨(tbl_in 577 (by decide +kernel) rfl), tbl_lw _ (tbl_in 578 (by decide +kernel) rfl), (tbl_in 578 (by decide +kernel) rfl)⟩, ⟨by decide +kernel, by decide +kernel⟩, by decide +kernel⟩
def j_D_owed_57 (P : Int32 → Hp → Prop) (I12 : Hp → Int32 → Int32 → Int32 → Int32 → Int32 → Prop) (σ : Hp) (x1 : Int32) (x2 : Int32) (x3 : Int32) (x4 : Int32) (x5 : Int32) (s0 : Int32) : Prop :=
  ((s0 = 0 → (∀ v2 : Int32, v2 = x5 + (1 : Int32) → I12 σ x1 x2 x3 x4 v2)) ∧ (¬ s0 = 0 → ((¬ ((x4 >>> (x5 &&& 31)) &&& (1 : Int32)) = (1 : Int32) → (∀ v4 : Int32, v4 = x5 + (1 : Int32) → I12 σ x1 x2 x3 x4 v4)) ∧ (((x4 >>> (x5 &&& 31)) &&& (1 : Int32)) = (1 : Int32) → wp_D_won σ x5 x1 (fun (r5 : Int32) (t6 : Hp) => P r5 t6)))))
def j_D_owed_56 (P : Int32 → Hp → Prop) (I12 : Hp → Int32 → Int32 → Int32 → Int32 → Int32 → Prop) (σ : Hp) (x1 : Int32) (x2 : Int32) (x3 : Int32) (x4 : Int32) (x5 : Int32) : Prop :=
  j_D_owed_57 P I12 σ x1 x2 x3 x4 x5 (0 : Int32)
def b_D_owed_12_ (P : Int32 → Hp → Prop)  (I12 : Hp → Int32 → Int32 → Int32 → Int32 → Int32 → Prop) (σ : Hp) (x1 : Int32) (x2 : Int32) (x3 : Int32) (x4 : Int32) (x5 : Int32) : Prop :=
  (((σ 5 6) ≤ x5 → P (0 : Int32) σ) ∧ (¬ (σ 5 6) ≤ x5 → (vp_in x5 12) ∧ ((¬ (σ 28 (ix x5)) = x3 → j_D_owed_56 P I12 σ x1 x2 x3 x4 x5) ∧ ((σ 28 (ix x5)) = x3 → (vp_in x5 12) ∧ ((¬ (σ 29 (ix x5)) = x2 → j_D_owed_56 P I12 σ x1 x2 x3 x4 x5) ∧ ((σ 29 (ix x5)) = x2 → j_D_owed_57 P I12 σ x1 x2 x3 x4 x5 (1 : Int32)))))))
def j_D_owed_12 (P : Int32 → Hp → Prop)  (σ : Hp) (x1 : Int32) (x2 : Int32) (x3 : Int32) (x4 : Int32) (x5 : Int32) : Prop := ∀ I12 : Hp → Int32 → Int32 → Int32 → Int32 → Int32 → Prop, (∀ (σ : Hp) (x1 : Int32) (x2 : Int32) (x3 : Int32) (x4 : Int32) (x5 : Int32), b_D_owed_12_  P  I12 σ x1 x2 x3 x4 x5 → I12 σ x1 x2 x3 x4 x5) → I12 σ x1 x2 x3 x4 x5
def wp_D_owed (σ : Hp) (a1 : Int32) (a2 : Int32) (a3 : Int32) (P : Int32 → Hp → Prop) : Prop :=
  wp_K_leadingOfAll σ (fun (r12 : Int32) (t13 : Hp) => j_D_owed_12 P t13 a1 a2 a3 r12 (0 : Int32))
set_option maxHeartbeats 4000000 in
set_option maxRecDepth 100000 in
theorem wj_D_owed_57 {w : Wd} {κ : Kx} {P : Int32 → Hp → Prop} (hC : Cx μC w 7 κ nC1 b_D_owed 3) (hR : RtI μC w 7 κ b_D_owed .int P) {I12 : Hp → Int32 → Int32 → Int32 → Int32 → Int32 → Prop} (hI12 : ∀ σ x1 x2 x3 x4 x5, I12 σ x1 x2 x3 x4 x5 → V μC w 7 κ σ [some (.ref (w.1 3)), some (.int x1), some (.int x2), some (.int x3), some (.int x4), some (.int x5), none] 12 []) : ∀ (σ : Hp) (x1 : Int32) (x2 : Int32) (x3 : Int32) (x4 : Int32) (x5 : Int32) (s0 : Int32), j_D_owed_57  P I12 σ x1 x2 x3 x4 x5 s0 → V μC w 7 κ σ [some (.ref (w.1 3)), some (.int x1), some (.int x2), some (.int x3), some (.int x4), some (.int x5), none] 57 [.int s0] := by
  intro σ x1 x2 x3 x4 x5 s0 h
  unfold j_D_owed_57 at h
  refine V.istore (y := s0) (lo' := [some (.ref (w.1 3)), some (.int x1), some (.int x2), some (.int x3), some (.int x4), some (.int x5), some (.int s0)]) hC d_D_owed_57 rfl rfl rfl ?_
  refine V.iload hC d_D_owed_59 rfl ?_
  refine V.if_eq (tgt := 83) hC d_D_owed_61 (by decide) (fun c1 => ?_) (fun c1 => ?_)
  · replace h := h.1 c1
    obtain ⟨v2, ev2⟩ : ∃ y : Int32, y = x5 + (1 : Int32) := ⟨_, rfl⟩
    replace h := h v2 ev2
    refine V.iinc (y := v2) (lo' := [some (.ref (w.1 3)), some (.int x1), some (.int x2), some (.int x3), some (.int x4), some (.int v2), some (.int s0)]) hC d_D_owed_83 rfl rfl (show v2 = _ + Int32.ofInt (1) from ev2) rfl ?_
    refine V.goto (tgt := 12) hC d_D_owed_86 (by decide) ?_
    exact V.msk [true, true, true, true, true, true, false] rfl (hI12 σ x1 x2 x3 x4 v2 h)
  · replace h := h.2 c1
    refine V.iload hC d_D_owed_64 rfl ?_
    refine V.iload hC d_D_owed_66 rfl ?_
    refine V.ishr hC d_D_owed_68 ?_
    refine V.iconst (v := 1) hC d_D_owed_69 (by decide) ?_
    refine V.iand hC d_D_owed_70 ?_
    refine V.iconst (v := 1) hC d_D_owed_71 (by decide) ?_
    refine V.icmp_ne (tgt := 83) hC d_D_owed_72 (by decide) (fun c3 => ?_) (fun c3 => ?_)
    · replace h := h.1 c3
      obtain ⟨v4, ev4⟩ : ∃ y : Int32, y = x5 + (1 : Int32) := ⟨_, rfl⟩
      replace h := h v4 ev4
      refine V.iinc (y := v4) (lo' := [some (.ref (w.1 3)), some (.int x1), some (.int x2), some (.int x3), some (.int x4), some (.int v4), some (.int s0)]) hC d_D_owed_83 rfl rfl (show v4 = _ + Int32.ofInt (1) from ev4) rfl ?_
      refine V.goto (tgt := 12) hC d_D_owed_86 (by decide) ?_
      exact V.msk [true, true, true, true, true, true, false] rfl (hI12 σ x1 x2 x3 x4 v4 h)
    · replace h := h.2 c3
      refine V.aload_n hC d_D_owed_75 rfl rfl ?_
      refine V.iload hC d_D_owed_76 rfl ?_
      refine V.iload_n hC d_D_owed_78 rfl rfl ?_
      refine V.callVI hC exC (w_D_won w σ x5 x1 _ h) d_D_owed_79 mo_D_won qm_D_62 rfl rfl rfl rfl rfl rfl rfl (Nat.le_of_ble_eq_true rfl) (fun r5 t6 h => ?_)
      exact hR _ _ _ _ h rfl d_D_owed_82
set_option maxHeartbeats 4000000 in
set_option maxRecDepth 100000 in
theorem wj_D_owed_56 {w : Wd} {κ : Kx} {P : Int32 → Hp → Prop} (hC : Cx μC w 7 κ nC1 b_D_owed 3) (hR : RtI μC w 7 κ b_D_owed .int P) {I12 : Hp → Int32 → Int32 → Int32 → Int32 → Int32 → Prop} (hI12 : ∀ σ x1 x2 x3 x4 x5, I12 σ x1 x2 x3 x4 x5 → V μC w 7 κ σ [some (.ref (w.1 3)), some (.int x1), some (.int x2), some (.int x3), some (.int x4), some (.int x5), none] 12 []) : ∀ (σ : Hp) (x1 : Int32) (x2 : Int32) (x3 : Int32) (x4 : Int32) (x5 : Int32), j_D_owed_56  P I12 σ x1 x2 x3 x4 x5 → V μC w 7 κ σ [some (.ref (w.1 3)), some (.int x1), some (.int x2), some (.int x3), some (.int x4), some (.int x5), none] 56 [] := by
  intro σ x1 x2 x3 x4 x5 h
  unfold j_D_owed_56 at h
  refine V.iconst (v := 0) hC d_D_owed_56 (by decide) ?_
  exact V.msk [true, true, true, true, true, true, false] rfl (wj_D_owed_57  hC hR hI12 σ x1 x2 x3 x4 x5 (0 : Int32) h)
set_option maxHeartbeats 4000000 in
set_option maxRecDepth 100000 in
theorem wj_D_owed_12 {w : Wd} {κ : Kx} {P : Int32 → Hp → Prop} (hC : Cx μC w 7 κ nC1 b_D_owed 3) (hR : RtI μC w 7 κ b_D_owed .int P)  : ∀ (σ : Hp) (x1 : Int32) (x2 : Int32) (x3 : Int32) (x4 : Int32) (x5 : Int32), j_D_owed_12  P  σ x1 x2 x3 x4 x5 → V μC w 7 κ σ [some (.ref (w.1 3)), some (.int x1), some (.int x2), some (.int x3), some (.int x4), some (.int x5), none] 12 [] := by
  intro σ x1 x2 x3 x4 x5 h
  refine h (fun σ x1 x2 x3 x4 x5 => V μC w 7 κ σ [some (.ref (w.1 3)), some (.int x1), some (.int x2), some (.int x3), some (.int x4), some (.int x5), none] 12 []) (fun σ x1 x2 x3 x4 x5 h => ?_)
  unfold b_D_owed_12_ at h
  refine V.iload hC d_D_owed_12 rfl ?_
  refine V.aload_n hC d_D_owed_14 rfl rfl ?_
  refine V.getR (j := 1) hC d_D_owed_15 rfl rfl uC1 rfl rfl qf_D_21 ?_
  refine V.getI (j := 6) hC d_D_owed_18 rfl rfl uC2 rfl rfl qf_D_41 ?_
  refine V.icmp_ge (tgt := 89) hC d_D_owed_21 (by decide) (fun c7 => ?_) (fun c7 => ?_)
  · replace h := h.1 c7
    refine V.iconst (v := 0) hC d_D_owed_89 (by decide) ?_
    exact hR _ _ _ _ h rfl d_D_owed_90
  · replace h := h.2 c7
    refine V.aload_n hC d_D_owed_24 rfl rfl ?_
    refine V.getR (j := 1) hC d_D_owed_25 rfl rfl uC1 rfl rfl qf_D_21 ?_
    refine V.getR (j := 1) hC d_D_owed_28 rfl rfl uC2 rfl rfl qf_D_45 ?_
    refine V.iload hC d_D_owed_31 rfl ?_
    obtain ⟨b8, h⟩ := h
    refine V.iald hC d_D_owed_33 rfl b8 ?_
    refine V.iload_n hC d_D_owed_34 rfl rfl ?_
    refine V.icmp_ne (tgt := 56) hC d_D_owed_35 (by decide) (fun c9 => ?_) (fun c9 => ?_)
    · replace h := h.1 c9
      exact V.msk [true, true, true, true, true, true, false] rfl (wj_D_owed_56  hC hR (fun _ _ _ _ _ _ h => h) σ x1 x2 x3 x4 x5 h)
    · replace h := h.2 c9
      refine V.aload_n hC d_D_owed_38 rfl rfl ?_
      refine V.getR (j := 1) hC d_D_owed_39 rfl rfl uC1 rfl rfl qf_D_21 ?_
      refine V.getR (j := 2) hC d_D_owed_42 rfl rfl uC2 rfl rfl qf_D_48 ?_
      refine V.iload hC d_D_owed_45 rfl ?_
      obtain ⟨b10, h⟩ := h
      refine V.iald hC d_D_owed_47 rfl b10 ?_
      refine V.iload_n hC d_D_owed_48 rfl rfl ?_
      refine V.icmp_ne (tgt := 56) hC d_D_owed_49 (by decide) (fun c11 => ?_) (fun c11 => ?_)
      · replace h := h.1 c11
        exact V.msk [true, true, true, true, true, true, false] rfl (wj_D_owed_56  hC hR (fun _ _ _ _ _ _ h => h) σ x1 x2 x3 x4 x5 h)
      · replace h := h.2 c11
        refine V.iconst (v := 1) hC d_D_owed_52 (by decide) ?_
        refine V.goto (tgt := 57) hC d_D_owed_53 (by decide) ?_
        exact V.msk [true, true, true, true, true, true, false] rfl (wj_D_owed_57  hC hR (fun _ _ _ _ _ _ h => h) σ x1 x2 x3 x4 x5 (1 : Int32) h)
set_option maxHeartbeats 4000000 in
set_option maxRecDepth 100000 in
theorem w_D_owed (w : Wd) (σ : Hp) (a1 : Int32) (a2 : Int32) (a3 : Int32) (P : Int32 → Hp → Prop) (h : wp_D_owed σ a1 a2 a3 P) : CtI μC w y_D_owed b_D_owed 7 (some .int) 3 [.ref (w.1 3), .int a1, .int a2, .int a3] σ P := by
  unfold wp_D_owed at h
  refine CtI.ofV (C := nC1) (lo := [some (.ref (w.1 3)), some (.int a1), some (.int a2), some (.int a3), none, none, none]) exC (by decide +kernel) rfl rfl rfl (fun κ hC hR => ?_)
  refine V.aload_n hC d_D_owed_0 rfl rfl ?_
  refine V.getR (j := 1) hC d_D_owed_1 rfl rfl uC1 rfl rfl qf_D_21 ?_
  refine V.callVI hC exC (w_K_leadingOfAll w σ  _ h) d_D_owed_4 mo_K_leadingOfAll qm_D_58 rfl rfl rfl rfl rfl rfl rfl (Nat.le_of_ble_eq_true rfl) (fun r12 t13 h => ?_)
  refine V.istore (y := r12) (lo' := [some (.ref (w.1 3)), some (.int a1), some (.int a2), some (.int a3), some (.int r12), none, none]) hC d_D_owed_7 rfl rfl rfl ?_
  refine V.iconst (v := 0) hC d_D_owed_9 (by decide) ?_
  refine V.istore (y := (0 : Int32)) (lo' := [some (.ref (w.1 3)), some (.int a1), some (.int a2), some (.int a3), some (.int r12), some (.int (0 : Int32)), none]) hC d_D_owed_10 rfl rfl rfl ?_
  exact V.msk [true, true, true, true, true, true, false] rfl (wj_D_owed_12  hC hR  t13 a1 a2 a3 r12 (0 : Int32) h)
abbrev b_P_owes : ByteArray := prog_1_method_14_code
def y_P_owes : MethodName := ⟨nC7, "owes", "(III)I"⟩
theorem d_P_owes_0 : decode b_P_owes 0 = .ok (.iload_n 1, 1) := by decide +kernel
theorem d_P_owes_1 : decode b_P_owes 1 = .ok (.invokestatic 126, 3) := by decide +kernel
theorem d_P_owes_4 : decode b_P_owes 4 = .ok (.ifCond .eq 25, 3) := by decide +kernel
theorem d_P_owes_7 : decode b_P_owes 7 = .ok (.aload_n 0, 1) := by decide +kernel
theorem d_P_owes_8 : decode b_P_owes 8 = .ok (.iload_n 2, 1) := by decide +kernel
theorem d_P_owes_9 : decode b_P_owes 9 = .ok (.iload_n 3, 1) := by decide +kernel
theorem d_P_owes_10 : decode b_P_owes 10 = .ok (.invokevirtual 172, 3) := by decide +kernel
theorem d_P_owes_13 : decode b_P_owes 13 = .ok (.ifCond .eq 16, 3) := by decide +kernel
theorem d_P_owes_16 : decode b_P_owes 16 = .ok (.aload_n 0, 1) := by decide +kernel
theorem d_P_owes_17 : decode b_P_owes 17 = .ok (.getfield 28, 3) := by decide +kernel
theorem d_P_owes_20 : decode b_P_owes 20 = .ok (.iload_n 1, 1) := by decide +kernel
theorem d_P_owes_21 : decode b_P_owes 21 = .ok (.iload_n 2, 1) := by decide +kernel
theorem d_P_owes_22 : decode b_P_owes 22 = .ok (.iload_n 3, 1) := by decide +kernel
theorem d_P_owes_23 : decode b_P_owes 23 = .ok (.invokevirtual 180, 3) := by decide +kernel
theorem d_P_owes_26 : decode b_P_owes 26 = .ok (.goto 5, 3) := by decide +kernel
theorem d_P_owes_29 : decode b_P_owes 29 = .ok (.bipush (-2), 2) := by decide +kernel
theorem d_P_owes_31 : decode b_P_owes 31 = .ok (.ireturn, 1) := by decide +kernel
theorem qm_P_180 : Cond.methodLink nC7 180 y_D_owed ∈ tbl := tbl_in 576 (by decide +kernel) rfl
theorem mo_P_owes : MokV y_P_owes b_P_owes 4 (some .int) 3 := ⟨⟨(tbl_in 575 (by decide +kernel) rfl), (tbl_in 62 (by decide +kernel) rfl)⟩, ⟨(tbl_in 573 (by decide +kernel) rfl), tbl_lw _ (tbl_in 574 (by decide +kernel) rfl), (tbl_in 574 (by decide +kernel) rfl)⟩, ⟨by decide +kernel, by decide +kernel⟩, by decide +kernel⟩
def wp_P_owes (σ : Hp) (a1 : Int32) (a2 : Int32) (a3 : Int32) (P : Int32 → Hp → Prop) : Prop :=
  wp_P_isDay σ a1 (fun (r1 : Int32) (t2 : Hp) => ((r1 = 0 → P (-2 : Int32) t2) ∧ (¬ r1 = 0 → wp_P_areTwoHouses t2 a2 a3 (fun (r4 : Int32) (t5 : Hp) => ((r4 = 0 → P (-2 : Int32) t5) ∧ (¬ r4 = 0 → wp_D_owed t5 a1 a2 a3 (fun (r7 : Int32) (t8 : Hp) => P r7 t8)))))))
set_option maxHeartbeats 4000000 in
set_option maxRecDepth 100000 in
theorem w_P_owes (w : Wd) (σ : Hp) (a1 : Int32) (a2 : Int32) (a3 : Int32) (P : Int32 → Hp → Prop) (h : wp_P_owes σ a1 a2 a3 P) : CtI μC w y_P_owes b_P_owes 4 (some .int) 4 [.ref (w.1 0), .int a1, .int a2, .int a3] σ P := by
  unfold wp_P_owes at h
  refine CtI.ofV (C := nC7) (lo := [some (.ref (w.1 0)), some (.int a1), some (.int a2), some (.int a3)]) exC (by decide +kernel) rfl rfl rfl (fun κ hC hR => ?_)
  refine V.iload_n hC d_P_owes_0 rfl rfl ?_
  refine V.callSI hC exC (w_P_isDay w σ a1 _ h) d_P_owes_1 mo_P_isDay qm_P_126 rfl rfl rfl rfl (Nat.le_of_ble_eq_true rfl) (fun r1 t2 h => ?_)
  refine V.if_eq (tgt := 29) hC d_P_owes_4 (by decide) (fun c3 => ?_) (fun c3 => ?_)
  · replace h := h.1 c3
    refine V.bipush (v := -2) hC d_P_owes_29 (by decide) ?_
    exact hR _ _ _ _ h rfl d_P_owes_31
  · replace h := h.2 c3
    refine V.aload_n hC d_P_owes_7 rfl rfl ?_
    refine V.iload_n hC d_P_owes_8 rfl rfl ?_
    refine V.iload_n hC d_P_owes_9 rfl rfl ?_
    refine V.callVI hC exC (w_P_areTwoHouses w t2 a2 a3 _ h) d_P_owes_10 mo_P_areTwoHouses qm_P_172 rfl rfl rfl rfl rfl rfl rfl (Nat.le_of_ble_eq_true rfl) (fun r4 t5 h => ?_)
    refine V.if_eq (tgt := 29) hC d_P_owes_13 (by decide) (fun c6 => ?_) (fun c6 => ?_)
    · replace h := h.1 c6
      refine V.bipush (v := -2) hC d_P_owes_29 (by decide) ?_
      exact hR _ _ _ _ h rfl d_P_owes_31
    · replace h := h.2 c6
      refine V.aload_n hC d_P_owes_16 rfl rfl ?_
      refine V.getR (j := 2) hC d_P_owes_17 rfl rfl uC7 rfl rfl qf_P_28 ?_
      refine V.iload_n hC d_P_owes_20 rfl rfl ?_
      refine V.iload_n hC d_P_owes_21 rfl rfl ?_
      refine V.iload_n hC d_P_owes_22 rfl rfl ?_
      refine V.callVI hC exC (w_D_owed w t5 a1 a2 a3 _ h) d_P_owes_23 mo_D_owed qm_P_180 rfl rfl rfl rfl rfl rfl rfl (Nat.le_of_ble_eq_true rfl) (fun r7 t8 h => ?_)
      refine V.goto (tgt := 31) hC d_P_owes_26 (by decide) ?_
      exact hR _ _ _ _ h rfl d_P_owes_31
abbrev b_D_balanceOf : ByteArray := prog_3_method_5_code
def y_D_balanceOf : MethodName := ⟨nC1, "balanceOf", "(III)I"⟩
theorem d_D_balanceOf_0 : decode b_D_balanceOf 0 = .ok (.iconst 0, 1) := by decide +kernel
theorem d_D_balanceOf_1 : decode b_D_balanceOf 1 = .ok (.istore 4, 2) := by decide +kernel
theorem d_D_balanceOf_3 : decode b_D_balanceOf 3 = .ok (.iconst 0, 1) := by decide +kernel
theorem d_D_balanceOf_4 : decode b_D_balanceOf 4 = .ok (.istore 5, 2) := by decide +kernel
theorem d_D_balanceOf_6 : decode b_D_balanceOf 6 = .ok (.iload 5, 2) := by decide +kernel
theorem d_D_balanceOf_8 : decode b_D_balanceOf 8 = .ok (.aload_n 0, 1) := by decide +kernel
theorem d_D_balanceOf_9 : decode b_D_balanceOf 9 = .ok (.getfield 21, 3) := by decide +kernel
theorem d_D_balanceOf_12 : decode b_D_balanceOf 12 = .ok (.getfield 41, 3) := by decide +kernel
theorem d_D_balanceOf_15 : decode b_D_balanceOf 15 = .ok (.if_icmp .ge 76, 3) := by decide +kernel
theorem d_D_balanceOf_18 : decode b_D_balanceOf 18 = .ok (.iload_n 3, 1) := by decide +kernel
theorem d_D_balanceOf_19 : decode b_D_balanceOf 19 = .ok (.iload 5, 2) := by decide +kernel
theorem d_D_balanceOf_21 : decode b_D_balanceOf 21 = .ok (.ishr, 1) := by decide +kernel
theorem d_D_balanceOf_22 : decode b_D_balanceOf 22 = .ok (.iconst 1, 1) := by decide +kernel
theorem d_D_balanceOf_23 : decode b_D_balanceOf 23 = .ok (.iand, 1) := by decide +kernel
theorem d_D_balanceOf_24 : decode b_D_balanceOf 24 = .ok (.ifCond .ne 6, 3) := by decide +kernel
theorem d_D_balanceOf_27 : decode b_D_balanceOf 27 = .ok (.goto 58, 3) := by decide +kernel
theorem d_D_balanceOf_30 : decode b_D_balanceOf 30 = .ok (.aload_n 0, 1) := by decide +kernel
theorem d_D_balanceOf_31 : decode b_D_balanceOf 31 = .ok (.getfield 21, 3) := by decide +kernel
theorem d_D_balanceOf_34 : decode b_D_balanceOf 34 = .ok (.getfield 45, 3) := by decide +kernel
theorem d_D_balanceOf_37 : decode b_D_balanceOf 37 = .ok (.iload 5, 2) := by decide +kernel
theorem d_D_balanceOf_39 : decode b_D_balanceOf 39 = .ok (.iaload, 1) := by decide +kernel
theorem d_D_balanceOf_40 : decode b_D_balanceOf 40 = .ok (.iload_n 2, 1) := by decide +kernel
theorem d_D_balanceOf_41 : decode b_D_balanceOf 41 = .ok (.if_icmp .ne 18, 3) := by decide +kernel
theorem d_D_balanceOf_44 : decode b_D_balanceOf 44 = .ok (.iload 4, 2) := by decide +kernel
theorem d_D_balanceOf_46 : decode b_D_balanceOf 46 = .ok (.aload_n 0, 1) := by decide +kernel
theorem d_D_balanceOf_47 : decode b_D_balanceOf 47 = .ok (.iload 5, 2) := by decide +kernel
theorem d_D_balanceOf_49 : decode b_D_balanceOf 49 = .ok (.iload_n 1, 1) := by decide +kernel
theorem d_D_balanceOf_50 : decode b_D_balanceOf 50 = .ok (.invokevirtual 62, 3) := by decide +kernel
theorem d_D_balanceOf_53 : decode b_D_balanceOf 53 = .ok (.iadd, 1) := by decide +kernel
theorem d_D_balanceOf_54 : decode b_D_balanceOf 54 = .ok (.istore 4, 2) := by decide +kernel
theorem d_D_balanceOf_56 : decode b_D_balanceOf 56 = .ok (.goto 29, 3) := by decide +kernel
theorem d_D_balanceOf_59 : decode b_D_balanceOf 59 = .ok (.aload_n 0, 1) := by decide +kernel
theorem d_D_balanceOf_60 : decode b_D_balanceOf 60 = .ok (.getfield 21, 3) := by decide +kernel
theorem d_D_balanceOf_63 : decode b_D_balanceOf 63 = .ok (.getfield 48, 3) := by decide +kernel
theorem d_D_balanceOf_66 : decode b_D_balanceOf 66 = .ok (.iload 5, 2) := by decide +kernel
theorem d_D_balanceOf_68 : decode b_D_balanceOf 68 = .ok (.iaload, 1) := by decide +kernel
theorem d_D_balanceOf_69 : decode b_D_balanceOf 69 = .ok (.iload_n 2, 1) := by decide +kernel
theorem d_D_balanceOf_70 : decode b_D_balanceOf 70 = .ok (.if_icmp .ne 15, 3) := by decide +kernel
theorem d_D_balanceOf_73 : decode b_D_balanceOf 73 = .ok (.iload 4, 2) := by decide +kernel
theorem d_D_balanceOf_75 : decode b_D_balanceOf 75 = .ok (.aload_n 0, 1) := by decide +kernel
theorem d_D_balanceOf_76 : decode b_D_balanceOf 76 = .ok (.iload 5, 2) := by decide +kernel
theorem d_D_balanceOf_78 : decode b_D_balanceOf 78 = .ok (.iload_n 1, 1) := by decide +kernel
theorem d_D_balanceOf_79 : decode b_D_balanceOf 79 = .ok (.invokevirtual 62, 3) := by decide +kernel
theorem d_D_balanceOf_82 : decode b_D_balanceOf 82 = .ok (.isub, 1) := by decide +kernel
theorem d_D_balanceOf_83 : decode b_D_balanceOf 83 = .ok (.istore 4, 2) := by decide +kernel
theorem d_D_balanceOf_85 : decode b_D_balanceOf 85 = .ok (.iinc 5 1, 3) := by decide +kernel
theorem d_D_balanceOf_88 : decode b_D_balanceOf 88 = .ok (.goto (-82), 3) := by decide +kernel
theorem d_D_balanceOf_91 : decode b_D_balanceOf 91 = .ok (.iload 4, 2) := by decide +kernel
theorem d_D_balanceOf_93 : decode b_D_balanceOf 93 = .ok (.ireturn, 1) := by decide +kernel
theorem mo_D_balanceOf : MokV y_D_balanceOf b_D_balanceOf 6 (some .int) 3 := ⟨⟨(tbl_in 619 (by decide +kernel) rfl), (tbl_in 64 (by decide +kernel) rfl)⟩, ⟨(tbl_in 617 (by decide +kernel) rfl), tbl_lw _ (tbl_in 618 (by decide +kernel) rfl), (tbl_in 618 (by decide +kernel) rfl)⟩, ⟨by decide +kernel, by decide +kernel⟩, by decide +kernel⟩
def b_D_balanceOf_6_ (P : Int32 → Hp → Prop)  (I6 : Hp → Int32 → Int32 → Int32 → Int32 → Int32 → Prop) (σ : Hp) (x1 : Int32) (x2 : Int32) (x3 : Int32) (x4 : Int32) (x5 : Int32) : Prop :=
  (((σ 5 6) ≤ x5 → P x4 σ) ∧ (¬ (σ 5 6) ≤ x5 → ((¬ ((x3 >>> (x5 &&& 31)) &&& (1 : Int32)) = 0 → (vp_in x5 12) ∧ ((¬ (σ 28 (ix x5)) = x2 → (vp_in x5 12) ∧ ((¬ (σ 29 (ix x5)) = x2 → (∀ v7 : Int32, v7 = x5 + (1 : Int32) → I6 σ x1 x2 x3 x4 v7)) ∧ ((σ 29 (ix x5)) = x2 → wp_D_won σ x5 x1 (fun (r8 : Int32) (t9 : Hp) => (∀ v10 : Int32, v10 = x4 - r8 → (∀ v11 : Int32, v11 = x5 + (1 : Int32) → I6 t9 x1 x2 x3 v10 v11)))))) ∧ ((σ 28 (ix x5)) = x2 → wp_D_won σ x5 x1 (fun (r12 : Int32) (t13 : Hp) => (∀ v14 : Int32, v14 = x4 + r12 → (∀ v15 : Int32, v15 = x5 + (1 : Int32) → I6 t13 x1 x2 x3 v14 v15)))))) ∧ (((x3 >>> (x5 &&& 31)) &&& (1 : Int32)) = 0 → (∀ v16 : Int32, v16 = x5 + (1 : Int32) → I6 σ x1 x2 x3 x4 v16)))))
def j_D_balanceOf_6 (P : Int32 → Hp → Prop)  (σ : Hp) (x1 : Int32) (x2 : Int32) (x3 : Int32) (x4 : Int32) (x5 : Int32) : Prop := ∀ I6 : Hp → Int32 → Int32 → Int32 → Int32 → Int32 → Prop, (∀ (σ : Hp) (x1 : Int32) (x2 : Int32) (x3 : Int32) (x4 : Int32) (x5 : Int32), b_D_balanceOf_6_  P  I6 σ x1 x2 x3 x4 x5 → I6 σ x1 x2 x3 x4 x5) → I6 σ x1 x2 x3 x4 x5
def wp_D_balanceOf (σ : Hp) (a1 : Int32) (a2 : Int32) (a3 : Int32) (P : Int32 → Hp → Prop) : Prop :=
  j_D_balanceOf_6 P σ a1 a2 a3 (0 : Int32) (0 : Int32)
set_option maxHeartbeats 4000000 in
set_option maxRecDepth 100000 in
theorem wj_D_balanceOf_6 {w : Wd} {κ : Kx} {P : Int32 → Hp → Prop} (hC : Cx μC w 6 κ nC1 b_D_balanceOf 3) (hR : RtI μC w 6 κ b_D_balanceOf .int P)  : ∀ (σ : Hp) (x1 : Int32) (x2 : Int32) (x3 : Int32) (x4 : Int32) (x5 : Int32), j_D_balanceOf_6  P  σ x1 x2 x3 x4 x5 → V μC w 6 κ σ [some (.ref (w.1 3)), some (.int x1), some (.int x2), some (.int x3), some (.int x4), some (.int x5)] 6 [] := by
  intro σ x1 x2 x3 x4 x5 h
  refine h (fun σ x1 x2 x3 x4 x5 => V μC w 6 κ σ [some (.ref (w.1 3)), some (.int x1), some (.int x2), some (.int x3), some (.int x4), some (.int x5)] 6 []) (fun σ x1 x2 x3 x4 x5 h => ?_)
  unfold b_D_balanceOf_6_ at h
  refine V.iload hC d_D_balanceOf_6 rfl ?_
  refine V.aload_n hC d_D_balanceOf_8 rfl rfl ?_
  refine V.getR (j := 1) hC d_D_balanceOf_9 rfl rfl uC1 rfl rfl qf_D_21 ?_
  refine V.getI (j := 6) hC d_D_balanceOf_12 rfl rfl uC2 rfl rfl qf_D_41 ?_
  refine V.icmp_ge (tgt := 91) hC d_D_balanceOf_15 (by decide) (fun c1 => ?_) (fun c1 => ?_)
  · replace h := h.1 c1
    refine V.iload hC d_D_balanceOf_91 rfl ?_
    exact hR _ _ _ _ h rfl d_D_balanceOf_93
  · replace h := h.2 c1
    refine V.iload_n hC d_D_balanceOf_18 rfl rfl ?_
    refine V.iload hC d_D_balanceOf_19 rfl ?_
    refine V.ishr hC d_D_balanceOf_21 ?_
    refine V.iconst (v := 1) hC d_D_balanceOf_22 (by decide) ?_
    refine V.iand hC d_D_balanceOf_23 ?_
    refine V.if_ne (tgt := 30) hC d_D_balanceOf_24 (by decide) (fun c2 => ?_) (fun c2 => ?_)
    · replace h := h.1 c2
      refine V.aload_n hC d_D_balanceOf_30 rfl rfl ?_
      refine V.getR (j := 1) hC d_D_balanceOf_31 rfl rfl uC1 rfl rfl qf_D_21 ?_
      refine V.getR (j := 1) hC d_D_balanceOf_34 rfl rfl uC2 rfl rfl qf_D_45 ?_
      refine V.iload hC d_D_balanceOf_37 rfl ?_
      obtain ⟨b3, h⟩ := h
      refine V.iald hC d_D_balanceOf_39 rfl b3 ?_
      refine V.iload_n hC d_D_balanceOf_40 rfl rfl ?_
      refine V.icmp_ne (tgt := 59) hC d_D_balanceOf_41 (by decide) (fun c4 => ?_) (fun c4 => ?_)
      · replace h := h.1 c4
        refine V.aload_n hC d_D_balanceOf_59 rfl rfl ?_
        refine V.getR (j := 1) hC d_D_balanceOf_60 rfl rfl uC1 rfl rfl qf_D_21 ?_
        refine V.getR (j := 2) hC d_D_balanceOf_63 rfl rfl uC2 rfl rfl qf_D_48 ?_
        refine V.iload hC d_D_balanceOf_66 rfl ?_
        obtain ⟨b5, h⟩ := h
        refine V.iald hC d_D_balanceOf_68 rfl b5 ?_
        refine V.iload_n hC d_D_balanceOf_69 rfl rfl ?_
        refine V.icmp_ne (tgt := 85) hC d_D_balanceOf_70 (by decide) (fun c6 => ?_) (fun c6 => ?_)
        · replace h := h.1 c6
          obtain ⟨v7, ev7⟩ : ∃ y : Int32, y = x5 + (1 : Int32) := ⟨_, rfl⟩
          replace h := h v7 ev7
          refine V.iinc (y := v7) (lo' := [some (.ref (w.1 3)), some (.int x1), some (.int x2), some (.int x3), some (.int x4), some (.int v7)]) hC d_D_balanceOf_85 rfl rfl (show v7 = _ + Int32.ofInt (1) from ev7) rfl ?_
          refine V.goto (tgt := 6) hC d_D_balanceOf_88 (by decide) ?_
          exact V.msk [true, true, true, true, true, true] rfl h
        · replace h := h.2 c6
          refine V.iload hC d_D_balanceOf_73 rfl ?_
          refine V.aload_n hC d_D_balanceOf_75 rfl rfl ?_
          refine V.iload hC d_D_balanceOf_76 rfl ?_
          refine V.iload_n hC d_D_balanceOf_78 rfl rfl ?_
          refine V.callVI hC exC (w_D_won w σ x5 x1 _ h) d_D_balanceOf_79 mo_D_won qm_D_62 rfl rfl rfl rfl rfl rfl rfl (Nat.le_of_ble_eq_true rfl) (fun r8 t9 h => ?_)
          refine V.isub hC d_D_balanceOf_82 ?_
          obtain ⟨v10, ev10⟩ : ∃ y : Int32, y = x4 - r8 := ⟨_, rfl⟩
          replace h := h v10 ev10
          refine V.istore (y := v10) (lo' := [some (.ref (w.1 3)), some (.int x1), some (.int x2), some (.int x3), some (.int v10), some (.int x5)]) hC d_D_balanceOf_83 rfl ev10 rfl ?_
          obtain ⟨v11, ev11⟩ : ∃ y : Int32, y = x5 + (1 : Int32) := ⟨_, rfl⟩
          replace h := h v11 ev11
          refine V.iinc (y := v11) (lo' := [some (.ref (w.1 3)), some (.int x1), some (.int x2), some (.int x3), some (.int v10), some (.int v11)]) hC d_D_balanceOf_85 rfl rfl (show v11 = _ + Int32.ofInt (1) from ev11) rfl ?_
          refine V.goto (tgt := 6) hC d_D_balanceOf_88 (by decide) ?_
          exact V.msk [true, true, true, true, true, true] rfl h
      · replace h := h.2 c4
        refine V.iload hC d_D_balanceOf_44 rfl ?_
        refine V.aload_n hC d_D_balanceOf_46 rfl rfl ?_
        refine V.iload hC d_D_balanceOf_47 rfl ?_
        refine V.iload_n hC d_D_balanceOf_49 rfl rfl ?_
        refine V.callVI hC exC (w_D_won w σ x5 x1 _ h) d_D_balanceOf_50 mo_D_won qm_D_62 rfl rfl rfl rfl rfl rfl rfl (Nat.le_of_ble_eq_true rfl) (fun r12 t13 h => ?_)
        refine V.iadd hC d_D_balanceOf_53 ?_
        obtain ⟨v14, ev14⟩ : ∃ y : Int32, y = x4 + r12 := ⟨_, rfl⟩
        replace h := h v14 ev14
        refine V.istore (y := v14) (lo' := [some (.ref (w.1 3)), some (.int x1), some (.int x2), some (.int x3), some (.int v14), some (.int x5)]) hC d_D_balanceOf_54 rfl ev14 rfl ?_
        refine V.goto (tgt := 85) hC d_D_balanceOf_56 (by decide) ?_
        obtain ⟨v15, ev15⟩ : ∃ y : Int32, y = x5 + (1 : Int32) := ⟨_, rfl⟩
        replace h := h v15 ev15
        refine V.iinc (y := v15) (lo' := [some (.ref (w.1 3)), some (.int x1), some (.int x2), some (.int x3), some (.int v14), some (.int v15)]) hC d_D_balanceOf_85 rfl rfl (show v15 = _ + Int32.ofInt (1) from ev15) rfl ?_
        refine V.goto (tgt := 6) hC d_D_balanceOf_88 (by decide) ?_
        exact V.msk [true, true, true, true, true, true] rfl h
    · replace h := h.2 c2
      refine V.goto (tgt := 85) hC d_D_balanceOf_27 (by decide) ?_
      obtain ⟨v16, ev16⟩ : ∃ y : Int32, y = x5 + (1 : Int32) := ⟨_, rfl⟩
      replace h := h v16 ev16
      refine V.iinc (y := v16) (lo' := [some (.ref (w.1 3)), some (.int x1), some (.int x2), some (.int x3), some (.int x4), some (.int v16)]) hC d_D_balanceOf_85 rfl rfl (show v16 = _ + Int32.ofInt (1) from ev16) rfl ?_
      refine V.goto (tgt := 6) hC d_D_balanceOf_88 (by decide) ?_
      exact V.msk [true, true, true, true, true, true] rfl h
set_option maxHeartbeats 4000000 in
set_option maxRecDepth 100000 in
theorem w_D_balanceOf (w : Wd) (σ : Hp) (a1 : Int32) (a2 : Int32) (a3 : Int32) (P : Int32 → Hp → Prop) (h : wp_D_balanceOf σ a1 a2 a3 P) : CtI μC w y_D_balanceOf b_D_balanceOf 6 (some .int) 3 [.ref (w.1 3), .int a1, .int a2, .int a3] σ P := by
  unfold wp_D_balanceOf at h
  refine CtI.ofV (C := nC1) (lo := [some (.ref (w.1 3)), some (.int a1), some (.int a2), some (.int a3), none, none]) exC (by decide +kernel) rfl rfl rfl (fun κ hC hR => ?_)
  refine V.iconst (v := 0) hC d_D_balanceOf_0 (by decide) ?_
  refine V.istore (y := (0 : Int32)) (lo' := [some (.ref (w.1 3)), some (.int a1), some (.int a2), some (.int a3), some (.int (0 : Int32)), none]) hC d_D_balanceOf_1 rfl rfl rfl ?_
  refine V.iconst (v := 0) hC d_D_balanceOf_3 (by decide) ?_
  refine V.istore (y := (0 : Int32)) (lo' := [some (.ref (w.1 3)), some (.int a1), some (.int a2), some (.int a3), some (.int (0 : Int32)), some (.int (0 : Int32))]) hC d_D_balanceOf_4 rfl rfl rfl ?_
  exact V.msk [true, true, true, true, true, true] rfl (wj_D_balanceOf_6  hC hR  σ a1 a2 a3 (0 : Int32) (0 : Int32) h)
abbrev b_P_balance : ByteArray := prog_1_method_15_code
def y_P_balance : MethodName := ⟨nC7, "balance", "(II)I"⟩
theorem d_P_balance_0 : decode b_P_balance 0 = .ok (.iload_n 1, 1) := by decide +kernel
theorem d_P_balance_1 : decode b_P_balance 1 = .ok (.invokestatic 126, 3) := by decide +kernel
theorem d_P_balance_4 : decode b_P_balance 4 = .ok (.ifCond .eq 11, 3) := by decide +kernel
theorem d_P_balance_7 : decode b_P_balance 7 = .ok (.aload_n 0, 1) := by decide +kernel
theorem d_P_balance_8 : decode b_P_balance 8 = .ok (.iload_n 2, 1) := by decide +kernel
theorem d_P_balance_9 : decode b_P_balance 9 = .ok (.invokevirtual 97, 3) := by decide +kernel
theorem d_P_balance_12 : decode b_P_balance 12 = .ok (.ifCond .ne 6, 3) := by decide +kernel
theorem d_P_balance_15 : decode b_P_balance 15 = .ok (.ldc 183, 2) := by decide +kernel
theorem d_P_balance_17 : decode b_P_balance 17 = .ok (.ireturn, 1) := by decide +kernel
theorem d_P_balance_18 : decode b_P_balance 18 = .ok (.aload_n 0, 1) := by decide +kernel
theorem d_P_balance_19 : decode b_P_balance 19 = .ok (.getfield 28, 3) := by decide +kernel
theorem d_P_balance_22 : decode b_P_balance 22 = .ok (.iload_n 1, 1) := by decide +kernel
theorem d_P_balance_23 : decode b_P_balance 23 = .ok (.iload_n 2, 1) := by decide +kernel
theorem d_P_balance_24 : decode b_P_balance 24 = .ok (.aload_n 0, 1) := by decide +kernel
theorem d_P_balance_25 : decode b_P_balance 25 = .ok (.getfield 41, 3) := by decide +kernel
theorem d_P_balance_28 : decode b_P_balance 28 = .ok (.invokevirtual 184, 3) := by decide +kernel
theorem d_P_balance_31 : decode b_P_balance 31 = .ok (.invokevirtual 187, 3) := by decide +kernel
theorem d_P_balance_34 : decode b_P_balance 34 = .ok (.ireturn, 1) := by decide +kernel
theorem qc_P_183 : Cond.constant nC7 183 (-100002) ∈ tbl := tbl_in 614 (by decide +kernel) rfl
theorem qm_P_184 : Cond.methodLink nC7 184 y_K_leadingOfAll ∈ tbl := tbl_in 615 (by decide +kernel) rfl
theorem qm_P_187 : Cond.methodLink nC7 187 y_D_balanceOf ∈ tbl := tbl_in 616 (by decide +kernel) rfl
theorem mo_P_balance : MokV y_P_balance b_P_balance 3 (some .int) 2 := ⟨⟨(tbl_in 613 (by decide +kernel) rfl), (tbl_in 62 (by decide +kernel) rfl)⟩, ⟨(tbl_in 611 (by decide +kernel) rfl), tbl_lw _ (tbl_in 612 (by decide +kernel) rfl), (tbl_in 612 (by decide +kernel) rfl)⟩, ⟨by decide +kernel, by decide +kernel⟩, by decide +kernel⟩
def wp_P_balance (σ : Hp) (a1 : Int32) (a2 : Int32) (P : Int32 → Hp → Prop) : Prop :=
  wp_P_isDay σ a1 (fun (r1 : Int32) (t2 : Hp) => ((r1 = 0 → P (-100002 : Int32) t2) ∧ (¬ r1 = 0 → wp_P_isHouse t2 a2 (fun (r4 : Int32) (t5 : Hp) => ((¬ r4 = 0 → wp_K_leadingOfAll t5 (fun (r7 : Int32) (t8 : Hp) => wp_D_balanceOf t8 a1 a2 r7 (fun (r9 : Int32) (t10 : Hp) => P r9 t10))) ∧ (r4 = 0 → P (-100002 : Int32) t5))))))
set_option maxHeartbeats 4000000 in
set_option maxRecDepth 100000 in
theorem w_P_balance (w : Wd) (σ : Hp) (a1 : Int32) (a2 : Int32) (P : Int32 → Hp → Prop) (h : wp_P_balance σ a1 a2 P) : CtI μC w y_P_balance b_P_balance 3 (some .int) 4 [.ref (w.1 0), .int a1, .int a2] σ P := by
  unfold wp_P_balance at h
  refine CtI.ofV (C := nC7) (lo := [some (.ref (w.1 0)), some (.int a1), some (.int a2)]) exC (by decide +kernel) rfl rfl rfl (fun κ hC hR => ?_)
  refine V.iload_n hC d_P_balance_0 rfl rfl ?_
  refine V.callSI hC exC (w_P_isDay w σ a1 _ h) d_P_balance_1 mo_P_isDay qm_P_126 rfl rfl rfl rfl (Nat.le_of_ble_eq_true rfl) (fun r1 t2 h => ?_)
  refine V.if_eq (tgt := 15) hC d_P_balance_4 (by decide) (fun c3 => ?_) (fun c3 => ?_)
  · replace h := h.1 c3
    refine V.ldc (v := -100002) hC d_P_balance_15 qc_P_183 ?_
    exact hR _ _ _ _ h rfl d_P_balance_17
  · replace h := h.2 c3
    refine V.aload_n hC d_P_balance_7 rfl rfl ?_
    refine V.iload_n hC d_P_balance_8 rfl rfl ?_
    refine V.callVI hC exC (w_P_isHouse w t2 a2 _ h) d_P_balance_9 mo_P_isHouse qm_P_97 rfl rfl rfl rfl rfl rfl rfl (Nat.le_of_ble_eq_true rfl) (fun r4 t5 h => ?_)
    refine V.if_ne (tgt := 18) hC d_P_balance_12 (by decide) (fun c6 => ?_) (fun c6 => ?_)
    · replace h := h.1 c6
      refine V.aload_n hC d_P_balance_18 rfl rfl ?_
      refine V.getR (j := 2) hC d_P_balance_19 rfl rfl uC7 rfl rfl qf_P_28 ?_
      refine V.iload_n hC d_P_balance_22 rfl rfl ?_
      refine V.iload_n hC d_P_balance_23 rfl rfl ?_
      refine V.aload_n hC d_P_balance_24 rfl rfl ?_
      refine V.getR (j := 4) hC d_P_balance_25 rfl rfl uC7 rfl rfl qf_P_41 ?_
      refine V.callVI hC exC (w_K_leadingOfAll w t5  _ h) d_P_balance_28 mo_K_leadingOfAll qm_P_184 rfl rfl rfl rfl rfl rfl rfl (Nat.le_of_ble_eq_true rfl) (fun r7 t8 h => ?_)
      refine V.callVI hC exC (w_D_balanceOf w t8 a1 a2 r7 _ h) d_P_balance_31 mo_D_balanceOf qm_P_187 rfl rfl rfl rfl rfl rfl rfl (Nat.le_of_ble_eq_true rfl) (fun r9 t10 h => ?_)
      exact hR _ _ _ _ h rfl d_P_balance_34
    · replace h := h.2 c6
      refine V.ldc (v := -100002) hC d_P_balance_15 qc_P_183 ?_
      exact hR _ _ _ _ h rfl d_P_balance_17
abbrev b_D_fillBalances : ByteArray := prog_3_method_6_code
def y_D_fillBalances : MethodName := ⟨nC1, "fillBalances", "(I)V"⟩
theorem d_D_fillBalances_0 : decode b_D_fillBalances 0 = .ok (.aload_n 0, 1) := by decide +kernel
theorem d_D_fillBalances_1 : decode b_D_fillBalances 1 = .ok (.getfield 21, 3) := by decide +kernel
theorem d_D_fillBalances_4 : decode b_D_fillBalances 4 = .ok (.invokevirtual 58, 3) := by decide +kernel
theorem d_D_fillBalances_7 : decode b_D_fillBalances 7 = .ok (.istore_n 2, 1) := by decide +kernel
theorem d_D_fillBalances_8 : decode b_D_fillBalances 8 = .ok (.aload_n 0, 1) := by decide +kernel
theorem d_D_fillBalances_9 : decode b_D_fillBalances 9 = .ok (.getfield 25, 3) := by decide +kernel
theorem d_D_fillBalances_12 : decode b_D_fillBalances 12 = .ok (.iconst 0, 1) := by decide +kernel
theorem d_D_fillBalances_13 : decode b_D_fillBalances 13 = .ok (.invokestatic 65, 3) := by decide +kernel
theorem d_D_fillBalances_16 : decode b_D_fillBalances 16 = .ok (.iconst 0, 1) := by decide +kernel
theorem d_D_fillBalances_17 : decode b_D_fillBalances 17 = .ok (.istore_n 3, 1) := by decide +kernel
theorem d_D_fillBalances_18 : decode b_D_fillBalances 18 = .ok (.iload_n 3, 1) := by decide +kernel
theorem d_D_fillBalances_19 : decode b_D_fillBalances 19 = .ok (.aload_n 0, 1) := by decide +kernel
theorem d_D_fillBalances_20 : decode b_D_fillBalances 20 = .ok (.getfield 21, 3) := by decide +kernel
theorem d_D_fillBalances_23 : decode b_D_fillBalances 23 = .ok (.getfield 41, 3) := by decide +kernel
theorem d_D_fillBalances_26 : decode b_D_fillBalances 26 = .ok (.if_icmp .ge 66, 3) := by decide +kernel
theorem d_D_fillBalances_29 : decode b_D_fillBalances 29 = .ok (.iload_n 2, 1) := by decide +kernel
theorem d_D_fillBalances_30 : decode b_D_fillBalances 30 = .ok (.iload_n 3, 1) := by decide +kernel
theorem d_D_fillBalances_31 : decode b_D_fillBalances 31 = .ok (.ishr, 1) := by decide +kernel
theorem d_D_fillBalances_32 : decode b_D_fillBalances 32 = .ok (.iconst 1, 1) := by decide +kernel
theorem d_D_fillBalances_33 : decode b_D_fillBalances 33 = .ok (.iand, 1) := by decide +kernel
theorem d_D_fillBalances_34 : decode b_D_fillBalances 34 = .ok (.ifCond .ne 6, 3) := by decide +kernel
theorem d_D_fillBalances_37 : decode b_D_fillBalances 37 = .ok (.goto 49, 3) := by decide +kernel
theorem d_D_fillBalances_40 : decode b_D_fillBalances 40 = .ok (.aload_n 0, 1) := by decide +kernel
theorem d_D_fillBalances_41 : decode b_D_fillBalances 41 = .ok (.iload_n 3, 1) := by decide +kernel
theorem d_D_fillBalances_42 : decode b_D_fillBalances 42 = .ok (.iload_n 1, 1) := by decide +kernel
theorem d_D_fillBalances_43 : decode b_D_fillBalances 43 = .ok (.invokevirtual 62, 3) := by decide +kernel
theorem d_D_fillBalances_46 : decode b_D_fillBalances 46 = .ok (.istore 4, 2) := by decide +kernel
theorem d_D_fillBalances_48 : decode b_D_fillBalances 48 = .ok (.aload_n 0, 1) := by decide +kernel
theorem d_D_fillBalances_49 : decode b_D_fillBalances 49 = .ok (.getfield 25, 3) := by decide +kernel
theorem d_D_fillBalances_52 : decode b_D_fillBalances 52 = .ok (.aload_n 0, 1) := by decide +kernel
theorem d_D_fillBalances_53 : decode b_D_fillBalances 53 = .ok (.getfield 21, 3) := by decide +kernel
theorem d_D_fillBalances_56 : decode b_D_fillBalances 56 = .ok (.getfield 45, 3) := by decide +kernel
theorem d_D_fillBalances_59 : decode b_D_fillBalances 59 = .ok (.iload_n 3, 1) := by decide +kernel
theorem d_D_fillBalances_60 : decode b_D_fillBalances 60 = .ok (.iaload, 1) := by decide +kernel
theorem d_D_fillBalances_61 : decode b_D_fillBalances 61 = .ok (.dup2, 1) := by decide +kernel
theorem d_D_fillBalances_62 : decode b_D_fillBalances 62 = .ok (.iaload, 1) := by decide +kernel
theorem d_D_fillBalances_63 : decode b_D_fillBalances 63 = .ok (.iload 4, 2) := by decide +kernel
theorem d_D_fillBalances_65 : decode b_D_fillBalances 65 = .ok (.iadd, 1) := by decide +kernel
theorem d_D_fillBalances_66 : decode b_D_fillBalances 66 = .ok (.iastore, 1) := by decide +kernel
theorem d_D_fillBalances_67 : decode b_D_fillBalances 67 = .ok (.aload_n 0, 1) := by decide +kernel
theorem d_D_fillBalances_68 : decode b_D_fillBalances 68 = .ok (.getfield 25, 3) := by decide +kernel
theorem d_D_fillBalances_71 : decode b_D_fillBalances 71 = .ok (.aload_n 0, 1) := by decide +kernel
theorem d_D_fillBalances_72 : decode b_D_fillBalances 72 = .ok (.getfield 21, 3) := by decide +kernel
theorem d_D_fillBalances_75 : decode b_D_fillBalances 75 = .ok (.getfield 48, 3) := by decide +kernel
theorem d_D_fillBalances_78 : decode b_D_fillBalances 78 = .ok (.iload_n 3, 1) := by decide +kernel
theorem d_D_fillBalances_79 : decode b_D_fillBalances 79 = .ok (.iaload, 1) := by decide +kernel
theorem d_D_fillBalances_80 : decode b_D_fillBalances 80 = .ok (.dup2, 1) := by decide +kernel
theorem d_D_fillBalances_81 : decode b_D_fillBalances 81 = .ok (.iaload, 1) := by decide +kernel
theorem d_D_fillBalances_82 : decode b_D_fillBalances 82 = .ok (.iload 4, 2) := by decide +kernel
theorem d_D_fillBalances_84 : decode b_D_fillBalances 84 = .ok (.isub, 1) := by decide +kernel
theorem d_D_fillBalances_85 : decode b_D_fillBalances 85 = .ok (.iastore, 1) := by decide +kernel
theorem d_D_fillBalances_86 : decode b_D_fillBalances 86 = .ok (.iinc 3 1, 3) := by decide +kernel
theorem d_D_fillBalances_89 : decode b_D_fillBalances 89 = .ok (.goto (-71), 3) := by decide +kernel
theorem d_D_fillBalances_92 : decode b_D_fillBalances 92 = .ok (.return_, 1) := by decide +kernel
theorem qf_D_25 : Cond.fieldLink nC1 25 (fC1 2).1 (fC1 2).2.1 (fC1 2).2.2.1 ∈ tbl := tbl_in 208 (by decide +kernel) rfl
theorem qm_D_65 : Cond.methodLink nC1 65 y_JA_fill ∈ tbl := tbl_in 632 (by decide +kernel) rfl
theorem mo_D_fillBalances : MokV y_D_fillBalances b_D_fillBalances 5 none 1 := ⟨⟨(tbl_in 631 (by decide +kernel) rfl), (tbl_in 64 (by decide +kernel) rfl)⟩, ⟨(tbl_in 629 (by decide +kernel) rfl), tbl_lw _ (tbl_in 630 (by decide +kernel) rfl), (tbl_in 630 (by decide +kernel) rfl)⟩, ⟨by decide +kernel, by decide +kernel⟩, by decide +kernel⟩
def b_D_fillBalances_18_ (P : Hp → Prop)  (I18 : Hp → Int32 → Int32 → Int32 → Prop) (σ : Hp) (x1 : Int32) (x2 : Int32) (x3 : Int32) : Prop :=
  (((σ 5 6) ≤ x3 → P σ) ∧ (¬ (σ 5 6) ≤ x3 → ((¬ ((x2 >>> (x3 &&& 31)) &&& (1 : Int32)) = 0 → wp_D_won σ x3 x1 (fun (r3 : Int32) (t4 : Hp) => (vp_in x3 12) ∧ (vp_in (t4 28 (ix x3)) 8) ∧ (vp_in (t4 28 (ix x3)) 8) ∧ (vp_in x3 12) ∧ (vp_in ((st t4 16 (ix (t4 28 (ix x3))) ((t4 16 (ix (t4 28 (ix x3)))) + r3)) 29 (ix x3)) 8) ∧ (vp_in ((st t4 16 (ix (t4 28 (ix x3))) ((t4 16 (ix (t4 28 (ix x3)))) + r3)) 29 (ix x3)) 8) ∧ (∀ v11 : Int32, v11 = x3 + (1 : Int32) → I18 (st (st t4 16 (ix (t4 28 (ix x3))) ((t4 16 (ix (t4 28 (ix x3)))) + r3)) 16 (ix ((st t4 16 (ix (t4 28 (ix x3))) ((t4 16 (ix (t4 28 (ix x3)))) + r3)) 29 (ix x3))) (((st t4 16 (ix (t4 28 (ix x3))) ((t4 16 (ix (t4 28 (ix x3)))) + r3)) 16 (ix ((st t4 16 (ix (t4 28 (ix x3))) ((t4 16 (ix (t4 28 (ix x3)))) + r3)) 29 (ix x3)))) - r3)) x1 x2 v11))) ∧ (((x2 >>> (x3 &&& 31)) &&& (1 : Int32)) = 0 → (∀ v12 : Int32, v12 = x3 + (1 : Int32) → I18 σ x1 x2 v12)))))
def j_D_fillBalances_18 (P : Hp → Prop)  (σ : Hp) (x1 : Int32) (x2 : Int32) (x3 : Int32) : Prop := ∀ I18 : Hp → Int32 → Int32 → Int32 → Prop, (∀ (σ : Hp) (x1 : Int32) (x2 : Int32) (x3 : Int32), b_D_fillBalances_18_  P  I18 σ x1 x2 x3 → I18 σ x1 x2 x3) → I18 σ x1 x2 x3
def wp_D_fillBalances (σ : Hp) (a1 : Int32) (P : Hp → Prop) : Prop :=
  wp_K_leadingOfAll σ (fun (r13 : Int32) (t14 : Hp) => wp_JA_fill t14 16 8 (0 : Int32) (fun (t16 : Hp) => j_D_fillBalances_18 P t16 a1 r13 (0 : Int32)))
set_option maxHeartbeats 4000000 in
set_option maxRecDepth 100000 in
theorem wj_D_fillBalances_18 {w : Wd} {κ : Kx} {P : Hp → Prop} (hC : Cx μC w 5 κ nC1 b_D_fillBalances 3) (hR : RtN μC w 5 κ b_D_fillBalances P)  : ∀ (σ : Hp) (x1 : Int32) (x2 : Int32) (x3 : Int32), j_D_fillBalances_18  P  σ x1 x2 x3 → V μC w 5 κ σ [some (.ref (w.1 3)), some (.int x1), some (.int x2), some (.int x3), none] 18 [] := by
  intro σ x1 x2 x3 h
  refine h (fun σ x1 x2 x3 => V μC w 5 κ σ [some (.ref (w.1 3)), some (.int x1), some (.int x2), some (.int x3), none] 18 []) (fun σ x1 x2 x3 h => ?_)
  unfold b_D_fillBalances_18_ at h
  refine V.iload_n hC d_D_fillBalances_18 rfl rfl ?_
  refine V.aload_n hC d_D_fillBalances_19 rfl rfl ?_
  refine V.getR (j := 1) hC d_D_fillBalances_20 rfl rfl uC1 rfl rfl qf_D_21 ?_
  refine V.getI (j := 6) hC d_D_fillBalances_23 rfl rfl uC2 rfl rfl qf_D_41 ?_
  refine V.icmp_ge (tgt := 92) hC d_D_fillBalances_26 (by decide) (fun c1 => ?_) (fun c1 => ?_)
  · replace h := h.1 c1
    exact hR _ _ _ h d_D_fillBalances_92
  · replace h := h.2 c1
    refine V.iload_n hC d_D_fillBalances_29 rfl rfl ?_
    refine V.iload_n hC d_D_fillBalances_30 rfl rfl ?_
    refine V.ishr hC d_D_fillBalances_31 ?_
    refine V.iconst (v := 1) hC d_D_fillBalances_32 (by decide) ?_
    refine V.iand hC d_D_fillBalances_33 ?_
    refine V.if_ne (tgt := 40) hC d_D_fillBalances_34 (by decide) (fun c2 => ?_) (fun c2 => ?_)
    · replace h := h.1 c2
      refine V.aload_n hC d_D_fillBalances_40 rfl rfl ?_
      refine V.iload_n hC d_D_fillBalances_41 rfl rfl ?_
      refine V.iload_n hC d_D_fillBalances_42 rfl rfl ?_
      refine V.callVI hC exC (w_D_won w σ x3 x1 _ h) d_D_fillBalances_43 mo_D_won qm_D_62 rfl rfl rfl rfl rfl rfl rfl (Nat.le_of_ble_eq_true rfl) (fun r3 t4 h => ?_)
      refine V.istore (y := r3) (lo' := [some (.ref (w.1 3)), some (.int x1), some (.int x2), some (.int x3), some (.int r3)]) hC d_D_fillBalances_46 rfl rfl rfl ?_
      refine V.aload_n hC d_D_fillBalances_48 rfl rfl ?_
      refine V.getR (j := 2) hC d_D_fillBalances_49 rfl rfl uC1 rfl rfl qf_D_25 ?_
      refine V.aload_n hC d_D_fillBalances_52 rfl rfl ?_
      refine V.getR (j := 1) hC d_D_fillBalances_53 rfl rfl uC1 rfl rfl qf_D_21 ?_
      refine V.getR (j := 1) hC d_D_fillBalances_56 rfl rfl uC2 rfl rfl qf_D_45 ?_
      refine V.iload_n hC d_D_fillBalances_59 rfl rfl ?_
      obtain ⟨b5, h⟩ := h
      refine V.iald hC d_D_fillBalances_60 rfl b5 ?_
      refine V.dup2_11 hC d_D_fillBalances_61 rfl rfl ?_
      obtain ⟨b6, h⟩ := h
      refine V.iald hC d_D_fillBalances_62 rfl b6 ?_
      refine V.iload hC d_D_fillBalances_63 rfl ?_
      refine V.iadd hC d_D_fillBalances_65 ?_
      obtain ⟨b7, h⟩ := h
      refine V.iast hC d_D_fillBalances_66 rfl b7 ?_
      refine V.aload_n hC d_D_fillBalances_67 rfl rfl ?_
      refine V.getR (j := 2) hC d_D_fillBalances_68 rfl rfl uC1 rfl rfl qf_D_25 ?_
      refine V.aload_n hC d_D_fillBalances_71 rfl rfl ?_
      refine V.getR (j := 1) hC d_D_fillBalances_72 rfl rfl uC1 rfl rfl qf_D_21 ?_
      refine V.getR (j := 2) hC d_D_fillBalances_75 rfl rfl uC2 rfl rfl qf_D_48 ?_
      refine V.iload_n hC d_D_fillBalances_78 rfl rfl ?_
      obtain ⟨b8, h⟩ := h
      refine V.iald hC d_D_fillBalances_79 rfl b8 ?_
      refine V.dup2_11 hC d_D_fillBalances_80 rfl rfl ?_
      obtain ⟨b9, h⟩ := h
      refine V.iald hC d_D_fillBalances_81 rfl b9 ?_
      refine V.iload hC d_D_fillBalances_82 rfl ?_
      refine V.isub hC d_D_fillBalances_84 ?_
      obtain ⟨b10, h⟩ := h
      refine V.iast hC d_D_fillBalances_85 rfl b10 ?_
      obtain ⟨v11, ev11⟩ : ∃ y : Int32, y = x3 + (1 : Int32) := ⟨_, rfl⟩
      replace h := h v11 ev11
      refine V.iinc (y := v11) (lo' := [some (.ref (w.1 3)), some (.int x1), some (.int x2), some (.int v11), some (.int r3)]) hC d_D_fillBalances_86 rfl rfl (show v11 = _ + Int32.ofInt (1) from ev11) rfl ?_
      refine V.goto (tgt := 18) hC d_D_fillBalances_89 (by decide) ?_
      exact V.msk [true, true, true, true, false] rfl h
    · replace h := h.2 c2
      refine V.goto (tgt := 86) hC d_D_fillBalances_37 (by decide) ?_
      obtain ⟨v12, ev12⟩ : ∃ y : Int32, y = x3 + (1 : Int32) := ⟨_, rfl⟩
      replace h := h v12 ev12
      refine V.iinc (y := v12) (lo' := [some (.ref (w.1 3)), some (.int x1), some (.int x2), some (.int v12), none]) hC d_D_fillBalances_86 rfl rfl (show v12 = _ + Int32.ofInt (1) from ev12) rfl ?_
      refine V.goto (tgt := 18) hC d_D_fillBalances_89 (by decide) ?_
      exact V.msk [true, true, true, true, false] rfl h
set_option maxHeartbeats 4000000 in
set_option maxRecDepth 100000 in
theorem w_D_fillBalances (w : Wd) (σ : Hp) (a1 : Int32) (P : Hp → Prop) (h : wp_D_fillBalances σ a1 P) : CtN μC w y_D_fillBalances b_D_fillBalances 5 none 3 [.ref (w.1 3), .int a1] σ P := by
  unfold wp_D_fillBalances at h
  refine CtN.ofV (C := nC1) (lo := [some (.ref (w.1 3)), some (.int a1), none, none, none]) exC (by decide +kernel) rfl rfl rfl (fun κ hC hR => ?_)
  refine V.aload_n hC d_D_fillBalances_0 rfl rfl ?_
  refine V.getR (j := 1) hC d_D_fillBalances_1 rfl rfl uC1 rfl rfl qf_D_21 ?_
  refine V.callVI hC exC (w_K_leadingOfAll w σ  _ h) d_D_fillBalances_4 mo_K_leadingOfAll qm_D_58 rfl rfl rfl rfl rfl rfl rfl (Nat.le_of_ble_eq_true rfl) (fun r13 t14 h => ?_)
  refine V.istore_n (y := r13) (lo' := [some (.ref (w.1 3)), some (.int a1), some (.int r13), none, none]) hC d_D_fillBalances_7 rfl rfl rfl rfl ?_
  refine V.aload_n hC d_D_fillBalances_8 rfl rfl ?_
  refine V.getR (j := 2) hC d_D_fillBalances_9 rfl rfl uC1 rfl rfl qf_D_25 ?_
  refine V.iconst (v := 0) hC d_D_fillBalances_12 (by decide) ?_
  refine V.callSN hC exC (w_JA_fill w t14 16 8 (0 : Int32) _ h) d_D_fillBalances_13 mo_JA_fill qm_D_65 rfl rfl rfl rfl (Nat.le_of_ble_eq_true rfl) (fun t16 h => ?_)
  refine V.iconst (v := 0) hC d_D_fillBalances_16 (by decide) ?_
  refine V.istore_n (y := (0 : Int32)) (lo' := [some (.ref (w.1 3)), some (.int a1), some (.int r13), some (.int (0 : Int32)), none]) hC d_D_fillBalances_17 rfl rfl rfl rfl ?_
  exact V.msk [true, true, true, true, false] rfl (wj_D_fillBalances_18  hC hR  t16 a1 r13 (0 : Int32) h)
abbrev b_D_coinDue : ByteArray := prog_3_method_7_code
def y_D_coinDue : MethodName := ⟨nC1, "coinDue", "(I)I"⟩
theorem d_D_coinDue_0 : decode b_D_coinDue 0 = .ok (.aload_n 0, 1) := by decide +kernel
theorem d_D_coinDue_1 : decode b_D_coinDue 1 = .ok (.iload_n 1, 1) := by decide +kernel
theorem d_D_coinDue_2 : decode b_D_coinDue 2 = .ok (.invokevirtual 71, 3) := by decide +kernel
theorem d_D_coinDue_5 : decode b_D_coinDue 5 = .ok (.iconst 0, 1) := by decide +kernel
theorem d_D_coinDue_6 : decode b_D_coinDue 6 = .ok (.istore_n 2, 1) := by decide +kernel
theorem d_D_coinDue_7 : decode b_D_coinDue 7 = .ok (.iconst 0, 1) := by decide +kernel
theorem d_D_coinDue_8 : decode b_D_coinDue 8 = .ok (.istore_n 3, 1) := by decide +kernel
theorem d_D_coinDue_9 : decode b_D_coinDue 9 = .ok (.iload_n 3, 1) := by decide +kernel
theorem d_D_coinDue_10 : decode b_D_coinDue 10 = .ok (.aload_n 0, 1) := by decide +kernel
theorem d_D_coinDue_11 : decode b_D_coinDue 11 = .ok (.getfield 12, 3) := by decide +kernel
theorem d_D_coinDue_14 : decode b_D_coinDue 14 = .ok (.getfield 75, 3) := by decide +kernel
theorem d_D_coinDue_17 : decode b_D_coinDue 17 = .ok (.if_icmp .ge 22, 3) := by decide +kernel
theorem d_D_coinDue_20 : decode b_D_coinDue 20 = .ok (.iload_n 2, 1) := by decide +kernel
theorem d_D_coinDue_21 : decode b_D_coinDue 21 = .ok (.iconst 0, 1) := by decide +kernel
theorem d_D_coinDue_22 : decode b_D_coinDue 22 = .ok (.aload_n 0, 1) := by decide +kernel
theorem d_D_coinDue_23 : decode b_D_coinDue 23 = .ok (.getfield 25, 3) := by decide +kernel
theorem d_D_coinDue_26 : decode b_D_coinDue 26 = .ok (.iload_n 3, 1) := by decide +kernel
theorem d_D_coinDue_27 : decode b_D_coinDue 27 = .ok (.iaload, 1) := by decide +kernel
theorem d_D_coinDue_28 : decode b_D_coinDue 28 = .ok (.invokestatic 78, 3) := by decide +kernel
theorem d_D_coinDue_31 : decode b_D_coinDue 31 = .ok (.iadd, 1) := by decide +kernel
theorem d_D_coinDue_32 : decode b_D_coinDue 32 = .ok (.istore_n 2, 1) := by decide +kernel
theorem d_D_coinDue_33 : decode b_D_coinDue 33 = .ok (.iinc 3 1, 3) := by decide +kernel
theorem d_D_coinDue_36 : decode b_D_coinDue 36 = .ok (.goto (-27), 3) := by decide +kernel
theorem d_D_coinDue_39 : decode b_D_coinDue 39 = .ok (.iload_n 2, 1) := by decide +kernel
theorem d_D_coinDue_40 : decode b_D_coinDue 40 = .ok (.ireturn, 1) := by decide +kernel
theorem qf_D_75 : Cond.fieldLink nC1 75 (fC5 6).1 (fC5 6).2.1 (fC5 6).2.2.1 ∈ tbl := tbl_in 139 (by decide +kernel) rfl
theorem qm_D_71 : Cond.methodLink nC1 71 y_D_fillBalances ∈ tbl := tbl_in 628 (by decide +kernel) rfl
theorem qm_D_78 : Cond.methodLink nC1 78 Lib.Math.max.name ∈ tbl := tbl_in 633 (by decide +kernel) rfl
theorem mo_D_coinDue : MokV y_D_coinDue b_D_coinDue 4 (some .int) 1 := ⟨⟨(tbl_in 627 (by decide +kernel) rfl), (tbl_in 64 (by decide +kernel) rfl)⟩, ⟨(tbl_in 625 (by decide +kernel) rfl), tbl_lw _ (tbl_in 626 (by decide +kernel) rfl), (tbl_in 626 (by decide +kernel) rfl)⟩, ⟨by decide +kernel, by decide +kernel⟩, by decide +kernel⟩
def b_D_coinDue_9_ (P : Int32 → Hp → Prop)  (I9 : Hp → Int32 → Int32 → Prop) (σ : Hp) (x2 : Int32) (x3 : Int32) : Prop :=
  (((σ 4 6) ≤ x3 → P x2 σ) ∧ (¬ (σ 4 6) ≤ x3 → (vp_in x3 8) ∧ (∀ v3 : Int32, v3 = x2 + (if (0 : Int32) < (σ 16 (ix x3)) then (σ 16 (ix x3)) else (0 : Int32)) → (∀ v4 : Int32, v4 = x3 + (1 : Int32) → I9 σ v3 v4))))
def j_D_coinDue_9 (P : Int32 → Hp → Prop)  (σ : Hp) (x2 : Int32) (x3 : Int32) : Prop := ∀ I9 : Hp → Int32 → Int32 → Prop, (∀ (σ : Hp) (x2 : Int32) (x3 : Int32), b_D_coinDue_9_  P  I9 σ x2 x3 → I9 σ x2 x3) → I9 σ x2 x3
def wp_D_coinDue (σ : Hp) (a1 : Int32) (P : Int32 → Hp → Prop) : Prop :=
  wp_D_fillBalances σ a1 (fun (t6 : Hp) => j_D_coinDue_9 P t6 (0 : Int32) (0 : Int32))
set_option maxHeartbeats 4000000 in
set_option maxRecDepth 100000 in
theorem wj_D_coinDue_9 {w : Wd} {κ : Kx} {P : Int32 → Hp → Prop} (hC : Cx μC w 4 κ nC1 b_D_coinDue 4) (hR : RtI μC w 4 κ b_D_coinDue .int P)  : ∀ (σ : Hp) (x2 : Int32) (x3 : Int32), j_D_coinDue_9  P  σ x2 x3 → V μC w 4 κ σ [some (.ref (w.1 3)), none, some (.int x2), some (.int x3)] 9 [] := by
  intro σ x2 x3 h
  refine h (fun σ x2 x3 => V μC w 4 κ σ [some (.ref (w.1 3)), none, some (.int x2), some (.int x3)] 9 []) (fun σ x2 x3 h => ?_)
  unfold b_D_coinDue_9_ at h
  refine V.iload_n hC d_D_coinDue_9 rfl rfl ?_
  refine V.aload_n hC d_D_coinDue_10 rfl rfl ?_
  refine V.getR (j := 0) hC d_D_coinDue_11 rfl rfl uC1 rfl rfl qf_D_12 ?_
  refine V.getI (j := 6) hC d_D_coinDue_14 rfl rfl uC5 rfl rfl qf_D_75 ?_
  refine V.icmp_ge (tgt := 39) hC d_D_coinDue_17 (by decide) (fun c1 => ?_) (fun c1 => ?_)
  · replace h := h.1 c1
    refine V.iload_n hC d_D_coinDue_39 rfl rfl ?_
    exact hR _ _ _ _ h rfl d_D_coinDue_40
  · replace h := h.2 c1
    refine V.iload_n hC d_D_coinDue_20 rfl rfl ?_
    refine V.iconst (v := 0) hC d_D_coinDue_21 (by decide) ?_
    refine V.aload_n hC d_D_coinDue_22 rfl rfl ?_
    refine V.getR (j := 2) hC d_D_coinDue_23 rfl rfl uC1 rfl rfl qf_D_25 ?_
    refine V.iload_n hC d_D_coinDue_26 rfl rfl ?_
    obtain ⟨b2, h⟩ := h
    refine V.iald hC d_D_coinDue_27 rfl b2 ?_
    refine V.mmax hC d_D_coinDue_28 qm_D_78 qmax_s qmath_i qmax_c rfl rfl ?_
    refine V.iadd hC d_D_coinDue_31 ?_
    obtain ⟨v3, ev3⟩ : ∃ y : Int32, y = x2 + (if (0 : Int32) < (σ 16 (ix x3)) then (σ 16 (ix x3)) else (0 : Int32)) := ⟨_, rfl⟩
    replace h := h v3 ev3
    refine V.istore_n (y := v3) (lo' := [some (.ref (w.1 3)), none, some (.int v3), some (.int x3)]) hC d_D_coinDue_32 rfl rfl ev3 rfl ?_
    obtain ⟨v4, ev4⟩ : ∃ y : Int32, y = x3 + (1 : Int32) := ⟨_, rfl⟩
    replace h := h v4 ev4
    refine V.iinc (y := v4) (lo' := [some (.ref (w.1 3)), none, some (.int v3), some (.int v4)]) hC d_D_coinDue_33 rfl rfl (show v4 = _ + Int32.ofInt (1) from ev4) rfl ?_
    refine V.goto (tgt := 9) hC d_D_coinDue_36 (by decide) ?_
    exact V.msk [true, false, true, true] rfl h
set_option maxHeartbeats 4000000 in
set_option maxRecDepth 100000 in
theorem w_D_coinDue (w : Wd) (σ : Hp) (a1 : Int32) (P : Int32 → Hp → Prop) (h : wp_D_coinDue σ a1 P) : CtI μC w y_D_coinDue b_D_coinDue 4 (some .int) 4 [.ref (w.1 3), .int a1] σ P := by
  unfold wp_D_coinDue at h
  refine CtI.ofV (C := nC1) (lo := [some (.ref (w.1 3)), some (.int a1), none, none]) exC (by decide +kernel) rfl rfl rfl (fun κ hC hR => ?_)
  refine V.aload_n hC d_D_coinDue_0 rfl rfl ?_
  refine V.iload_n hC d_D_coinDue_1 rfl rfl ?_
  refine V.callVN hC exC (w_D_fillBalances w σ a1 _ h) d_D_coinDue_2 mo_D_fillBalances qm_D_71 rfl rfl rfl rfl rfl rfl rfl (Nat.le_of_ble_eq_true rfl) (fun t6 h => ?_)
  refine V.iconst (v := 0) hC d_D_coinDue_5 (by decide) ?_
  refine V.istore_n (y := (0 : Int32)) (lo' := [some (.ref (w.1 3)), some (.int a1), some (.int (0 : Int32)), none]) hC d_D_coinDue_6 rfl rfl rfl rfl ?_
  refine V.iconst (v := 0) hC d_D_coinDue_7 (by decide) ?_
  refine V.istore_n (y := (0 : Int32)) (lo' := [some (.ref (w.1 3)), some (.int a1), some (.int (0 : Int32)), some (.int (0 : Int32))]) hC d_D_coinDue_8 rfl rfl rfl rfl ?_
  exact V.msk [true, false, true, true] rfl (wj_D_coinDue_9  hC hR  t6 (0 : Int32) (0 : Int32) h)
abbrev b_P_coin : ByteArray := prog_1_method_16_code
def y_P_coin : MethodName := ⟨nC7, "coin", "(I)I"⟩
theorem d_P_coin_0 : decode b_P_coin 0 = .ok (.iload_n 1, 1) := by decide +kernel
theorem d_P_coin_1 : decode b_P_coin 1 = .ok (.invokestatic 126, 3) := by decide +kernel
theorem d_P_coin_4 : decode b_P_coin 4 = .ok (.ifCond .eq 14, 3) := by decide +kernel
theorem d_P_coin_7 : decode b_P_coin 7 = .ok (.aload_n 0, 1) := by decide +kernel
theorem d_P_coin_8 : decode b_P_coin 8 = .ok (.getfield 28, 3) := by decide +kernel
theorem d_P_coin_11 : decode b_P_coin 11 = .ok (.iload_n 1, 1) := by decide +kernel
theorem d_P_coin_12 : decode b_P_coin 12 = .ok (.invokevirtual 190, 3) := by decide +kernel
theorem d_P_coin_15 : decode b_P_coin 15 = .ok (.goto 5, 3) := by decide +kernel
theorem d_P_coin_18 : decode b_P_coin 18 = .ok (.bipush (-2), 2) := by decide +kernel
theorem d_P_coin_20 : decode b_P_coin 20 = .ok (.ireturn, 1) := by decide +kernel
theorem qm_P_190 : Cond.methodLink nC7 190 y_D_coinDue ∈ tbl := tbl_in 624 (by decide +kernel) rfl
theorem mo_P_coin : MokV y_P_coin b_P_coin 2 (some .int) 1 := ⟨⟨(tbl_in 623 (by decide +kernel) rfl), (tbl_in 62 (by decide +kernel) rfl)⟩, ⟨(tbl_in 621 (by decide +kernel) rfl), tbl_lw _ (tbl_in 622 (by decide +kernel) rfl), (tbl_in 622 (by decide +kernel) rfl)⟩, ⟨by decide +kernel, by decide +kernel⟩, by decide +kernel⟩
def wp_P_coin (σ : Hp) (a1 : Int32) (P : Int32 → Hp → Prop) : Prop :=
  wp_P_isDay σ a1 (fun (r1 : Int32) (t2 : Hp) => ((r1 = 0 → P (-2 : Int32) t2) ∧ (¬ r1 = 0 → wp_D_coinDue t2 a1 (fun (r4 : Int32) (t5 : Hp) => P r4 t5))))
set_option maxHeartbeats 4000000 in
set_option maxRecDepth 100000 in
theorem w_P_coin (w : Wd) (σ : Hp) (a1 : Int32) (P : Int32 → Hp → Prop) (h : wp_P_coin σ a1 P) : CtI μC w y_P_coin b_P_coin 2 (some .int) 5 [.ref (w.1 0), .int a1] σ P := by
  unfold wp_P_coin at h
  refine CtI.ofV (C := nC7) (lo := [some (.ref (w.1 0)), some (.int a1)]) exC (by decide +kernel) rfl rfl rfl (fun κ hC hR => ?_)
  refine V.iload_n hC d_P_coin_0 rfl rfl ?_
  refine V.callSI hC exC (w_P_isDay w σ a1 _ h) d_P_coin_1 mo_P_isDay qm_P_126 rfl rfl rfl rfl (Nat.le_of_ble_eq_true rfl) (fun r1 t2 h => ?_)
  refine V.if_eq (tgt := 18) hC d_P_coin_4 (by decide) (fun c3 => ?_) (fun c3 => ?_)
  · replace h := h.1 c3
    refine V.bipush (v := -2) hC d_P_coin_18 (by decide) ?_
    exact hR _ _ _ _ h rfl d_P_coin_20
  · replace h := h.2 c3
    refine V.aload_n hC d_P_coin_7 rfl rfl ?_
    refine V.getR (j := 2) hC d_P_coin_8 rfl rfl uC7 rfl rfl qf_P_28 ?_
    refine V.iload_n hC d_P_coin_11 rfl rfl ?_
    refine V.callVI hC exC (w_D_coinDue w t2 a1 _ h) d_P_coin_12 mo_D_coinDue qm_P_190 rfl rfl rfl rfl rfl rfl rfl (Nat.le_of_ble_eq_true rfl) (fun r4 t5 h => ?_)
    refine V.goto (tgt := 20) hC d_P_coin_15 (by decide) ?_
    exact hR _ _ _ _ h rfl d_P_coin_20
abbrev b_P_broke : ByteArray := prog_1_method_17_code
def y_P_broke : MethodName := ⟨nC7, "broke", "(I)I"⟩
theorem d_P_broke_0 : decode b_P_broke 0 = .ok (.aload_n 0, 1) := by decide +kernel
theorem d_P_broke_1 : decode b_P_broke 1 = .ok (.iload_n 1, 1) := by decide +kernel
theorem d_P_broke_2 : decode b_P_broke 2 = .ok (.invokevirtual 97, 3) := by decide +kernel
theorem d_P_broke_5 : decode b_P_broke 5 = .ok (.ifCond .ne 6, 3) := by decide +kernel
theorem d_P_broke_8 : decode b_P_broke 8 = .ok (.bipush (-2), 2) := by decide +kernel
theorem d_P_broke_10 : decode b_P_broke 10 = .ok (.ireturn, 1) := by decide +kernel
theorem d_P_broke_11 : decode b_P_broke 11 = .ok (.aload_n 0, 1) := by decide +kernel
theorem d_P_broke_12 : decode b_P_broke 12 = .ok (.getfield 41, 3) := by decide +kernel
theorem d_P_broke_15 : decode b_P_broke 15 = .ok (.invokevirtual 184, 3) := by decide +kernel
theorem d_P_broke_18 : decode b_P_broke 18 = .ok (.istore_n 2, 1) := by decide +kernel
theorem d_P_broke_19 : decode b_P_broke 19 = .ok (.iconst 0, 1) := by decide +kernel
theorem d_P_broke_20 : decode b_P_broke 20 = .ok (.istore_n 3, 1) := by decide +kernel
theorem d_P_broke_21 : decode b_P_broke 21 = .ok (.iload_n 3, 1) := by decide +kernel
theorem d_P_broke_22 : decode b_P_broke 22 = .ok (.bipush 30, 2) := by decide +kernel
theorem d_P_broke_24 : decode b_P_broke 24 = .ok (.if_icmp .ge 34, 3) := by decide +kernel
theorem d_P_broke_27 : decode b_P_broke 27 = .ok (.aload_n 0, 1) := by decide +kernel
theorem d_P_broke_28 : decode b_P_broke 28 = .ok (.getfield 28, 3) := by decide +kernel
theorem d_P_broke_31 : decode b_P_broke 31 = .ok (.iload_n 3, 1) := by decide +kernel
theorem d_P_broke_32 : decode b_P_broke 32 = .ok (.iload_n 1, 1) := by decide +kernel
theorem d_P_broke_33 : decode b_P_broke 33 = .ok (.iload_n 2, 1) := by decide +kernel
theorem d_P_broke_34 : decode b_P_broke 34 = .ok (.invokevirtual 187, 3) := by decide +kernel
theorem d_P_broke_37 : decode b_P_broke 37 = .ok (.aload_n 0, 1) := by decide +kernel
theorem d_P_broke_38 : decode b_P_broke 38 = .ok (.getfield 36, 3) := by decide +kernel
theorem d_P_broke_41 : decode b_P_broke 41 = .ok (.getfield 111, 3) := by decide +kernel
theorem d_P_broke_44 : decode b_P_broke 44 = .ok (.iload_n 1, 1) := by decide +kernel
theorem d_P_broke_45 : decode b_P_broke 45 = .ok (.iaload, 1) := by decide +kernel
theorem d_P_broke_46 : decode b_P_broke 46 = .ok (.ineg, 1) := by decide +kernel
theorem d_P_broke_47 : decode b_P_broke 47 = .ok (.if_icmp .ge 5, 3) := by decide +kernel
theorem d_P_broke_50 : decode b_P_broke 50 = .ok (.iload_n 3, 1) := by decide +kernel
theorem d_P_broke_51 : decode b_P_broke 51 = .ok (.ireturn, 1) := by decide +kernel
theorem d_P_broke_52 : decode b_P_broke 52 = .ok (.iinc 3 1, 3) := by decide +kernel
theorem d_P_broke_55 : decode b_P_broke 55 = .ok (.goto (-34), 3) := by decide +kernel
theorem d_P_broke_58 : decode b_P_broke 58 = .ok (.iconst (-1), 1) := by decide +kernel
theorem d_P_broke_59 : decode b_P_broke 59 = .ok (.ireturn, 1) := by decide +kernel
theorem mo_P_broke : MokV y_P_broke b_P_broke 4 (some .int) 1 := ⟨⟨(tbl_in 637 (by decide +kernel) rfl), (tbl_in 62 (by decide +kernel) rfl)⟩, ⟨(tbl_in 635 (by decide +kernel) rfl), tbl_lw _ (tbl_in 636 (by decide +kernel) rfl), (tbl_in 636 (by decide +kernel) rfl)⟩, ⟨by decide +kernel, by decide +kernel⟩, by decide +kernel⟩
def b_P_broke_21_ (P : Int32 → Hp → Prop)  (I21 : Hp → Int32 → Int32 → Int32 → Prop) (σ : Hp) (x1 : Int32) (x2 : Int32) (x3 : Int32) : Prop :=
  (((30 : Int32) ≤ x3 → P (-1 : Int32) σ) ∧ (¬ (30 : Int32) ≤ x3 → wp_D_balanceOf σ x3 x1 x2 (fun (r2 : Int32) (t3 : Hp) => (vp_in x1 8) ∧ (((-(t3 24 (ix x1))) ≤ r2 → (∀ v6 : Int32, v6 = x3 + (1 : Int32) → I21 t3 x1 x2 v6)) ∧ (¬ (-(t3 24 (ix x1))) ≤ r2 → P x3 t3)))))
def j_P_broke_21 (P : Int32 → Hp → Prop)  (σ : Hp) (x1 : Int32) (x2 : Int32) (x3 : Int32) : Prop := ∀ I21 : Hp → Int32 → Int32 → Int32 → Prop, (∀ (σ : Hp) (x1 : Int32) (x2 : Int32) (x3 : Int32), b_P_broke_21_  P  I21 σ x1 x2 x3 → I21 σ x1 x2 x3) → I21 σ x1 x2 x3
def wp_P_broke (σ : Hp) (a1 : Int32) (P : Int32 → Hp → Prop) : Prop :=
  wp_P_isHouse σ a1 (fun (r7 : Int32) (t8 : Hp) => ((¬ r7 = 0 → wp_K_leadingOfAll t8 (fun (r10 : Int32) (t11 : Hp) => j_P_broke_21 P t11 a1 r10 (0 : Int32))) ∧ (r7 = 0 → P (-2 : Int32) t8)))
set_option maxHeartbeats 4000000 in
set_option maxRecDepth 100000 in
theorem wj_P_broke_21 {w : Wd} {κ : Kx} {P : Int32 → Hp → Prop} (hC : Cx μC w 4 κ nC7 b_P_broke 4) (hR : RtI μC w 4 κ b_P_broke .int P)  : ∀ (σ : Hp) (x1 : Int32) (x2 : Int32) (x3 : Int32), j_P_broke_21  P  σ x1 x2 x3 → V μC w 4 κ σ [some (.ref (w.1 0)), some (.int x1), some (.int x2), some (.int x3)] 21 [] := by
  intro σ x1 x2 x3 h
  refine h (fun σ x1 x2 x3 => V μC w 4 κ σ [some (.ref (w.1 0)), some (.int x1), some (.int x2), some (.int x3)] 21 []) (fun σ x1 x2 x3 h => ?_)
  unfold b_P_broke_21_ at h
  refine V.iload_n hC d_P_broke_21 rfl rfl ?_
  refine V.bipush (v := 30) hC d_P_broke_22 (by decide) ?_
  refine V.icmp_ge (tgt := 58) hC d_P_broke_24 (by decide) (fun c1 => ?_) (fun c1 => ?_)
  · replace h := h.1 c1
    refine V.iconst (v := -1) hC d_P_broke_58 (by decide) ?_
    exact hR _ _ _ _ h rfl d_P_broke_59
  · replace h := h.2 c1
    refine V.aload_n hC d_P_broke_27 rfl rfl ?_
    refine V.getR (j := 2) hC d_P_broke_28 rfl rfl uC7 rfl rfl qf_P_28 ?_
    refine V.iload_n hC d_P_broke_31 rfl rfl ?_
    refine V.iload_n hC d_P_broke_32 rfl rfl ?_
    refine V.iload_n hC d_P_broke_33 rfl rfl ?_
    refine V.callVI hC exC (w_D_balanceOf w σ x3 x1 x2 _ h) d_P_broke_34 mo_D_balanceOf qm_P_187 rfl rfl rfl rfl rfl rfl rfl (Nat.le_of_ble_eq_true rfl) (fun r2 t3 h => ?_)
    refine V.aload_n hC d_P_broke_37 rfl rfl ?_
    refine V.getR (j := 3) hC d_P_broke_38 rfl rfl uC7 rfl rfl qf_P_36 ?_
    refine V.getR (j := 3) hC d_P_broke_41 rfl rfl uC5 rfl rfl qf_P_111 ?_
    refine V.iload_n hC d_P_broke_44 rfl rfl ?_
    obtain ⟨b4, h⟩ := h
    refine V.iald hC d_P_broke_45 rfl b4 ?_
    refine V.ineg hC d_P_broke_46 ?_
    refine V.icmp_ge (tgt := 52) hC d_P_broke_47 (by decide) (fun c5 => ?_) (fun c5 => ?_)
    · replace h := h.1 c5
      obtain ⟨v6, ev6⟩ : ∃ y : Int32, y = x3 + (1 : Int32) := ⟨_, rfl⟩
      replace h := h v6 ev6
      refine V.iinc (y := v6) (lo' := [some (.ref (w.1 0)), some (.int x1), some (.int x2), some (.int v6)]) hC d_P_broke_52 rfl rfl (show v6 = _ + Int32.ofInt (1) from ev6) rfl ?_
      refine V.goto (tgt := 21) hC d_P_broke_55 (by decide) ?_
      exact V.msk [true, true, true, true] rfl h
    · replace h := h.2 c5
      refine V.iload_n hC d_P_broke_50 rfl rfl ?_
      exact hR _ _ _ _ h rfl d_P_broke_51
set_option maxHeartbeats 4000000 in
set_option maxRecDepth 100000 in
theorem w_P_broke (w : Wd) (σ : Hp) (a1 : Int32) (P : Int32 → Hp → Prop) (h : wp_P_broke σ a1 P) : CtI μC w y_P_broke b_P_broke 4 (some .int) 4 [.ref (w.1 0), .int a1] σ P := by
  unfold wp_P_broke at h
  refine CtI.ofV (C := nC7) (lo := [some (.ref (w.1 0)), some (.int a1), none, none]) exC (by decide +kernel) rfl rfl rfl (fun κ hC hR => ?_)
  refine V.aload_n hC d_P_broke_0 rfl rfl ?_
  refine V.iload_n hC d_P_broke_1 rfl rfl ?_
  refine V.callVI hC exC (w_P_isHouse w σ a1 _ h) d_P_broke_2 mo_P_isHouse qm_P_97 rfl rfl rfl rfl rfl rfl rfl (Nat.le_of_ble_eq_true rfl) (fun r7 t8 h => ?_)
  refine V.if_ne (tgt := 11) hC d_P_broke_5 (by decide) (fun c9 => ?_) (fun c9 => ?_)
  · replace h := h.1 c9
    refine V.aload_n hC d_P_broke_11 rfl rfl ?_
    refine V.getR (j := 4) hC d_P_broke_12 rfl rfl uC7 rfl rfl qf_P_41 ?_
    refine V.callVI hC exC (w_K_leadingOfAll w t8  _ h) d_P_broke_15 mo_K_leadingOfAll qm_P_184 rfl rfl rfl rfl rfl rfl rfl (Nat.le_of_ble_eq_true rfl) (fun r10 t11 h => ?_)
    refine V.istore_n (y := r10) (lo' := [some (.ref (w.1 0)), some (.int a1), some (.int r10), none]) hC d_P_broke_18 rfl rfl rfl rfl ?_
    refine V.iconst (v := 0) hC d_P_broke_19 (by decide) ?_
    refine V.istore_n (y := (0 : Int32)) (lo' := [some (.ref (w.1 0)), some (.int a1), some (.int r10), some (.int (0 : Int32))]) hC d_P_broke_20 rfl rfl rfl rfl ?_
    exact V.msk [true, true, true, true] rfl (wj_P_broke_21  hC hR  t11 a1 r10 (0 : Int32) h)
  · replace h := h.2 c9
    refine V.bipush (v := -2) hC d_P_broke_8 (by decide) ?_
    exact hR _ _ _ _ h rfl d_P_broke_10
abbrev b_P_richest : ByteArray := prog_1_method_18_code
def y_P_richest : MethodName := ⟨nC7, "richest", "(I)I"⟩
theorem d_P_richest_0 : decode b_P_richest 0 = .ok (.iload_n 1, 1) := by decide +kernel
theorem d_P_richest_1 : decode b_P_richest 1 = .ok (.invokestatic 126, 3) := by decide +kernel
theorem d_P_richest_4 : decode b_P_richest 4 = .ok (.ifCond .ne 6, 3) := by decide +kernel
theorem d_P_richest_7 : decode b_P_richest 7 = .ok (.bipush (-2), 2) := by decide +kernel
theorem d_P_richest_9 : decode b_P_richest 9 = .ok (.ireturn, 1) := by decide +kernel
theorem d_P_richest_10 : decode b_P_richest 10 = .ok (.aload_n 0, 1) := by decide +kernel
theorem d_P_richest_11 : decode b_P_richest 11 = .ok (.getfield 28, 3) := by decide +kernel
theorem d_P_richest_14 : decode b_P_richest 14 = .ok (.iload_n 1, 1) := by decide +kernel
theorem d_P_richest_15 : decode b_P_richest 15 = .ok (.invokevirtual 193, 3) := by decide +kernel
theorem d_P_richest_18 : decode b_P_richest 18 = .ok (.iconst (-1), 1) := by decide +kernel
theorem d_P_richest_19 : decode b_P_richest 19 = .ok (.istore_n 2, 1) := by decide +kernel
theorem d_P_richest_20 : decode b_P_richest 20 = .ok (.iconst 0, 1) := by decide +kernel
theorem d_P_richest_21 : decode b_P_richest 21 = .ok (.istore_n 3, 1) := by decide +kernel
theorem d_P_richest_22 : decode b_P_richest 22 = .ok (.iload_n 3, 1) := by decide +kernel
theorem d_P_richest_23 : decode b_P_richest 23 = .ok (.aload_n 0, 1) := by decide +kernel
theorem d_P_richest_24 : decode b_P_richest 24 = .ok (.getfield 36, 3) := by decide +kernel
theorem d_P_richest_27 : decode b_P_richest 27 = .ok (.getfield 196, 3) := by decide +kernel
theorem d_P_richest_30 : decode b_P_richest 30 = .ok (.if_icmp .ge 37, 3) := by decide +kernel
theorem d_P_richest_33 : decode b_P_richest 33 = .ok (.iload_n 2, 1) := by decide +kernel
theorem d_P_richest_34 : decode b_P_richest 34 = .ok (.iconst (-1), 1) := by decide +kernel
theorem d_P_richest_35 : decode b_P_richest 35 = .ok (.if_icmp .eq 24, 3) := by decide +kernel
theorem d_P_richest_38 : decode b_P_richest 38 = .ok (.aload_n 0, 1) := by decide +kernel
theorem d_P_richest_39 : decode b_P_richest 39 = .ok (.getfield 28, 3) := by decide +kernel
theorem d_P_richest_42 : decode b_P_richest 42 = .ok (.getfield 199, 3) := by decide +kernel
theorem d_P_richest_45 : decode b_P_richest 45 = .ok (.iload_n 3, 1) := by decide +kernel
theorem d_P_richest_46 : decode b_P_richest 46 = .ok (.iaload, 1) := by decide +kernel
theorem d_P_richest_47 : decode b_P_richest 47 = .ok (.aload_n 0, 1) := by decide +kernel
theorem d_P_richest_48 : decode b_P_richest 48 = .ok (.getfield 28, 3) := by decide +kernel
theorem d_P_richest_51 : decode b_P_richest 51 = .ok (.getfield 199, 3) := by decide +kernel
theorem d_P_richest_54 : decode b_P_richest 54 = .ok (.iload_n 2, 1) := by decide +kernel
theorem d_P_richest_55 : decode b_P_richest 55 = .ok (.iaload, 1) := by decide +kernel
theorem d_P_richest_56 : decode b_P_richest 56 = .ok (.if_icmp .le 5, 3) := by decide +kernel
theorem d_P_richest_59 : decode b_P_richest 59 = .ok (.iload_n 3, 1) := by decide +kernel
theorem d_P_richest_60 : decode b_P_richest 60 = .ok (.istore_n 2, 1) := by decide +kernel
theorem d_P_richest_61 : decode b_P_richest 61 = .ok (.iinc 3 1, 3) := by decide +kernel
theorem d_P_richest_64 : decode b_P_richest 64 = .ok (.goto (-42), 3) := by decide +kernel
theorem d_P_richest_67 : decode b_P_richest 67 = .ok (.iload_n 2, 1) := by decide +kernel
theorem d_P_richest_68 : decode b_P_richest 68 = .ok (.ireturn, 1) := by decide +kernel
theorem qf_P_199 : Cond.fieldLink nC7 199 (fC1 2).1 (fC1 2).2.1 (fC1 2).2.2.1 ∈ tbl := tbl_in 209 (by decide +kernel) rfl
theorem qm_P_193 : Cond.methodLink nC7 193 y_D_fillBalances ∈ tbl := tbl_in 642 (by decide +kernel) rfl
theorem mo_P_richest : MokV y_P_richest b_P_richest 4 (some .int) 1 := ⟨⟨(tbl_in 641 (by decide +kernel) rfl), (tbl_in 62 (by decide +kernel) rfl)⟩, ⟨(tbl_in 639 (by decide +kernel) rfl), tbl_lw _ (tbl_in 640 (by decide +kernel) rfl), (tbl_in 640 (by decide +kernel) rfl)⟩, ⟨by decide +kernel, by decide +kernel⟩, by decide +kernel⟩
def b_P_richest_22_ (P : Int32 → Hp → Prop)  (I22 : Hp → Int32 → Int32 → Prop) (σ : Hp) (x2 : Int32) (x3 : Int32) : Prop :=
  (((σ 4 6) ≤ x3 → P x2 σ) ∧ (¬ (σ 4 6) ≤ x3 → ((x2 = (-1 : Int32) → (∀ v3 : Int32, v3 = x3 + (1 : Int32) → I22 σ x3 v3)) ∧ (¬ x2 = (-1 : Int32) → (vp_in x3 8) ∧ (vp_in x2 8) ∧ (((σ 16 (ix x3)) ≤ (σ 16 (ix x2)) → (∀ v7 : Int32, v7 = x3 + (1 : Int32) → I22 σ x2 v7)) ∧ (¬ (σ 16 (ix x3)) ≤ (σ 16 (ix x2)) → (∀ v8 : Int32, v8 = x3 + (1 : Int32) → I22 σ x3 v8)))))))
def j_P_richest_22 (P : Int32 → Hp → Prop)  (σ : Hp) (x2 : Int32) (x3 : Int32) : Prop := ∀ I22 : Hp → Int32 → Int32 → Prop, (∀ (σ : Hp) (x2 : Int32) (x3 : Int32), b_P_richest_22_  P  I22 σ x2 x3 → I22 σ x2 x3) → I22 σ x2 x3
def wp_P_richest (σ : Hp) (a1 : Int32) (P : Int32 → Hp → Prop) : Prop :=
  wp_P_isDay σ a1 (fun (r9 : Int32) (t10 : Hp) => ((¬ r9 = 0 → wp_D_fillBalances t10 a1 (fun (t13 : Hp) => j_P_richest_22 P t13 (-1 : Int32) (0 : Int32))) ∧ (r9 = 0 → P (-2 : Int32) t10)))
set_option maxHeartbeats 4000000 in
set_option maxRecDepth 100000 in
theorem wj_P_richest_22 {w : Wd} {κ : Kx} {P : Int32 → Hp → Prop} (hC : Cx μC w 4 κ nC7 b_P_richest 4) (hR : RtI μC w 4 κ b_P_richest .int P)  : ∀ (σ : Hp) (x2 : Int32) (x3 : Int32), j_P_richest_22  P  σ x2 x3 → V μC w 4 κ σ [some (.ref (w.1 0)), none, some (.int x2), some (.int x3)] 22 [] := by
  intro σ x2 x3 h
  refine h (fun σ x2 x3 => V μC w 4 κ σ [some (.ref (w.1 0)), none, some (.int x2), some (.int x3)] 22 []) (fun σ x2 x3 h => ?_)
  unfold b_P_richest_22_ at h
  refine V.iload_n hC d_P_richest_22 rfl rfl ?_
  refine V.aload_n hC d_P_richest_23 rfl rfl ?_
  refine V.getR (j := 3) hC d_P_richest_24 rfl rfl uC7 rfl rfl qf_P_36 ?_
  refine V.getI (j := 6) hC d_P_richest_27 rfl rfl uC5 rfl rfl qf_P_196 ?_
  refine V.icmp_ge (tgt := 67) hC d_P_richest_30 (by decide) (fun c1 => ?_) (fun c1 => ?_)
  · replace h := h.1 c1
    refine V.iload_n hC d_P_richest_67 rfl rfl ?_
    exact hR _ _ _ _ h rfl d_P_richest_68
  · replace h := h.2 c1
    refine V.iload_n hC d_P_richest_33 rfl rfl ?_
    refine V.iconst (v := -1) hC d_P_richest_34 (by decide) ?_
    refine V.icmp_eq (tgt := 59) hC d_P_richest_35 (by decide) (fun c2 => ?_) (fun c2 => ?_)
    · replace h := h.1 c2
      refine V.iload_n hC d_P_richest_59 rfl rfl ?_
      refine V.istore_n (y := x3) (lo' := [some (.ref (w.1 0)), none, some (.int x3), some (.int x3)]) hC d_P_richest_60 rfl rfl rfl rfl ?_
      obtain ⟨v3, ev3⟩ : ∃ y : Int32, y = x3 + (1 : Int32) := ⟨_, rfl⟩
      replace h := h v3 ev3
      refine V.iinc (y := v3) (lo' := [some (.ref (w.1 0)), none, some (.int x3), some (.int v3)]) hC d_P_richest_61 rfl rfl (show v3 = _ + Int32.ofInt (1) from ev3) rfl ?_
      refine V.goto (tgt := 22) hC d_P_richest_64 (by decide) ?_
      exact V.msk [true, false, true, true] rfl h
    · replace h := h.2 c2
      refine V.aload_n hC d_P_richest_38 rfl rfl ?_
      refine V.getR (j := 2) hC d_P_richest_39 rfl rfl uC7 rfl rfl qf_P_28 ?_
      refine V.getR (j := 2) hC d_P_richest_42 rfl rfl uC1 rfl rfl qf_P_199 ?_
      refine V.iload_n hC d_P_richest_45 rfl rfl ?_
      obtain ⟨b4, h⟩ := h
      refine V.iald hC d_P_richest_46 rfl b4 ?_
      refine V.aload_n hC d_P_richest_47 rfl rfl ?_
      refine V.getR (j := 2) hC d_P_richest_48 rfl rfl uC7 rfl rfl qf_P_28 ?_
      refine V.getR (j := 2) hC d_P_richest_51 rfl rfl uC1 rfl rfl qf_P_199 ?_
      refine V.iload_n hC d_P_richest_54 rfl rfl ?_
      obtain ⟨b5, h⟩ := h
      refine V.iald hC d_P_richest_55 rfl b5 ?_
      refine V.icmp_le (tgt := 61) hC d_P_richest_56 (by decide) (fun c6 => ?_) (fun c6 => ?_)
      · replace h := h.1 c6
        obtain ⟨v7, ev7⟩ : ∃ y : Int32, y = x3 + (1 : Int32) := ⟨_, rfl⟩
        replace h := h v7 ev7
        refine V.iinc (y := v7) (lo' := [some (.ref (w.1 0)), none, some (.int x2), some (.int v7)]) hC d_P_richest_61 rfl rfl (show v7 = _ + Int32.ofInt (1) from ev7) rfl ?_
        refine V.goto (tgt := 22) hC d_P_richest_64 (by decide) ?_
        exact V.msk [true, false, true, true] rfl h
      · replace h := h.2 c6
        refine V.iload_n hC d_P_richest_59 rfl rfl ?_
        refine V.istore_n (y := x3) (lo' := [some (.ref (w.1 0)), none, some (.int x3), some (.int x3)]) hC d_P_richest_60 rfl rfl rfl rfl ?_
        obtain ⟨v8, ev8⟩ : ∃ y : Int32, y = x3 + (1 : Int32) := ⟨_, rfl⟩
        replace h := h v8 ev8
        refine V.iinc (y := v8) (lo' := [some (.ref (w.1 0)), none, some (.int x3), some (.int v8)]) hC d_P_richest_61 rfl rfl (show v8 = _ + Int32.ofInt (1) from ev8) rfl ?_
        refine V.goto (tgt := 22) hC d_P_richest_64 (by decide) ?_
        exact V.msk [true, false, true, true] rfl h
set_option maxHeartbeats 4000000 in
set_option maxRecDepth 100000 in
theorem w_P_richest (w : Wd) (σ : Hp) (a1 : Int32) (P : Int32 → Hp → Prop) (h : wp_P_richest σ a1 P) : CtI μC w y_P_richest b_P_richest 4 (some .int) 4 [.ref (w.1 0), .int a1] σ P := by
  unfold wp_P_richest at h
  refine CtI.ofV (C := nC7) (lo := [some (.ref (w.1 0)), some (.int a1), none, none]) exC (by decide +kernel) rfl rfl rfl (fun κ hC hR => ?_)
  refine V.iload_n hC d_P_richest_0 rfl rfl ?_
  refine V.callSI hC exC (w_P_isDay w σ a1 _ h) d_P_richest_1 mo_P_isDay qm_P_126 rfl rfl rfl rfl (Nat.le_of_ble_eq_true rfl) (fun r9 t10 h => ?_)
  refine V.if_ne (tgt := 10) hC d_P_richest_4 (by decide) (fun c11 => ?_) (fun c11 => ?_)
  · replace h := h.1 c11
    refine V.aload_n hC d_P_richest_10 rfl rfl ?_
    refine V.getR (j := 2) hC d_P_richest_11 rfl rfl uC7 rfl rfl qf_P_28 ?_
    refine V.iload_n hC d_P_richest_14 rfl rfl ?_
    refine V.callVN hC exC (w_D_fillBalances w t10 a1 _ h) d_P_richest_15 mo_D_fillBalances qm_P_193 rfl rfl rfl rfl rfl rfl rfl (Nat.le_of_ble_eq_true rfl) (fun t13 h => ?_)
    refine V.iconst (v := -1) hC d_P_richest_18 (by decide) ?_
    refine V.istore_n (y := (-1 : Int32)) (lo' := [some (.ref (w.1 0)), some (.int a1), some (.int (-1 : Int32)), none]) hC d_P_richest_19 rfl rfl rfl rfl ?_
    refine V.iconst (v := 0) hC d_P_richest_20 (by decide) ?_
    refine V.istore_n (y := (0 : Int32)) (lo' := [some (.ref (w.1 0)), some (.int a1), some (.int (-1 : Int32)), some (.int (0 : Int32))]) hC d_P_richest_21 rfl rfl rfl rfl ?_
    exact V.msk [true, false, true, true] rfl (wj_P_richest_22  hC hR  t13 (-1 : Int32) (0 : Int32) h)
  · replace h := h.2 c11
    refine V.bipush (v := -2) hC d_P_richest_7 (by decide) ?_
    exact hR _ _ _ _ h rfl d_P_richest_9
abbrev b_D_fewestPayments : ByteArray := prog_3_method_8_code
def y_D_fewestPayments : MethodName := ⟨nC1, "fewestPayments", "(I)I"⟩
theorem d_D_fewestPayments_0 : decode b_D_fewestPayments 0 = .ok (.aload_n 0, 1) := by decide +kernel
theorem d_D_fewestPayments_1 : decode b_D_fewestPayments 1 = .ok (.iload_n 1, 1) := by decide +kernel
theorem d_D_fewestPayments_2 : decode b_D_fewestPayments 2 = .ok (.invokevirtual 71, 3) := by decide +kernel
theorem d_D_fewestPayments_5 : decode b_D_fewestPayments 5 = .ok (.aload_n 0, 1) := by decide +kernel
theorem d_D_fewestPayments_6 : decode b_D_fewestPayments 6 = .ok (.getfield 35, 3) := by decide +kernel
theorem d_D_fewestPayments_9 : decode b_D_fewestPayments 9 = .ok (.iconst 0, 1) := by decide +kernel
theorem d_D_fewestPayments_10 : decode b_D_fewestPayments 10 = .ok (.iconst 0, 1) := by decide +kernel
theorem d_D_fewestPayments_11 : decode b_D_fewestPayments 11 = .ok (.iastore, 1) := by decide +kernel
theorem d_D_fewestPayments_12 : decode b_D_fewestPayments 12 = .ok (.aload_n 0, 1) := by decide +kernel
theorem d_D_fewestPayments_13 : decode b_D_fewestPayments 13 = .ok (.getfield 38, 3) := by decide +kernel
theorem d_D_fewestPayments_16 : decode b_D_fewestPayments 16 = .ok (.iconst 0, 1) := by decide +kernel
theorem d_D_fewestPayments_17 : decode b_D_fewestPayments 17 = .ok (.iconst 0, 1) := by decide +kernel
theorem d_D_fewestPayments_18 : decode b_D_fewestPayments 18 = .ok (.iastore, 1) := by decide +kernel
theorem d_D_fewestPayments_19 : decode b_D_fewestPayments 19 = .ok (.iconst 1, 1) := by decide +kernel
theorem d_D_fewestPayments_20 : decode b_D_fewestPayments 20 = .ok (.aload_n 0, 1) := by decide +kernel
theorem d_D_fewestPayments_21 : decode b_D_fewestPayments 21 = .ok (.getfield 12, 3) := by decide +kernel
theorem d_D_fewestPayments_24 : decode b_D_fewestPayments 24 = .ok (.getfield 75, 3) := by decide +kernel
theorem d_D_fewestPayments_27 : decode b_D_fewestPayments 27 = .ok (.ishl, 1) := by decide +kernel
theorem d_D_fewestPayments_28 : decode b_D_fewestPayments 28 = .ok (.istore_n 2, 1) := by decide +kernel
theorem d_D_fewestPayments_29 : decode b_D_fewestPayments 29 = .ok (.iconst 1, 1) := by decide +kernel
theorem d_D_fewestPayments_30 : decode b_D_fewestPayments 30 = .ok (.istore_n 3, 1) := by decide +kernel
theorem d_D_fewestPayments_31 : decode b_D_fewestPayments 31 = .ok (.iload_n 3, 1) := by decide +kernel
theorem d_D_fewestPayments_32 : decode b_D_fewestPayments 32 = .ok (.iload_n 2, 1) := by decide +kernel
theorem d_D_fewestPayments_33 : decode b_D_fewestPayments 33 = .ok (.if_icmp .ge 114, 3) := by decide +kernel
theorem d_D_fewestPayments_36 : decode b_D_fewestPayments 36 = .ok (.iconst 0, 1) := by decide +kernel
theorem d_D_fewestPayments_37 : decode b_D_fewestPayments 37 = .ok (.istore 4, 2) := by decide +kernel
theorem d_D_fewestPayments_39 : decode b_D_fewestPayments 39 = .ok (.iconst 0, 1) := by decide +kernel
theorem d_D_fewestPayments_40 : decode b_D_fewestPayments 40 = .ok (.istore 5, 2) := by decide +kernel
theorem d_D_fewestPayments_42 : decode b_D_fewestPayments 42 = .ok (.iload 5, 2) := by decide +kernel
theorem d_D_fewestPayments_44 : decode b_D_fewestPayments 44 = .ok (.aload_n 0, 1) := by decide +kernel
theorem d_D_fewestPayments_45 : decode b_D_fewestPayments 45 = .ok (.getfield 12, 3) := by decide +kernel
theorem d_D_fewestPayments_48 : decode b_D_fewestPayments 48 = .ok (.getfield 75, 3) := by decide +kernel
theorem d_D_fewestPayments_51 : decode b_D_fewestPayments 51 = .ok (.if_icmp .ge 66, 3) := by decide +kernel
theorem d_D_fewestPayments_54 : decode b_D_fewestPayments 54 = .ok (.iload_n 3, 1) := by decide +kernel
theorem d_D_fewestPayments_55 : decode b_D_fewestPayments 55 = .ok (.iload 5, 2) := by decide +kernel
theorem d_D_fewestPayments_57 : decode b_D_fewestPayments 57 = .ok (.ishr, 1) := by decide +kernel
theorem d_D_fewestPayments_58 : decode b_D_fewestPayments 58 = .ok (.iconst 1, 1) := by decide +kernel
theorem d_D_fewestPayments_59 : decode b_D_fewestPayments 59 = .ok (.iand, 1) := by decide +kernel
theorem d_D_fewestPayments_60 : decode b_D_fewestPayments 60 = .ok (.ifCond .ne 6, 3) := by decide +kernel
theorem d_D_fewestPayments_63 : decode b_D_fewestPayments 63 = .ok (.goto 48, 3) := by decide +kernel
theorem d_D_fewestPayments_66 : decode b_D_fewestPayments 66 = .ok (.iload_n 3, 1) := by decide +kernel
theorem d_D_fewestPayments_67 : decode b_D_fewestPayments 67 = .ok (.iconst 1, 1) := by decide +kernel
theorem d_D_fewestPayments_68 : decode b_D_fewestPayments 68 = .ok (.iload 5, 2) := by decide +kernel
theorem d_D_fewestPayments_70 : decode b_D_fewestPayments 70 = .ok (.ishl, 1) := by decide +kernel
theorem d_D_fewestPayments_71 : decode b_D_fewestPayments 71 = .ok (.iconst (-1), 1) := by decide +kernel
theorem d_D_fewestPayments_72 : decode b_D_fewestPayments 72 = .ok (.ixor, 1) := by decide +kernel
theorem d_D_fewestPayments_73 : decode b_D_fewestPayments 73 = .ok (.iand, 1) := by decide +kernel
theorem d_D_fewestPayments_74 : decode b_D_fewestPayments 74 = .ok (.istore 6, 2) := by decide +kernel
theorem d_D_fewestPayments_76 : decode b_D_fewestPayments 76 = .ok (.aload_n 0, 1) := by decide +kernel
theorem d_D_fewestPayments_77 : decode b_D_fewestPayments 77 = .ok (.getfield 35, 3) := by decide +kernel
theorem d_D_fewestPayments_80 : decode b_D_fewestPayments 80 = .ok (.iload_n 3, 1) := by decide +kernel
theorem d_D_fewestPayments_81 : decode b_D_fewestPayments 81 = .ok (.aload_n 0, 1) := by decide +kernel
theorem d_D_fewestPayments_82 : decode b_D_fewestPayments 82 = .ok (.getfield 35, 3) := by decide +kernel
theorem d_D_fewestPayments_85 : decode b_D_fewestPayments 85 = .ok (.iload 6, 2) := by decide +kernel
theorem d_D_fewestPayments_87 : decode b_D_fewestPayments 87 = .ok (.iaload, 1) := by decide +kernel
theorem d_D_fewestPayments_88 : decode b_D_fewestPayments 88 = .ok (.aload_n 0, 1) := by decide +kernel
theorem d_D_fewestPayments_89 : decode b_D_fewestPayments 89 = .ok (.getfield 25, 3) := by decide +kernel
theorem d_D_fewestPayments_92 : decode b_D_fewestPayments 92 = .ok (.iload 5, 2) := by decide +kernel
theorem d_D_fewestPayments_94 : decode b_D_fewestPayments 94 = .ok (.iaload, 1) := by decide +kernel
theorem d_D_fewestPayments_95 : decode b_D_fewestPayments 95 = .ok (.iadd, 1) := by decide +kernel
theorem d_D_fewestPayments_96 : decode b_D_fewestPayments 96 = .ok (.iastore, 1) := by decide +kernel
theorem d_D_fewestPayments_97 : decode b_D_fewestPayments 97 = .ok (.iload 4, 2) := by decide +kernel
theorem d_D_fewestPayments_99 : decode b_D_fewestPayments 99 = .ok (.aload_n 0, 1) := by decide +kernel
theorem d_D_fewestPayments_100 : decode b_D_fewestPayments 100 = .ok (.getfield 38, 3) := by decide +kernel
theorem d_D_fewestPayments_103 : decode b_D_fewestPayments 103 = .ok (.iload 6, 2) := by decide +kernel
theorem d_D_fewestPayments_105 : decode b_D_fewestPayments 105 = .ok (.iaload, 1) := by decide +kernel
theorem d_D_fewestPayments_106 : decode b_D_fewestPayments 106 = .ok (.invokestatic 78, 3) := by decide +kernel
theorem d_D_fewestPayments_109 : decode b_D_fewestPayments 109 = .ok (.istore 4, 2) := by decide +kernel
theorem d_D_fewestPayments_111 : decode b_D_fewestPayments 111 = .ok (.iinc 5 1, 3) := by decide +kernel
theorem d_D_fewestPayments_114 : decode b_D_fewestPayments 114 = .ok (.goto (-72), 3) := by decide +kernel
theorem d_D_fewestPayments_117 : decode b_D_fewestPayments 117 = .ok (.aload_n 0, 1) := by decide +kernel
theorem d_D_fewestPayments_118 : decode b_D_fewestPayments 118 = .ok (.getfield 38, 3) := by decide +kernel
theorem d_D_fewestPayments_121 : decode b_D_fewestPayments 121 = .ok (.iload_n 3, 1) := by decide +kernel
theorem d_D_fewestPayments_122 : decode b_D_fewestPayments 122 = .ok (.aload_n 0, 1) := by decide +kernel
theorem d_D_fewestPayments_123 : decode b_D_fewestPayments 123 = .ok (.getfield 35, 3) := by decide +kernel
theorem d_D_fewestPayments_126 : decode b_D_fewestPayments 126 = .ok (.iload_n 3, 1) := by decide +kernel
theorem d_D_fewestPayments_127 : decode b_D_fewestPayments 127 = .ok (.iaload, 1) := by decide +kernel
theorem d_D_fewestPayments_128 : decode b_D_fewestPayments 128 = .ok (.ifCond .ne 10, 3) := by decide +kernel
theorem d_D_fewestPayments_131 : decode b_D_fewestPayments 131 = .ok (.iload 4, 2) := by decide +kernel
theorem d_D_fewestPayments_133 : decode b_D_fewestPayments 133 = .ok (.iconst 1, 1) := by decide +kernel
theorem d_D_fewestPayments_134 : decode b_D_fewestPayments 134 = .ok (.iadd, 1) := by decide +kernel
theorem d_D_fewestPayments_135 : decode b_D_fewestPayments 135 = .ok (.goto 5, 3) := by decide +kernel
theorem d_D_fewestPayments_138 : decode b_D_fewestPayments 138 = .ok (.iload 4, 2) := by decide +kernel
theorem d_D_fewestPayments_140 : decode b_D_fewestPayments 140 = .ok (.iastore, 1) := by decide +kernel
theorem d_D_fewestPayments_141 : decode b_D_fewestPayments 141 = .ok (.iinc 3 1, 3) := by decide +kernel
theorem d_D_fewestPayments_144 : decode b_D_fewestPayments 144 = .ok (.goto (-113), 3) := by decide +kernel
theorem d_D_fewestPayments_147 : decode b_D_fewestPayments 147 = .ok (.aload_n 0, 1) := by decide +kernel
theorem d_D_fewestPayments_148 : decode b_D_fewestPayments 148 = .ok (.getfield 12, 3) := by decide +kernel
theorem d_D_fewestPayments_151 : decode b_D_fewestPayments 151 = .ok (.getfield 75, 3) := by decide +kernel
theorem d_D_fewestPayments_154 : decode b_D_fewestPayments 154 = .ok (.aload_n 0, 1) := by decide +kernel
theorem d_D_fewestPayments_155 : decode b_D_fewestPayments 155 = .ok (.getfield 38, 3) := by decide +kernel
theorem d_D_fewestPayments_158 : decode b_D_fewestPayments 158 = .ok (.iload_n 2, 1) := by decide +kernel
theorem d_D_fewestPayments_159 : decode b_D_fewestPayments 159 = .ok (.iconst 1, 1) := by decide +kernel
theorem d_D_fewestPayments_160 : decode b_D_fewestPayments 160 = .ok (.isub, 1) := by decide +kernel
theorem d_D_fewestPayments_161 : decode b_D_fewestPayments 161 = .ok (.iaload, 1) := by decide +kernel
theorem d_D_fewestPayments_162 : decode b_D_fewestPayments 162 = .ok (.isub, 1) := by decide +kernel
theorem d_D_fewestPayments_163 : decode b_D_fewestPayments 163 = .ok (.ireturn, 1) := by decide +kernel
theorem qf_D_35 : Cond.fieldLink nC1 35 (fC1 5).1 (fC1 5).2.1 (fC1 5).2.2.1 ∈ tbl := tbl_in 212 (by decide +kernel) rfl
theorem qf_D_38 : Cond.fieldLink nC1 38 (fC1 6).1 (fC1 6).2.1 (fC1 6).2.2.1 ∈ tbl := tbl_in 213 (by decide +kernel) rfl
theorem mo_D_fewestPayments : MokV y_D_fewestPayments b_D_fewestPayments 7 (some .int) 1 := ⟨⟨(tbl_in 650 (by decide +kernel) rfl), (tbl_in 64 (by decide +kernel) rfl)⟩, ⟨(tbl_in 648 (by decide +kernel) rfl), tbl_lw _ (tbl_in 649 (by decide +kernel) rfl), (tbl_in 649 (by decide +kernel) rfl)⟩, ⟨by decide +kernel, by decide +kernel⟩, by decide +kernel⟩
def b_D_fewestPayments_42_ (P : Int32 → Hp → Prop) (I31 : Hp → Int32 → Int32 → Prop) (I42 : Hp → Int32 → Int32 → Int32 → Int32 → Prop) (σ : Hp) (x2 : Int32) (x3 : Int32) (x4 : Int32) (x5 : Int32) : Prop :=
  (((σ 4 6) ≤ x5 → (vp_in x3 256) ∧ ((¬ (σ 19 (ix x3)) = 0 → (vp_in x3 256) ∧ (∀ v5 : Int32, v5 = x3 + (1 : Int32) → I31 (st σ 20 (ix x3) x4) x2 v5)) ∧ ((σ 19 (ix x3)) = 0 → (vp_in x3 256) ∧ (∀ v7 : Int32, v7 = x3 + (1 : Int32) → I31 (st σ 20 (ix x3) (x4 + (1 : Int32))) x2 v7)))) ∧ (¬ (σ 4 6) ≤ x5 → ((¬ ((x3 >>> (x5 &&& 31)) &&& (1 : Int32)) = 0 → (∀ v9 : Int32, v9 = x3 &&& (((1 : Int32) <<< (x5 &&& 31)) ^^^ (-1 : Int32)) → (vp_in v9 256) ∧ (vp_in x5 8) ∧ (vp_in x3 256) ∧ (vp_in v9 256) ∧ (∀ v14 : Int32, v14 = (if x4 < ((st σ 19 (ix x3) ((σ 19 (ix v9)) + (σ 16 (ix x5)))) 20 (ix v9)) then ((st σ 19 (ix x3) ((σ 19 (ix v9)) + (σ 16 (ix x5)))) 20 (ix v9)) else x4) → (∀ v15 : Int32, v15 = x5 + (1 : Int32) → I42 (st σ 19 (ix x3) ((σ 19 (ix v9)) + (σ 16 (ix x5)))) x2 x3 v14 v15)))) ∧ (((x3 >>> (x5 &&& 31)) &&& (1 : Int32)) = 0 → (∀ v16 : Int32, v16 = x5 + (1 : Int32) → I42 σ x2 x3 x4 v16)))))
def j_D_fewestPayments_42 (P : Int32 → Hp → Prop) (I31 : Hp → Int32 → Int32 → Prop) (σ : Hp) (x2 : Int32) (x3 : Int32) (x4 : Int32) (x5 : Int32) : Prop := ∀ I42 : Hp → Int32 → Int32 → Int32 → Int32 → Prop, (∀ (σ : Hp) (x2 : Int32) (x3 : Int32) (x4 : Int32) (x5 : Int32), b_D_fewestPayments_42_  P I31 I42 σ x2 x3 x4 x5 → I42 σ x2 x3 x4 x5) → I42 σ x2 x3 x4 x5
def b_D_fewestPayments_31_ (P : Int32 → Hp → Prop)  (I31 : Hp → Int32 → Int32 → Prop) (σ : Hp) (x2 : Int32) (x3 : Int32) : Prop :=
  ((x2 ≤ x3 → (vp_in (x2 - (1 : Int32)) 256) ∧ P ((σ 4 6) - (σ 20 (ix (x2 - (1 : Int32))))) σ) ∧ (¬ x2 ≤ x3 → j_D_fewestPayments_42 P I31 σ x2 x3 (0 : Int32) (0 : Int32)))
def j_D_fewestPayments_31 (P : Int32 → Hp → Prop)  (σ : Hp) (x2 : Int32) (x3 : Int32) : Prop := ∀ I31 : Hp → Int32 → Int32 → Prop, (∀ (σ : Hp) (x2 : Int32) (x3 : Int32), b_D_fewestPayments_31_  P  I31 σ x2 x3 → I31 σ x2 x3) → I31 σ x2 x3
def wp_D_fewestPayments (σ : Hp) (a1 : Int32) (P : Int32 → Hp → Prop) : Prop :=
  wp_D_fillBalances σ a1 (fun (t20 : Hp) => (vp_in (0 : Int32) 256) ∧ (vp_in (0 : Int32) 256) ∧ (∀ v23 : Int32, v23 = (1 : Int32) <<< (((st (st t20 19 (ix (0 : Int32)) (0 : Int32)) 20 (ix (0 : Int32)) (0 : Int32)) 4 6) &&& 31) → j_D_fewestPayments_31 P (st (st t20 19 (ix (0 : Int32)) (0 : Int32)) 20 (ix (0 : Int32)) (0 : Int32)) v23 (1 : Int32)))
set_option maxHeartbeats 4000000 in
set_option maxRecDepth 100000 in
theorem wj_D_fewestPayments_42 {w : Wd} {κ : Kx} {P : Int32 → Hp → Prop} (hC : Cx μC w 7 κ nC1 b_D_fewestPayments 4) (hR : RtI μC w 7 κ b_D_fewestPayments .int P) {I31 : Hp → Int32 → Int32 → Prop} (hI31 : ∀ σ x2 x3, I31 σ x2 x3 → V μC w 7 κ σ [some (.ref (w.1 3)), none, some (.int x2), some (.int x3), none, none, none] 31 []) : ∀ (σ : Hp) (x2 : Int32) (x3 : Int32) (x4 : Int32) (x5 : Int32), j_D_fewestPayments_42  P I31 σ x2 x3 x4 x5 → V μC w 7 κ σ [some (.ref (w.1 3)), none, some (.int x2), some (.int x3), some (.int x4), some (.int x5), none] 42 [] := by
  intro σ x2 x3 x4 x5 h
  refine h (fun σ x2 x3 x4 x5 => V μC w 7 κ σ [some (.ref (w.1 3)), none, some (.int x2), some (.int x3), some (.int x4), some (.int x5), none] 42 []) (fun σ x2 x3 x4 x5 h => ?_)
  unfold b_D_fewestPayments_42_ at h
  refine V.iload hC d_D_fewestPayments_42 rfl ?_
  refine V.aload_n hC d_D_fewestPayments_44 rfl rfl ?_
  refine V.getR (j := 0) hC d_D_fewestPayments_45 rfl rfl uC1 rfl rfl qf_D_12 ?_
  refine V.getI (j := 6) hC d_D_fewestPayments_48 rfl rfl uC5 rfl rfl qf_D_75 ?_
  refine V.icmp_ge (tgt := 117) hC d_D_fewestPayments_51 (by decide) (fun c1 => ?_) (fun c1 => ?_)
  · replace h := h.1 c1
    refine V.aload_n hC d_D_fewestPayments_117 rfl rfl ?_
    refine V.getR (j := 6) hC d_D_fewestPayments_118 rfl rfl uC1 rfl rfl qf_D_38 ?_
    refine V.iload_n hC d_D_fewestPayments_121 rfl rfl ?_
    refine V.aload_n hC d_D_fewestPayments_122 rfl rfl ?_
    refine V.getR (j := 5) hC d_D_fewestPayments_123 rfl rfl uC1 rfl rfl qf_D_35 ?_
    refine V.iload_n hC d_D_fewestPayments_126 rfl rfl ?_
    obtain ⟨b2, h⟩ := h
    refine V.iald hC d_D_fewestPayments_127 rfl b2 ?_
    refine V.if_ne (tgt := 138) hC d_D_fewestPayments_128 (by decide) (fun c3 => ?_) (fun c3 => ?_)
    · replace h := h.1 c3
      refine V.iload hC d_D_fewestPayments_138 rfl ?_
      obtain ⟨b4, h⟩ := h
      refine V.iast hC d_D_fewestPayments_140 rfl b4 ?_
      obtain ⟨v5, ev5⟩ : ∃ y : Int32, y = x3 + (1 : Int32) := ⟨_, rfl⟩
      replace h := h v5 ev5
      refine V.iinc (y := v5) (lo' := [some (.ref (w.1 3)), none, some (.int x2), some (.int v5), some (.int x4), some (.int x5), none]) hC d_D_fewestPayments_141 rfl rfl (show v5 = _ + Int32.ofInt (1) from ev5) rfl ?_
      refine V.goto (tgt := 31) hC d_D_fewestPayments_144 (by decide) ?_
      exact V.msk [true, false, true, true, false, false, false] rfl (hI31 (st σ 20 (ix x3) x4) x2 v5 h)
    · replace h := h.2 c3
      refine V.iload hC d_D_fewestPayments_131 rfl ?_
      refine V.iconst (v := 1) hC d_D_fewestPayments_133 (by decide) ?_
      refine V.iadd hC d_D_fewestPayments_134 ?_
      refine V.goto (tgt := 140) hC d_D_fewestPayments_135 (by decide) ?_
      obtain ⟨b6, h⟩ := h
      refine V.iast hC d_D_fewestPayments_140 rfl b6 ?_
      obtain ⟨v7, ev7⟩ : ∃ y : Int32, y = x3 + (1 : Int32) := ⟨_, rfl⟩
      replace h := h v7 ev7
      refine V.iinc (y := v7) (lo' := [some (.ref (w.1 3)), none, some (.int x2), some (.int v7), some (.int x4), some (.int x5), none]) hC d_D_fewestPayments_141 rfl rfl (show v7 = _ + Int32.ofInt (1) from ev7) rfl ?_
      refine V.goto (tgt := 31) hC d_D_fewestPayments_144 (by decide) ?_
      exact V.msk [true, false, true, true, false, false, false] rfl (hI31 (st σ 20 (ix x3) (x4 + (1 : Int32))) x2 v7 h)
  · replace h := h.2 c1
    refine V.iload_n hC d_D_fewestPayments_54 rfl rfl ?_
    refine V.iload hC d_D_fewestPayments_55 rfl ?_
    refine V.ishr hC d_D_fewestPayments_57 ?_
    refine V.iconst (v := 1) hC d_D_fewestPayments_58 (by decide) ?_
    refine V.iand hC d_D_fewestPayments_59 ?_
    refine V.if_ne (tgt := 66) hC d_D_fewestPayments_60 (by decide) (fun c8 => ?_) (fun c8 => ?_)
    · replace h := h.1 c8
      refine V.iload_n hC d_D_fewestPayments_66 rfl rfl ?_
      refine V.iconst (v := 1) hC d_D_fewestPayments_67 (by decide) ?_
      refine V.iload hC d_D_fewestPayments_68 rfl ?_
      refine V.ishl hC d_D_fewestPayments_70 ?_
      refine V.iconst (v := -1) hC d_D_fewestPayments_71 (by decide) ?_
      refine V.ixor hC d_D_fewestPayments_72 ?_
      refine V.iand hC d_D_fewestPayments_73 ?_
      obtain ⟨v9, ev9⟩ : ∃ y : Int32, y = x3 &&& (((1 : Int32) <<< (x5 &&& 31)) ^^^ (-1 : Int32)) := ⟨_, rfl⟩
      replace h := h v9 ev9
      refine V.istore (y := v9) (lo' := [some (.ref (w.1 3)), none, some (.int x2), some (.int x3), some (.int x4), some (.int x5), some (.int v9)]) hC d_D_fewestPayments_74 rfl ev9 rfl ?_
      refine V.aload_n hC d_D_fewestPayments_76 rfl rfl ?_
      refine V.getR (j := 5) hC d_D_fewestPayments_77 rfl rfl uC1 rfl rfl qf_D_35 ?_
      refine V.iload_n hC d_D_fewestPayments_80 rfl rfl ?_
      refine V.aload_n hC d_D_fewestPayments_81 rfl rfl ?_
      refine V.getR (j := 5) hC d_D_fewestPayments_82 rfl rfl uC1 rfl rfl qf_D_35 ?_
      refine V.iload hC d_D_fewestPayments_85 rfl ?_
      obtain ⟨b10, h⟩ := h
      refine V.iald hC d_D_fewestPayments_87 rfl b10 ?_
      refine V.aload_n hC d_D_fewestPayments_88 rfl rfl ?_
      refine V.getR (j := 2) hC d_D_fewestPayments_89 rfl rfl uC1 rfl rfl qf_D_25 ?_
      refine V.iload hC d_D_fewestPayments_92 rfl ?_
      obtain ⟨b11, h⟩ := h
      refine V.iald hC d_D_fewestPayments_94 rfl b11 ?_
      refine V.iadd hC d_D_fewestPayments_95 ?_
      obtain ⟨b12, h⟩ := h
      refine V.iast hC d_D_fewestPayments_96 rfl b12 ?_
      refine V.iload hC d_D_fewestPayments_97 rfl ?_
      refine V.aload_n hC d_D_fewestPayments_99 rfl rfl ?_
      refine V.getR (j := 6) hC d_D_fewestPayments_100 rfl rfl uC1 rfl rfl qf_D_38 ?_
      refine V.iload hC d_D_fewestPayments_103 rfl ?_
      obtain ⟨b13, h⟩ := h
      refine V.iald hC d_D_fewestPayments_105 rfl b13 ?_
      refine V.mmax hC d_D_fewestPayments_106 qm_D_78 qmax_s qmath_i qmax_c rfl rfl ?_
      obtain ⟨v14, ev14⟩ : ∃ y : Int32, y = if x4 < ((st σ 19 (ix x3) ((σ 19 (ix v9)) + (σ 16 (ix x5)))) 20 (ix v9)) then ((st σ 19 (ix x3) ((σ 19 (ix v9)) + (σ 16 (ix x5)))) 20 (ix v9)) else x4 := ⟨_, rfl⟩
      replace h := h v14 ev14
      refine V.istore (y := v14) (lo' := [some (.ref (w.1 3)), none, some (.int x2), some (.int x3), some (.int v14), some (.int x5), some (.int v9)]) hC d_D_fewestPayments_109 rfl ev14 rfl ?_
      obtain ⟨v15, ev15⟩ : ∃ y : Int32, y = x5 + (1 : Int32) := ⟨_, rfl⟩
      replace h := h v15 ev15
      refine V.iinc (y := v15) (lo' := [some (.ref (w.1 3)), none, some (.int x2), some (.int x3), some (.int v14), some (.int v15), some (.int v9)]) hC d_D_fewestPayments_111 rfl rfl (show v15 = _ + Int32.ofInt (1) from ev15) rfl ?_
      refine V.goto (tgt := 42) hC d_D_fewestPayments_114 (by decide) ?_
      exact V.msk [true, false, true, true, true, true, false] rfl h
    · replace h := h.2 c8
      refine V.goto (tgt := 111) hC d_D_fewestPayments_63 (by decide) ?_
      obtain ⟨v16, ev16⟩ : ∃ y : Int32, y = x5 + (1 : Int32) := ⟨_, rfl⟩
      replace h := h v16 ev16
      refine V.iinc (y := v16) (lo' := [some (.ref (w.1 3)), none, some (.int x2), some (.int x3), some (.int x4), some (.int v16), none]) hC d_D_fewestPayments_111 rfl rfl (show v16 = _ + Int32.ofInt (1) from ev16) rfl ?_
      refine V.goto (tgt := 42) hC d_D_fewestPayments_114 (by decide) ?_
      exact V.msk [true, false, true, true, true, true, false] rfl h
set_option maxHeartbeats 4000000 in
set_option maxRecDepth 100000 in
theorem wj_D_fewestPayments_31 {w : Wd} {κ : Kx} {P : Int32 → Hp → Prop} (hC : Cx μC w 7 κ nC1 b_D_fewestPayments 4) (hR : RtI μC w 7 κ b_D_fewestPayments .int P)  : ∀ (σ : Hp) (x2 : Int32) (x3 : Int32), j_D_fewestPayments_31  P  σ x2 x3 → V μC w 7 κ σ [some (.ref (w.1 3)), none, some (.int x2), some (.int x3), none, none, none] 31 [] := by
  intro σ x2 x3 h
  refine h (fun σ x2 x3 => V μC w 7 κ σ [some (.ref (w.1 3)), none, some (.int x2), some (.int x3), none, none, none] 31 []) (fun σ x2 x3 h => ?_)
  unfold b_D_fewestPayments_31_ at h
  refine V.iload_n hC d_D_fewestPayments_31 rfl rfl ?_
  refine V.iload_n hC d_D_fewestPayments_32 rfl rfl ?_
  refine V.icmp_ge (tgt := 147) hC d_D_fewestPayments_33 (by decide) (fun c17 => ?_) (fun c17 => ?_)
  · replace h := h.1 c17
    refine V.aload_n hC d_D_fewestPayments_147 rfl rfl ?_
    refine V.getR (j := 0) hC d_D_fewestPayments_148 rfl rfl uC1 rfl rfl qf_D_12 ?_
    refine V.getI (j := 6) hC d_D_fewestPayments_151 rfl rfl uC5 rfl rfl qf_D_75 ?_
    refine V.aload_n hC d_D_fewestPayments_154 rfl rfl ?_
    refine V.getR (j := 6) hC d_D_fewestPayments_155 rfl rfl uC1 rfl rfl qf_D_38 ?_
    refine V.iload_n hC d_D_fewestPayments_158 rfl rfl ?_
    refine V.iconst (v := 1) hC d_D_fewestPayments_159 (by decide) ?_
    refine V.isub hC d_D_fewestPayments_160 ?_
    obtain ⟨b18, h⟩ := h
    refine V.iald hC d_D_fewestPayments_161 rfl b18 ?_
    refine V.isub hC d_D_fewestPayments_162 ?_
    exact hR _ _ _ _ h rfl d_D_fewestPayments_163
  · replace h := h.2 c17
    refine V.iconst (v := 0) hC d_D_fewestPayments_36 (by decide) ?_
    refine V.istore (y := (0 : Int32)) (lo' := [some (.ref (w.1 3)), none, some (.int x2), some (.int x3), some (.int (0 : Int32)), none, none]) hC d_D_fewestPayments_37 rfl rfl rfl ?_
    refine V.iconst (v := 0) hC d_D_fewestPayments_39 (by decide) ?_
    refine V.istore (y := (0 : Int32)) (lo' := [some (.ref (w.1 3)), none, some (.int x2), some (.int x3), some (.int (0 : Int32)), some (.int (0 : Int32)), none]) hC d_D_fewestPayments_40 rfl rfl rfl ?_
    exact V.msk [true, false, true, true, true, true, false] rfl (wj_D_fewestPayments_42  hC hR (fun _ _ _ h => h) σ x2 x3 (0 : Int32) (0 : Int32) h)
set_option maxHeartbeats 4000000 in
set_option maxRecDepth 100000 in
theorem w_D_fewestPayments (w : Wd) (σ : Hp) (a1 : Int32) (P : Int32 → Hp → Prop) (h : wp_D_fewestPayments σ a1 P) : CtI μC w y_D_fewestPayments b_D_fewestPayments 7 (some .int) 4 [.ref (w.1 3), .int a1] σ P := by
  unfold wp_D_fewestPayments at h
  refine CtI.ofV (C := nC1) (lo := [some (.ref (w.1 3)), some (.int a1), none, none, none, none, none]) exC (by decide +kernel) rfl rfl rfl (fun κ hC hR => ?_)
  refine V.aload_n hC d_D_fewestPayments_0 rfl rfl ?_
  refine V.iload_n hC d_D_fewestPayments_1 rfl rfl ?_
  refine V.callVN hC exC (w_D_fillBalances w σ a1 _ h) d_D_fewestPayments_2 mo_D_fillBalances qm_D_71 rfl rfl rfl rfl rfl rfl rfl (Nat.le_of_ble_eq_true rfl) (fun t20 h => ?_)
  refine V.aload_n hC d_D_fewestPayments_5 rfl rfl ?_
  refine V.getR (j := 5) hC d_D_fewestPayments_6 rfl rfl uC1 rfl rfl qf_D_35 ?_
  refine V.iconst (v := 0) hC d_D_fewestPayments_9 (by decide) ?_
  refine V.iconst (v := 0) hC d_D_fewestPayments_10 (by decide) ?_
  obtain ⟨b21, h⟩ := h
  refine V.iast hC d_D_fewestPayments_11 rfl b21 ?_
  refine V.aload_n hC d_D_fewestPayments_12 rfl rfl ?_
  refine V.getR (j := 6) hC d_D_fewestPayments_13 rfl rfl uC1 rfl rfl qf_D_38 ?_
  refine V.iconst (v := 0) hC d_D_fewestPayments_16 (by decide) ?_
  refine V.iconst (v := 0) hC d_D_fewestPayments_17 (by decide) ?_
  obtain ⟨b22, h⟩ := h
  refine V.iast hC d_D_fewestPayments_18 rfl b22 ?_
  refine V.iconst (v := 1) hC d_D_fewestPayments_19 (by decide) ?_
  refine V.aload_n hC d_D_fewestPayments_20 rfl rfl ?_
  refine V.getR (j := 0) hC d_D_fewestPayments_21 rfl rfl uC1 rfl rfl qf_D_12 ?_
  refine V.getI (j := 6) hC d_D_fewestPayments_24 rfl rfl uC5 rfl rfl qf_D_75 ?_
  refine V.ishl hC d_D_fewestPayments_27 ?_
  obtain ⟨v23, ev23⟩ : ∃ y : Int32, y = (1 : Int32) <<< (((st (st t20 19 (ix (0 : Int32)) (0 : Int32)) 20 (ix (0 : Int32)) (0 : Int32)) 4 6) &&& 31) := ⟨_, rfl⟩
  replace h := h v23 ev23
  refine V.istore_n (y := v23) (lo' := [some (.ref (w.1 3)), some (.int a1), some (.int v23), none, none, none, none]) hC d_D_fewestPayments_28 rfl rfl ev23 rfl ?_
  refine V.iconst (v := 1) hC d_D_fewestPayments_29 (by decide) ?_
  refine V.istore_n (y := (1 : Int32)) (lo' := [some (.ref (w.1 3)), some (.int a1), some (.int v23), some (.int (1 : Int32)), none, none, none]) hC d_D_fewestPayments_30 rfl rfl rfl rfl ?_
  exact V.msk [true, false, true, true, false, false, false] rfl (wj_D_fewestPayments_31  hC hR  (st (st t20 19 (ix (0 : Int32)) (0 : Int32)) 20 (ix (0 : Int32)) (0 : Int32)) v23 (1 : Int32) h)
abbrev b_P_payments : ByteArray := prog_1_method_19_code
def y_P_payments : MethodName := ⟨nC7, "payments", "(I)I"⟩
theorem d_P_payments_0 : decode b_P_payments 0 = .ok (.iload_n 1, 1) := by decide +kernel
theorem d_P_payments_1 : decode b_P_payments 1 = .ok (.invokestatic 126, 3) := by decide +kernel
theorem d_P_payments_4 : decode b_P_payments 4 = .ok (.ifCond .eq 14, 3) := by decide +kernel
theorem d_P_payments_7 : decode b_P_payments 7 = .ok (.aload_n 0, 1) := by decide +kernel
theorem d_P_payments_8 : decode b_P_payments 8 = .ok (.getfield 28, 3) := by decide +kernel
theorem d_P_payments_11 : decode b_P_payments 11 = .ok (.iload_n 1, 1) := by decide +kernel
theorem d_P_payments_12 : decode b_P_payments 12 = .ok (.invokevirtual 202, 3) := by decide +kernel
theorem d_P_payments_15 : decode b_P_payments 15 = .ok (.goto 5, 3) := by decide +kernel
theorem d_P_payments_18 : decode b_P_payments 18 = .ok (.bipush (-2), 2) := by decide +kernel
theorem d_P_payments_20 : decode b_P_payments 20 = .ok (.ireturn, 1) := by decide +kernel
theorem qm_P_202 : Cond.methodLink nC7 202 y_D_fewestPayments ∈ tbl := tbl_in 647 (by decide +kernel) rfl
theorem mo_P_payments : MokV y_P_payments b_P_payments 2 (some .int) 1 := ⟨⟨(tbl_in 646 (by decide +kernel) rfl), (tbl_in 62 (by decide +kernel) rfl)⟩, ⟨(tbl_in 644 (by decide +kernel) rfl), tbl_lw _ (tbl_in 645 (by decide +kernel) rfl), (tbl_in 645 (by decide +kernel) rfl)⟩, ⟨by decide +kernel, by decide +kernel⟩, by decide +kernel⟩
def wp_P_payments (σ : Hp) (a1 : Int32) (P : Int32 → Hp → Prop) : Prop :=
  wp_P_isDay σ a1 (fun (r1 : Int32) (t2 : Hp) => ((r1 = 0 → P (-2 : Int32) t2) ∧ (¬ r1 = 0 → wp_D_fewestPayments t2 a1 (fun (r4 : Int32) (t5 : Hp) => P r4 t5))))
set_option maxHeartbeats 4000000 in
set_option maxRecDepth 100000 in
theorem w_P_payments (w : Wd) (σ : Hp) (a1 : Int32) (P : Int32 → Hp → Prop) (h : wp_P_payments σ a1 P) : CtI μC w y_P_payments b_P_payments 2 (some .int) 5 [.ref (w.1 0), .int a1] σ P := by
  unfold wp_P_payments at h
  refine CtI.ofV (C := nC7) (lo := [some (.ref (w.1 0)), some (.int a1)]) exC (by decide +kernel) rfl rfl rfl (fun κ hC hR => ?_)
  refine V.iload_n hC d_P_payments_0 rfl rfl ?_
  refine V.callSI hC exC (w_P_isDay w σ a1 _ h) d_P_payments_1 mo_P_isDay qm_P_126 rfl rfl rfl rfl (Nat.le_of_ble_eq_true rfl) (fun r1 t2 h => ?_)
  refine V.if_eq (tgt := 18) hC d_P_payments_4 (by decide) (fun c3 => ?_) (fun c3 => ?_)
  · replace h := h.1 c3
    refine V.bipush (v := -2) hC d_P_payments_18 (by decide) ?_
    exact hR _ _ _ _ h rfl d_P_payments_20
  · replace h := h.2 c3
    refine V.aload_n hC d_P_payments_7 rfl rfl ?_
    refine V.getR (j := 2) hC d_P_payments_8 rfl rfl uC7 rfl rfl qf_P_28 ?_
    refine V.iload_n hC d_P_payments_11 rfl rfl ?_
    refine V.callVI hC exC (w_D_fewestPayments w t2 a1 _ h) d_P_payments_12 mo_D_fewestPayments qm_P_202 rfl rfl rfl rfl rfl rfl rfl (Nat.le_of_ble_eq_true rfl) (fun r4 t5 h => ?_)
    refine V.goto (tgt := 20) hC d_P_payments_15 (by decide) ?_
    exact hR _ _ _ _ h rfl d_P_payments_20
abbrev b_D_fillOwing : ByteArray := prog_3_method_9_code
def y_D_fillOwing : MethodName := ⟨nC1, "fillOwing", "(I)V"⟩
theorem d_D_fillOwing_0 : decode b_D_fillOwing 0 = .ok (.aload_n 0, 1) := by decide +kernel
theorem d_D_fillOwing_1 : decode b_D_fillOwing 1 = .ok (.getfield 32, 3) := by decide +kernel
theorem d_D_fillOwing_4 : decode b_D_fillOwing 4 = .ok (.iconst 0, 1) := by decide +kernel
theorem d_D_fillOwing_5 : decode b_D_fillOwing 5 = .ok (.invokestatic 65, 3) := by decide +kernel
theorem d_D_fillOwing_8 : decode b_D_fillOwing 8 = .ok (.iconst 0, 1) := by decide +kernel
theorem d_D_fillOwing_9 : decode b_D_fillOwing 9 = .ok (.istore_n 2, 1) := by decide +kernel
theorem d_D_fillOwing_10 : decode b_D_fillOwing 10 = .ok (.iload_n 2, 1) := by decide +kernel
theorem d_D_fillOwing_11 : decode b_D_fillOwing 11 = .ok (.aload_n 0, 1) := by decide +kernel
theorem d_D_fillOwing_12 : decode b_D_fillOwing 12 = .ok (.getfield 21, 3) := by decide +kernel
theorem d_D_fillOwing_15 : decode b_D_fillOwing 15 = .ok (.getfield 41, 3) := by decide +kernel
theorem d_D_fillOwing_18 : decode b_D_fillOwing 18 = .ok (.if_icmp .ge 46, 3) := by decide +kernel
theorem d_D_fillOwing_21 : decode b_D_fillOwing 21 = .ok (.aload_n 0, 1) := by decide +kernel
theorem d_D_fillOwing_22 : decode b_D_fillOwing 22 = .ok (.iload_n 2, 1) := by decide +kernel
theorem d_D_fillOwing_23 : decode b_D_fillOwing 23 = .ok (.iload_n 1, 1) := by decide +kernel
theorem d_D_fillOwing_24 : decode b_D_fillOwing 24 = .ok (.invokevirtual 62, 3) := by decide +kernel
theorem d_D_fillOwing_27 : decode b_D_fillOwing 27 = .ok (.ifCond .le 31, 3) := by decide +kernel
theorem d_D_fillOwing_30 : decode b_D_fillOwing 30 = .ok (.aload_n 0, 1) := by decide +kernel
theorem d_D_fillOwing_31 : decode b_D_fillOwing 31 = .ok (.getfield 32, 3) := by decide +kernel
theorem d_D_fillOwing_34 : decode b_D_fillOwing 34 = .ok (.aload_n 0, 1) := by decide +kernel
theorem d_D_fillOwing_35 : decode b_D_fillOwing 35 = .ok (.getfield 21, 3) := by decide +kernel
theorem d_D_fillOwing_38 : decode b_D_fillOwing 38 = .ok (.getfield 48, 3) := by decide +kernel
theorem d_D_fillOwing_41 : decode b_D_fillOwing 41 = .ok (.iload_n 2, 1) := by decide +kernel
theorem d_D_fillOwing_42 : decode b_D_fillOwing 42 = .ok (.iaload, 1) := by decide +kernel
theorem d_D_fillOwing_43 : decode b_D_fillOwing 43 = .ok (.dup2, 1) := by decide +kernel
theorem d_D_fillOwing_44 : decode b_D_fillOwing 44 = .ok (.iaload, 1) := by decide +kernel
theorem d_D_fillOwing_45 : decode b_D_fillOwing 45 = .ok (.iconst 1, 1) := by decide +kernel
theorem d_D_fillOwing_46 : decode b_D_fillOwing 46 = .ok (.aload_n 0, 1) := by decide +kernel
theorem d_D_fillOwing_47 : decode b_D_fillOwing 47 = .ok (.getfield 21, 3) := by decide +kernel
theorem d_D_fillOwing_50 : decode b_D_fillOwing 50 = .ok (.getfield 45, 3) := by decide +kernel
theorem d_D_fillOwing_53 : decode b_D_fillOwing 53 = .ok (.iload_n 2, 1) := by decide +kernel
theorem d_D_fillOwing_54 : decode b_D_fillOwing 54 = .ok (.iaload, 1) := by decide +kernel
theorem d_D_fillOwing_55 : decode b_D_fillOwing 55 = .ok (.ishl, 1) := by decide +kernel
theorem d_D_fillOwing_56 : decode b_D_fillOwing 56 = .ok (.ior, 1) := by decide +kernel
theorem d_D_fillOwing_57 : decode b_D_fillOwing 57 = .ok (.iastore, 1) := by decide +kernel
theorem d_D_fillOwing_58 : decode b_D_fillOwing 58 = .ok (.iinc 2 1, 3) := by decide +kernel
theorem d_D_fillOwing_61 : decode b_D_fillOwing 61 = .ok (.goto (-51), 3) := by decide +kernel
theorem d_D_fillOwing_64 : decode b_D_fillOwing 64 = .ok (.return_, 1) := by decide +kernel
theorem qf_D_32 : Cond.fieldLink nC1 32 (fC1 4).1 (fC1 4).2.1 (fC1 4).2.2.1 ∈ tbl := tbl_in 211 (by decide +kernel) rfl
theorem mo_D_fillOwing : MokV y_D_fillOwing b_D_fillOwing 3 none 1 := ⟨⟨(tbl_in 658 (by decide +kernel) rfl), (tbl_in 64 (by decide +kernel) rfl)⟩, ⟨(tbl_in 656 (by decide +kernel) rfl), tbl_lw _ (tbl_in 657 (by decide +kernel) rfl), (tbl_in 657 (by decide +kernel) rfl)⟩, ⟨by decide +kernel, by decide +kernel⟩, by decide +kernel⟩
def b_D_fillOwing_10_ (P : Hp → Prop)  (I10 : Hp → Int32 → Int32 → Prop) (σ : Hp) (x1 : Int32) (x2 : Int32) : Prop :=
  (((σ 5 6) ≤ x2 → P σ) ∧ (¬ (σ 5 6) ≤ x2 → wp_D_won σ x2 x1 (fun (r2 : Int32) (t3 : Hp) => ((r2 ≤ 0 → (∀ v5 : Int32, v5 = x2 + (1 : Int32) → I10 t3 x1 v5)) ∧ (¬ r2 ≤ 0 → (vp_in x2 12) ∧ (vp_in (t3 29 (ix x2)) 8) ∧ (vp_in x2 12) ∧ (vp_in (t3 29 (ix x2)) 8) ∧ (∀ v10 : Int32, v10 = x2 + (1 : Int32) → I10 (st t3 18 (ix (t3 29 (ix x2))) ((t3 18 (ix (t3 29 (ix x2)))) ||| ((1 : Int32) <<< ((t3 28 (ix x2)) &&& 31)))) x1 v10))))))
def j_D_fillOwing_10 (P : Hp → Prop)  (σ : Hp) (x1 : Int32) (x2 : Int32) : Prop := ∀ I10 : Hp → Int32 → Int32 → Prop, (∀ (σ : Hp) (x1 : Int32) (x2 : Int32), b_D_fillOwing_10_  P  I10 σ x1 x2 → I10 σ x1 x2) → I10 σ x1 x2
def wp_D_fillOwing (σ : Hp) (a1 : Int32) (P : Hp → Prop) : Prop :=
  wp_JA_fill σ 18 8 (0 : Int32) (fun (t12 : Hp) => j_D_fillOwing_10 P t12 a1 (0 : Int32))
set_option maxHeartbeats 4000000 in
set_option maxRecDepth 100000 in
theorem wj_D_fillOwing_10 {w : Wd} {κ : Kx} {P : Hp → Prop} (hC : Cx μC w 3 κ nC1 b_D_fillOwing 3) (hR : RtN μC w 3 κ b_D_fillOwing P)  : ∀ (σ : Hp) (x1 : Int32) (x2 : Int32), j_D_fillOwing_10  P  σ x1 x2 → V μC w 3 κ σ [some (.ref (w.1 3)), some (.int x1), some (.int x2)] 10 [] := by
  intro σ x1 x2 h
  refine h (fun σ x1 x2 => V μC w 3 κ σ [some (.ref (w.1 3)), some (.int x1), some (.int x2)] 10 []) (fun σ x1 x2 h => ?_)
  unfold b_D_fillOwing_10_ at h
  refine V.iload_n hC d_D_fillOwing_10 rfl rfl ?_
  refine V.aload_n hC d_D_fillOwing_11 rfl rfl ?_
  refine V.getR (j := 1) hC d_D_fillOwing_12 rfl rfl uC1 rfl rfl qf_D_21 ?_
  refine V.getI (j := 6) hC d_D_fillOwing_15 rfl rfl uC2 rfl rfl qf_D_41 ?_
  refine V.icmp_ge (tgt := 64) hC d_D_fillOwing_18 (by decide) (fun c1 => ?_) (fun c1 => ?_)
  · replace h := h.1 c1
    exact hR _ _ _ h d_D_fillOwing_64
  · replace h := h.2 c1
    refine V.aload_n hC d_D_fillOwing_21 rfl rfl ?_
    refine V.iload_n hC d_D_fillOwing_22 rfl rfl ?_
    refine V.iload_n hC d_D_fillOwing_23 rfl rfl ?_
    refine V.callVI hC exC (w_D_won w σ x2 x1 _ h) d_D_fillOwing_24 mo_D_won qm_D_62 rfl rfl rfl rfl rfl rfl rfl (Nat.le_of_ble_eq_true rfl) (fun r2 t3 h => ?_)
    refine V.if_le (tgt := 58) hC d_D_fillOwing_27 (by decide) (fun c4 => ?_) (fun c4 => ?_)
    · replace h := h.1 c4
      obtain ⟨v5, ev5⟩ : ∃ y : Int32, y = x2 + (1 : Int32) := ⟨_, rfl⟩
      replace h := h v5 ev5
      refine V.iinc (y := v5) (lo' := [some (.ref (w.1 3)), some (.int x1), some (.int v5)]) hC d_D_fillOwing_58 rfl rfl (show v5 = _ + Int32.ofInt (1) from ev5) rfl ?_
      refine V.goto (tgt := 10) hC d_D_fillOwing_61 (by decide) ?_
      exact V.msk [true, true, true] rfl h
    · replace h := h.2 c4
      refine V.aload_n hC d_D_fillOwing_30 rfl rfl ?_
      refine V.getR (j := 4) hC d_D_fillOwing_31 rfl rfl uC1 rfl rfl qf_D_32 ?_
      refine V.aload_n hC d_D_fillOwing_34 rfl rfl ?_
      refine V.getR (j := 1) hC d_D_fillOwing_35 rfl rfl uC1 rfl rfl qf_D_21 ?_
      refine V.getR (j := 2) hC d_D_fillOwing_38 rfl rfl uC2 rfl rfl qf_D_48 ?_
      refine V.iload_n hC d_D_fillOwing_41 rfl rfl ?_
      obtain ⟨b6, h⟩ := h
      refine V.iald hC d_D_fillOwing_42 rfl b6 ?_
      refine V.dup2_11 hC d_D_fillOwing_43 rfl rfl ?_
      obtain ⟨b7, h⟩ := h
      refine V.iald hC d_D_fillOwing_44 rfl b7 ?_
      refine V.iconst (v := 1) hC d_D_fillOwing_45 (by decide) ?_
      refine V.aload_n hC d_D_fillOwing_46 rfl rfl ?_
      refine V.getR (j := 1) hC d_D_fillOwing_47 rfl rfl uC1 rfl rfl qf_D_21 ?_
      refine V.getR (j := 1) hC d_D_fillOwing_50 rfl rfl uC2 rfl rfl qf_D_45 ?_
      refine V.iload_n hC d_D_fillOwing_53 rfl rfl ?_
      obtain ⟨b8, h⟩ := h
      refine V.iald hC d_D_fillOwing_54 rfl b8 ?_
      refine V.ishl hC d_D_fillOwing_55 ?_
      refine V.ior hC d_D_fillOwing_56 ?_
      obtain ⟨b9, h⟩ := h
      refine V.iast hC d_D_fillOwing_57 rfl b9 ?_
      obtain ⟨v10, ev10⟩ : ∃ y : Int32, y = x2 + (1 : Int32) := ⟨_, rfl⟩
      replace h := h v10 ev10
      refine V.iinc (y := v10) (lo' := [some (.ref (w.1 3)), some (.int x1), some (.int v10)]) hC d_D_fillOwing_58 rfl rfl (show v10 = _ + Int32.ofInt (1) from ev10) rfl ?_
      refine V.goto (tgt := 10) hC d_D_fillOwing_61 (by decide) ?_
      exact V.msk [true, true, true] rfl h
set_option maxHeartbeats 4000000 in
set_option maxRecDepth 100000 in
theorem w_D_fillOwing (w : Wd) (σ : Hp) (a1 : Int32) (P : Hp → Prop) (h : wp_D_fillOwing σ a1 P) : CtN μC w y_D_fillOwing b_D_fillOwing 3 none 3 [.ref (w.1 3), .int a1] σ P := by
  unfold wp_D_fillOwing at h
  refine CtN.ofV (C := nC1) (lo := [some (.ref (w.1 3)), some (.int a1), none]) exC (by decide +kernel) rfl rfl rfl (fun κ hC hR => ?_)
  refine V.aload_n hC d_D_fillOwing_0 rfl rfl ?_
  refine V.getR (j := 4) hC d_D_fillOwing_1 rfl rfl uC1 rfl rfl qf_D_32 ?_
  refine V.iconst (v := 0) hC d_D_fillOwing_4 (by decide) ?_
  refine V.callSN hC exC (w_JA_fill w σ 18 8 (0 : Int32) _ h) d_D_fillOwing_5 mo_JA_fill qm_D_65 rfl rfl rfl rfl (Nat.le_of_ble_eq_true rfl) (fun t12 h => ?_)
  refine V.iconst (v := 0) hC d_D_fillOwing_8 (by decide) ?_
  refine V.istore_n (y := (0 : Int32)) (lo' := [some (.ref (w.1 3)), some (.int a1), some (.int (0 : Int32))]) hC d_D_fillOwing_9 rfl rfl rfl rfl ?_
  exact V.msk [true, true, true] rfl (wj_D_fillOwing_10  hC hR  t12 a1 (0 : Int32) h)
abbrev b_D_oweRound : ByteArray := prog_3_method_11_code
def y_D_oweRound : MethodName := ⟨nC1, "oweRound", "(III)Z"⟩
theorem d_D_oweRound_0 : decode b_D_oweRound 0 = .ok (.aload_n 0, 1) := by decide +kernel
theorem d_D_oweRound_1 : decode b_D_oweRound 1 = .ok (.getfield 32, 3) := by decide +kernel
theorem d_D_oweRound_4 : decode b_D_oweRound 4 = .ok (.iload_n 1, 1) := by decide +kernel
theorem d_D_oweRound_5 : decode b_D_oweRound 5 = .ok (.iaload, 1) := by decide +kernel
theorem d_D_oweRound_6 : decode b_D_oweRound 6 = .ok (.iload_n 2, 1) := by decide +kernel
theorem d_D_oweRound_7 : decode b_D_oweRound 7 = .ok (.ishr, 1) := by decide +kernel
theorem d_D_oweRound_8 : decode b_D_oweRound 8 = .ok (.aload_n 0, 1) := by decide +kernel
theorem d_D_oweRound_9 : decode b_D_oweRound 9 = .ok (.getfield 32, 3) := by decide +kernel
theorem d_D_oweRound_12 : decode b_D_oweRound 12 = .ok (.iload_n 2, 1) := by decide +kernel
theorem d_D_oweRound_13 : decode b_D_oweRound 13 = .ok (.iaload, 1) := by decide +kernel
theorem d_D_oweRound_14 : decode b_D_oweRound 14 = .ok (.iload_n 3, 1) := by decide +kernel
theorem d_D_oweRound_15 : decode b_D_oweRound 15 = .ok (.ishr, 1) := by decide +kernel
theorem d_D_oweRound_16 : decode b_D_oweRound 16 = .ok (.iand, 1) := by decide +kernel
theorem d_D_oweRound_17 : decode b_D_oweRound 17 = .ok (.aload_n 0, 1) := by decide +kernel
theorem d_D_oweRound_18 : decode b_D_oweRound 18 = .ok (.getfield 32, 3) := by decide +kernel
theorem d_D_oweRound_21 : decode b_D_oweRound 21 = .ok (.iload_n 3, 1) := by decide +kernel
theorem d_D_oweRound_22 : decode b_D_oweRound 22 = .ok (.iaload, 1) := by decide +kernel
theorem d_D_oweRound_23 : decode b_D_oweRound 23 = .ok (.iload_n 1, 1) := by decide +kernel
theorem d_D_oweRound_24 : decode b_D_oweRound 24 = .ok (.ishr, 1) := by decide +kernel
theorem d_D_oweRound_25 : decode b_D_oweRound 25 = .ok (.iand, 1) := by decide +kernel
theorem d_D_oweRound_26 : decode b_D_oweRound 26 = .ok (.iconst 1, 1) := by decide +kernel
theorem d_D_oweRound_27 : decode b_D_oweRound 27 = .ok (.iand, 1) := by decide +kernel
theorem d_D_oweRound_28 : decode b_D_oweRound 28 = .ok (.iconst 1, 1) := by decide +kernel
theorem d_D_oweRound_29 : decode b_D_oweRound 29 = .ok (.if_icmp .ne 7, 3) := by decide +kernel
theorem d_D_oweRound_32 : decode b_D_oweRound 32 = .ok (.iconst 1, 1) := by decide +kernel
theorem d_D_oweRound_33 : decode b_D_oweRound 33 = .ok (.goto 4, 3) := by decide +kernel
theorem d_D_oweRound_36 : decode b_D_oweRound 36 = .ok (.iconst 0, 1) := by decide +kernel
theorem d_D_oweRound_37 : decode b_D_oweRound 37 = .ok (.ireturn, 1) := by decide +kernel
theorem mo_D_oweRound : MokV y_D_oweRound b_D_oweRound 4 (some .boolean) 3 := ⟨⟨(tbl_in 666 (by decide +kernel) rfl), (tbl_in 64 (by decide +kernel) rfl)⟩, ⟨(tbl_in 665 (by decide +kernel) rfl), tbl_lw _ (tbl_in 9 (by decide +kernel) rfl), (tbl_in 9 (by decide +kernel) rfl)⟩, ⟨by decide +kernel, by decide +kernel⟩, by decide +kernel⟩
def wp_D_oweRound (σ : Hp) (a1 : Int32) (a2 : Int32) (a3 : Int32) (P : Int32 → Hp → Prop) : Prop :=
  (vp_in a1 8) ∧ (vp_in a2 8) ∧ (vp_in a3 8) ∧ ((¬ (((((σ 18 (ix a1)) >>> (a2 &&& 31)) &&& ((σ 18 (ix a2)) >>> (a3 &&& 31))) &&& ((σ 18 (ix a3)) >>> (a1 &&& 31))) &&& (1 : Int32)) = (1 : Int32) → P (0 : Int32) σ) ∧ ((((((σ 18 (ix a1)) >>> (a2 &&& 31)) &&& ((σ 18 (ix a2)) >>> (a3 &&& 31))) &&& ((σ 18 (ix a3)) >>> (a1 &&& 31))) &&& (1 : Int32)) = (1 : Int32) → P (1 : Int32) σ))
set_option maxHeartbeats 4000000 in
set_option maxRecDepth 100000 in
theorem w_D_oweRound (w : Wd) (σ : Hp) (a1 : Int32) (a2 : Int32) (a3 : Int32) (P : Int32 → Hp → Prop) (h : wp_D_oweRound σ a1 a2 a3 P) : CtI μC w y_D_oweRound b_D_oweRound 4 (some .boolean) 0 [.ref (w.1 3), .int a1, .int a2, .int a3] σ P := by
  unfold wp_D_oweRound at h
  refine CtI.ofV (C := nC1) (lo := [some (.ref (w.1 3)), some (.int a1), some (.int a2), some (.int a3)]) exC (by decide +kernel) rfl rfl rfl (fun κ hC hR => ?_)
  refine V.aload_n hC d_D_oweRound_0 rfl rfl ?_
  refine V.getR (j := 4) hC d_D_oweRound_1 rfl rfl uC1 rfl rfl qf_D_32 ?_
  refine V.iload_n hC d_D_oweRound_4 rfl rfl ?_
  obtain ⟨b1, h⟩ := h
  refine V.iald hC d_D_oweRound_5 rfl b1 ?_
  refine V.iload_n hC d_D_oweRound_6 rfl rfl ?_
  refine V.ishr hC d_D_oweRound_7 ?_
  refine V.aload_n hC d_D_oweRound_8 rfl rfl ?_
  refine V.getR (j := 4) hC d_D_oweRound_9 rfl rfl uC1 rfl rfl qf_D_32 ?_
  refine V.iload_n hC d_D_oweRound_12 rfl rfl ?_
  obtain ⟨b2, h⟩ := h
  refine V.iald hC d_D_oweRound_13 rfl b2 ?_
  refine V.iload_n hC d_D_oweRound_14 rfl rfl ?_
  refine V.ishr hC d_D_oweRound_15 ?_
  refine V.iand hC d_D_oweRound_16 ?_
  refine V.aload_n hC d_D_oweRound_17 rfl rfl ?_
  refine V.getR (j := 4) hC d_D_oweRound_18 rfl rfl uC1 rfl rfl qf_D_32 ?_
  refine V.iload_n hC d_D_oweRound_21 rfl rfl ?_
  obtain ⟨b3, h⟩ := h
  refine V.iald hC d_D_oweRound_22 rfl b3 ?_
  refine V.iload_n hC d_D_oweRound_23 rfl rfl ?_
  refine V.ishr hC d_D_oweRound_24 ?_
  refine V.iand hC d_D_oweRound_25 ?_
  refine V.iconst (v := 1) hC d_D_oweRound_26 (by decide) ?_
  refine V.iand hC d_D_oweRound_27 ?_
  refine V.iconst (v := 1) hC d_D_oweRound_28 (by decide) ?_
  refine V.icmp_ne (tgt := 36) hC d_D_oweRound_29 (by decide) (fun c4 => ?_) (fun c4 => ?_)
  · replace h := h.1 c4
    refine V.iconst (v := 0) hC d_D_oweRound_36 (by decide) ?_
    exact hR _ _ _ _ h (by decide) d_D_oweRound_37
  · replace h := h.2 c4
    refine V.iconst (v := 1) hC d_D_oweRound_32 (by decide) ?_
    refine V.goto (tgt := 37) hC d_D_oweRound_33 (by decide) ?_
    exact hR _ _ _ _ h (by decide) d_D_oweRound_37
abbrev b_D_isRing : ByteArray := prog_3_method_10_code
def y_D_isRing : MethodName := ⟨nC1, "isRing", "(III)Z"⟩
theorem d_D_isRing_0 : decode b_D_isRing 0 = .ok (.aload_n 0, 1) := by decide +kernel
theorem d_D_isRing_1 : decode b_D_isRing 1 = .ok (.iload_n 1, 1) := by decide +kernel
theorem d_D_isRing_2 : decode b_D_isRing 2 = .ok (.iload_n 2, 1) := by decide +kernel
theorem d_D_isRing_3 : decode b_D_isRing 3 = .ok (.iload_n 3, 1) := by decide +kernel
theorem d_D_isRing_4 : decode b_D_isRing 4 = .ok (.invokevirtual 83, 3) := by decide +kernel
theorem d_D_isRing_7 : decode b_D_isRing 7 = .ok (.ifCond .ne 13, 3) := by decide +kernel
theorem d_D_isRing_10 : decode b_D_isRing 10 = .ok (.aload_n 0, 1) := by decide +kernel
theorem d_D_isRing_11 : decode b_D_isRing 11 = .ok (.iload_n 1, 1) := by decide +kernel
theorem d_D_isRing_12 : decode b_D_isRing 12 = .ok (.iload_n 3, 1) := by decide +kernel
theorem d_D_isRing_13 : decode b_D_isRing 13 = .ok (.iload_n 2, 1) := by decide +kernel
theorem d_D_isRing_14 : decode b_D_isRing 14 = .ok (.invokevirtual 83, 3) := by decide +kernel
theorem d_D_isRing_17 : decode b_D_isRing 17 = .ok (.ifCond .eq 7, 3) := by decide +kernel
theorem d_D_isRing_20 : decode b_D_isRing 20 = .ok (.iconst 1, 1) := by decide +kernel
theorem d_D_isRing_21 : decode b_D_isRing 21 = .ok (.goto 4, 3) := by decide +kernel
theorem d_D_isRing_24 : decode b_D_isRing 24 = .ok (.iconst 0, 1) := by decide +kernel
theorem d_D_isRing_25 : decode b_D_isRing 25 = .ok (.ireturn, 1) := by decide +kernel
theorem qm_D_83 : Cond.methodLink nC1 83 y_D_oweRound ∈ tbl := tbl_in 663 (by decide +kernel) rfl
theorem mo_D_isRing : MokV y_D_isRing b_D_isRing 4 (some .boolean) 3 := ⟨⟨(tbl_in 662 (by decide +kernel) rfl), (tbl_in 64 (by decide +kernel) rfl)⟩, ⟨(tbl_in 660 (by decide +kernel) rfl), tbl_lw _ (tbl_in 661 (by decide +kernel) rfl), (tbl_in 661 (by decide +kernel) rfl)⟩, ⟨by decide +kernel, by decide +kernel⟩, by decide +kernel⟩
def wp_D_isRing (σ : Hp) (a1 : Int32) (a2 : Int32) (a3 : Int32) (P : Int32 → Hp → Prop) : Prop :=
  wp_D_oweRound σ a1 a2 a3 (fun (r1 : Int32) (t2 : Hp) => ((¬ r1 = 0 → P (1 : Int32) t2) ∧ (r1 = 0 → wp_D_oweRound t2 a1 a3 a2 (fun (r4 : Int32) (t5 : Hp) => ((r4 = 0 → P (0 : Int32) t5) ∧ (¬ r4 = 0 → P (1 : Int32) t5))))))
set_option maxHeartbeats 4000000 in
set_option maxRecDepth 100000 in
theorem w_D_isRing (w : Wd) (σ : Hp) (a1 : Int32) (a2 : Int32) (a3 : Int32) (P : Int32 → Hp → Prop) (h : wp_D_isRing σ a1 a2 a3 P) : CtI μC w y_D_isRing b_D_isRing 4 (some .boolean) 1 [.ref (w.1 3), .int a1, .int a2, .int a3] σ P := by
  unfold wp_D_isRing at h
  refine CtI.ofV (C := nC1) (lo := [some (.ref (w.1 3)), some (.int a1), some (.int a2), some (.int a3)]) exC (by decide +kernel) rfl rfl rfl (fun κ hC hR => ?_)
  refine V.aload_n hC d_D_isRing_0 rfl rfl ?_
  refine V.iload_n hC d_D_isRing_1 rfl rfl ?_
  refine V.iload_n hC d_D_isRing_2 rfl rfl ?_
  refine V.iload_n hC d_D_isRing_3 rfl rfl ?_
  refine V.callVI hC exC (w_D_oweRound w σ a1 a2 a3 _ h) d_D_isRing_4 mo_D_oweRound qm_D_83 rfl rfl rfl rfl rfl rfl rfl (Nat.le_of_ble_eq_true rfl) (fun r1 t2 h => ?_)
  refine V.if_ne (tgt := 20) hC d_D_isRing_7 (by decide) (fun c3 => ?_) (fun c3 => ?_)
  · replace h := h.1 c3
    refine V.iconst (v := 1) hC d_D_isRing_20 (by decide) ?_
    refine V.goto (tgt := 25) hC d_D_isRing_21 (by decide) ?_
    exact hR _ _ _ _ h (by decide) d_D_isRing_25
  · replace h := h.2 c3
    refine V.aload_n hC d_D_isRing_10 rfl rfl ?_
    refine V.iload_n hC d_D_isRing_11 rfl rfl ?_
    refine V.iload_n hC d_D_isRing_12 rfl rfl ?_
    refine V.iload_n hC d_D_isRing_13 rfl rfl ?_
    refine V.callVI hC exC (w_D_oweRound w t2 a1 a3 a2 _ h) d_D_isRing_14 mo_D_oweRound qm_D_83 rfl rfl rfl rfl rfl rfl rfl (Nat.le_of_ble_eq_true rfl) (fun r4 t5 h => ?_)
    refine V.if_eq (tgt := 24) hC d_D_isRing_17 (by decide) (fun c6 => ?_) (fun c6 => ?_)
    · replace h := h.1 c6
      refine V.iconst (v := 0) hC d_D_isRing_24 (by decide) ?_
      exact hR _ _ _ _ h (by decide) d_D_isRing_25
    · replace h := h.2 c6
      refine V.iconst (v := 1) hC d_D_isRing_20 (by decide) ?_
      refine V.goto (tgt := 25) hC d_D_isRing_21 (by decide) ?_
      exact hR _ _ _ _ h (by decide) d_D_isRing_25
abbrev b_P_rings : ByteArray := prog_1_method_20_code
def y_P_rings : MethodName := ⟨nC7, "rings", "(II)I"⟩
theorem d_P_rings_0 : decode b_P_rings 0 = .ok (.iload_n 1, 1) := by decide +kernel
theorem d_P_rings_1 : decode b_P_rings 1 = .ok (.invokestatic 126, 3) := by decide +kernel
theorem d_P_rings_4 : decode b_P_rings 4 = .ok (.ifCond .eq 12, 3) := by decide +kernel
theorem d_P_rings_7 : decode b_P_rings 7 = .ok (.iload_n 2, 1) := by decide +kernel
theorem d_P_rings_8 : decode b_P_rings 8 = .ok (.ifCond .eq 11, 3) := by decide +kernel
theorem d_P_rings_11 : decode b_P_rings 11 = .ok (.iload_n 2, 1) := by decide +kernel
theorem d_P_rings_12 : decode b_P_rings 12 = .ok (.iconst 1, 1) := by decide +kernel
theorem d_P_rings_13 : decode b_P_rings 13 = .ok (.if_icmp .eq 6, 3) := by decide +kernel
theorem d_P_rings_16 : decode b_P_rings 16 = .ok (.bipush (-2), 2) := by decide +kernel
theorem d_P_rings_18 : decode b_P_rings 18 = .ok (.ireturn, 1) := by decide +kernel
theorem d_P_rings_19 : decode b_P_rings 19 = .ok (.aload_n 0, 1) := by decide +kernel
theorem d_P_rings_20 : decode b_P_rings 20 = .ok (.getfield 28, 3) := by decide +kernel
theorem d_P_rings_23 : decode b_P_rings 23 = .ok (.iload_n 1, 1) := by decide +kernel
theorem d_P_rings_24 : decode b_P_rings 24 = .ok (.invokevirtual 205, 3) := by decide +kernel
theorem d_P_rings_27 : decode b_P_rings 27 = .ok (.iconst 0, 1) := by decide +kernel
theorem d_P_rings_28 : decode b_P_rings 28 = .ok (.istore_n 3, 1) := by decide +kernel
theorem d_P_rings_29 : decode b_P_rings 29 = .ok (.iconst (-1), 1) := by decide +kernel
theorem d_P_rings_30 : decode b_P_rings 30 = .ok (.istore 4, 2) := by decide +kernel
theorem d_P_rings_32 : decode b_P_rings 32 = .ok (.iconst 0, 1) := by decide +kernel
theorem d_P_rings_33 : decode b_P_rings 33 = .ok (.istore 5, 2) := by decide +kernel
theorem d_P_rings_35 : decode b_P_rings 35 = .ok (.iload 5, 2) := by decide +kernel
theorem d_P_rings_37 : decode b_P_rings 37 = .ok (.aload_n 0, 1) := by decide +kernel
theorem d_P_rings_38 : decode b_P_rings 38 = .ok (.getfield 36, 3) := by decide +kernel
theorem d_P_rings_41 : decode b_P_rings 41 = .ok (.getfield 196, 3) := by decide +kernel
theorem d_P_rings_44 : decode b_P_rings 44 = .ok (.if_icmp .ge 101, 3) := by decide +kernel
theorem d_P_rings_47 : decode b_P_rings 47 = .ok (.iload 5, 2) := by decide +kernel
theorem d_P_rings_49 : decode b_P_rings 49 = .ok (.iconst 1, 1) := by decide +kernel
theorem d_P_rings_50 : decode b_P_rings 50 = .ok (.iadd, 1) := by decide +kernel
theorem d_P_rings_51 : decode b_P_rings 51 = .ok (.istore 6, 2) := by decide +kernel
theorem d_P_rings_53 : decode b_P_rings 53 = .ok (.iload 6, 2) := by decide +kernel
theorem d_P_rings_55 : decode b_P_rings 55 = .ok (.aload_n 0, 1) := by decide +kernel
theorem d_P_rings_56 : decode b_P_rings 56 = .ok (.getfield 36, 3) := by decide +kernel
theorem d_P_rings_59 : decode b_P_rings 59 = .ok (.getfield 196, 3) := by decide +kernel
theorem d_P_rings_62 : decode b_P_rings 62 = .ok (.if_icmp .ge 77, 3) := by decide +kernel
theorem d_P_rings_65 : decode b_P_rings 65 = .ok (.iload 6, 2) := by decide +kernel
theorem d_P_rings_67 : decode b_P_rings 67 = .ok (.iconst 1, 1) := by decide +kernel
theorem d_P_rings_68 : decode b_P_rings 68 = .ok (.iadd, 1) := by decide +kernel
theorem d_P_rings_69 : decode b_P_rings 69 = .ok (.istore 7, 2) := by decide +kernel
theorem d_P_rings_71 : decode b_P_rings 71 = .ok (.iload 7, 2) := by decide +kernel
theorem d_P_rings_73 : decode b_P_rings 73 = .ok (.aload_n 0, 1) := by decide +kernel
theorem d_P_rings_74 : decode b_P_rings 74 = .ok (.getfield 36, 3) := by decide +kernel
theorem d_P_rings_77 : decode b_P_rings 77 = .ok (.getfield 196, 3) := by decide +kernel
theorem d_P_rings_80 : decode b_P_rings 80 = .ok (.if_icmp .ge 53, 3) := by decide +kernel
theorem d_P_rings_83 : decode b_P_rings 83 = .ok (.aload_n 0, 1) := by decide +kernel
theorem d_P_rings_84 : decode b_P_rings 84 = .ok (.getfield 28, 3) := by decide +kernel
theorem d_P_rings_87 : decode b_P_rings 87 = .ok (.iload 5, 2) := by decide +kernel
theorem d_P_rings_89 : decode b_P_rings 89 = .ok (.iload 6, 2) := by decide +kernel
theorem d_P_rings_91 : decode b_P_rings 91 = .ok (.iload 7, 2) := by decide +kernel
theorem d_P_rings_93 : decode b_P_rings 93 = .ok (.invokevirtual 208, 3) := by decide +kernel
theorem d_P_rings_96 : decode b_P_rings 96 = .ok (.ifCond .ne 6, 3) := by decide +kernel
theorem d_P_rings_99 : decode b_P_rings 99 = .ok (.goto 28, 3) := by decide +kernel
theorem d_P_rings_102 : decode b_P_rings 102 = .ok (.iinc 3 1, 3) := by decide +kernel
theorem d_P_rings_105 : decode b_P_rings 105 = .ok (.iload 4, 2) := by decide +kernel
theorem d_P_rings_107 : decode b_P_rings 107 = .ok (.iconst (-1), 1) := by decide +kernel
theorem d_P_rings_108 : decode b_P_rings 108 = .ok (.if_icmp .ne 19, 3) := by decide +kernel
theorem d_P_rings_111 : decode b_P_rings 111 = .ok (.bipush 64, 2) := by decide +kernel
theorem d_P_rings_113 : decode b_P_rings 113 = .ok (.iload 5, 2) := by decide +kernel
theorem d_P_rings_115 : decode b_P_rings 115 = .ok (.imul, 1) := by decide +kernel
theorem d_P_rings_116 : decode b_P_rings 116 = .ok (.bipush 8, 2) := by decide +kernel
theorem d_P_rings_118 : decode b_P_rings 118 = .ok (.iload 6, 2) := by decide +kernel
theorem d_P_rings_120 : decode b_P_rings 120 = .ok (.imul, 1) := by decide +kernel
theorem d_P_rings_121 : decode b_P_rings 121 = .ok (.iadd, 1) := by decide +kernel
theorem d_P_rings_122 : decode b_P_rings 122 = .ok (.iload 7, 2) := by decide +kernel
theorem d_P_rings_124 : decode b_P_rings 124 = .ok (.iadd, 1) := by decide +kernel
theorem d_P_rings_125 : decode b_P_rings 125 = .ok (.istore 4, 2) := by decide +kernel
theorem d_P_rings_127 : decode b_P_rings 127 = .ok (.iinc 7 1, 3) := by decide +kernel
theorem d_P_rings_130 : decode b_P_rings 130 = .ok (.goto (-59), 3) := by decide +kernel
theorem d_P_rings_133 : decode b_P_rings 133 = .ok (.iinc 6 1, 3) := by decide +kernel
theorem d_P_rings_136 : decode b_P_rings 136 = .ok (.goto (-83), 3) := by decide +kernel
theorem d_P_rings_139 : decode b_P_rings 139 = .ok (.iinc 5 1, 3) := by decide +kernel
theorem d_P_rings_142 : decode b_P_rings 142 = .ok (.goto (-107), 3) := by decide +kernel
theorem d_P_rings_145 : decode b_P_rings 145 = .ok (.iload_n 2, 1) := by decide +kernel
theorem d_P_rings_146 : decode b_P_rings 146 = .ok (.ifCond .ne 7, 3) := by decide +kernel
theorem d_P_rings_149 : decode b_P_rings 149 = .ok (.iload_n 3, 1) := by decide +kernel
theorem d_P_rings_150 : decode b_P_rings 150 = .ok (.goto 5, 3) := by decide +kernel
theorem d_P_rings_153 : decode b_P_rings 153 = .ok (.iload 4, 2) := by decide +kernel
theorem d_P_rings_155 : decode b_P_rings 155 = .ok (.ireturn, 1) := by decide +kernel
theorem qm_P_205 : Cond.methodLink nC7 205 y_D_fillOwing ∈ tbl := tbl_in 655 (by decide +kernel) rfl
theorem qm_P_208 : Cond.methodLink nC7 208 y_D_isRing ∈ tbl := tbl_in 659 (by decide +kernel) rfl
theorem mo_P_rings : MokV y_P_rings b_P_rings 8 (some .int) 2 := ⟨⟨(tbl_in 654 (by decide +kernel) rfl), (tbl_in 62 (by decide +kernel) rfl)⟩, ⟨(tbl_in 652 (by decide +kernel) rfl), tbl_lw _ (tbl_in 653 (by decide +kernel) rfl), (tbl_in 653 (by decide +kernel) rfl)⟩, ⟨by decide +kernel, by decide +kernel⟩, by decide +kernel⟩
def b_P_rings_71_ (P : Int32 → Hp → Prop) (I35 : Hp → Int32 → Int32 → Int32 → Int32 → Prop) (I53 : Hp → Int32 → Int32 → Int32 → Int32 → Int32 → Prop) (I71 : Hp → Int32 → Int32 → Int32 → Int32 → Int32 → Int32 → Prop) (σ : Hp) (x2 : Int32) (x3 : Int32) (x4 : Int32) (x5 : Int32) (x6 : Int32) (x7 : Int32) : Prop :=
  (((σ 4 6) ≤ x7 → (∀ v2 : Int32, v2 = x6 + (1 : Int32) → I53 σ x2 x3 x4 x5 v2)) ∧ (¬ (σ 4 6) ≤ x7 → wp_D_isRing σ x5 x6 x7 (fun (r3 : Int32) (t4 : Hp) => ((¬ r3 = 0 → (∀ v6 : Int32, v6 = x3 + (1 : Int32) → ((¬ x4 = (-1 : Int32) → (∀ v8 : Int32, v8 = x7 + (1 : Int32) → I71 t4 x2 v6 x4 x5 x6 v8)) ∧ (x4 = (-1 : Int32) → (∀ v9 : Int32, v9 = (((64 : Int32) * x5) + ((8 : Int32) * x6)) + x7 → (∀ v10 : Int32, v10 = x7 + (1 : Int32) → I71 t4 x2 v6 v9 x5 x6 v10)))))) ∧ (r3 = 0 → (∀ v11 : Int32, v11 = x7 + (1 : Int32) → I71 t4 x2 x3 x4 x5 x6 v11))))))
def j_P_rings_71 (P : Int32 → Hp → Prop) (I35 : Hp → Int32 → Int32 → Int32 → Int32 → Prop) (I53 : Hp → Int32 → Int32 → Int32 → Int32 → Int32 → Prop) (σ : Hp) (x2 : Int32) (x3 : Int32) (x4 : Int32) (x5 : Int32) (x6 : Int32) (x7 : Int32) : Prop := ∀ I71 : Hp → Int32 → Int32 → Int32 → Int32 → Int32 → Int32 → Prop, (∀ (σ : Hp) (x2 : Int32) (x3 : Int32) (x4 : Int32) (x5 : Int32) (x6 : Int32) (x7 : Int32), b_P_rings_71_  P I35 I53 I71 σ x2 x3 x4 x5 x6 x7 → I71 σ x2 x3 x4 x5 x6 x7) → I71 σ x2 x3 x4 x5 x6 x7
def b_P_rings_53_ (P : Int32 → Hp → Prop) (I35 : Hp → Int32 → Int32 → Int32 → Int32 → Prop) (I53 : Hp → Int32 → Int32 → Int32 → Int32 → Int32 → Prop) (σ : Hp) (x2 : Int32) (x3 : Int32) (x4 : Int32) (x5 : Int32) (x6 : Int32) : Prop :=
  (((σ 4 6) ≤ x6 → (∀ v13 : Int32, v13 = x5 + (1 : Int32) → I35 σ x2 x3 x4 v13)) ∧ (¬ (σ 4 6) ≤ x6 → (∀ v14 : Int32, v14 = x6 + (1 : Int32) → j_P_rings_71 P I35 I53 σ x2 x3 x4 x5 x6 v14)))
def j_P_rings_53 (P : Int32 → Hp → Prop) (I35 : Hp → Int32 → Int32 → Int32 → Int32 → Prop) (σ : Hp) (x2 : Int32) (x3 : Int32) (x4 : Int32) (x5 : Int32) (x6 : Int32) : Prop := ∀ I53 : Hp → Int32 → Int32 → Int32 → Int32 → Int32 → Prop, (∀ (σ : Hp) (x2 : Int32) (x3 : Int32) (x4 : Int32) (x5 : Int32) (x6 : Int32), b_P_rings_53_  P I35 I53 σ x2 x3 x4 x5 x6 → I53 σ x2 x3 x4 x5 x6) → I53 σ x2 x3 x4 x5 x6
def b_P_rings_35_ (P : Int32 → Hp → Prop)  (I35 : Hp → Int32 → Int32 → Int32 → Int32 → Prop) (σ : Hp) (x2 : Int32) (x3 : Int32) (x4 : Int32) (x5 : Int32) : Prop :=
  (((σ 4 6) ≤ x5 → ((¬ x2 = 0 → P x4 σ) ∧ (x2 = 0 → P x3 σ))) ∧ (¬ (σ 4 6) ≤ x5 → (∀ v17 : Int32, v17 = x5 + (1 : Int32) → j_P_rings_53 P I35 σ x2 x3 x4 x5 v17)))
def j_P_rings_35 (P : Int32 → Hp → Prop)  (σ : Hp) (x2 : Int32) (x3 : Int32) (x4 : Int32) (x5 : Int32) : Prop := ∀ I35 : Hp → Int32 → Int32 → Int32 → Int32 → Prop, (∀ (σ : Hp) (x2 : Int32) (x3 : Int32) (x4 : Int32) (x5 : Int32), b_P_rings_35_  P  I35 σ x2 x3 x4 x5 → I35 σ x2 x3 x4 x5) → I35 σ x2 x3 x4 x5
def j_P_rings_19 (P : Int32 → Hp → Prop)  (σ : Hp) (x1 : Int32) (x2 : Int32) : Prop :=
  wp_D_fillOwing σ x1 (fun (t19 : Hp) => j_P_rings_35 P t19 x2 (0 : Int32) (-1 : Int32) (0 : Int32))
def wp_P_rings (σ : Hp) (a1 : Int32) (a2 : Int32) (P : Int32 → Hp → Prop) : Prop :=
  wp_P_isDay σ a1 (fun (r20 : Int32) (t21 : Hp) => ((r20 = 0 → P (-2 : Int32) t21) ∧ (¬ r20 = 0 → ((a2 = 0 → j_P_rings_19 P t21 a1 a2) ∧ (¬ a2 = 0 → ((a2 = (1 : Int32) → j_P_rings_19 P t21 a1 a2) ∧ (¬ a2 = (1 : Int32) → P (-2 : Int32) t21)))))))
set_option maxHeartbeats 4000000 in
set_option maxRecDepth 100000 in
theorem wj_P_rings_71 {w : Wd} {κ : Kx} {P : Int32 → Hp → Prop} (hC : Cx μC w 8 κ nC7 b_P_rings 4) (hR : RtI μC w 8 κ b_P_rings .int P) {I35 : Hp → Int32 → Int32 → Int32 → Int32 → Prop} (hI35 : ∀ σ x2 x3 x4 x5, I35 σ x2 x3 x4 x5 → V μC w 8 κ σ [some (.ref (w.1 0)), none, some (.int x2), some (.int x3), some (.int x4), some (.int x5), none, none] 35 []) {I53 : Hp → Int32 → Int32 → Int32 → Int32 → Int32 → Prop} (hI53 : ∀ σ x2 x3 x4 x5 x6, I53 σ x2 x3 x4 x5 x6 → V μC w 8 κ σ [some (.ref (w.1 0)), none, some (.int x2), some (.int x3), some (.int x4), some (.int x5), some (.int x6), none] 53 []) : ∀ (σ : Hp) (x2 : Int32) (x3 : Int32) (x4 : Int32) (x5 : Int32) (x6 : Int32) (x7 : Int32), j_P_rings_71  P I35 I53 σ x2 x3 x4 x5 x6 x7 → V μC w 8 κ σ [some (.ref (w.1 0)), none, some (.int x2), some (.int x3), some (.int x4), some (.int x5), some (.int x6), some (.int x7)] 71 [] := by
  intro σ x2 x3 x4 x5 x6 x7 h
  refine h (fun σ x2 x3 x4 x5 x6 x7 => V μC w 8 κ σ [some (.ref (w.1 0)), none, some (.int x2), some (.int x3), some (.int x4), some (.int x5), some (.int x6), some (.int x7)] 71 []) (fun σ x2 x3 x4 x5 x6 x7 h => ?_)
  unfold b_P_rings_71_ at h
  refine V.iload hC d_P_rings_71 rfl ?_
  refine V.aload_n hC d_P_rings_73 rfl rfl ?_
  refine V.getR (j := 3) hC d_P_rings_74 rfl rfl uC7 rfl rfl qf_P_36 ?_
  refine V.getI (j := 6) hC d_P_rings_77 rfl rfl uC5 rfl rfl qf_P_196 ?_
  refine V.icmp_ge (tgt := 133) hC d_P_rings_80 (by decide) (fun c1 => ?_) (fun c1 => ?_)
  · replace h := h.1 c1
    obtain ⟨v2, ev2⟩ : ∃ y : Int32, y = x6 + (1 : Int32) := ⟨_, rfl⟩
    replace h := h v2 ev2
    refine V.iinc (y := v2) (lo' := [some (.ref (w.1 0)), none, some (.int x2), some (.int x3), some (.int x4), some (.int x5), some (.int v2), some (.int x7)]) hC d_P_rings_133 rfl rfl (show v2 = _ + Int32.ofInt (1) from ev2) rfl ?_
    refine V.goto (tgt := 53) hC d_P_rings_136 (by decide) ?_
    exact V.msk [true, false, true, true, true, true, true, false] rfl (hI53 σ x2 x3 x4 x5 v2 h)
  · replace h := h.2 c1
    refine V.aload_n hC d_P_rings_83 rfl rfl ?_
    refine V.getR (j := 2) hC d_P_rings_84 rfl rfl uC7 rfl rfl qf_P_28 ?_
    refine V.iload hC d_P_rings_87 rfl ?_
    refine V.iload hC d_P_rings_89 rfl ?_
    refine V.iload hC d_P_rings_91 rfl ?_
    refine V.callVI hC exC (w_D_isRing w σ x5 x6 x7 _ h) d_P_rings_93 mo_D_isRing qm_P_208 rfl rfl rfl rfl rfl rfl rfl (Nat.le_of_ble_eq_true rfl) (fun r3 t4 h => ?_)
    refine V.if_ne (tgt := 102) hC d_P_rings_96 (by decide) (fun c5 => ?_) (fun c5 => ?_)
    · replace h := h.1 c5
      obtain ⟨v6, ev6⟩ : ∃ y : Int32, y = x3 + (1 : Int32) := ⟨_, rfl⟩
      replace h := h v6 ev6
      refine V.iinc (y := v6) (lo' := [some (.ref (w.1 0)), none, some (.int x2), some (.int v6), some (.int x4), some (.int x5), some (.int x6), some (.int x7)]) hC d_P_rings_102 rfl rfl (show v6 = _ + Int32.ofInt (1) from ev6) rfl ?_
      refine V.iload hC d_P_rings_105 rfl ?_
      refine V.iconst (v := -1) hC d_P_rings_107 (by decide) ?_
      refine V.icmp_ne (tgt := 127) hC d_P_rings_108 (by decide) (fun c7 => ?_) (fun c7 => ?_)
      · replace h := h.1 c7
        obtain ⟨v8, ev8⟩ : ∃ y : Int32, y = x7 + (1 : Int32) := ⟨_, rfl⟩
        replace h := h v8 ev8
        refine V.iinc (y := v8) (lo' := [some (.ref (w.1 0)), none, some (.int x2), some (.int v6), some (.int x4), some (.int x5), some (.int x6), some (.int v8)]) hC d_P_rings_127 rfl rfl (show v8 = _ + Int32.ofInt (1) from ev8) rfl ?_
        refine V.goto (tgt := 71) hC d_P_rings_130 (by decide) ?_
        exact V.msk [true, false, true, true, true, true, true, true] rfl h
      · replace h := h.2 c7
        refine V.bipush (v := 64) hC d_P_rings_111 (by decide) ?_
        refine V.iload hC d_P_rings_113 rfl ?_
        refine V.imul hC d_P_rings_115 ?_
        refine V.bipush (v := 8) hC d_P_rings_116 (by decide) ?_
        refine V.iload hC d_P_rings_118 rfl ?_
        refine V.imul hC d_P_rings_120 ?_
        refine V.iadd hC d_P_rings_121 ?_
        refine V.iload hC d_P_rings_122 rfl ?_
        refine V.iadd hC d_P_rings_124 ?_
        obtain ⟨v9, ev9⟩ : ∃ y : Int32, y = (((64 : Int32) * x5) + ((8 : Int32) * x6)) + x7 := ⟨_, rfl⟩
        replace h := h v9 ev9
        refine V.istore (y := v9) (lo' := [some (.ref (w.1 0)), none, some (.int x2), some (.int v6), some (.int v9), some (.int x5), some (.int x6), some (.int x7)]) hC d_P_rings_125 rfl ev9 rfl ?_
        obtain ⟨v10, ev10⟩ : ∃ y : Int32, y = x7 + (1 : Int32) := ⟨_, rfl⟩
        replace h := h v10 ev10
        refine V.iinc (y := v10) (lo' := [some (.ref (w.1 0)), none, some (.int x2), some (.int v6), some (.int v9), some (.int x5), some (.int x6), some (.int v10)]) hC d_P_rings_127 rfl rfl (show v10 = _ + Int32.ofInt (1) from ev10) rfl ?_
        refine V.goto (tgt := 71) hC d_P_rings_130 (by decide) ?_
        exact V.msk [true, false, true, true, true, true, true, true] rfl h
    · replace h := h.2 c5
      refine V.goto (tgt := 127) hC d_P_rings_99 (by decide) ?_
      obtain ⟨v11, ev11⟩ : ∃ y : Int32, y = x7 + (1 : Int32) := ⟨_, rfl⟩
      replace h := h v11 ev11
      refine V.iinc (y := v11) (lo' := [some (.ref (w.1 0)), none, some (.int x2), some (.int x3), some (.int x4), some (.int x5), some (.int x6), some (.int v11)]) hC d_P_rings_127 rfl rfl (show v11 = _ + Int32.ofInt (1) from ev11) rfl ?_
      refine V.goto (tgt := 71) hC d_P_rings_130 (by decide) ?_
      exact V.msk [true, false, true, true, true, true, true, true] rfl h
set_option maxHeartbeats 4000000 in
set_option maxRecDepth 100000 in
theorem wj_P_rings_53 {w : Wd} {κ : Kx} {P : Int32 → Hp → Prop} (hC : Cx μC w 8 κ nC7 b_P_rings 4) (hR : RtI μC w 8 κ b_P_rings .int P) {I35 : Hp → Int32 → Int32 → Int32 → Int32 → Prop} (hI35 : ∀ σ x2 x3 x4 x5, I35 σ x2 x3 x4 x5 → V μC w 8 κ σ [some (.ref (w.1 0)), none, some (.int x2), some (.int x3), some (.int x4), some (.int x5), none, none] 35 []) : ∀ (σ : Hp) (x2 : Int32) (x3 : Int32) (x4 : Int32) (x5 : Int32) (x6 : Int32), j_P_rings_53  P I35 σ x2 x3 x4 x5 x6 → V μC w 8 κ σ [some (.ref (w.1 0)), none, some (.int x2), some (.int x3), some (.int x4), some (.int x5), some (.int x6), none] 53 [] := by
  intro σ x2 x3 x4 x5 x6 h
  refine h (fun σ x2 x3 x4 x5 x6 => V μC w 8 κ σ [some (.ref (w.1 0)), none, some (.int x2), some (.int x3), some (.int x4), some (.int x5), some (.int x6), none] 53 []) (fun σ x2 x3 x4 x5 x6 h => ?_)
  unfold b_P_rings_53_ at h
  refine V.iload hC d_P_rings_53 rfl ?_
  refine V.aload_n hC d_P_rings_55 rfl rfl ?_
  refine V.getR (j := 3) hC d_P_rings_56 rfl rfl uC7 rfl rfl qf_P_36 ?_
  refine V.getI (j := 6) hC d_P_rings_59 rfl rfl uC5 rfl rfl qf_P_196 ?_
  refine V.icmp_ge (tgt := 139) hC d_P_rings_62 (by decide) (fun c12 => ?_) (fun c12 => ?_)
  · replace h := h.1 c12
    obtain ⟨v13, ev13⟩ : ∃ y : Int32, y = x5 + (1 : Int32) := ⟨_, rfl⟩
    replace h := h v13 ev13
    refine V.iinc (y := v13) (lo' := [some (.ref (w.1 0)), none, some (.int x2), some (.int x3), some (.int x4), some (.int v13), some (.int x6), none]) hC d_P_rings_139 rfl rfl (show v13 = _ + Int32.ofInt (1) from ev13) rfl ?_
    refine V.goto (tgt := 35) hC d_P_rings_142 (by decide) ?_
    exact V.msk [true, false, true, true, true, true, false, false] rfl (hI35 σ x2 x3 x4 v13 h)
  · replace h := h.2 c12
    refine V.iload hC d_P_rings_65 rfl ?_
    refine V.iconst (v := 1) hC d_P_rings_67 (by decide) ?_
    refine V.iadd hC d_P_rings_68 ?_
    obtain ⟨v14, ev14⟩ : ∃ y : Int32, y = x6 + (1 : Int32) := ⟨_, rfl⟩
    replace h := h v14 ev14
    refine V.istore (y := v14) (lo' := [some (.ref (w.1 0)), none, some (.int x2), some (.int x3), some (.int x4), some (.int x5), some (.int x6), some (.int v14)]) hC d_P_rings_69 rfl ev14 rfl ?_
    exact V.msk [true, false, true, true, true, true, true, true] rfl (wj_P_rings_71  hC hR hI35 (fun _ _ _ _ _ _ h => h) σ x2 x3 x4 x5 x6 v14 h)
set_option maxHeartbeats 4000000 in
set_option maxRecDepth 100000 in
theorem wj_P_rings_35 {w : Wd} {κ : Kx} {P : Int32 → Hp → Prop} (hC : Cx μC w 8 κ nC7 b_P_rings 4) (hR : RtI μC w 8 κ b_P_rings .int P)  : ∀ (σ : Hp) (x2 : Int32) (x3 : Int32) (x4 : Int32) (x5 : Int32), j_P_rings_35  P  σ x2 x3 x4 x5 → V μC w 8 κ σ [some (.ref (w.1 0)), none, some (.int x2), some (.int x3), some (.int x4), some (.int x5), none, none] 35 [] := by
  intro σ x2 x3 x4 x5 h
  refine h (fun σ x2 x3 x4 x5 => V μC w 8 κ σ [some (.ref (w.1 0)), none, some (.int x2), some (.int x3), some (.int x4), some (.int x5), none, none] 35 []) (fun σ x2 x3 x4 x5 h => ?_)
  unfold b_P_rings_35_ at h
  refine V.iload hC d_P_rings_35 rfl ?_
  refine V.aload_n hC d_P_rings_37 rfl rfl ?_
  refine V.getR (j := 3) hC d_P_rings_38 rfl rfl uC7 rfl rfl qf_P_36 ?_
  refine V.getI (j := 6) hC d_P_rings_41 rfl rfl uC5 rfl rfl qf_P_196 ?_
  refine V.icmp_ge (tgt := 145) hC d_P_rings_44 (by decide) (fun c15 => ?_) (fun c15 => ?_)
  · replace h := h.1 c15
    refine V.iload_n hC d_P_rings_145 rfl rfl ?_
    refine V.if_ne (tgt := 153) hC d_P_rings_146 (by decide) (fun c16 => ?_) (fun c16 => ?_)
    · replace h := h.1 c16
      refine V.iload hC d_P_rings_153 rfl ?_
      exact hR _ _ _ _ h rfl d_P_rings_155
    · replace h := h.2 c16
      refine V.iload_n hC d_P_rings_149 rfl rfl ?_
      refine V.goto (tgt := 155) hC d_P_rings_150 (by decide) ?_
      exact hR _ _ _ _ h rfl d_P_rings_155
  · replace h := h.2 c15
    refine V.iload hC d_P_rings_47 rfl ?_
    refine V.iconst (v := 1) hC d_P_rings_49 (by decide) ?_
    refine V.iadd hC d_P_rings_50 ?_
    obtain ⟨v17, ev17⟩ : ∃ y : Int32, y = x5 + (1 : Int32) := ⟨_, rfl⟩
    replace h := h v17 ev17
    refine V.istore (y := v17) (lo' := [some (.ref (w.1 0)), none, some (.int x2), some (.int x3), some (.int x4), some (.int x5), some (.int v17), none]) hC d_P_rings_51 rfl ev17 rfl ?_
    exact V.msk [true, false, true, true, true, true, true, false] rfl (wj_P_rings_53  hC hR (fun _ _ _ _ _ h => h) σ x2 x3 x4 x5 v17 h)
set_option maxHeartbeats 4000000 in
set_option maxRecDepth 100000 in
theorem wj_P_rings_19 {w : Wd} {κ : Kx} {P : Int32 → Hp → Prop} (hC : Cx μC w 8 κ nC7 b_P_rings 4) (hR : RtI μC w 8 κ b_P_rings .int P)  : ∀ (σ : Hp) (x1 : Int32) (x2 : Int32), j_P_rings_19  P  σ x1 x2 → V μC w 8 κ σ [some (.ref (w.1 0)), some (.int x1), some (.int x2), none, none, none, none, none] 19 [] := by
  intro σ x1 x2 h
  unfold j_P_rings_19 at h
  refine V.aload_n hC d_P_rings_19 rfl rfl ?_
  refine V.getR (j := 2) hC d_P_rings_20 rfl rfl uC7 rfl rfl qf_P_28 ?_
  refine V.iload_n hC d_P_rings_23 rfl rfl ?_
  refine V.callVN hC exC (w_D_fillOwing w σ x1 _ h) d_P_rings_24 mo_D_fillOwing qm_P_205 rfl rfl rfl rfl rfl rfl rfl (Nat.le_of_ble_eq_true rfl) (fun t19 h => ?_)
  refine V.iconst (v := 0) hC d_P_rings_27 (by decide) ?_
  refine V.istore_n (y := (0 : Int32)) (lo' := [some (.ref (w.1 0)), some (.int x1), some (.int x2), some (.int (0 : Int32)), none, none, none, none]) hC d_P_rings_28 rfl rfl rfl rfl ?_
  refine V.iconst (v := -1) hC d_P_rings_29 (by decide) ?_
  refine V.istore (y := (-1 : Int32)) (lo' := [some (.ref (w.1 0)), some (.int x1), some (.int x2), some (.int (0 : Int32)), some (.int (-1 : Int32)), none, none, none]) hC d_P_rings_30 rfl rfl rfl ?_
  refine V.iconst (v := 0) hC d_P_rings_32 (by decide) ?_
  refine V.istore (y := (0 : Int32)) (lo' := [some (.ref (w.1 0)), some (.int x1), some (.int x2), some (.int (0 : Int32)), some (.int (-1 : Int32)), some (.int (0 : Int32)), none, none]) hC d_P_rings_33 rfl rfl rfl ?_
  exact V.msk [true, false, true, true, true, true, false, false] rfl (wj_P_rings_35  hC hR  t19 x2 (0 : Int32) (-1 : Int32) (0 : Int32) h)
set_option maxHeartbeats 4000000 in
set_option maxRecDepth 100000 in
theorem w_P_rings (w : Wd) (σ : Hp) (a1 : Int32) (a2 : Int32) (P : Int32 → Hp → Prop) (h : wp_P_rings σ a1 a2 P) : CtI μC w y_P_rings b_P_rings 8 (some .int) 4 [.ref (w.1 0), .int a1, .int a2] σ P := by
  unfold wp_P_rings at h
  refine CtI.ofV (C := nC7) (lo := [some (.ref (w.1 0)), some (.int a1), some (.int a2), none, none, none, none, none]) exC (by decide +kernel) rfl rfl rfl (fun κ hC hR => ?_)
  refine V.iload_n hC d_P_rings_0 rfl rfl ?_
  refine V.callSI hC exC (w_P_isDay w σ a1 _ h) d_P_rings_1 mo_P_isDay qm_P_126 rfl rfl rfl rfl (Nat.le_of_ble_eq_true rfl) (fun r20 t21 h => ?_)
  refine V.if_eq (tgt := 16) hC d_P_rings_4 (by decide) (fun c22 => ?_) (fun c22 => ?_)
  · replace h := h.1 c22
    refine V.bipush (v := -2) hC d_P_rings_16 (by decide) ?_
    exact hR _ _ _ _ h rfl d_P_rings_18
  · replace h := h.2 c22
    refine V.iload_n hC d_P_rings_7 rfl rfl ?_
    refine V.if_eq (tgt := 19) hC d_P_rings_8 (by decide) (fun c23 => ?_) (fun c23 => ?_)
    · replace h := h.1 c23
      exact V.msk [true, true, true, false, false, false, false, false] rfl (wj_P_rings_19  hC hR  t21 a1 a2 h)
    · replace h := h.2 c23
      refine V.iload_n hC d_P_rings_11 rfl rfl ?_
      refine V.iconst (v := 1) hC d_P_rings_12 (by decide) ?_
      refine V.icmp_eq (tgt := 19) hC d_P_rings_13 (by decide) (fun c24 => ?_) (fun c24 => ?_)
      · replace h := h.1 c24
        exact V.msk [true, true, true, false, false, false, false, false] rfl (wj_P_rings_19  hC hR  t21 a1 a2 h)
      · replace h := h.2 c24
        refine V.bipush (v := -2) hC d_P_rings_16 (by decide) ?_
        exact hR _ _ _ _ h rfl d_P_rings_18
abbrev b_P_build : ByteArray := prog_1_method_21_code
def y_P_build : MethodName := ⟨nC7, "build", "(III)I"⟩
theorem d_P_build_0 : decode b_P_build 0 = .ok (.iload_n 1, 1) := by decide +kernel
theorem d_P_build_1 : decode b_P_build 1 = .ok (.invokestatic 126, 3) := by decide +kernel
theorem d_P_build_4 : decode b_P_build 4 = .ok (.ifCond .eq 20, 3) := by decide +kernel
theorem d_P_build_7 : decode b_P_build 7 = .ok (.aload_n 0, 1) := by decide +kernel
theorem d_P_build_8 : decode b_P_build 8 = .ok (.iload_n 2, 1) := by decide +kernel
theorem d_P_build_9 : decode b_P_build 9 = .ok (.invokevirtual 97, 3) := by decide +kernel
theorem d_P_build_12 : decode b_P_build 12 = .ok (.ifCond .eq 12, 3) := by decide +kernel
theorem d_P_build_15 : decode b_P_build 15 = .ok (.iload_n 3, 1) := by decide +kernel
theorem d_P_build_16 : decode b_P_build 16 = .ok (.ifCond .lt 8, 3) := by decide +kernel
theorem d_P_build_19 : decode b_P_build 19 = .ok (.iload_n 3, 1) := by decide +kernel
theorem d_P_build_20 : decode b_P_build 20 = .ok (.iconst 2, 1) := by decide +kernel
theorem d_P_build_21 : decode b_P_build 21 = .ok (.if_icmp .le 6, 3) := by decide +kernel
theorem d_P_build_24 : decode b_P_build 24 = .ok (.ldc 183, 2) := by decide +kernel
theorem d_P_build_26 : decode b_P_build 26 = .ok (.ireturn, 1) := by decide +kernel
theorem d_P_build_27 : decode b_P_build 27 = .ok (.aload_n 0, 1) := by decide +kernel
theorem d_P_build_28 : decode b_P_build 28 = .ok (.getfield 41, 3) := by decide +kernel
theorem d_P_build_31 : decode b_P_build 31 = .ok (.invokevirtual 184, 3) := by decide +kernel
theorem d_P_build_34 : decode b_P_build 34 = .ok (.istore 4, 2) := by decide +kernel
theorem d_P_build_36 : decode b_P_build 36 = .ok (.iconst (-1), 1) := by decide +kernel
theorem d_P_build_37 : decode b_P_build 37 = .ok (.istore 5, 2) := by decide +kernel
theorem d_P_build_39 : decode b_P_build 39 = .ok (.iconst (-1), 1) := by decide +kernel
theorem d_P_build_40 : decode b_P_build 40 = .ok (.istore 6, 2) := by decide +kernel
theorem d_P_build_42 : decode b_P_build 42 = .ok (.ldc 212, 2) := by decide +kernel
theorem d_P_build_44 : decode b_P_build 44 = .ok (.istore 7, 2) := by decide +kernel
theorem d_P_build_46 : decode b_P_build 46 = .ok (.iconst 0, 1) := by decide +kernel
theorem d_P_build_47 : decode b_P_build 47 = .ok (.istore 8, 2) := by decide +kernel
theorem d_P_build_49 : decode b_P_build 49 = .ok (.iload 8, 2) := by decide +kernel
theorem d_P_build_51 : decode b_P_build 51 = .ok (.bipush 10, 2) := by decide +kernel
theorem d_P_build_53 : decode b_P_build 53 = .ok (.if_icmp .ge 116, 3) := by decide +kernel
theorem d_P_build_56 : decode b_P_build 56 = .ok (.iconst 0, 1) := by decide +kernel
theorem d_P_build_57 : decode b_P_build 57 = .ok (.istore 9, 2) := by decide +kernel
theorem d_P_build_59 : decode b_P_build 59 = .ok (.iload 9, 2) := by decide +kernel
theorem d_P_build_61 : decode b_P_build 61 = .ok (.iconst 1, 1) := by decide +kernel
theorem d_P_build_62 : decode b_P_build 62 = .ok (.iadd, 1) := by decide +kernel
theorem d_P_build_63 : decode b_P_build 63 = .ok (.aload_n 0, 1) := by decide +kernel
theorem d_P_build_64 : decode b_P_build 64 = .ok (.getfield 36, 3) := by decide +kernel
theorem d_P_build_67 : decode b_P_build 67 = .ok (.getfield 196, 3) := by decide +kernel
theorem d_P_build_70 : decode b_P_build 70 = .ok (.if_icmp .ge 93, 3) := by decide +kernel
theorem d_P_build_73 : decode b_P_build 73 = .ok (.aload_n 0, 1) := by decide +kernel
theorem d_P_build_74 : decode b_P_build 74 = .ok (.getfield 36, 3) := by decide +kernel
theorem d_P_build_77 : decode b_P_build 77 = .ok (.getfield 120, 3) := by decide +kernel
theorem d_P_build_80 : decode b_P_build 80 = .ok (.iload 9, 2) := by decide +kernel
theorem d_P_build_82 : decode b_P_build 82 = .ok (.iaload, 1) := by decide +kernel
theorem d_P_build_83 : decode b_P_build 83 = .ok (.istore 10, 2) := by decide +kernel
theorem d_P_build_85 : decode b_P_build 85 = .ok (.aload_n 0, 1) := by decide +kernel
theorem d_P_build_86 : decode b_P_build 86 = .ok (.getfield 36, 3) := by decide +kernel
theorem d_P_build_89 : decode b_P_build 89 = .ok (.getfield 120, 3) := by decide +kernel
theorem d_P_build_92 : decode b_P_build 92 = .ok (.iload 9, 2) := by decide +kernel
theorem d_P_build_94 : decode b_P_build 94 = .ok (.iload 8, 2) := by decide +kernel
theorem d_P_build_96 : decode b_P_build 96 = .ok (.iastore, 1) := by decide +kernel
theorem d_P_build_97 : decode b_P_build 97 = .ok (.aload_n 0, 1) := by decide +kernel
theorem d_P_build_98 : decode b_P_build 98 = .ok (.getfield 28, 3) := by decide +kernel
theorem d_P_build_101 : decode b_P_build 101 = .ok (.invokevirtual 123, 3) := by decide +kernel
theorem d_P_build_104 : decode b_P_build 104 = .ok (.aload_n 0, 1) := by decide +kernel
theorem d_P_build_105 : decode b_P_build 105 = .ok (.getfield 28, 3) := by decide +kernel
theorem d_P_build_108 : decode b_P_build 108 = .ok (.iload_n 1, 1) := by decide +kernel
theorem d_P_build_109 : decode b_P_build 109 = .ok (.iload_n 2, 1) := by decide +kernel
theorem d_P_build_110 : decode b_P_build 110 = .ok (.iload 4, 2) := by decide +kernel
theorem d_P_build_112 : decode b_P_build 112 = .ok (.invokevirtual 187, 3) := by decide +kernel
theorem d_P_build_115 : decode b_P_build 115 = .ok (.istore 11, 2) := by decide +kernel
theorem d_P_build_117 : decode b_P_build 117 = .ok (.aload_n 0, 1) := by decide +kernel
theorem d_P_build_118 : decode b_P_build 118 = .ok (.getfield 36, 3) := by decide +kernel
theorem d_P_build_121 : decode b_P_build 121 = .ok (.getfield 120, 3) := by decide +kernel
theorem d_P_build_124 : decode b_P_build 124 = .ok (.iload 9, 2) := by decide +kernel
theorem d_P_build_126 : decode b_P_build 126 = .ok (.iload 10, 2) := by decide +kernel
theorem d_P_build_128 : decode b_P_build 128 = .ok (.iastore, 1) := by decide +kernel
theorem d_P_build_129 : decode b_P_build 129 = .ok (.iload 5, 2) := by decide +kernel
theorem d_P_build_131 : decode b_P_build 131 = .ok (.iconst (-1), 1) := by decide +kernel
theorem d_P_build_132 : decode b_P_build 132 = .ok (.if_icmp .eq 13, 3) := by decide +kernel
theorem d_P_build_135 : decode b_P_build 135 = .ok (.iload 11, 2) := by decide +kernel
theorem d_P_build_137 : decode b_P_build 137 = .ok (.iload 7, 2) := by decide +kernel
theorem d_P_build_139 : decode b_P_build 139 = .ok (.if_icmp .gt 6, 3) := by decide +kernel
theorem d_P_build_142 : decode b_P_build 142 = .ok (.goto 15, 3) := by decide +kernel
theorem d_P_build_145 : decode b_P_build 145 = .ok (.iload 9, 2) := by decide +kernel
theorem d_P_build_147 : decode b_P_build 147 = .ok (.istore 5, 2) := by decide +kernel
theorem d_P_build_149 : decode b_P_build 149 = .ok (.iload 8, 2) := by decide +kernel
theorem d_P_build_151 : decode b_P_build 151 = .ok (.istore 6, 2) := by decide +kernel
theorem d_P_build_153 : decode b_P_build 153 = .ok (.iload 11, 2) := by decide +kernel
theorem d_P_build_155 : decode b_P_build 155 = .ok (.istore 7, 2) := by decide +kernel
theorem d_P_build_157 : decode b_P_build 157 = .ok (.iinc 9 1, 3) := by decide +kernel
theorem d_P_build_160 : decode b_P_build 160 = .ok (.goto (-101), 3) := by decide +kernel
theorem d_P_build_163 : decode b_P_build 163 = .ok (.iinc 8 1, 3) := by decide +kernel
theorem d_P_build_166 : decode b_P_build 166 = .ok (.goto (-117), 3) := by decide +kernel
theorem d_P_build_169 : decode b_P_build 169 = .ok (.aload_n 0, 1) := by decide +kernel
theorem d_P_build_170 : decode b_P_build 170 = .ok (.getfield 28, 3) := by decide +kernel
theorem d_P_build_173 : decode b_P_build 173 = .ok (.invokevirtual 123, 3) := by decide +kernel
theorem d_P_build_176 : decode b_P_build 176 = .ok (.iload_n 3, 1) := by decide +kernel
theorem d_P_build_177 : decode b_P_build 177 = .ok (.ifCond .ne 8, 3) := by decide +kernel
theorem d_P_build_180 : decode b_P_build 180 = .ok (.iload 5, 2) := by decide +kernel
theorem d_P_build_182 : decode b_P_build 182 = .ok (.goto 15, 3) := by decide +kernel
theorem d_P_build_185 : decode b_P_build 185 = .ok (.iload_n 3, 1) := by decide +kernel
theorem d_P_build_186 : decode b_P_build 186 = .ok (.iconst 1, 1) := by decide +kernel
theorem d_P_build_187 : decode b_P_build 187 = .ok (.if_icmp .ne 8, 3) := by decide +kernel
theorem d_P_build_190 : decode b_P_build 190 = .ok (.iload 6, 2) := by decide +kernel
theorem d_P_build_192 : decode b_P_build 192 = .ok (.goto 5, 3) := by decide +kernel
theorem d_P_build_195 : decode b_P_build 195 = .ok (.iload 7, 2) := by decide +kernel
theorem d_P_build_197 : decode b_P_build 197 = .ok (.ireturn, 1) := by decide +kernel
theorem qc_P_212 : Cond.constant nC7 212 (-100000) ∈ tbl := tbl_in 671 (by decide +kernel) rfl
theorem mo_P_build : MokV y_P_build b_P_build 12 (some .int) 3 := ⟨⟨(tbl_in 670 (by decide +kernel) rfl), (tbl_in 62 (by decide +kernel) rfl)⟩, ⟨(tbl_in 668 (by decide +kernel) rfl), tbl_lw _ (tbl_in 669 (by decide +kernel) rfl), (tbl_in 669 (by decide +kernel) rfl)⟩, ⟨by decide +kernel, by decide +kernel⟩, by decide +kernel⟩
def j_P_build_145 (P : Int32 → Hp → Prop) (I49 : Hp → Int32 → Int32 → Int32 → Int32 → Int32 → Int32 → Int32 → Int32 → Prop) (I59 : Hp → Int32 → Int32 → Int32 → Int32 → Int32 → Int32 → Int32 → Int32 → Int32 → Prop) (σ : Hp) (x1 : Int32) (x2 : Int32) (x3 : Int32) (x4 : Int32) (x8 : Int32) (x9 : Int32) (x11 : Int32) : Prop :=
  (∀ v1 : Int32, v1 = x9 + (1 : Int32) → I59 σ x1 x2 x3 x4 x9 x8 x11 x8 v1)
def b_P_build_59_ (P : Int32 → Hp → Prop) (I49 : Hp → Int32 → Int32 → Int32 → Int32 → Int32 → Int32 → Int32 → Int32 → Prop) (I59 : Hp → Int32 → Int32 → Int32 → Int32 → Int32 → Int32 → Int32 → Int32 → Int32 → Prop) (σ : Hp) (x1 : Int32) (x2 : Int32) (x3 : Int32) (x4 : Int32) (x5 : Int32) (x6 : Int32) (x7 : Int32) (x8 : Int32) (x9 : Int32) : Prop :=
  (((σ 4 6) ≤ (x9 + (1 : Int32)) → (∀ v3 : Int32, v3 = x8 + (1 : Int32) → I49 σ x1 x2 x3 x4 x5 x6 x7 v3)) ∧ (¬ (σ 4 6) ≤ (x9 + (1 : Int32)) → (vp_in x9 7) ∧ (∀ v5 : Int32, v5 = σ 26 (ix x9) → (vp_in x9 7) ∧ wp_D_priceSuits (st σ 26 (ix x9) x8) (fun (t8 : Hp) => wp_D_balanceOf t8 x1 x2 x4 (fun (r9 : Int32) (t10 : Hp) => (vp_in x9 7) ∧ ((x5 = (-1 : Int32) → j_P_build_145 P I49 I59 (st t10 26 (ix x9) v5) x1 x2 x3 x4 x8 x9 r9) ∧ (¬ x5 = (-1 : Int32) → ((x7 < r9 → j_P_build_145 P I49 I59 (st t10 26 (ix x9) v5) x1 x2 x3 x4 x8 x9 r9) ∧ (¬ x7 < r9 → (∀ v14 : Int32, v14 = x9 + (1 : Int32) → I59 (st t10 26 (ix x9) v5) x1 x2 x3 x4 x5 x6 x7 x8 v14))))))))))
def j_P_build_59 (P : Int32 → Hp → Prop) (I49 : Hp → Int32 → Int32 → Int32 → Int32 → Int32 → Int32 → Int32 → Int32 → Prop) (σ : Hp) (x1 : Int32) (x2 : Int32) (x3 : Int32) (x4 : Int32) (x5 : Int32) (x6 : Int32) (x7 : Int32) (x8 : Int32) (x9 : Int32) : Prop := ∀ I59 : Hp → Int32 → Int32 → Int32 → Int32 → Int32 → Int32 → Int32 → Int32 → Int32 → Prop, (∀ (σ : Hp) (x1 : Int32) (x2 : Int32) (x3 : Int32) (x4 : Int32) (x5 : Int32) (x6 : Int32) (x7 : Int32) (x8 : Int32) (x9 : Int32), b_P_build_59_  P I49 I59 σ x1 x2 x3 x4 x5 x6 x7 x8 x9 → I59 σ x1 x2 x3 x4 x5 x6 x7 x8 x9) → I59 σ x1 x2 x3 x4 x5 x6 x7 x8 x9
def b_P_build_49_ (P : Int32 → Hp → Prop)  (I49 : Hp → Int32 → Int32 → Int32 → Int32 → Int32 → Int32 → Int32 → Int32 → Prop) (σ : Hp) (x1 : Int32) (x2 : Int32) (x3 : Int32) (x4 : Int32) (x5 : Int32) (x6 : Int32) (x7 : Int32) (x8 : Int32) : Prop :=
  (((10 : Int32) ≤ x8 → wp_D_priceSuits σ (fun (t17 : Hp) => ((¬ x3 = 0 → ((¬ x3 = (1 : Int32) → P x7 t17) ∧ (x3 = (1 : Int32) → P x6 t17))) ∧ (x3 = 0 → P x5 t17)))) ∧ (¬ (10 : Int32) ≤ x8 → j_P_build_59 P I49 σ x1 x2 x3 x4 x5 x6 x7 x8 (0 : Int32)))
def j_P_build_49 (P : Int32 → Hp → Prop)  (σ : Hp) (x1 : Int32) (x2 : Int32) (x3 : Int32) (x4 : Int32) (x5 : Int32) (x6 : Int32) (x7 : Int32) (x8 : Int32) : Prop := ∀ I49 : Hp → Int32 → Int32 → Int32 → Int32 → Int32 → Int32 → Int32 → Int32 → Prop, (∀ (σ : Hp) (x1 : Int32) (x2 : Int32) (x3 : Int32) (x4 : Int32) (x5 : Int32) (x6 : Int32) (x7 : Int32) (x8 : Int32), b_P_build_49_  P  I49 σ x1 x2 x3 x4 x5 x6 x7 x8 → I49 σ x1 x2 x3 x4 x5 x6 x7 x8) → I49 σ x1 x2 x3 x4 x5 x6 x7 x8
def wp_P_build (σ : Hp) (a1 : Int32) (a2 : Int32) (a3 : Int32) (P : Int32 → Hp → Prop) : Prop :=
  wp_P_isDay σ a1 (fun (r20 : Int32) (t21 : Hp) => ((r20 = 0 → P (-100002 : Int32) t21) ∧ (¬ r20 = 0 → wp_P_isHouse t21 a2 (fun (r23 : Int32) (t24 : Hp) => ((r23 = 0 → P (-100002 : Int32) t24) ∧ (¬ r23 = 0 → ((a3 < 0 → P (-100002 : Int32) t24) ∧ (¬ a3 < 0 → ((a3 ≤ (2 : Int32) → wp_K_leadingOfAll t24 (fun (r28 : Int32) (t29 : Hp) => j_P_build_49 P t29 a1 a2 a3 r28 (-1 : Int32) (-1 : Int32) (-100000 : Int32) (0 : Int32))) ∧ (¬ a3 ≤ (2 : Int32) → P (-100002 : Int32) t24))))))))))
set_option maxHeartbeats 4000000 in
set_option maxRecDepth 100000 in
theorem wj_P_build_145 {w : Wd} {κ : Kx} {P : Int32 → Hp → Prop} (hC : Cx μC w 12 κ nC7 b_P_build 4) (hR : RtI μC w 12 κ b_P_build .int P) {I49 : Hp → Int32 → Int32 → Int32 → Int32 → Int32 → Int32 → Int32 → Int32 → Prop} (hI49 : ∀ σ x1 x2 x3 x4 x5 x6 x7 x8, I49 σ x1 x2 x3 x4 x5 x6 x7 x8 → V μC w 12 κ σ [some (.ref (w.1 0)), some (.int x1), some (.int x2), some (.int x3), some (.int x4), some (.int x5), some (.int x6), some (.int x7), some (.int x8), none, none, none] 49 []) {I59 : Hp → Int32 → Int32 → Int32 → Int32 → Int32 → Int32 → Int32 → Int32 → Int32 → Prop} (hI59 : ∀ σ x1 x2 x3 x4 x5 x6 x7 x8 x9, I59 σ x1 x2 x3 x4 x5 x6 x7 x8 x9 → V μC w 12 κ σ [some (.ref (w.1 0)), some (.int x1), some (.int x2), some (.int x3), some (.int x4), some (.int x5), some (.int x6), some (.int x7), some (.int x8), some (.int x9), none, none] 59 []) : ∀ (σ : Hp) (x1 : Int32) (x2 : Int32) (x3 : Int32) (x4 : Int32) (x8 : Int32) (x9 : Int32) (x11 : Int32), j_P_build_145  P I49 I59 σ x1 x2 x3 x4 x8 x9 x11 → V μC w 12 κ σ [some (.ref (w.1 0)), some (.int x1), some (.int x2), some (.int x3), some (.int x4), none, none, none, some (.int x8), some (.int x9), none, some (.int x11)] 145 [] := by
  intro σ x1 x2 x3 x4 x8 x9 x11 h
  unfold j_P_build_145 at h
  refine V.iload hC d_P_build_145 rfl ?_
  refine V.istore (y := x9) (lo' := [some (.ref (w.1 0)), some (.int x1), some (.int x2), some (.int x3), some (.int x4), some (.int x9), none, none, some (.int x8), some (.int x9), none, some (.int x11)]) hC d_P_build_147 rfl rfl rfl ?_
  refine V.iload hC d_P_build_149 rfl ?_
  refine V.istore (y := x8) (lo' := [some (.ref (w.1 0)), some (.int x1), some (.int x2), some (.int x3), some (.int x4), some (.int x9), some (.int x8), none, some (.int x8), some (.int x9), none, some (.int x11)]) hC d_P_build_151 rfl rfl rfl ?_
  refine V.iload hC d_P_build_153 rfl ?_
  refine V.istore (y := x11) (lo' := [some (.ref (w.1 0)), some (.int x1), some (.int x2), some (.int x3), some (.int x4), some (.int x9), some (.int x8), some (.int x11), some (.int x8), some (.int x9), none, some (.int x11)]) hC d_P_build_155 rfl rfl rfl ?_
  obtain ⟨v1, ev1⟩ : ∃ y : Int32, y = x9 + (1 : Int32) := ⟨_, rfl⟩
  replace h := h v1 ev1
  refine V.iinc (y := v1) (lo' := [some (.ref (w.1 0)), some (.int x1), some (.int x2), some (.int x3), some (.int x4), some (.int x9), some (.int x8), some (.int x11), some (.int x8), some (.int v1), none, some (.int x11)]) hC d_P_build_157 rfl rfl (show v1 = _ + Int32.ofInt (1) from ev1) rfl ?_
  refine V.goto (tgt := 59) hC d_P_build_160 (by decide) ?_
  exact V.msk [true, true, true, true, true, true, true, true, true, true, false, false] rfl (hI59 σ x1 x2 x3 x4 x9 x8 x11 x8 v1 h)
set_option maxHeartbeats 4000000 in
set_option maxRecDepth 100000 in
theorem wj_P_build_59 {w : Wd} {κ : Kx} {P : Int32 → Hp → Prop} (hC : Cx μC w 12 κ nC7 b_P_build 4) (hR : RtI μC w 12 κ b_P_build .int P) {I49 : Hp → Int32 → Int32 → Int32 → Int32 → Int32 → Int32 → Int32 → Int32 → Prop} (hI49 : ∀ σ x1 x2 x3 x4 x5 x6 x7 x8, I49 σ x1 x2 x3 x4 x5 x6 x7 x8 → V μC w 12 κ σ [some (.ref (w.1 0)), some (.int x1), some (.int x2), some (.int x3), some (.int x4), some (.int x5), some (.int x6), some (.int x7), some (.int x8), none, none, none] 49 []) : ∀ (σ : Hp) (x1 : Int32) (x2 : Int32) (x3 : Int32) (x4 : Int32) (x5 : Int32) (x6 : Int32) (x7 : Int32) (x8 : Int32) (x9 : Int32), j_P_build_59  P I49 σ x1 x2 x3 x4 x5 x6 x7 x8 x9 → V μC w 12 κ σ [some (.ref (w.1 0)), some (.int x1), some (.int x2), some (.int x3), some (.int x4), some (.int x5), some (.int x6), some (.int x7), some (.int x8), some (.int x9), none, none] 59 [] := by
  intro σ x1 x2 x3 x4 x5 x6 x7 x8 x9 h
  refine h (fun σ x1 x2 x3 x4 x5 x6 x7 x8 x9 => V μC w 12 κ σ [some (.ref (w.1 0)), some (.int x1), some (.int x2), some (.int x3), some (.int x4), some (.int x5), some (.int x6), some (.int x7), some (.int x8), some (.int x9), none, none] 59 []) (fun σ x1 x2 x3 x4 x5 x6 x7 x8 x9 h => ?_)
  unfold b_P_build_59_ at h
  refine V.iload hC d_P_build_59 rfl ?_
  refine V.iconst (v := 1) hC d_P_build_61 (by decide) ?_
  refine V.iadd hC d_P_build_62 ?_
  refine V.aload_n hC d_P_build_63 rfl rfl ?_
  refine V.getR (j := 3) hC d_P_build_64 rfl rfl uC7 rfl rfl qf_P_36 ?_
  refine V.getI (j := 6) hC d_P_build_67 rfl rfl uC5 rfl rfl qf_P_196 ?_
  refine V.icmp_ge (tgt := 163) hC d_P_build_70 (by decide) (fun c2 => ?_) (fun c2 => ?_)
  · replace h := h.1 c2
    obtain ⟨v3, ev3⟩ : ∃ y : Int32, y = x8 + (1 : Int32) := ⟨_, rfl⟩
    replace h := h v3 ev3
    refine V.iinc (y := v3) (lo' := [some (.ref (w.1 0)), some (.int x1), some (.int x2), some (.int x3), some (.int x4), some (.int x5), some (.int x6), some (.int x7), some (.int v3), some (.int x9), none, none]) hC d_P_build_163 rfl rfl (show v3 = _ + Int32.ofInt (1) from ev3) rfl ?_
    refine V.goto (tgt := 49) hC d_P_build_166 (by decide) ?_
    exact V.msk [true, true, true, true, true, true, true, true, true, false, false, false] rfl (hI49 σ x1 x2 x3 x4 x5 x6 x7 v3 h)
  · replace h := h.2 c2
    refine V.aload_n hC d_P_build_73 rfl rfl ?_
    refine V.getR (j := 3) hC d_P_build_74 rfl rfl uC7 rfl rfl qf_P_36 ?_
    refine V.getR (j := 5) hC d_P_build_77 rfl rfl uC5 rfl rfl qf_P_120 ?_
    refine V.iload hC d_P_build_80 rfl ?_
    obtain ⟨b4, h⟩ := h
    refine V.iald hC d_P_build_82 rfl b4 ?_
    obtain ⟨v5, ev5⟩ : ∃ y : Int32, y = σ 26 (ix x9) := ⟨_, rfl⟩
    replace h := h v5 ev5
    refine V.istore (y := v5) (lo' := [some (.ref (w.1 0)), some (.int x1), some (.int x2), some (.int x3), some (.int x4), some (.int x5), some (.int x6), some (.int x7), some (.int x8), some (.int x9), some (.int v5), none]) hC d_P_build_83 rfl ev5 rfl ?_
    refine V.aload_n hC d_P_build_85 rfl rfl ?_
    refine V.getR (j := 3) hC d_P_build_86 rfl rfl uC7 rfl rfl qf_P_36 ?_
    refine V.getR (j := 5) hC d_P_build_89 rfl rfl uC5 rfl rfl qf_P_120 ?_
    refine V.iload hC d_P_build_92 rfl ?_
    refine V.iload hC d_P_build_94 rfl ?_
    obtain ⟨b6, h⟩ := h
    refine V.iast hC d_P_build_96 rfl b6 ?_
    refine V.aload_n hC d_P_build_97 rfl rfl ?_
    refine V.getR (j := 2) hC d_P_build_98 rfl rfl uC7 rfl rfl qf_P_28 ?_
    refine V.callVN hC exC (w_D_priceSuits w (st σ 26 (ix x9) x8)  _ h) d_P_build_101 mo_D_priceSuits qm_P_123 rfl rfl rfl rfl rfl rfl rfl (Nat.le_of_ble_eq_true rfl) (fun t8 h => ?_)
    refine V.aload_n hC d_P_build_104 rfl rfl ?_
    refine V.getR (j := 2) hC d_P_build_105 rfl rfl uC7 rfl rfl qf_P_28 ?_
    refine V.iload_n hC d_P_build_108 rfl rfl ?_
    refine V.iload_n hC d_P_build_109 rfl rfl ?_
    refine V.iload hC d_P_build_110 rfl ?_
    refine V.callVI hC exC (w_D_balanceOf w t8 x1 x2 x4 _ h) d_P_build_112 mo_D_balanceOf qm_P_187 rfl rfl rfl rfl rfl rfl rfl (Nat.le_of_ble_eq_true rfl) (fun r9 t10 h => ?_)
    refine V.istore (y := r9) (lo' := [some (.ref (w.1 0)), some (.int x1), some (.int x2), some (.int x3), some (.int x4), some (.int x5), some (.int x6), some (.int x7), some (.int x8), some (.int x9), some (.int v5), some (.int r9)]) hC d_P_build_115 rfl rfl rfl ?_
    refine V.aload_n hC d_P_build_117 rfl rfl ?_
    refine V.getR (j := 3) hC d_P_build_118 rfl rfl uC7 rfl rfl qf_P_36 ?_
    refine V.getR (j := 5) hC d_P_build_121 rfl rfl uC5 rfl rfl qf_P_120 ?_
    refine V.iload hC d_P_build_124 rfl ?_
    refine V.iload hC d_P_build_126 rfl ?_
    obtain ⟨b11, h⟩ := h
    refine V.iast hC d_P_build_128 rfl b11 ?_
    refine V.iload hC d_P_build_129 rfl ?_
    refine V.iconst (v := -1) hC d_P_build_131 (by decide) ?_
    refine V.icmp_eq (tgt := 145) hC d_P_build_132 (by decide) (fun c12 => ?_) (fun c12 => ?_)
    · replace h := h.1 c12
      exact V.msk [true, true, true, true, true, false, false, false, true, true, false, true] rfl (wj_P_build_145  hC hR hI49 (fun _ _ _ _ _ _ _ _ _ _ h => h) (st t10 26 (ix x9) v5) x1 x2 x3 x4 x8 x9 r9 h)
    · replace h := h.2 c12
      refine V.iload hC d_P_build_135 rfl ?_
      refine V.iload hC d_P_build_137 rfl ?_
      refine V.icmp_gt (tgt := 145) hC d_P_build_139 (by decide) (fun c13 => ?_) (fun c13 => ?_)
      · replace h := h.1 c13
        exact V.msk [true, true, true, true, true, false, false, false, true, true, false, true] rfl (wj_P_build_145  hC hR hI49 (fun _ _ _ _ _ _ _ _ _ _ h => h) (st t10 26 (ix x9) v5) x1 x2 x3 x4 x8 x9 r9 h)
      · replace h := h.2 c13
        refine V.goto (tgt := 157) hC d_P_build_142 (by decide) ?_
        obtain ⟨v14, ev14⟩ : ∃ y : Int32, y = x9 + (1 : Int32) := ⟨_, rfl⟩
        replace h := h v14 ev14
        refine V.iinc (y := v14) (lo' := [some (.ref (w.1 0)), some (.int x1), some (.int x2), some (.int x3), some (.int x4), some (.int x5), some (.int x6), some (.int x7), some (.int x8), some (.int v14), some (.int v5), some (.int r9)]) hC d_P_build_157 rfl rfl (show v14 = _ + Int32.ofInt (1) from ev14) rfl ?_
        refine V.goto (tgt := 59) hC d_P_build_160 (by decide) ?_
        exact V.msk [true, true, true, true, true, true, true, true, true, true, false, false] rfl h
set_option maxHeartbeats 4000000 in
set_option maxRecDepth 100000 in
theorem wj_P_build_49 {w : Wd} {κ : Kx} {P : Int32 → Hp → Prop} (hC : Cx μC w 12 κ nC7 b_P_build 4) (hR : RtI μC w 12 κ b_P_build .int P)  : ∀ (σ : Hp) (x1 : Int32) (x2 : Int32) (x3 : Int32) (x4 : Int32) (x5 : Int32) (x6 : Int32) (x7 : Int32) (x8 : Int32), j_P_build_49  P  σ x1 x2 x3 x4 x5 x6 x7 x8 → V μC w 12 κ σ [some (.ref (w.1 0)), some (.int x1), some (.int x2), some (.int x3), some (.int x4), some (.int x5), some (.int x6), some (.int x7), some (.int x8), none, none, none] 49 [] := by
  intro σ x1 x2 x3 x4 x5 x6 x7 x8 h
  refine h (fun σ x1 x2 x3 x4 x5 x6 x7 x8 => V μC w 12 κ σ [some (.ref (w.1 0)), some (.int x1), some (.int x2), some (.int x3), some (.int x4), some (.int x5), some (.int x6), some (.int x7), some (.int x8), none, none, none] 49 []) (fun σ x1 x2 x3 x4 x5 x6 x7 x8 h => ?_)
  unfold b_P_build_49_ at h
  refine V.iload hC d_P_build_49 rfl ?_
  refine V.bipush (v := 10) hC d_P_build_51 (by decide) ?_
  refine V.icmp_ge (tgt := 169) hC d_P_build_53 (by decide) (fun c15 => ?_) (fun c15 => ?_)
  · replace h := h.1 c15
    refine V.aload_n hC d_P_build_169 rfl rfl ?_
    refine V.getR (j := 2) hC d_P_build_170 rfl rfl uC7 rfl rfl qf_P_28 ?_
    refine V.callVN hC exC (w_D_priceSuits w σ  _ h) d_P_build_173 mo_D_priceSuits qm_P_123 rfl rfl rfl rfl rfl rfl rfl (Nat.le_of_ble_eq_true rfl) (fun t17 h => ?_)
    refine V.iload_n hC d_P_build_176 rfl rfl ?_
    refine V.if_ne (tgt := 185) hC d_P_build_177 (by decide) (fun c18 => ?_) (fun c18 => ?_)
    · replace h := h.1 c18
      refine V.iload_n hC d_P_build_185 rfl rfl ?_
      refine V.iconst (v := 1) hC d_P_build_186 (by decide) ?_
      refine V.icmp_ne (tgt := 195) hC d_P_build_187 (by decide) (fun c19 => ?_) (fun c19 => ?_)
      · replace h := h.1 c19
        refine V.iload hC d_P_build_195 rfl ?_
        exact hR _ _ _ _ h rfl d_P_build_197
      · replace h := h.2 c19
        refine V.iload hC d_P_build_190 rfl ?_
        refine V.goto (tgt := 197) hC d_P_build_192 (by decide) ?_
        exact hR _ _ _ _ h rfl d_P_build_197
    · replace h := h.2 c18
      refine V.iload hC d_P_build_180 rfl ?_
      refine V.goto (tgt := 197) hC d_P_build_182 (by decide) ?_
      exact hR _ _ _ _ h rfl d_P_build_197
  · replace h := h.2 c15
    refine V.iconst (v := 0) hC d_P_build_56 (by decide) ?_
    refine V.istore (y := (0 : Int32)) (lo' := [some (.ref (w.1 0)), some (.int x1), some (.int x2), some (.int x3), some (.int x4), some (.int x5), some (.int x6), some (.int x7), some (.int x8), some (.int (0 : Int32)), none, none]) hC d_P_build_57 rfl rfl rfl ?_
    exact V.msk [true, true, true, true, true, true, true, true, true, true, false, false] rfl (wj_P_build_59  hC hR (fun _ _ _ _ _ _ _ _ _ h => h) σ x1 x2 x3 x4 x5 x6 x7 x8 (0 : Int32) h)
set_option maxHeartbeats 4000000 in
set_option maxRecDepth 100000 in
theorem w_P_build (w : Wd) (σ : Hp) (a1 : Int32) (a2 : Int32) (a3 : Int32) (P : Int32 → Hp → Prop) (h : wp_P_build σ a1 a2 a3 P) : CtI μC w y_P_build b_P_build 12 (some .int) 4 [.ref (w.1 0), .int a1, .int a2, .int a3] σ P := by
  unfold wp_P_build at h
  refine CtI.ofV (C := nC7) (lo := [some (.ref (w.1 0)), some (.int a1), some (.int a2), some (.int a3), none, none, none, none, none, none, none, none]) exC (by decide +kernel) rfl rfl rfl (fun κ hC hR => ?_)
  refine V.iload_n hC d_P_build_0 rfl rfl ?_
  refine V.callSI hC exC (w_P_isDay w σ a1 _ h) d_P_build_1 mo_P_isDay qm_P_126 rfl rfl rfl rfl (Nat.le_of_ble_eq_true rfl) (fun r20 t21 h => ?_)
  refine V.if_eq (tgt := 24) hC d_P_build_4 (by decide) (fun c22 => ?_) (fun c22 => ?_)
  · replace h := h.1 c22
    refine V.ldc (v := -100002) hC d_P_build_24 qc_P_183 ?_
    exact hR _ _ _ _ h rfl d_P_build_26
  · replace h := h.2 c22
    refine V.aload_n hC d_P_build_7 rfl rfl ?_
    refine V.iload_n hC d_P_build_8 rfl rfl ?_
    refine V.callVI hC exC (w_P_isHouse w t21 a2 _ h) d_P_build_9 mo_P_isHouse qm_P_97 rfl rfl rfl rfl rfl rfl rfl (Nat.le_of_ble_eq_true rfl) (fun r23 t24 h => ?_)
    refine V.if_eq (tgt := 24) hC d_P_build_12 (by decide) (fun c25 => ?_) (fun c25 => ?_)
    · replace h := h.1 c25
      refine V.ldc (v := -100002) hC d_P_build_24 qc_P_183 ?_
      exact hR _ _ _ _ h rfl d_P_build_26
    · replace h := h.2 c25
      refine V.iload_n hC d_P_build_15 rfl rfl ?_
      refine V.if_lt (tgt := 24) hC d_P_build_16 (by decide) (fun c26 => ?_) (fun c26 => ?_)
      · replace h := h.1 c26
        refine V.ldc (v := -100002) hC d_P_build_24 qc_P_183 ?_
        exact hR _ _ _ _ h rfl d_P_build_26
      · replace h := h.2 c26
        refine V.iload_n hC d_P_build_19 rfl rfl ?_
        refine V.iconst (v := 2) hC d_P_build_20 (by decide) ?_
        refine V.icmp_le (tgt := 27) hC d_P_build_21 (by decide) (fun c27 => ?_) (fun c27 => ?_)
        · replace h := h.1 c27
          refine V.aload_n hC d_P_build_27 rfl rfl ?_
          refine V.getR (j := 4) hC d_P_build_28 rfl rfl uC7 rfl rfl qf_P_41 ?_
          refine V.callVI hC exC (w_K_leadingOfAll w t24  _ h) d_P_build_31 mo_K_leadingOfAll qm_P_184 rfl rfl rfl rfl rfl rfl rfl (Nat.le_of_ble_eq_true rfl) (fun r28 t29 h => ?_)
          refine V.istore (y := r28) (lo' := [some (.ref (w.1 0)), some (.int a1), some (.int a2), some (.int a3), some (.int r28), none, none, none, none, none, none, none]) hC d_P_build_34 rfl rfl rfl ?_
          refine V.iconst (v := -1) hC d_P_build_36 (by decide) ?_
          refine V.istore (y := (-1 : Int32)) (lo' := [some (.ref (w.1 0)), some (.int a1), some (.int a2), some (.int a3), some (.int r28), some (.int (-1 : Int32)), none, none, none, none, none, none]) hC d_P_build_37 rfl rfl rfl ?_
          refine V.iconst (v := -1) hC d_P_build_39 (by decide) ?_
          refine V.istore (y := (-1 : Int32)) (lo' := [some (.ref (w.1 0)), some (.int a1), some (.int a2), some (.int a3), some (.int r28), some (.int (-1 : Int32)), some (.int (-1 : Int32)), none, none, none, none, none]) hC d_P_build_40 rfl rfl rfl ?_
          refine V.ldc (v := -100000) hC d_P_build_42 qc_P_212 ?_
          refine V.istore (y := (-100000 : Int32)) (lo' := [some (.ref (w.1 0)), some (.int a1), some (.int a2), some (.int a3), some (.int r28), some (.int (-1 : Int32)), some (.int (-1 : Int32)), some (.int (-100000 : Int32)), none, none, none, none]) hC d_P_build_44 rfl rfl rfl ?_
          refine V.iconst (v := 0) hC d_P_build_46 (by decide) ?_
          refine V.istore (y := (0 : Int32)) (lo' := [some (.ref (w.1 0)), some (.int a1), some (.int a2), some (.int a3), some (.int r28), some (.int (-1 : Int32)), some (.int (-1 : Int32)), some (.int (-100000 : Int32)), some (.int (0 : Int32)), none, none, none]) hC d_P_build_47 rfl rfl rfl ?_
          exact V.msk [true, true, true, true, true, true, true, true, true, false, false, false] rfl (wj_P_build_49  hC hR  t29 a1 a2 a3 r28 (-1 : Int32) (-1 : Int32) (-100000 : Int32) (0 : Int32) h)
        · replace h := h.2 c27
          refine V.ldc (v := -100002) hC d_P_build_24 qc_P_183 ?_
          exact hR _ _ _ _ h rfl d_P_build_26
abbrev b_P_fair : ByteArray := prog_1_method_22_code
def y_P_fair : MethodName := ⟨nC7, "fair", "(III)I"⟩
theorem d_P_fair_0 : decode b_P_fair 0 = .ok (.iload_n 1, 1) := by decide +kernel
theorem d_P_fair_1 : decode b_P_fair 1 = .ok (.invokestatic 126, 3) := by decide +kernel
theorem d_P_fair_4 : decode b_P_fair 4 = .ok (.ifCond .eq 19, 3) := by decide +kernel
theorem d_P_fair_7 : decode b_P_fair 7 = .ok (.iload_n 2, 1) := by decide +kernel
theorem d_P_fair_8 : decode b_P_fair 8 = .ok (.invokestatic 114, 3) := by decide +kernel
theorem d_P_fair_11 : decode b_P_fair 11 = .ok (.ifCond .eq 12, 3) := by decide +kernel
theorem d_P_fair_14 : decode b_P_fair 14 = .ok (.iload_n 3, 1) := by decide +kernel
theorem d_P_fair_15 : decode b_P_fair 15 = .ok (.ifCond .eq 11, 3) := by decide +kernel
theorem d_P_fair_18 : decode b_P_fair 18 = .ok (.iload_n 3, 1) := by decide +kernel
theorem d_P_fair_19 : decode b_P_fair 19 = .ok (.iconst 1, 1) := by decide +kernel
theorem d_P_fair_20 : decode b_P_fair 20 = .ok (.if_icmp .eq 6, 3) := by decide +kernel
theorem d_P_fair_23 : decode b_P_fair 23 = .ok (.bipush (-2), 2) := by decide +kernel
theorem d_P_fair_25 : decode b_P_fair 25 = .ok (.ireturn, 1) := by decide +kernel
theorem d_P_fair_26 : decode b_P_fair 26 = .ok (.aload_n 0, 1) := by decide +kernel
theorem d_P_fair_27 : decode b_P_fair 27 = .ok (.getfield 36, 3) := by decide +kernel
theorem d_P_fair_30 : decode b_P_fair 30 = .ok (.getfield 117, 3) := by decide +kernel
theorem d_P_fair_33 : decode b_P_fair 33 = .ok (.iload_n 2, 1) := by decide +kernel
theorem d_P_fair_34 : decode b_P_fair 34 = .ok (.iaload, 1) := by decide +kernel
theorem d_P_fair_35 : decode b_P_fair 35 = .ok (.istore 4, 2) := by decide +kernel
theorem d_P_fair_37 : decode b_P_fair 37 = .ok (.iconst (-1), 1) := by decide +kernel
theorem d_P_fair_38 : decode b_P_fair 38 = .ok (.istore 5, 2) := by decide +kernel
theorem d_P_fair_40 : decode b_P_fair 40 = .ok (.iconst (-1), 1) := by decide +kernel
theorem d_P_fair_41 : decode b_P_fair 41 = .ok (.istore 6, 2) := by decide +kernel
theorem d_P_fair_43 : decode b_P_fair 43 = .ok (.iconst 0, 1) := by decide +kernel
theorem d_P_fair_44 : decode b_P_fair 44 = .ok (.istore 7, 2) := by decide +kernel
theorem d_P_fair_46 : decode b_P_fair 46 = .ok (.iload 7, 2) := by decide +kernel
theorem d_P_fair_48 : decode b_P_fair 48 = .ok (.bipush 10, 2) := by decide +kernel
theorem d_P_fair_50 : decode b_P_fair 50 = .ok (.if_icmp .ge 66, 3) := by decide +kernel
theorem d_P_fair_53 : decode b_P_fair 53 = .ok (.aload_n 0, 1) := by decide +kernel
theorem d_P_fair_54 : decode b_P_fair 54 = .ok (.getfield 36, 3) := by decide +kernel
theorem d_P_fair_57 : decode b_P_fair 57 = .ok (.getfield 117, 3) := by decide +kernel
theorem d_P_fair_60 : decode b_P_fair 60 = .ok (.iload_n 2, 1) := by decide +kernel
theorem d_P_fair_61 : decode b_P_fair 61 = .ok (.iload 7, 2) := by decide +kernel
theorem d_P_fair_63 : decode b_P_fair 63 = .ok (.iastore, 1) := by decide +kernel
theorem d_P_fair_64 : decode b_P_fair 64 = .ok (.aload_n 0, 1) := by decide +kernel
theorem d_P_fair_65 : decode b_P_fair 65 = .ok (.getfield 28, 3) := by decide +kernel
theorem d_P_fair_68 : decode b_P_fair 68 = .ok (.invokevirtual 123, 3) := by decide +kernel
theorem d_P_fair_71 : decode b_P_fair 71 = .ok (.aload_n 0, 1) := by decide +kernel
theorem d_P_fair_72 : decode b_P_fair 72 = .ok (.getfield 28, 3) := by decide +kernel
theorem d_P_fair_75 : decode b_P_fair 75 = .ok (.iload_n 1, 1) := by decide +kernel
theorem d_P_fair_76 : decode b_P_fair 76 = .ok (.invokevirtual 190, 3) := by decide +kernel
theorem d_P_fair_79 : decode b_P_fair 79 = .ok (.istore 8, 2) := by decide +kernel
theorem d_P_fair_81 : decode b_P_fair 81 = .ok (.iload 8, 2) := by decide +kernel
theorem d_P_fair_83 : decode b_P_fair 83 = .ok (.ifCond .eq 27, 3) := by decide +kernel
theorem d_P_fair_86 : decode b_P_fair 86 = .ok (.iload 5, 2) := by decide +kernel
theorem d_P_fair_88 : decode b_P_fair 88 = .ok (.iconst (-1), 1) := by decide +kernel
theorem d_P_fair_89 : decode b_P_fair 89 = .ok (.if_icmp .eq 13, 3) := by decide +kernel
theorem d_P_fair_92 : decode b_P_fair 92 = .ok (.iload 8, 2) := by decide +kernel
theorem d_P_fair_94 : decode b_P_fair 94 = .ok (.iload 6, 2) := by decide +kernel
theorem d_P_fair_96 : decode b_P_fair 96 = .ok (.if_icmp .lt 6, 3) := by decide +kernel
theorem d_P_fair_99 : decode b_P_fair 99 = .ok (.goto 11, 3) := by decide +kernel
theorem d_P_fair_102 : decode b_P_fair 102 = .ok (.iload 7, 2) := by decide +kernel
theorem d_P_fair_104 : decode b_P_fair 104 = .ok (.istore 5, 2) := by decide +kernel
theorem d_P_fair_106 : decode b_P_fair 106 = .ok (.iload 8, 2) := by decide +kernel
theorem d_P_fair_108 : decode b_P_fair 108 = .ok (.istore 6, 2) := by decide +kernel
theorem d_P_fair_110 : decode b_P_fair 110 = .ok (.iinc 7 1, 3) := by decide +kernel
theorem d_P_fair_113 : decode b_P_fair 113 = .ok (.goto (-67), 3) := by decide +kernel
theorem d_P_fair_116 : decode b_P_fair 116 = .ok (.aload_n 0, 1) := by decide +kernel
theorem d_P_fair_117 : decode b_P_fair 117 = .ok (.getfield 36, 3) := by decide +kernel
theorem d_P_fair_120 : decode b_P_fair 120 = .ok (.getfield 117, 3) := by decide +kernel
theorem d_P_fair_123 : decode b_P_fair 123 = .ok (.iload_n 2, 1) := by decide +kernel
theorem d_P_fair_124 : decode b_P_fair 124 = .ok (.iload 4, 2) := by decide +kernel
theorem d_P_fair_126 : decode b_P_fair 126 = .ok (.iastore, 1) := by decide +kernel
theorem d_P_fair_127 : decode b_P_fair 127 = .ok (.aload_n 0, 1) := by decide +kernel
theorem d_P_fair_128 : decode b_P_fair 128 = .ok (.getfield 28, 3) := by decide +kernel
theorem d_P_fair_131 : decode b_P_fair 131 = .ok (.invokevirtual 123, 3) := by decide +kernel
theorem d_P_fair_134 : decode b_P_fair 134 = .ok (.iload_n 3, 1) := by decide +kernel
theorem d_P_fair_135 : decode b_P_fair 135 = .ok (.ifCond .ne 8, 3) := by decide +kernel
theorem d_P_fair_138 : decode b_P_fair 138 = .ok (.iload 5, 2) := by decide +kernel
theorem d_P_fair_140 : decode b_P_fair 140 = .ok (.goto 5, 3) := by decide +kernel
theorem d_P_fair_143 : decode b_P_fair 143 = .ok (.iload 6, 2) := by decide +kernel
theorem d_P_fair_145 : decode b_P_fair 145 = .ok (.ireturn, 1) := by decide +kernel
theorem mo_P_fair : MokV y_P_fair b_P_fair 9 (some .int) 3 := ⟨⟨(tbl_in 675 (by decide +kernel) rfl), (tbl_in 62 (by decide +kernel) rfl)⟩, ⟨(tbl_in 673 (by decide +kernel) rfl), tbl_lw _ (tbl_in 674 (by decide +kernel) rfl), (tbl_in 674 (by decide +kernel) rfl)⟩, ⟨by decide +kernel, by decide +kernel⟩, by decide +kernel⟩
def b_P_fair_46_ (P : Int32 → Hp → Prop)  (I46 : Hp → Int32 → Int32 → Int32 → Int32 → Int32 → Int32 → Int32 → Prop) (σ : Hp) (x1 : Int32) (x2 : Int32) (x3 : Int32) (x4 : Int32) (x5 : Int32) (x6 : Int32) (x7 : Int32) : Prop :=
  (((10 : Int32) ≤ x7 → (vp_in x2 3) ∧ wp_D_priceSuits (st σ 25 (ix x2) x4) (fun (t4 : Hp) => ((¬ x3 = 0 → P x6 t4) ∧ (x3 = 0 → P x5 t4)))) ∧ (¬ (10 : Int32) ≤ x7 → (vp_in x2 3) ∧ wp_D_priceSuits (st σ 25 (ix x2) x7) (fun (t8 : Hp) => wp_D_coinDue t8 x1 (fun (r9 : Int32) (t10 : Hp) => ((r9 = 0 → (∀ v12 : Int32, v12 = x7 + (1 : Int32) → I46 t10 x1 x2 x3 x4 x5 x6 v12)) ∧ (¬ r9 = 0 → ((x5 = (-1 : Int32) → (∀ v14 : Int32, v14 = x7 + (1 : Int32) → I46 t10 x1 x2 x3 x4 x7 r9 v14)) ∧ (¬ x5 = (-1 : Int32) → ((r9 < x6 → (∀ v16 : Int32, v16 = x7 + (1 : Int32) → I46 t10 x1 x2 x3 x4 x7 r9 v16)) ∧ (¬ r9 < x6 → (∀ v17 : Int32, v17 = x7 + (1 : Int32) → I46 t10 x1 x2 x3 x4 x5 x6 v17)))))))))))
def j_P_fair_46 (P : Int32 → Hp → Prop)  (σ : Hp) (x1 : Int32) (x2 : Int32) (x3 : Int32) (x4 : Int32) (x5 : Int32) (x6 : Int32) (x7 : Int32) : Prop := ∀ I46 : Hp → Int32 → Int32 → Int32 → Int32 → Int32 → Int32 → Int32 → Prop, (∀ (σ : Hp) (x1 : Int32) (x2 : Int32) (x3 : Int32) (x4 : Int32) (x5 : Int32) (x6 : Int32) (x7 : Int32), b_P_fair_46_  P  I46 σ x1 x2 x3 x4 x5 x6 x7 → I46 σ x1 x2 x3 x4 x5 x6 x7) → I46 σ x1 x2 x3 x4 x5 x6 x7
def j_P_fair_26 (P : Int32 → Hp → Prop)  (σ : Hp) (x1 : Int32) (x2 : Int32) (x3 : Int32) : Prop :=
  (vp_in x2 3) ∧ (∀ v19 : Int32, v19 = σ 25 (ix x2) → j_P_fair_46 P σ x1 x2 x3 v19 (-1 : Int32) (-1 : Int32) (0 : Int32))
def wp_P_fair (σ : Hp) (a1 : Int32) (a2 : Int32) (a3 : Int32) (P : Int32 → Hp → Prop) : Prop :=
  wp_P_isDay σ a1 (fun (r20 : Int32) (t21 : Hp) => ((r20 = 0 → P (-2 : Int32) t21) ∧ (¬ r20 = 0 → wp_P_isKind t21 a2 (fun (r23 : Int32) (t24 : Hp) => ((r23 = 0 → P (-2 : Int32) t24) ∧ (¬ r23 = 0 → ((a3 = 0 → j_P_fair_26 P t24 a1 a2 a3) ∧ (¬ a3 = 0 → ((a3 = (1 : Int32) → j_P_fair_26 P t24 a1 a2 a3) ∧ (¬ a3 = (1 : Int32) → P (-2 : Int32) t24))))))))))
set_option maxHeartbeats 4000000 in
set_option maxRecDepth 100000 in
theorem wj_P_fair_46 {w : Wd} {κ : Kx} {P : Int32 → Hp → Prop} (hC : Cx μC w 9 κ nC7 b_P_fair 5) (hR : RtI μC w 9 κ b_P_fair .int P)  : ∀ (σ : Hp) (x1 : Int32) (x2 : Int32) (x3 : Int32) (x4 : Int32) (x5 : Int32) (x6 : Int32) (x7 : Int32), j_P_fair_46  P  σ x1 x2 x3 x4 x5 x6 x7 → V μC w 9 κ σ [some (.ref (w.1 0)), some (.int x1), some (.int x2), some (.int x3), some (.int x4), some (.int x5), some (.int x6), some (.int x7), none] 46 [] := by
  intro σ x1 x2 x3 x4 x5 x6 x7 h
  refine h (fun σ x1 x2 x3 x4 x5 x6 x7 => V μC w 9 κ σ [some (.ref (w.1 0)), some (.int x1), some (.int x2), some (.int x3), some (.int x4), some (.int x5), some (.int x6), some (.int x7), none] 46 []) (fun σ x1 x2 x3 x4 x5 x6 x7 h => ?_)
  unfold b_P_fair_46_ at h
  refine V.iload hC d_P_fair_46 rfl ?_
  refine V.bipush (v := 10) hC d_P_fair_48 (by decide) ?_
  refine V.icmp_ge (tgt := 116) hC d_P_fair_50 (by decide) (fun c1 => ?_) (fun c1 => ?_)
  · replace h := h.1 c1
    refine V.aload_n hC d_P_fair_116 rfl rfl ?_
    refine V.getR (j := 3) hC d_P_fair_117 rfl rfl uC7 rfl rfl qf_P_36 ?_
    refine V.getR (j := 4) hC d_P_fair_120 rfl rfl uC5 rfl rfl qf_P_117 ?_
    refine V.iload_n hC d_P_fair_123 rfl rfl ?_
    refine V.iload hC d_P_fair_124 rfl ?_
    obtain ⟨b2, h⟩ := h
    refine V.iast hC d_P_fair_126 rfl b2 ?_
    refine V.aload_n hC d_P_fair_127 rfl rfl ?_
    refine V.getR (j := 2) hC d_P_fair_128 rfl rfl uC7 rfl rfl qf_P_28 ?_
    refine V.callVN hC exC (w_D_priceSuits w (st σ 25 (ix x2) x4)  _ h) d_P_fair_131 mo_D_priceSuits qm_P_123 rfl rfl rfl rfl rfl rfl rfl (Nat.le_of_ble_eq_true rfl) (fun t4 h => ?_)
    refine V.iload_n hC d_P_fair_134 rfl rfl ?_
    refine V.if_ne (tgt := 143) hC d_P_fair_135 (by decide) (fun c5 => ?_) (fun c5 => ?_)
    · replace h := h.1 c5
      refine V.iload hC d_P_fair_143 rfl ?_
      exact hR _ _ _ _ h rfl d_P_fair_145
    · replace h := h.2 c5
      refine V.iload hC d_P_fair_138 rfl ?_
      refine V.goto (tgt := 145) hC d_P_fair_140 (by decide) ?_
      exact hR _ _ _ _ h rfl d_P_fair_145
  · replace h := h.2 c1
    refine V.aload_n hC d_P_fair_53 rfl rfl ?_
    refine V.getR (j := 3) hC d_P_fair_54 rfl rfl uC7 rfl rfl qf_P_36 ?_
    refine V.getR (j := 4) hC d_P_fair_57 rfl rfl uC5 rfl rfl qf_P_117 ?_
    refine V.iload_n hC d_P_fair_60 rfl rfl ?_
    refine V.iload hC d_P_fair_61 rfl ?_
    obtain ⟨b6, h⟩ := h
    refine V.iast hC d_P_fair_63 rfl b6 ?_
    refine V.aload_n hC d_P_fair_64 rfl rfl ?_
    refine V.getR (j := 2) hC d_P_fair_65 rfl rfl uC7 rfl rfl qf_P_28 ?_
    refine V.callVN hC exC (w_D_priceSuits w (st σ 25 (ix x2) x7)  _ h) d_P_fair_68 mo_D_priceSuits qm_P_123 rfl rfl rfl rfl rfl rfl rfl (Nat.le_of_ble_eq_true rfl) (fun t8 h => ?_)
    refine V.aload_n hC d_P_fair_71 rfl rfl ?_
    refine V.getR (j := 2) hC d_P_fair_72 rfl rfl uC7 rfl rfl qf_P_28 ?_
    refine V.iload_n hC d_P_fair_75 rfl rfl ?_
    refine V.callVI hC exC (w_D_coinDue w t8 x1 _ h) d_P_fair_76 mo_D_coinDue qm_P_190 rfl rfl rfl rfl rfl rfl rfl (Nat.le_of_ble_eq_true rfl) (fun r9 t10 h => ?_)
    refine V.istore (y := r9) (lo' := [some (.ref (w.1 0)), some (.int x1), some (.int x2), some (.int x3), some (.int x4), some (.int x5), some (.int x6), some (.int x7), some (.int r9)]) hC d_P_fair_79 rfl rfl rfl ?_
    refine V.iload hC d_P_fair_81 rfl ?_
    refine V.if_eq (tgt := 110) hC d_P_fair_83 (by decide) (fun c11 => ?_) (fun c11 => ?_)
    · replace h := h.1 c11
      obtain ⟨v12, ev12⟩ : ∃ y : Int32, y = x7 + (1 : Int32) := ⟨_, rfl⟩
      replace h := h v12 ev12
      refine V.iinc (y := v12) (lo' := [some (.ref (w.1 0)), some (.int x1), some (.int x2), some (.int x3), some (.int x4), some (.int x5), some (.int x6), some (.int v12), some (.int r9)]) hC d_P_fair_110 rfl rfl (show v12 = _ + Int32.ofInt (1) from ev12) rfl ?_
      refine V.goto (tgt := 46) hC d_P_fair_113 (by decide) ?_
      exact V.msk [true, true, true, true, true, true, true, true, false] rfl h
    · replace h := h.2 c11
      refine V.iload hC d_P_fair_86 rfl ?_
      refine V.iconst (v := -1) hC d_P_fair_88 (by decide) ?_
      refine V.icmp_eq (tgt := 102) hC d_P_fair_89 (by decide) (fun c13 => ?_) (fun c13 => ?_)
      · replace h := h.1 c13
        refine V.iload hC d_P_fair_102 rfl ?_
        refine V.istore (y := x7) (lo' := [some (.ref (w.1 0)), some (.int x1), some (.int x2), some (.int x3), some (.int x4), some (.int x7), some (.int x6), some (.int x7), some (.int r9)]) hC d_P_fair_104 rfl rfl rfl ?_
        refine V.iload hC d_P_fair_106 rfl ?_
        refine V.istore (y := r9) (lo' := [some (.ref (w.1 0)), some (.int x1), some (.int x2), some (.int x3), some (.int x4), some (.int x7), some (.int r9), some (.int x7), some (.int r9)]) hC d_P_fair_108 rfl rfl rfl ?_
        obtain ⟨v14, ev14⟩ : ∃ y : Int32, y = x7 + (1 : Int32) := ⟨_, rfl⟩
        replace h := h v14 ev14
        refine V.iinc (y := v14) (lo' := [some (.ref (w.1 0)), some (.int x1), some (.int x2), some (.int x3), some (.int x4), some (.int x7), some (.int r9), some (.int v14), some (.int r9)]) hC d_P_fair_110 rfl rfl (show v14 = _ + Int32.ofInt (1) from ev14) rfl ?_
        refine V.goto (tgt := 46) hC d_P_fair_113 (by decide) ?_
        exact V.msk [true, true, true, true, true, true, true, true, false] rfl h
      · replace h := h.2 c13
        refine V.iload hC d_P_fair_92 rfl ?_
        refine V.iload hC d_P_fair_94 rfl ?_
        refine V.icmp_lt (tgt := 102) hC d_P_fair_96 (by decide) (fun c15 => ?_) (fun c15 => ?_)
        · replace h := h.1 c15
          refine V.iload hC d_P_fair_102 rfl ?_
          refine V.istore (y := x7) (lo' := [some (.ref (w.1 0)), some (.int x1), some (.int x2), some (.int x3), some (.int x4), some (.int x7), some (.int x6), some (.int x7), some (.int r9)]) hC d_P_fair_104 rfl rfl rfl ?_
          refine V.iload hC d_P_fair_106 rfl ?_
          refine V.istore (y := r9) (lo' := [some (.ref (w.1 0)), some (.int x1), some (.int x2), some (.int x3), some (.int x4), some (.int x7), some (.int r9), some (.int x7), some (.int r9)]) hC d_P_fair_108 rfl rfl rfl ?_
          obtain ⟨v16, ev16⟩ : ∃ y : Int32, y = x7 + (1 : Int32) := ⟨_, rfl⟩
          replace h := h v16 ev16
          refine V.iinc (y := v16) (lo' := [some (.ref (w.1 0)), some (.int x1), some (.int x2), some (.int x3), some (.int x4), some (.int x7), some (.int r9), some (.int v16), some (.int r9)]) hC d_P_fair_110 rfl rfl (show v16 = _ + Int32.ofInt (1) from ev16) rfl ?_
          refine V.goto (tgt := 46) hC d_P_fair_113 (by decide) ?_
          exact V.msk [true, true, true, true, true, true, true, true, false] rfl h
        · replace h := h.2 c15
          refine V.goto (tgt := 110) hC d_P_fair_99 (by decide) ?_
          obtain ⟨v17, ev17⟩ : ∃ y : Int32, y = x7 + (1 : Int32) := ⟨_, rfl⟩
          replace h := h v17 ev17
          refine V.iinc (y := v17) (lo' := [some (.ref (w.1 0)), some (.int x1), some (.int x2), some (.int x3), some (.int x4), some (.int x5), some (.int x6), some (.int v17), some (.int r9)]) hC d_P_fair_110 rfl rfl (show v17 = _ + Int32.ofInt (1) from ev17) rfl ?_
          refine V.goto (tgt := 46) hC d_P_fair_113 (by decide) ?_
          exact V.msk [true, true, true, true, true, true, true, true, false] rfl h
set_option maxHeartbeats 4000000 in
set_option maxRecDepth 100000 in
theorem wj_P_fair_26 {w : Wd} {κ : Kx} {P : Int32 → Hp → Prop} (hC : Cx μC w 9 κ nC7 b_P_fair 5) (hR : RtI μC w 9 κ b_P_fair .int P)  : ∀ (σ : Hp) (x1 : Int32) (x2 : Int32) (x3 : Int32), j_P_fair_26  P  σ x1 x2 x3 → V μC w 9 κ σ [some (.ref (w.1 0)), some (.int x1), some (.int x2), some (.int x3), none, none, none, none, none] 26 [] := by
  intro σ x1 x2 x3 h
  unfold j_P_fair_26 at h
  refine V.aload_n hC d_P_fair_26 rfl rfl ?_
  refine V.getR (j := 3) hC d_P_fair_27 rfl rfl uC7 rfl rfl qf_P_36 ?_
  refine V.getR (j := 4) hC d_P_fair_30 rfl rfl uC5 rfl rfl qf_P_117 ?_
  refine V.iload_n hC d_P_fair_33 rfl rfl ?_
  obtain ⟨b18, h⟩ := h
  refine V.iald hC d_P_fair_34 rfl b18 ?_
  obtain ⟨v19, ev19⟩ : ∃ y : Int32, y = σ 25 (ix x2) := ⟨_, rfl⟩
  replace h := h v19 ev19
  refine V.istore (y := v19) (lo' := [some (.ref (w.1 0)), some (.int x1), some (.int x2), some (.int x3), some (.int v19), none, none, none, none]) hC d_P_fair_35 rfl ev19 rfl ?_
  refine V.iconst (v := -1) hC d_P_fair_37 (by decide) ?_
  refine V.istore (y := (-1 : Int32)) (lo' := [some (.ref (w.1 0)), some (.int x1), some (.int x2), some (.int x3), some (.int v19), some (.int (-1 : Int32)), none, none, none]) hC d_P_fair_38 rfl rfl rfl ?_
  refine V.iconst (v := -1) hC d_P_fair_40 (by decide) ?_
  refine V.istore (y := (-1 : Int32)) (lo' := [some (.ref (w.1 0)), some (.int x1), some (.int x2), some (.int x3), some (.int v19), some (.int (-1 : Int32)), some (.int (-1 : Int32)), none, none]) hC d_P_fair_41 rfl rfl rfl ?_
  refine V.iconst (v := 0) hC d_P_fair_43 (by decide) ?_
  refine V.istore (y := (0 : Int32)) (lo' := [some (.ref (w.1 0)), some (.int x1), some (.int x2), some (.int x3), some (.int v19), some (.int (-1 : Int32)), some (.int (-1 : Int32)), some (.int (0 : Int32)), none]) hC d_P_fair_44 rfl rfl rfl ?_
  exact V.msk [true, true, true, true, true, true, true, true, false] rfl (wj_P_fair_46  hC hR  σ x1 x2 x3 v19 (-1 : Int32) (-1 : Int32) (0 : Int32) h)
set_option maxHeartbeats 4000000 in
set_option maxRecDepth 100000 in
theorem w_P_fair (w : Wd) (σ : Hp) (a1 : Int32) (a2 : Int32) (a3 : Int32) (P : Int32 → Hp → Prop) (h : wp_P_fair σ a1 a2 a3 P) : CtI μC w y_P_fair b_P_fair 9 (some .int) 5 [.ref (w.1 0), .int a1, .int a2, .int a3] σ P := by
  unfold wp_P_fair at h
  refine CtI.ofV (C := nC7) (lo := [some (.ref (w.1 0)), some (.int a1), some (.int a2), some (.int a3), none, none, none, none, none]) exC (by decide +kernel) rfl rfl rfl (fun κ hC hR => ?_)
  refine V.iload_n hC d_P_fair_0 rfl rfl ?_
  refine V.callSI hC exC (w_P_isDay w σ a1 _ h) d_P_fair_1 mo_P_isDay qm_P_126 rfl rfl rfl rfl (Nat.le_of_ble_eq_true rfl) (fun r20 t21 h => ?_)
  refine V.if_eq (tgt := 23) hC d_P_fair_4 (by decide) (fun c22 => ?_) (fun c22 => ?_)
  · replace h := h.1 c22
    refine V.bipush (v := -2) hC d_P_fair_23 (by decide) ?_
    exact hR _ _ _ _ h rfl d_P_fair_25
  · replace h := h.2 c22
    refine V.iload_n hC d_P_fair_7 rfl rfl ?_
    refine V.callSI hC exC (w_P_isKind w t21 a2 _ h) d_P_fair_8 mo_P_isKind qm_P_114 rfl rfl rfl rfl (Nat.le_of_ble_eq_true rfl) (fun r23 t24 h => ?_)
    refine V.if_eq (tgt := 23) hC d_P_fair_11 (by decide) (fun c25 => ?_) (fun c25 => ?_)
    · replace h := h.1 c25
      refine V.bipush (v := -2) hC d_P_fair_23 (by decide) ?_
      exact hR _ _ _ _ h rfl d_P_fair_25
    · replace h := h.2 c25
      refine V.iload_n hC d_P_fair_14 rfl rfl ?_
      refine V.if_eq (tgt := 26) hC d_P_fair_15 (by decide) (fun c26 => ?_) (fun c26 => ?_)
      · replace h := h.1 c26
        exact V.msk [true, true, true, true, false, false, false, false, false] rfl (wj_P_fair_26  hC hR  t24 a1 a2 a3 h)
      · replace h := h.2 c26
        refine V.iload_n hC d_P_fair_18 rfl rfl ?_
        refine V.iconst (v := 1) hC d_P_fair_19 (by decide) ?_
        refine V.icmp_eq (tgt := 26) hC d_P_fair_20 (by decide) (fun c27 => ?_) (fun c27 => ?_)
        · replace h := h.1 c27
          exact V.msk [true, true, true, true, false, false, false, false, false] rfl (wj_P_fair_26  hC hR  t24 a1 a2 a3 h)
        · replace h := h.2 c27
          refine V.bipush (v := -2) hC d_P_fair_23 (by decide) ?_
          exact hR _ _ _ _ h rfl d_P_fair_25
abbrev b_D_passDay : ByteArray := prog_3_method_13_code
def y_D_passDay : MethodName := ⟨nC1, "passDay", "(II)V"⟩
theorem d_D_passDay_0 : decode b_D_passDay 0 = .ok (.iconst 0, 1) := by decide +kernel
theorem d_D_passDay_1 : decode b_D_passDay 1 = .ok (.istore_n 3, 1) := by decide +kernel
theorem d_D_passDay_2 : decode b_D_passDay 2 = .ok (.iload_n 3, 1) := by decide +kernel
theorem d_D_passDay_3 : decode b_D_passDay 3 = .ok (.aload_n 0, 1) := by decide +kernel
theorem d_D_passDay_4 : decode b_D_passDay 4 = .ok (.getfield 21, 3) := by decide +kernel
theorem d_D_passDay_7 : decode b_D_passDay 7 = .ok (.getfield 41, 3) := by decide +kernel
theorem d_D_passDay_10 : decode b_D_passDay 10 = .ok (.if_icmp .ge 104, 3) := by decide +kernel
theorem d_D_passDay_13 : decode b_D_passDay 13 = .ok (.iload_n 2, 1) := by decide +kernel
theorem d_D_passDay_14 : decode b_D_passDay 14 = .ok (.iload_n 3, 1) := by decide +kernel
theorem d_D_passDay_15 : decode b_D_passDay 15 = .ok (.ishr, 1) := by decide +kernel
theorem d_D_passDay_16 : decode b_D_passDay 16 = .ok (.iconst 1, 1) := by decide +kernel
theorem d_D_passDay_17 : decode b_D_passDay 17 = .ok (.iand, 1) := by decide +kernel
theorem d_D_passDay_18 : decode b_D_passDay 18 = .ok (.ifCond .eq 90, 3) := by decide +kernel
theorem d_D_passDay_21 : decode b_D_passDay 21 = .ok (.aload_n 0, 1) := by decide +kernel
theorem d_D_passDay_22 : decode b_D_passDay 22 = .ok (.getfield 21, 3) := by decide +kernel
theorem d_D_passDay_25 : decode b_D_passDay 25 = .ok (.getfield 98, 3) := by decide +kernel
theorem d_D_passDay_28 : decode b_D_passDay 28 = .ok (.iload_n 3, 1) := by decide +kernel
theorem d_D_passDay_29 : decode b_D_passDay 29 = .ok (.iaload, 1) := by decide +kernel
theorem d_D_passDay_30 : decode b_D_passDay 30 = .ok (.iload_n 1, 1) := by decide +kernel
theorem d_D_passDay_31 : decode b_D_passDay 31 = .ok (.if_icmp .le 6, 3) := by decide +kernel
theorem d_D_passDay_34 : decode b_D_passDay 34 = .ok (.goto 74, 3) := by decide +kernel
theorem d_D_passDay_37 : decode b_D_passDay 37 = .ok (.aload_n 0, 1) := by decide +kernel
theorem d_D_passDay_38 : decode b_D_passDay 38 = .ok (.getfield 21, 3) := by decide +kernel
theorem d_D_passDay_41 : decode b_D_passDay 41 = .ok (.getfield 45, 3) := by decide +kernel
theorem d_D_passDay_44 : decode b_D_passDay 44 = .ok (.iload_n 3, 1) := by decide +kernel
theorem d_D_passDay_45 : decode b_D_passDay 45 = .ok (.iaload, 1) := by decide +kernel
theorem d_D_passDay_46 : decode b_D_passDay 46 = .ok (.istore 4, 2) := by decide +kernel
theorem d_D_passDay_48 : decode b_D_passDay 48 = .ok (.aload_n 0, 1) := by decide +kernel
theorem d_D_passDay_49 : decode b_D_passDay 49 = .ok (.getfield 21, 3) := by decide +kernel
theorem d_D_passDay_52 : decode b_D_passDay 52 = .ok (.getfield 101, 3) := by decide +kernel
theorem d_D_passDay_55 : decode b_D_passDay 55 = .ok (.iload 4, 2) := by decide +kernel
theorem d_D_passDay_57 : decode b_D_passDay 57 = .ok (.iaload, 1) := by decide +kernel
theorem d_D_passDay_58 : decode b_D_passDay 58 = .ok (.iload_n 1, 1) := by decide +kernel
theorem d_D_passDay_59 : decode b_D_passDay 59 = .ok (.ishr, 1) := by decide +kernel
theorem d_D_passDay_60 : decode b_D_passDay 60 = .ok (.iconst 1, 1) := by decide +kernel
theorem d_D_passDay_61 : decode b_D_passDay 61 = .ok (.iand, 1) := by decide +kernel
theorem d_D_passDay_62 : decode b_D_passDay 62 = .ok (.iconst 1, 1) := by decide +kernel
theorem d_D_passDay_63 : decode b_D_passDay 63 = .ok (.if_icmp .ne 6, 3) := by decide +kernel
theorem d_D_passDay_66 : decode b_D_passDay 66 = .ok (.goto 42, 3) := by decide +kernel
theorem d_D_passDay_69 : decode b_D_passDay 69 = .ok (.aload_n 0, 1) := by decide +kernel
theorem d_D_passDay_70 : decode b_D_passDay 70 = .ok (.getfield 25, 3) := by decide +kernel
theorem d_D_passDay_73 : decode b_D_passDay 73 = .ok (.iload 4, 2) := by decide +kernel
theorem d_D_passDay_75 : decode b_D_passDay 75 = .ok (.dup2, 1) := by decide +kernel
theorem d_D_passDay_76 : decode b_D_passDay 76 = .ok (.iaload, 1) := by decide +kernel
theorem d_D_passDay_77 : decode b_D_passDay 77 = .ok (.aload_n 0, 1) := by decide +kernel
theorem d_D_passDay_78 : decode b_D_passDay 78 = .ok (.getfield 29, 3) := by decide +kernel
theorem d_D_passDay_81 : decode b_D_passDay 81 = .ok (.iload_n 3, 1) := by decide +kernel
theorem d_D_passDay_82 : decode b_D_passDay 82 = .ok (.iaload, 1) := by decide +kernel
theorem d_D_passDay_83 : decode b_D_passDay 83 = .ok (.iadd, 1) := by decide +kernel
theorem d_D_passDay_84 : decode b_D_passDay 84 = .ok (.iastore, 1) := by decide +kernel
theorem d_D_passDay_85 : decode b_D_passDay 85 = .ok (.aload_n 0, 1) := by decide +kernel
theorem d_D_passDay_86 : decode b_D_passDay 86 = .ok (.getfield 25, 3) := by decide +kernel
theorem d_D_passDay_89 : decode b_D_passDay 89 = .ok (.aload_n 0, 1) := by decide +kernel
theorem d_D_passDay_90 : decode b_D_passDay 90 = .ok (.getfield 21, 3) := by decide +kernel
theorem d_D_passDay_93 : decode b_D_passDay 93 = .ok (.getfield 48, 3) := by decide +kernel
theorem d_D_passDay_96 : decode b_D_passDay 96 = .ok (.iload_n 3, 1) := by decide +kernel
theorem d_D_passDay_97 : decode b_D_passDay 97 = .ok (.iaload, 1) := by decide +kernel
theorem d_D_passDay_98 : decode b_D_passDay 98 = .ok (.dup2, 1) := by decide +kernel
theorem d_D_passDay_99 : decode b_D_passDay 99 = .ok (.iaload, 1) := by decide +kernel
theorem d_D_passDay_100 : decode b_D_passDay 100 = .ok (.aload_n 0, 1) := by decide +kernel
theorem d_D_passDay_101 : decode b_D_passDay 101 = .ok (.getfield 29, 3) := by decide +kernel
theorem d_D_passDay_104 : decode b_D_passDay 104 = .ok (.iload_n 3, 1) := by decide +kernel
theorem d_D_passDay_105 : decode b_D_passDay 105 = .ok (.iaload, 1) := by decide +kernel
theorem d_D_passDay_106 : decode b_D_passDay 106 = .ok (.isub, 1) := by decide +kernel
theorem d_D_passDay_107 : decode b_D_passDay 107 = .ok (.iastore, 1) := by decide +kernel
theorem d_D_passDay_108 : decode b_D_passDay 108 = .ok (.iinc 3 1, 3) := by decide +kernel
theorem d_D_passDay_111 : decode b_D_passDay 111 = .ok (.goto (-109), 3) := by decide +kernel
theorem d_D_passDay_114 : decode b_D_passDay 114 = .ok (.return_, 1) := by decide +kernel
theorem qf_D_101 : Cond.fieldLink nC1 101 (fC2 5).1 (fC2 5).2.1 (fC2 5).2.2.1 ∈ tbl := tbl_in 178 (by decide +kernel) rfl
theorem qf_D_98 : Cond.fieldLink nC1 98 (fC2 0).1 (fC2 0).2.1 (fC2 0).2.2.1 ∈ tbl := tbl_in 168 (by decide +kernel) rfl
theorem mo_D_passDay : MokV y_D_passDay b_D_passDay 5 none 2 := ⟨⟨(tbl_in 693 (by decide +kernel) rfl), (tbl_in 64 (by decide +kernel) rfl)⟩, ⟨(tbl_in 692 (by decide +kernel) rfl), tbl_lw _ (tbl_in 11 (by decide +kernel) rfl), (tbl_in 11 (by decide +kernel) rfl)⟩, ⟨by decide +kernel, by decide +kernel⟩, by decide +kernel⟩
def b_D_passDay_2_ (P : Hp → Prop)  (I2 : Hp → Int32 → Int32 → Int32 → Prop) (σ : Hp) (x1 : Int32) (x2 : Int32) (x3 : Int32) : Prop :=
  (((σ 5 6) ≤ x3 → P σ) ∧ (¬ (σ 5 6) ≤ x3 → ((((x2 >>> (x3 &&& 31)) &&& (1 : Int32)) = 0 → (∀ v3 : Int32, v3 = x3 + (1 : Int32) → I2 σ x1 x2 v3)) ∧ (¬ ((x2 >>> (x3 &&& 31)) &&& (1 : Int32)) = 0 → (vp_in x3 12) ∧ (((σ 27 (ix x3)) ≤ x1 → (vp_in x3 12) ∧ (∀ v7 : Int32, v7 = σ 28 (ix x3) → (vp_in v7 8) ∧ ((¬ (((σ 32 (ix v7)) >>> (x1 &&& 31)) &&& (1 : Int32)) = (1 : Int32) → (vp_in v7 8) ∧ (vp_in x3 12) ∧ (vp_in v7 8) ∧ (vp_in x3 12) ∧ (vp_in ((st σ 16 (ix v7) ((σ 16 (ix v7)) + (σ 17 (ix x3)))) 29 (ix x3)) 8) ∧ (vp_in x3 12) ∧ (vp_in ((st σ 16 (ix v7) ((σ 16 (ix v7)) + (σ 17 (ix x3)))) 29 (ix x3)) 8) ∧ (∀ v17 : Int32, v17 = x3 + (1 : Int32) → I2 (st (st σ 16 (ix v7) ((σ 16 (ix v7)) + (σ 17 (ix x3)))) 16 (ix ((st σ 16 (ix v7) ((σ 16 (ix v7)) + (σ 17 (ix x3)))) 29 (ix x3))) (((st σ 16 (ix v7) ((σ 16 (ix v7)) + (σ 17 (ix x3)))) 16 (ix ((st σ 16 (ix v7) ((σ 16 (ix v7)) + (σ 17 (ix x3)))) 29 (ix x3)))) - ((st σ 16 (ix v7) ((σ 16 (ix v7)) + (σ 17 (ix x3)))) 17 (ix x3)))) x1 x2 v17)) ∧ ((((σ 32 (ix v7)) >>> (x1 &&& 31)) &&& (1 : Int32)) = (1 : Int32) → (∀ v18 : Int32, v18 = x3 + (1 : Int32) → I2 σ x1 x2 v18))))) ∧ (¬ (σ 27 (ix x3)) ≤ x1 → (∀ v19 : Int32, v19 = x3 + (1 : Int32) → I2 σ x1 x2 v19)))))))
def j_D_passDay_2 (P : Hp → Prop)  (σ : Hp) (x1 : Int32) (x2 : Int32) (x3 : Int32) : Prop := ∀ I2 : Hp → Int32 → Int32 → Int32 → Prop, (∀ (σ : Hp) (x1 : Int32) (x2 : Int32) (x3 : Int32), b_D_passDay_2_  P  I2 σ x1 x2 x3 → I2 σ x1 x2 x3) → I2 σ x1 x2 x3
def wp_D_passDay (σ : Hp) (a1 : Int32) (a2 : Int32) (P : Hp → Prop) : Prop :=
  j_D_passDay_2 P σ a1 a2 (0 : Int32)
set_option maxHeartbeats 4000000 in
set_option maxRecDepth 100000 in
theorem wj_D_passDay_2 {w : Wd} {κ : Kx} {P : Hp → Prop} (hC : Cx μC w 5 κ nC1 b_D_passDay 0) (hR : RtN μC w 5 κ b_D_passDay P)  : ∀ (σ : Hp) (x1 : Int32) (x2 : Int32) (x3 : Int32), j_D_passDay_2  P  σ x1 x2 x3 → V μC w 5 κ σ [some (.ref (w.1 3)), some (.int x1), some (.int x2), some (.int x3), none] 2 [] := by
  intro σ x1 x2 x3 h
  refine h (fun σ x1 x2 x3 => V μC w 5 κ σ [some (.ref (w.1 3)), some (.int x1), some (.int x2), some (.int x3), none] 2 []) (fun σ x1 x2 x3 h => ?_)
  unfold b_D_passDay_2_ at h
  refine V.iload_n hC d_D_passDay_2 rfl rfl ?_
  refine V.aload_n hC d_D_passDay_3 rfl rfl ?_
  refine V.getR (j := 1) hC d_D_passDay_4 rfl rfl uC1 rfl rfl qf_D_21 ?_
  refine V.getI (j := 6) hC d_D_passDay_7 rfl rfl uC2 rfl rfl qf_D_41 ?_
  refine V.icmp_ge (tgt := 114) hC d_D_passDay_10 (by decide) (fun c1 => ?_) (fun c1 => ?_)
  · replace h := h.1 c1
    exact hR _ _ _ h d_D_passDay_114
  · replace h := h.2 c1
    refine V.iload_n hC d_D_passDay_13 rfl rfl ?_
    refine V.iload_n hC d_D_passDay_14 rfl rfl ?_
    refine V.ishr hC d_D_passDay_15 ?_
    refine V.iconst (v := 1) hC d_D_passDay_16 (by decide) ?_
    refine V.iand hC d_D_passDay_17 ?_
    refine V.if_eq (tgt := 108) hC d_D_passDay_18 (by decide) (fun c2 => ?_) (fun c2 => ?_)
    · replace h := h.1 c2
      obtain ⟨v3, ev3⟩ : ∃ y : Int32, y = x3 + (1 : Int32) := ⟨_, rfl⟩
      replace h := h v3 ev3
      refine V.iinc (y := v3) (lo' := [some (.ref (w.1 3)), some (.int x1), some (.int x2), some (.int v3), none]) hC d_D_passDay_108 rfl rfl (show v3 = _ + Int32.ofInt (1) from ev3) rfl ?_
      refine V.goto (tgt := 2) hC d_D_passDay_111 (by decide) ?_
      exact V.msk [true, true, true, true, false] rfl h
    · replace h := h.2 c2
      refine V.aload_n hC d_D_passDay_21 rfl rfl ?_
      refine V.getR (j := 1) hC d_D_passDay_22 rfl rfl uC1 rfl rfl qf_D_21 ?_
      refine V.getR (j := 0) hC d_D_passDay_25 rfl rfl uC2 rfl rfl qf_D_98 ?_
      refine V.iload_n hC d_D_passDay_28 rfl rfl ?_
      obtain ⟨b4, h⟩ := h
      refine V.iald hC d_D_passDay_29 rfl b4 ?_
      refine V.iload_n hC d_D_passDay_30 rfl rfl ?_
      refine V.icmp_le (tgt := 37) hC d_D_passDay_31 (by decide) (fun c5 => ?_) (fun c5 => ?_)
      · replace h := h.1 c5
        refine V.aload_n hC d_D_passDay_37 rfl rfl ?_
        refine V.getR (j := 1) hC d_D_passDay_38 rfl rfl uC1 rfl rfl qf_D_21 ?_
        refine V.getR (j := 1) hC d_D_passDay_41 rfl rfl uC2 rfl rfl qf_D_45 ?_
        refine V.iload_n hC d_D_passDay_44 rfl rfl ?_
        obtain ⟨b6, h⟩ := h
        refine V.iald hC d_D_passDay_45 rfl b6 ?_
        obtain ⟨v7, ev7⟩ : ∃ y : Int32, y = σ 28 (ix x3) := ⟨_, rfl⟩
        replace h := h v7 ev7
        refine V.istore (y := v7) (lo' := [some (.ref (w.1 3)), some (.int x1), some (.int x2), some (.int x3), some (.int v7)]) hC d_D_passDay_46 rfl ev7 rfl ?_
        refine V.aload_n hC d_D_passDay_48 rfl rfl ?_
        refine V.getR (j := 1) hC d_D_passDay_49 rfl rfl uC1 rfl rfl qf_D_21 ?_
        refine V.getR (j := 5) hC d_D_passDay_52 rfl rfl uC2 rfl rfl qf_D_101 ?_
        refine V.iload hC d_D_passDay_55 rfl ?_
        obtain ⟨b8, h⟩ := h
        refine V.iald hC d_D_passDay_57 rfl b8 ?_
        refine V.iload_n hC d_D_passDay_58 rfl rfl ?_
        refine V.ishr hC d_D_passDay_59 ?_
        refine V.iconst (v := 1) hC d_D_passDay_60 (by decide) ?_
        refine V.iand hC d_D_passDay_61 ?_
        refine V.iconst (v := 1) hC d_D_passDay_62 (by decide) ?_
        refine V.icmp_ne (tgt := 69) hC d_D_passDay_63 (by decide) (fun c9 => ?_) (fun c9 => ?_)
        · replace h := h.1 c9
          refine V.aload_n hC d_D_passDay_69 rfl rfl ?_
          refine V.getR (j := 2) hC d_D_passDay_70 rfl rfl uC1 rfl rfl qf_D_25 ?_
          refine V.iload hC d_D_passDay_73 rfl ?_
          refine V.dup2_11 hC d_D_passDay_75 rfl rfl ?_
          obtain ⟨b10, h⟩ := h
          refine V.iald hC d_D_passDay_76 rfl b10 ?_
          refine V.aload_n hC d_D_passDay_77 rfl rfl ?_
          refine V.getR (j := 3) hC d_D_passDay_78 rfl rfl uC1 rfl rfl qf_D_29 ?_
          refine V.iload_n hC d_D_passDay_81 rfl rfl ?_
          obtain ⟨b11, h⟩ := h
          refine V.iald hC d_D_passDay_82 rfl b11 ?_
          refine V.iadd hC d_D_passDay_83 ?_
          obtain ⟨b12, h⟩ := h
          refine V.iast hC d_D_passDay_84 rfl b12 ?_
          refine V.aload_n hC d_D_passDay_85 rfl rfl ?_
          refine V.getR (j := 2) hC d_D_passDay_86 rfl rfl uC1 rfl rfl qf_D_25 ?_
          refine V.aload_n hC d_D_passDay_89 rfl rfl ?_
          refine V.getR (j := 1) hC d_D_passDay_90 rfl rfl uC1 rfl rfl qf_D_21 ?_
          refine V.getR (j := 2) hC d_D_passDay_93 rfl rfl uC2 rfl rfl qf_D_48 ?_
          refine V.iload_n hC d_D_passDay_96 rfl rfl ?_
          obtain ⟨b13, h⟩ := h
          refine V.iald hC d_D_passDay_97 rfl b13 ?_
          refine V.dup2_11 hC d_D_passDay_98 rfl rfl ?_
          obtain ⟨b14, h⟩ := h
          refine V.iald hC d_D_passDay_99 rfl b14 ?_
          refine V.aload_n hC d_D_passDay_100 rfl rfl ?_
          refine V.getR (j := 3) hC d_D_passDay_101 rfl rfl uC1 rfl rfl qf_D_29 ?_
          refine V.iload_n hC d_D_passDay_104 rfl rfl ?_
          obtain ⟨b15, h⟩ := h
          refine V.iald hC d_D_passDay_105 rfl b15 ?_
          refine V.isub hC d_D_passDay_106 ?_
          obtain ⟨b16, h⟩ := h
          refine V.iast hC d_D_passDay_107 rfl b16 ?_
          obtain ⟨v17, ev17⟩ : ∃ y : Int32, y = x3 + (1 : Int32) := ⟨_, rfl⟩
          replace h := h v17 ev17
          refine V.iinc (y := v17) (lo' := [some (.ref (w.1 3)), some (.int x1), some (.int x2), some (.int v17), some (.int v7)]) hC d_D_passDay_108 rfl rfl (show v17 = _ + Int32.ofInt (1) from ev17) rfl ?_
          refine V.goto (tgt := 2) hC d_D_passDay_111 (by decide) ?_
          exact V.msk [true, true, true, true, false] rfl h
        · replace h := h.2 c9
          refine V.goto (tgt := 108) hC d_D_passDay_66 (by decide) ?_
          obtain ⟨v18, ev18⟩ : ∃ y : Int32, y = x3 + (1 : Int32) := ⟨_, rfl⟩
          replace h := h v18 ev18
          refine V.iinc (y := v18) (lo' := [some (.ref (w.1 3)), some (.int x1), some (.int x2), some (.int v18), some (.int v7)]) hC d_D_passDay_108 rfl rfl (show v18 = _ + Int32.ofInt (1) from ev18) rfl ?_
          refine V.goto (tgt := 2) hC d_D_passDay_111 (by decide) ?_
          exact V.msk [true, true, true, true, false] rfl h
      · replace h := h.2 c5
        refine V.goto (tgt := 108) hC d_D_passDay_34 (by decide) ?_
        obtain ⟨v19, ev19⟩ : ∃ y : Int32, y = x3 + (1 : Int32) := ⟨_, rfl⟩
        replace h := h v19 ev19
        refine V.iinc (y := v19) (lo' := [some (.ref (w.1 3)), some (.int x1), some (.int x2), some (.int v19), none]) hC d_D_passDay_108 rfl rfl (show v19 = _ + Int32.ofInt (1) from ev19) rfl ?_
        refine V.goto (tgt := 2) hC d_D_passDay_111 (by decide) ?_
        exact V.msk [true, true, true, true, false] rfl h
set_option maxHeartbeats 4000000 in
set_option maxRecDepth 100000 in
theorem w_D_passDay (w : Wd) (σ : Hp) (a1 : Int32) (a2 : Int32) (P : Hp → Prop) (h : wp_D_passDay σ a1 a2 P) : CtN μC w y_D_passDay b_D_passDay 5 none 0 [.ref (w.1 3), .int a1, .int a2] σ P := by
  unfold wp_D_passDay at h
  refine CtN.ofV (C := nC1) (lo := [some (.ref (w.1 3)), some (.int a1), some (.int a2), none, none]) exC (by decide +kernel) rfl rfl rfl (fun κ hC hR => ?_)
  refine V.iconst (v := 0) hC d_D_passDay_0 (by decide) ?_
  refine V.istore_n (y := (0 : Int32)) (lo' := [some (.ref (w.1 3)), some (.int a1), some (.int a2), some (.int (0 : Int32)), none]) hC d_D_passDay_1 rfl rfl rfl rfl ?_
  exact V.msk [true, true, true, true, false] rfl (wj_D_passDay_2  hC hR  σ a1 a2 (0 : Int32) h)
abbrev b_D_staySolvent : ByteArray := prog_3_method_12_code
def y_D_staySolvent : MethodName := ⟨nC1, "staySolvent", "(II)Z"⟩
theorem d_D_staySolvent_0 : decode b_D_staySolvent 0 = .ok (.aload_n 0, 1) := by decide +kernel
theorem d_D_staySolvent_1 : decode b_D_staySolvent 1 = .ok (.getfield 21, 3) := by decide +kernel
theorem d_D_staySolvent_4 : decode b_D_staySolvent 4 = .ok (.iload_n 2, 1) := by decide +kernel
theorem d_D_staySolvent_5 : decode b_D_staySolvent 5 = .ok (.invokevirtual 87, 3) := by decide +kernel
theorem d_D_staySolvent_8 : decode b_D_staySolvent 8 = .ok (.istore_n 3, 1) := by decide +kernel
theorem d_D_staySolvent_9 : decode b_D_staySolvent 9 = .ok (.aload_n 0, 1) := by decide +kernel
theorem d_D_staySolvent_10 : decode b_D_staySolvent 10 = .ok (.getfield 25, 3) := by decide +kernel
theorem d_D_staySolvent_13 : decode b_D_staySolvent 13 = .ok (.iconst 0, 1) := by decide +kernel
theorem d_D_staySolvent_14 : decode b_D_staySolvent 14 = .ok (.invokestatic 65, 3) := by decide +kernel
theorem d_D_staySolvent_17 : decode b_D_staySolvent 17 = .ok (.iconst 0, 1) := by decide +kernel
theorem d_D_staySolvent_18 : decode b_D_staySolvent 18 = .ok (.istore 4, 2) := by decide +kernel
theorem d_D_staySolvent_20 : decode b_D_staySolvent 20 = .ok (.iload 4, 2) := by decide +kernel
theorem d_D_staySolvent_22 : decode b_D_staySolvent 22 = .ok (.iload_n 1, 1) := by decide +kernel
theorem d_D_staySolvent_23 : decode b_D_staySolvent 23 = .ok (.if_icmp .gt 60, 3) := by decide +kernel
theorem d_D_staySolvent_26 : decode b_D_staySolvent 26 = .ok (.aload_n 0, 1) := by decide +kernel
theorem d_D_staySolvent_27 : decode b_D_staySolvent 27 = .ok (.iload 4, 2) := by decide +kernel
theorem d_D_staySolvent_29 : decode b_D_staySolvent 29 = .ok (.iload_n 3, 1) := by decide +kernel
theorem d_D_staySolvent_30 : decode b_D_staySolvent 30 = .ok (.invokevirtual 91, 3) := by decide +kernel
theorem d_D_staySolvent_33 : decode b_D_staySolvent 33 = .ok (.iconst 0, 1) := by decide +kernel
theorem d_D_staySolvent_34 : decode b_D_staySolvent 34 = .ok (.istore 5, 2) := by decide +kernel
theorem d_D_staySolvent_36 : decode b_D_staySolvent 36 = .ok (.iload 5, 2) := by decide +kernel
theorem d_D_staySolvent_38 : decode b_D_staySolvent 38 = .ok (.aload_n 0, 1) := by decide +kernel
theorem d_D_staySolvent_39 : decode b_D_staySolvent 39 = .ok (.getfield 12, 3) := by decide +kernel
theorem d_D_staySolvent_42 : decode b_D_staySolvent 42 = .ok (.getfield 75, 3) := by decide +kernel
theorem d_D_staySolvent_45 : decode b_D_staySolvent 45 = .ok (.if_icmp .ge 32, 3) := by decide +kernel
theorem d_D_staySolvent_48 : decode b_D_staySolvent 48 = .ok (.aload_n 0, 1) := by decide +kernel
theorem d_D_staySolvent_49 : decode b_D_staySolvent 49 = .ok (.getfield 25, 3) := by decide +kernel
theorem d_D_staySolvent_52 : decode b_D_staySolvent 52 = .ok (.iload 5, 2) := by decide +kernel
theorem d_D_staySolvent_54 : decode b_D_staySolvent 54 = .ok (.iaload, 1) := by decide +kernel
theorem d_D_staySolvent_55 : decode b_D_staySolvent 55 = .ok (.aload_n 0, 1) := by decide +kernel
theorem d_D_staySolvent_56 : decode b_D_staySolvent 56 = .ok (.getfield 12, 3) := by decide +kernel
theorem d_D_staySolvent_59 : decode b_D_staySolvent 59 = .ok (.getfield 95, 3) := by decide +kernel
theorem d_D_staySolvent_62 : decode b_D_staySolvent 62 = .ok (.iload 5, 2) := by decide +kernel
theorem d_D_staySolvent_64 : decode b_D_staySolvent 64 = .ok (.iaload, 1) := by decide +kernel
theorem d_D_staySolvent_65 : decode b_D_staySolvent 65 = .ok (.ineg, 1) := by decide +kernel
theorem d_D_staySolvent_66 : decode b_D_staySolvent 66 = .ok (.if_icmp .ge 5, 3) := by decide +kernel
theorem d_D_staySolvent_69 : decode b_D_staySolvent 69 = .ok (.iconst 0, 1) := by decide +kernel
theorem d_D_staySolvent_70 : decode b_D_staySolvent 70 = .ok (.ireturn, 1) := by decide +kernel
theorem d_D_staySolvent_71 : decode b_D_staySolvent 71 = .ok (.iinc 5 1, 3) := by decide +kernel
theorem d_D_staySolvent_74 : decode b_D_staySolvent 74 = .ok (.goto (-38), 3) := by decide +kernel
theorem d_D_staySolvent_77 : decode b_D_staySolvent 77 = .ok (.iinc 4 1, 3) := by decide +kernel
theorem d_D_staySolvent_80 : decode b_D_staySolvent 80 = .ok (.goto (-60), 3) := by decide +kernel
theorem d_D_staySolvent_83 : decode b_D_staySolvent 83 = .ok (.iconst 1, 1) := by decide +kernel
theorem d_D_staySolvent_84 : decode b_D_staySolvent 84 = .ok (.ireturn, 1) := by decide +kernel
theorem qf_D_95 : Cond.fieldLink nC1 95 (fC5 3).1 (fC5 3).2.1 (fC5 3).2.2.1 ∈ tbl := tbl_in 132 (by decide +kernel) rfl
theorem qm_D_87 : Cond.methodLink nC1 87 y_K_leading ∈ tbl := tbl_in 689 (by decide +kernel) rfl
theorem qm_D_91 : Cond.methodLink nC1 91 y_D_passDay ∈ tbl := tbl_in 690 (by decide +kernel) rfl
theorem mo_D_staySolvent : MokV y_D_staySolvent b_D_staySolvent 6 (some .boolean) 2 := ⟨⟨(tbl_in 688 (by decide +kernel) rfl), (tbl_in 64 (by decide +kernel) rfl)⟩, ⟨(tbl_in 686 (by decide +kernel) rfl), tbl_lw _ (tbl_in 687 (by decide +kernel) rfl), (tbl_in 687 (by decide +kernel) rfl)⟩, ⟨by decide +kernel, by decide +kernel⟩, by decide +kernel⟩
def b_D_staySolvent_36_ (P : Int32 → Hp → Prop) (I20 : Hp → Int32 → Int32 → Int32 → Prop) (I36 : Hp → Int32 → Int32 → Int32 → Int32 → Prop) (σ : Hp) (x1 : Int32) (x3 : Int32) (x4 : Int32) (x5 : Int32) : Prop :=
  (((σ 4 6) ≤ x5 → (∀ v2 : Int32, v2 = x4 + (1 : Int32) → I20 σ x1 x3 v2)) ∧ (¬ (σ 4 6) ≤ x5 → (vp_in x5 8) ∧ (vp_in x5 8) ∧ (((-(σ 24 (ix x5))) ≤ (σ 16 (ix x5)) → (∀ v6 : Int32, v6 = x5 + (1 : Int32) → I36 σ x1 x3 x4 v6)) ∧ (¬ (-(σ 24 (ix x5))) ≤ (σ 16 (ix x5)) → P (0 : Int32) σ))))
def j_D_staySolvent_36 (P : Int32 → Hp → Prop) (I20 : Hp → Int32 → Int32 → Int32 → Prop) (σ : Hp) (x1 : Int32) (x3 : Int32) (x4 : Int32) (x5 : Int32) : Prop := ∀ I36 : Hp → Int32 → Int32 → Int32 → Int32 → Prop, (∀ (σ : Hp) (x1 : Int32) (x3 : Int32) (x4 : Int32) (x5 : Int32), b_D_staySolvent_36_  P I20 I36 σ x1 x3 x4 x5 → I36 σ x1 x3 x4 x5) → I36 σ x1 x3 x4 x5
def b_D_staySolvent_20_ (P : Int32 → Hp → Prop)  (I20 : Hp → Int32 → Int32 → Int32 → Prop) (σ : Hp) (x1 : Int32) (x3 : Int32) (x4 : Int32) : Prop :=
  ((x1 < x4 → P (1 : Int32) σ) ∧ (¬ x1 < x4 → wp_D_passDay σ x4 x3 (fun (t9 : Hp) => j_D_staySolvent_36 P I20 t9 x1 x3 x4 (0 : Int32))))
def j_D_staySolvent_20 (P : Int32 → Hp → Prop)  (σ : Hp) (x1 : Int32) (x3 : Int32) (x4 : Int32) : Prop := ∀ I20 : Hp → Int32 → Int32 → Int32 → Prop, (∀ (σ : Hp) (x1 : Int32) (x3 : Int32) (x4 : Int32), b_D_staySolvent_20_  P  I20 σ x1 x3 x4 → I20 σ x1 x3 x4) → I20 σ x1 x3 x4
def wp_D_staySolvent (σ : Hp) (a1 : Int32) (a2 : Int32) (P : Int32 → Hp → Prop) : Prop :=
  wp_K_leading σ a2 (fun (r10 : Int32) (t11 : Hp) => wp_JA_fill t11 16 8 (0 : Int32) (fun (t13 : Hp) => j_D_staySolvent_20 P t13 a1 r10 (0 : Int32)))
set_option maxHeartbeats 4000000 in
set_option maxRecDepth 100000 in
theorem wj_D_staySolvent_36 {w : Wd} {κ : Kx} {P : Int32 → Hp → Prop} (hC : Cx μC w 6 κ nC1 b_D_staySolvent 2) (hR : RtI μC w 6 κ b_D_staySolvent .boolean P) {I20 : Hp → Int32 → Int32 → Int32 → Prop} (hI20 : ∀ σ x1 x3 x4, I20 σ x1 x3 x4 → V μC w 6 κ σ [some (.ref (w.1 3)), some (.int x1), none, some (.int x3), some (.int x4), none] 20 []) : ∀ (σ : Hp) (x1 : Int32) (x3 : Int32) (x4 : Int32) (x5 : Int32), j_D_staySolvent_36  P I20 σ x1 x3 x4 x5 → V μC w 6 κ σ [some (.ref (w.1 3)), some (.int x1), none, some (.int x3), some (.int x4), some (.int x5)] 36 [] := by
  intro σ x1 x3 x4 x5 h
  refine h (fun σ x1 x3 x4 x5 => V μC w 6 κ σ [some (.ref (w.1 3)), some (.int x1), none, some (.int x3), some (.int x4), some (.int x5)] 36 []) (fun σ x1 x3 x4 x5 h => ?_)
  unfold b_D_staySolvent_36_ at h
  refine V.iload hC d_D_staySolvent_36 rfl ?_
  refine V.aload_n hC d_D_staySolvent_38 rfl rfl ?_
  refine V.getR (j := 0) hC d_D_staySolvent_39 rfl rfl uC1 rfl rfl qf_D_12 ?_
  refine V.getI (j := 6) hC d_D_staySolvent_42 rfl rfl uC5 rfl rfl qf_D_75 ?_
  refine V.icmp_ge (tgt := 77) hC d_D_staySolvent_45 (by decide) (fun c1 => ?_) (fun c1 => ?_)
  · replace h := h.1 c1
    obtain ⟨v2, ev2⟩ : ∃ y : Int32, y = x4 + (1 : Int32) := ⟨_, rfl⟩
    replace h := h v2 ev2
    refine V.iinc (y := v2) (lo' := [some (.ref (w.1 3)), some (.int x1), none, some (.int x3), some (.int v2), some (.int x5)]) hC d_D_staySolvent_77 rfl rfl (show v2 = _ + Int32.ofInt (1) from ev2) rfl ?_
    refine V.goto (tgt := 20) hC d_D_staySolvent_80 (by decide) ?_
    exact V.msk [true, true, false, true, true, false] rfl (hI20 σ x1 x3 v2 h)
  · replace h := h.2 c1
    refine V.aload_n hC d_D_staySolvent_48 rfl rfl ?_
    refine V.getR (j := 2) hC d_D_staySolvent_49 rfl rfl uC1 rfl rfl qf_D_25 ?_
    refine V.iload hC d_D_staySolvent_52 rfl ?_
    obtain ⟨b3, h⟩ := h
    refine V.iald hC d_D_staySolvent_54 rfl b3 ?_
    refine V.aload_n hC d_D_staySolvent_55 rfl rfl ?_
    refine V.getR (j := 0) hC d_D_staySolvent_56 rfl rfl uC1 rfl rfl qf_D_12 ?_
    refine V.getR (j := 3) hC d_D_staySolvent_59 rfl rfl uC5 rfl rfl qf_D_95 ?_
    refine V.iload hC d_D_staySolvent_62 rfl ?_
    obtain ⟨b4, h⟩ := h
    refine V.iald hC d_D_staySolvent_64 rfl b4 ?_
    refine V.ineg hC d_D_staySolvent_65 ?_
    refine V.icmp_ge (tgt := 71) hC d_D_staySolvent_66 (by decide) (fun c5 => ?_) (fun c5 => ?_)
    · replace h := h.1 c5
      obtain ⟨v6, ev6⟩ : ∃ y : Int32, y = x5 + (1 : Int32) := ⟨_, rfl⟩
      replace h := h v6 ev6
      refine V.iinc (y := v6) (lo' := [some (.ref (w.1 3)), some (.int x1), none, some (.int x3), some (.int x4), some (.int v6)]) hC d_D_staySolvent_71 rfl rfl (show v6 = _ + Int32.ofInt (1) from ev6) rfl ?_
      refine V.goto (tgt := 36) hC d_D_staySolvent_74 (by decide) ?_
      exact V.msk [true, true, false, true, true, true] rfl h
    · replace h := h.2 c5
      refine V.iconst (v := 0) hC d_D_staySolvent_69 (by decide) ?_
      exact hR _ _ _ _ h (by decide) d_D_staySolvent_70
set_option maxHeartbeats 4000000 in
set_option maxRecDepth 100000 in
theorem wj_D_staySolvent_20 {w : Wd} {κ : Kx} {P : Int32 → Hp → Prop} (hC : Cx μC w 6 κ nC1 b_D_staySolvent 2) (hR : RtI μC w 6 κ b_D_staySolvent .boolean P)  : ∀ (σ : Hp) (x1 : Int32) (x3 : Int32) (x4 : Int32), j_D_staySolvent_20  P  σ x1 x3 x4 → V μC w 6 κ σ [some (.ref (w.1 3)), some (.int x1), none, some (.int x3), some (.int x4), none] 20 [] := by
  intro σ x1 x3 x4 h
  refine h (fun σ x1 x3 x4 => V μC w 6 κ σ [some (.ref (w.1 3)), some (.int x1), none, some (.int x3), some (.int x4), none] 20 []) (fun σ x1 x3 x4 h => ?_)
  unfold b_D_staySolvent_20_ at h
  refine V.iload hC d_D_staySolvent_20 rfl ?_
  refine V.iload_n hC d_D_staySolvent_22 rfl rfl ?_
  refine V.icmp_gt (tgt := 83) hC d_D_staySolvent_23 (by decide) (fun c7 => ?_) (fun c7 => ?_)
  · replace h := h.1 c7
    refine V.iconst (v := 1) hC d_D_staySolvent_83 (by decide) ?_
    exact hR _ _ _ _ h (by decide) d_D_staySolvent_84
  · replace h := h.2 c7
    refine V.aload_n hC d_D_staySolvent_26 rfl rfl ?_
    refine V.iload hC d_D_staySolvent_27 rfl ?_
    refine V.iload_n hC d_D_staySolvent_29 rfl rfl ?_
    refine V.callVN hC exC (w_D_passDay w σ x4 x3 _ h) d_D_staySolvent_30 mo_D_passDay qm_D_91 rfl rfl rfl rfl rfl rfl rfl (Nat.le_of_ble_eq_true rfl) (fun t9 h => ?_)
    refine V.iconst (v := 0) hC d_D_staySolvent_33 (by decide) ?_
    refine V.istore (y := (0 : Int32)) (lo' := [some (.ref (w.1 3)), some (.int x1), none, some (.int x3), some (.int x4), some (.int (0 : Int32))]) hC d_D_staySolvent_34 rfl rfl rfl ?_
    exact V.msk [true, true, false, true, true, true] rfl (wj_D_staySolvent_36  hC hR (fun _ _ _ _ h => h) t9 x1 x3 x4 (0 : Int32) h)
set_option maxHeartbeats 4000000 in
set_option maxRecDepth 100000 in
theorem w_D_staySolvent (w : Wd) (σ : Hp) (a1 : Int32) (a2 : Int32) (P : Int32 → Hp → Prop) (h : wp_D_staySolvent σ a1 a2 P) : CtI μC w y_D_staySolvent b_D_staySolvent 6 (some .boolean) 2 [.ref (w.1 3), .int a1, .int a2] σ P := by
  unfold wp_D_staySolvent at h
  refine CtI.ofV (C := nC1) (lo := [some (.ref (w.1 3)), some (.int a1), some (.int a2), none, none, none]) exC (by decide +kernel) rfl rfl rfl (fun κ hC hR => ?_)
  refine V.aload_n hC d_D_staySolvent_0 rfl rfl ?_
  refine V.getR (j := 1) hC d_D_staySolvent_1 rfl rfl uC1 rfl rfl qf_D_21 ?_
  refine V.iload_n hC d_D_staySolvent_4 rfl rfl ?_
  refine V.callVI hC exC (w_K_leading w σ a2 _ h) d_D_staySolvent_5 mo_K_leading qm_D_87 rfl rfl rfl rfl rfl rfl rfl (Nat.le_of_ble_eq_true rfl) (fun r10 t11 h => ?_)
  refine V.istore_n (y := r10) (lo' := [some (.ref (w.1 3)), some (.int a1), some (.int a2), some (.int r10), none, none]) hC d_D_staySolvent_8 rfl rfl rfl rfl ?_
  refine V.aload_n hC d_D_staySolvent_9 rfl rfl ?_
  refine V.getR (j := 2) hC d_D_staySolvent_10 rfl rfl uC1 rfl rfl qf_D_25 ?_
  refine V.iconst (v := 0) hC d_D_staySolvent_13 (by decide) ?_
  refine V.callSN hC exC (w_JA_fill w t11 16 8 (0 : Int32) _ h) d_D_staySolvent_14 mo_JA_fill qm_D_65 rfl rfl rfl rfl (Nat.le_of_ble_eq_true rfl) (fun t13 h => ?_)
  refine V.iconst (v := 0) hC d_D_staySolvent_17 (by decide) ?_
  refine V.istore (y := (0 : Int32)) (lo' := [some (.ref (w.1 3)), some (.int a1), some (.int a2), some (.int r10), some (.int (0 : Int32)), none]) hC d_D_staySolvent_18 rfl rfl rfl ?_
  exact V.msk [true, true, false, true, true, false] rfl (wj_D_staySolvent_20  hC hR  t13 a1 r10 (0 : Int32) h)
abbrev b_P_fewestDropped : ByteArray := prog_1_method_24_code
def y_P_fewestDropped : MethodName := ⟨nC7, "fewestDropped", "(I)I"⟩
theorem d_P_fewestDropped_0 : decode b_P_fewestDropped 0 = .ok (.aload_n 0, 1) := by decide +kernel
theorem d_P_fewestDropped_1 : decode b_P_fewestDropped 1 = .ok (.getfield 41, 3) := by decide +kernel
theorem d_P_fewestDropped_4 : decode b_P_fewestDropped 4 = .ok (.invokevirtual 224, 3) := by decide +kernel
theorem d_P_fewestDropped_7 : decode b_P_fewestDropped 7 = .ok (.istore_n 2, 1) := by decide +kernel
theorem d_P_fewestDropped_8 : decode b_P_fewestDropped 8 = .ok (.aload_n 0, 1) := by decide +kernel
theorem d_P_fewestDropped_9 : decode b_P_fewestDropped 9 = .ok (.getfield 28, 3) := by decide +kernel
theorem d_P_fewestDropped_12 : decode b_P_fewestDropped 12 = .ok (.iload_n 1, 1) := by decide +kernel
theorem d_P_fewestDropped_13 : decode b_P_fewestDropped 13 = .ok (.iload_n 2, 1) := by decide +kernel
theorem d_P_fewestDropped_14 : decode b_P_fewestDropped 14 = .ok (.invokevirtual 227, 3) := by decide +kernel
theorem d_P_fewestDropped_17 : decode b_P_fewestDropped 17 = .ok (.ifCond .eq 5, 3) := by decide +kernel
theorem d_P_fewestDropped_20 : decode b_P_fewestDropped 20 = .ok (.iconst 0, 1) := by decide +kernel
theorem d_P_fewestDropped_21 : decode b_P_fewestDropped 21 = .ok (.ireturn, 1) := by decide +kernel
theorem d_P_fewestDropped_22 : decode b_P_fewestDropped 22 = .ok (.iconst 0, 1) := by decide +kernel
theorem d_P_fewestDropped_23 : decode b_P_fewestDropped 23 = .ok (.istore_n 3, 1) := by decide +kernel
theorem d_P_fewestDropped_24 : decode b_P_fewestDropped 24 = .ok (.iload_n 3, 1) := by decide +kernel
theorem d_P_fewestDropped_25 : decode b_P_fewestDropped 25 = .ok (.aload_n 0, 1) := by decide +kernel
theorem d_P_fewestDropped_26 : decode b_P_fewestDropped 26 = .ok (.getfield 41, 3) := by decide +kernel
theorem d_P_fewestDropped_29 : decode b_P_fewestDropped 29 = .ok (.getfield 132, 3) := by decide +kernel
theorem d_P_fewestDropped_32 : decode b_P_fewestDropped 32 = .ok (.if_icmp .ge 31, 3) := by decide +kernel
theorem d_P_fewestDropped_35 : decode b_P_fewestDropped 35 = .ok (.aload_n 0, 1) := by decide +kernel
theorem d_P_fewestDropped_36 : decode b_P_fewestDropped 36 = .ok (.getfield 28, 3) := by decide +kernel
theorem d_P_fewestDropped_39 : decode b_P_fewestDropped 39 = .ok (.iload_n 1, 1) := by decide +kernel
theorem d_P_fewestDropped_40 : decode b_P_fewestDropped 40 = .ok (.iload_n 2, 1) := by decide +kernel
theorem d_P_fewestDropped_41 : decode b_P_fewestDropped 41 = .ok (.iconst 1, 1) := by decide +kernel
theorem d_P_fewestDropped_42 : decode b_P_fewestDropped 42 = .ok (.iload_n 3, 1) := by decide +kernel
theorem d_P_fewestDropped_43 : decode b_P_fewestDropped 43 = .ok (.ishl, 1) := by decide +kernel
theorem d_P_fewestDropped_44 : decode b_P_fewestDropped 44 = .ok (.iconst (-1), 1) := by decide +kernel
theorem d_P_fewestDropped_45 : decode b_P_fewestDropped 45 = .ok (.ixor, 1) := by decide +kernel
theorem d_P_fewestDropped_46 : decode b_P_fewestDropped 46 = .ok (.iand, 1) := by decide +kernel
theorem d_P_fewestDropped_47 : decode b_P_fewestDropped 47 = .ok (.invokevirtual 227, 3) := by decide +kernel
theorem d_P_fewestDropped_50 : decode b_P_fewestDropped 50 = .ok (.ifCond .eq 7, 3) := by decide +kernel
theorem d_P_fewestDropped_53 : decode b_P_fewestDropped 53 = .ok (.iconst 1, 1) := by decide +kernel
theorem d_P_fewestDropped_54 : decode b_P_fewestDropped 54 = .ok (.iload_n 3, 1) := by decide +kernel
theorem d_P_fewestDropped_55 : decode b_P_fewestDropped 55 = .ok (.ishl, 1) := by decide +kernel
theorem d_P_fewestDropped_56 : decode b_P_fewestDropped 56 = .ok (.ireturn, 1) := by decide +kernel
theorem d_P_fewestDropped_57 : decode b_P_fewestDropped 57 = .ok (.iinc 3 1, 3) := by decide +kernel
theorem d_P_fewestDropped_60 : decode b_P_fewestDropped 60 = .ok (.goto (-36), 3) := by decide +kernel
theorem d_P_fewestDropped_63 : decode b_P_fewestDropped 63 = .ok (.iconst 0, 1) := by decide +kernel
theorem d_P_fewestDropped_64 : decode b_P_fewestDropped 64 = .ok (.istore_n 3, 1) := by decide +kernel
theorem d_P_fewestDropped_65 : decode b_P_fewestDropped 65 = .ok (.iload_n 3, 1) := by decide +kernel
theorem d_P_fewestDropped_66 : decode b_P_fewestDropped 66 = .ok (.aload_n 0, 1) := by decide +kernel
theorem d_P_fewestDropped_67 : decode b_P_fewestDropped 67 = .ok (.getfield 41, 3) := by decide +kernel
theorem d_P_fewestDropped_70 : decode b_P_fewestDropped 70 = .ok (.getfield 132, 3) := by decide +kernel
theorem d_P_fewestDropped_73 : decode b_P_fewestDropped 73 = .ok (.if_icmp .ge 62, 3) := by decide +kernel
theorem d_P_fewestDropped_76 : decode b_P_fewestDropped 76 = .ok (.iload_n 3, 1) := by decide +kernel
theorem d_P_fewestDropped_77 : decode b_P_fewestDropped 77 = .ok (.iconst 1, 1) := by decide +kernel
theorem d_P_fewestDropped_78 : decode b_P_fewestDropped 78 = .ok (.iadd, 1) := by decide +kernel
theorem d_P_fewestDropped_79 : decode b_P_fewestDropped 79 = .ok (.istore 4, 2) := by decide +kernel
theorem d_P_fewestDropped_81 : decode b_P_fewestDropped 81 = .ok (.iload 4, 2) := by decide +kernel
theorem d_P_fewestDropped_83 : decode b_P_fewestDropped 83 = .ok (.aload_n 0, 1) := by decide +kernel
theorem d_P_fewestDropped_84 : decode b_P_fewestDropped 84 = .ok (.getfield 41, 3) := by decide +kernel
theorem d_P_fewestDropped_87 : decode b_P_fewestDropped 87 = .ok (.getfield 132, 3) := by decide +kernel
theorem d_P_fewestDropped_90 : decode b_P_fewestDropped 90 = .ok (.if_icmp .ge 39, 3) := by decide +kernel
theorem d_P_fewestDropped_93 : decode b_P_fewestDropped 93 = .ok (.iconst 1, 1) := by decide +kernel
theorem d_P_fewestDropped_94 : decode b_P_fewestDropped 94 = .ok (.iload_n 3, 1) := by decide +kernel
theorem d_P_fewestDropped_95 : decode b_P_fewestDropped 95 = .ok (.ishl, 1) := by decide +kernel
theorem d_P_fewestDropped_96 : decode b_P_fewestDropped 96 = .ok (.iconst 1, 1) := by decide +kernel
theorem d_P_fewestDropped_97 : decode b_P_fewestDropped 97 = .ok (.iload 4, 2) := by decide +kernel
theorem d_P_fewestDropped_99 : decode b_P_fewestDropped 99 = .ok (.ishl, 1) := by decide +kernel
theorem d_P_fewestDropped_100 : decode b_P_fewestDropped 100 = .ok (.ior, 1) := by decide +kernel
theorem d_P_fewestDropped_101 : decode b_P_fewestDropped 101 = .ok (.istore 5, 2) := by decide +kernel
theorem d_P_fewestDropped_103 : decode b_P_fewestDropped 103 = .ok (.aload_n 0, 1) := by decide +kernel
theorem d_P_fewestDropped_104 : decode b_P_fewestDropped 104 = .ok (.getfield 28, 3) := by decide +kernel
theorem d_P_fewestDropped_107 : decode b_P_fewestDropped 107 = .ok (.iload_n 1, 1) := by decide +kernel
theorem d_P_fewestDropped_108 : decode b_P_fewestDropped 108 = .ok (.iload_n 2, 1) := by decide +kernel
theorem d_P_fewestDropped_109 : decode b_P_fewestDropped 109 = .ok (.iload 5, 2) := by decide +kernel
theorem d_P_fewestDropped_111 : decode b_P_fewestDropped 111 = .ok (.iconst (-1), 1) := by decide +kernel
theorem d_P_fewestDropped_112 : decode b_P_fewestDropped 112 = .ok (.ixor, 1) := by decide +kernel
theorem d_P_fewestDropped_113 : decode b_P_fewestDropped 113 = .ok (.iand, 1) := by decide +kernel
theorem d_P_fewestDropped_114 : decode b_P_fewestDropped 114 = .ok (.invokevirtual 227, 3) := by decide +kernel
theorem d_P_fewestDropped_117 : decode b_P_fewestDropped 117 = .ok (.ifCond .eq 6, 3) := by decide +kernel
theorem d_P_fewestDropped_120 : decode b_P_fewestDropped 120 = .ok (.iload 5, 2) := by decide +kernel
theorem d_P_fewestDropped_122 : decode b_P_fewestDropped 122 = .ok (.ireturn, 1) := by decide +kernel
theorem d_P_fewestDropped_123 : decode b_P_fewestDropped 123 = .ok (.iinc 4 1, 3) := by decide +kernel
theorem d_P_fewestDropped_126 : decode b_P_fewestDropped 126 = .ok (.goto (-45), 3) := by decide +kernel
theorem d_P_fewestDropped_129 : decode b_P_fewestDropped 129 = .ok (.iinc 3 1, 3) := by decide +kernel
theorem d_P_fewestDropped_132 : decode b_P_fewestDropped 132 = .ok (.goto (-67), 3) := by decide +kernel
theorem d_P_fewestDropped_135 : decode b_P_fewestDropped 135 = .ok (.iconst (-1), 1) := by decide +kernel
theorem d_P_fewestDropped_136 : decode b_P_fewestDropped 136 = .ok (.ireturn, 1) := by decide +kernel
theorem qm_P_224 : Cond.methodLink nC7 224 y_K_allSuits ∈ tbl := tbl_in 684 (by decide +kernel) rfl
theorem qm_P_227 : Cond.methodLink nC7 227 y_D_staySolvent ∈ tbl := tbl_in 685 (by decide +kernel) rfl
theorem mo_P_fewestDropped : MokV y_P_fewestDropped b_P_fewestDropped 6 (some .int) 1 := ⟨⟨(tbl_in 683 (by decide +kernel) rfl), (tbl_in 62 (by decide +kernel) rfl)⟩, ⟨(tbl_in 682 (by decide +kernel) rfl), tbl_lw _ (tbl_in 10 (by decide +kernel) rfl), (tbl_in 10 (by decide +kernel) rfl)⟩, ⟨by decide +kernel, by decide +kernel⟩, by decide +kernel⟩
def b_P_fewestDropped_81_ (P : Int32 → Hp → Prop) (I65 : Hp → Int32 → Int32 → Int32 → Prop) (I81 : Hp → Int32 → Int32 → Int32 → Int32 → Prop) (σ : Hp) (x1 : Int32) (x2 : Int32) (x3 : Int32) (x4 : Int32) : Prop :=
  (((σ 5 6) ≤ x4 → (∀ v2 : Int32, v2 = x3 + (1 : Int32) → I65 σ x1 x2 v2)) ∧ (¬ (σ 5 6) ≤ x4 → (∀ v3 : Int32, v3 = ((1 : Int32) <<< (x3 &&& 31)) ||| ((1 : Int32) <<< (x4 &&& 31)) → wp_D_staySolvent σ x1 (x2 &&& (v3 ^^^ (-1 : Int32))) (fun (r4 : Int32) (t5 : Hp) => ((r4 = 0 → (∀ v7 : Int32, v7 = x4 + (1 : Int32) → I81 t5 x1 x2 x3 v7)) ∧ (¬ r4 = 0 → P v3 t5))))))
def j_P_fewestDropped_81 (P : Int32 → Hp → Prop) (I65 : Hp → Int32 → Int32 → Int32 → Prop) (σ : Hp) (x1 : Int32) (x2 : Int32) (x3 : Int32) (x4 : Int32) : Prop := ∀ I81 : Hp → Int32 → Int32 → Int32 → Int32 → Prop, (∀ (σ : Hp) (x1 : Int32) (x2 : Int32) (x3 : Int32) (x4 : Int32), b_P_fewestDropped_81_  P I65 I81 σ x1 x2 x3 x4 → I81 σ x1 x2 x3 x4) → I81 σ x1 x2 x3 x4
def b_P_fewestDropped_65_ (P : Int32 → Hp → Prop)  (I65 : Hp → Int32 → Int32 → Int32 → Prop) (σ : Hp) (x1 : Int32) (x2 : Int32) (x3 : Int32) : Prop :=
  (((σ 5 6) ≤ x3 → P (-1 : Int32) σ) ∧ (¬ (σ 5 6) ≤ x3 → (∀ v9 : Int32, v9 = x3 + (1 : Int32) → j_P_fewestDropped_81 P I65 σ x1 x2 x3 v9)))
def j_P_fewestDropped_65 (P : Int32 → Hp → Prop)  (σ : Hp) (x1 : Int32) (x2 : Int32) (x3 : Int32) : Prop := ∀ I65 : Hp → Int32 → Int32 → Int32 → Prop, (∀ (σ : Hp) (x1 : Int32) (x2 : Int32) (x3 : Int32), b_P_fewestDropped_65_  P  I65 σ x1 x2 x3 → I65 σ x1 x2 x3) → I65 σ x1 x2 x3
def b_P_fewestDropped_24_ (P : Int32 → Hp → Prop)  (I24 : Hp → Int32 → Int32 → Int32 → Prop) (σ : Hp) (x1 : Int32) (x2 : Int32) (x3 : Int32) : Prop :=
  (((σ 5 6) ≤ x3 → j_P_fewestDropped_65 P σ x1 x2 (0 : Int32)) ∧ (¬ (σ 5 6) ≤ x3 → wp_D_staySolvent σ x1 (x2 &&& (((1 : Int32) <<< (x3 &&& 31)) ^^^ (-1 : Int32))) (fun (r11 : Int32) (t12 : Hp) => ((r11 = 0 → (∀ v14 : Int32, v14 = x3 + (1 : Int32) → I24 t12 x1 x2 v14)) ∧ (¬ r11 = 0 → P ((1 : Int32) <<< (x3 &&& 31)) t12)))))
def j_P_fewestDropped_24 (P : Int32 → Hp → Prop)  (σ : Hp) (x1 : Int32) (x2 : Int32) (x3 : Int32) : Prop := ∀ I24 : Hp → Int32 → Int32 → Int32 → Prop, (∀ (σ : Hp) (x1 : Int32) (x2 : Int32) (x3 : Int32), b_P_fewestDropped_24_  P  I24 σ x1 x2 x3 → I24 σ x1 x2 x3) → I24 σ x1 x2 x3
def wp_P_fewestDropped (σ : Hp) (a1 : Int32) (P : Int32 → Hp → Prop) : Prop :=
  wp_K_allSuits σ (fun (r15 : Int32) (t16 : Hp) => wp_D_staySolvent t16 a1 r15 (fun (r17 : Int32) (t18 : Hp) => ((r17 = 0 → j_P_fewestDropped_24 P t18 a1 r15 (0 : Int32)) ∧ (¬ r17 = 0 → P (0 : Int32) t18))))
set_option maxHeartbeats 4000000 in
set_option maxRecDepth 100000 in
theorem wj_P_fewestDropped_81 {w : Wd} {κ : Kx} {P : Int32 → Hp → Prop} (hC : Cx μC w 6 κ nC7 b_P_fewestDropped 3) (hR : RtI μC w 6 κ b_P_fewestDropped .int P) {I65 : Hp → Int32 → Int32 → Int32 → Prop} (hI65 : ∀ σ x1 x2 x3, I65 σ x1 x2 x3 → V μC w 6 κ σ [some (.ref (w.1 0)), some (.int x1), some (.int x2), some (.int x3), none, none] 65 []) : ∀ (σ : Hp) (x1 : Int32) (x2 : Int32) (x3 : Int32) (x4 : Int32), j_P_fewestDropped_81  P I65 σ x1 x2 x3 x4 → V μC w 6 κ σ [some (.ref (w.1 0)), some (.int x1), some (.int x2), some (.int x3), some (.int x4), none] 81 [] := by
  intro σ x1 x2 x3 x4 h
  refine h (fun σ x1 x2 x3 x4 => V μC w 6 κ σ [some (.ref (w.1 0)), some (.int x1), some (.int x2), some (.int x3), some (.int x4), none] 81 []) (fun σ x1 x2 x3 x4 h => ?_)
  unfold b_P_fewestDropped_81_ at h
  refine V.iload hC d_P_fewestDropped_81 rfl ?_
  refine V.aload_n hC d_P_fewestDropped_83 rfl rfl ?_
  refine V.getR (j := 4) hC d_P_fewestDropped_84 rfl rfl uC7 rfl rfl qf_P_41 ?_
  refine V.getI (j := 6) hC d_P_fewestDropped_87 rfl rfl uC2 rfl rfl qf_P_132 ?_
  refine V.icmp_ge (tgt := 129) hC d_P_fewestDropped_90 (by decide) (fun c1 => ?_) (fun c1 => ?_)
  · replace h := h.1 c1
    obtain ⟨v2, ev2⟩ : ∃ y : Int32, y = x3 + (1 : Int32) := ⟨_, rfl⟩
    replace h := h v2 ev2
    refine V.iinc (y := v2) (lo' := [some (.ref (w.1 0)), some (.int x1), some (.int x2), some (.int v2), some (.int x4), none]) hC d_P_fewestDropped_129 rfl rfl (show v2 = _ + Int32.ofInt (1) from ev2) rfl ?_
    refine V.goto (tgt := 65) hC d_P_fewestDropped_132 (by decide) ?_
    exact V.msk [true, true, true, true, false, false] rfl (hI65 σ x1 x2 v2 h)
  · replace h := h.2 c1
    refine V.iconst (v := 1) hC d_P_fewestDropped_93 (by decide) ?_
    refine V.iload_n hC d_P_fewestDropped_94 rfl rfl ?_
    refine V.ishl hC d_P_fewestDropped_95 ?_
    refine V.iconst (v := 1) hC d_P_fewestDropped_96 (by decide) ?_
    refine V.iload hC d_P_fewestDropped_97 rfl ?_
    refine V.ishl hC d_P_fewestDropped_99 ?_
    refine V.ior hC d_P_fewestDropped_100 ?_
    obtain ⟨v3, ev3⟩ : ∃ y : Int32, y = ((1 : Int32) <<< (x3 &&& 31)) ||| ((1 : Int32) <<< (x4 &&& 31)) := ⟨_, rfl⟩
    replace h := h v3 ev3
    refine V.istore (y := v3) (lo' := [some (.ref (w.1 0)), some (.int x1), some (.int x2), some (.int x3), some (.int x4), some (.int v3)]) hC d_P_fewestDropped_101 rfl ev3 rfl ?_
    refine V.aload_n hC d_P_fewestDropped_103 rfl rfl ?_
    refine V.getR (j := 2) hC d_P_fewestDropped_104 rfl rfl uC7 rfl rfl qf_P_28 ?_
    refine V.iload_n hC d_P_fewestDropped_107 rfl rfl ?_
    refine V.iload_n hC d_P_fewestDropped_108 rfl rfl ?_
    refine V.iload hC d_P_fewestDropped_109 rfl ?_
    refine V.iconst (v := -1) hC d_P_fewestDropped_111 (by decide) ?_
    refine V.ixor hC d_P_fewestDropped_112 ?_
    refine V.iand hC d_P_fewestDropped_113 ?_
    refine V.callVI hC exC (w_D_staySolvent w σ x1 (x2 &&& (v3 ^^^ (-1 : Int32))) _ h) d_P_fewestDropped_114 mo_D_staySolvent qm_P_227 rfl rfl rfl rfl rfl rfl rfl (Nat.le_of_ble_eq_true rfl) (fun r4 t5 h => ?_)
    refine V.if_eq (tgt := 123) hC d_P_fewestDropped_117 (by decide) (fun c6 => ?_) (fun c6 => ?_)
    · replace h := h.1 c6
      obtain ⟨v7, ev7⟩ : ∃ y : Int32, y = x4 + (1 : Int32) := ⟨_, rfl⟩
      replace h := h v7 ev7
      refine V.iinc (y := v7) (lo' := [some (.ref (w.1 0)), some (.int x1), some (.int x2), some (.int x3), some (.int v7), some (.int v3)]) hC d_P_fewestDropped_123 rfl rfl (show v7 = _ + Int32.ofInt (1) from ev7) rfl ?_
      refine V.goto (tgt := 81) hC d_P_fewestDropped_126 (by decide) ?_
      exact V.msk [true, true, true, true, true, false] rfl h
    · replace h := h.2 c6
      refine V.iload hC d_P_fewestDropped_120 rfl ?_
      exact hR _ _ _ _ h rfl d_P_fewestDropped_122
set_option maxHeartbeats 4000000 in
set_option maxRecDepth 100000 in
theorem wj_P_fewestDropped_65 {w : Wd} {κ : Kx} {P : Int32 → Hp → Prop} (hC : Cx μC w 6 κ nC7 b_P_fewestDropped 3) (hR : RtI μC w 6 κ b_P_fewestDropped .int P)  : ∀ (σ : Hp) (x1 : Int32) (x2 : Int32) (x3 : Int32), j_P_fewestDropped_65  P  σ x1 x2 x3 → V μC w 6 κ σ [some (.ref (w.1 0)), some (.int x1), some (.int x2), some (.int x3), none, none] 65 [] := by
  intro σ x1 x2 x3 h
  refine h (fun σ x1 x2 x3 => V μC w 6 κ σ [some (.ref (w.1 0)), some (.int x1), some (.int x2), some (.int x3), none, none] 65 []) (fun σ x1 x2 x3 h => ?_)
  unfold b_P_fewestDropped_65_ at h
  refine V.iload_n hC d_P_fewestDropped_65 rfl rfl ?_
  refine V.aload_n hC d_P_fewestDropped_66 rfl rfl ?_
  refine V.getR (j := 4) hC d_P_fewestDropped_67 rfl rfl uC7 rfl rfl qf_P_41 ?_
  refine V.getI (j := 6) hC d_P_fewestDropped_70 rfl rfl uC2 rfl rfl qf_P_132 ?_
  refine V.icmp_ge (tgt := 135) hC d_P_fewestDropped_73 (by decide) (fun c8 => ?_) (fun c8 => ?_)
  · replace h := h.1 c8
    refine V.iconst (v := -1) hC d_P_fewestDropped_135 (by decide) ?_
    exact hR _ _ _ _ h rfl d_P_fewestDropped_136
  · replace h := h.2 c8
    refine V.iload_n hC d_P_fewestDropped_76 rfl rfl ?_
    refine V.iconst (v := 1) hC d_P_fewestDropped_77 (by decide) ?_
    refine V.iadd hC d_P_fewestDropped_78 ?_
    obtain ⟨v9, ev9⟩ : ∃ y : Int32, y = x3 + (1 : Int32) := ⟨_, rfl⟩
    replace h := h v9 ev9
    refine V.istore (y := v9) (lo' := [some (.ref (w.1 0)), some (.int x1), some (.int x2), some (.int x3), some (.int v9), none]) hC d_P_fewestDropped_79 rfl ev9 rfl ?_
    exact V.msk [true, true, true, true, true, false] rfl (wj_P_fewestDropped_81  hC hR (fun _ _ _ _ h => h) σ x1 x2 x3 v9 h)
set_option maxHeartbeats 4000000 in
set_option maxRecDepth 100000 in
theorem wj_P_fewestDropped_24 {w : Wd} {κ : Kx} {P : Int32 → Hp → Prop} (hC : Cx μC w 6 κ nC7 b_P_fewestDropped 3) (hR : RtI μC w 6 κ b_P_fewestDropped .int P)  : ∀ (σ : Hp) (x1 : Int32) (x2 : Int32) (x3 : Int32), j_P_fewestDropped_24  P  σ x1 x2 x3 → V μC w 6 κ σ [some (.ref (w.1 0)), some (.int x1), some (.int x2), some (.int x3), none, none] 24 [] := by
  intro σ x1 x2 x3 h
  refine h (fun σ x1 x2 x3 => V μC w 6 κ σ [some (.ref (w.1 0)), some (.int x1), some (.int x2), some (.int x3), none, none] 24 []) (fun σ x1 x2 x3 h => ?_)
  unfold b_P_fewestDropped_24_ at h
  refine V.iload_n hC d_P_fewestDropped_24 rfl rfl ?_
  refine V.aload_n hC d_P_fewestDropped_25 rfl rfl ?_
  refine V.getR (j := 4) hC d_P_fewestDropped_26 rfl rfl uC7 rfl rfl qf_P_41 ?_
  refine V.getI (j := 6) hC d_P_fewestDropped_29 rfl rfl uC2 rfl rfl qf_P_132 ?_
  refine V.icmp_ge (tgt := 63) hC d_P_fewestDropped_32 (by decide) (fun c10 => ?_) (fun c10 => ?_)
  · replace h := h.1 c10
    refine V.iconst (v := 0) hC d_P_fewestDropped_63 (by decide) ?_
    refine V.istore_n (y := (0 : Int32)) (lo' := [some (.ref (w.1 0)), some (.int x1), some (.int x2), some (.int (0 : Int32)), none, none]) hC d_P_fewestDropped_64 rfl rfl rfl rfl ?_
    exact V.msk [true, true, true, true, false, false] rfl (wj_P_fewestDropped_65  hC hR  σ x1 x2 (0 : Int32) h)
  · replace h := h.2 c10
    refine V.aload_n hC d_P_fewestDropped_35 rfl rfl ?_
    refine V.getR (j := 2) hC d_P_fewestDropped_36 rfl rfl uC7 rfl rfl qf_P_28 ?_
    refine V.iload_n hC d_P_fewestDropped_39 rfl rfl ?_
    refine V.iload_n hC d_P_fewestDropped_40 rfl rfl ?_
    refine V.iconst (v := 1) hC d_P_fewestDropped_41 (by decide) ?_
    refine V.iload_n hC d_P_fewestDropped_42 rfl rfl ?_
    refine V.ishl hC d_P_fewestDropped_43 ?_
    refine V.iconst (v := -1) hC d_P_fewestDropped_44 (by decide) ?_
    refine V.ixor hC d_P_fewestDropped_45 ?_
    refine V.iand hC d_P_fewestDropped_46 ?_
    refine V.callVI hC exC (w_D_staySolvent w σ x1 (x2 &&& (((1 : Int32) <<< (x3 &&& 31)) ^^^ (-1 : Int32))) _ h) d_P_fewestDropped_47 mo_D_staySolvent qm_P_227 rfl rfl rfl rfl rfl rfl rfl (Nat.le_of_ble_eq_true rfl) (fun r11 t12 h => ?_)
    refine V.if_eq (tgt := 57) hC d_P_fewestDropped_50 (by decide) (fun c13 => ?_) (fun c13 => ?_)
    · replace h := h.1 c13
      obtain ⟨v14, ev14⟩ : ∃ y : Int32, y = x3 + (1 : Int32) := ⟨_, rfl⟩
      replace h := h v14 ev14
      refine V.iinc (y := v14) (lo' := [some (.ref (w.1 0)), some (.int x1), some (.int x2), some (.int v14), none, none]) hC d_P_fewestDropped_57 rfl rfl (show v14 = _ + Int32.ofInt (1) from ev14) rfl ?_
      refine V.goto (tgt := 24) hC d_P_fewestDropped_60 (by decide) ?_
      exact V.msk [true, true, true, true, false, false] rfl h
    · replace h := h.2 c13
      refine V.iconst (v := 1) hC d_P_fewestDropped_53 (by decide) ?_
      refine V.iload_n hC d_P_fewestDropped_54 rfl rfl ?_
      refine V.ishl hC d_P_fewestDropped_55 ?_
      exact hR _ _ _ _ h rfl d_P_fewestDropped_56
set_option maxHeartbeats 4000000 in
set_option maxRecDepth 100000 in
theorem w_P_fewestDropped (w : Wd) (σ : Hp) (a1 : Int32) (P : Int32 → Hp → Prop) (h : wp_P_fewestDropped σ a1 P) : CtI μC w y_P_fewestDropped b_P_fewestDropped 6 (some .int) 3 [.ref (w.1 0), .int a1] σ P := by
  unfold wp_P_fewestDropped at h
  refine CtI.ofV (C := nC7) (lo := [some (.ref (w.1 0)), some (.int a1), none, none, none, none]) exC (by decide +kernel) rfl rfl rfl (fun κ hC hR => ?_)
  refine V.aload_n hC d_P_fewestDropped_0 rfl rfl ?_
  refine V.getR (j := 4) hC d_P_fewestDropped_1 rfl rfl uC7 rfl rfl qf_P_41 ?_
  refine V.callVI hC exC (w_K_allSuits w σ  _ h) d_P_fewestDropped_4 mo_K_allSuits qm_P_224 rfl rfl rfl rfl rfl rfl rfl (Nat.le_of_ble_eq_true rfl) (fun r15 t16 h => ?_)
  refine V.istore_n (y := r15) (lo' := [some (.ref (w.1 0)), some (.int a1), some (.int r15), none, none, none]) hC d_P_fewestDropped_7 rfl rfl rfl rfl ?_
  refine V.aload_n hC d_P_fewestDropped_8 rfl rfl ?_
  refine V.getR (j := 2) hC d_P_fewestDropped_9 rfl rfl uC7 rfl rfl qf_P_28 ?_
  refine V.iload_n hC d_P_fewestDropped_12 rfl rfl ?_
  refine V.iload_n hC d_P_fewestDropped_13 rfl rfl ?_
  refine V.callVI hC exC (w_D_staySolvent w t16 a1 r15 _ h) d_P_fewestDropped_14 mo_D_staySolvent qm_P_227 rfl rfl rfl rfl rfl rfl rfl (Nat.le_of_ble_eq_true rfl) (fun r17 t18 h => ?_)
  refine V.if_eq (tgt := 22) hC d_P_fewestDropped_17 (by decide) (fun c19 => ?_) (fun c19 => ?_)
  · replace h := h.1 c19
    refine V.iconst (v := 0) hC d_P_fewestDropped_22 (by decide) ?_
    refine V.istore_n (y := (0 : Int32)) (lo' := [some (.ref (w.1 0)), some (.int a1), some (.int r15), some (.int (0 : Int32)), none, none]) hC d_P_fewestDropped_23 rfl rfl rfl rfl ?_
    exact V.msk [true, true, true, true, false, false] rfl (wj_P_fewestDropped_24  hC hR  t18 a1 r15 (0 : Int32) h)
  · replace h := h.2 c19
    refine V.iconst (v := 0) hC d_P_fewestDropped_20 (by decide) ?_
    exact hR _ _ _ _ h rfl d_P_fewestDropped_21
abbrev b_JI_numberOfTrailingZeros : ByteArray := prog_12_method_48_code
def y_JI_numberOfTrailingZeros : MethodName := ⟨"java/lang/Integer", "numberOfTrailingZeros", "(I)I"⟩
theorem d_JI_numberOfTrailingZeros_0 : decode b_JI_numberOfTrailingZeros 0 = .ok (.iload_n 0, 1) := by decide +kernel
theorem d_JI_numberOfTrailingZeros_1 : decode b_JI_numberOfTrailingZeros 1 = .ok (.iconst (-1), 1) := by decide +kernel
theorem d_JI_numberOfTrailingZeros_2 : decode b_JI_numberOfTrailingZeros 2 = .ok (.ixor, 1) := by decide +kernel
theorem d_JI_numberOfTrailingZeros_3 : decode b_JI_numberOfTrailingZeros 3 = .ok (.iload_n 0, 1) := by decide +kernel
theorem d_JI_numberOfTrailingZeros_4 : decode b_JI_numberOfTrailingZeros 4 = .ok (.iconst 1, 1) := by decide +kernel
theorem d_JI_numberOfTrailingZeros_5 : decode b_JI_numberOfTrailingZeros 5 = .ok (.isub, 1) := by decide +kernel
theorem d_JI_numberOfTrailingZeros_6 : decode b_JI_numberOfTrailingZeros 6 = .ok (.iand, 1) := by decide +kernel
theorem d_JI_numberOfTrailingZeros_7 : decode b_JI_numberOfTrailingZeros 7 = .ok (.istore_n 0, 1) := by decide +kernel
theorem d_JI_numberOfTrailingZeros_8 : decode b_JI_numberOfTrailingZeros 8 = .ok (.iload_n 0, 1) := by decide +kernel
theorem d_JI_numberOfTrailingZeros_9 : decode b_JI_numberOfTrailingZeros 9 = .ok (.ifCond .gt 8, 3) := by decide +kernel
theorem d_JI_numberOfTrailingZeros_12 : decode b_JI_numberOfTrailingZeros 12 = .ok (.iload_n 0, 1) := by decide +kernel
theorem d_JI_numberOfTrailingZeros_13 : decode b_JI_numberOfTrailingZeros 13 = .ok (.bipush 32, 2) := by decide +kernel
theorem d_JI_numberOfTrailingZeros_15 : decode b_JI_numberOfTrailingZeros 15 = .ok (.iand, 1) := by decide +kernel
theorem d_JI_numberOfTrailingZeros_16 : decode b_JI_numberOfTrailingZeros 16 = .ok (.ireturn, 1) := by decide +kernel
theorem d_JI_numberOfTrailingZeros_17 : decode b_JI_numberOfTrailingZeros 17 = .ok (.iconst 1, 1) := by decide +kernel
theorem d_JI_numberOfTrailingZeros_18 : decode b_JI_numberOfTrailingZeros 18 = .ok (.istore_n 1, 1) := by decide +kernel
theorem d_JI_numberOfTrailingZeros_19 : decode b_JI_numberOfTrailingZeros 19 = .ok (.iload_n 0, 1) := by decide +kernel
theorem d_JI_numberOfTrailingZeros_20 : decode b_JI_numberOfTrailingZeros 20 = .ok (.ldc_w 264, 3) := by decide +kernel
theorem d_JI_numberOfTrailingZeros_23 : decode b_JI_numberOfTrailingZeros 23 = .ok (.if_icmp .le 11, 3) := by decide +kernel
theorem d_JI_numberOfTrailingZeros_26 : decode b_JI_numberOfTrailingZeros 26 = .ok (.iinc 1 16, 3) := by decide +kernel
theorem d_JI_numberOfTrailingZeros_29 : decode b_JI_numberOfTrailingZeros 29 = .ok (.iload_n 0, 1) := by decide +kernel
theorem d_JI_numberOfTrailingZeros_30 : decode b_JI_numberOfTrailingZeros 30 = .ok (.bipush 16, 2) := by decide +kernel
theorem d_JI_numberOfTrailingZeros_32 : decode b_JI_numberOfTrailingZeros 32 = .ok (.iushr, 1) := by decide +kernel
theorem d_JI_numberOfTrailingZeros_33 : decode b_JI_numberOfTrailingZeros 33 = .ok (.istore_n 0, 1) := by decide +kernel
theorem d_JI_numberOfTrailingZeros_34 : decode b_JI_numberOfTrailingZeros 34 = .ok (.iload_n 0, 1) := by decide +kernel
theorem d_JI_numberOfTrailingZeros_35 : decode b_JI_numberOfTrailingZeros 35 = .ok (.sipush 256, 3) := by decide +kernel
theorem d_JI_numberOfTrailingZeros_38 : decode b_JI_numberOfTrailingZeros 38 = .ok (.if_icmp .le 11, 3) := by decide +kernel
theorem d_JI_numberOfTrailingZeros_41 : decode b_JI_numberOfTrailingZeros 41 = .ok (.iinc 1 8, 3) := by decide +kernel
theorem d_JI_numberOfTrailingZeros_44 : decode b_JI_numberOfTrailingZeros 44 = .ok (.iload_n 0, 1) := by decide +kernel
theorem d_JI_numberOfTrailingZeros_45 : decode b_JI_numberOfTrailingZeros 45 = .ok (.bipush 8, 2) := by decide +kernel
theorem d_JI_numberOfTrailingZeros_47 : decode b_JI_numberOfTrailingZeros 47 = .ok (.iushr, 1) := by decide +kernel
theorem d_JI_numberOfTrailingZeros_48 : decode b_JI_numberOfTrailingZeros 48 = .ok (.istore_n 0, 1) := by decide +kernel
theorem d_JI_numberOfTrailingZeros_49 : decode b_JI_numberOfTrailingZeros 49 = .ok (.iload_n 0, 1) := by decide +kernel
theorem d_JI_numberOfTrailingZeros_50 : decode b_JI_numberOfTrailingZeros 50 = .ok (.bipush 16, 2) := by decide +kernel
theorem d_JI_numberOfTrailingZeros_52 : decode b_JI_numberOfTrailingZeros 52 = .ok (.if_icmp .le 10, 3) := by decide +kernel
theorem d_JI_numberOfTrailingZeros_55 : decode b_JI_numberOfTrailingZeros 55 = .ok (.iinc 1 4, 3) := by decide +kernel
theorem d_JI_numberOfTrailingZeros_58 : decode b_JI_numberOfTrailingZeros 58 = .ok (.iload_n 0, 1) := by decide +kernel
theorem d_JI_numberOfTrailingZeros_59 : decode b_JI_numberOfTrailingZeros 59 = .ok (.iconst 4, 1) := by decide +kernel
theorem d_JI_numberOfTrailingZeros_60 : decode b_JI_numberOfTrailingZeros 60 = .ok (.iushr, 1) := by decide +kernel
theorem d_JI_numberOfTrailingZeros_61 : decode b_JI_numberOfTrailingZeros 61 = .ok (.istore_n 0, 1) := by decide +kernel
theorem d_JI_numberOfTrailingZeros_62 : decode b_JI_numberOfTrailingZeros 62 = .ok (.iload_n 0, 1) := by decide +kernel
theorem d_JI_numberOfTrailingZeros_63 : decode b_JI_numberOfTrailingZeros 63 = .ok (.iconst 4, 1) := by decide +kernel
theorem d_JI_numberOfTrailingZeros_64 : decode b_JI_numberOfTrailingZeros 64 = .ok (.if_icmp .le 10, 3) := by decide +kernel
theorem d_JI_numberOfTrailingZeros_67 : decode b_JI_numberOfTrailingZeros 67 = .ok (.iinc 1 2, 3) := by decide +kernel
theorem d_JI_numberOfTrailingZeros_70 : decode b_JI_numberOfTrailingZeros 70 = .ok (.iload_n 0, 1) := by decide +kernel
theorem d_JI_numberOfTrailingZeros_71 : decode b_JI_numberOfTrailingZeros 71 = .ok (.iconst 2, 1) := by decide +kernel
theorem d_JI_numberOfTrailingZeros_72 : decode b_JI_numberOfTrailingZeros 72 = .ok (.iushr, 1) := by decide +kernel
theorem d_JI_numberOfTrailingZeros_73 : decode b_JI_numberOfTrailingZeros 73 = .ok (.istore_n 0, 1) := by decide +kernel
theorem d_JI_numberOfTrailingZeros_74 : decode b_JI_numberOfTrailingZeros 74 = .ok (.iload_n 1, 1) := by decide +kernel
theorem d_JI_numberOfTrailingZeros_75 : decode b_JI_numberOfTrailingZeros 75 = .ok (.iload_n 0, 1) := by decide +kernel
theorem d_JI_numberOfTrailingZeros_76 : decode b_JI_numberOfTrailingZeros 76 = .ok (.iconst 1, 1) := by decide +kernel
theorem d_JI_numberOfTrailingZeros_77 : decode b_JI_numberOfTrailingZeros 77 = .ok (.iushr, 1) := by decide +kernel
theorem d_JI_numberOfTrailingZeros_78 : decode b_JI_numberOfTrailingZeros 78 = .ok (.iadd, 1) := by decide +kernel
theorem d_JI_numberOfTrailingZeros_79 : decode b_JI_numberOfTrailingZeros 79 = .ok (.ireturn, 1) := by decide +kernel
theorem qc_JI_264 : Cond.constant "java/lang/Integer" 264 (65536) ∈ tbl := tbl_in 698 (by decide +kernel) rfl
theorem mo_JI_numberOfTrailingZeros : MokS y_JI_numberOfTrailingZeros b_JI_numberOfTrailingZeros 2 (some .int) 1 := ⟨⟨(tbl_in 697 (by decide +kernel) rfl), (tbl_in 78 (by decide +kernel) rfl)⟩, (tbl_in 696 (by decide +kernel) rfl), ⟨by decide +kernel, by decide +kernel⟩, by decide +kernel⟩
def j_JI_numberOfTrailingZeros_62 (P : Int32 → Hp → Prop)  (σ : Hp) (x0 : Int32) (x1 : Int32) : Prop :=
  ((x0 ≤ (4 : Int32) → P (x1 + ((x0.toUInt32 >>> ((1 : Int32).toUInt32 &&& Int32.toUInt32 31)).toInt32)) σ) ∧ (¬ x0 ≤ (4 : Int32) → (∀ v2 : Int32, v2 = x1 + (2 : Int32) → (∀ v3 : Int32, v3 = (x0.toUInt32 >>> ((2 : Int32).toUInt32 &&& Int32.toUInt32 31)).toInt32 → P (v2 + ((v3.toUInt32 >>> ((1 : Int32).toUInt32 &&& Int32.toUInt32 31)).toInt32)) σ))))
def j_JI_numberOfTrailingZeros_49 (P : Int32 → Hp → Prop)  (σ : Hp) (x0 : Int32) (x1 : Int32) : Prop :=
  ((x0 ≤ (16 : Int32) → j_JI_numberOfTrailingZeros_62 P σ x0 x1) ∧ (¬ x0 ≤ (16 : Int32) → (∀ v5 : Int32, v5 = x1 + (4 : Int32) → (∀ v6 : Int32, v6 = (x0.toUInt32 >>> ((4 : Int32).toUInt32 &&& Int32.toUInt32 31)).toInt32 → j_JI_numberOfTrailingZeros_62 P σ v6 v5))))
def j_JI_numberOfTrailingZeros_34 (P : Int32 → Hp → Prop)  (σ : Hp) (x0 : Int32) (x1 : Int32) : Prop :=
  ((x0 ≤ (256 : Int32) → j_JI_numberOfTrailingZeros_49 P σ x0 x1) ∧ (¬ x0 ≤ (256 : Int32) → (∀ v8 : Int32, v8 = x1 + (8 : Int32) → (∀ v9 : Int32, v9 = (x0.toUInt32 >>> ((8 : Int32).toUInt32 &&& Int32.toUInt32 31)).toInt32 → j_JI_numberOfTrailingZeros_49 P σ v9 v8))))
def wp_JI_numberOfTrailingZeros (σ : Hp) (a1 : Int32) (P : Int32 → Hp → Prop) : Prop :=
  (∀ v10 : Int32, v10 = (a1 ^^^ (-1 : Int32)) &&& (a1 - (1 : Int32)) → ((0 < v10 → ((v10 ≤ (65536 : Int32) → j_JI_numberOfTrailingZeros_34 P σ v10 (1 : Int32)) ∧ (¬ v10 ≤ (65536 : Int32) → (∀ v13 : Int32, v13 = (1 : Int32) + (16 : Int32) → (∀ v14 : Int32, v14 = (v10.toUInt32 >>> ((16 : Int32).toUInt32 &&& Int32.toUInt32 31)).toInt32 → j_JI_numberOfTrailingZeros_34 P σ v14 v13))))) ∧ (¬ 0 < v10 → P (v10 &&& (32 : Int32)) σ)))
set_option maxHeartbeats 4000000 in
set_option maxRecDepth 100000 in
theorem wj_JI_numberOfTrailingZeros_62 {w : Wd} {κ : Kx} {P : Int32 → Hp → Prop} (hC : Cx μC w 2 κ "java/lang/Integer" b_JI_numberOfTrailingZeros 0) (hR : RtI μC w 2 κ b_JI_numberOfTrailingZeros .int P)  : ∀ (σ : Hp) (x0 : Int32) (x1 : Int32), j_JI_numberOfTrailingZeros_62  P  σ x0 x1 → V μC w 2 κ σ [some (.int x0), some (.int x1)] 62 [] := by
  intro σ x0 x1 h
  unfold j_JI_numberOfTrailingZeros_62 at h
  refine V.iload_n hC d_JI_numberOfTrailingZeros_62 rfl rfl ?_
  refine V.iconst (v := 4) hC d_JI_numberOfTrailingZeros_63 (by decide) ?_
  refine V.icmp_le (tgt := 74) hC d_JI_numberOfTrailingZeros_64 (by decide) (fun c1 => ?_) (fun c1 => ?_)
  · replace h := h.1 c1
    refine V.iload_n hC d_JI_numberOfTrailingZeros_74 rfl rfl ?_
    refine V.iload_n hC d_JI_numberOfTrailingZeros_75 rfl rfl ?_
    refine V.iconst (v := 1) hC d_JI_numberOfTrailingZeros_76 (by decide) ?_
    refine V.iushr hC d_JI_numberOfTrailingZeros_77 ?_
    refine V.iadd hC d_JI_numberOfTrailingZeros_78 ?_
    exact hR _ _ _ _ h rfl d_JI_numberOfTrailingZeros_79
  · replace h := h.2 c1
    obtain ⟨v2, ev2⟩ : ∃ y : Int32, y = x1 + (2 : Int32) := ⟨_, rfl⟩
    replace h := h v2 ev2
    refine V.iinc (y := v2) (lo' := [some (.int x0), some (.int v2)]) hC d_JI_numberOfTrailingZeros_67 rfl rfl (show v2 = _ + Int32.ofInt (2) from ev2) rfl ?_
    refine V.iload_n hC d_JI_numberOfTrailingZeros_70 rfl rfl ?_
    refine V.iconst (v := 2) hC d_JI_numberOfTrailingZeros_71 (by decide) ?_
    refine V.iushr hC d_JI_numberOfTrailingZeros_72 ?_
    obtain ⟨v3, ev3⟩ : ∃ y : Int32, y = (x0.toUInt32 >>> ((2 : Int32).toUInt32 &&& Int32.toUInt32 31)).toInt32 := ⟨_, rfl⟩
    replace h := h v3 ev3
    refine V.istore_n (y := v3) (lo' := [some (.int v3), some (.int v2)]) hC d_JI_numberOfTrailingZeros_73 rfl rfl ev3 rfl ?_
    refine V.iload_n hC d_JI_numberOfTrailingZeros_74 rfl rfl ?_
    refine V.iload_n hC d_JI_numberOfTrailingZeros_75 rfl rfl ?_
    refine V.iconst (v := 1) hC d_JI_numberOfTrailingZeros_76 (by decide) ?_
    refine V.iushr hC d_JI_numberOfTrailingZeros_77 ?_
    refine V.iadd hC d_JI_numberOfTrailingZeros_78 ?_
    exact hR _ _ _ _ h rfl d_JI_numberOfTrailingZeros_79
set_option maxHeartbeats 4000000 in
set_option maxRecDepth 100000 in
theorem wj_JI_numberOfTrailingZeros_49 {w : Wd} {κ : Kx} {P : Int32 → Hp → Prop} (hC : Cx μC w 2 κ "java/lang/Integer" b_JI_numberOfTrailingZeros 0) (hR : RtI μC w 2 κ b_JI_numberOfTrailingZeros .int P)  : ∀ (σ : Hp) (x0 : Int32) (x1 : Int32), j_JI_numberOfTrailingZeros_49  P  σ x0 x1 → V μC w 2 κ σ [some (.int x0), some (.int x1)] 49 [] := by
  intro σ x0 x1 h
  unfold j_JI_numberOfTrailingZeros_49 at h
  refine V.iload_n hC d_JI_numberOfTrailingZeros_49 rfl rfl ?_
  refine V.bipush (v := 16) hC d_JI_numberOfTrailingZeros_50 (by decide) ?_
  refine V.icmp_le (tgt := 62) hC d_JI_numberOfTrailingZeros_52 (by decide) (fun c4 => ?_) (fun c4 => ?_)
  · replace h := h.1 c4
    exact V.msk [true, true] rfl (wj_JI_numberOfTrailingZeros_62  hC hR  σ x0 x1 h)
  · replace h := h.2 c4
    obtain ⟨v5, ev5⟩ : ∃ y : Int32, y = x1 + (4 : Int32) := ⟨_, rfl⟩
    replace h := h v5 ev5
    refine V.iinc (y := v5) (lo' := [some (.int x0), some (.int v5)]) hC d_JI_numberOfTrailingZeros_55 rfl rfl (show v5 = _ + Int32.ofInt (4) from ev5) rfl ?_
    refine V.iload_n hC d_JI_numberOfTrailingZeros_58 rfl rfl ?_
    refine V.iconst (v := 4) hC d_JI_numberOfTrailingZeros_59 (by decide) ?_
    refine V.iushr hC d_JI_numberOfTrailingZeros_60 ?_
    obtain ⟨v6, ev6⟩ : ∃ y : Int32, y = (x0.toUInt32 >>> ((4 : Int32).toUInt32 &&& Int32.toUInt32 31)).toInt32 := ⟨_, rfl⟩
    replace h := h v6 ev6
    refine V.istore_n (y := v6) (lo' := [some (.int v6), some (.int v5)]) hC d_JI_numberOfTrailingZeros_61 rfl rfl ev6 rfl ?_
    exact V.msk [true, true] rfl (wj_JI_numberOfTrailingZeros_62  hC hR  σ v6 v5 h)
set_option maxHeartbeats 4000000 in
set_option maxRecDepth 100000 in
theorem wj_JI_numberOfTrailingZeros_34 {w : Wd} {κ : Kx} {P : Int32 → Hp → Prop} (hC : Cx μC w 2 κ "java/lang/Integer" b_JI_numberOfTrailingZeros 0) (hR : RtI μC w 2 κ b_JI_numberOfTrailingZeros .int P)  : ∀ (σ : Hp) (x0 : Int32) (x1 : Int32), j_JI_numberOfTrailingZeros_34  P  σ x0 x1 → V μC w 2 κ σ [some (.int x0), some (.int x1)] 34 [] := by
  intro σ x0 x1 h
  unfold j_JI_numberOfTrailingZeros_34 at h
  refine V.iload_n hC d_JI_numberOfTrailingZeros_34 rfl rfl ?_
  refine V.sipush (v := 256) hC d_JI_numberOfTrailingZeros_35 (by decide) ?_
  refine V.icmp_le (tgt := 49) hC d_JI_numberOfTrailingZeros_38 (by decide) (fun c7 => ?_) (fun c7 => ?_)
  · replace h := h.1 c7
    exact V.msk [true, true] rfl (wj_JI_numberOfTrailingZeros_49  hC hR  σ x0 x1 h)
  · replace h := h.2 c7
    obtain ⟨v8, ev8⟩ : ∃ y : Int32, y = x1 + (8 : Int32) := ⟨_, rfl⟩
    replace h := h v8 ev8
    refine V.iinc (y := v8) (lo' := [some (.int x0), some (.int v8)]) hC d_JI_numberOfTrailingZeros_41 rfl rfl (show v8 = _ + Int32.ofInt (8) from ev8) rfl ?_
    refine V.iload_n hC d_JI_numberOfTrailingZeros_44 rfl rfl ?_
    refine V.bipush (v := 8) hC d_JI_numberOfTrailingZeros_45 (by decide) ?_
    refine V.iushr hC d_JI_numberOfTrailingZeros_47 ?_
    obtain ⟨v9, ev9⟩ : ∃ y : Int32, y = (x0.toUInt32 >>> ((8 : Int32).toUInt32 &&& Int32.toUInt32 31)).toInt32 := ⟨_, rfl⟩
    replace h := h v9 ev9
    refine V.istore_n (y := v9) (lo' := [some (.int v9), some (.int v8)]) hC d_JI_numberOfTrailingZeros_48 rfl rfl ev9 rfl ?_
    exact V.msk [true, true] rfl (wj_JI_numberOfTrailingZeros_49  hC hR  σ v9 v8 h)
set_option maxHeartbeats 4000000 in
set_option maxRecDepth 100000 in
theorem w_JI_numberOfTrailingZeros (w : Wd) (σ : Hp) (a1 : Int32) (P : Int32 → Hp → Prop) (h : wp_JI_numberOfTrailingZeros σ a1 P) : CtI μC w y_JI_numberOfTrailingZeros b_JI_numberOfTrailingZeros 2 (some .int) 0 [.int a1] σ P := by
  unfold wp_JI_numberOfTrailingZeros at h
  refine CtI.ofV (C := "java/lang/Integer") (lo := [some (.int a1), none]) exC (by decide +kernel) rfl rfl rfl (fun κ hC hR => ?_)
  refine V.iload_n hC d_JI_numberOfTrailingZeros_0 rfl rfl ?_
  refine V.iconst (v := -1) hC d_JI_numberOfTrailingZeros_1 (by decide) ?_
  refine V.ixor hC d_JI_numberOfTrailingZeros_2 ?_
  refine V.iload_n hC d_JI_numberOfTrailingZeros_3 rfl rfl ?_
  refine V.iconst (v := 1) hC d_JI_numberOfTrailingZeros_4 (by decide) ?_
  refine V.isub hC d_JI_numberOfTrailingZeros_5 ?_
  refine V.iand hC d_JI_numberOfTrailingZeros_6 ?_
  obtain ⟨v10, ev10⟩ : ∃ y : Int32, y = (a1 ^^^ (-1 : Int32)) &&& (a1 - (1 : Int32)) := ⟨_, rfl⟩
  replace h := h v10 ev10
  refine V.istore_n (y := v10) (lo' := [some (.int v10), none]) hC d_JI_numberOfTrailingZeros_7 rfl rfl ev10 rfl ?_
  refine V.iload_n hC d_JI_numberOfTrailingZeros_8 rfl rfl ?_
  refine V.if_gt (tgt := 17) hC d_JI_numberOfTrailingZeros_9 (by decide) (fun c11 => ?_) (fun c11 => ?_)
  · replace h := h.1 c11
    refine V.iconst (v := 1) hC d_JI_numberOfTrailingZeros_17 (by decide) ?_
    refine V.istore_n (y := (1 : Int32)) (lo' := [some (.int v10), some (.int (1 : Int32))]) hC d_JI_numberOfTrailingZeros_18 rfl rfl rfl rfl ?_
    refine V.iload_n hC d_JI_numberOfTrailingZeros_19 rfl rfl ?_
    refine V.ldcw (v := 65536) hC d_JI_numberOfTrailingZeros_20 qc_JI_264 ?_
    refine V.icmp_le (tgt := 34) hC d_JI_numberOfTrailingZeros_23 (by decide) (fun c12 => ?_) (fun c12 => ?_)
    · replace h := h.1 c12
      exact V.msk [true, true] rfl (wj_JI_numberOfTrailingZeros_34  hC hR  σ v10 (1 : Int32) h)
    · replace h := h.2 c12
      obtain ⟨v13, ev13⟩ : ∃ y : Int32, y = (1 : Int32) + (16 : Int32) := ⟨_, rfl⟩
      replace h := h v13 ev13
      refine V.iinc (y := v13) (lo' := [some (.int v10), some (.int v13)]) hC d_JI_numberOfTrailingZeros_26 rfl rfl (show v13 = _ + Int32.ofInt (16) from ev13) rfl ?_
      refine V.iload_n hC d_JI_numberOfTrailingZeros_29 rfl rfl ?_
      refine V.bipush (v := 16) hC d_JI_numberOfTrailingZeros_30 (by decide) ?_
      refine V.iushr hC d_JI_numberOfTrailingZeros_32 ?_
      obtain ⟨v14, ev14⟩ : ∃ y : Int32, y = (v10.toUInt32 >>> ((16 : Int32).toUInt32 &&& Int32.toUInt32 31)).toInt32 := ⟨_, rfl⟩
      replace h := h v14 ev14
      refine V.istore_n (y := v14) (lo' := [some (.int v14), some (.int v13)]) hC d_JI_numberOfTrailingZeros_33 rfl rfl ev14 rfl ?_
      exact V.msk [true, true] rfl (wj_JI_numberOfTrailingZeros_34  hC hR  σ v14 v13 h)
  · replace h := h.2 c11
    refine V.iload_n hC d_JI_numberOfTrailingZeros_12 rfl rfl ?_
    refine V.bipush (v := 32) hC d_JI_numberOfTrailingZeros_13 (by decide) ?_
    refine V.iand hC d_JI_numberOfTrailingZeros_15 ?_
    exact hR _ _ _ _ h rfl d_JI_numberOfTrailingZeros_16
