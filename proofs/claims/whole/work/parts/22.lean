abbrev b_R_richest : ByteArray := prog_10_method_53_code
def y_R_richest : MethodName := ⟨nC8, "richest", "(I)I"⟩
theorem d_R_richest_0 : decode b_R_richest 0 = .ok (.iload_n 1, 1) := by decide +kernel
theorem d_R_richest_1 : decode b_R_richest 1 = .ok (.invokestatic 151, 3) := by decide +kernel
theorem d_R_richest_4 : decode b_R_richest 4 = .ok (.ifCond .eq 11, 3) := by decide +kernel
theorem d_R_richest_7 : decode b_R_richest 7 = .ok (.aload_n 0, 1) := by decide +kernel
theorem d_R_richest_8 : decode b_R_richest 8 = .ok (.iload_n 1, 1) := by decide +kernel
theorem d_R_richest_9 : decode b_R_richest 9 = .ok (.invokevirtual 224, 3) := by decide +kernel
theorem d_R_richest_12 : decode b_R_richest 12 = .ok (.goto 5, 3) := by decide +kernel
theorem d_R_richest_15 : decode b_R_richest 15 = .ok (.bipush (-2), 2) := by decide +kernel
theorem d_R_richest_17 : decode b_R_richest 17 = .ok (.ireturn, 1) := by decide +kernel
theorem qm_R_224 : Cond.methodLink nC8 224 y_R_richestOf ∈ tbl := tbl_in 1170 (by decide +kernel) rfl
def wp_R_richest (σ : Hp) (a1 : Int32) (P : Int32 → Hp → Prop) : Prop :=
  wp_R_isDay σ a1 (fun (r1 : Int32) (t2 : Hp) => ((r1 = 0 → P (-2 : Int32) t2) ∧ (¬ r1 = 0 → wp_R_richestOf t2 a1 (fun (r4 : Int32) (t5 : Hp) => P r4 t5))))
set_option maxHeartbeats 4000000 in
set_option maxRecDepth 100000 in
theorem w_R_richest (w : Wd) (σ : Hp) (a1 : Int32) (P : Int32 → Hp → Prop) (h : wp_R_richest σ a1 P) : CtI μR w y_R_richest b_R_richest 2 (some .int) 9 [.ref (w.1 0), .int a1] σ P := by
  unfold wp_R_richest at h
  refine CtI.ofV (C := nC8) (lo := [some (.ref (w.1 0)), some (.int a1)]) exR (by decide +kernel) rfl rfl rfl (fun κ hC hR => ?_)
  refine V.iload_n hC d_R_richest_0 rfl rfl ?_
  refine V.callSI hC exR (w_R_isDay w σ a1 _ h) d_R_richest_1 mo_R_isDay qm_R_151 rfl rfl rfl rfl (Nat.le_of_ble_eq_true rfl) (fun r1 t2 h => ?_)
  refine V.if_eq (tgt := 15) hC d_R_richest_4 (by decide) (fun c3 => ?_) (fun c3 => ?_)
  · replace h := h.1 c3
    refine V.bipush (v := -2) hC d_R_richest_15 (by decide) ?_
    exact hR _ _ _ _ h rfl d_R_richest_17
  · replace h := h.2 c3
    refine V.aload_n hC d_R_richest_7 rfl rfl ?_
    refine V.iload_n hC d_R_richest_8 rfl rfl ?_
    refine V.callVI hC exR (w_R_richestOf w t2 a1 _ h) d_R_richest_9 mo_R_richestOf qm_R_224 rfl rfl rfl rfl rfl rfl rfl (Nat.le_of_ble_eq_true rfl) (fun r4 t5 h => ?_)
    refine V.goto (tgt := 17) hC d_R_richest_12 (by decide) ?_
    exact hR _ _ _ _ h rfl d_R_richest_17
abbrev b_R_paymentsOf : ByteArray := prog_10_method_54_code
def y_R_paymentsOf : MethodName := ⟨nC8, "paymentsOf", "(I)I"⟩
theorem d_R_paymentsOf_0 : decode b_R_paymentsOf 0 = .ok (.aload_n 0, 1) := by decide +kernel
theorem d_R_paymentsOf_1 : decode b_R_paymentsOf 1 = .ok (.invokevirtual 189, 3) := by decide +kernel
theorem d_R_paymentsOf_4 : decode b_R_paymentsOf 4 = .ok (.aload_n 0, 1) := by decide +kernel
theorem d_R_paymentsOf_5 : decode b_R_paymentsOf 5 = .ok (.iload_n 1, 1) := by decide +kernel
theorem d_R_paymentsOf_6 : decode b_R_paymentsOf 6 = .ok (.invokevirtual 205, 3) := by decide +kernel
theorem d_R_paymentsOf_9 : decode b_R_paymentsOf 9 = .ok (.aload_n 0, 1) := by decide +kernel
theorem d_R_paymentsOf_10 : decode b_R_paymentsOf 10 = .ok (.getfield 62, 3) := by decide +kernel
theorem d_R_paymentsOf_13 : decode b_R_paymentsOf 13 = .ok (.iconst 0, 1) := by decide +kernel
theorem d_R_paymentsOf_14 : decode b_R_paymentsOf 14 = .ok (.iconst 0, 1) := by decide +kernel
theorem d_R_paymentsOf_15 : decode b_R_paymentsOf 15 = .ok (.iastore, 1) := by decide +kernel
theorem d_R_paymentsOf_16 : decode b_R_paymentsOf 16 = .ok (.iconst 1, 1) := by decide +kernel
theorem d_R_paymentsOf_17 : decode b_R_paymentsOf 17 = .ok (.istore_n 2, 1) := by decide +kernel
theorem d_R_paymentsOf_18 : decode b_R_paymentsOf 18 = .ok (.iload_n 2, 1) := by decide +kernel
theorem d_R_paymentsOf_19 : decode b_R_paymentsOf 19 = .ok (.iconst 1, 1) := by decide +kernel
theorem d_R_paymentsOf_20 : decode b_R_paymentsOf 20 = .ok (.aload_n 0, 1) := by decide +kernel
theorem d_R_paymentsOf_21 : decode b_R_paymentsOf 21 = .ok (.getfield 116, 3) := by decide +kernel
theorem d_R_paymentsOf_24 : decode b_R_paymentsOf 24 = .ok (.ishl, 1) := by decide +kernel
theorem d_R_paymentsOf_25 : decode b_R_paymentsOf 25 = .ok (.if_icmp .ge 100, 3) := by decide +kernel
theorem d_R_paymentsOf_28 : decode b_R_paymentsOf 28 = .ok (.iconst 0, 1) := by decide +kernel
theorem d_R_paymentsOf_29 : decode b_R_paymentsOf 29 = .ok (.istore_n 3, 1) := by decide +kernel
theorem d_R_paymentsOf_30 : decode b_R_paymentsOf 30 = .ok (.iconst 0, 1) := by decide +kernel
theorem d_R_paymentsOf_31 : decode b_R_paymentsOf 31 = .ok (.istore 4, 2) := by decide +kernel
theorem d_R_paymentsOf_33 : decode b_R_paymentsOf 33 = .ok (.iconst 0, 1) := by decide +kernel
theorem d_R_paymentsOf_34 : decode b_R_paymentsOf 34 = .ok (.istore 5, 2) := by decide +kernel
theorem d_R_paymentsOf_36 : decode b_R_paymentsOf 36 = .ok (.iload 5, 2) := by decide +kernel
theorem d_R_paymentsOf_38 : decode b_R_paymentsOf 38 = .ok (.aload_n 0, 1) := by decide +kernel
theorem d_R_paymentsOf_39 : decode b_R_paymentsOf 39 = .ok (.getfield 116, 3) := by decide +kernel
theorem d_R_paymentsOf_42 : decode b_R_paymentsOf 42 = .ok (.if_icmp .ge 59, 3) := by decide +kernel
theorem d_R_paymentsOf_45 : decode b_R_paymentsOf 45 = .ok (.iload_n 2, 1) := by decide +kernel
theorem d_R_paymentsOf_46 : decode b_R_paymentsOf 46 = .ok (.iload 5, 2) := by decide +kernel
theorem d_R_paymentsOf_48 : decode b_R_paymentsOf 48 = .ok (.invokestatic 179, 3) := by decide +kernel
theorem d_R_paymentsOf_51 : decode b_R_paymentsOf 51 = .ok (.ifCond .eq 44, 3) := by decide +kernel
theorem d_R_paymentsOf_54 : decode b_R_paymentsOf 54 = .ok (.iload_n 3, 1) := by decide +kernel
theorem d_R_paymentsOf_55 : decode b_R_paymentsOf 55 = .ok (.aload_n 0, 1) := by decide +kernel
theorem d_R_paymentsOf_56 : decode b_R_paymentsOf 56 = .ok (.getfield 59, 3) := by decide +kernel
theorem d_R_paymentsOf_59 : decode b_R_paymentsOf 59 = .ok (.iload 5, 2) := by decide +kernel
theorem d_R_paymentsOf_61 : decode b_R_paymentsOf 61 = .ok (.iaload, 1) := by decide +kernel
theorem d_R_paymentsOf_62 : decode b_R_paymentsOf 62 = .ok (.iadd, 1) := by decide +kernel
theorem d_R_paymentsOf_63 : decode b_R_paymentsOf 63 = .ok (.istore_n 3, 1) := by decide +kernel
theorem d_R_paymentsOf_64 : decode b_R_paymentsOf 64 = .ok (.aload_n 0, 1) := by decide +kernel
theorem d_R_paymentsOf_65 : decode b_R_paymentsOf 65 = .ok (.getfield 62, 3) := by decide +kernel
theorem d_R_paymentsOf_68 : decode b_R_paymentsOf 68 = .ok (.iload_n 2, 1) := by decide +kernel
theorem d_R_paymentsOf_69 : decode b_R_paymentsOf 69 = .ok (.iconst 1, 1) := by decide +kernel
theorem d_R_paymentsOf_70 : decode b_R_paymentsOf 70 = .ok (.iload 5, 2) := by decide +kernel
theorem d_R_paymentsOf_72 : decode b_R_paymentsOf 72 = .ok (.ishl, 1) := by decide +kernel
theorem d_R_paymentsOf_73 : decode b_R_paymentsOf 73 = .ok (.iconst (-1), 1) := by decide +kernel
theorem d_R_paymentsOf_74 : decode b_R_paymentsOf 74 = .ok (.ixor, 1) := by decide +kernel
theorem d_R_paymentsOf_75 : decode b_R_paymentsOf 75 = .ok (.iand, 1) := by decide +kernel
theorem d_R_paymentsOf_76 : decode b_R_paymentsOf 76 = .ok (.iaload, 1) := by decide +kernel
theorem d_R_paymentsOf_77 : decode b_R_paymentsOf 77 = .ok (.istore 6, 2) := by decide +kernel
theorem d_R_paymentsOf_79 : decode b_R_paymentsOf 79 = .ok (.iload 6, 2) := by decide +kernel
theorem d_R_paymentsOf_81 : decode b_R_paymentsOf 81 = .ok (.iload 4, 2) := by decide +kernel
theorem d_R_paymentsOf_83 : decode b_R_paymentsOf 83 = .ok (.if_icmp .le 8, 3) := by decide +kernel
theorem d_R_paymentsOf_86 : decode b_R_paymentsOf 86 = .ok (.iload 6, 2) := by decide +kernel
theorem d_R_paymentsOf_88 : decode b_R_paymentsOf 88 = .ok (.goto 5, 3) := by decide +kernel
theorem d_R_paymentsOf_91 : decode b_R_paymentsOf 91 = .ok (.iload 4, 2) := by decide +kernel
theorem d_R_paymentsOf_93 : decode b_R_paymentsOf 93 = .ok (.istore 4, 2) := by decide +kernel
theorem d_R_paymentsOf_95 : decode b_R_paymentsOf 95 = .ok (.iinc 5 1, 3) := by decide +kernel
theorem d_R_paymentsOf_98 : decode b_R_paymentsOf 98 = .ok (.goto (-62), 3) := by decide +kernel
theorem d_R_paymentsOf_101 : decode b_R_paymentsOf 101 = .ok (.aload_n 0, 1) := by decide +kernel
theorem d_R_paymentsOf_102 : decode b_R_paymentsOf 102 = .ok (.getfield 62, 3) := by decide +kernel
theorem d_R_paymentsOf_105 : decode b_R_paymentsOf 105 = .ok (.iload_n 2, 1) := by decide +kernel
theorem d_R_paymentsOf_106 : decode b_R_paymentsOf 106 = .ok (.iload 4, 2) := by decide +kernel
theorem d_R_paymentsOf_108 : decode b_R_paymentsOf 108 = .ok (.iload_n 3, 1) := by decide +kernel
theorem d_R_paymentsOf_109 : decode b_R_paymentsOf 109 = .ok (.ifCond .ne 7, 3) := by decide +kernel
theorem d_R_paymentsOf_112 : decode b_R_paymentsOf 112 = .ok (.iconst 1, 1) := by decide +kernel
theorem d_R_paymentsOf_113 : decode b_R_paymentsOf 113 = .ok (.goto 4, 3) := by decide +kernel
theorem d_R_paymentsOf_116 : decode b_R_paymentsOf 116 = .ok (.iconst 0, 1) := by decide +kernel
theorem d_R_paymentsOf_117 : decode b_R_paymentsOf 117 = .ok (.iadd, 1) := by decide +kernel
theorem d_R_paymentsOf_118 : decode b_R_paymentsOf 118 = .ok (.iastore, 1) := by decide +kernel
theorem d_R_paymentsOf_119 : decode b_R_paymentsOf 119 = .ok (.iinc 2 1, 3) := by decide +kernel
theorem d_R_paymentsOf_122 : decode b_R_paymentsOf 122 = .ok (.goto (-104), 3) := by decide +kernel
theorem d_R_paymentsOf_125 : decode b_R_paymentsOf 125 = .ok (.aload_n 0, 1) := by decide +kernel
theorem d_R_paymentsOf_126 : decode b_R_paymentsOf 126 = .ok (.getfield 116, 3) := by decide +kernel
theorem d_R_paymentsOf_129 : decode b_R_paymentsOf 129 = .ok (.aload_n 0, 1) := by decide +kernel
theorem d_R_paymentsOf_130 : decode b_R_paymentsOf 130 = .ok (.getfield 62, 3) := by decide +kernel
theorem d_R_paymentsOf_133 : decode b_R_paymentsOf 133 = .ok (.iconst 1, 1) := by decide +kernel
theorem d_R_paymentsOf_134 : decode b_R_paymentsOf 134 = .ok (.aload_n 0, 1) := by decide +kernel
theorem d_R_paymentsOf_135 : decode b_R_paymentsOf 135 = .ok (.getfield 116, 3) := by decide +kernel
theorem d_R_paymentsOf_138 : decode b_R_paymentsOf 138 = .ok (.ishl, 1) := by decide +kernel
theorem d_R_paymentsOf_139 : decode b_R_paymentsOf 139 = .ok (.iconst 1, 1) := by decide +kernel
theorem d_R_paymentsOf_140 : decode b_R_paymentsOf 140 = .ok (.isub, 1) := by decide +kernel
theorem d_R_paymentsOf_141 : decode b_R_paymentsOf 141 = .ok (.iaload, 1) := by decide +kernel
theorem d_R_paymentsOf_142 : decode b_R_paymentsOf 142 = .ok (.isub, 1) := by decide +kernel
theorem d_R_paymentsOf_143 : decode b_R_paymentsOf 143 = .ok (.ireturn, 1) := by decide +kernel
theorem qf_R_62 : Cond.fieldLink nC8 62 (fC8 22).1 (fC8 22).2.1 (fC8 22).2.2.1 ∈ tbl := tbl_in 890 (by decide +kernel) rfl
theorem mo_R_paymentsOf : MokV y_R_paymentsOf b_R_paymentsOf 7 (some .int) 1 := ⟨⟨(tbl_in 1181 (by decide +kernel) rfl), (tbl_in 70 (by decide +kernel) rfl)⟩, ⟨(tbl_in 1180 (by decide +kernel) rfl), tbl_lw _ (tbl_in 41 (by decide +kernel) rfl), (tbl_in 41 (by decide +kernel) rfl)⟩, ⟨by decide +kernel, by decide +kernel⟩, by decide +kernel⟩
def b_R_paymentsOf_36_ (P : Int32 → Hp → Prop) (I18 : Hp → Int32 → Prop) (I36 : Hp → Int32 → Int32 → Int32 → Int32 → Prop) (σ : Hp) (x2 : Int32) (x3 : Int32) (x4 : Int32) (x5 : Int32) : Prop :=
  (((σ 0 2) ≤ x5 → ((¬ x3 = 0 → (vp_in x2 256) ∧ (∀ v4 : Int32, v4 = x2 + (1 : Int32) → I18 (st σ 18 (ix x2) (x4 + (0 : Int32))) v4)) ∧ (x3 = 0 → (vp_in x2 256) ∧ (∀ v6 : Int32, v6 = x2 + (1 : Int32) → I18 (st σ 18 (ix x2) (x4 + (1 : Int32))) v6)))) ∧ (¬ (σ 0 2) ≤ x5 → wp_R_isIn σ x2 x5 (fun (r7 : Int32) (t8 : Hp) => ((r7 = 0 → (∀ v10 : Int32, v10 = x5 + (1 : Int32) → I36 t8 x2 x3 x4 v10)) ∧ (¬ r7 = 0 → (vp_in x5 8) ∧ (∀ v12 : Int32, v12 = x3 + (t8 17 (ix x5)) → (vp_in (x2 &&& (((1 : Int32) <<< (x5 &&& 31)) ^^^ (-1 : Int32))) 256) ∧ (∀ v14 : Int32, v14 = t8 18 (ix (x2 &&& (((1 : Int32) <<< (x5 &&& 31)) ^^^ (-1 : Int32)))) → ((v14 ≤ x4 → (∀ v16 : Int32, v16 = x5 + (1 : Int32) → I36 t8 x2 v12 x4 v16)) ∧ (¬ v14 ≤ x4 → (∀ v17 : Int32, v17 = x5 + (1 : Int32) → I36 t8 x2 v12 v14 v17))))))))))
def j_R_paymentsOf_36 (P : Int32 → Hp → Prop) (I18 : Hp → Int32 → Prop) (σ : Hp) (x2 : Int32) (x3 : Int32) (x4 : Int32) (x5 : Int32) : Prop := ∀ I36 : Hp → Int32 → Int32 → Int32 → Int32 → Prop, (∀ (σ : Hp) (x2 : Int32) (x3 : Int32) (x4 : Int32) (x5 : Int32), b_R_paymentsOf_36_  P I18 I36 σ x2 x3 x4 x5 → I36 σ x2 x3 x4 x5) → I36 σ x2 x3 x4 x5
def b_R_paymentsOf_18_ (P : Int32 → Hp → Prop)  (I18 : Hp → Int32 → Prop) (σ : Hp) (x2 : Int32) : Prop :=
  ((((1 : Int32) <<< ((σ 0 2) &&& 31)) ≤ x2 → (vp_in (((1 : Int32) <<< ((σ 0 2) &&& 31)) - (1 : Int32)) 256) ∧ P ((σ 0 2) - (σ 18 (ix (((1 : Int32) <<< ((σ 0 2) &&& 31)) - (1 : Int32))))) σ) ∧ (¬ ((1 : Int32) <<< ((σ 0 2) &&& 31)) ≤ x2 → j_R_paymentsOf_36 P I18 σ x2 (0 : Int32) (0 : Int32) (0 : Int32)))
def j_R_paymentsOf_18 (P : Int32 → Hp → Prop)  (σ : Hp) (x2 : Int32) : Prop := ∀ I18 : Hp → Int32 → Prop, (∀ (σ : Hp) (x2 : Int32), b_R_paymentsOf_18_  P  I18 σ x2 → I18 σ x2) → I18 σ x2
def wp_R_paymentsOf (σ : Hp) (a1 : Int32) (P : Int32 → Hp → Prop) : Prop :=
  wp_R_laysTold σ (fun (t21 : Hp) => wp_R_purses t21 a1 (fun (t23 : Hp) => (vp_in (0 : Int32) 256) ∧ j_R_paymentsOf_18 P (st t23 18 (ix (0 : Int32)) (0 : Int32)) (1 : Int32)))
set_option maxHeartbeats 4000000 in
set_option maxRecDepth 100000 in
theorem wj_R_paymentsOf_36 {w : Wd} {κ : Kx} {P : Int32 → Hp → Prop} (hC : Cx μR w 7 κ nC8 b_R_paymentsOf 8) (hR : RtI μR w 7 κ b_R_paymentsOf .int P) {I18 : Hp → Int32 → Prop} (hI18 : ∀ σ x2, I18 σ x2 → V μR w 7 κ σ [some (.ref (w.1 0)), none, some (.int x2), none, none, none, none] 18 []) : ∀ (σ : Hp) (x2 : Int32) (x3 : Int32) (x4 : Int32) (x5 : Int32), j_R_paymentsOf_36  P I18 σ x2 x3 x4 x5 → V μR w 7 κ σ [some (.ref (w.1 0)), none, some (.int x2), some (.int x3), some (.int x4), some (.int x5), none] 36 [] := by
  intro σ x2 x3 x4 x5 h
  refine h (fun σ x2 x3 x4 x5 => V μR w 7 κ σ [some (.ref (w.1 0)), none, some (.int x2), some (.int x3), some (.int x4), some (.int x5), none] 36 []) (fun σ x2 x3 x4 x5 h => ?_)
  unfold b_R_paymentsOf_36_ at h
  refine V.iload hC d_R_paymentsOf_36 rfl ?_
  refine V.aload_n hC d_R_paymentsOf_38 rfl rfl ?_
  refine V.getI (j := 2) hC d_R_paymentsOf_39 rfl rfl uC8 rfl rfl qf_R_116 ?_
  refine V.icmp_ge (tgt := 101) hC d_R_paymentsOf_42 (by decide) (fun c1 => ?_) (fun c1 => ?_)
  · replace h := h.1 c1
    refine V.aload_n hC d_R_paymentsOf_101 rfl rfl ?_
    refine V.getR (j := 22) hC d_R_paymentsOf_102 rfl rfl uC8 rfl rfl qf_R_62 ?_
    refine V.iload_n hC d_R_paymentsOf_105 rfl rfl ?_
    refine V.iload hC d_R_paymentsOf_106 rfl ?_
    refine V.iload_n hC d_R_paymentsOf_108 rfl rfl ?_
    refine V.if_ne (tgt := 116) hC d_R_paymentsOf_109 (by decide) (fun c2 => ?_) (fun c2 => ?_)
    · replace h := h.1 c2
      refine V.iconst (v := 0) hC d_R_paymentsOf_116 (by decide) ?_
      refine V.iadd hC d_R_paymentsOf_117 ?_
      obtain ⟨b3, h⟩ := h
      refine V.iast hC d_R_paymentsOf_118 rfl b3 ?_
      obtain ⟨v4, ev4⟩ : ∃ y : Int32, y = x2 + (1 : Int32) := ⟨_, rfl⟩
      replace h := h v4 ev4
      refine V.iinc (y := v4) (lo' := [some (.ref (w.1 0)), none, some (.int v4), some (.int x3), some (.int x4), some (.int x5), none]) hC d_R_paymentsOf_119 rfl rfl (show v4 = _ + Int32.ofInt (1) from ev4) rfl ?_
      refine V.goto (tgt := 18) hC d_R_paymentsOf_122 (by decide) ?_
      exact V.msk [true, false, true, false, false, false, false] rfl (hI18 (st σ 18 (ix x2) (x4 + (0 : Int32))) v4 h)
    · replace h := h.2 c2
      refine V.iconst (v := 1) hC d_R_paymentsOf_112 (by decide) ?_
      refine V.goto (tgt := 117) hC d_R_paymentsOf_113 (by decide) ?_
      refine V.iadd hC d_R_paymentsOf_117 ?_
      obtain ⟨b5, h⟩ := h
      refine V.iast hC d_R_paymentsOf_118 rfl b5 ?_
      obtain ⟨v6, ev6⟩ : ∃ y : Int32, y = x2 + (1 : Int32) := ⟨_, rfl⟩
      replace h := h v6 ev6
      refine V.iinc (y := v6) (lo' := [some (.ref (w.1 0)), none, some (.int v6), some (.int x3), some (.int x4), some (.int x5), none]) hC d_R_paymentsOf_119 rfl rfl (show v6 = _ + Int32.ofInt (1) from ev6) rfl ?_
      refine V.goto (tgt := 18) hC d_R_paymentsOf_122 (by decide) ?_
      exact V.msk [true, false, true, false, false, false, false] rfl (hI18 (st σ 18 (ix x2) (x4 + (1 : Int32))) v6 h)
  · replace h := h.2 c1
    refine V.iload_n hC d_R_paymentsOf_45 rfl rfl ?_
    refine V.iload hC d_R_paymentsOf_46 rfl ?_
    refine V.callSI hC exR (w_R_isIn w σ x2 x5 _ h) d_R_paymentsOf_48 mo_R_isIn qm_R_179 rfl rfl rfl rfl (Nat.le_of_ble_eq_true rfl) (fun r7 t8 h => ?_)
    refine V.if_eq (tgt := 95) hC d_R_paymentsOf_51 (by decide) (fun c9 => ?_) (fun c9 => ?_)
    · replace h := h.1 c9
      obtain ⟨v10, ev10⟩ : ∃ y : Int32, y = x5 + (1 : Int32) := ⟨_, rfl⟩
      replace h := h v10 ev10
      refine V.iinc (y := v10) (lo' := [some (.ref (w.1 0)), none, some (.int x2), some (.int x3), some (.int x4), some (.int v10), none]) hC d_R_paymentsOf_95 rfl rfl (show v10 = _ + Int32.ofInt (1) from ev10) rfl ?_
      refine V.goto (tgt := 36) hC d_R_paymentsOf_98 (by decide) ?_
      exact V.msk [true, false, true, true, true, true, false] rfl h
    · replace h := h.2 c9
      refine V.iload_n hC d_R_paymentsOf_54 rfl rfl ?_
      refine V.aload_n hC d_R_paymentsOf_55 rfl rfl ?_
      refine V.getR (j := 21) hC d_R_paymentsOf_56 rfl rfl uC8 rfl rfl qf_R_59 ?_
      refine V.iload hC d_R_paymentsOf_59 rfl ?_
      obtain ⟨b11, h⟩ := h
      refine V.iald hC d_R_paymentsOf_61 rfl b11 ?_
      refine V.iadd hC d_R_paymentsOf_62 ?_
      obtain ⟨v12, ev12⟩ : ∃ y : Int32, y = x3 + (t8 17 (ix x5)) := ⟨_, rfl⟩
      replace h := h v12 ev12
      refine V.istore_n (y := v12) (lo' := [some (.ref (w.1 0)), none, some (.int x2), some (.int v12), some (.int x4), some (.int x5), none]) hC d_R_paymentsOf_63 rfl rfl ev12 rfl ?_
      refine V.aload_n hC d_R_paymentsOf_64 rfl rfl ?_
      refine V.getR (j := 22) hC d_R_paymentsOf_65 rfl rfl uC8 rfl rfl qf_R_62 ?_
      refine V.iload_n hC d_R_paymentsOf_68 rfl rfl ?_
      refine V.iconst (v := 1) hC d_R_paymentsOf_69 (by decide) ?_
      refine V.iload hC d_R_paymentsOf_70 rfl ?_
      refine V.ishl hC d_R_paymentsOf_72 ?_
      refine V.iconst (v := -1) hC d_R_paymentsOf_73 (by decide) ?_
      refine V.ixor hC d_R_paymentsOf_74 ?_
      refine V.iand hC d_R_paymentsOf_75 ?_
      obtain ⟨b13, h⟩ := h
      refine V.iald hC d_R_paymentsOf_76 rfl b13 ?_
      obtain ⟨v14, ev14⟩ : ∃ y : Int32, y = t8 18 (ix (x2 &&& (((1 : Int32) <<< (x5 &&& 31)) ^^^ (-1 : Int32)))) := ⟨_, rfl⟩
      replace h := h v14 ev14
      refine V.istore (y := v14) (lo' := [some (.ref (w.1 0)), none, some (.int x2), some (.int v12), some (.int x4), some (.int x5), some (.int v14)]) hC d_R_paymentsOf_77 rfl ev14 rfl ?_
      refine V.iload hC d_R_paymentsOf_79 rfl ?_
      refine V.iload hC d_R_paymentsOf_81 rfl ?_
      refine V.icmp_le (tgt := 91) hC d_R_paymentsOf_83 (by decide) (fun c15 => ?_) (fun c15 => ?_)
      · replace h := h.1 c15
        refine V.iload hC d_R_paymentsOf_91 rfl ?_
        refine V.istore (y := x4) (lo' := [some (.ref (w.1 0)), none, some (.int x2), some (.int v12), some (.int x4), some (.int x5), some (.int v14)]) hC d_R_paymentsOf_93 rfl rfl rfl ?_
        obtain ⟨v16, ev16⟩ : ∃ y : Int32, y = x5 + (1 : Int32) := ⟨_, rfl⟩
        replace h := h v16 ev16
        refine V.iinc (y := v16) (lo' := [some (.ref (w.1 0)), none, some (.int x2), some (.int v12), some (.int x4), some (.int v16), some (.int v14)]) hC d_R_paymentsOf_95 rfl rfl (show v16 = _ + Int32.ofInt (1) from ev16) rfl ?_
        refine V.goto (tgt := 36) hC d_R_paymentsOf_98 (by decide) ?_
        exact V.msk [true, false, true, true, true, true, false] rfl h
      · replace h := h.2 c15
        refine V.iload hC d_R_paymentsOf_86 rfl ?_
        refine V.goto (tgt := 93) hC d_R_paymentsOf_88 (by decide) ?_
        refine V.istore (y := v14) (lo' := [some (.ref (w.1 0)), none, some (.int x2), some (.int v12), some (.int v14), some (.int x5), some (.int v14)]) hC d_R_paymentsOf_93 rfl rfl rfl ?_
        obtain ⟨v17, ev17⟩ : ∃ y : Int32, y = x5 + (1 : Int32) := ⟨_, rfl⟩
        replace h := h v17 ev17
        refine V.iinc (y := v17) (lo' := [some (.ref (w.1 0)), none, some (.int x2), some (.int v12), some (.int v14), some (.int v17), some (.int v14)]) hC d_R_paymentsOf_95 rfl rfl (show v17 = _ + Int32.ofInt (1) from ev17) rfl ?_
        refine V.goto (tgt := 36) hC d_R_paymentsOf_98 (by decide) ?_
        exact V.msk [true, false, true, true, true, true, false] rfl h
set_option maxHeartbeats 4000000 in
set_option maxRecDepth 100000 in
theorem wj_R_paymentsOf_18 {w : Wd} {κ : Kx} {P : Int32 → Hp → Prop} (hC : Cx μR w 7 κ nC8 b_R_paymentsOf 8) (hR : RtI μR w 7 κ b_R_paymentsOf .int P)  : ∀ (σ : Hp) (x2 : Int32), j_R_paymentsOf_18  P  σ x2 → V μR w 7 κ σ [some (.ref (w.1 0)), none, some (.int x2), none, none, none, none] 18 [] := by
  intro σ x2 h
  refine h (fun σ x2 => V μR w 7 κ σ [some (.ref (w.1 0)), none, some (.int x2), none, none, none, none] 18 []) (fun σ x2 h => ?_)
  unfold b_R_paymentsOf_18_ at h
  refine V.iload_n hC d_R_paymentsOf_18 rfl rfl ?_
  refine V.iconst (v := 1) hC d_R_paymentsOf_19 (by decide) ?_
  refine V.aload_n hC d_R_paymentsOf_20 rfl rfl ?_
  refine V.getI (j := 2) hC d_R_paymentsOf_21 rfl rfl uC8 rfl rfl qf_R_116 ?_
  refine V.ishl hC d_R_paymentsOf_24 ?_
  refine V.icmp_ge (tgt := 125) hC d_R_paymentsOf_25 (by decide) (fun c18 => ?_) (fun c18 => ?_)
  · replace h := h.1 c18
    refine V.aload_n hC d_R_paymentsOf_125 rfl rfl ?_
    refine V.getI (j := 2) hC d_R_paymentsOf_126 rfl rfl uC8 rfl rfl qf_R_116 ?_
    refine V.aload_n hC d_R_paymentsOf_129 rfl rfl ?_
    refine V.getR (j := 22) hC d_R_paymentsOf_130 rfl rfl uC8 rfl rfl qf_R_62 ?_
    refine V.iconst (v := 1) hC d_R_paymentsOf_133 (by decide) ?_
    refine V.aload_n hC d_R_paymentsOf_134 rfl rfl ?_
    refine V.getI (j := 2) hC d_R_paymentsOf_135 rfl rfl uC8 rfl rfl qf_R_116 ?_
    refine V.ishl hC d_R_paymentsOf_138 ?_
    refine V.iconst (v := 1) hC d_R_paymentsOf_139 (by decide) ?_
    refine V.isub hC d_R_paymentsOf_140 ?_
    obtain ⟨b19, h⟩ := h
    refine V.iald hC d_R_paymentsOf_141 rfl b19 ?_
    refine V.isub hC d_R_paymentsOf_142 ?_
    exact hR _ _ _ _ h rfl d_R_paymentsOf_143
  · replace h := h.2 c18
    refine V.iconst (v := 0) hC d_R_paymentsOf_28 (by decide) ?_
    refine V.istore_n (y := (0 : Int32)) (lo' := [some (.ref (w.1 0)), none, some (.int x2), some (.int (0 : Int32)), none, none, none]) hC d_R_paymentsOf_29 rfl rfl rfl rfl ?_
    refine V.iconst (v := 0) hC d_R_paymentsOf_30 (by decide) ?_
    refine V.istore (y := (0 : Int32)) (lo' := [some (.ref (w.1 0)), none, some (.int x2), some (.int (0 : Int32)), some (.int (0 : Int32)), none, none]) hC d_R_paymentsOf_31 rfl rfl rfl ?_
    refine V.iconst (v := 0) hC d_R_paymentsOf_33 (by decide) ?_
    refine V.istore (y := (0 : Int32)) (lo' := [some (.ref (w.1 0)), none, some (.int x2), some (.int (0 : Int32)), some (.int (0 : Int32)), some (.int (0 : Int32)), none]) hC d_R_paymentsOf_34 rfl rfl rfl ?_
    exact V.msk [true, false, true, true, true, true, false] rfl (wj_R_paymentsOf_36  hC hR (fun _ _ h => h) σ x2 (0 : Int32) (0 : Int32) (0 : Int32) h)
set_option maxHeartbeats 4000000 in
set_option maxRecDepth 100000 in
theorem w_R_paymentsOf (w : Wd) (σ : Hp) (a1 : Int32) (P : Int32 → Hp → Prop) (h : wp_R_paymentsOf σ a1 P) : CtI μR w y_R_paymentsOf b_R_paymentsOf 7 (some .int) 8 [.ref (w.1 0), .int a1] σ P := by
  unfold wp_R_paymentsOf at h
  refine CtI.ofV (C := nC8) (lo := [some (.ref (w.1 0)), some (.int a1), none, none, none, none, none]) exR (by decide +kernel) rfl rfl rfl (fun κ hC hR => ?_)
  refine V.aload_n hC d_R_paymentsOf_0 rfl rfl ?_
  refine V.callVN hC exR (w_R_laysTold w σ  _ h) d_R_paymentsOf_1 mo_R_laysTold qm_R_189 rfl rfl rfl rfl rfl rfl rfl (Nat.le_of_ble_eq_true rfl) (fun t21 h => ?_)
  refine V.aload_n hC d_R_paymentsOf_4 rfl rfl ?_
  refine V.iload_n hC d_R_paymentsOf_5 rfl rfl ?_
  refine V.callVN hC exR (w_R_purses w t21 a1 _ h) d_R_paymentsOf_6 mo_R_purses qm_R_205 rfl rfl rfl rfl rfl rfl rfl (Nat.le_of_ble_eq_true rfl) (fun t23 h => ?_)
  refine V.aload_n hC d_R_paymentsOf_9 rfl rfl ?_
  refine V.getR (j := 22) hC d_R_paymentsOf_10 rfl rfl uC8 rfl rfl qf_R_62 ?_
  refine V.iconst (v := 0) hC d_R_paymentsOf_13 (by decide) ?_
  refine V.iconst (v := 0) hC d_R_paymentsOf_14 (by decide) ?_
  obtain ⟨b24, h⟩ := h
  refine V.iast hC d_R_paymentsOf_15 rfl b24 ?_
  refine V.iconst (v := 1) hC d_R_paymentsOf_16 (by decide) ?_
  refine V.istore_n (y := (1 : Int32)) (lo' := [some (.ref (w.1 0)), some (.int a1), some (.int (1 : Int32)), none, none, none, none]) hC d_R_paymentsOf_17 rfl rfl rfl rfl ?_
  exact V.msk [true, false, true, false, false, false, false] rfl (wj_R_paymentsOf_18  hC hR  (st t23 18 (ix (0 : Int32)) (0 : Int32)) (1 : Int32) h)
abbrev b_R_payments : ByteArray := prog_10_method_55_code
def y_R_payments : MethodName := ⟨nC8, "payments", "(I)I"⟩
theorem d_R_payments_0 : decode b_R_payments 0 = .ok (.iload_n 1, 1) := by decide +kernel
theorem d_R_payments_1 : decode b_R_payments 1 = .ok (.invokestatic 151, 3) := by decide +kernel
theorem d_R_payments_4 : decode b_R_payments 4 = .ok (.ifCond .eq 11, 3) := by decide +kernel
theorem d_R_payments_7 : decode b_R_payments 7 = .ok (.aload_n 0, 1) := by decide +kernel
theorem d_R_payments_8 : decode b_R_payments 8 = .ok (.iload_n 1, 1) := by decide +kernel
theorem d_R_payments_9 : decode b_R_payments 9 = .ok (.invokevirtual 227, 3) := by decide +kernel
theorem d_R_payments_12 : decode b_R_payments 12 = .ok (.goto 5, 3) := by decide +kernel
theorem d_R_payments_15 : decode b_R_payments 15 = .ok (.bipush (-2), 2) := by decide +kernel
theorem d_R_payments_17 : decode b_R_payments 17 = .ok (.ireturn, 1) := by decide +kernel
theorem qm_R_227 : Cond.methodLink nC8 227 y_R_paymentsOf ∈ tbl := tbl_in 1178 (by decide +kernel) rfl
def wp_R_payments (σ : Hp) (a1 : Int32) (P : Int32 → Hp → Prop) : Prop :=
  wp_R_isDay σ a1 (fun (r1 : Int32) (t2 : Hp) => ((r1 = 0 → P (-2 : Int32) t2) ∧ (¬ r1 = 0 → wp_R_paymentsOf t2 a1 (fun (r4 : Int32) (t5 : Hp) => P r4 t5))))
set_option maxHeartbeats 4000000 in
set_option maxRecDepth 100000 in
theorem w_R_payments (w : Wd) (σ : Hp) (a1 : Int32) (P : Int32 → Hp → Prop) (h : wp_R_payments σ a1 P) : CtI μR w y_R_payments b_R_payments 2 (some .int) 9 [.ref (w.1 0), .int a1] σ P := by
  unfold wp_R_payments at h
  refine CtI.ofV (C := nC8) (lo := [some (.ref (w.1 0)), some (.int a1)]) exR (by decide +kernel) rfl rfl rfl (fun κ hC hR => ?_)
  refine V.iload_n hC d_R_payments_0 rfl rfl ?_
  refine V.callSI hC exR (w_R_isDay w σ a1 _ h) d_R_payments_1 mo_R_isDay qm_R_151 rfl rfl rfl rfl (Nat.le_of_ble_eq_true rfl) (fun r1 t2 h => ?_)
  refine V.if_eq (tgt := 15) hC d_R_payments_4 (by decide) (fun c3 => ?_) (fun c3 => ?_)
  · replace h := h.1 c3
    refine V.bipush (v := -2) hC d_R_payments_15 (by decide) ?_
    exact hR _ _ _ _ h rfl d_R_payments_17
  · replace h := h.2 c3
    refine V.aload_n hC d_R_payments_7 rfl rfl ?_
    refine V.iload_n hC d_R_payments_8 rfl rfl ?_
    refine V.callVI hC exR (w_R_paymentsOf w t2 a1 _ h) d_R_payments_9 mo_R_paymentsOf qm_R_227 rfl rfl rfl rfl rfl rfl rfl (Nat.le_of_ble_eq_true rfl) (fun r4 t5 h => ?_)
    refine V.goto (tgt := 17) hC d_R_payments_12 (by decide) ?_
    exact hR _ _ _ _ h rfl d_R_payments_17
abbrev b_R_isOwed : ByteArray := prog_10_method_56_code
def y_R_isOwed : MethodName := ⟨nC8, "isOwed", "(III)Z"⟩
theorem d_R_isOwed_0 : decode b_R_isOwed 0 = .ok (.aload_n 0, 1) := by decide +kernel
theorem d_R_isOwed_1 : decode b_R_isOwed 1 = .ok (.iload_n 1, 1) := by decide +kernel
theorem d_R_isOwed_2 : decode b_R_isOwed 2 = .ok (.iload_n 2, 1) := by decide +kernel
theorem d_R_isOwed_3 : decode b_R_isOwed 3 = .ok (.iload_n 3, 1) := by decide +kernel
theorem d_R_isOwed_4 : decode b_R_isOwed 4 = .ok (.invokevirtual 192, 3) := by decide +kernel
theorem d_R_isOwed_7 : decode b_R_isOwed 7 = .ok (.ifCond .le 7, 3) := by decide +kernel
theorem d_R_isOwed_10 : decode b_R_isOwed 10 = .ok (.iconst 1, 1) := by decide +kernel
theorem d_R_isOwed_11 : decode b_R_isOwed 11 = .ok (.goto 4, 3) := by decide +kernel
theorem d_R_isOwed_14 : decode b_R_isOwed 14 = .ok (.iconst 0, 1) := by decide +kernel
theorem d_R_isOwed_15 : decode b_R_isOwed 15 = .ok (.ireturn, 1) := by decide +kernel
theorem mo_R_isOwed : MokV y_R_isOwed b_R_isOwed 4 (some .boolean) 3 := ⟨⟨(tbl_in 1193 (by decide +kernel) rfl), (tbl_in 70 (by decide +kernel) rfl)⟩, ⟨(tbl_in 1192 (by decide +kernel) rfl), tbl_lw _ (tbl_in 43 (by decide +kernel) rfl), (tbl_in 43 (by decide +kernel) rfl)⟩, ⟨by decide +kernel, by decide +kernel⟩, by decide +kernel⟩
def wp_R_isOwed (σ : Hp) (a1 : Int32) (a2 : Int32) (a3 : Int32) (P : Int32 → Hp → Prop) : Prop :=
  wp_R_owesNow σ a1 a2 a3 (fun (r1 : Int32) (t2 : Hp) => ((r1 ≤ 0 → P (0 : Int32) t2) ∧ (¬ r1 ≤ 0 → P (1 : Int32) t2)))
set_option maxHeartbeats 4000000 in
set_option maxRecDepth 100000 in
theorem w_R_isOwed (w : Wd) (σ : Hp) (a1 : Int32) (a2 : Int32) (a3 : Int32) (P : Int32 → Hp → Prop) (h : wp_R_isOwed σ a1 a2 a3 P) : CtI μR w y_R_isOwed b_R_isOwed 4 (some .boolean) 1 [.ref (w.1 0), .int a1, .int a2, .int a3] σ P := by
  unfold wp_R_isOwed at h
  refine CtI.ofV (C := nC8) (lo := [some (.ref (w.1 0)), some (.int a1), some (.int a2), some (.int a3)]) exR (by decide +kernel) rfl rfl rfl (fun κ hC hR => ?_)
  refine V.aload_n hC d_R_isOwed_0 rfl rfl ?_
  refine V.iload_n hC d_R_isOwed_1 rfl rfl ?_
  refine V.iload_n hC d_R_isOwed_2 rfl rfl ?_
  refine V.iload_n hC d_R_isOwed_3 rfl rfl ?_
  refine V.callVI hC exR (w_R_owesNow w σ a1 a2 a3 _ h) d_R_isOwed_4 mo_R_owesNow qm_R_192 rfl rfl rfl rfl rfl rfl rfl (Nat.le_of_ble_eq_true rfl) (fun r1 t2 h => ?_)
  refine V.if_le (tgt := 14) hC d_R_isOwed_7 (by decide) (fun c3 => ?_) (fun c3 => ?_)
  · replace h := h.1 c3
    refine V.iconst (v := 0) hC d_R_isOwed_14 (by decide) ?_
    exact hR _ _ _ _ h (by decide) d_R_isOwed_15
  · replace h := h.2 c3
    refine V.iconst (v := 1) hC d_R_isOwed_10 (by decide) ?_
    refine V.goto (tgt := 15) hC d_R_isOwed_11 (by decide) ?_
    exact hR _ _ _ _ h (by decide) d_R_isOwed_15
abbrev b_R_ringsOf : ByteArray := prog_10_method_57_code
def y_R_ringsOf : MethodName := ⟨nC8, "ringsOf", "(II)I"⟩
theorem d_R_ringsOf_0 : decode b_R_ringsOf 0 = .ok (.aload_n 0, 1) := by decide +kernel
theorem d_R_ringsOf_1 : decode b_R_ringsOf 1 = .ok (.invokevirtual 189, 3) := by decide +kernel
theorem d_R_ringsOf_4 : decode b_R_ringsOf 4 = .ok (.iconst 0, 1) := by decide +kernel
theorem d_R_ringsOf_5 : decode b_R_ringsOf 5 = .ok (.istore_n 3, 1) := by decide +kernel
theorem d_R_ringsOf_6 : decode b_R_ringsOf 6 = .ok (.iconst (-1), 1) := by decide +kernel
theorem d_R_ringsOf_7 : decode b_R_ringsOf 7 = .ok (.istore 4, 2) := by decide +kernel
theorem d_R_ringsOf_9 : decode b_R_ringsOf 9 = .ok (.iconst 0, 1) := by decide +kernel
theorem d_R_ringsOf_10 : decode b_R_ringsOf 10 = .ok (.istore 5, 2) := by decide +kernel
theorem d_R_ringsOf_12 : decode b_R_ringsOf 12 = .ok (.iload 5, 2) := by decide +kernel
theorem d_R_ringsOf_14 : decode b_R_ringsOf 14 = .ok (.aload_n 0, 1) := by decide +kernel
theorem d_R_ringsOf_15 : decode b_R_ringsOf 15 = .ok (.getfield 116, 3) := by decide +kernel
theorem d_R_ringsOf_18 : decode b_R_ringsOf 18 = .ok (.if_icmp .ge 192, 3) := by decide +kernel
theorem d_R_ringsOf_21 : decode b_R_ringsOf 21 = .ok (.iload 5, 2) := by decide +kernel
theorem d_R_ringsOf_23 : decode b_R_ringsOf 23 = .ok (.iconst 1, 1) := by decide +kernel
theorem d_R_ringsOf_24 : decode b_R_ringsOf 24 = .ok (.iadd, 1) := by decide +kernel
theorem d_R_ringsOf_25 : decode b_R_ringsOf 25 = .ok (.istore 6, 2) := by decide +kernel
theorem d_R_ringsOf_27 : decode b_R_ringsOf 27 = .ok (.iload 6, 2) := by decide +kernel
theorem d_R_ringsOf_29 : decode b_R_ringsOf 29 = .ok (.aload_n 0, 1) := by decide +kernel
theorem d_R_ringsOf_30 : decode b_R_ringsOf 30 = .ok (.getfield 116, 3) := by decide +kernel
theorem d_R_ringsOf_33 : decode b_R_ringsOf 33 = .ok (.if_icmp .ge 171, 3) := by decide +kernel
theorem d_R_ringsOf_36 : decode b_R_ringsOf 36 = .ok (.iload 6, 2) := by decide +kernel
theorem d_R_ringsOf_38 : decode b_R_ringsOf 38 = .ok (.iconst 1, 1) := by decide +kernel
theorem d_R_ringsOf_39 : decode b_R_ringsOf 39 = .ok (.iadd, 1) := by decide +kernel
theorem d_R_ringsOf_40 : decode b_R_ringsOf 40 = .ok (.istore 7, 2) := by decide +kernel
theorem d_R_ringsOf_42 : decode b_R_ringsOf 42 = .ok (.iload 7, 2) := by decide +kernel
theorem d_R_ringsOf_44 : decode b_R_ringsOf 44 = .ok (.aload_n 0, 1) := by decide +kernel
theorem d_R_ringsOf_45 : decode b_R_ringsOf 45 = .ok (.getfield 116, 3) := by decide +kernel
theorem d_R_ringsOf_48 : decode b_R_ringsOf 48 = .ok (.if_icmp .ge 150, 3) := by decide +kernel
theorem d_R_ringsOf_51 : decode b_R_ringsOf 51 = .ok (.aload_n 0, 1) := by decide +kernel
theorem d_R_ringsOf_52 : decode b_R_ringsOf 52 = .ok (.iload_n 1, 1) := by decide +kernel
theorem d_R_ringsOf_53 : decode b_R_ringsOf 53 = .ok (.iload 5, 2) := by decide +kernel
theorem d_R_ringsOf_55 : decode b_R_ringsOf 55 = .ok (.iload 6, 2) := by decide +kernel
theorem d_R_ringsOf_57 : decode b_R_ringsOf 57 = .ok (.invokevirtual 230, 3) := by decide +kernel
theorem d_R_ringsOf_60 : decode b_R_ringsOf 60 = .ok (.ifCond .eq 31, 3) := by decide +kernel
theorem d_R_ringsOf_63 : decode b_R_ringsOf 63 = .ok (.aload_n 0, 1) := by decide +kernel
theorem d_R_ringsOf_64 : decode b_R_ringsOf 64 = .ok (.iload_n 1, 1) := by decide +kernel
theorem d_R_ringsOf_65 : decode b_R_ringsOf 65 = .ok (.iload 6, 2) := by decide +kernel
theorem d_R_ringsOf_67 : decode b_R_ringsOf 67 = .ok (.iload 7, 2) := by decide +kernel
theorem d_R_ringsOf_69 : decode b_R_ringsOf 69 = .ok (.invokevirtual 230, 3) := by decide +kernel
theorem d_R_ringsOf_72 : decode b_R_ringsOf 72 = .ok (.ifCond .eq 19, 3) := by decide +kernel
theorem d_R_ringsOf_75 : decode b_R_ringsOf 75 = .ok (.aload_n 0, 1) := by decide +kernel
theorem d_R_ringsOf_76 : decode b_R_ringsOf 76 = .ok (.iload_n 1, 1) := by decide +kernel
theorem d_R_ringsOf_77 : decode b_R_ringsOf 77 = .ok (.iload 7, 2) := by decide +kernel
theorem d_R_ringsOf_79 : decode b_R_ringsOf 79 = .ok (.iload 5, 2) := by decide +kernel
theorem d_R_ringsOf_81 : decode b_R_ringsOf 81 = .ok (.invokevirtual 230, 3) := by decide +kernel
theorem d_R_ringsOf_84 : decode b_R_ringsOf 84 = .ok (.ifCond .eq 7, 3) := by decide +kernel
theorem d_R_ringsOf_87 : decode b_R_ringsOf 87 = .ok (.iconst 1, 1) := by decide +kernel
theorem d_R_ringsOf_88 : decode b_R_ringsOf 88 = .ok (.goto 4, 3) := by decide +kernel
theorem d_R_ringsOf_91 : decode b_R_ringsOf 91 = .ok (.iconst 0, 1) := by decide +kernel
theorem d_R_ringsOf_92 : decode b_R_ringsOf 92 = .ok (.istore 8, 2) := by decide +kernel
theorem d_R_ringsOf_94 : decode b_R_ringsOf 94 = .ok (.aload_n 0, 1) := by decide +kernel
theorem d_R_ringsOf_95 : decode b_R_ringsOf 95 = .ok (.iload_n 1, 1) := by decide +kernel
theorem d_R_ringsOf_96 : decode b_R_ringsOf 96 = .ok (.iload 6, 2) := by decide +kernel
theorem d_R_ringsOf_98 : decode b_R_ringsOf 98 = .ok (.iload 5, 2) := by decide +kernel
theorem d_R_ringsOf_100 : decode b_R_ringsOf 100 = .ok (.invokevirtual 230, 3) := by decide +kernel
theorem d_R_ringsOf_103 : decode b_R_ringsOf 103 = .ok (.ifCond .eq 31, 3) := by decide +kernel
theorem d_R_ringsOf_106 : decode b_R_ringsOf 106 = .ok (.aload_n 0, 1) := by decide +kernel
theorem d_R_ringsOf_107 : decode b_R_ringsOf 107 = .ok (.iload_n 1, 1) := by decide +kernel
theorem d_R_ringsOf_108 : decode b_R_ringsOf 108 = .ok (.iload 7, 2) := by decide +kernel
theorem d_R_ringsOf_110 : decode b_R_ringsOf 110 = .ok (.iload 6, 2) := by decide +kernel
theorem d_R_ringsOf_112 : decode b_R_ringsOf 112 = .ok (.invokevirtual 230, 3) := by decide +kernel
theorem d_R_ringsOf_115 : decode b_R_ringsOf 115 = .ok (.ifCond .eq 19, 3) := by decide +kernel
theorem d_R_ringsOf_118 : decode b_R_ringsOf 118 = .ok (.aload_n 0, 1) := by decide +kernel
theorem d_R_ringsOf_119 : decode b_R_ringsOf 119 = .ok (.iload_n 1, 1) := by decide +kernel
theorem d_R_ringsOf_120 : decode b_R_ringsOf 120 = .ok (.iload 5, 2) := by decide +kernel
theorem d_R_ringsOf_122 : decode b_R_ringsOf 122 = .ok (.iload 7, 2) := by decide +kernel
theorem d_R_ringsOf_124 : decode b_R_ringsOf 124 = .ok (.invokevirtual 230, 3) := by decide +kernel
theorem d_R_ringsOf_127 : decode b_R_ringsOf 127 = .ok (.ifCond .eq 7, 3) := by decide +kernel
theorem d_R_ringsOf_130 : decode b_R_ringsOf 130 = .ok (.iconst 1, 1) := by decide +kernel
theorem d_R_ringsOf_131 : decode b_R_ringsOf 131 = .ok (.goto 4, 3) := by decide +kernel
theorem d_R_ringsOf_134 : decode b_R_ringsOf 134 = .ok (.iconst 0, 1) := by decide +kernel
theorem d_R_ringsOf_135 : decode b_R_ringsOf 135 = .ok (.istore 9, 2) := by decide +kernel
theorem d_R_ringsOf_137 : decode b_R_ringsOf 137 = .ok (.iload_n 3, 1) := by decide +kernel
theorem d_R_ringsOf_138 : decode b_R_ringsOf 138 = .ok (.iload 8, 2) := by decide +kernel
theorem d_R_ringsOf_140 : decode b_R_ringsOf 140 = .ok (.ifCond .ne 8, 3) := by decide +kernel
theorem d_R_ringsOf_143 : decode b_R_ringsOf 143 = .ok (.iload 9, 2) := by decide +kernel
theorem d_R_ringsOf_145 : decode b_R_ringsOf 145 = .ok (.ifCond .eq 7, 3) := by decide +kernel
theorem d_R_ringsOf_148 : decode b_R_ringsOf 148 = .ok (.iconst 1, 1) := by decide +kernel
theorem d_R_ringsOf_149 : decode b_R_ringsOf 149 = .ok (.goto 4, 3) := by decide +kernel
theorem d_R_ringsOf_152 : decode b_R_ringsOf 152 = .ok (.iconst 0, 1) := by decide +kernel
theorem d_R_ringsOf_153 : decode b_R_ringsOf 153 = .ok (.iadd, 1) := by decide +kernel
theorem d_R_ringsOf_154 : decode b_R_ringsOf 154 = .ok (.istore_n 3, 1) := by decide +kernel
theorem d_R_ringsOf_155 : decode b_R_ringsOf 155 = .ok (.iload 8, 2) := by decide +kernel
theorem d_R_ringsOf_157 : decode b_R_ringsOf 157 = .ok (.ifCond .ne 8, 3) := by decide +kernel
theorem d_R_ringsOf_160 : decode b_R_ringsOf 160 = .ok (.iload 9, 2) := by decide +kernel
theorem d_R_ringsOf_162 : decode b_R_ringsOf 162 = .ok (.ifCond .eq 26, 3) := by decide +kernel
theorem d_R_ringsOf_165 : decode b_R_ringsOf 165 = .ok (.iload 4, 2) := by decide +kernel
theorem d_R_ringsOf_167 : decode b_R_ringsOf 167 = .ok (.iconst (-1), 1) := by decide +kernel
theorem d_R_ringsOf_168 : decode b_R_ringsOf 168 = .ok (.if_icmp .ne 20, 3) := by decide +kernel
theorem d_R_ringsOf_171 : decode b_R_ringsOf 171 = .ok (.bipush 64, 2) := by decide +kernel
theorem d_R_ringsOf_173 : decode b_R_ringsOf 173 = .ok (.iload 5, 2) := by decide +kernel
theorem d_R_ringsOf_175 : decode b_R_ringsOf 175 = .ok (.imul, 1) := by decide +kernel
theorem d_R_ringsOf_176 : decode b_R_ringsOf 176 = .ok (.bipush 8, 2) := by decide +kernel
theorem d_R_ringsOf_178 : decode b_R_ringsOf 178 = .ok (.iload 6, 2) := by decide +kernel
theorem d_R_ringsOf_180 : decode b_R_ringsOf 180 = .ok (.imul, 1) := by decide +kernel
theorem d_R_ringsOf_181 : decode b_R_ringsOf 181 = .ok (.iadd, 1) := by decide +kernel
theorem d_R_ringsOf_182 : decode b_R_ringsOf 182 = .ok (.iload 7, 2) := by decide +kernel
theorem d_R_ringsOf_184 : decode b_R_ringsOf 184 = .ok (.iadd, 1) := by decide +kernel
theorem d_R_ringsOf_185 : decode b_R_ringsOf 185 = .ok (.goto 5, 3) := by decide +kernel
theorem d_R_ringsOf_188 : decode b_R_ringsOf 188 = .ok (.iload 4, 2) := by decide +kernel
theorem d_R_ringsOf_190 : decode b_R_ringsOf 190 = .ok (.istore 4, 2) := by decide +kernel
theorem d_R_ringsOf_192 : decode b_R_ringsOf 192 = .ok (.iinc 7 1, 3) := by decide +kernel
theorem d_R_ringsOf_195 : decode b_R_ringsOf 195 = .ok (.goto (-153), 3) := by decide +kernel
theorem d_R_ringsOf_198 : decode b_R_ringsOf 198 = .ok (.iinc 6 1, 3) := by decide +kernel
theorem d_R_ringsOf_201 : decode b_R_ringsOf 201 = .ok (.goto (-174), 3) := by decide +kernel
theorem d_R_ringsOf_204 : decode b_R_ringsOf 204 = .ok (.iinc 5 1, 3) := by decide +kernel
theorem d_R_ringsOf_207 : decode b_R_ringsOf 207 = .ok (.goto (-195), 3) := by decide +kernel
theorem d_R_ringsOf_210 : decode b_R_ringsOf 210 = .ok (.iload_n 2, 1) := by decide +kernel
theorem d_R_ringsOf_211 : decode b_R_ringsOf 211 = .ok (.ifCond .ne 7, 3) := by decide +kernel
theorem d_R_ringsOf_214 : decode b_R_ringsOf 214 = .ok (.iload_n 3, 1) := by decide +kernel
theorem d_R_ringsOf_215 : decode b_R_ringsOf 215 = .ok (.goto 5, 3) := by decide +kernel
theorem d_R_ringsOf_218 : decode b_R_ringsOf 218 = .ok (.iload 4, 2) := by decide +kernel
theorem d_R_ringsOf_220 : decode b_R_ringsOf 220 = .ok (.ireturn, 1) := by decide +kernel
theorem qm_R_230 : Cond.methodLink nC8 230 y_R_isOwed ∈ tbl := tbl_in 1190 (by decide +kernel) rfl
theorem mo_R_ringsOf : MokV y_R_ringsOf b_R_ringsOf 10 (some .int) 2 := ⟨⟨(tbl_in 1189 (by decide +kernel) rfl), (tbl_in 70 (by decide +kernel) rfl)⟩, ⟨(tbl_in 1188 (by decide +kernel) rfl), tbl_lw _ (tbl_in 42 (by decide +kernel) rfl), (tbl_in 42 (by decide +kernel) rfl)⟩, ⟨by decide +kernel, by decide +kernel⟩, by decide +kernel⟩
def j_R_ringsOf_165 (P : Int32 → Hp → Prop) (I12 : Hp → Int32 → Int32 → Int32 → Int32 → Int32 → Prop) (I27 : Hp → Int32 → Int32 → Int32 → Int32 → Int32 → Int32 → Prop) (I42 : Hp → Int32 → Int32 → Int32 → Int32 → Int32 → Int32 → Int32 → Prop) (σ : Hp) (x1 : Int32) (x2 : Int32) (x3 : Int32) (x4 : Int32) (x5 : Int32) (x6 : Int32) (x7 : Int32) : Prop :=
  ((¬ x4 = (-1 : Int32) → (∀ v2 : Int32, v2 = x7 + (1 : Int32) → I42 σ x1 x2 x3 x4 x5 x6 v2)) ∧ (x4 = (-1 : Int32) → (∀ v3 : Int32, v3 = (((64 : Int32) * x5) + ((8 : Int32) * x6)) + x7 → (∀ v4 : Int32, v4 = x7 + (1 : Int32) → I42 σ x1 x2 x3 v3 x5 x6 v4))))
def j_R_ringsOf_153 (P : Int32 → Hp → Prop) (I12 : Hp → Int32 → Int32 → Int32 → Int32 → Int32 → Prop) (I27 : Hp → Int32 → Int32 → Int32 → Int32 → Int32 → Int32 → Prop) (I42 : Hp → Int32 → Int32 → Int32 → Int32 → Int32 → Int32 → Int32 → Prop) (σ : Hp) (x1 : Int32) (x2 : Int32) (x4 : Int32) (x5 : Int32) (x6 : Int32) (x7 : Int32) (x8 : Int32) (x9 : Int32) (s0 : Int32) (s1 : Int32) : Prop :=
  (∀ v5 : Int32, v5 = s0 + s1 → ((¬ x8 = 0 → j_R_ringsOf_165 P I12 I27 I42 σ x1 x2 v5 x4 x5 x6 x7) ∧ (x8 = 0 → ((x9 = 0 → (∀ v8 : Int32, v8 = x7 + (1 : Int32) → I42 σ x1 x2 v5 x4 x5 x6 v8)) ∧ (¬ x9 = 0 → j_R_ringsOf_165 P I12 I27 I42 σ x1 x2 v5 x4 x5 x6 x7)))))
def j_R_ringsOf_148 (P : Int32 → Hp → Prop) (I12 : Hp → Int32 → Int32 → Int32 → Int32 → Int32 → Prop) (I27 : Hp → Int32 → Int32 → Int32 → Int32 → Int32 → Int32 → Prop) (I42 : Hp → Int32 → Int32 → Int32 → Int32 → Int32 → Int32 → Int32 → Prop) (σ : Hp) (x1 : Int32) (x2 : Int32) (x4 : Int32) (x5 : Int32) (x6 : Int32) (x7 : Int32) (x8 : Int32) (x9 : Int32) (s0 : Int32) : Prop :=
  j_R_ringsOf_153 P I12 I27 I42 σ x1 x2 x4 x5 x6 x7 x8 x9 s0 (1 : Int32)
def j_R_ringsOf_135 (P : Int32 → Hp → Prop) (I12 : Hp → Int32 → Int32 → Int32 → Int32 → Int32 → Prop) (I27 : Hp → Int32 → Int32 → Int32 → Int32 → Int32 → Int32 → Prop) (I42 : Hp → Int32 → Int32 → Int32 → Int32 → Int32 → Int32 → Int32 → Prop) (σ : Hp) (x1 : Int32) (x2 : Int32) (x3 : Int32) (x4 : Int32) (x5 : Int32) (x6 : Int32) (x7 : Int32) (x8 : Int32) (s0 : Int32) : Prop :=
  ((¬ x8 = 0 → j_R_ringsOf_148 P I12 I27 I42 σ x1 x2 x4 x5 x6 x7 x8 s0 x3) ∧ (x8 = 0 → ((s0 = 0 → j_R_ringsOf_153 P I12 I27 I42 σ x1 x2 x4 x5 x6 x7 x8 s0 x3 (0 : Int32)) ∧ (¬ s0 = 0 → j_R_ringsOf_148 P I12 I27 I42 σ x1 x2 x4 x5 x6 x7 x8 s0 x3))))
def j_R_ringsOf_134 (P : Int32 → Hp → Prop) (I12 : Hp → Int32 → Int32 → Int32 → Int32 → Int32 → Prop) (I27 : Hp → Int32 → Int32 → Int32 → Int32 → Int32 → Int32 → Prop) (I42 : Hp → Int32 → Int32 → Int32 → Int32 → Int32 → Int32 → Int32 → Prop) (σ : Hp) (x1 : Int32) (x2 : Int32) (x3 : Int32) (x4 : Int32) (x5 : Int32) (x6 : Int32) (x7 : Int32) (x8 : Int32) : Prop :=
  j_R_ringsOf_135 P I12 I27 I42 σ x1 x2 x3 x4 x5 x6 x7 x8 (0 : Int32)
def j_R_ringsOf_92 (P : Int32 → Hp → Prop) (I12 : Hp → Int32 → Int32 → Int32 → Int32 → Int32 → Prop) (I27 : Hp → Int32 → Int32 → Int32 → Int32 → Int32 → Int32 → Prop) (I42 : Hp → Int32 → Int32 → Int32 → Int32 → Int32 → Int32 → Int32 → Prop) (σ : Hp) (x1 : Int32) (x2 : Int32) (x3 : Int32) (x4 : Int32) (x5 : Int32) (x6 : Int32) (x7 : Int32) (s0 : Int32) : Prop :=
  wp_R_isOwed σ x1 x6 x5 (fun (r11 : Int32) (t12 : Hp) => ((r11 = 0 → j_R_ringsOf_134 P I12 I27 I42 t12 x1 x2 x3 x4 x5 x6 x7 s0) ∧ (¬ r11 = 0 → wp_R_isOwed t12 x1 x7 x6 (fun (r14 : Int32) (t15 : Hp) => ((r14 = 0 → j_R_ringsOf_134 P I12 I27 I42 t15 x1 x2 x3 x4 x5 x6 x7 s0) ∧ (¬ r14 = 0 → wp_R_isOwed t15 x1 x5 x7 (fun (r17 : Int32) (t18 : Hp) => ((r17 = 0 → j_R_ringsOf_134 P I12 I27 I42 t18 x1 x2 x3 x4 x5 x6 x7 s0) ∧ (¬ r17 = 0 → j_R_ringsOf_135 P I12 I27 I42 t18 x1 x2 x3 x4 x5 x6 x7 s0 (1 : Int32))))))))))
def j_R_ringsOf_91 (P : Int32 → Hp → Prop) (I12 : Hp → Int32 → Int32 → Int32 → Int32 → Int32 → Prop) (I27 : Hp → Int32 → Int32 → Int32 → Int32 → Int32 → Int32 → Prop) (I42 : Hp → Int32 → Int32 → Int32 → Int32 → Int32 → Int32 → Int32 → Prop) (σ : Hp) (x1 : Int32) (x2 : Int32) (x3 : Int32) (x4 : Int32) (x5 : Int32) (x6 : Int32) (x7 : Int32) : Prop :=
  j_R_ringsOf_92 P I12 I27 I42 σ x1 x2 x3 x4 x5 x6 x7 (0 : Int32)
def b_R_ringsOf_42_ (P : Int32 → Hp → Prop) (I12 : Hp → Int32 → Int32 → Int32 → Int32 → Int32 → Prop) (I27 : Hp → Int32 → Int32 → Int32 → Int32 → Int32 → Int32 → Prop) (I42 : Hp → Int32 → Int32 → Int32 → Int32 → Int32 → Int32 → Int32 → Prop) (σ : Hp) (x1 : Int32) (x2 : Int32) (x3 : Int32) (x4 : Int32) (x5 : Int32) (x6 : Int32) (x7 : Int32) : Prop :=
  (((σ 0 2) ≤ x7 → (∀ v21 : Int32, v21 = x6 + (1 : Int32) → I27 σ x1 x2 x3 x4 x5 v21)) ∧ (¬ (σ 0 2) ≤ x7 → wp_R_isOwed σ x1 x5 x6 (fun (r22 : Int32) (t23 : Hp) => ((r22 = 0 → j_R_ringsOf_91 P I12 I27 I42 t23 x1 x2 x3 x4 x5 x6 x7) ∧ (¬ r22 = 0 → wp_R_isOwed t23 x1 x6 x7 (fun (r25 : Int32) (t26 : Hp) => ((r25 = 0 → j_R_ringsOf_91 P I12 I27 I42 t26 x1 x2 x3 x4 x5 x6 x7) ∧ (¬ r25 = 0 → wp_R_isOwed t26 x1 x7 x5 (fun (r28 : Int32) (t29 : Hp) => ((r28 = 0 → j_R_ringsOf_91 P I12 I27 I42 t29 x1 x2 x3 x4 x5 x6 x7) ∧ (¬ r28 = 0 → j_R_ringsOf_92 P I12 I27 I42 t29 x1 x2 x3 x4 x5 x6 x7 (1 : Int32))))))))))))
def j_R_ringsOf_42 (P : Int32 → Hp → Prop) (I12 : Hp → Int32 → Int32 → Int32 → Int32 → Int32 → Prop) (I27 : Hp → Int32 → Int32 → Int32 → Int32 → Int32 → Int32 → Prop) (σ : Hp) (x1 : Int32) (x2 : Int32) (x3 : Int32) (x4 : Int32) (x5 : Int32) (x6 : Int32) (x7 : Int32) : Prop := ∀ I42 : Hp → Int32 → Int32 → Int32 → Int32 → Int32 → Int32 → Int32 → Prop, (∀ (σ : Hp) (x1 : Int32) (x2 : Int32) (x3 : Int32) (x4 : Int32) (x5 : Int32) (x6 : Int32) (x7 : Int32), b_R_ringsOf_42_  P I12 I27 I42 σ x1 x2 x3 x4 x5 x6 x7 → I42 σ x1 x2 x3 x4 x5 x6 x7) → I42 σ x1 x2 x3 x4 x5 x6 x7
def b_R_ringsOf_27_ (P : Int32 → Hp → Prop) (I12 : Hp → Int32 → Int32 → Int32 → Int32 → Int32 → Prop) (I27 : Hp → Int32 → Int32 → Int32 → Int32 → Int32 → Int32 → Prop) (σ : Hp) (x1 : Int32) (x2 : Int32) (x3 : Int32) (x4 : Int32) (x5 : Int32) (x6 : Int32) : Prop :=
  (((σ 0 2) ≤ x6 → (∀ v32 : Int32, v32 = x5 + (1 : Int32) → I12 σ x1 x2 x3 x4 v32)) ∧ (¬ (σ 0 2) ≤ x6 → (∀ v33 : Int32, v33 = x6 + (1 : Int32) → j_R_ringsOf_42 P I12 I27 σ x1 x2 x3 x4 x5 x6 v33)))
def j_R_ringsOf_27 (P : Int32 → Hp → Prop) (I12 : Hp → Int32 → Int32 → Int32 → Int32 → Int32 → Prop) (σ : Hp) (x1 : Int32) (x2 : Int32) (x3 : Int32) (x4 : Int32) (x5 : Int32) (x6 : Int32) : Prop := ∀ I27 : Hp → Int32 → Int32 → Int32 → Int32 → Int32 → Int32 → Prop, (∀ (σ : Hp) (x1 : Int32) (x2 : Int32) (x3 : Int32) (x4 : Int32) (x5 : Int32) (x6 : Int32), b_R_ringsOf_27_  P I12 I27 σ x1 x2 x3 x4 x5 x6 → I27 σ x1 x2 x3 x4 x5 x6) → I27 σ x1 x2 x3 x4 x5 x6
def b_R_ringsOf_12_ (P : Int32 → Hp → Prop)  (I12 : Hp → Int32 → Int32 → Int32 → Int32 → Int32 → Prop) (σ : Hp) (x1 : Int32) (x2 : Int32) (x3 : Int32) (x4 : Int32) (x5 : Int32) : Prop :=
  (((σ 0 2) ≤ x5 → ((¬ x2 = 0 → P x4 σ) ∧ (x2 = 0 → P x3 σ))) ∧ (¬ (σ 0 2) ≤ x5 → (∀ v36 : Int32, v36 = x5 + (1 : Int32) → j_R_ringsOf_27 P I12 σ x1 x2 x3 x4 x5 v36)))
def j_R_ringsOf_12 (P : Int32 → Hp → Prop)  (σ : Hp) (x1 : Int32) (x2 : Int32) (x3 : Int32) (x4 : Int32) (x5 : Int32) : Prop := ∀ I12 : Hp → Int32 → Int32 → Int32 → Int32 → Int32 → Prop, (∀ (σ : Hp) (x1 : Int32) (x2 : Int32) (x3 : Int32) (x4 : Int32) (x5 : Int32), b_R_ringsOf_12_  P  I12 σ x1 x2 x3 x4 x5 → I12 σ x1 x2 x3 x4 x5) → I12 σ x1 x2 x3 x4 x5
def wp_R_ringsOf (σ : Hp) (a1 : Int32) (a2 : Int32) (P : Int32 → Hp → Prop) : Prop :=
  wp_R_laysTold σ (fun (t38 : Hp) => j_R_ringsOf_12 P t38 a1 a2 (0 : Int32) (-1 : Int32) (0 : Int32))
set_option maxHeartbeats 4000000 in
set_option maxRecDepth 100000 in
theorem wj_R_ringsOf_165 {w : Wd} {κ : Kx} {P : Int32 → Hp → Prop} (hC : Cx μR w 10 κ nC8 b_R_ringsOf 8) (hR : RtI μR w 10 κ b_R_ringsOf .int P) {I12 : Hp → Int32 → Int32 → Int32 → Int32 → Int32 → Prop} (hI12 : ∀ σ x1 x2 x3 x4 x5, I12 σ x1 x2 x3 x4 x5 → V μR w 10 κ σ [some (.ref (w.1 0)), some (.int x1), some (.int x2), some (.int x3), some (.int x4), some (.int x5), none, none, none, none] 12 []) {I27 : Hp → Int32 → Int32 → Int32 → Int32 → Int32 → Int32 → Prop} (hI27 : ∀ σ x1 x2 x3 x4 x5 x6, I27 σ x1 x2 x3 x4 x5 x6 → V μR w 10 κ σ [some (.ref (w.1 0)), some (.int x1), some (.int x2), some (.int x3), some (.int x4), some (.int x5), some (.int x6), none, none, none] 27 []) {I42 : Hp → Int32 → Int32 → Int32 → Int32 → Int32 → Int32 → Int32 → Prop} (hI42 : ∀ σ x1 x2 x3 x4 x5 x6 x7, I42 σ x1 x2 x3 x4 x5 x6 x7 → V μR w 10 κ σ [some (.ref (w.1 0)), some (.int x1), some (.int x2), some (.int x3), some (.int x4), some (.int x5), some (.int x6), some (.int x7), none, none] 42 []) : ∀ (σ : Hp) (x1 : Int32) (x2 : Int32) (x3 : Int32) (x4 : Int32) (x5 : Int32) (x6 : Int32) (x7 : Int32), j_R_ringsOf_165  P I12 I27 I42 σ x1 x2 x3 x4 x5 x6 x7 → V μR w 10 κ σ [some (.ref (w.1 0)), some (.int x1), some (.int x2), some (.int x3), some (.int x4), some (.int x5), some (.int x6), some (.int x7), none, none] 165 [] := by
  intro σ x1 x2 x3 x4 x5 x6 x7 h
  unfold j_R_ringsOf_165 at h
  refine V.iload hC d_R_ringsOf_165 rfl ?_
  refine V.iconst (v := -1) hC d_R_ringsOf_167 (by decide) ?_
  refine V.icmp_ne (tgt := 188) hC d_R_ringsOf_168 (by decide) (fun c1 => ?_) (fun c1 => ?_)
  · replace h := h.1 c1
    refine V.iload hC d_R_ringsOf_188 rfl ?_
    refine V.istore (y := x4) (lo' := [some (.ref (w.1 0)), some (.int x1), some (.int x2), some (.int x3), some (.int x4), some (.int x5), some (.int x6), some (.int x7), none, none]) hC d_R_ringsOf_190 rfl rfl rfl ?_
    obtain ⟨v2, ev2⟩ : ∃ y : Int32, y = x7 + (1 : Int32) := ⟨_, rfl⟩
    replace h := h v2 ev2
    refine V.iinc (y := v2) (lo' := [some (.ref (w.1 0)), some (.int x1), some (.int x2), some (.int x3), some (.int x4), some (.int x5), some (.int x6), some (.int v2), none, none]) hC d_R_ringsOf_192 rfl rfl (show v2 = _ + Int32.ofInt (1) from ev2) rfl ?_
    refine V.goto (tgt := 42) hC d_R_ringsOf_195 (by decide) ?_
    exact V.msk [true, true, true, true, true, true, true, true, false, false] rfl (hI42 σ x1 x2 x3 x4 x5 x6 v2 h)
  · replace h := h.2 c1
    refine V.bipush (v := 64) hC d_R_ringsOf_171 (by decide) ?_
    refine V.iload hC d_R_ringsOf_173 rfl ?_
    refine V.imul hC d_R_ringsOf_175 ?_
    refine V.bipush (v := 8) hC d_R_ringsOf_176 (by decide) ?_
    refine V.iload hC d_R_ringsOf_178 rfl ?_
    refine V.imul hC d_R_ringsOf_180 ?_
    refine V.iadd hC d_R_ringsOf_181 ?_
    refine V.iload hC d_R_ringsOf_182 rfl ?_
    refine V.iadd hC d_R_ringsOf_184 ?_
    refine V.goto (tgt := 190) hC d_R_ringsOf_185 (by decide) ?_
    obtain ⟨v3, ev3⟩ : ∃ y : Int32, y = (((64 : Int32) * x5) + ((8 : Int32) * x6)) + x7 := ⟨_, rfl⟩
    replace h := h v3 ev3
    refine V.istore (y := v3) (lo' := [some (.ref (w.1 0)), some (.int x1), some (.int x2), some (.int x3), some (.int v3), some (.int x5), some (.int x6), some (.int x7), none, none]) hC d_R_ringsOf_190 rfl ev3 rfl ?_
    obtain ⟨v4, ev4⟩ : ∃ y : Int32, y = x7 + (1 : Int32) := ⟨_, rfl⟩
    replace h := h v4 ev4
    refine V.iinc (y := v4) (lo' := [some (.ref (w.1 0)), some (.int x1), some (.int x2), some (.int x3), some (.int v3), some (.int x5), some (.int x6), some (.int v4), none, none]) hC d_R_ringsOf_192 rfl rfl (show v4 = _ + Int32.ofInt (1) from ev4) rfl ?_
    refine V.goto (tgt := 42) hC d_R_ringsOf_195 (by decide) ?_
    exact V.msk [true, true, true, true, true, true, true, true, false, false] rfl (hI42 σ x1 x2 x3 v3 x5 x6 v4 h)
set_option maxHeartbeats 4000000 in
set_option maxRecDepth 100000 in
theorem wj_R_ringsOf_153 {w : Wd} {κ : Kx} {P : Int32 → Hp → Prop} (hC : Cx μR w 10 κ nC8 b_R_ringsOf 8) (hR : RtI μR w 10 κ b_R_ringsOf .int P) {I12 : Hp → Int32 → Int32 → Int32 → Int32 → Int32 → Prop} (hI12 : ∀ σ x1 x2 x3 x4 x5, I12 σ x1 x2 x3 x4 x5 → V μR w 10 κ σ [some (.ref (w.1 0)), some (.int x1), some (.int x2), some (.int x3), some (.int x4), some (.int x5), none, none, none, none] 12 []) {I27 : Hp → Int32 → Int32 → Int32 → Int32 → Int32 → Int32 → Prop} (hI27 : ∀ σ x1 x2 x3 x4 x5 x6, I27 σ x1 x2 x3 x4 x5 x6 → V μR w 10 κ σ [some (.ref (w.1 0)), some (.int x1), some (.int x2), some (.int x3), some (.int x4), some (.int x5), some (.int x6), none, none, none] 27 []) {I42 : Hp → Int32 → Int32 → Int32 → Int32 → Int32 → Int32 → Int32 → Prop} (hI42 : ∀ σ x1 x2 x3 x4 x5 x6 x7, I42 σ x1 x2 x3 x4 x5 x6 x7 → V μR w 10 κ σ [some (.ref (w.1 0)), some (.int x1), some (.int x2), some (.int x3), some (.int x4), some (.int x5), some (.int x6), some (.int x7), none, none] 42 []) : ∀ (σ : Hp) (x1 : Int32) (x2 : Int32) (x4 : Int32) (x5 : Int32) (x6 : Int32) (x7 : Int32) (x8 : Int32) (x9 : Int32) (s0 : Int32) (s1 : Int32), j_R_ringsOf_153  P I12 I27 I42 σ x1 x2 x4 x5 x6 x7 x8 x9 s0 s1 → V μR w 10 κ σ [some (.ref (w.1 0)), some (.int x1), some (.int x2), none, some (.int x4), some (.int x5), some (.int x6), some (.int x7), some (.int x8), some (.int x9)] 153 [.int s1, .int s0] := by
  intro σ x1 x2 x4 x5 x6 x7 x8 x9 s0 s1 h
  unfold j_R_ringsOf_153 at h
  refine V.iadd hC d_R_ringsOf_153 ?_
  obtain ⟨v5, ev5⟩ : ∃ y : Int32, y = s0 + s1 := ⟨_, rfl⟩
  replace h := h v5 ev5
  refine V.istore_n (y := v5) (lo' := [some (.ref (w.1 0)), some (.int x1), some (.int x2), some (.int v5), some (.int x4), some (.int x5), some (.int x6), some (.int x7), some (.int x8), some (.int x9)]) hC d_R_ringsOf_154 rfl rfl ev5 rfl ?_
  refine V.iload hC d_R_ringsOf_155 rfl ?_
  refine V.if_ne (tgt := 165) hC d_R_ringsOf_157 (by decide) (fun c6 => ?_) (fun c6 => ?_)
  · replace h := h.1 c6
    exact V.msk [true, true, true, true, true, true, true, true, false, false] rfl (wj_R_ringsOf_165  hC hR hI12 hI27 hI42 σ x1 x2 v5 x4 x5 x6 x7 h)
  · replace h := h.2 c6
    refine V.iload hC d_R_ringsOf_160 rfl ?_
    refine V.if_eq (tgt := 188) hC d_R_ringsOf_162 (by decide) (fun c7 => ?_) (fun c7 => ?_)
    · replace h := h.1 c7
      refine V.iload hC d_R_ringsOf_188 rfl ?_
      refine V.istore (y := x4) (lo' := [some (.ref (w.1 0)), some (.int x1), some (.int x2), some (.int v5), some (.int x4), some (.int x5), some (.int x6), some (.int x7), some (.int x8), some (.int x9)]) hC d_R_ringsOf_190 rfl rfl rfl ?_
      obtain ⟨v8, ev8⟩ : ∃ y : Int32, y = x7 + (1 : Int32) := ⟨_, rfl⟩
      replace h := h v8 ev8
      refine V.iinc (y := v8) (lo' := [some (.ref (w.1 0)), some (.int x1), some (.int x2), some (.int v5), some (.int x4), some (.int x5), some (.int x6), some (.int v8), some (.int x8), some (.int x9)]) hC d_R_ringsOf_192 rfl rfl (show v8 = _ + Int32.ofInt (1) from ev8) rfl ?_
      refine V.goto (tgt := 42) hC d_R_ringsOf_195 (by decide) ?_
      exact V.msk [true, true, true, true, true, true, true, true, false, false] rfl (hI42 σ x1 x2 v5 x4 x5 x6 v8 h)
    · replace h := h.2 c7
      exact V.msk [true, true, true, true, true, true, true, true, false, false] rfl (wj_R_ringsOf_165  hC hR hI12 hI27 hI42 σ x1 x2 v5 x4 x5 x6 x7 h)
set_option maxHeartbeats 4000000 in
set_option maxRecDepth 100000 in
theorem wj_R_ringsOf_148 {w : Wd} {κ : Kx} {P : Int32 → Hp → Prop} (hC : Cx μR w 10 κ nC8 b_R_ringsOf 8) (hR : RtI μR w 10 κ b_R_ringsOf .int P) {I12 : Hp → Int32 → Int32 → Int32 → Int32 → Int32 → Prop} (hI12 : ∀ σ x1 x2 x3 x4 x5, I12 σ x1 x2 x3 x4 x5 → V μR w 10 κ σ [some (.ref (w.1 0)), some (.int x1), some (.int x2), some (.int x3), some (.int x4), some (.int x5), none, none, none, none] 12 []) {I27 : Hp → Int32 → Int32 → Int32 → Int32 → Int32 → Int32 → Prop} (hI27 : ∀ σ x1 x2 x3 x4 x5 x6, I27 σ x1 x2 x3 x4 x5 x6 → V μR w 10 κ σ [some (.ref (w.1 0)), some (.int x1), some (.int x2), some (.int x3), some (.int x4), some (.int x5), some (.int x6), none, none, none] 27 []) {I42 : Hp → Int32 → Int32 → Int32 → Int32 → Int32 → Int32 → Int32 → Prop} (hI42 : ∀ σ x1 x2 x3 x4 x5 x6 x7, I42 σ x1 x2 x3 x4 x5 x6 x7 → V μR w 10 κ σ [some (.ref (w.1 0)), some (.int x1), some (.int x2), some (.int x3), some (.int x4), some (.int x5), some (.int x6), some (.int x7), none, none] 42 []) : ∀ (σ : Hp) (x1 : Int32) (x2 : Int32) (x4 : Int32) (x5 : Int32) (x6 : Int32) (x7 : Int32) (x8 : Int32) (x9 : Int32) (s0 : Int32), j_R_ringsOf_148  P I12 I27 I42 σ x1 x2 x4 x5 x6 x7 x8 x9 s0 → V μR w 10 κ σ [some (.ref (w.1 0)), some (.int x1), some (.int x2), none, some (.int x4), some (.int x5), some (.int x6), some (.int x7), some (.int x8), some (.int x9)] 148 [.int s0] := by
  intro σ x1 x2 x4 x5 x6 x7 x8 x9 s0 h
  unfold j_R_ringsOf_148 at h
  refine V.iconst (v := 1) hC d_R_ringsOf_148 (by decide) ?_
  refine V.goto (tgt := 153) hC d_R_ringsOf_149 (by decide) ?_
  exact V.msk [true, true, true, false, true, true, true, true, true, true] rfl (wj_R_ringsOf_153  hC hR hI12 hI27 hI42 σ x1 x2 x4 x5 x6 x7 x8 x9 s0 (1 : Int32) h)
set_option maxHeartbeats 4000000 in
set_option maxRecDepth 100000 in
theorem wj_R_ringsOf_135 {w : Wd} {κ : Kx} {P : Int32 → Hp → Prop} (hC : Cx μR w 10 κ nC8 b_R_ringsOf 8) (hR : RtI μR w 10 κ b_R_ringsOf .int P) {I12 : Hp → Int32 → Int32 → Int32 → Int32 → Int32 → Prop} (hI12 : ∀ σ x1 x2 x3 x4 x5, I12 σ x1 x2 x3 x4 x5 → V μR w 10 κ σ [some (.ref (w.1 0)), some (.int x1), some (.int x2), some (.int x3), some (.int x4), some (.int x5), none, none, none, none] 12 []) {I27 : Hp → Int32 → Int32 → Int32 → Int32 → Int32 → Int32 → Prop} (hI27 : ∀ σ x1 x2 x3 x4 x5 x6, I27 σ x1 x2 x3 x4 x5 x6 → V μR w 10 κ σ [some (.ref (w.1 0)), some (.int x1), some (.int x2), some (.int x3), some (.int x4), some (.int x5), some (.int x6), none, none, none] 27 []) {I42 : Hp → Int32 → Int32 → Int32 → Int32 → Int32 → Int32 → Int32 → Prop} (hI42 : ∀ σ x1 x2 x3 x4 x5 x6 x7, I42 σ x1 x2 x3 x4 x5 x6 x7 → V μR w 10 κ σ [some (.ref (w.1 0)), some (.int x1), some (.int x2), some (.int x3), some (.int x4), some (.int x5), some (.int x6), some (.int x7), none, none] 42 []) : ∀ (σ : Hp) (x1 : Int32) (x2 : Int32) (x3 : Int32) (x4 : Int32) (x5 : Int32) (x6 : Int32) (x7 : Int32) (x8 : Int32) (s0 : Int32), j_R_ringsOf_135  P I12 I27 I42 σ x1 x2 x3 x4 x5 x6 x7 x8 s0 → V μR w 10 κ σ [some (.ref (w.1 0)), some (.int x1), some (.int x2), some (.int x3), some (.int x4), some (.int x5), some (.int x6), some (.int x7), some (.int x8), none] 135 [.int s0] := by
  intro σ x1 x2 x3 x4 x5 x6 x7 x8 s0 h
  unfold j_R_ringsOf_135 at h
  refine V.istore (y := s0) (lo' := [some (.ref (w.1 0)), some (.int x1), some (.int x2), some (.int x3), some (.int x4), some (.int x5), some (.int x6), some (.int x7), some (.int x8), some (.int s0)]) hC d_R_ringsOf_135 rfl rfl rfl ?_
  refine V.iload_n hC d_R_ringsOf_137 rfl rfl ?_
  refine V.iload hC d_R_ringsOf_138 rfl ?_
  refine V.if_ne (tgt := 148) hC d_R_ringsOf_140 (by decide) (fun c9 => ?_) (fun c9 => ?_)
  · replace h := h.1 c9
    exact V.msk [true, true, true, false, true, true, true, true, true, true] rfl (wj_R_ringsOf_148  hC hR hI12 hI27 hI42 σ x1 x2 x4 x5 x6 x7 x8 s0 x3 h)
  · replace h := h.2 c9
    refine V.iload hC d_R_ringsOf_143 rfl ?_
    refine V.if_eq (tgt := 152) hC d_R_ringsOf_145 (by decide) (fun c10 => ?_) (fun c10 => ?_)
    · replace h := h.1 c10
      refine V.iconst (v := 0) hC d_R_ringsOf_152 (by decide) ?_
      exact V.msk [true, true, true, false, true, true, true, true, true, true] rfl (wj_R_ringsOf_153  hC hR hI12 hI27 hI42 σ x1 x2 x4 x5 x6 x7 x8 s0 x3 (0 : Int32) h)
    · replace h := h.2 c10
      exact V.msk [true, true, true, false, true, true, true, true, true, true] rfl (wj_R_ringsOf_148  hC hR hI12 hI27 hI42 σ x1 x2 x4 x5 x6 x7 x8 s0 x3 h)
set_option maxHeartbeats 4000000 in
set_option maxRecDepth 100000 in
theorem wj_R_ringsOf_134 {w : Wd} {κ : Kx} {P : Int32 → Hp → Prop} (hC : Cx μR w 10 κ nC8 b_R_ringsOf 8) (hR : RtI μR w 10 κ b_R_ringsOf .int P) {I12 : Hp → Int32 → Int32 → Int32 → Int32 → Int32 → Prop} (hI12 : ∀ σ x1 x2 x3 x4 x5, I12 σ x1 x2 x3 x4 x5 → V μR w 10 κ σ [some (.ref (w.1 0)), some (.int x1), some (.int x2), some (.int x3), some (.int x4), some (.int x5), none, none, none, none] 12 []) {I27 : Hp → Int32 → Int32 → Int32 → Int32 → Int32 → Int32 → Prop} (hI27 : ∀ σ x1 x2 x3 x4 x5 x6, I27 σ x1 x2 x3 x4 x5 x6 → V μR w 10 κ σ [some (.ref (w.1 0)), some (.int x1), some (.int x2), some (.int x3), some (.int x4), some (.int x5), some (.int x6), none, none, none] 27 []) {I42 : Hp → Int32 → Int32 → Int32 → Int32 → Int32 → Int32 → Int32 → Prop} (hI42 : ∀ σ x1 x2 x3 x4 x5 x6 x7, I42 σ x1 x2 x3 x4 x5 x6 x7 → V μR w 10 κ σ [some (.ref (w.1 0)), some (.int x1), some (.int x2), some (.int x3), some (.int x4), some (.int x5), some (.int x6), some (.int x7), none, none] 42 []) : ∀ (σ : Hp) (x1 : Int32) (x2 : Int32) (x3 : Int32) (x4 : Int32) (x5 : Int32) (x6 : Int32) (x7 : Int32) (x8 : Int32), j_R_ringsOf_134  P I12 I27 I42 σ x1 x2 x3 x4 x5 x6 x7 x8 → V μR w 10 κ σ [some (.ref (w.1 0)), some (.int x1), some (.int x2), some (.int x3), some (.int x4), some (.int x5), some (.int x6), some (.int x7), some (.int x8), none] 134 [] := by
  intro σ x1 x2 x3 x4 x5 x6 x7 x8 h
  unfold j_R_ringsOf_134 at h
  refine V.iconst (v := 0) hC d_R_ringsOf_134 (by decide) ?_
  exact V.msk [true, true, true, true, true, true, true, true, true, false] rfl (wj_R_ringsOf_135  hC hR hI12 hI27 hI42 σ x1 x2 x3 x4 x5 x6 x7 x8 (0 : Int32) h)
set_option maxHeartbeats 4000000 in
set_option maxRecDepth 100000 in
theorem wj_R_ringsOf_92 {w : Wd} {κ : Kx} {P : Int32 → Hp → Prop} (hC : Cx μR w 10 κ nC8 b_R_ringsOf 8) (hR : RtI μR w 10 κ b_R_ringsOf .int P) {I12 : Hp → Int32 → Int32 → Int32 → Int32 → Int32 → Prop} (hI12 : ∀ σ x1 x2 x3 x4 x5, I12 σ x1 x2 x3 x4 x5 → V μR w 10 κ σ [some (.ref (w.1 0)), some (.int x1), some (.int x2), some (.int x3), some (.int x4), some (.int x5), none, none, none, none] 12 []) {I27 : Hp → Int32 → Int32 → Int32 → Int32 → Int32 → Int32 → Prop} (hI27 : ∀ σ x1 x2 x3 x4 x5 x6, I27 σ x1 x2 x3 x4 x5 x6 → V μR w 10 κ σ [some (.ref (w.1 0)), some (.int x1), some (.int x2), some (.int x3), some (.int x4), some (.int x5), some (.int x6), none, none, none] 27 []) {I42 : Hp → Int32 → Int32 → Int32 → Int32 → Int32 → Int32 → Int32 → Prop} (hI42 : ∀ σ x1 x2 x3 x4 x5 x6 x7, I42 σ x1 x2 x3 x4 x5 x6 x7 → V μR w 10 κ σ [some (.ref (w.1 0)), some (.int x1), some (.int x2), some (.int x3), some (.int x4), some (.int x5), some (.int x6), some (.int x7), none, none] 42 []) : ∀ (σ : Hp) (x1 : Int32) (x2 : Int32) (x3 : Int32) (x4 : Int32) (x5 : Int32) (x6 : Int32) (x7 : Int32) (s0 : Int32), j_R_ringsOf_92  P I12 I27 I42 σ x1 x2 x3 x4 x5 x6 x7 s0 → V μR w 10 κ σ [some (.ref (w.1 0)), some (.int x1), some (.int x2), some (.int x3), some (.int x4), some (.int x5), some (.int x6), some (.int x7), none, none] 92 [.int s0] := by
  intro σ x1 x2 x3 x4 x5 x6 x7 s0 h
  unfold j_R_ringsOf_92 at h
  refine V.istore (y := s0) (lo' := [some (.ref (w.1 0)), some (.int x1), some (.int x2), some (.int x3), some (.int x4), some (.int x5), some (.int x6), some (.int x7), some (.int s0), none]) hC d_R_ringsOf_92 rfl rfl rfl ?_
  refine V.aload_n hC d_R_ringsOf_94 rfl rfl ?_
  refine V.iload_n hC d_R_ringsOf_95 rfl rfl ?_
  refine V.iload hC d_R_ringsOf_96 rfl ?_
  refine V.iload hC d_R_ringsOf_98 rfl ?_
  refine V.callVI hC exR (w_R_isOwed w σ x1 x6 x5 _ h) d_R_ringsOf_100 mo_R_isOwed qm_R_230 rfl rfl rfl rfl rfl rfl rfl (Nat.le_of_ble_eq_true rfl) (fun r11 t12 h => ?_)
  refine V.if_eq (tgt := 134) hC d_R_ringsOf_103 (by decide) (fun c13 => ?_) (fun c13 => ?_)
  · replace h := h.1 c13
    exact V.msk [true, true, true, true, true, true, true, true, true, false] rfl (wj_R_ringsOf_134  hC hR hI12 hI27 hI42 t12 x1 x2 x3 x4 x5 x6 x7 s0 h)
  · replace h := h.2 c13
    refine V.aload_n hC d_R_ringsOf_106 rfl rfl ?_
    refine V.iload_n hC d_R_ringsOf_107 rfl rfl ?_
    refine V.iload hC d_R_ringsOf_108 rfl ?_
    refine V.iload hC d_R_ringsOf_110 rfl ?_
    refine V.callVI hC exR (w_R_isOwed w t12 x1 x7 x6 _ h) d_R_ringsOf_112 mo_R_isOwed qm_R_230 rfl rfl rfl rfl rfl rfl rfl (Nat.le_of_ble_eq_true rfl) (fun r14 t15 h => ?_)
    refine V.if_eq (tgt := 134) hC d_R_ringsOf_115 (by decide) (fun c16 => ?_) (fun c16 => ?_)
    · replace h := h.1 c16
      exact V.msk [true, true, true, true, true, true, true, true, true, false] rfl (wj_R_ringsOf_134  hC hR hI12 hI27 hI42 t15 x1 x2 x3 x4 x5 x6 x7 s0 h)
    · replace h := h.2 c16
      refine V.aload_n hC d_R_ringsOf_118 rfl rfl ?_
      refine V.iload_n hC d_R_ringsOf_119 rfl rfl ?_
      refine V.iload hC d_R_ringsOf_120 rfl ?_
      refine V.iload hC d_R_ringsOf_122 rfl ?_
      refine V.callVI hC exR (w_R_isOwed w t15 x1 x5 x7 _ h) d_R_ringsOf_124 mo_R_isOwed qm_R_230 rfl rfl rfl rfl rfl rfl rfl (Nat.le_of_ble_eq_true rfl) (fun r17 t18 h => ?_)
      refine V.if_eq (tgt := 134) hC d_R_ringsOf_127 (by decide) (fun c19 => ?_) (fun c19 => ?_)
      · replace h := h.1 c19
        exact V.msk [true, true, true, true, true, true, true, true, true, false] rfl (wj_R_ringsOf_134  hC hR hI12 hI27 hI42 t18 x1 x2 x3 x4 x5 x6 x7 s0 h)
      · replace h := h.2 c19
        refine V.iconst (v := 1) hC d_R_ringsOf_130 (by decide) ?_
        refine V.goto (tgt := 135) hC d_R_ringsOf_131 (by decide) ?_
        exact V.msk [true, true, true, true, true, true, true, true, true, false] rfl (wj_R_ringsOf_135  hC hR hI12 hI27 hI42 t18 x1 x2 x3 x4 x5 x6 x7 s0 (1 : Int32) h)
set_option maxHeartbeats 4000000 in
set_option maxRecDepth 100000 in
theorem wj_R_ringsOf_91 {w : Wd} {κ : Kx} {P : Int32 → Hp → Prop} (hC : Cx μR w 10 κ nC8 b_R_ringsOf 8) (hR : RtI μR w 10 κ b_R_ringsOf .int P) {I12 : Hp → Int32 → Int32 → Int32 → Int32 → Int32 → Prop} (hI12 : ∀ σ x1 x2 x3 x4 x5, I12 σ x1 x2 x3 x4 x5 → V μR w 10 κ σ [some (.ref (w.1 0)), some (.int x1), some (.int x2), some (.int x3), some (.int x4), some (.int x5), none, none, none, none] 12 []) {I27 : Hp → Int32 → Int32 → Int32 → Int32 → Int32 → Int32 → Prop} (hI27 : ∀ σ x1 x2 x3 x4 x5 x6, I27 σ x1 x2 x3 x4 x5 x6 → V μR w 10 κ σ [some (.ref (w.1 0)), some (.int x1), some (.int x2), some (.int x3), some (.int x4), some (.int x5), some (.int x6), none, none, none] 27 []) {I42 : Hp → Int32 → Int32 → Int32 → Int32 → Int32 → Int32 → Int32 → Prop} (hI42 : ∀ σ x1 x2 x3 x4 x5 x6 x7, I42 σ x1 x2 x3 x4 x5 x6 x7 → V μR w 10 κ σ [some (.ref (w.1 0)), some (.int x1), some (.int x2), some (.int x3), some (.int x4), some (.int x5), some (.int x6), some (.int x7), none, none] 42 []) : ∀ (σ : Hp) (x1 : Int32) (x2 : Int32) (x3 : Int32) (x4 : Int32) (x5 : Int32) (x6 : Int32) (x7 : Int32), j_R_ringsOf_91  P I12 I27 I42 σ x1 x2 x3 x4 x5 x6 x7 → V μR w 10 κ σ [some (.ref (w.1 0)), some (.int x1), some (.int x2), some (.int x3), some (.int x4), some (.int x5), some (.int x6), some (.int x7), none, none] 91 [] := by
  intro σ x1 x2 x3 x4 x5 x6 x7 h
  unfold j_R_ringsOf_91 at h
  refine V.iconst (v := 0) hC d_R_ringsOf_91 (by decide) ?_
  exact V.msk [true, true, true, true, true, true, true, true, false, false] rfl (wj_R_ringsOf_92  hC hR hI12 hI27 hI42 σ x1 x2 x3 x4 x5 x6 x7 (0 : Int32) h)
set_option maxHeartbeats 4000000 in
set_option maxRecDepth 100000 in
theorem wj_R_ringsOf_42 {w : Wd} {κ : Kx} {P : Int32 → Hp → Prop} (hC : Cx μR w 10 κ nC8 b_R_ringsOf 8) (hR : RtI μR w 10 κ b_R_ringsOf .int P) {I12 : Hp → Int32 → Int32 → Int32 → Int32 → Int32 → Prop} (hI12 : ∀ σ x1 x2 x3 x4 x5, I12 σ x1 x2 x3 x4 x5 → V μR w 10 κ σ [some (.ref (w.1 0)), some (.int x1), some (.int x2), some (.int x3), some (.int x4), some (.int x5), none, none, none, none] 12 []) {I27 : Hp → Int32 → Int32 → Int32 → Int32 → Int32 → Int32 → Prop} (hI27 : ∀ σ x1 x2 x3 x4 x5 x6, I27 σ x1 x2 x3 x4 x5 x6 → V μR w 10 κ σ [some (.ref (w.1 0)), some (.int x1), some (.int x2), some (.int x3), some (.int x4), some (.int x5), some (.int x6), none, none, none] 27 []) : ∀ (σ : Hp) (x1 : Int32) (x2 : Int32) (x3 : Int32) (x4 : Int32) (x5 : Int32) (x6 : Int32) (x7 : Int32), j_R_ringsOf_42  P I12 I27 σ x1 x2 x3 x4 x5 x6 x7 → V μR w 10 κ σ [some (.ref (w.1 0)), some (.int x1), some (.int x2), some (.int x3), some (.int x4), some (.int x5), some (.int x6), some (.int x7), none, none] 42 [] := by
  intro σ x1 x2 x3 x4 x5 x6 x7 h
  refine h (fun σ x1 x2 x3 x4 x5 x6 x7 => V μR w 10 κ σ [some (.ref (w.1 0)), some (.int x1), some (.int x2), some (.int x3), some (.int x4), some (.int x5), some (.int x6), some (.int x7), none, none] 42 []) (fun σ x1 x2 x3 x4 x5 x6 x7 h => ?_)
  unfold b_R_ringsOf_42_ at h
  refine V.iload hC d_R_ringsOf_42 rfl ?_
  refine V.aload_n hC d_R_ringsOf_44 rfl rfl ?_
  refine V.getI (j := 2) hC d_R_ringsOf_45 rfl rfl uC8 rfl rfl qf_R_116 ?_
  refine V.icmp_ge (tgt := 198) hC d_R_ringsOf_48 (by decide) (fun c20 => ?_) (fun c20 => ?_)
  · replace h := h.1 c20
    obtain ⟨v21, ev21⟩ : ∃ y : Int32, y = x6 + (1 : Int32) := ⟨_, rfl⟩
    replace h := h v21 ev21
    refine V.iinc (y := v21) (lo' := [some (.ref (w.1 0)), some (.int x1), some (.int x2), some (.int x3), some (.int x4), some (.int x5), some (.int v21), some (.int x7), none, none]) hC d_R_ringsOf_198 rfl rfl (show v21 = _ + Int32.ofInt (1) from ev21) rfl ?_
    refine V.goto (tgt := 27) hC d_R_ringsOf_201 (by decide) ?_
    exact V.msk [true, true, true, true, true, true, true, false, false, false] rfl (hI27 σ x1 x2 x3 x4 x5 v21 h)
  · replace h := h.2 c20
    refine V.aload_n hC d_R_ringsOf_51 rfl rfl ?_
    refine V.iload_n hC d_R_ringsOf_52 rfl rfl ?_
    refine V.iload hC d_R_ringsOf_53 rfl ?_
    refine V.iload hC d_R_ringsOf_55 rfl ?_
    refine V.callVI hC exR (w_R_isOwed w σ x1 x5 x6 _ h) d_R_ringsOf_57 mo_R_isOwed qm_R_230 rfl rfl rfl rfl rfl rfl rfl (Nat.le_of_ble_eq_true rfl) (fun r22 t23 h => ?_)
    refine V.if_eq (tgt := 91) hC d_R_ringsOf_60 (by decide) (fun c24 => ?_) (fun c24 => ?_)
    · replace h := h.1 c24
      exact V.msk [true, true, true, true, true, true, true, true, false, false] rfl (wj_R_ringsOf_91  hC hR hI12 hI27 (fun _ _ _ _ _ _ _ _ h => h) t23 x1 x2 x3 x4 x5 x6 x7 h)
    · replace h := h.2 c24
      refine V.aload_n hC d_R_ringsOf_63 rfl rfl ?_
      refine V.iload_n hC d_R_ringsOf_64 rfl rfl ?_
      refine V.iload hC d_R_ringsOf_65 rfl ?_
      refine V.iload hC d_R_ringsOf_67 rfl ?_
      refine V.callVI hC exR (w_R_isOwed w t23 x1 x6 x7 _ h) d_R_ringsOf_69 mo_R_isOwed qm_R_230 rfl rfl rfl rfl rfl rfl rfl (Nat.le_of_ble_eq_true rfl) (fun r25 t26 h => ?_)
      refine V.if_eq (tgt := 91) hC d_R_ringsOf_72 (by decide) (fun c27 => ?_) (fun c27 => ?_)
      · replace h := h.1 c27
        exact V.msk [true, true, true, true, true, true, true, true, false, false] rfl (wj_R_ringsOf_91  hC hR hI12 hI27 (fun _ _ _ _ _ _ _ _ h => h) t26 x1 x2 x3 x4 x5 x6 x7 h)
      · replace h := h.2 c27
        refine V.aload_n hC d_R_ringsOf_75 rfl rfl ?_
        refine V.iload_n hC d_R_ringsOf_76 rfl rfl ?_
        refine V.iload hC d_R_ringsOf_77 rfl ?_
        refine V.iload hC d_R_ringsOf_79 rfl ?_
        refine V.callVI hC exR (w_R_isOwed w t26 x1 x7 x5 _ h) d_R_ringsOf_81 mo_R_isOwed qm_R_230 rfl rfl rfl rfl rfl rfl rfl (Nat.le_of_ble_eq_true rfl) (fun r28 t29 h => ?_)
        refine V.if_eq (tgt := 91) hC d_R_ringsOf_84 (by decide) (fun c30 => ?_) (fun c30 => ?_)
        · replace h := h.1 c30
          exact V.msk [true, true, true, true, true, true, true, true, false, false] rfl (wj_R_ringsOf_91  hC hR hI12 hI27 (fun _ _ _ _ _ _ _ _ h => h) t29 x1 x2 x3 x4 x5 x6 x7 h)
        · replace h := h.2 c30
          refine V.iconst (v := 1) hC d_R_ringsOf_87 (by decide) ?_
          refine V.goto (tgt := 92) hC d_R_ringsOf_88 (by decide) ?_
          exact V.msk [true, true, true, true, true, true, true, true, false, false] rfl (wj_R_ringsOf_92  hC hR hI12 hI27 (fun _ _ _ _ _ _ _ _ h => h) t29 x1 x2 x3 x4 x5 x6 x7 (1 : Int32) h)
set_option maxHeartbeats 4000000 in
set_option maxRecDepth 100000 in
theorem wj_R_ringsOf_27 {w : Wd} {κ : Kx} {P : Int32 → Hp → Prop} (hC : Cx μR w 10 κ nC8 b_R_ringsOf 8) (hR : RtI μR w 10 κ b_R_ringsOf .int P) {I12 : Hp → Int32 → Int32 → Int32 → Int32 → Int32 → Prop} (hI12 : ∀ σ x1 x2 x3 x4 x5, I12 σ x1 x2 x3 x4 x5 → V μR w 10 κ σ [some (.ref (w.1 0)), some (.int x1), some (.int x2), some (.int x3), some (.int x4), some (.int x5), none, none, none, none] 12 []) : ∀ (σ : Hp) (x1 : Int32) (x2 : Int32) (x3 : Int32) (x4 : Int32) (x5 : Int32) (x6 : Int32), j_R_ringsOf_27  P I12 σ x1 x2 x3 x4 x5 x6 → V μR w 10 κ σ [some (.ref (w.1 0)), some (.int x1), some (.int x2), some (.int x3), some (.int x4), some (.int x5), some (.int x6), none, none, none] 27 [] := by
  intro σ x1 x2 x3 x4 x5 x6 h
  refine h (fun σ x1 x2 x3 x4 x5 x6 => V μR w 10 κ σ [some (.ref (w.1 0)), some (.int x1), some (.int x2), some (.int x3), some (.int x4), some (.int x5), some (.int x6), none, none, none] 27 []) (fun σ x1 x2 x3 x4 x5 x6 h => ?_)
  unfold b_R_ringsOf_27_ at h
  refine V.iload hC d_R_ringsOf_27 rfl ?_
  refine V.aload_n hC d_R_ringsOf_29 rfl rfl ?_
  refine V.getI (j := 2) hC d_R_ringsOf_30 rfl rfl uC8 rfl rfl qf_R_116 ?_
  refine V.icmp_ge (tgt := 204) hC d_R_ringsOf_33 (by decide) (fun c31 => ?_) (fun c31 => ?_)
  · replace h := h.1 c31
    obtain ⟨v32, ev32⟩ : ∃ y : Int32, y = x5 + (1 : Int32) := ⟨_, rfl⟩
    replace h := h v32 ev32
    refine V.iinc (y := v32) (lo' := [some (.ref (w.1 0)), some (.int x1), some (.int x2), some (.int x3), some (.int x4), some (.int v32), some (.int x6), none, none, none]) hC d_R_ringsOf_204 rfl rfl (show v32 = _ + Int32.ofInt (1) from ev32) rfl ?_
    refine V.goto (tgt := 12) hC d_R_ringsOf_207 (by decide) ?_
    exact V.msk [true, true, true, true, true, true, false, false, false, false] rfl (hI12 σ x1 x2 x3 x4 v32 h)
  · replace h := h.2 c31
    refine V.iload hC d_R_ringsOf_36 rfl ?_
    refine V.iconst (v := 1) hC d_R_ringsOf_38 (by decide) ?_
    refine V.iadd hC d_R_ringsOf_39 ?_
    obtain ⟨v33, ev33⟩ : ∃ y : Int32, y = x6 + (1 : Int32) := ⟨_, rfl⟩
    replace h := h v33 ev33
    refine V.istore (y := v33) (lo' := [some (.ref (w.1 0)), some (.int x1), some (.int x2), some (.int x3), some (.int x4), some (.int x5), some (.int x6), some (.int v33), none, none]) hC d_R_ringsOf_40 rfl ev33 rfl ?_
    exact V.msk [true, true, true, true, true, true, true, true, false, false] rfl (wj_R_ringsOf_42  hC hR hI12 (fun _ _ _ _ _ _ _ h => h) σ x1 x2 x3 x4 x5 x6 v33 h)
set_option maxHeartbeats 4000000 in
set_option maxRecDepth 100000 in
theorem wj_R_ringsOf_12 {w : Wd} {κ : Kx} {P : Int32 → Hp → Prop} (hC : Cx μR w 10 κ nC8 b_R_ringsOf 8) (hR : RtI μR w 10 κ b_R_ringsOf .int P)  : ∀ (σ : Hp) (x1 : Int32) (x2 : Int32) (x3 : Int32) (x4 : Int32) (x5 : Int32), j_R_ringsOf_12  P  σ x1 x2 x3 x4 x5 → V μR w 10 κ σ [some (.ref (w.1 0)), some (.int x1), some (.int x2), some (.int x3), some (.int x4), some (.int x5), none, none, none, none] 12 [] := by
  intro σ x1 x2 x3 x4 x5 h
  refine h (fun σ x1 x2 x3 x4 x5 => V μR w 10 κ σ [some (.ref (w.1 0)), some (.int x1), some (.int x2), some (.int x3), some (.int x4), some (.int x5), none, none, none, none] 12 []) (fun σ x1 x2 x3 x4 x5 h => ?_)
  unfold b_R_ringsOf_12_ at h
  refine V.iload hC d_R_ringsOf_12 rfl ?_
  refine V.aload_n hC d_R_ringsOf_14 rfl rfl ?_
  refine V.getI (j := 2) hC d_R_ringsOf_15 rfl rfl uC8 rfl rfl qf_R_116 ?_
  refine V.icmp_ge (tgt := 210) hC d_R_ringsOf_18 (by decide) (fun c34 => ?_) (fun c34 => ?_)
  · replace h := h.1 c34
    refine V.iload_n hC d_R_ringsOf_210 rfl rfl ?_
    refine V.if_ne (tgt := 218) hC d_R_ringsOf_211 (by decide) (fun c35 => ?_) (fun c35 => ?_)
    · replace h := h.1 c35
      refine V.iload hC d_R_ringsOf_218 rfl ?_
      exact hR _ _ _ _ h rfl d_R_ringsOf_220
    · replace h := h.2 c35
      refine V.iload_n hC d_R_ringsOf_214 rfl rfl ?_
      refine V.goto (tgt := 220) hC d_R_ringsOf_215 (by decide) ?_
      exact hR _ _ _ _ h rfl d_R_ringsOf_220
  · replace h := h.2 c34
    refine V.iload hC d_R_ringsOf_21 rfl ?_
    refine V.iconst (v := 1) hC d_R_ringsOf_23 (by decide) ?_
    refine V.iadd hC d_R_ringsOf_24 ?_
    obtain ⟨v36, ev36⟩ : ∃ y : Int32, y = x5 + (1 : Int32) := ⟨_, rfl⟩
    replace h := h v36 ev36
    refine V.istore (y := v36) (lo' := [some (.ref (w.1 0)), some (.int x1), some (.int x2), some (.int x3), some (.int x4), some (.int x5), some (.int v36), none, none, none]) hC d_R_ringsOf_25 rfl ev36 rfl ?_
    exact V.msk [true, true, true, true, true, true, true, false, false, false] rfl (wj_R_ringsOf_27  hC hR (fun _ _ _ _ _ _ h => h) σ x1 x2 x3 x4 x5 v36 h)
set_option maxHeartbeats 4000000 in
set_option maxRecDepth 100000 in
theorem w_R_ringsOf (w : Wd) (σ : Hp) (a1 : Int32) (a2 : Int32) (P : Int32 → Hp → Prop) (h : wp_R_ringsOf σ a1 a2 P) : CtI μR w y_R_ringsOf b_R_ringsOf 10 (some .int) 8 [.ref (w.1 0), .int a1, .int a2] σ P := by
  unfold wp_R_ringsOf at h
  refine CtI.ofV (C := nC8) (lo := [some (.ref (w.1 0)), some (.int a1), some (.int a2), none, none, none, none, none, none, none]) exR (by decide +kernel) rfl rfl rfl (fun κ hC hR => ?_)
  refine V.aload_n hC d_R_ringsOf_0 rfl rfl ?_
  refine V.callVN hC exR (w_R_laysTold w σ  _ h) d_R_ringsOf_1 mo_R_laysTold qm_R_189 rfl rfl rfl rfl rfl rfl rfl (Nat.le_of_ble_eq_true rfl) (fun t38 h => ?_)
  refine V.iconst (v := 0) hC d_R_ringsOf_4 (by decide) ?_
  refine V.istore_n (y := (0 : Int32)) (lo' := [some (.ref (w.1 0)), some (.int a1), some (.int a2), some (.int (0 : Int32)), none, none, none, none, none, none]) hC d_R_ringsOf_5 rfl rfl rfl rfl ?_
  refine V.iconst (v := -1) hC d_R_ringsOf_6 (by decide) ?_
  refine V.istore (y := (-1 : Int32)) (lo' := [some (.ref (w.1 0)), some (.int a1), some (.int a2), some (.int (0 : Int32)), some (.int (-1 : Int32)), none, none, none, none, none]) hC d_R_ringsOf_7 rfl rfl rfl ?_
  refine V.iconst (v := 0) hC d_R_ringsOf_9 (by decide) ?_
  refine V.istore (y := (0 : Int32)) (lo' := [some (.ref (w.1 0)), some (.int a1), some (.int a2), some (.int (0 : Int32)), some (.int (-1 : Int32)), some (.int (0 : Int32)), none, none, none, none]) hC d_R_ringsOf_10 rfl rfl rfl ?_
  exact V.msk [true, true, true, true, true, true, false, false, false, false] rfl (wj_R_ringsOf_12  hC hR  t38 a1 a2 (0 : Int32) (-1 : Int32) (0 : Int32) h)
abbrev b_R_rings : ByteArray := prog_10_method_58_code
def y_R_rings : MethodName := ⟨nC8, "rings", "(II)I"⟩
theorem d_R_rings_0 : decode b_R_rings 0 = .ok (.iload_n 1, 1) := by decide +kernel
theorem d_R_rings_1 : decode b_R_rings 1 = .ok (.invokestatic 151, 3) := by decide +kernel
theorem d_R_rings_4 : decode b_R_rings 4 = .ok (.ifCond .eq 21, 3) := by decide +kernel
theorem d_R_rings_7 : decode b_R_rings 7 = .ok (.iload_n 2, 1) := by decide +kernel
theorem d_R_rings_8 : decode b_R_rings 8 = .ok (.iconst 0, 1) := by decide +kernel
theorem d_R_rings_9 : decode b_R_rings 9 = .ok (.iconst 1, 1) := by decide +kernel
theorem d_R_rings_10 : decode b_R_rings 10 = .ok (.invokestatic 97, 3) := by decide +kernel
theorem d_R_rings_13 : decode b_R_rings 13 = .ok (.ifCond .eq 12, 3) := by decide +kernel
theorem d_R_rings_16 : decode b_R_rings 16 = .ok (.aload_n 0, 1) := by decide +kernel
theorem d_R_rings_17 : decode b_R_rings 17 = .ok (.iload_n 1, 1) := by decide +kernel
theorem d_R_rings_18 : decode b_R_rings 18 = .ok (.iload_n 2, 1) := by decide +kernel
theorem d_R_rings_19 : decode b_R_rings 19 = .ok (.invokevirtual 233, 3) := by decide +kernel
theorem d_R_rings_22 : decode b_R_rings 22 = .ok (.goto 5, 3) := by decide +kernel
theorem d_R_rings_25 : decode b_R_rings 25 = .ok (.bipush (-2), 2) := by decide +kernel
theorem d_R_rings_27 : decode b_R_rings 27 = .ok (.ireturn, 1) := by decide +kernel
theorem qm_R_233 : Cond.methodLink nC8 233 y_R_ringsOf ∈ tbl := tbl_in 1186 (by decide +kernel) rfl
def wp_R_rings (σ : Hp) (a1 : Int32) (a2 : Int32) (P : Int32 → Hp → Prop) : Prop :=
  wp_R_isDay σ a1 (fun (r1 : Int32) (t2 : Hp) => ((r1 = 0 → P (-2 : Int32) t2) ∧ (¬ r1 = 0 → wp_R_in t2 a2 (0 : Int32) (1 : Int32) (fun (r4 : Int32) (t5 : Hp) => ((r4 = 0 → P (-2 : Int32) t5) ∧ (¬ r4 = 0 → wp_R_ringsOf t5 a1 a2 (fun (r7 : Int32) (t8 : Hp) => P r7 t8)))))))
set_option maxHeartbeats 4000000 in
set_option maxRecDepth 100000 in
theorem w_R_rings (w : Wd) (σ : Hp) (a1 : Int32) (a2 : Int32) (P : Int32 → Hp → Prop) (h : wp_R_rings σ a1 a2 P) : CtI μR w y_R_rings b_R_rings 3 (some .int) 9 [.ref (w.1 0), .int a1, .int a2] σ P := by
  unfold wp_R_rings at h
  refine CtI.ofV (C := nC8) (lo := [some (.ref (w.1 0)), some (.int a1), some (.int a2)]) exR (by decide +kernel) rfl rfl rfl (fun κ hC hR => ?_)
  refine V.iload_n hC d_R_rings_0 rfl rfl ?_
  refine V.callSI hC exR (w_R_isDay w σ a1 _ h) d_R_rings_1 mo_R_isDay qm_R_151 rfl rfl rfl rfl (Nat.le_of_ble_eq_true rfl) (fun r1 t2 h => ?_)
  refine V.if_eq (tgt := 25) hC d_R_rings_4 (by decide) (fun c3 => ?_) (fun c3 => ?_)
  · replace h := h.1 c3
    refine V.bipush (v := -2) hC d_R_rings_25 (by decide) ?_
    exact hR _ _ _ _ h rfl d_R_rings_27
  · replace h := h.2 c3
    refine V.iload_n hC d_R_rings_7 rfl rfl ?_
    refine V.iconst (v := 0) hC d_R_rings_8 (by decide) ?_
    refine V.iconst (v := 1) hC d_R_rings_9 (by decide) ?_
    refine V.callSI hC exR (w_R_in w t2 a2 (0 : Int32) (1 : Int32) _ h) d_R_rings_10 mo_R_in qm_R_97 rfl rfl rfl rfl (Nat.le_of_ble_eq_true rfl) (fun r4 t5 h => ?_)
    refine V.if_eq (tgt := 25) hC d_R_rings_13 (by decide) (fun c6 => ?_) (fun c6 => ?_)
    · replace h := h.1 c6
      refine V.bipush (v := -2) hC d_R_rings_25 (by decide) ?_
      exact hR _ _ _ _ h rfl d_R_rings_27
    · replace h := h.2 c6
      refine V.aload_n hC d_R_rings_16 rfl rfl ?_
      refine V.iload_n hC d_R_rings_17 rfl rfl ?_
      refine V.iload_n hC d_R_rings_18 rfl rfl ?_
      refine V.callVI hC exR (w_R_ringsOf w t5 a1 a2 _ h) d_R_rings_19 mo_R_ringsOf qm_R_233 rfl rfl rfl rfl rfl rfl rfl (Nat.le_of_ble_eq_true rfl) (fun r7 t8 h => ?_)
      refine V.goto (tgt := 27) hC d_R_rings_22 (by decide) ?_
      exact hR _ _ _ _ h rfl d_R_rings_27
abbrev b_R_buildOf : ByteArray := prog_10_method_59_code
def y_R_buildOf : MethodName := ⟨nC8, "buildOf", "(III)I"⟩
theorem d_R_buildOf_0 : decode b_R_buildOf 0 = .ok (.aload_n 0, 1) := by decide +kernel
theorem d_R_buildOf_1 : decode b_R_buildOf 1 = .ok (.invokevirtual 183, 3) := by decide +kernel
theorem d_R_buildOf_4 : decode b_R_buildOf 4 = .ok (.iconst (-1), 1) := by decide +kernel
theorem d_R_buildOf_5 : decode b_R_buildOf 5 = .ok (.istore 4, 2) := by decide +kernel
theorem d_R_buildOf_7 : decode b_R_buildOf 7 = .ok (.iconst (-1), 1) := by decide +kernel
theorem d_R_buildOf_8 : decode b_R_buildOf 8 = .ok (.istore 5, 2) := by decide +kernel
theorem d_R_buildOf_10 : decode b_R_buildOf 10 = .ok (.ldc 236, 2) := by decide +kernel
theorem d_R_buildOf_12 : decode b_R_buildOf 12 = .ok (.istore 6, 2) := by decide +kernel
theorem d_R_buildOf_14 : decode b_R_buildOf 14 = .ok (.iconst 0, 1) := by decide +kernel
theorem d_R_buildOf_15 : decode b_R_buildOf 15 = .ok (.istore 7, 2) := by decide +kernel
theorem d_R_buildOf_17 : decode b_R_buildOf 17 = .ok (.iload 7, 2) := by decide +kernel
theorem d_R_buildOf_19 : decode b_R_buildOf 19 = .ok (.bipush 10, 2) := by decide +kernel
theorem d_R_buildOf_21 : decode b_R_buildOf 21 = .ok (.if_icmp .ge 130, 3) := by decide +kernel
theorem d_R_buildOf_24 : decode b_R_buildOf 24 = .ok (.iconst 0, 1) := by decide +kernel
theorem d_R_buildOf_25 : decode b_R_buildOf 25 = .ok (.istore 8, 2) := by decide +kernel
theorem d_R_buildOf_27 : decode b_R_buildOf 27 = .ok (.iload 8, 2) := by decide +kernel
theorem d_R_buildOf_29 : decode b_R_buildOf 29 = .ok (.aload_n 0, 1) := by decide +kernel
theorem d_R_buildOf_30 : decode b_R_buildOf 30 = .ok (.getfield 116, 3) := by decide +kernel
theorem d_R_buildOf_33 : decode b_R_buildOf 33 = .ok (.iconst 1, 1) := by decide +kernel
theorem d_R_buildOf_34 : decode b_R_buildOf 34 = .ok (.isub, 1) := by decide +kernel
theorem d_R_buildOf_35 : decode b_R_buildOf 35 = .ok (.if_icmp .ge 110, 3) := by decide +kernel
theorem d_R_buildOf_38 : decode b_R_buildOf 38 = .ok (.aload_n 0, 1) := by decide +kernel
theorem d_R_buildOf_39 : decode b_R_buildOf 39 = .ok (.getfield 31, 3) := by decide +kernel
theorem d_R_buildOf_42 : decode b_R_buildOf 42 = .ok (.iload 8, 2) := by decide +kernel
theorem d_R_buildOf_44 : decode b_R_buildOf 44 = .ok (.iaload, 1) := by decide +kernel
theorem d_R_buildOf_45 : decode b_R_buildOf 45 = .ok (.istore 9, 2) := by decide +kernel
theorem d_R_buildOf_47 : decode b_R_buildOf 47 = .ok (.aload_n 0, 1) := by decide +kernel
theorem d_R_buildOf_48 : decode b_R_buildOf 48 = .ok (.getfield 31, 3) := by decide +kernel
theorem d_R_buildOf_51 : decode b_R_buildOf 51 = .ok (.iload 8, 2) := by decide +kernel
theorem d_R_buildOf_53 : decode b_R_buildOf 53 = .ok (.iload 7, 2) := by decide +kernel
theorem d_R_buildOf_55 : decode b_R_buildOf 55 = .ok (.iastore, 1) := by decide +kernel
theorem d_R_buildOf_56 : decode b_R_buildOf 56 = .ok (.aload_n 0, 1) := by decide +kernel
theorem d_R_buildOf_57 : decode b_R_buildOf 57 = .ok (.invokevirtual 186, 3) := by decide +kernel
theorem d_R_buildOf_60 : decode b_R_buildOf 60 = .ok (.aload_n 0, 1) := by decide +kernel
theorem d_R_buildOf_61 : decode b_R_buildOf 61 = .ok (.iload_n 1, 1) := by decide +kernel
theorem d_R_buildOf_62 : decode b_R_buildOf 62 = .ok (.iload_n 2, 1) := by decide +kernel
theorem d_R_buildOf_63 : decode b_R_buildOf 63 = .ok (.invokevirtual 198, 3) := by decide +kernel
theorem d_R_buildOf_66 : decode b_R_buildOf 66 = .ok (.istore 10, 2) := by decide +kernel
theorem d_R_buildOf_68 : decode b_R_buildOf 68 = .ok (.aload_n 0, 1) := by decide +kernel
theorem d_R_buildOf_69 : decode b_R_buildOf 69 = .ok (.getfield 31, 3) := by decide +kernel
theorem d_R_buildOf_72 : decode b_R_buildOf 72 = .ok (.iload 8, 2) := by decide +kernel
theorem d_R_buildOf_74 : decode b_R_buildOf 74 = .ok (.iload 9, 2) := by decide +kernel
theorem d_R_buildOf_76 : decode b_R_buildOf 76 = .ok (.iastore, 1) := by decide +kernel
theorem d_R_buildOf_77 : decode b_R_buildOf 77 = .ok (.iload 4, 2) := by decide +kernel
theorem d_R_buildOf_79 : decode b_R_buildOf 79 = .ok (.iconst (-1), 1) := by decide +kernel
theorem d_R_buildOf_80 : decode b_R_buildOf 80 = .ok (.if_icmp .eq 10, 3) := by decide +kernel
theorem d_R_buildOf_83 : decode b_R_buildOf 83 = .ok (.iload 10, 2) := by decide +kernel
theorem d_R_buildOf_85 : decode b_R_buildOf 85 = .ok (.iload 6, 2) := by decide +kernel
theorem d_R_buildOf_87 : decode b_R_buildOf 87 = .ok (.if_icmp .le 7, 3) := by decide +kernel
theorem d_R_buildOf_90 : decode b_R_buildOf 90 = .ok (.iconst 1, 1) := by decide +kernel
theorem d_R_buildOf_91 : decode b_R_buildOf 91 = .ok (.goto 4, 3) := by decide +kernel
theorem d_R_buildOf_94 : decode b_R_buildOf 94 = .ok (.iconst 0, 1) := by decide +kernel
theorem d_R_buildOf_95 : decode b_R_buildOf 95 = .ok (.istore 11, 2) := by decide +kernel
theorem d_R_buildOf_97 : decode b_R_buildOf 97 = .ok (.iload 11, 2) := by decide +kernel
theorem d_R_buildOf_99 : decode b_R_buildOf 99 = .ok (.ifCond .eq 8, 3) := by decide +kernel
theorem d_R_buildOf_102 : decode b_R_buildOf 102 = .ok (.iload 8, 2) := by decide +kernel
theorem d_R_buildOf_104 : decode b_R_buildOf 104 = .ok (.goto 5, 3) := by decide +kernel
theorem d_R_buildOf_107 : decode b_R_buildOf 107 = .ok (.iload 4, 2) := by decide +kernel
theorem d_R_buildOf_109 : decode b_R_buildOf 109 = .ok (.istore 4, 2) := by decide +kernel
theorem d_R_buildOf_111 : decode b_R_buildOf 111 = .ok (.iload 11, 2) := by decide +kernel
theorem d_R_buildOf_113 : decode b_R_buildOf 113 = .ok (.ifCond .eq 8, 3) := by decide +kernel
theorem d_R_buildOf_116 : decode b_R_buildOf 116 = .ok (.iload 7, 2) := by decide +kernel
theorem d_R_buildOf_118 : decode b_R_buildOf 118 = .ok (.goto 5, 3) := by decide +kernel
theorem d_R_buildOf_121 : decode b_R_buildOf 121 = .ok (.iload 5, 2) := by decide +kernel
theorem d_R_buildOf_123 : decode b_R_buildOf 123 = .ok (.istore 5, 2) := by decide +kernel
theorem d_R_buildOf_125 : decode b_R_buildOf 125 = .ok (.iload 11, 2) := by decide +kernel
theorem d_R_buildOf_127 : decode b_R_buildOf 127 = .ok (.ifCond .eq 8, 3) := by decide +kernel
theorem d_R_buildOf_130 : decode b_R_buildOf 130 = .ok (.iload 10, 2) := by decide +kernel
theorem d_R_buildOf_132 : decode b_R_buildOf 132 = .ok (.goto 5, 3) := by decide +kernel
theorem d_R_buildOf_135 : decode b_R_buildOf 135 = .ok (.iload 6, 2) := by decide +kernel
theorem d_R_buildOf_137 : decode b_R_buildOf 137 = .ok (.istore 6, 2) := by decide +kernel
theorem d_R_buildOf_139 : decode b_R_buildOf 139 = .ok (.iinc 8 1, 3) := by decide +kernel
theorem d_R_buildOf_142 : decode b_R_buildOf 142 = .ok (.goto (-115), 3) := by decide +kernel
theorem d_R_buildOf_145 : decode b_R_buildOf 145 = .ok (.iinc 7 1, 3) := by decide +kernel
theorem d_R_buildOf_148 : decode b_R_buildOf 148 = .ok (.goto (-131), 3) := by decide +kernel
theorem d_R_buildOf_151 : decode b_R_buildOf 151 = .ok (.iload_n 3, 1) := by decide +kernel
theorem d_R_buildOf_152 : decode b_R_buildOf 152 = .ok (.ifCond .ne 8, 3) := by decide +kernel
theorem d_R_buildOf_155 : decode b_R_buildOf 155 = .ok (.iload 4, 2) := by decide +kernel
theorem d_R_buildOf_157 : decode b_R_buildOf 157 = .ok (.goto 15, 3) := by decide +kernel
theorem d_R_buildOf_160 : decode b_R_buildOf 160 = .ok (.iload_n 3, 1) := by decide +kernel
theorem d_R_buildOf_161 : decode b_R_buildOf 161 = .ok (.iconst 1, 1) := by decide +kernel
theorem d_R_buildOf_162 : decode b_R_buildOf 162 = .ok (.if_icmp .ne 8, 3) := by decide +kernel
theorem d_R_buildOf_165 : decode b_R_buildOf 165 = .ok (.iload 5, 2) := by decide +kernel
theorem d_R_buildOf_167 : decode b_R_buildOf 167 = .ok (.goto 5, 3) := by decide +kernel
theorem d_R_buildOf_170 : decode b_R_buildOf 170 = .ok (.iload 6, 2) := by decide +kernel
theorem d_R_buildOf_172 : decode b_R_buildOf 172 = .ok (.ireturn, 1) := by decide +kernel
theorem qc_R_236 : Cond.constant nC8 236 (-100000) ∈ tbl := tbl_in 1202 (by decide +kernel) rfl
theorem mo_R_buildOf : MokV y_R_buildOf b_R_buildOf 12 (some .int) 3 := ⟨⟨(tbl_in 1201 (by decide +kernel) rfl), (tbl_in 70 (by decide +kernel) rfl)⟩, ⟨(tbl_in 1200 (by decide +kernel) rfl), tbl_lw _ (tbl_in 44 (by decide +kernel) rfl), (tbl_in 44 (by decide +kernel) rfl)⟩, ⟨by decide +kernel, by decide +kernel⟩, by decide +kernel⟩
def j_R_buildOf_123 (P : Int32 → Hp → Prop) (I17 : Hp → Int32 → Int32 → Int32 → Int32 → Int32 → Int32 → Int32 → Prop) (I27 : Hp → Int32 → Int32 → Int32 → Int32 → Int32 → Int32 → Int32 → Int32 → Prop) (σ : Hp) (x1 : Int32) (x2 : Int32) (x3 : Int32) (x4 : Int32) (x6 : Int32) (x7 : Int32) (x8 : Int32) (x10 : Int32) (x11 : Int32) (s0 : Int32) : Prop :=
  ((x11 = 0 → (∀ v2 : Int32, v2 = x8 + (1 : Int32) → I27 σ x1 x2 x3 x4 s0 x6 x7 v2)) ∧ (¬ x11 = 0 → (∀ v3 : Int32, v3 = x8 + (1 : Int32) → I27 σ x1 x2 x3 x4 s0 x10 x7 v3)))
def j_R_buildOf_109 (P : Int32 → Hp → Prop) (I17 : Hp → Int32 → Int32 → Int32 → Int32 → Int32 → Int32 → Int32 → Prop) (I27 : Hp → Int32 → Int32 → Int32 → Int32 → Int32 → Int32 → Int32 → Int32 → Prop) (σ : Hp) (x1 : Int32) (x2 : Int32) (x3 : Int32) (x5 : Int32) (x6 : Int32) (x7 : Int32) (x8 : Int32) (x10 : Int32) (x11 : Int32) (s0 : Int32) : Prop :=
  ((x11 = 0 → j_R_buildOf_123 P I17 I27 σ x1 x2 x3 s0 x6 x7 x8 x10 x11 x5) ∧ (¬ x11 = 0 → j_R_buildOf_123 P I17 I27 σ x1 x2 x3 s0 x6 x7 x8 x10 x11 x7))
def j_R_buildOf_95 (P : Int32 → Hp → Prop) (I17 : Hp → Int32 → Int32 → Int32 → Int32 → Int32 → Int32 → Int32 → Prop) (I27 : Hp → Int32 → Int32 → Int32 → Int32 → Int32 → Int32 → Int32 → Int32 → Prop) (σ : Hp) (x1 : Int32) (x2 : Int32) (x3 : Int32) (x4 : Int32) (x5 : Int32) (x6 : Int32) (x7 : Int32) (x8 : Int32) (x10 : Int32) (s0 : Int32) : Prop :=
  ((s0 = 0 → j_R_buildOf_109 P I17 I27 σ x1 x2 x3 x5 x6 x7 x8 x10 s0 x4) ∧ (¬ s0 = 0 → j_R_buildOf_109 P I17 I27 σ x1 x2 x3 x5 x6 x7 x8 x10 s0 x8))
def j_R_buildOf_90 (P : Int32 → Hp → Prop) (I17 : Hp → Int32 → Int32 → Int32 → Int32 → Int32 → Int32 → Int32 → Prop) (I27 : Hp → Int32 → Int32 → Int32 → Int32 → Int32 → Int32 → Int32 → Int32 → Prop) (σ : Hp) (x1 : Int32) (x2 : Int32) (x3 : Int32) (x4 : Int32) (x5 : Int32) (x6 : Int32) (x7 : Int32) (x8 : Int32) (x10 : Int32) : Prop :=
  j_R_buildOf_95 P I17 I27 σ x1 x2 x3 x4 x5 x6 x7 x8 x10 (1 : Int32)
def b_R_buildOf_27_ (P : Int32 → Hp → Prop) (I17 : Hp → Int32 → Int32 → Int32 → Int32 → Int32 → Int32 → Int32 → Prop) (I27 : Hp → Int32 → Int32 → Int32 → Int32 → Int32 → Int32 → Int32 → Int32 → Prop) (σ : Hp) (x1 : Int32) (x2 : Int32) (x3 : Int32) (x4 : Int32) (x5 : Int32) (x6 : Int32) (x7 : Int32) (x8 : Int32) : Prop :=
  ((((σ 0 2) - (1 : Int32)) ≤ x8 → (∀ v7 : Int32, v7 = x7 + (1 : Int32) → I17 σ x1 x2 x3 x4 x5 x6 v7)) ∧ (¬ ((σ 0 2) - (1 : Int32)) ≤ x8 → (vp_in x8 7) ∧ (∀ v9 : Int32, v9 = σ 8 (ix x8) → (vp_in x8 7) ∧ wp_R_lays (st σ 8 (ix x8) x7) (fun (t12 : Hp) => wp_R_balanceNow t12 x1 x2 (fun (r13 : Int32) (t14 : Hp) => (vp_in x8 7) ∧ ((x4 = (-1 : Int32) → j_R_buildOf_90 P I17 I27 (st t14 8 (ix x8) v9) x1 x2 x3 x4 x5 x6 x7 x8 r13) ∧ (¬ x4 = (-1 : Int32) → ((r13 ≤ x6 → j_R_buildOf_95 P I17 I27 (st t14 8 (ix x8) v9) x1 x2 x3 x4 x5 x6 x7 x8 r13 (0 : Int32)) ∧ (¬ r13 ≤ x6 → j_R_buildOf_90 P I17 I27 (st t14 8 (ix x8) v9) x1 x2 x3 x4 x5 x6 x7 x8 r13)))))))))
def j_R_buildOf_27 (P : Int32 → Hp → Prop) (I17 : Hp → Int32 → Int32 → Int32 → Int32 → Int32 → Int32 → Int32 → Prop) (σ : Hp) (x1 : Int32) (x2 : Int32) (x3 : Int32) (x4 : Int32) (x5 : Int32) (x6 : Int32) (x7 : Int32) (x8 : Int32) : Prop := ∀ I27 : Hp → Int32 → Int32 → Int32 → Int32 → Int32 → Int32 → Int32 → Int32 → Prop, (∀ (σ : Hp) (x1 : Int32) (x2 : Int32) (x3 : Int32) (x4 : Int32) (x5 : Int32) (x6 : Int32) (x7 : Int32) (x8 : Int32), b_R_buildOf_27_  P I17 I27 σ x1 x2 x3 x4 x5 x6 x7 x8 → I27 σ x1 x2 x3 x4 x5 x6 x7 x8) → I27 σ x1 x2 x3 x4 x5 x6 x7 x8
def b_R_buildOf_17_ (P : Int32 → Hp → Prop)  (I17 : Hp → Int32 → Int32 → Int32 → Int32 → Int32 → Int32 → Int32 → Prop) (σ : Hp) (x1 : Int32) (x2 : Int32) (x3 : Int32) (x4 : Int32) (x5 : Int32) (x6 : Int32) (x7 : Int32) : Prop :=
  (((10 : Int32) ≤ x7 → ((¬ x3 = 0 → ((¬ x3 = (1 : Int32) → P x6 σ) ∧ (x3 = (1 : Int32) → P x5 σ))) ∧ (x3 = 0 → P x4 σ))) ∧ (¬ (10 : Int32) ≤ x7 → j_R_buildOf_27 P I17 σ x1 x2 x3 x4 x5 x6 x7 (0 : Int32)))
def j_R_buildOf_17 (P : Int32 → Hp → Prop)  (σ : Hp) (x1 : Int32) (x2 : Int32) (x3 : Int32) (x4 : Int32) (x5 : Int32) (x6 : Int32) (x7 : Int32) : Prop := ∀ I17 : Hp → Int32 → Int32 → Int32 → Int32 → Int32 → Int32 → Int32 → Prop, (∀ (σ : Hp) (x1 : Int32) (x2 : Int32) (x3 : Int32) (x4 : Int32) (x5 : Int32) (x6 : Int32) (x7 : Int32), b_R_buildOf_17_  P  I17 σ x1 x2 x3 x4 x5 x6 x7 → I17 σ x1 x2 x3 x4 x5 x6 x7) → I17 σ x1 x2 x3 x4 x5 x6 x7
def wp_R_buildOf (σ : Hp) (a1 : Int32) (a2 : Int32) (a3 : Int32) (P : Int32 → Hp → Prop) : Prop :=
  wp_R_asTold σ (fun (t22 : Hp) => j_R_buildOf_17 P t22 a1 a2 a3 (-1 : Int32) (-1 : Int32) (-100000 : Int32) (0 : Int32))
set_option maxHeartbeats 4000000 in
set_option maxRecDepth 100000 in
theorem wj_R_buildOf_123 {w : Wd} {κ : Kx} {P : Int32 → Hp → Prop} (hC : Cx μR w 12 κ nC8 b_R_buildOf 7) (hR : RtI μR w 12 κ b_R_buildOf .int P) {I17 : Hp → Int32 → Int32 → Int32 → Int32 → Int32 → Int32 → Int32 → Prop} (hI17 : ∀ σ x1 x2 x3 x4 x5 x6 x7, I17 σ x1 x2 x3 x4 x5 x6 x7 → V μR w 12 κ σ [some (.ref (w.1 0)), some (.int x1), some (.int x2), some (.int x3), some (.int x4), some (.int x5), some (.int x6), some (.int x7), none, none, none, none] 17 []) {I27 : Hp → Int32 → Int32 → Int32 → Int32 → Int32 → Int32 → Int32 → Int32 → Prop} (hI27 : ∀ σ x1 x2 x3 x4 x5 x6 x7 x8, I27 σ x1 x2 x3 x4 x5 x6 x7 x8 → V μR w 12 κ σ [some (.ref (w.1 0)), some (.int x1), some (.int x2), some (.int x3), some (.int x4), some (.int x5), some (.int x6), some (.int x7), some (.int x8), none, none, none] 27 []) : ∀ (σ : Hp) (x1 : Int32) (x2 : Int32) (x3 : Int32) (x4 : Int32) (x6 : Int32) (x7 : Int32) (x8 : Int32) (x10 : Int32) (x11 : Int32) (s0 : Int32), j_R_buildOf_123  P I17 I27 σ x1 x2 x3 x4 x6 x7 x8 x10 x11 s0 → V μR w 12 κ σ [some (.ref (w.1 0)), some (.int x1), some (.int x2), some (.int x3), some (.int x4), none, some (.int x6), some (.int x7), some (.int x8), none, some (.int x10), some (.int x11)] 123 [.int s0] := by
  intro σ x1 x2 x3 x4 x6 x7 x8 x10 x11 s0 h
  unfold j_R_buildOf_123 at h
  refine V.istore (y := s0) (lo' := [some (.ref (w.1 0)), some (.int x1), some (.int x2), some (.int x3), some (.int x4), some (.int s0), some (.int x6), some (.int x7), some (.int x8), none, some (.int x10), some (.int x11)]) hC d_R_buildOf_123 rfl rfl rfl ?_
  refine V.iload hC d_R_buildOf_125 rfl ?_
  refine V.if_eq (tgt := 135) hC d_R_buildOf_127 (by decide) (fun c1 => ?_) (fun c1 => ?_)
  · replace h := h.1 c1
    refine V.iload hC d_R_buildOf_135 rfl ?_
    refine V.istore (y := x6) (lo' := [some (.ref (w.1 0)), some (.int x1), some (.int x2), some (.int x3), some (.int x4), some (.int s0), some (.int x6), some (.int x7), some (.int x8), none, some (.int x10), some (.int x11)]) hC d_R_buildOf_137 rfl rfl rfl ?_
    obtain ⟨v2, ev2⟩ : ∃ y : Int32, y = x8 + (1 : Int32) := ⟨_, rfl⟩
    replace h := h v2 ev2
    refine V.iinc (y := v2) (lo' := [some (.ref (w.1 0)), some (.int x1), some (.int x2), some (.int x3), some (.int x4), some (.int s0), some (.int x6), some (.int x7), some (.int v2), none, some (.int x10), some (.int x11)]) hC d_R_buildOf_139 rfl rfl (show v2 = _ + Int32.ofInt (1) from ev2) rfl ?_
    refine V.goto (tgt := 27) hC d_R_buildOf_142 (by decide) ?_
    exact V.msk [true, true, true, true, true, true, true, true, true, false, false, false] rfl (hI27 σ x1 x2 x3 x4 s0 x6 x7 v2 h)
  · replace h := h.2 c1
    refine V.iload hC d_R_buildOf_130 rfl ?_
    refine V.goto (tgt := 137) hC d_R_buildOf_132 (by decide) ?_
    refine V.istore (y := x10) (lo' := [some (.ref (w.1 0)), some (.int x1), some (.int x2), some (.int x3), some (.int x4), some (.int s0), some (.int x10), some (.int x7), some (.int x8), none, some (.int x10), some (.int x11)]) hC d_R_buildOf_137 rfl rfl rfl ?_
    obtain ⟨v3, ev3⟩ : ∃ y : Int32, y = x8 + (1 : Int32) := ⟨_, rfl⟩
    replace h := h v3 ev3
    refine V.iinc (y := v3) (lo' := [some (.ref (w.1 0)), some (.int x1), some (.int x2), some (.int x3), some (.int x4), some (.int s0), some (.int x10), some (.int x7), some (.int v3), none, some (.int x10), some (.int x11)]) hC d_R_buildOf_139 rfl rfl (show v3 = _ + Int32.ofInt (1) from ev3) rfl ?_
    refine V.goto (tgt := 27) hC d_R_buildOf_142 (by decide) ?_
    exact V.msk [true, true, true, true, true, true, true, true, true, false, false, false] rfl (hI27 σ x1 x2 x3 x4 s0 x10 x7 v3 h)
set_option maxHeartbeats 4000000 in
set_option maxRecDepth 100000 in
theorem wj_R_buildOf_109 {w : Wd} {κ : Kx} {P : Int32 → Hp → Prop} (hC : Cx μR w 12 κ nC8 b_R_buildOf 7) (hR : RtI μR w 12 κ b_R_buildOf .int P) {I17 : Hp → Int32 → Int32 → Int32 → Int32 → Int32 → Int32 → Int32 → Prop} (hI17 : ∀ σ x1 x2 x3 x4 x5 x6 x7, I17 σ x1 x2 x3 x4 x5 x6 x7 → V μR w 12 κ σ [some (.ref (w.1 0)), some (.int x1), some (.int x2), some (.int x3), some (.int x4), some (.int x5), some (.int x6), some (.int x7), none, none, none, none] 17 []) {I27 : Hp → Int32 → Int32 → Int32 → Int32 → Int32 → Int32 → Int32 → Int32 → Prop} (hI27 : ∀ σ x1 x2 x3 x4 x5 x6 x7 x8, I27 σ x1 x2 x3 x4 x5 x6 x7 x8 → V μR w 12 κ σ [some (.ref (w.1 0)), some (.int x1), some (.int x2), some (.int x3), some (.int x4), some (.int x5), some (.int x6), some (.int x7), some (.int x8), none, none, none] 27 []) : ∀ (σ : Hp) (x1 : Int32) (x2 : Int32) (x3 : Int32) (x5 : Int32) (x6 : Int32) (x7 : Int32) (x8 : Int32) (x10 : Int32) (x11 : Int32) (s0 : Int32), j_R_buildOf_109  P I17 I27 σ x1 x2 x3 x5 x6 x7 x8 x10 x11 s0 → V μR w 12 κ σ [some (.ref (w.1 0)), some (.int x1), some (.int x2), some (.int x3), none, some (.int x5), some (.int x6), some (.int x7), some (.int x8), none, some (.int x10), some (.int x11)] 109 [.int s0] := by
  intro σ x1 x2 x3 x5 x6 x7 x8 x10 x11 s0 h
  unfold j_R_buildOf_109 at h
  refine V.istore (y := s0) (lo' := [some (.ref (w.1 0)), some (.int x1), some (.int x2), some (.int x3), some (.int s0), some (.int x5), some (.int x6), some (.int x7), some (.int x8), none, some (.int x10), some (.int x11)]) hC d_R_buildOf_109 rfl rfl rfl ?_
  refine V.iload hC d_R_buildOf_111 rfl ?_
  refine V.if_eq (tgt := 121) hC d_R_buildOf_113 (by decide) (fun c4 => ?_) (fun c4 => ?_)
  · replace h := h.1 c4
    refine V.iload hC d_R_buildOf_121 rfl ?_
    exact V.msk [true, true, true, true, true, false, true, true, true, false, true, true] rfl (wj_R_buildOf_123  hC hR hI17 hI27 σ x1 x2 x3 s0 x6 x7 x8 x10 x11 x5 h)
  · replace h := h.2 c4
    refine V.iload hC d_R_buildOf_116 rfl ?_
    refine V.goto (tgt := 123) hC d_R_buildOf_118 (by decide) ?_
    exact V.msk [true, true, true, true, true, false, true, true, true, false, true, true] rfl (wj_R_buildOf_123  hC hR hI17 hI27 σ x1 x2 x3 s0 x6 x7 x8 x10 x11 x7 h)
set_option maxHeartbeats 4000000 in
set_option maxRecDepth 100000 in
theorem wj_R_buildOf_95 {w : Wd} {κ : Kx} {P : Int32 → Hp → Prop} (hC : Cx μR w 12 κ nC8 b_R_buildOf 7) (hR : RtI μR w 12 κ b_R_buildOf .int P) {I17 : Hp → Int32 → Int32 → Int32 → Int32 → Int32 → Int32 → Int32 → Prop} (hI17 : ∀ σ x1 x2 x3 x4 x5 x6 x7, I17 σ x1 x2 x3 x4 x5 x6 x7 → V μR w 12 κ σ [some (.ref (w.1 0)), some (.int x1), some (.int x2), some (.int x3), some (.int x4), some (.int x5), some (.int x6), some (.int x7), none, none, none, none] 17 []) {I27 : Hp → Int32 → Int32 → Int32 → Int32 → Int32 → Int32 → Int32 → Int32 → Prop} (hI27 : ∀ σ x1 x2 x3 x4 x5 x6 x7 x8, I27 σ x1 x2 x3 x4 x5 x6 x7 x8 → V μR w 12 κ σ [some (.ref (w.1 0)), some (.int x1), some (.int x2), some (.int x3), some (.int x4), some (.int x5), some (.int x6), some (.int x7), some (.int x8), none, none, none] 27 []) : ∀ (σ : Hp) (x1 : Int32) (x2 : Int32) (x3 : Int32) (x4 : Int32) (x5 : Int32) (x6 : Int32) (x7 : Int32) (x8 : Int32) (x10 : Int32) (s0 : Int32), j_R_buildOf_95  P I17 I27 σ x1 x2 x3 x4 x5 x6 x7 x8 x10 s0 → V μR w 12 κ σ [some (.ref (w.1 0)), some (.int x1), some (.int x2), some (.int x3), some (.int x4), some (.int x5), some (.int x6), some (.int x7), some (.int x8), none, some (.int x10), none] 95 [.int s0] := by
  intro σ x1 x2 x3 x4 x5 x6 x7 x8 x10 s0 h
  unfold j_R_buildOf_95 at h
  refine V.istore (y := s0) (lo' := [some (.ref (w.1 0)), some (.int x1), some (.int x2), some (.int x3), some (.int x4), some (.int x5), some (.int x6), some (.int x7), some (.int x8), none, some (.int x10), some (.int s0)]) hC d_R_buildOf_95 rfl rfl rfl ?_
  refine V.iload hC d_R_buildOf_97 rfl ?_
  refine V.if_eq (tgt := 107) hC d_R_buildOf_99 (by decide) (fun c5 => ?_) (fun c5 => ?_)
  · replace h := h.1 c5
    refine V.iload hC d_R_buildOf_107 rfl ?_
    exact V.msk [true, true, true, true, false, true, true, true, true, false, true, true] rfl (wj_R_buildOf_109  hC hR hI17 hI27 σ x1 x2 x3 x5 x6 x7 x8 x10 s0 x4 h)
  · replace h := h.2 c5
    refine V.iload hC d_R_buildOf_102 rfl ?_
    refine V.goto (tgt := 109) hC d_R_buildOf_104 (by decide) ?_
    exact V.msk [true, true, true, true, false, true, true, true, true, false, true, true] rfl (wj_R_buildOf_109  hC hR hI17 hI27 σ x1 x2 x3 x5 x6 x7 x8 x10 s0 x8 h)
set_option maxHeartbeats 4000000 in
set_option maxRecDepth 100000 in
theorem wj_R_buildOf_90 {w : Wd} {κ : Kx} {P : Int32 → Hp → Prop} (hC : Cx μR w 12 κ nC8 b_R_buildOf 7) (hR : RtI μR w 12 κ b_R_buildOf .int P) {I17 : Hp → Int32 → Int32 → Int32 → Int32 → Int32 → Int32 → Int32 → Prop} (hI17 : ∀ σ x1 x2 x3 x4 x5 x6 x7, I17 σ x1 x2 x3 x4 x5 x6 x7 → V μR w 12 κ σ [some (.ref (w.1 0)), some (.int x1), some (.int x2), some (.int x3), some (.int x4), some (.int x5), some (.int x6), some (.int x7), none, none, none, none] 17 []) {I27 : Hp → Int32 → Int32 → Int32 → Int32 → Int32 → Int32 → Int32 → Int32 → Prop} (hI27 : ∀ σ x1 x2 x3 x4 x5 x6 x7 x8, I27 σ x1 x2 x3 x4 x5 x6 x7 x8 → V μR w 12 κ σ [some (.ref (w.1 0)), some (.int x1), some (.int x2), some (.int x3), some (.int x4), some (.int x5), some (.int x6), some (.int x7), some (.int x8), none, none, none] 27 []) : ∀ (σ : Hp) (x1 : Int32) (x2 : Int32) (x3 : Int32) (x4 : Int32) (x5 : Int32) (x6 : Int32) (x7 : Int32) (x8 : Int32) (x10 : Int32), j_R_buildOf_90  P I17 I27 σ x1 x2 x3 x4 x5 x6 x7 x8 x10 → V μR w 12 κ σ [some (.ref (w.1 0)), some (.int x1), some (.int x2), some (.int x3), some (.int x4), some (.int x5), some (.int x6), some (.int x7), some (.int x8), none, some (.int x10), none] 90 [] := by
  intro σ x1 x2 x3 x4 x5 x6 x7 x8 x10 h
  unfold j_R_buildOf_90 at h
  refine V.iconst (v := 1) hC d_R_buildOf_90 (by decide) ?_
  refine V.goto (tgt := 95) hC d_R_buildOf_91 (by decide) ?_
  exact V.msk [true, true, true, true, true, true, true, true, true, false, true, false] rfl (wj_R_buildOf_95  hC hR hI17 hI27 σ x1 x2 x3 x4 x5 x6 x7 x8 x10 (1 : Int32) h)
set_option maxHeartbeats 4000000 in
set_option maxRecDepth 100000 in
theorem wj_R_buildOf_27 {w : Wd} {κ : Kx} {P : Int32 → Hp → Prop} (hC : Cx μR w 12 κ nC8 b_R_buildOf 7) (hR : RtI μR w 12 κ b_R_buildOf .int P) {I17 : Hp → Int32 → Int32 → Int32 → Int32 → Int32 → Int32 → Int32 → Prop} (hI17 : ∀ σ x1 x2 x3 x4 x5 x6 x7, I17 σ x1 x2 x3 x4 x5 x6 x7 → V μR w 12 κ σ [some (.ref (w.1 0)), some (.int x1), some (.int x2), some (.int x3), some (.int x4), some (.int x5), some (.int x6), some (.int x7), none, none, none, none] 17 []) : ∀ (σ : Hp) (x1 : Int32) (x2 : Int32) (x3 : Int32) (x4 : Int32) (x5 : Int32) (x6 : Int32) (x7 : Int32) (x8 : Int32), j_R_buildOf_27  P I17 σ x1 x2 x3 x4 x5 x6 x7 x8 → V μR w 12 κ σ [some (.ref (w.1 0)), some (.int x1), some (.int x2), some (.int x3), some (.int x4), some (.int x5), some (.int x6), some (.int x7), some (.int x8), none, none, none] 27 [] := by
  intro σ x1 x2 x3 x4 x5 x6 x7 x8 h
  refine h (fun σ x1 x2 x3 x4 x5 x6 x7 x8 => V μR w 12 κ σ [some (.ref (w.1 0)), some (.int x1), some (.int x2), some (.int x3), some (.int x4), some (.int x5), some (.int x6), some (.int x7), some (.int x8), none, none, none] 27 []) (fun σ x1 x2 x3 x4 x5 x6 x7 x8 h => ?_)
  unfold b_R_buildOf_27_ at h
  refine V.iload hC d_R_buildOf_27 rfl ?_
  refine V.aload_n hC d_R_buildOf_29 rfl rfl ?_
  refine V.getI (j := 2) hC d_R_buildOf_30 rfl rfl uC8 rfl rfl qf_R_116 ?_
  refine V.iconst (v := 1) hC d_R_buildOf_33 (by decide) ?_
  refine V.isub hC d_R_buildOf_34 ?_
  refine V.icmp_ge (tgt := 145) hC d_R_buildOf_35 (by decide) (fun c6 => ?_) (fun c6 => ?_)
  · replace h := h.1 c6
    obtain ⟨v7, ev7⟩ : ∃ y : Int32, y = x7 + (1 : Int32) := ⟨_, rfl⟩
    replace h := h v7 ev7
    refine V.iinc (y := v7) (lo' := [some (.ref (w.1 0)), some (.int x1), some (.int x2), some (.int x3), some (.int x4), some (.int x5), some (.int x6), some (.int v7), some (.int x8), none, none, none]) hC d_R_buildOf_145 rfl rfl (show v7 = _ + Int32.ofInt (1) from ev7) rfl ?_
    refine V.goto (tgt := 17) hC d_R_buildOf_148 (by decide) ?_
    exact V.msk [true, true, true, true, true, true, true, true, false, false, false, false] rfl (hI17 σ x1 x2 x3 x4 x5 x6 v7 h)
  · replace h := h.2 c6
    refine V.aload_n hC d_R_buildOf_38 rfl rfl ?_
    refine V.getR (j := 9) hC d_R_buildOf_39 rfl rfl uC8 rfl rfl qf_R_31 ?_
    refine V.iload hC d_R_buildOf_42 rfl ?_
    obtain ⟨b8, h⟩ := h
    refine V.iald hC d_R_buildOf_44 rfl b8 ?_
    obtain ⟨v9, ev9⟩ : ∃ y : Int32, y = σ 8 (ix x8) := ⟨_, rfl⟩
    replace h := h v9 ev9
    refine V.istore (y := v9) (lo' := [some (.ref (w.1 0)), some (.int x1), some (.int x2), some (.int x3), some (.int x4), some (.int x5), some (.int x6), some (.int x7), some (.int x8), some (.int v9), none, none]) hC d_R_buildOf_45 rfl ev9 rfl ?_
    refine V.aload_n hC d_R_buildOf_47 rfl rfl ?_
    refine V.getR (j := 9) hC d_R_buildOf_48 rfl rfl uC8 rfl rfl qf_R_31 ?_
    refine V.iload hC d_R_buildOf_51 rfl ?_
    refine V.iload hC d_R_buildOf_53 rfl ?_
    obtain ⟨b10, h⟩ := h
    refine V.iast hC d_R_buildOf_55 rfl b10 ?_
    refine V.aload_n hC d_R_buildOf_56 rfl rfl ?_
    refine V.callVN hC exR (w_R_lays w (st σ 8 (ix x8) x7)  _ h) d_R_buildOf_57 mo_R_lays qm_R_186 rfl rfl rfl rfl rfl rfl rfl (Nat.le_of_ble_eq_true rfl) (fun t12 h => ?_)
    refine V.aload_n hC d_R_buildOf_60 rfl rfl ?_
    refine V.iload_n hC d_R_buildOf_61 rfl rfl ?_
    refine V.iload_n hC d_R_buildOf_62 rfl rfl ?_
    refine V.callVI hC exR (w_R_balanceNow w t12 x1 x2 _ h) d_R_buildOf_63 mo_R_balanceNow qm_R_198 rfl rfl rfl rfl rfl rfl rfl (Nat.le_of_ble_eq_true rfl) (fun r13 t14 h => ?_)
    refine V.istore (y := r13) (lo' := [some (.ref (w.1 0)), some (.int x1), some (.int x2), some (.int x3), some (.int x4), some (.int x5), some (.int x6), some (.int x7), some (.int x8), some (.int v9), some (.int r13), none]) hC d_R_buildOf_66 rfl rfl rfl ?_
    refine V.aload_n hC d_R_buildOf_68 rfl rfl ?_
    refine V.getR (j := 9) hC d_R_buildOf_69 rfl rfl uC8 rfl rfl qf_R_31 ?_
    refine V.iload hC d_R_buildOf_72 rfl ?_
    refine V.iload hC d_R_buildOf_74 rfl ?_
    obtain ⟨b15, h⟩ := h
    refine V.iast hC d_R_buildOf_76 rfl b15 ?_
    refine V.iload hC d_R_buildOf_77 rfl ?_
    refine V.iconst (v := -1) hC d_R_buildOf_79 (by decide) ?_
    refine V.icmp_eq (tgt := 90) hC d_R_buildOf_80 (by decide) (fun c16 => ?_) (fun c16 => ?_)
    · replace h := h.1 c16
      exact V.msk [true, true, true, true, true, true, true, true, true, false, true, false] rfl (wj_R_buildOf_90  hC hR hI17 (fun _ _ _ _ _ _ _ _ _ h => h) (st t14 8 (ix x8) v9) x1 x2 x3 x4 x5 x6 x7 x8 r13 h)
    · replace h := h.2 c16
      refine V.iload hC d_R_buildOf_83 rfl ?_
      refine V.iload hC d_R_buildOf_85 rfl ?_
      refine V.icmp_le (tgt := 94) hC d_R_buildOf_87 (by decide) (fun c17 => ?_) (fun c17 => ?_)
      · replace h := h.1 c17
        refine V.iconst (v := 0) hC d_R_buildOf_94 (by decide) ?_
        exact V.msk [true, true, true, true, true, true, true, true, true, false, true, false] rfl (wj_R_buildOf_95  hC hR hI17 (fun _ _ _ _ _ _ _ _ _ h => h) (st t14 8 (ix x8) v9) x1 x2 x3 x4 x5 x6 x7 x8 r13 (0 : Int32) h)
      · replace h := h.2 c17
        exact V.msk [true, true, true, true, true, true, true, true, true, false, true, false] rfl (wj_R_buildOf_90  hC hR hI17 (fun _ _ _ _ _ _ _ _ _ h => h) (st t14 8 (ix x8) v9) x1 x2 x3 x4 x5 x6 x7 x8 r13 h)
set_option maxHeartbeats 4000000 in
set_option maxRecDepth 100000 in
theorem wj_R_buildOf_17 {w : Wd} {κ : Kx} {P : Int32 → Hp → Prop} (hC : Cx μR w 12 κ nC8 b_R_buildOf 7) (hR : RtI μR w 12 κ b_R_buildOf .int P)  : ∀ (σ : Hp) (x1 : Int32) (x2 : Int32) (x3 : Int32) (x4 : Int32) (x5 : Int32) (x6 : Int32) (x7 : Int32), j_R_buildOf_17  P  σ x1 x2 x3 x4 x5 x6 x7 → V μR w 12 κ σ [some (.ref (w.1 0)), some (.int x1), some (.int x2), some (.int x3), some (.int x4), some (.int x5), some (.int x6), some (.int x7), none, none, none, none] 17 [] := by
  intro σ x1 x2 x3 x4 x5 x6 x7 h
  refine h (fun σ x1 x2 x3 x4 x5 x6 x7 => V μR w 12 κ σ [some (.ref (w.1 0)), some (.int x1), some (.int x2), some (.int x3), some (.int x4), some (.int x5), some (.int x6), some (.int x7), none, none, none, none] 17 []) (fun σ x1 x2 x3 x4 x5 x6 x7 h => ?_)
  unfold b_R_buildOf_17_ at h
  refine V.iload hC d_R_buildOf_17 rfl ?_
  refine V.bipush (v := 10) hC d_R_buildOf_19 (by decide) ?_
  refine V.icmp_ge (tgt := 151) hC d_R_buildOf_21 (by decide) (fun c18 => ?_) (fun c18 => ?_)
  · replace h := h.1 c18
    refine V.iload_n hC d_R_buildOf_151 rfl rfl ?_
    refine V.if_ne (tgt := 160) hC d_R_buildOf_152 (by decide) (fun c19 => ?_) (fun c19 => ?_)
    · replace h := h.1 c19
      refine V.iload_n hC d_R_buildOf_160 rfl rfl ?_
      refine V.iconst (v := 1) hC d_R_buildOf_161 (by decide) ?_
      refine V.icmp_ne (tgt := 170) hC d_R_buildOf_162 (by decide) (fun c20 => ?_) (fun c20 => ?_)
      · replace h := h.1 c20
        refine V.iload hC d_R_buildOf_170 rfl ?_
        exact hR _ _ _ _ h rfl d_R_buildOf_172
      · replace h := h.2 c20
        refine V.iload hC d_R_buildOf_165 rfl ?_
        refine V.goto (tgt := 172) hC d_R_buildOf_167 (by decide) ?_
        exact hR _ _ _ _ h rfl d_R_buildOf_172
    · replace h := h.2 c19
      refine V.iload hC d_R_buildOf_155 rfl ?_
      refine V.goto (tgt := 172) hC d_R_buildOf_157 (by decide) ?_
      exact hR _ _ _ _ h rfl d_R_buildOf_172
  · replace h := h.2 c18
    refine V.iconst (v := 0) hC d_R_buildOf_24 (by decide) ?_
    refine V.istore (y := (0 : Int32)) (lo' := [some (.ref (w.1 0)), some (.int x1), some (.int x2), some (.int x3), some (.int x4), some (.int x5), some (.int x6), some (.int x7), some (.int (0 : Int32)), none, none, none]) hC d_R_buildOf_25 rfl rfl rfl ?_
    exact V.msk [true, true, true, true, true, true, true, true, true, false, false, false] rfl (wj_R_buildOf_27  hC hR (fun _ _ _ _ _ _ _ _ h => h) σ x1 x2 x3 x4 x5 x6 x7 (0 : Int32) h)
set_option maxHeartbeats 4000000 in
set_option maxRecDepth 100000 in
theorem w_R_buildOf (w : Wd) (σ : Hp) (a1 : Int32) (a2 : Int32) (a3 : Int32) (P : Int32 → Hp → Prop) (h : wp_R_buildOf σ a1 a2 a3 P) : CtI μR w y_R_buildOf b_R_buildOf 12 (some .int) 7 [.ref (w.1 0), .int a1, .int a2, .int a3] σ P := by
  unfold wp_R_buildOf at h
  refine CtI.ofV (C := nC8) (lo := [some (.ref (w.1 0)), some (.int a1), some (.int a2), some (.int a3), none, none, none, none, none, none, none, none]) exR (by decide +kernel) rfl rfl rfl (fun κ hC hR => ?_)
  refine V.aload_n hC d_R_buildOf_0 rfl rfl ?_
  refine V.callVN hC exR (w_R_asTold w σ  _ h) d_R_buildOf_1 mo_R_asTold qm_R_183 rfl rfl rfl rfl rfl rfl rfl (Nat.le_of_ble_eq_true rfl) (fun t22 h => ?_)
  refine V.iconst (v := -1) hC d_R_buildOf_4 (by decide) ?_
  refine V.istore (y := (-1 : Int32)) (lo' := [some (.ref (w.1 0)), some (.int a1), some (.int a2), some (.int a3), some (.int (-1 : Int32)), none, none, none, none, none, none, none]) hC d_R_buildOf_5 rfl rfl rfl ?_
  refine V.iconst (v := -1) hC d_R_buildOf_7 (by decide) ?_
  refine V.istore (y := (-1 : Int32)) (lo' := [some (.ref (w.1 0)), some (.int a1), some (.int a2), some (.int a3), some (.int (-1 : Int32)), some (.int (-1 : Int32)), none, none, none, none, none, none]) hC d_R_buildOf_8 rfl rfl rfl ?_
  refine V.ldc (v := -100000) hC d_R_buildOf_10 qc_R_236 ?_
  refine V.istore (y := (-100000 : Int32)) (lo' := [some (.ref (w.1 0)), some (.int a1), some (.int a2), some (.int a3), some (.int (-1 : Int32)), some (.int (-1 : Int32)), some (.int (-100000 : Int32)), none, none, none, none, none]) hC d_R_buildOf_12 rfl rfl rfl ?_
  refine V.iconst (v := 0) hC d_R_buildOf_14 (by decide) ?_
  refine V.istore (y := (0 : Int32)) (lo' := [some (.ref (w.1 0)), some (.int a1), some (.int a2), some (.int a3), some (.int (-1 : Int32)), some (.int (-1 : Int32)), some (.int (-100000 : Int32)), some (.int (0 : Int32)), none, none, none, none]) hC d_R_buildOf_15 rfl rfl rfl ?_
  exact V.msk [true, true, true, true, true, true, true, true, false, false, false, false] rfl (wj_R_buildOf_17  hC hR  t22 a1 a2 a3 (-1 : Int32) (-1 : Int32) (-100000 : Int32) (0 : Int32) h)
abbrev b_R_build : ByteArray := prog_10_method_60_code
def y_R_build : MethodName := ⟨nC8, "build", "(III)I"⟩
theorem d_R_build_0 : decode b_R_build 0 = .ok (.iload_n 1, 1) := by decide +kernel
theorem d_R_build_1 : decode b_R_build 1 = .ok (.invokestatic 151, 3) := by decide +kernel
theorem d_R_build_4 : decode b_R_build 4 = .ok (.ifCond .eq 30, 3) := by decide +kernel
theorem d_R_build_7 : decode b_R_build 7 = .ok (.aload_n 0, 1) := by decide +kernel
theorem d_R_build_8 : decode b_R_build 8 = .ok (.iload_n 2, 1) := by decide +kernel
theorem d_R_build_9 : decode b_R_build 9 = .ok (.invokevirtual 142, 3) := by decide +kernel
theorem d_R_build_12 : decode b_R_build 12 = .ok (.ifCond .eq 22, 3) := by decide +kernel
theorem d_R_build_15 : decode b_R_build 15 = .ok (.iload_n 3, 1) := by decide +kernel
theorem d_R_build_16 : decode b_R_build 16 = .ok (.iconst 0, 1) := by decide +kernel
theorem d_R_build_17 : decode b_R_build 17 = .ok (.iconst 2, 1) := by decide +kernel
theorem d_R_build_18 : decode b_R_build 18 = .ok (.invokestatic 97, 3) := by decide +kernel
theorem d_R_build_21 : decode b_R_build 21 = .ok (.ifCond .eq 13, 3) := by decide +kernel
theorem d_R_build_24 : decode b_R_build 24 = .ok (.aload_n 0, 1) := by decide +kernel
theorem d_R_build_25 : decode b_R_build 25 = .ok (.iload_n 1, 1) := by decide +kernel
theorem d_R_build_26 : decode b_R_build 26 = .ok (.iload_n 2, 1) := by decide +kernel
theorem d_R_build_27 : decode b_R_build 27 = .ok (.iload_n 3, 1) := by decide +kernel
theorem d_R_build_28 : decode b_R_build 28 = .ok (.invokevirtual 237, 3) := by decide +kernel
theorem d_R_build_31 : decode b_R_build 31 = .ok (.goto 5, 3) := by decide +kernel
theorem d_R_build_34 : decode b_R_build 34 = .ok (.ldc 204, 2) := by decide +kernel
theorem d_R_build_36 : decode b_R_build 36 = .ok (.ireturn, 1) := by decide +kernel
theorem qm_R_237 : Cond.methodLink nC8 237 y_R_buildOf ∈ tbl := tbl_in 1198 (by decide +kernel) rfl
def wp_R_build (σ : Hp) (a1 : Int32) (a2 : Int32) (a3 : Int32) (P : Int32 → Hp → Prop) : Prop :=
  wp_R_isDay σ a1 (fun (r1 : Int32) (t2 : Hp) => ((r1 = 0 → P (-100002 : Int32) t2) ∧ (¬ r1 = 0 → wp_R_isHouse t2 a2 (fun (r4 : Int32) (t5 : Hp) => ((r4 = 0 → P (-100002 : Int32) t5) ∧ (¬ r4 = 0 → wp_R_in t5 a3 (0 : Int32) (2 : Int32) (fun (r7 : Int32) (t8 : Hp) => ((r7 = 0 → P (-100002 : Int32) t8) ∧ (¬ r7 = 0 → wp_R_buildOf t8 a1 a2 a3 (fun (r10 : Int32) (t11 : Hp) => P r10 t11))))))))))
set_option maxHeartbeats 4000000 in
set_option maxRecDepth 100000 in
theorem w_R_build (w : Wd) (σ : Hp) (a1 : Int32) (a2 : Int32) (a3 : Int32) (P : Int32 → Hp → Prop) (h : wp_R_build σ a1 a2 a3 P) : CtI μR w y_R_build b_R_build 4 (some .int) 8 [.ref (w.1 0), .int a1, .int a2, .int a3] σ P := by
  unfold wp_R_build at h
  refine CtI.ofV (C := nC8) (lo := [some (.ref (w.1 0)), some (.int a1), some (.int a2), some (.int a3)]) exR (by decide +kernel) rfl rfl rfl (fun κ hC hR => ?_)
  refine V.iload_n hC d_R_build_0 rfl rfl ?_
  refine V.callSI hC exR (w_R_isDay w σ a1 _ h) d_R_build_1 mo_R_isDay qm_R_151 rfl rfl rfl rfl (Nat.le_of_ble_eq_true rfl) (fun r1 t2 h => ?_)
  refine V.if_eq (tgt := 34) hC d_R_build_4 (by decide) (fun c3 => ?_) (fun c3 => ?_)
  · replace h := h.1 c3
    refine V.ldc (v := -100002) hC d_R_build_34 qc_R_204 ?_
    exact hR _ _ _ _ h rfl d_R_build_36
  · replace h := h.2 c3
    refine V.aload_n hC d_R_build_7 rfl rfl ?_
    refine V.iload_n hC d_R_build_8 rfl rfl ?_
    refine V.callVI hC exR (w_R_isHouse w t2 a2 _ h) d_R_build_9 mo_R_isHouse qm_R_142 rfl rfl rfl rfl rfl rfl rfl (Nat.le_of_ble_eq_true rfl) (fun r4 t5 h => ?_)
    refine V.if_eq (tgt := 34) hC d_R_build_12 (by decide) (fun c6 => ?_) (fun c6 => ?_)
    · replace h := h.1 c6
      refine V.ldc (v := -100002) hC d_R_build_34 qc_R_204 ?_
      exact hR _ _ _ _ h rfl d_R_build_36
    · replace h := h.2 c6
      refine V.iload_n hC d_R_build_15 rfl rfl ?_
      refine V.iconst (v := 0) hC d_R_build_16 (by decide) ?_
      refine V.iconst (v := 2) hC d_R_build_17 (by decide) ?_
      refine V.callSI hC exR (w_R_in w t5 a3 (0 : Int32) (2 : Int32) _ h) d_R_build_18 mo_R_in qm_R_97 rfl rfl rfl rfl (Nat.le_of_ble_eq_true rfl) (fun r7 t8 h => ?_)
      refine V.if_eq (tgt := 34) hC d_R_build_21 (by decide) (fun c9 => ?_) (fun c9 => ?_)
      · replace h := h.1 c9
        refine V.ldc (v := -100002) hC d_R_build_34 qc_R_204 ?_
        exact hR _ _ _ _ h rfl d_R_build_36
      · replace h := h.2 c9
        refine V.aload_n hC d_R_build_24 rfl rfl ?_
        refine V.iload_n hC d_R_build_25 rfl rfl ?_
        refine V.iload_n hC d_R_build_26 rfl rfl ?_
        refine V.iload_n hC d_R_build_27 rfl rfl ?_
        refine V.callVI hC exR (w_R_buildOf w t8 a1 a2 a3 _ h) d_R_build_28 mo_R_buildOf qm_R_237 rfl rfl rfl rfl rfl rfl rfl (Nat.le_of_ble_eq_true rfl) (fun r10 t11 h => ?_)
        refine V.goto (tgt := 36) hC d_R_build_31 (by decide) ?_
        exact hR _ _ _ _ h rfl d_R_build_36
abbrev b_R_fairOf : ByteArray := prog_10_method_61_code
def y_R_fairOf : MethodName := ⟨nC8, "fairOf", "(III)I"⟩
theorem d_R_fairOf_0 : decode b_R_fairOf 0 = .ok (.aload_n 0, 1) := by decide +kernel
theorem d_R_fairOf_1 : decode b_R_fairOf 1 = .ok (.invokevirtual 183, 3) := by decide +kernel
theorem d_R_fairOf_4 : decode b_R_fairOf 4 = .ok (.iconst (-1), 1) := by decide +kernel
theorem d_R_fairOf_5 : decode b_R_fairOf 5 = .ok (.istore 4, 2) := by decide +kernel
theorem d_R_fairOf_7 : decode b_R_fairOf 7 = .ok (.iconst (-1), 1) := by decide +kernel
theorem d_R_fairOf_8 : decode b_R_fairOf 8 = .ok (.istore 5, 2) := by decide +kernel
theorem d_R_fairOf_10 : decode b_R_fairOf 10 = .ok (.aload_n 0, 1) := by decide +kernel
theorem d_R_fairOf_11 : decode b_R_fairOf 11 = .ok (.getfield 28, 3) := by decide +kernel
theorem d_R_fairOf_14 : decode b_R_fairOf 14 = .ok (.iload_n 2, 1) := by decide +kernel
theorem d_R_fairOf_15 : decode b_R_fairOf 15 = .ok (.iaload, 1) := by decide +kernel
theorem d_R_fairOf_16 : decode b_R_fairOf 16 = .ok (.istore 6, 2) := by decide +kernel
theorem d_R_fairOf_18 : decode b_R_fairOf 18 = .ok (.iconst 0, 1) := by decide +kernel
theorem d_R_fairOf_19 : decode b_R_fairOf 19 = .ok (.istore 7, 2) := by decide +kernel
theorem d_R_fairOf_21 : decode b_R_fairOf 21 = .ok (.iload 7, 2) := by decide +kernel
theorem d_R_fairOf_23 : decode b_R_fairOf 23 = .ok (.bipush 10, 2) := by decide +kernel
theorem d_R_fairOf_25 : decode b_R_fairOf 25 = .ok (.if_icmp .ge 81, 3) := by decide +kernel
theorem d_R_fairOf_28 : decode b_R_fairOf 28 = .ok (.aload_n 0, 1) := by decide +kernel
theorem d_R_fairOf_29 : decode b_R_fairOf 29 = .ok (.getfield 28, 3) := by decide +kernel
theorem d_R_fairOf_32 : decode b_R_fairOf 32 = .ok (.iload_n 2, 1) := by decide +kernel
theorem d_R_fairOf_33 : decode b_R_fairOf 33 = .ok (.iload 7, 2) := by decide +kernel
theorem d_R_fairOf_35 : decode b_R_fairOf 35 = .ok (.iastore, 1) := by decide +kernel
theorem d_R_fairOf_36 : decode b_R_fairOf 36 = .ok (.aload_n 0, 1) := by decide +kernel
theorem d_R_fairOf_37 : decode b_R_fairOf 37 = .ok (.invokevirtual 186, 3) := by decide +kernel
theorem d_R_fairOf_40 : decode b_R_fairOf 40 = .ok (.aload_n 0, 1) := by decide +kernel
theorem d_R_fairOf_41 : decode b_R_fairOf 41 = .ok (.iload_n 1, 1) := by decide +kernel
theorem d_R_fairOf_42 : decode b_R_fairOf 42 = .ok (.invokevirtual 209, 3) := by decide +kernel
theorem d_R_fairOf_45 : decode b_R_fairOf 45 = .ok (.istore 8, 2) := by decide +kernel
theorem d_R_fairOf_47 : decode b_R_fairOf 47 = .ok (.iload 8, 2) := by decide +kernel
theorem d_R_fairOf_49 : decode b_R_fairOf 49 = .ok (.ifCond .le 20, 3) := by decide +kernel
theorem d_R_fairOf_52 : decode b_R_fairOf 52 = .ok (.iload 4, 2) := by decide +kernel
theorem d_R_fairOf_54 : decode b_R_fairOf 54 = .ok (.iconst (-1), 1) := by decide +kernel
theorem d_R_fairOf_55 : decode b_R_fairOf 55 = .ok (.if_icmp .eq 10, 3) := by decide +kernel
theorem d_R_fairOf_58 : decode b_R_fairOf 58 = .ok (.iload 8, 2) := by decide +kernel
theorem d_R_fairOf_60 : decode b_R_fairOf 60 = .ok (.iload 5, 2) := by decide +kernel
theorem d_R_fairOf_62 : decode b_R_fairOf 62 = .ok (.if_icmp .ge 7, 3) := by decide +kernel
theorem d_R_fairOf_65 : decode b_R_fairOf 65 = .ok (.iconst 1, 1) := by decide +kernel
theorem d_R_fairOf_66 : decode b_R_fairOf 66 = .ok (.goto 4, 3) := by decide +kernel
theorem d_R_fairOf_69 : decode b_R_fairOf 69 = .ok (.iconst 0, 1) := by decide +kernel
theorem d_R_fairOf_70 : decode b_R_fairOf 70 = .ok (.istore 9, 2) := by decide +kernel
theorem d_R_fairOf_72 : decode b_R_fairOf 72 = .ok (.iload 9, 2) := by decide +kernel
theorem d_R_fairOf_74 : decode b_R_fairOf 74 = .ok (.ifCond .eq 8, 3) := by decide +kernel
theorem d_R_fairOf_77 : decode b_R_fairOf 77 = .ok (.iload 7, 2) := by decide +kernel
theorem d_R_fairOf_79 : decode b_R_fairOf 79 = .ok (.goto 5, 3) := by decide +kernel
theorem d_R_fairOf_82 : decode b_R_fairOf 82 = .ok (.iload 4, 2) := by decide +kernel
theorem d_R_fairOf_84 : decode b_R_fairOf 84 = .ok (.istore 4, 2) := by decide +kernel
theorem d_R_fairOf_86 : decode b_R_fairOf 86 = .ok (.iload 9, 2) := by decide +kernel
theorem d_R_fairOf_88 : decode b_R_fairOf 88 = .ok (.ifCond .eq 8, 3) := by decide +kernel
theorem d_R_fairOf_91 : decode b_R_fairOf 91 = .ok (.iload 8, 2) := by decide +kernel
theorem d_R_fairOf_93 : decode b_R_fairOf 93 = .ok (.goto 5, 3) := by decide +kernel
theorem d_R_fairOf_96 : decode b_R_fairOf 96 = .ok (.iload 5, 2) := by decide +kernel
theorem d_R_fairOf_98 : decode b_R_fairOf 98 = .ok (.istore 5, 2) := by decide +kernel
theorem d_R_fairOf_100 : decode b_R_fairOf 100 = .ok (.iinc 7 1, 3) := by decide +kernel
theorem d_R_fairOf_103 : decode b_R_fairOf 103 = .ok (.goto (-82), 3) := by decide +kernel
theorem d_R_fairOf_106 : decode b_R_fairOf 106 = .ok (.aload_n 0, 1) := by decide +kernel
theorem d_R_fairOf_107 : decode b_R_fairOf 107 = .ok (.getfield 28, 3) := by decide +kernel
theorem d_R_fairOf_110 : decode b_R_fairOf 110 = .ok (.iload_n 2, 1) := by decide +kernel
theorem d_R_fairOf_111 : decode b_R_fairOf 111 = .ok (.iload 6, 2) := by decide +kernel
theorem d_R_fairOf_113 : decode b_R_fairOf 113 = .ok (.iastore, 1) := by decide +kernel
theorem d_R_fairOf_114 : decode b_R_fairOf 114 = .ok (.iload_n 3, 1) := by decide +kernel
theorem d_R_fairOf_115 : decode b_R_fairOf 115 = .ok (.ifCond .ne 8, 3) := by decide +kernel
theorem d_R_fairOf_118 : decode b_R_fairOf 118 = .ok (.iload 4, 2) := by decide +kernel
theorem d_R_fairOf_120 : decode b_R_fairOf 120 = .ok (.goto 5, 3) := by decide +kernel
theorem d_R_fairOf_123 : decode b_R_fairOf 123 = .ok (.iload 5, 2) := by decide +kernel
theorem d_R_fairOf_125 : decode b_R_fairOf 125 = .ok (.ireturn, 1) := by decide +kernel
theorem mo_R_fairOf : MokV y_R_fairOf b_R_fairOf 10 (some .int) 3 := ⟨⟨(tbl_in 1210 (by decide +kernel) rfl), (tbl_in 70 (by decide +kernel) rfl)⟩, ⟨(tbl_in 1209 (by decide +kernel) rfl), tbl_lw _ (tbl_in 45 (by decide +kernel) rfl), (tbl_in 45 (by decide +kernel) rfl)⟩, ⟨by decide +kernel, by decide +kernel⟩, by decide +kernel⟩
def j_R_fairOf_84 (P : Int32 → Hp → Prop) (I21 : Hp → Int32 → Int32 → Int32 → Int32 → Int32 → Int32 → Int32 → Prop) (σ : Hp) (x1 : Int32) (x2 : Int32) (x3 : Int32) (x5 : Int32) (x6 : Int32) (x7 : Int32) (x8 : Int32) (x9 : Int32) (s0 : Int32) : Prop :=
  ((x9 = 0 → (∀ v2 : Int32, v2 = x7 + (1 : Int32) → I21 σ x1 x2 x3 s0 x5 x6 v2)) ∧ (¬ x9 = 0 → (∀ v3 : Int32, v3 = x7 + (1 : Int32) → I21 σ x1 x2 x3 s0 x8 x6 v3)))
def j_R_fairOf_70 (P : Int32 → Hp → Prop) (I21 : Hp → Int32 → Int32 → Int32 → Int32 → Int32 → Int32 → Int32 → Prop) (σ : Hp) (x1 : Int32) (x2 : Int32) (x3 : Int32) (x4 : Int32) (x5 : Int32) (x6 : Int32) (x7 : Int32) (x8 : Int32) (s0 : Int32) : Prop :=
  ((s0 = 0 → j_R_fairOf_84 P I21 σ x1 x2 x3 x5 x6 x7 x8 s0 x4) ∧ (¬ s0 = 0 → j_R_fairOf_84 P I21 σ x1 x2 x3 x5 x6 x7 x8 s0 x7))
def j_R_fairOf_69 (P : Int32 → Hp → Prop) (I21 : Hp → Int32 → Int32 → Int32 → Int32 → Int32 → Int32 → Int32 → Prop) (σ : Hp) (x1 : Int32) (x2 : Int32) (x3 : Int32) (x4 : Int32) (x5 : Int32) (x6 : Int32) (x7 : Int32) (x8 : Int32) : Prop :=
  j_R_fairOf_70 P I21 σ x1 x2 x3 x4 x5 x6 x7 x8 (0 : Int32)
def j_R_fairOf_65 (P : Int32 → Hp → Prop) (I21 : Hp → Int32 → Int32 → Int32 → Int32 → Int32 → Int32 → Int32 → Prop) (σ : Hp) (x1 : Int32) (x2 : Int32) (x3 : Int32) (x4 : Int32) (x5 : Int32) (x6 : Int32) (x7 : Int32) (x8 : Int32) : Prop :=
  j_R_fairOf_70 P I21 σ x1 x2 x3 x4 x5 x6 x7 x8 (1 : Int32)
def b_R_fairOf_21_ (P : Int32 → Hp → Prop)  (I21 : Hp → Int32 → Int32 → Int32 → Int32 → Int32 → Int32 → Int32 → Prop) (σ : Hp) (x1 : Int32) (x2 : Int32) (x3 : Int32) (x4 : Int32) (x5 : Int32) (x6 : Int32) (x7 : Int32) : Prop :=
  (((10 : Int32) ≤ x7 → (vp_in x2 3) ∧ ((¬ x3 = 0 → P x5 (st σ 7 (ix x2) x6)) ∧ (x3 = 0 → P x4 (st σ 7 (ix x2) x6)))) ∧ (¬ (10 : Int32) ≤ x7 → (vp_in x2 3) ∧ wp_R_lays (st σ 7 (ix x2) x7) (fun (t10 : Hp) => wp_R_coinNow t10 x1 (fun (r11 : Int32) (t12 : Hp) => ((r11 ≤ 0 → j_R_fairOf_69 P I21 t12 x1 x2 x3 x4 x5 x6 x7 r11) ∧ (¬ r11 ≤ 0 → ((x4 = (-1 : Int32) → j_R_fairOf_65 P I21 t12 x1 x2 x3 x4 x5 x6 x7 r11) ∧ (¬ x4 = (-1 : Int32) → ((x5 ≤ r11 → j_R_fairOf_69 P I21 t12 x1 x2 x3 x4 x5 x6 x7 r11) ∧ (¬ x5 ≤ r11 → j_R_fairOf_65 P I21 t12 x1 x2 x3 x4 x5 x6 x7 r11))))))))))
def j_R_fairOf_21 (P : Int32 → Hp → Prop)  (σ : Hp) (x1 : Int32) (x2 : Int32) (x3 : Int32) (x4 : Int32) (x5 : Int32) (x6 : Int32) (x7 : Int32) : Prop := ∀ I21 : Hp → Int32 → Int32 → Int32 → Int32 → Int32 → Int32 → Int32 → Prop, (∀ (σ : Hp) (x1 : Int32) (x2 : Int32) (x3 : Int32) (x4 : Int32) (x5 : Int32) (x6 : Int32) (x7 : Int32), b_R_fairOf_21_  P  I21 σ x1 x2 x3 x4 x5 x6 x7 → I21 σ x1 x2 x3 x4 x5 x6 x7) → I21 σ x1 x2 x3 x4 x5 x6 x7
def wp_R_fairOf (σ : Hp) (a1 : Int32) (a2 : Int32) (a3 : Int32) (P : Int32 → Hp → Prop) : Prop :=
  wp_R_asTold σ (fun (t17 : Hp) => (vp_in a2 3) ∧ (∀ v19 : Int32, v19 = t17 7 (ix a2) → j_R_fairOf_21 P t17 a1 a2 a3 (-1 : Int32) (-1 : Int32) v19 (0 : Int32)))
set_option maxHeartbeats 4000000 in
set_option maxRecDepth 100000 in
theorem wj_R_fairOf_84 {w : Wd} {κ : Kx} {P : Int32 → Hp → Prop} (hC : Cx μR w 10 κ nC8 b_R_fairOf 7) (hR : RtI μR w 10 κ b_R_fairOf .int P) {I21 : Hp → Int32 → Int32 → Int32 → Int32 → Int32 → Int32 → Int32 → Prop} (hI21 : ∀ σ x1 x2 x3 x4 x5 x6 x7, I21 σ x1 x2 x3 x4 x5 x6 x7 → V μR w 10 κ σ [some (.ref (w.1 0)), some (.int x1), some (.int x2), some (.int x3), some (.int x4), some (.int x5), some (.int x6), some (.int x7), none, none] 21 []) : ∀ (σ : Hp) (x1 : Int32) (x2 : Int32) (x3 : Int32) (x5 : Int32) (x6 : Int32) (x7 : Int32) (x8 : Int32) (x9 : Int32) (s0 : Int32), j_R_fairOf_84  P I21 σ x1 x2 x3 x5 x6 x7 x8 x9 s0 → V μR w 10 κ σ [some (.ref (w.1 0)), some (.int x1), some (.int x2), some (.int x3), none, some (.int x5), some (.int x6), some (.int x7), some (.int x8), some (.int x9)] 84 [.int s0] := by
  intro σ x1 x2 x3 x5 x6 x7 x8 x9 s0 h
  unfold j_R_fairOf_84 at h
  refine V.istore (y := s0) (lo' := [some (.ref (w.1 0)), some (.int x1), some (.int x2), some (.int x3), some (.int s0), some (.int x5), some (.int x6), some (.int x7), some (.int x8), some (.int x9)]) hC d_R_fairOf_84 rfl rfl rfl ?_
  refine V.iload hC d_R_fairOf_86 rfl ?_
  refine V.if_eq (tgt := 96) hC d_R_fairOf_88 (by decide) (fun c1 => ?_) (fun c1 => ?_)
  · replace h := h.1 c1
    refine V.iload hC d_R_fairOf_96 rfl ?_
    refine V.istore (y := x5) (lo' := [some (.ref (w.1 0)), some (.int x1), some (.int x2), some (.int x3), some (.int s0), some (.int x5), some (.int x6), some (.int x7), some (.int x8), some (.int x9)]) hC d_R_fairOf_98 rfl rfl rfl ?_
    obtain ⟨v2, ev2⟩ : ∃ y : Int32, y = x7 + (1 : Int32) := ⟨_, rfl⟩
    replace h := h v2 ev2
    refine V.iinc (y := v2) (lo' := [some (.ref (w.1 0)), some (.int x1), some (.int x2), some (.int x3), some (.int s0), some (.int x5), some (.int x6), some (.int v2), some (.int x8), some (.int x9)]) hC d_R_fairOf_100 rfl rfl (show v2 = _ + Int32.ofInt (1) from ev2) rfl ?_
    refine V.goto (tgt := 21) hC d_R_fairOf_103 (by decide) ?_
    exact V.msk [true, true, true, true, true, true, true, true, false, false] rfl (hI21 σ x1 x2 x3 s0 x5 x6 v2 h)
  · replace h := h.2 c1
    refine V.iload hC d_R_fairOf_91 rfl ?_
    refine V.goto (tgt := 98) hC d_R_fairOf_93 (by decide) ?_
    refine V.istore (y := x8) (lo' := [some (.ref (w.1 0)), some (.int x1), some (.int x2), some (.int x3), some (.int s0), some (.int x8), some (.int x6), some (.int x7), some (.int x8), some (.int x9)]) hC d_R_fairOf_98 rfl rfl rfl ?_
    obtain ⟨v3, ev3⟩ : ∃ y : Int32, y = x7 + (1 : Int32) := ⟨_, rfl⟩
    replace h := h v3 ev3
    refine V.iinc (y := v3) (lo' := [some (.ref (w.1 0)), some (.int x1), some (.int x2), some (.int x3), some (.int s0), some (.int x8), some (.int x6), some (.int v3), some (.int x8), some (.int x9)]) hC d_R_fairOf_100 rfl rfl (show v3 = _ + Int32.ofInt (1) from ev3) rfl ?_
    refine V.goto (tgt := 21) hC d_R_fairOf_103 (by decide) ?_
    exact V.msk [true, true, true, true, true, true, true, true, false, false] rfl (hI21 σ x1 x2 x3 s0 x8 x6 v3 h)
set_option maxHeartbeats 4000000 in
set_option maxRecDepth 100000 in
theorem wj_R_fairOf_70 {w : Wd} {κ : Kx} {P : Int32 → Hp → Prop} (hC : Cx μR w 10 κ nC8 b_R_fairOf 7) (hR : RtI μR w 10 κ b_R_fairOf .int P) {I21 : Hp → Int32 → Int32 → Int32 → Int32 → Int32 → Int32 → Int32 → Prop} (hI21 : ∀ σ x1 x2 x3 x4 x5 x6 x7, I21 σ x1 x2 x3 x4 x5 x6 x7 → V μR w 10 κ σ [some (.ref (w.1 0)), some (.int x1), some (.int x2), some (.int x3), some (.int x4), some (.int x5), some (.int x6), some (.int x7), none, none] 21 []) : ∀ (σ : Hp) (x1 : Int32) (x2 : Int32) (x3 : Int32) (x4 : Int32) (x5 : Int32) (x6 : Int32) (x7 : Int32) (x8 : Int32) (s0 : Int32), j_R_fairOf_70  P I21 σ x1 x2 x3 x4 x5 x6 x7 x8 s0 → V μR w 10 κ σ [some (.ref (w.1 0)), some (.int x1), some (.int x2), some (.int x3), some (.int x4), some (.int x5), some (.int x6), some (.int x7), some (.int x8), none] 70 [.int s0] := by
  intro σ x1 x2 x3 x4 x5 x6 x7 x8 s0 h
  unfold j_R_fairOf_70 at h
  refine V.istore (y := s0) (lo' := [some (.ref (w.1 0)), some (.int x1), some (.int x2), some (.int x3), some (.int x4), some (.int x5), some (.int x6), some (.int x7), some (.int x8), some (.int s0)]) hC d_R_fairOf_70 rfl rfl rfl ?_
  refine V.iload hC d_R_fairOf_72 rfl ?_
  refine V.if_eq (tgt := 82) hC d_R_fairOf_74 (by decide) (fun c4 => ?_) (fun c4 => ?_)
  · replace h := h.1 c4
    refine V.iload hC d_R_fairOf_82 rfl ?_
    exact V.msk [true, true, true, true, false, true, true, true, true, true] rfl (wj_R_fairOf_84  hC hR hI21 σ x1 x2 x3 x5 x6 x7 x8 s0 x4 h)
  · replace h := h.2 c4
    refine V.iload hC d_R_fairOf_77 rfl ?_
    refine V.goto (tgt := 84) hC d_R_fairOf_79 (by decide) ?_
    exact V.msk [true, true, true, true, false, true, true, true, true, true] rfl (wj_R_fairOf_84  hC hR hI21 σ x1 x2 x3 x5 x6 x7 x8 s0 x7 h)
set_option maxHeartbeats 4000000 in
set_option maxRecDepth 100000 in
theorem wj_R_fairOf_69 {w : Wd} {κ : Kx} {P : Int32 → Hp → Prop} (hC : Cx μR w 10 κ nC8 b_R_fairOf 7) (hR : RtI μR w 10 κ b_R_fairOf .int P) {I21 : Hp → Int32 → Int32 → Int32 → Int32 → Int32 → Int32 → Int32 → Prop} (hI21 : ∀ σ x1 x2 x3 x4 x5 x6 x7, I21 σ x1 x2 x3 x4 x5 x6 x7 → V μR w 10 κ σ [some (.ref (w.1 0)), some (.int x1), some (.int x2), some (.int x3), some (.int x4), some (.int x5), some (.int x6), some (.int x7), none, none] 21 []) : ∀ (σ : Hp) (x1 : Int32) (x2 : Int32) (x3 : Int32) (x4 : Int32) (x5 : Int32) (x6 : Int32) (x7 : Int32) (x8 : Int32), j_R_fairOf_69  P I21 σ x1 x2 x3 x4 x5 x6 x7 x8 → V μR w 10 κ σ [some (.ref (w.1 0)), some (.int x1), some (.int x2), some (.int x3), some (.int x4), some (.int x5), some (.int x6), some (.int x7), some (.int x8), none] 69 [] := by
  intro σ x1 x2 x3 x4 x5 x6 x7 x8 h
  unfold j_R_fairOf_69 at h
  refine V.iconst (v := 0) hC d_R_fairOf_69 (by decide) ?_
  exact V.msk [true, true, true, true, true, true, true, true, true, false] rfl (wj_R_fairOf_70  hC hR hI21 σ x1 x2 x3 x4 x5 x6 x7 x8 (0 : Int32) h)
set_option maxHeartbeats 4000000 in
set_option maxRecDepth 100000 in
theorem wj_R_fairOf_65 {w : Wd} {κ : Kx} {P : Int32 → Hp → Prop} (hC : Cx μR w 10 κ nC8 b_R_fairOf 7) (hR : RtI μR w 10 κ b_R_fairOf .int P) {I21 : Hp → Int32 → Int32 → Int32 → Int32 → Int32 → Int32 → Int32 → Prop} (hI21 : ∀ σ x1 x2 x3 x4 x5 x6 x7, I21 σ x1 x2 x3 x4 x5 x6 x7 → V μR w 10 κ σ [some (.ref (w.1 0)), some (.int x1), some (.int x2), some (.int x3), some (.int x4), some (.int x5), some (.int x6), some (.int x7), none, none] 21 []) : ∀ (σ : Hp) (x1 : Int32) (x2 : Int32) (x3 : Int32) (x4 : Int32) (x5 : Int32) (x6 : Int32) (x7 : Int32) (x8 : Int32), j_R_fairOf_65  P I21 σ x1 x2 x3 x4 x5 x6 x7 x8 → V μR w 10 κ σ [some (.ref (w.1 0)), some (.int x1), some (.int x2), some (.int x3), some (.int x4), some (.int x5), some (.int x6), some (.int x7), some (.int x8), none] 65 [] := by
  intro σ x1 x2 x3 x4 x5 x6 x7 x8 h
  unfold j_R_fairOf_65 at h
  refine V.iconst (v := 1) hC d_R_fairOf_65 (by decide) ?_
  refine V.goto (tgt := 70) hC d_R_fairOf_66 (by decide) ?_
  exact V.msk [true, true, true, true, true, true, true, true, true, false] rfl (wj_R_fairOf_70  hC hR hI21 σ x1 x2 x3 x4 x5 x6 x7 x8 (1 : Int32) h)
set_option maxHeartbeats 4000000 in
set_option maxRecDepth 100000 in
theorem wj_R_fairOf_21 {w : Wd} {κ : Kx} {P : Int32 → Hp → Prop} (hC : Cx μR w 10 κ nC8 b_R_fairOf 7) (hR : RtI μR w 10 κ b_R_fairOf .int P)  : ∀ (σ : Hp) (x1 : Int32) (x2 : Int32) (x3 : Int32) (x4 : Int32) (x5 : Int32) (x6 : Int32) (x7 : Int32), j_R_fairOf_21  P  σ x1 x2 x3 x4 x5 x6 x7 → V μR w 10 κ σ [some (.ref (w.1 0)), some (.int x1), some (.int x2), some (.int x3), some (.int x4), some (.int x5), some (.int x6), some (.int x7), none, none] 21 [] := by
  intro σ x1 x2 x3 x4 x5 x6 x7 h
  refine h (fun σ x1 x2 x3 x4 x5 x6 x7 => V μR w 10 κ σ [some (.ref (w.1 0)), some (.int x1), some (.int x2), some (.int x3), some (.int x4), some (.int x5), some (.int x6), some (.int x7), none, none] 21 []) (fun σ x1 x2 x3 x4 x5 x6 x7 h => ?_)
  unfold b_R_fairOf_21_ at h
  refine V.iload hC d_R_fairOf_21 rfl ?_
  refine V.bipush (v := 10) hC d_R_fairOf_23 (by decide) ?_
  refine V.icmp_ge (tgt := 106) hC d_R_fairOf_25 (by decide) (fun c5 => ?_) (fun c5 => ?_)
  · replace h := h.1 c5
    refine V.aload_n hC d_R_fairOf_106 rfl rfl ?_
    refine V.getR (j := 8) hC d_R_fairOf_107 rfl rfl uC8 rfl rfl qf_R_28 ?_
    refine V.iload_n hC d_R_fairOf_110 rfl rfl ?_
    refine V.iload hC d_R_fairOf_111 rfl ?_
    obtain ⟨b6, h⟩ := h
    refine V.iast hC d_R_fairOf_113 rfl b6 ?_
    refine V.iload_n hC d_R_fairOf_114 rfl rfl ?_
    refine V.if_ne (tgt := 123) hC d_R_fairOf_115 (by decide) (fun c7 => ?_) (fun c7 => ?_)
    · replace h := h.1 c7
      refine V.iload hC d_R_fairOf_123 rfl ?_
      exact hR _ _ _ _ h rfl d_R_fairOf_125
    · replace h := h.2 c7
      refine V.iload hC d_R_fairOf_118 rfl ?_
      refine V.goto (tgt := 125) hC d_R_fairOf_120 (by decide) ?_
      exact hR _ _ _ _ h rfl d_R_fairOf_125
  · replace h := h.2 c5
    refine V.aload_n hC d_R_fairOf_28 rfl rfl ?_
    refine V.getR (j := 8) hC d_R_fairOf_29 rfl rfl uC8 rfl rfl qf_R_28 ?_
    refine V.iload_n hC d_R_fairOf_32 rfl rfl ?_
    refine V.iload hC d_R_fairOf_33 rfl ?_
    obtain ⟨b8, h⟩ := h
    refine V.iast hC d_R_fairOf_35 rfl b8 ?_
    refine V.aload_n hC d_R_fairOf_36 rfl rfl ?_
    refine V.callVN hC exR (w_R_lays w (st σ 7 (ix x2) x7)  _ h) d_R_fairOf_37 mo_R_lays qm_R_186 rfl rfl rfl rfl rfl rfl rfl (Nat.le_of_ble_eq_true rfl) (fun t10 h => ?_)
    refine V.aload_n hC d_R_fairOf_40 rfl rfl ?_
    refine V.iload_n hC d_R_fairOf_41 rfl rfl ?_
    refine V.callVI hC exR (w_R_coinNow w t10 x1 _ h) d_R_fairOf_42 mo_R_coinNow qm_R_209 rfl rfl rfl rfl rfl rfl rfl (Nat.le_of_ble_eq_true rfl) (fun r11 t12 h => ?_)
    refine V.istore (y := r11) (lo' := [some (.ref (w.1 0)), some (.int x1), some (.int x2), some (.int x3), some (.int x4), some (.int x5), some (.int x6), some (.int x7), some (.int r11), none]) hC d_R_fairOf_45 rfl rfl rfl ?_
    refine V.iload hC d_R_fairOf_47 rfl ?_
    refine V.if_le (tgt := 69) hC d_R_fairOf_49 (by decide) (fun c13 => ?_) (fun c13 => ?_)
    · replace h := h.1 c13
      exact V.msk [true, true, true, true, true, true, true, true, true, false] rfl (wj_R_fairOf_69  hC hR (fun _ _ _ _ _ _ _ _ h => h) t12 x1 x2 x3 x4 x5 x6 x7 r11 h)
    · replace h := h.2 c13
      refine V.iload hC d_R_fairOf_52 rfl ?_
      refine V.iconst (v := -1) hC d_R_fairOf_54 (by decide) ?_
      refine V.icmp_eq (tgt := 65) hC d_R_fairOf_55 (by decide) (fun c14 => ?_) (fun c14 => ?_)
      · replace h := h.1 c14
        exact V.msk [true, true, true, true, true, true, true, true, true, false] rfl (wj_R_fairOf_65  hC hR (fun _ _ _ _ _ _ _ _ h => h) t12 x1 x2 x3 x4 x5 x6 x7 r11 h)
      · replace h := h.2 c14
        refine V.iload hC d_R_fairOf_58 rfl ?_
        refine V.iload hC d_R_fairOf_60 rfl ?_
        refine V.icmp_ge (tgt := 69) hC d_R_fairOf_62 (by decide) (fun c15 => ?_) (fun c15 => ?_)
        · replace h := h.1 c15
          exact V.msk [true, true, true, true, true, true, true, true, true, false] rfl (wj_R_fairOf_69  hC hR (fun _ _ _ _ _ _ _ _ h => h) t12 x1 x2 x3 x4 x5 x6 x7 r11 h)
        · replace h := h.2 c15
          exact V.msk [true, true, true, true, true, true, true, true, true, false] rfl (wj_R_fairOf_65  hC hR (fun _ _ _ _ _ _ _ _ h => h) t12 x1 x2 x3 x4 x5 x6 x7 r11 h)
set_option maxHeartbeats 4000000 in
set_option maxRecDepth 100000 in
theorem w_R_fairOf (w : Wd) (σ : Hp) (a1 : Int32) (a2 : Int32) (a3 : Int32) (P : Int32 → Hp → Prop) (h : wp_R_fairOf σ a1 a2 a3 P) : CtI μR w y_R_fairOf b_R_fairOf 10 (some .int) 7 [.ref (w.1 0), .int a1, .int a2, .int a3] σ P := by
  unfold wp_R_fairOf at h
  refine CtI.ofV (C := nC8) (lo := [some (.ref (w.1 0)), some (.int a1), some (.int a2), some (.int a3), none, none, none, none, none, none]) exR (by decide +kernel) rfl rfl rfl (fun κ hC hR => ?_)
  refine V.aload_n hC d_R_fairOf_0 rfl rfl ?_
  refine V.callVN hC exR (w_R_asTold w σ  _ h) d_R_fairOf_1 mo_R_asTold qm_R_183 rfl rfl rfl rfl rfl rfl rfl (Nat.le_of_ble_eq_true rfl) (fun t17 h => ?_)
  refine V.iconst (v := -1) hC d_R_fairOf_4 (by decide) ?_
  refine V.istore (y := (-1 : Int32)) (lo' := [some (.ref (w.1 0)), some (.int a1), some (.int a2), some (.int a3), some (.int (-1 : Int32)), none, none, none, none, none]) hC d_R_fairOf_5 rfl rfl rfl ?_
  refine V.iconst (v := -1) hC d_R_fairOf_7 (by decide) ?_
  refine V.istore (y := (-1 : Int32)) (lo' := [some (.ref (w.1 0)), some (.int a1), some (.int a2), some (.int a3), some (.int (-1 : Int32)), some (.int (-1 : Int32)), none, none, none, none]) hC d_R_fairOf_8 rfl rfl rfl ?_
  refine V.aload_n hC d_R_fairOf_10 rfl rfl ?_
  refine V.getR (j := 8) hC d_R_fairOf_11 rfl rfl uC8 rfl rfl qf_R_28 ?_
  refine V.iload_n hC d_R_fairOf_14 rfl rfl ?_
  obtain ⟨b18, h⟩ := h
  refine V.iald hC d_R_fairOf_15 rfl b18 ?_
  obtain ⟨v19, ev19⟩ : ∃ y : Int32, y = t17 7 (ix a2) := ⟨_, rfl⟩
  replace h := h v19 ev19
  refine V.istore (y := v19) (lo' := [some (.ref (w.1 0)), some (.int a1), some (.int a2), some (.int a3), some (.int (-1 : Int32)), some (.int (-1 : Int32)), some (.int v19), none, none, none]) hC d_R_fairOf_16 rfl ev19 rfl ?_
  refine V.iconst (v := 0) hC d_R_fairOf_18 (by decide) ?_
  refine V.istore (y := (0 : Int32)) (lo' := [some (.ref (w.1 0)), some (.int a1), some (.int a2), some (.int a3), some (.int (-1 : Int32)), some (.int (-1 : Int32)), some (.int v19), some (.int (0 : Int32)), none, none]) hC d_R_fairOf_19 rfl rfl rfl ?_
  exact V.msk [true, true, true, true, true, true, true, true, false, false] rfl (wj_R_fairOf_21  hC hR  t17 a1 a2 a3 (-1 : Int32) (-1 : Int32) v19 (0 : Int32) h)
abbrev b_R_fair : ByteArray := prog_10_method_62_code
def y_R_fair : MethodName := ⟨nC8, "fair", "(III)I"⟩
theorem d_R_fair_0 : decode b_R_fair 0 = .ok (.iload_n 1, 1) := by decide +kernel
theorem d_R_fair_1 : decode b_R_fair 1 = .ok (.invokestatic 151, 3) := by decide +kernel
theorem d_R_fair_4 : decode b_R_fair 4 = .ok (.ifCond .eq 31, 3) := by decide +kernel
theorem d_R_fair_7 : decode b_R_fair 7 = .ok (.iload_n 2, 1) := by decide +kernel
theorem d_R_fair_8 : decode b_R_fair 8 = .ok (.iconst 0, 1) := by decide +kernel
theorem d_R_fair_9 : decode b_R_fair 9 = .ok (.iconst 2, 1) := by decide +kernel
theorem d_R_fair_10 : decode b_R_fair 10 = .ok (.invokestatic 97, 3) := by decide +kernel
theorem d_R_fair_13 : decode b_R_fair 13 = .ok (.ifCond .eq 22, 3) := by decide +kernel
theorem d_R_fair_16 : decode b_R_fair 16 = .ok (.iload_n 3, 1) := by decide +kernel
theorem d_R_fair_17 : decode b_R_fair 17 = .ok (.iconst 0, 1) := by decide +kernel
theorem d_R_fair_18 : decode b_R_fair 18 = .ok (.iconst 1, 1) := by decide +kernel
theorem d_R_fair_19 : decode b_R_fair 19 = .ok (.invokestatic 97, 3) := by decide +kernel
theorem d_R_fair_22 : decode b_R_fair 22 = .ok (.ifCond .eq 13, 3) := by decide +kernel
theorem d_R_fair_25 : decode b_R_fair 25 = .ok (.aload_n 0, 1) := by decide +kernel
theorem d_R_fair_26 : decode b_R_fair 26 = .ok (.iload_n 1, 1) := by decide +kernel
theorem d_R_fair_27 : decode b_R_fair 27 = .ok (.iload_n 2, 1) := by decide +kernel
theorem d_R_fair_28 : decode b_R_fair 28 = .ok (.iload_n 3, 1) := by decide +kernel
theorem d_R_fair_29 : decode b_R_fair 29 = .ok (.invokevirtual 240, 3) := by decide +kernel
theorem d_R_fair_32 : decode b_R_fair 32 = .ok (.goto 5, 3) := by decide +kernel
theorem d_R_fair_35 : decode b_R_fair 35 = .ok (.bipush (-2), 2) := by decide +kernel
theorem d_R_fair_37 : decode b_R_fair 37 = .ok (.ireturn, 1) := by decide +kernel
theorem qm_R_240 : Cond.methodLink nC8 240 y_R_fairOf ∈ tbl := tbl_in 1207 (by decide +kernel) rfl
def wp_R_fair (σ : Hp) (a1 : Int32) (a2 : Int32) (a3 : Int32) (P : Int32 → Hp → Prop) : Prop :=
  wp_R_isDay σ a1 (fun (r1 : Int32) (t2 : Hp) => ((r1 = 0 → P (-2 : Int32) t2) ∧ (¬ r1 = 0 → wp_R_in t2 a2 (0 : Int32) (2 : Int32) (fun (r4 : Int32) (t5 : Hp) => ((r4 = 0 → P (-2 : Int32) t5) ∧ (¬ r4 = 0 → wp_R_in t5 a3 (0 : Int32) (1 : Int32) (fun (r7 : Int32) (t8 : Hp) => ((r7 = 0 → P (-2 : Int32) t8) ∧ (¬ r7 = 0 → wp_R_fairOf t8 a1 a2 a3 (fun (r10 : Int32) (t11 : Hp) => P r10 t11))))))))))
set_option maxHeartbeats 4000000 in
set_option maxRecDepth 100000 in
theorem w_R_fair (w : Wd) (σ : Hp) (a1 : Int32) (a2 : Int32) (a3 : Int32) (P : Int32 → Hp → Prop) (h : wp_R_fair σ a1 a2 a3 P) : CtI μR w y_R_fair b_R_fair 4 (some .int) 8 [.ref (w.1 0), .int a1, .int a2, .int a3] σ P := by
  unfold wp_R_fair at h
  refine CtI.ofV (C := nC8) (lo := [some (.ref (w.1 0)), some (.int a1), some (.int a2), some (.int a3)]) exR (by decide +kernel) rfl rfl rfl (fun κ hC hR => ?_)
  refine V.iload_n hC d_R_fair_0 rfl rfl ?_
  refine V.callSI hC exR (w_R_isDay w σ a1 _ h) d_R_fair_1 mo_R_isDay qm_R_151 rfl rfl rfl rfl (Nat.le_of_ble_eq_true rfl) (fun r1 t2 h => ?_)
  refine V.if_eq (tgt := 35) hC d_R_fair_4 (by decide) (fun c3 => ?_) (fun c3 => ?_)
  · replace h := h.1 c3
    refine V.bipush (v := -2) hC d_R_fair_35 (by decide) ?_
    exact hR _ _ _ _ h rfl d_R_fair_37
  · replace h := h.2 c3
    refine V.iload_n hC d_R_fair_7 rfl rfl ?_
    refine V.iconst (v := 0) hC d_R_fair_8 (by decide) ?_
    refine V.iconst (v := 2) hC d_R_fair_9 (by decide) ?_
    refine V.callSI hC exR (w_R_in w t2 a2 (0 : Int32) (2 : Int32) _ h) d_R_fair_10 mo_R_in qm_R_97 rfl rfl rfl rfl (Nat.le_of_ble_eq_true rfl) (fun r4 t5 h => ?_)
    refine V.if_eq (tgt := 35) hC d_R_fair_13 (by decide) (fun c6 => ?_) (fun c6 => ?_)
    · replace h := h.1 c6
      refine V.bipush (v := -2) hC d_R_fair_35 (by decide) ?_
      exact hR _ _ _ _ h rfl d_R_fair_37
    · replace h := h.2 c6
      refine V.iload_n hC d_R_fair_16 rfl rfl ?_
      refine V.iconst (v := 0) hC d_R_fair_17 (by decide) ?_
      refine V.iconst (v := 1) hC d_R_fair_18 (by decide) ?_
      refine V.callSI hC exR (w_R_in w t5 a3 (0 : Int32) (1 : Int32) _ h) d_R_fair_19 mo_R_in qm_R_97 rfl rfl rfl rfl (Nat.le_of_ble_eq_true rfl) (fun r7 t8 h => ?_)
      refine V.if_eq (tgt := 35) hC d_R_fair_22 (by decide) (fun c9 => ?_) (fun c9 => ?_)
      · replace h := h.1 c9
        refine V.bipush (v := -2) hC d_R_fair_35 (by decide) ?_
        exact hR _ _ _ _ h rfl d_R_fair_37
      · replace h := h.2 c9
        refine V.aload_n hC d_R_fair_25 rfl rfl ?_
        refine V.iload_n hC d_R_fair_26 rfl rfl ?_
        refine V.iload_n hC d_R_fair_27 rfl rfl ?_
        refine V.iload_n hC d_R_fair_28 rfl rfl ?_
        refine V.callVI hC exR (w_R_fairOf w t8 a1 a2 a3 _ h) d_R_fair_29 mo_R_fairOf qm_R_240 rfl rfl rfl rfl rfl rfl rfl (Nat.le_of_ble_eq_true rfl) (fun r10 t11 h => ?_)
        refine V.goto (tgt := 37) hC d_R_fair_32 (by decide) ?_
        exact hR _ _ _ _ h rfl d_R_fair_37
abbrev b_R_isWell : ByteArray := prog_10_method_63_code
def y_R_isWell : MethodName := ⟨nC8, "isWell", "(II)Z"⟩
theorem d_R_isWell_0 : decode b_R_isWell 0 = .ok (.aload_n 0, 1) := by decide +kernel
theorem d_R_isWell_1 : decode b_R_isWell 1 = .ok (.iload_n 2, 1) := by decide +kernel
theorem d_R_isWell_2 : decode b_R_isWell 2 = .ok (.putfield 176, 3) := by decide +kernel
theorem d_R_isWell_5 : decode b_R_isWell 5 = .ok (.aload_n 0, 1) := by decide +kernel
theorem d_R_isWell_6 : decode b_R_isWell 6 = .ok (.invokevirtual 186, 3) := by decide +kernel
theorem d_R_isWell_9 : decode b_R_isWell 9 = .ok (.aload_n 0, 1) := by decide +kernel
theorem d_R_isWell_10 : decode b_R_isWell 10 = .ok (.invokevirtual 215, 3) := by decide +kernel
theorem d_R_isWell_13 : decode b_R_isWell 13 = .ok (.iconst 0, 1) := by decide +kernel
theorem d_R_isWell_14 : decode b_R_isWell 14 = .ok (.istore_n 3, 1) := by decide +kernel
theorem d_R_isWell_15 : decode b_R_isWell 15 = .ok (.iload_n 3, 1) := by decide +kernel
theorem d_R_isWell_16 : decode b_R_isWell 16 = .ok (.iload_n 1, 1) := by decide +kernel
theorem d_R_isWell_17 : decode b_R_isWell 17 = .ok (.if_icmp .gt 52, 3) := by decide +kernel
theorem d_R_isWell_20 : decode b_R_isWell 20 = .ok (.aload_n 0, 1) := by decide +kernel
theorem d_R_isWell_21 : decode b_R_isWell 21 = .ok (.iload_n 3, 1) := by decide +kernel
theorem d_R_isWell_22 : decode b_R_isWell 22 = .ok (.invokevirtual 218, 3) := by decide +kernel
theorem d_R_isWell_25 : decode b_R_isWell 25 = .ok (.iconst 0, 1) := by decide +kernel
theorem d_R_isWell_26 : decode b_R_isWell 26 = .ok (.istore 4, 2) := by decide +kernel
theorem d_R_isWell_28 : decode b_R_isWell 28 = .ok (.iload 4, 2) := by decide +kernel
theorem d_R_isWell_30 : decode b_R_isWell 30 = .ok (.aload_n 0, 1) := by decide +kernel
theorem d_R_isWell_31 : decode b_R_isWell 31 = .ok (.getfield 116, 3) := by decide +kernel
theorem d_R_isWell_34 : decode b_R_isWell 34 = .ok (.if_icmp .ge 29, 3) := by decide +kernel
theorem d_R_isWell_37 : decode b_R_isWell 37 = .ok (.aload_n 0, 1) := by decide +kernel
theorem d_R_isWell_38 : decode b_R_isWell 38 = .ok (.getfield 59, 3) := by decide +kernel
theorem d_R_isWell_41 : decode b_R_isWell 41 = .ok (.iload 4, 2) := by decide +kernel
theorem d_R_isWell_43 : decode b_R_isWell 43 = .ok (.iaload, 1) := by decide +kernel
theorem d_R_isWell_44 : decode b_R_isWell 44 = .ok (.aload_n 0, 1) := by decide +kernel
theorem d_R_isWell_45 : decode b_R_isWell 45 = .ok (.getfield 25, 3) := by decide +kernel
theorem d_R_isWell_48 : decode b_R_isWell 48 = .ok (.iload 4, 2) := by decide +kernel
theorem d_R_isWell_50 : decode b_R_isWell 50 = .ok (.iaload, 1) := by decide +kernel
theorem d_R_isWell_51 : decode b_R_isWell 51 = .ok (.ineg, 1) := by decide +kernel
theorem d_R_isWell_52 : decode b_R_isWell 52 = .ok (.if_icmp .ge 5, 3) := by decide +kernel
theorem d_R_isWell_55 : decode b_R_isWell 55 = .ok (.iconst 0, 1) := by decide +kernel
theorem d_R_isWell_56 : decode b_R_isWell 56 = .ok (.ireturn, 1) := by decide +kernel
theorem d_R_isWell_57 : decode b_R_isWell 57 = .ok (.iinc 4 1, 3) := by decide +kernel
theorem d_R_isWell_60 : decode b_R_isWell 60 = .ok (.goto (-32), 3) := by decide +kernel
theorem d_R_isWell_63 : decode b_R_isWell 63 = .ok (.iinc 3 1, 3) := by decide +kernel
theorem d_R_isWell_66 : decode b_R_isWell 66 = .ok (.goto (-51), 3) := by decide +kernel
theorem d_R_isWell_69 : decode b_R_isWell 69 = .ok (.iconst 1, 1) := by decide +kernel
theorem d_R_isWell_70 : decode b_R_isWell 70 = .ok (.ireturn, 1) := by decide +kernel
theorem mo_R_isWell : MokV y_R_isWell b_R_isWell 5 (some .boolean) 2 := ⟨⟨(tbl_in 1222 (by decide +kernel) rfl), (tbl_in 70 (by decide +kernel) rfl)⟩, ⟨(tbl_in 1221 (by decide +kernel) rfl), tbl_lw _ (tbl_in 47 (by decide +kernel) rfl), (tbl_in 47 (by decide +kernel) rfl)⟩, ⟨by decide +kernel, by decide +kernel⟩, by decide +kernel⟩
def b_R_isWell_28_ (P : Int32 → Hp → Prop) (I15 : Hp → Int32 → Int32 → Prop) (I28 : Hp → Int32 → Int32 → Int32 → Prop) (σ : Hp) (x1 : Int32) (x3 : Int32) (x4 : Int32) : Prop :=
  (((σ 0 2) ≤ x4 → (∀ v2 : Int32, v2 = x3 + (1 : Int32) → I15 σ x1 v2)) ∧ (¬ (σ 0 2) ≤ x4 → (vp_in x4 8) ∧ (vp_in x4 9) ∧ (((-(σ 6 (ix x4))) ≤ (σ 17 (ix x4)) → (∀ v6 : Int32, v6 = x4 + (1 : Int32) → I28 σ x1 x3 v6)) ∧ (¬ (-(σ 6 (ix x4))) ≤ (σ 17 (ix x4)) → P (0 : Int32) σ))))
def j_R_isWell_28 (P : Int32 → Hp → Prop) (I15 : Hp → Int32 → Int32 → Prop) (σ : Hp) (x1 : Int32) (x3 : Int32) (x4 : Int32) : Prop := ∀ I28 : Hp → Int32 → Int32 → Int32 → Prop, (∀ (σ : Hp) (x1 : Int32) (x3 : Int32) (x4 : Int32), b_R_isWell_28_  P I15 I28 σ x1 x3 x4 → I28 σ x1 x3 x4) → I28 σ x1 x3 x4
def b_R_isWell_15_ (P : Int32 → Hp → Prop)  (I15 : Hp → Int32 → Int32 → Prop) (σ : Hp) (x1 : Int32) (x3 : Int32) : Prop :=
  ((x1 < x3 → P (1 : Int32) σ) ∧ (¬ x1 < x3 → wp_R_goesBy σ x3 (fun (t9 : Hp) => j_R_isWell_28 P I15 t9 x1 x3 (0 : Int32))))
def j_R_isWell_15 (P : Int32 → Hp → Prop)  (σ : Hp) (x1 : Int32) (x3 : Int32) : Prop := ∀ I15 : Hp → Int32 → Int32 → Prop, (∀ (σ : Hp) (x1 : Int32) (x3 : Int32), b_R_isWell_15_  P  I15 σ x1 x3 → I15 σ x1 x3) → I15 σ x1 x3
def wp_R_isWell (σ : Hp) (a1 : Int32) (a2 : Int32) (P : Int32 → Hp → Prop) : Prop :=
  wp_R_lays (st σ 0 17 a2) (fun (t11 : Hp) => wp_R_noPurses t11 (fun (t13 : Hp) => j_R_isWell_15 P t13 a1 (0 : Int32)))
set_option maxHeartbeats 4000000 in
set_option maxRecDepth 100000 in
theorem wj_R_isWell_28 {w : Wd} {κ : Kx} {P : Int32 → Hp → Prop} (hC : Cx μR w 5 κ nC8 b_R_isWell 2) (hR : RtI μR w 5 κ b_R_isWell .boolean P) {I15 : Hp → Int32 → Int32 → Prop} (hI15 : ∀ σ x1 x3, I15 σ x1 x3 → V μR w 5 κ σ [some (.ref (w.1 0)), some (.int x1), none, some (.int x3), none] 15 []) : ∀ (σ : Hp) (x1 : Int32) (x3 : Int32) (x4 : Int32), j_R_isWell_28  P I15 σ x1 x3 x4 → V μR w 5 κ σ [some (.ref (w.1 0)), some (.int x1), none, some (.int x3), some (.int x4)] 28 [] := by
  intro σ x1 x3 x4 h
  refine h (fun σ x1 x3 x4 => V μR w 5 κ σ [some (.ref (w.1 0)), some (.int x1), none, some (.int x3), some (.int x4)] 28 []) (fun σ x1 x3 x4 h => ?_)
  unfold b_R_isWell_28_ at h
  refine V.iload hC d_R_isWell_28 rfl ?_
  refine V.aload_n hC d_R_isWell_30 rfl rfl ?_
  refine V.getI (j := 2) hC d_R_isWell_31 rfl rfl uC8 rfl rfl qf_R_116 ?_
  refine V.icmp_ge (tgt := 63) hC d_R_isWell_34 (by decide) (fun c1 => ?_) (fun c1 => ?_)
  · replace h := h.1 c1
    obtain ⟨v2, ev2⟩ : ∃ y : Int32, y = x3 + (1 : Int32) := ⟨_, rfl⟩
    replace h := h v2 ev2
    refine V.iinc (y := v2) (lo' := [some (.ref (w.1 0)), some (.int x1), none, some (.int v2), some (.int x4)]) hC d_R_isWell_63 rfl rfl (show v2 = _ + Int32.ofInt (1) from ev2) rfl ?_
    refine V.goto (tgt := 15) hC d_R_isWell_66 (by decide) ?_
    exact V.msk [true, true, false, true, false] rfl (hI15 σ x1 v2 h)
  · replace h := h.2 c1
    refine V.aload_n hC d_R_isWell_37 rfl rfl ?_
    refine V.getR (j := 21) hC d_R_isWell_38 rfl rfl uC8 rfl rfl qf_R_59 ?_
    refine V.iload hC d_R_isWell_41 rfl ?_
    obtain ⟨b3, h⟩ := h
    refine V.iald hC d_R_isWell_43 rfl b3 ?_
    refine V.aload_n hC d_R_isWell_44 rfl rfl ?_
    refine V.getR (j := 6) hC d_R_isWell_45 rfl rfl uC8 rfl rfl qf_R_25 ?_
    refine V.iload hC d_R_isWell_48 rfl ?_
    obtain ⟨b4, h⟩ := h
    refine V.iald hC d_R_isWell_50 rfl b4 ?_
    refine V.ineg hC d_R_isWell_51 ?_
    refine V.icmp_ge (tgt := 57) hC d_R_isWell_52 (by decide) (fun c5 => ?_) (fun c5 => ?_)
    · replace h := h.1 c5
      obtain ⟨v6, ev6⟩ : ∃ y : Int32, y = x4 + (1 : Int32) := ⟨_, rfl⟩
      replace h := h v6 ev6
      refine V.iinc (y := v6) (lo' := [some (.ref (w.1 0)), some (.int x1), none, some (.int x3), some (.int v6)]) hC d_R_isWell_57 rfl rfl (show v6 = _ + Int32.ofInt (1) from ev6) rfl ?_
      refine V.goto (tgt := 28) hC d_R_isWell_60 (by decide) ?_
      exact V.msk [true, true, false, true, true] rfl h
    · replace h := h.2 c5
      refine V.iconst (v := 0) hC d_R_isWell_55 (by decide) ?_
      exact hR _ _ _ _ h (by decide) d_R_isWell_56
set_option maxHeartbeats 4000000 in
set_option maxRecDepth 100000 in
theorem wj_R_isWell_15 {w : Wd} {κ : Kx} {P : Int32 → Hp → Prop} (hC : Cx μR w 5 κ nC8 b_R_isWell 2) (hR : RtI μR w 5 κ b_R_isWell .boolean P)  : ∀ (σ : Hp) (x1 : Int32) (x3 : Int32), j_R_isWell_15  P  σ x1 x3 → V μR w 5 κ σ [some (.ref (w.1 0)), some (.int x1), none, some (.int x3), none] 15 [] := by
  intro σ x1 x3 h
  refine h (fun σ x1 x3 => V μR w 5 κ σ [some (.ref (w.1 0)), some (.int x1), none, some (.int x3), none] 15 []) (fun σ x1 x3 h => ?_)
  unfold b_R_isWell_15_ at h
  refine V.iload_n hC d_R_isWell_15 rfl rfl ?_
  refine V.iload_n hC d_R_isWell_16 rfl rfl ?_
  refine V.icmp_gt (tgt := 69) hC d_R_isWell_17 (by decide) (fun c7 => ?_) (fun c7 => ?_)
  · replace h := h.1 c7
    refine V.iconst (v := 1) hC d_R_isWell_69 (by decide) ?_
    exact hR _ _ _ _ h (by decide) d_R_isWell_70
  · replace h := h.2 c7
    refine V.aload_n hC d_R_isWell_20 rfl rfl ?_
    refine V.iload_n hC d_R_isWell_21 rfl rfl ?_
    refine V.callVN hC exR (w_R_goesBy w σ x3 _ h) d_R_isWell_22 mo_R_goesBy qm_R_218 rfl rfl rfl rfl rfl rfl rfl (Nat.le_of_ble_eq_true rfl) (fun t9 h => ?_)
    refine V.iconst (v := 0) hC d_R_isWell_25 (by decide) ?_
    refine V.istore (y := (0 : Int32)) (lo' := [some (.ref (w.1 0)), some (.int x1), none, some (.int x3), some (.int (0 : Int32))]) hC d_R_isWell_26 rfl rfl rfl ?_
    exact V.msk [true, true, false, true, true] rfl (wj_R_isWell_28  hC hR (fun _ _ _ h => h) t9 x1 x3 (0 : Int32) h)
set_option maxHeartbeats 4000000 in
set_option maxRecDepth 100000 in
theorem w_R_isWell (w : Wd) (σ : Hp) (a1 : Int32) (a2 : Int32) (P : Int32 → Hp → Prop) (h : wp_R_isWell σ a1 a2 P) : CtI μR w y_R_isWell b_R_isWell 5 (some .boolean) 2 [.ref (w.1 0), .int a1, .int a2] σ P := by
  unfold wp_R_isWell at h
  refine CtI.ofV (C := nC8) (lo := [some (.ref (w.1 0)), some (.int a1), some (.int a2), none, none]) exR (by decide +kernel) rfl rfl rfl (fun κ hC hR => ?_)
  refine V.aload_n hC d_R_isWell_0 rfl rfl ?_
  refine V.iload_n hC d_R_isWell_1 rfl rfl ?_
  refine V.put (j := 17) hC d_R_isWell_2 rfl rfl uC8 pC8 dC8 rfl rfl rfl rfl rfl qf_R_176 ?_
  refine V.aload_n hC d_R_isWell_5 rfl rfl ?_
  refine V.callVN hC exR (w_R_lays w (st σ 0 17 a2)  _ h) d_R_isWell_6 mo_R_lays qm_R_186 rfl rfl rfl rfl rfl rfl rfl (Nat.le_of_ble_eq_true rfl) (fun t11 h => ?_)
  refine V.aload_n hC d_R_isWell_9 rfl rfl ?_
  refine V.callVN hC exR (w_R_noPurses w t11  _ h) d_R_isWell_10 mo_R_noPurses qm_R_215 rfl rfl rfl rfl rfl rfl rfl (Nat.le_of_ble_eq_true rfl) (fun t13 h => ?_)
  refine V.iconst (v := 0) hC d_R_isWell_13 (by decide) ?_
  refine V.istore_n (y := (0 : Int32)) (lo' := [some (.ref (w.1 0)), some (.int a1), some (.int a2), some (.int (0 : Int32)), none]) hC d_R_isWell_14 rfl rfl rfl rfl ?_
  exact V.msk [true, true, false, true, false] rfl (wj_R_isWell_15  hC hR  t13 a1 (0 : Int32) h)
abbrev b_R_dropBy : ByteArray := prog_10_method_64_code
def y_R_dropBy : MethodName := ⟨nC8, "dropBy", "(I)I"⟩
theorem d_R_dropBy_0 : decode b_R_dropBy 0 = .ok (.aload_n 0, 1) := by decide +kernel
theorem d_R_dropBy_1 : decode b_R_dropBy 1 = .ok (.invokevirtual 183, 3) := by decide +kernel
theorem d_R_dropBy_4 : decode b_R_dropBy 4 = .ok (.aload_n 0, 1) := by decide +kernel
theorem d_R_dropBy_5 : decode b_R_dropBy 5 = .ok (.iload_n 1, 1) := by decide +kernel
theorem d_R_dropBy_6 : decode b_R_dropBy 6 = .ok (.iconst 0, 1) := by decide +kernel
theorem d_R_dropBy_7 : decode b_R_dropBy 7 = .ok (.invokevirtual 243, 3) := by decide +kernel
theorem d_R_dropBy_10 : decode b_R_dropBy 10 = .ok (.ifCond .eq 5, 3) := by decide +kernel
theorem d_R_dropBy_13 : decode b_R_dropBy 13 = .ok (.iconst 0, 1) := by decide +kernel
theorem d_R_dropBy_14 : decode b_R_dropBy 14 = .ok (.ireturn, 1) := by decide +kernel
theorem d_R_dropBy_15 : decode b_R_dropBy 15 = .ok (.iconst 0, 1) := by decide +kernel
theorem d_R_dropBy_16 : decode b_R_dropBy 16 = .ok (.istore_n 2, 1) := by decide +kernel
theorem d_R_dropBy_17 : decode b_R_dropBy 17 = .ok (.iload_n 2, 1) := by decide +kernel
theorem d_R_dropBy_18 : decode b_R_dropBy 18 = .ok (.aload_n 0, 1) := by decide +kernel
theorem d_R_dropBy_19 : decode b_R_dropBy 19 = .ok (.getfield 157, 3) := by decide +kernel
theorem d_R_dropBy_22 : decode b_R_dropBy 22 = .ok (.if_icmp .ge 29, 3) := by decide +kernel
theorem d_R_dropBy_25 : decode b_R_dropBy 25 = .ok (.aload_n 0, 1) := by decide +kernel
theorem d_R_dropBy_26 : decode b_R_dropBy 26 = .ok (.getfield 65, 3) := by decide +kernel
theorem d_R_dropBy_29 : decode b_R_dropBy 29 = .ok (.iconst 0, 1) := by decide +kernel
theorem d_R_dropBy_30 : decode b_R_dropBy 30 = .ok (.iload_n 2, 1) := by decide +kernel
theorem d_R_dropBy_31 : decode b_R_dropBy 31 = .ok (.iastore, 1) := by decide +kernel
theorem d_R_dropBy_32 : decode b_R_dropBy 32 = .ok (.aload_n 0, 1) := by decide +kernel
theorem d_R_dropBy_33 : decode b_R_dropBy 33 = .ok (.iload_n 1, 1) := by decide +kernel
theorem d_R_dropBy_34 : decode b_R_dropBy 34 = .ok (.iconst 1, 1) := by decide +kernel
theorem d_R_dropBy_35 : decode b_R_dropBy 35 = .ok (.iload_n 2, 1) := by decide +kernel
theorem d_R_dropBy_36 : decode b_R_dropBy 36 = .ok (.ishl, 1) := by decide +kernel
theorem d_R_dropBy_37 : decode b_R_dropBy 37 = .ok (.invokevirtual 243, 3) := by decide +kernel
theorem d_R_dropBy_40 : decode b_R_dropBy 40 = .ok (.ifCond .eq 5, 3) := by decide +kernel
theorem d_R_dropBy_43 : decode b_R_dropBy 43 = .ok (.iconst 1, 1) := by decide +kernel
theorem d_R_dropBy_44 : decode b_R_dropBy 44 = .ok (.ireturn, 1) := by decide +kernel
theorem d_R_dropBy_45 : decode b_R_dropBy 45 = .ok (.iinc 2 1, 3) := by decide +kernel
theorem d_R_dropBy_48 : decode b_R_dropBy 48 = .ok (.goto (-31), 3) := by decide +kernel
theorem d_R_dropBy_51 : decode b_R_dropBy 51 = .ok (.iconst 0, 1) := by decide +kernel
theorem d_R_dropBy_52 : decode b_R_dropBy 52 = .ok (.istore_n 2, 1) := by decide +kernel
theorem d_R_dropBy_53 : decode b_R_dropBy 53 = .ok (.iload_n 2, 1) := by decide +kernel
theorem d_R_dropBy_54 : decode b_R_dropBy 54 = .ok (.aload_n 0, 1) := by decide +kernel
theorem d_R_dropBy_55 : decode b_R_dropBy 55 = .ok (.getfield 157, 3) := by decide +kernel
theorem d_R_dropBy_58 : decode b_R_dropBy 58 = .ok (.if_icmp .ge 58, 3) := by decide +kernel
theorem d_R_dropBy_61 : decode b_R_dropBy 61 = .ok (.iload_n 2, 1) := by decide +kernel
theorem d_R_dropBy_62 : decode b_R_dropBy 62 = .ok (.iconst 1, 1) := by decide +kernel
theorem d_R_dropBy_63 : decode b_R_dropBy 63 = .ok (.iadd, 1) := by decide +kernel
theorem d_R_dropBy_64 : decode b_R_dropBy 64 = .ok (.istore_n 3, 1) := by decide +kernel
theorem d_R_dropBy_65 : decode b_R_dropBy 65 = .ok (.iload_n 3, 1) := by decide +kernel
theorem d_R_dropBy_66 : decode b_R_dropBy 66 = .ok (.aload_n 0, 1) := by decide +kernel
theorem d_R_dropBy_67 : decode b_R_dropBy 67 = .ok (.getfield 157, 3) := by decide +kernel
theorem d_R_dropBy_70 : decode b_R_dropBy 70 = .ok (.if_icmp .ge 40, 3) := by decide +kernel
theorem d_R_dropBy_73 : decode b_R_dropBy 73 = .ok (.aload_n 0, 1) := by decide +kernel
theorem d_R_dropBy_74 : decode b_R_dropBy 74 = .ok (.getfield 65, 3) := by decide +kernel
theorem d_R_dropBy_77 : decode b_R_dropBy 77 = .ok (.iconst 0, 1) := by decide +kernel
theorem d_R_dropBy_78 : decode b_R_dropBy 78 = .ok (.iload_n 2, 1) := by decide +kernel
theorem d_R_dropBy_79 : decode b_R_dropBy 79 = .ok (.iastore, 1) := by decide +kernel
theorem d_R_dropBy_80 : decode b_R_dropBy 80 = .ok (.aload_n 0, 1) := by decide +kernel
theorem d_R_dropBy_81 : decode b_R_dropBy 81 = .ok (.getfield 65, 3) := by decide +kernel
theorem d_R_dropBy_84 : decode b_R_dropBy 84 = .ok (.iconst 1, 1) := by decide +kernel
theorem d_R_dropBy_85 : decode b_R_dropBy 85 = .ok (.iload_n 3, 1) := by decide +kernel
theorem d_R_dropBy_86 : decode b_R_dropBy 86 = .ok (.iastore, 1) := by decide +kernel
theorem d_R_dropBy_87 : decode b_R_dropBy 87 = .ok (.aload_n 0, 1) := by decide +kernel
theorem d_R_dropBy_88 : decode b_R_dropBy 88 = .ok (.iload_n 1, 1) := by decide +kernel
theorem d_R_dropBy_89 : decode b_R_dropBy 89 = .ok (.iconst 1, 1) := by decide +kernel
theorem d_R_dropBy_90 : decode b_R_dropBy 90 = .ok (.iload_n 2, 1) := by decide +kernel
theorem d_R_dropBy_91 : decode b_R_dropBy 91 = .ok (.ishl, 1) := by decide +kernel
theorem d_R_dropBy_92 : decode b_R_dropBy 92 = .ok (.iconst 1, 1) := by decide +kernel
theorem d_R_dropBy_93 : decode b_R_dropBy 93 = .ok (.iload_n 3, 1) := by decide +kernel
theorem d_R_dropBy_94 : decode b_R_dropBy 94 = .ok (.ishl, 1) := by decide +kernel
theorem d_R_dropBy_95 : decode b_R_dropBy 95 = .ok (.ior, 1) := by decide +kernel
theorem d_R_dropBy_96 : decode b_R_dropBy 96 = .ok (.invokevirtual 243, 3) := by decide +kernel
theorem d_R_dropBy_99 : decode b_R_dropBy 99 = .ok (.ifCond .eq 5, 3) := by decide +kernel
theorem d_R_dropBy_102 : decode b_R_dropBy 102 = .ok (.iconst 2, 1) := by decide +kernel
theorem d_R_dropBy_103 : decode b_R_dropBy 103 = .ok (.ireturn, 1) := by decide +kernel
theorem d_R_dropBy_104 : decode b_R_dropBy 104 = .ok (.iinc 3 1, 3) := by decide +kernel
theorem d_R_dropBy_107 : decode b_R_dropBy 107 = .ok (.goto (-42), 3) := by decide +kernel
theorem d_R_dropBy_110 : decode b_R_dropBy 110 = .ok (.iinc 2 1, 3) := by decide +kernel
theorem d_R_dropBy_113 : decode b_R_dropBy 113 = .ok (.goto (-60), 3) := by decide +kernel
theorem d_R_dropBy_116 : decode b_R_dropBy 116 = .ok (.iconst (-1), 1) := by decide +kernel
theorem d_R_dropBy_117 : decode b_R_dropBy 117 = .ok (.ireturn, 1) := by decide +kernel
theorem qf_R_65 : Cond.fieldLink nC8 65 (fC8 23).1 (fC8 23).2.1 (fC8 23).2.2.1 ∈ tbl := tbl_in 891 (by decide +kernel) rfl
theorem qm_R_243 : Cond.methodLink nC8 243 y_R_isWell ∈ tbl := tbl_in 1219 (by decide +kernel) rfl
theorem mo_R_dropBy : MokV y_R_dropBy b_R_dropBy 4 (some .int) 1 := ⟨⟨(tbl_in 1218 (by decide +kernel) rfl), (tbl_in 70 (by decide +kernel) rfl)⟩, ⟨(tbl_in 1217 (by decide +kernel) rfl), tbl_lw _ (tbl_in 46 (by decide +kernel) rfl), (tbl_in 46 (by decide +kernel) rfl)⟩, ⟨by decide +kernel, by decide +kernel⟩, by decide +kernel⟩
def b_R_dropBy_65_ (P : Int32 → Hp → Prop) (I53 : Hp → Int32 → Int32 → Prop) (I65 : Hp → Int32 → Int32 → Int32 → Prop) (σ : Hp) (x1 : Int32) (x2 : Int32) (x3 : Int32) : Prop :=
  (((σ 0 10) ≤ x3 → (∀ v2 : Int32, v2 = x2 + (1 : Int32) → I53 σ x1 v2)) ∧ (¬ (σ 0 10) ≤ x3 → (vp_in (0 : Int32) 2) ∧ (vp_in (1 : Int32) 2) ∧ wp_R_isWell (st (st σ 19 (ix (0 : Int32)) x2) 19 (ix (1 : Int32)) x3) x1 (((1 : Int32) <<< (x2 &&& 31)) ||| ((1 : Int32) <<< (x3 &&& 31))) (fun (r5 : Int32) (t6 : Hp) => ((r5 = 0 → (∀ v8 : Int32, v8 = x3 + (1 : Int32) → I65 t6 x1 x2 v8)) ∧ (¬ r5 = 0 → P (2 : Int32) t6)))))
def j_R_dropBy_65 (P : Int32 → Hp → Prop) (I53 : Hp → Int32 → Int32 → Prop) (σ : Hp) (x1 : Int32) (x2 : Int32) (x3 : Int32) : Prop := ∀ I65 : Hp → Int32 → Int32 → Int32 → Prop, (∀ (σ : Hp) (x1 : Int32) (x2 : Int32) (x3 : Int32), b_R_dropBy_65_  P I53 I65 σ x1 x2 x3 → I65 σ x1 x2 x3) → I65 σ x1 x2 x3
def b_R_dropBy_53_ (P : Int32 → Hp → Prop)  (I53 : Hp → Int32 → Int32 → Prop) (σ : Hp) (x1 : Int32) (x2 : Int32) : Prop :=
  (((σ 0 10) ≤ x2 → P (-1 : Int32) σ) ∧ (¬ (σ 0 10) ≤ x2 → (∀ v10 : Int32, v10 = x2 + (1 : Int32) → j_R_dropBy_65 P I53 σ x1 x2 v10)))
def j_R_dropBy_53 (P : Int32 → Hp → Prop)  (σ : Hp) (x1 : Int32) (x2 : Int32) : Prop := ∀ I53 : Hp → Int32 → Int32 → Prop, (∀ (σ : Hp) (x1 : Int32) (x2 : Int32), b_R_dropBy_53_  P  I53 σ x1 x2 → I53 σ x1 x2) → I53 σ x1 x2
def b_R_dropBy_17_ (P : Int32 → Hp → Prop)  (I17 : Hp → Int32 → Int32 → Prop) (σ : Hp) (x1 : Int32) (x2 : Int32) : Prop :=
  (((σ 0 10) ≤ x2 → j_R_dropBy_53 P σ x1 (0 : Int32)) ∧ (¬ (σ 0 10) ≤ x2 → (vp_in (0 : Int32) 2) ∧ wp_R_isWell (st σ 19 (ix (0 : Int32)) x2) x1 ((1 : Int32) <<< (x2 &&& 31)) (fun (r13 : Int32) (t14 : Hp) => ((r13 = 0 → (∀ v16 : Int32, v16 = x2 + (1 : Int32) → I17 t14 x1 v16)) ∧ (¬ r13 = 0 → P (1 : Int32) t14)))))
def j_R_dropBy_17 (P : Int32 → Hp → Prop)  (σ : Hp) (x1 : Int32) (x2 : Int32) : Prop := ∀ I17 : Hp → Int32 → Int32 → Prop, (∀ (σ : Hp) (x1 : Int32) (x2 : Int32), b_R_dropBy_17_  P  I17 σ x1 x2 → I17 σ x1 x2) → I17 σ x1 x2
def wp_R_dropBy (σ : Hp) (a1 : Int32) (P : Int32 → Hp → Prop) : Prop :=
  wp_R_asTold σ (fun (t18 : Hp) => wp_R_isWell t18 a1 (0 : Int32) (fun (r19 : Int32) (t20 : Hp) => ((r19 = 0 → j_R_dropBy_17 P t20 a1 (0 : Int32)) ∧ (¬ r19 = 0 → P (0 : Int32) t20))))
set_option maxHeartbeats 4000000 in
set_option maxRecDepth 100000 in
theorem wj_R_dropBy_65 {w : Wd} {κ : Kx} {P : Int32 → Hp → Prop} (hC : Cx μR w 4 κ nC8 b_R_dropBy 7) (hR : RtI μR w 4 κ b_R_dropBy .int P) {I53 : Hp → Int32 → Int32 → Prop} (hI53 : ∀ σ x1 x2, I53 σ x1 x2 → V μR w 4 κ σ [some (.ref (w.1 0)), some (.int x1), some (.int x2), none] 53 []) : ∀ (σ : Hp) (x1 : Int32) (x2 : Int32) (x3 : Int32), j_R_dropBy_65  P I53 σ x1 x2 x3 → V μR w 4 κ σ [some (.ref (w.1 0)), some (.int x1), some (.int x2), some (.int x3)] 65 [] := by
  intro σ x1 x2 x3 h
  refine h (fun σ x1 x2 x3 => V μR w 4 κ σ [some (.ref (w.1 0)), some (.int x1), some (.int x2), some (.int x3)] 65 []) (fun σ x1 x2 x3 h => ?_)
  unfold b_R_dropBy_65_ at h
  refine V.iload_n hC d_R_dropBy_65 rfl rfl ?_
  refine V.aload_n hC d_R_dropBy_66 rfl rfl ?_
  refine V.getI (j := 10) hC d_R_dropBy_67 rfl rfl uC8 rfl rfl qf_R_157 ?_
  refine V.icmp_ge (tgt := 110) hC d_R_dropBy_70 (by decide) (fun c1 => ?_) (fun c1 => ?_)
  · replace h := h.1 c1
    obtain ⟨v2, ev2⟩ : ∃ y : Int32, y = x2 + (1 : Int32) := ⟨_, rfl⟩
    replace h := h v2 ev2
    refine V.iinc (y := v2) (lo' := [some (.ref (w.1 0)), some (.int x1), some (.int v2), some (.int x3)]) hC d_R_dropBy_110 rfl rfl (show v2 = _ + Int32.ofInt (1) from ev2) rfl ?_
    refine V.goto (tgt := 53) hC d_R_dropBy_113 (by decide) ?_
    exact V.msk [true, true, true, false] rfl (hI53 σ x1 v2 h)
  · replace h := h.2 c1
    refine V.aload_n hC d_R_dropBy_73 rfl rfl ?_
    refine V.getR (j := 23) hC d_R_dropBy_74 rfl rfl uC8 rfl rfl qf_R_65 ?_
    refine V.iconst (v := 0) hC d_R_dropBy_77 (by decide) ?_
    refine V.iload_n hC d_R_dropBy_78 rfl rfl ?_
    obtain ⟨b3, h⟩ := h
    refine V.iast hC d_R_dropBy_79 rfl b3 ?_
    refine V.aload_n hC d_R_dropBy_80 rfl rfl ?_
    refine V.getR (j := 23) hC d_R_dropBy_81 rfl rfl uC8 rfl rfl qf_R_65 ?_
    refine V.iconst (v := 1) hC d_R_dropBy_84 (by decide) ?_
    refine V.iload_n hC d_R_dropBy_85 rfl rfl ?_
    obtain ⟨b4, h⟩ := h
    refine V.iast hC d_R_dropBy_86 rfl b4 ?_
    refine V.aload_n hC d_R_dropBy_87 rfl rfl ?_
    refine V.iload_n hC d_R_dropBy_88 rfl rfl ?_
    refine V.iconst (v := 1) hC d_R_dropBy_89 (by decide) ?_
    refine V.iload_n hC d_R_dropBy_90 rfl rfl ?_
    refine V.ishl hC d_R_dropBy_91 ?_
    refine V.iconst (v := 1) hC d_R_dropBy_92 (by decide) ?_
    refine V.iload_n hC d_R_dropBy_93 rfl rfl ?_
    refine V.ishl hC d_R_dropBy_94 ?_
    refine V.ior hC d_R_dropBy_95 ?_
    refine V.callVI hC exR (w_R_isWell w (st (st σ 19 (ix (0 : Int32)) x2) 19 (ix (1 : Int32)) x3) x1 (((1 : Int32) <<< (x2 &&& 31)) ||| ((1 : Int32) <<< (x3 &&& 31))) _ h) d_R_dropBy_96 mo_R_isWell qm_R_243 rfl rfl rfl rfl rfl rfl rfl (Nat.le_of_ble_eq_true rfl) (fun r5 t6 h => ?_)
    refine V.if_eq (tgt := 104) hC d_R_dropBy_99 (by decide) (fun c7 => ?_) (fun c7 => ?_)
    · replace h := h.1 c7
      obtain ⟨v8, ev8⟩ : ∃ y : Int32, y = x3 + (1 : Int32) := ⟨_, rfl⟩
      replace h := h v8 ev8
      refine V.iinc (y := v8) (lo' := [some (.ref (w.1 0)), some (.int x1), some (.int x2), some (.int v8)]) hC d_R_dropBy_104 rfl rfl (show v8 = _ + Int32.ofInt (1) from ev8) rfl ?_
      refine V.goto (tgt := 65) hC d_R_dropBy_107 (by decide) ?_
      exact V.msk [true, true, true, true] rfl h
    · replace h := h.2 c7
      refine V.iconst (v := 2) hC d_R_dropBy_102 (by decide) ?_
      exact hR _ _ _ _ h rfl d_R_dropBy_103
set_option maxHeartbeats 4000000 in
set_option maxRecDepth 100000 in
theorem wj_R_dropBy_53 {w : Wd} {κ : Kx} {P : Int32 → Hp → Prop} (hC : Cx μR w 4 κ nC8 b_R_dropBy 7) (hR : RtI μR w 4 κ b_R_dropBy .int P)  : ∀ (σ : Hp) (x1 : Int32) (x2 : Int32), j_R_dropBy_53  P  σ x1 x2 → V μR w 4 κ σ [some (.ref (w.1 0)), some (.int x1), some (.int x2), none] 53 [] := by
  intro σ x1 x2 h
  refine h (fun σ x1 x2 => V μR w 4 κ σ [some (.ref (w.1 0)), some (.int x1), some (.int x2), none] 53 []) (fun σ x1 x2 h => ?_)
  unfold b_R_dropBy_53_ at h
  refine V.iload_n hC d_R_dropBy_53 rfl rfl ?_
  refine V.aload_n hC d_R_dropBy_54 rfl rfl ?_
  refine V.getI (j := 10) hC d_R_dropBy_55 rfl rfl uC8 rfl rfl qf_R_157 ?_
  refine V.icmp_ge (tgt := 116) hC d_R_dropBy_58 (by decide) (fun c9 => ?_) (fun c9 => ?_)
  · replace h := h.1 c9
    refine V.iconst (v := -1) hC d_R_dropBy_116 (by decide) ?_
    exact hR _ _ _ _ h rfl d_R_dropBy_117
  · replace h := h.2 c9
    refine V.iload_n hC d_R_dropBy_61 rfl rfl ?_
    refine V.iconst (v := 1) hC d_R_dropBy_62 (by decide) ?_
    refine V.iadd hC d_R_dropBy_63 ?_
    obtain ⟨v10, ev10⟩ : ∃ y : Int32, y = x2 + (1 : Int32) := ⟨_, rfl⟩
    replace h := h v10 ev10
    refine V.istore_n (y := v10) (lo' := [some (.ref (w.1 0)), some (.int x1), some (.int x2), some (.int v10)]) hC d_R_dropBy_64 rfl rfl ev10 rfl ?_
    exact V.msk [true, true, true, true] rfl (wj_R_dropBy_65  hC hR (fun _ _ _ h => h) σ x1 x2 v10 h)
set_option maxHeartbeats 4000000 in
set_option maxRecDepth 100000 in
theorem wj_R_dropBy_17 {w : Wd} {κ : Kx} {P : Int32 → Hp → Prop} (hC : Cx μR w 4 κ nC8 b_R_dropBy 7) (hR : RtI μR w 4 κ b_R_dropBy .int P)  : ∀ (σ : Hp) (x1 : Int32) (x2 : Int32), j_R_dropBy_17  P  σ x1 x2 → V μR w 4 κ σ [some (.ref (w.1 0)), some (.int x1), some (.int x2), none] 17 [] := by
  intro σ x1 x2 h
  refine h (fun σ x1 x2 => V μR w 4 κ σ [some (.ref (w.1 0)), some (.int x1), some (.int x2), none] 17 []) (fun σ x1 x2 h => ?_)
  unfold b_R_dropBy_17_ at h
  refine V.iload_n hC d_R_dropBy_17 rfl rfl ?_
  refine V.aload_n hC d_R_dropBy_18 rfl rfl ?_
  refine V.getI (j := 10) hC d_R_dropBy_19 rfl rfl uC8 rfl rfl qf_R_157 ?_
  refine V.icmp_ge (tgt := 51) hC d_R_dropBy_22 (by decide) (fun c11 => ?_) (fun c11 => ?_)
  · replace h := h.1 c11
    refine V.iconst (v := 0) hC d_R_dropBy_51 (by decide) ?_
    refine V.istore_n (y := (0 : Int32)) (lo' := [some (.ref (w.1 0)), some (.int x1), some (.int (0 : Int32)), none]) hC d_R_dropBy_52 rfl rfl rfl rfl ?_
    exact V.msk [true, true, true, false] rfl (wj_R_dropBy_53  hC hR  σ x1 (0 : Int32) h)
  · replace h := h.2 c11
    refine V.aload_n hC d_R_dropBy_25 rfl rfl ?_
    refine V.getR (j := 23) hC d_R_dropBy_26 rfl rfl uC8 rfl rfl qf_R_65 ?_
    refine V.iconst (v := 0) hC d_R_dropBy_29 (by decide) ?_
    refine V.iload_n hC d_R_dropBy_30 rfl rfl ?_
    obtain ⟨b12, h⟩ := h
    refine V.iast hC d_R_dropBy_31 rfl b12 ?_
    refine V.aload_n hC d_R_dropBy_32 rfl rfl ?_
    refine V.iload_n hC d_R_dropBy_33 rfl rfl ?_
    refine V.iconst (v := 1) hC d_R_dropBy_34 (by decide) ?_
    refine V.iload_n hC d_R_dropBy_35 rfl rfl ?_
    refine V.ishl hC d_R_dropBy_36 ?_
    refine V.callVI hC exR (w_R_isWell w (st σ 19 (ix (0 : Int32)) x2) x1 ((1 : Int32) <<< (x2 &&& 31)) _ h) d_R_dropBy_37 mo_R_isWell qm_R_243 rfl rfl rfl rfl rfl rfl rfl (Nat.le_of_ble_eq_true rfl) (fun r13 t14 h => ?_)
    refine V.if_eq (tgt := 45) hC d_R_dropBy_40 (by decide) (fun c15 => ?_) (fun c15 => ?_)
    · replace h := h.1 c15
      obtain ⟨v16, ev16⟩ : ∃ y : Int32, y = x2 + (1 : Int32) := ⟨_, rfl⟩
      replace h := h v16 ev16
      refine V.iinc (y := v16) (lo' := [some (.ref (w.1 0)), some (.int x1), some (.int v16), none]) hC d_R_dropBy_45 rfl rfl (show v16 = _ + Int32.ofInt (1) from ev16) rfl ?_
      refine V.goto (tgt := 17) hC d_R_dropBy_48 (by decide) ?_
      exact V.msk [true, true, true, false] rfl h
    · replace h := h.2 c15
      refine V.iconst (v := 1) hC d_R_dropBy_43 (by decide) ?_
      exact hR _ _ _ _ h rfl d_R_dropBy_44
set_option maxHeartbeats 4000000 in
set_option maxRecDepth 100000 in
theorem w_R_dropBy (w : Wd) (σ : Hp) (a1 : Int32) (P : Int32 → Hp → Prop) (h : wp_R_dropBy σ a1 P) : CtI μR w y_R_dropBy b_R_dropBy 4 (some .int) 7 [.ref (w.1 0), .int a1] σ P := by
  unfold wp_R_dropBy at h
  refine CtI.ofV (C := nC8) (lo := [some (.ref (w.1 0)), some (.int a1), none, none]) exR (by decide +kernel) rfl rfl rfl (fun κ hC hR => ?_)
  refine V.aload_n hC d_R_dropBy_0 rfl rfl ?_
  refine V.callVN hC exR (w_R_asTold w σ  _ h) d_R_dropBy_1 mo_R_asTold qm_R_183 rfl rfl rfl rfl rfl rfl rfl (Nat.le_of_ble_eq_true rfl) (fun t18 h => ?_)
  refine V.aload_n hC d_R_dropBy_4 rfl rfl ?_
  refine V.iload_n hC d_R_dropBy_5 rfl rfl ?_
  refine V.iconst (v := 0) hC d_R_dropBy_6 (by decide) ?_
  refine V.callVI hC exR (w_R_isWell w t18 a1 (0 : Int32) _ h) d_R_dropBy_7 mo_R_isWell qm_R_243 rfl rfl rfl rfl rfl rfl rfl (Nat.le_of_ble_eq_true rfl) (fun r19 t20 h => ?_)
  refine V.if_eq (tgt := 15) hC d_R_dropBy_10 (by decide) (fun c21 => ?_) (fun c21 => ?_)
  · replace h := h.1 c21
    refine V.iconst (v := 0) hC d_R_dropBy_15 (by decide) ?_
    refine V.istore_n (y := (0 : Int32)) (lo' := [some (.ref (w.1 0)), some (.int a1), some (.int (0 : Int32)), none]) hC d_R_dropBy_16 rfl rfl rfl rfl ?_
    exact V.msk [true, true, true, false] rfl (wj_R_dropBy_17  hC hR  t20 a1 (0 : Int32) h)
  · replace h := h.2 c21
    refine V.iconst (v := 0) hC d_R_dropBy_13 (by decide) ?_
    exact hR _ _ _ _ h rfl d_R_dropBy_14
abbrev b_R_ofRow : ByteArray := prog_10_method_65_code
def y_R_ofRow : MethodName := ⟨nC8, "ofRow", "(II)I"⟩
theorem d_R_ofRow_0 : decode b_R_ofRow 0 = .ok (.iload_n 2, 1) := by decide +kernel
theorem d_R_ofRow_1 : decode b_R_ofRow 1 = .ok (.iconst (-1), 1) := by decide +kernel
theorem d_R_ofRow_2 : decode b_R_ofRow 2 = .ok (.if_icmp .ne 7, 3) := by decide +kernel
theorem d_R_ofRow_5 : decode b_R_ofRow 5 = .ok (.iload_n 1, 1) := by decide +kernel
theorem d_R_ofRow_6 : decode b_R_ofRow 6 = .ok (.goto 18, 3) := by decide +kernel
theorem d_R_ofRow_9 : decode b_R_ofRow 9 = .ok (.iload_n 2, 1) := by decide +kernel
theorem d_R_ofRow_10 : decode b_R_ofRow 10 = .ok (.iload_n 1, 1) := by decide +kernel
theorem d_R_ofRow_11 : decode b_R_ofRow 11 = .ok (.if_icmp .ge 12, 3) := by decide +kernel
theorem d_R_ofRow_14 : decode b_R_ofRow 14 = .ok (.aload_n 0, 1) := by decide +kernel
theorem d_R_ofRow_15 : decode b_R_ofRow 15 = .ok (.getfield 65, 3) := by decide +kernel
theorem d_R_ofRow_18 : decode b_R_ofRow 18 = .ok (.iload_n 2, 1) := by decide +kernel
theorem d_R_ofRow_19 : decode b_R_ofRow 19 = .ok (.iaload, 1) := by decide +kernel
theorem d_R_ofRow_20 : decode b_R_ofRow 20 = .ok (.goto 4, 3) := by decide +kernel
theorem d_R_ofRow_23 : decode b_R_ofRow 23 = .ok (.iconst (-1), 1) := by decide +kernel
theorem d_R_ofRow_24 : decode b_R_ofRow 24 = .ok (.ireturn, 1) := by decide +kernel
theorem mo_R_ofRow : MokV y_R_ofRow b_R_ofRow 3 (some .int) 2 := ⟨⟨(tbl_in 1226 (by decide +kernel) rfl), (tbl_in 70 (by decide +kernel) rfl)⟩, ⟨(tbl_in 1225 (by decide +kernel) rfl), tbl_lw _ (tbl_in 48 (by decide +kernel) rfl), (tbl_in 48 (by decide +kernel) rfl)⟩, ⟨by decide +kernel, by decide +kernel⟩, by decide +kernel⟩
def wp_R_ofRow (σ : Hp) (a1 : Int32) (a2 : Int32) (P : Int32 → Hp → Prop) : Prop :=
  ((¬ a2 = (-1 : Int32) → ((a1 ≤ a2 → P (-1 : Int32) σ) ∧ (¬ a1 ≤ a2 → (vp_in a2 2) ∧ P (σ 19 (ix a2)) σ))) ∧ (a2 = (-1 : Int32) → P a1 σ))
set_option maxHeartbeats 4000000 in
set_option maxRecDepth 100000 in
theorem w_R_ofRow (w : Wd) (σ : Hp) (a1 : Int32) (a2 : Int32) (P : Int32 → Hp → Prop) (h : wp_R_ofRow σ a1 a2 P) : CtI μR w y_R_ofRow b_R_ofRow 3 (some .int) 0 [.ref (w.1 0), .int a1, .int a2] σ P := by
  unfold wp_R_ofRow at h
  refine CtI.ofV (C := nC8) (lo := [some (.ref (w.1 0)), some (.int a1), some (.int a2)]) exR (by decide +kernel) rfl rfl rfl (fun κ hC hR => ?_)
  refine V.iload_n hC d_R_ofRow_0 rfl rfl ?_
  refine V.iconst (v := -1) hC d_R_ofRow_1 (by decide) ?_
  refine V.icmp_ne (tgt := 9) hC d_R_ofRow_2 (by decide) (fun c1 => ?_) (fun c1 => ?_)
  · replace h := h.1 c1
    refine V.iload_n hC d_R_ofRow_9 rfl rfl ?_
    refine V.iload_n hC d_R_ofRow_10 rfl rfl ?_
    refine V.icmp_ge (tgt := 23) hC d_R_ofRow_11 (by decide) (fun c2 => ?_) (fun c2 => ?_)
    · replace h := h.1 c2
      refine V.iconst (v := -1) hC d_R_ofRow_23 (by decide) ?_
      exact hR _ _ _ _ h rfl d_R_ofRow_24
    · replace h := h.2 c2
      refine V.aload_n hC d_R_ofRow_14 rfl rfl ?_
      refine V.getR (j := 23) hC d_R_ofRow_15 rfl rfl uC8 rfl rfl qf_R_65 ?_
      refine V.iload_n hC d_R_ofRow_18 rfl rfl ?_
      obtain ⟨b3, h⟩ := h
      refine V.iald hC d_R_ofRow_19 rfl b3 ?_
      refine V.goto (tgt := 24) hC d_R_ofRow_20 (by decide) ?_
      exact hR _ _ _ _ h rfl d_R_ofRow_24
  · replace h := h.2 c1
    refine V.iload_n hC d_R_ofRow_5 rfl rfl ?_
    refine V.goto (tgt := 24) hC d_R_ofRow_6 (by decide) ?_
    exact hR _ _ _ _ h rfl d_R_ofRow_24
abbrev b_R_drop : ByteArray := prog_10_method_66_code
def y_R_drop : MethodName := ⟨nC8, "drop", "(II)I"⟩
theorem d_R_drop_0 : decode b_R_drop 0 = .ok (.iload_n 1, 1) := by decide +kernel
theorem d_R_drop_1 : decode b_R_drop 1 = .ok (.invokestatic 151, 3) := by decide +kernel
theorem d_R_drop_4 : decode b_R_drop 4 = .ok (.ifCond .eq 25, 3) := by decide +kernel
theorem d_R_drop_7 : decode b_R_drop 7 = .ok (.iload_n 2, 1) := by decide +kernel
theorem d_R_drop_8 : decode b_R_drop 8 = .ok (.iconst (-1), 1) := by decide +kernel
theorem d_R_drop_9 : decode b_R_drop 9 = .ok (.iconst 1, 1) := by decide +kernel
theorem d_R_drop_10 : decode b_R_drop 10 = .ok (.invokestatic 97, 3) := by decide +kernel
theorem d_R_drop_13 : decode b_R_drop 13 = .ok (.ifCond .eq 16, 3) := by decide +kernel
theorem d_R_drop_16 : decode b_R_drop 16 = .ok (.aload_n 0, 1) := by decide +kernel
theorem d_R_drop_17 : decode b_R_drop 17 = .ok (.aload_n 0, 1) := by decide +kernel
theorem d_R_drop_18 : decode b_R_drop 18 = .ok (.iload_n 1, 1) := by decide +kernel
theorem d_R_drop_19 : decode b_R_drop 19 = .ok (.invokevirtual 246, 3) := by decide +kernel
theorem d_R_drop_22 : decode b_R_drop 22 = .ok (.iload_n 2, 1) := by decide +kernel
theorem d_R_drop_23 : decode b_R_drop 23 = .ok (.invokevirtual 249, 3) := by decide +kernel
theorem d_R_drop_26 : decode b_R_drop 26 = .ok (.goto 5, 3) := by decide +kernel
theorem d_R_drop_29 : decode b_R_drop 29 = .ok (.bipush (-2), 2) := by decide +kernel
theorem d_R_drop_31 : decode b_R_drop 31 = .ok (.ireturn, 1) := by decide +kernel
theorem qm_R_246 : Cond.methodLink nC8 246 y_R_dropBy ∈ tbl := tbl_in 1215 (by decide +kernel) rfl
theorem qm_R_249 : Cond.methodLink nC8 249 y_R_ofRow ∈ tbl := tbl_in 1223 (by decide +kernel) rfl
def wp_R_drop (σ : Hp) (a1 : Int32) (a2 : Int32) (P : Int32 → Hp → Prop) : Prop :=
  wp_R_isDay σ a1 (fun (r1 : Int32) (t2 : Hp) => ((r1 = 0 → P (-2 : Int32) t2) ∧ (¬ r1 = 0 → wp_R_in t2 a2 (-1 : Int32) (1 : Int32) (fun (r4 : Int32) (t5 : Hp) => ((r4 = 0 → P (-2 : Int32) t5) ∧ (¬ r4 = 0 → wp_R_dropBy t5 a1 (fun (r7 : Int32) (t8 : Hp) => wp_R_ofRow t8 r7 a2 (fun (r9 : Int32) (t10 : Hp) => P r9 t10))))))))
set_option maxHeartbeats 4000000 in
set_option maxRecDepth 100000 in
theorem w_R_drop (w : Wd) (σ : Hp) (a1 : Int32) (a2 : Int32) (P : Int32 → Hp → Prop) (h : wp_R_drop σ a1 a2 P) : CtI μR w y_R_drop b_R_drop 3 (some .int) 8 [.ref (w.1 0), .int a1, .int a2] σ P := by
  unfold wp_R_drop at h
  refine CtI.ofV (C := nC8) (lo := [some (.ref (w.1 0)), some (.int a1), some (.int a2)]) exR (by decide +kernel) rfl rfl rfl (fun κ hC hR => ?_)
  refine V.iload_n hC d_R_drop_0 rfl rfl ?_
  refine V.callSI hC exR (w_R_isDay w σ a1 _ h) d_R_drop_1 mo_R_isDay qm_R_151 rfl rfl rfl rfl (Nat.le_of_ble_eq_true rfl) (fun r1 t2 h => ?_)
  refine V.if_eq (tgt := 29) hC d_R_drop_4 (by decide) (fun c3 => ?_) (fun c3 => ?_)
  · replace h := h.1 c3
    refine V.bipush (v := -2) hC d_R_drop_29 (by decide) ?_
    exact hR _ _ _ _ h rfl d_R_drop_31
  · replace h := h.2 c3
    refine V.iload_n hC d_R_drop_7 rfl rfl ?_
    refine V.iconst (v := -1) hC d_R_drop_8 (by decide) ?_
    refine V.iconst (v := 1) hC d_R_drop_9 (by decide) ?_
    refine V.callSI hC exR (w_R_in w t2 a2 (-1 : Int32) (1 : Int32) _ h) d_R_drop_10 mo_R_in qm_R_97 rfl rfl rfl rfl (Nat.le_of_ble_eq_true rfl) (fun r4 t5 h => ?_)
    refine V.if_eq (tgt := 29) hC d_R_drop_13 (by decide) (fun c6 => ?_) (fun c6 => ?_)
    · replace h := h.1 c6
      refine V.bipush (v := -2) hC d_R_drop_29 (by decide) ?_
      exact hR _ _ _ _ h rfl d_R_drop_31
    · replace h := h.2 c6
      refine V.aload_n hC d_R_drop_16 rfl rfl ?_
      refine V.aload_n hC d_R_drop_17 rfl rfl ?_
      refine V.iload_n hC d_R_drop_18 rfl rfl ?_
      refine V.callVI hC exR (w_R_dropBy w t5 a1 _ h) d_R_drop_19 mo_R_dropBy qm_R_246 rfl rfl rfl rfl rfl rfl rfl (Nat.le_of_ble_eq_true rfl) (fun r7 t8 h => ?_)
      refine V.iload_n hC d_R_drop_22 rfl rfl ?_
      refine V.callVI hC exR (w_R_ofRow w t8 r7 a2 _ h) d_R_drop_23 mo_R_ofRow qm_R_249 rfl rfl rfl rfl rfl rfl rfl (Nat.le_of_ble_eq_true rfl) (fun r9 t10 h => ?_)
      refine V.goto (tgt := 31) hC d_R_drop_26 (by decide) ?_
      exact hR _ _ _ _ h rfl d_R_drop_31
abbrev b_R_seen : ByteArray := prog_10_method_67_code
def y_R_seen : MethodName := ⟨nC8, "seen", "(III)I"⟩
theorem d_R_seen_0 : decode b_R_seen 0 = .ok (.iload_n 1, 1) := by decide +kernel
theorem d_R_seen_1 : decode b_R_seen 1 = .ok (.invokestatic 151, 3) := by decide +kernel
theorem d_R_seen_4 : decode b_R_seen 4 = .ok (.ifCond .eq 23, 3) := by decide +kernel
theorem d_R_seen_7 : decode b_R_seen 7 = .ok (.iload_n 2, 1) := by decide +kernel
theorem d_R_seen_8 : decode b_R_seen 8 = .ok (.invokestatic 154, 3) := by decide +kernel
theorem d_R_seen_11 : decode b_R_seen 11 = .ok (.ifCond .eq 16, 3) := by decide +kernel
theorem d_R_seen_14 : decode b_R_seen 14 = .ok (.iload_n 3, 1) := by decide +kernel
theorem d_R_seen_15 : decode b_R_seen 15 = .ok (.sipush (-999), 3) := by decide +kernel
theorem d_R_seen_18 : decode b_R_seen 18 = .ok (.sipush 999, 3) := by decide +kernel
theorem d_R_seen_21 : decode b_R_seen 21 = .ok (.invokestatic 97, 3) := by decide +kernel
theorem d_R_seen_24 : decode b_R_seen 24 = .ok (.ifCond .ne 6, 3) := by decide +kernel
theorem d_R_seen_27 : decode b_R_seen 27 = .ok (.bipush (-2), 2) := by decide +kernel
theorem d_R_seen_29 : decode b_R_seen 29 = .ok (.ireturn, 1) := by decide +kernel
theorem d_R_seen_30 : decode b_R_seen 30 = .ok (.aload_n 0, 1) := by decide +kernel
theorem d_R_seen_31 : decode b_R_seen 31 = .ok (.getfield 252, 3) := by decide +kernel
theorem d_R_seen_34 : decode b_R_seen 34 = .ok (.bipush 8, 2) := by decide +kernel
theorem d_R_seen_36 : decode b_R_seen 36 = .ok (.if_icmp .ne 6, 3) := by decide +kernel
theorem d_R_seen_39 : decode b_R_seen 39 = .ok (.bipush (-4), 2) := by decide +kernel
theorem d_R_seen_41 : decode b_R_seen 41 = .ok (.ireturn, 1) := by decide +kernel
theorem d_R_seen_42 : decode b_R_seen 42 = .ok (.aload_n 0, 1) := by decide +kernel
theorem d_R_seen_43 : decode b_R_seen 43 = .ok (.getfield 68, 3) := by decide +kernel
theorem d_R_seen_46 : decode b_R_seen 46 = .ok (.aload_n 0, 1) := by decide +kernel
theorem d_R_seen_47 : decode b_R_seen 47 = .ok (.getfield 252, 3) := by decide +kernel
theorem d_R_seen_50 : decode b_R_seen 50 = .ok (.iload_n 1, 1) := by decide +kernel
theorem d_R_seen_51 : decode b_R_seen 51 = .ok (.iastore, 1) := by decide +kernel
theorem d_R_seen_52 : decode b_R_seen 52 = .ok (.aload_n 0, 1) := by decide +kernel
theorem d_R_seen_53 : decode b_R_seen 53 = .ok (.getfield 71, 3) := by decide +kernel
theorem d_R_seen_56 : decode b_R_seen 56 = .ok (.aload_n 0, 1) := by decide +kernel
theorem d_R_seen_57 : decode b_R_seen 57 = .ok (.getfield 252, 3) := by decide +kernel
theorem d_R_seen_60 : decode b_R_seen 60 = .ok (.iload_n 2, 1) := by decide +kernel
theorem d_R_seen_61 : decode b_R_seen 61 = .ok (.iastore, 1) := by decide +kernel
theorem d_R_seen_62 : decode b_R_seen 62 = .ok (.aload_n 0, 1) := by decide +kernel
theorem d_R_seen_63 : decode b_R_seen 63 = .ok (.getfield 74, 3) := by decide +kernel
theorem d_R_seen_66 : decode b_R_seen 66 = .ok (.aload_n 0, 1) := by decide +kernel
theorem d_R_seen_67 : decode b_R_seen 67 = .ok (.getfield 252, 3) := by decide +kernel
theorem d_R_seen_70 : decode b_R_seen 70 = .ok (.iload_n 3, 1) := by decide +kernel
theorem d_R_seen_71 : decode b_R_seen 71 = .ok (.iastore, 1) := by decide +kernel
theorem d_R_seen_72 : decode b_R_seen 72 = .ok (.aload_n 0, 1) := by decide +kernel
theorem d_R_seen_73 : decode b_R_seen 73 = .ok (.dup, 1) := by decide +kernel
theorem d_R_seen_74 : decode b_R_seen 74 = .ok (.getfield 252, 3) := by decide +kernel
theorem d_R_seen_77 : decode b_R_seen 77 = .ok (.iconst 1, 1) := by decide +kernel
theorem d_R_seen_78 : decode b_R_seen 78 = .ok (.iadd, 1) := by decide +kernel
theorem d_R_seen_79 : decode b_R_seen 79 = .ok (.putfield 252, 3) := by decide +kernel
theorem d_R_seen_82 : decode b_R_seen 82 = .ok (.aload_n 0, 1) := by decide +kernel
theorem d_R_seen_83 : decode b_R_seen 83 = .ok (.getfield 252, 3) := by decide +kernel
theorem d_R_seen_86 : decode b_R_seen 86 = .ok (.ireturn, 1) := by decide +kernel
theorem qf_R_252 : Cond.fieldLink nC8 252 (fC8 24).1 (fC8 24).2.1 (fC8 24).2.2.1 ∈ tbl := tbl_in 892 (by decide +kernel) rfl
theorem qf_R_68 : Cond.fieldLink nC8 68 (fC8 25).1 (fC8 25).2.1 (fC8 25).2.2.1 ∈ tbl := tbl_in 893 (by decide +kernel) rfl
theorem qf_R_71 : Cond.fieldLink nC8 71 (fC8 26).1 (fC8 26).2.1 (fC8 26).2.2.1 ∈ tbl := tbl_in 894 (by decide +kernel) rfl
theorem qf_R_74 : Cond.fieldLink nC8 74 (fC8 27).1 (fC8 27).2.1 (fC8 27).2.2.1 ∈ tbl := tbl_in 895 (by decide +kernel) rfl
def wp_R_seen (σ : Hp) (a1 : Int32) (a2 : Int32) (a3 : Int32) (P : Int32 → Hp → Prop) : Prop :=
  wp_R_isDay σ a1 (fun (r1 : Int32) (t2 : Hp) => ((r1 = 0 → P (-2 : Int32) t2) ∧ (¬ r1 = 0 → wp_R_isEight t2 a2 (fun (r4 : Int32) (t5 : Hp) => ((r4 = 0 → P (-2 : Int32) t5) ∧ (¬ r4 = 0 → wp_R_in t5 a3 (-999 : Int32) (999 : Int32) (fun (r7 : Int32) (t8 : Hp) => ((¬ r7 = 0 → ((¬ (t8 0 24) = (8 : Int32) → (vp_in (t8 0 24) 8) ∧ (vp_in ((st t8 20 (ix (t8 0 24)) a1) 0 24) 8) ∧ (vp_in ((st (st t8 20 (ix (t8 0 24)) a1) 21 (ix ((st t8 20 (ix (t8 0 24)) a1) 0 24)) a2) 0 24) 8) ∧ P ((st (st (st (st t8 20 (ix (t8 0 24)) a1) 21 (ix ((st t8 20 (ix (t8 0 24)) a1) 0 24)) a2) 22 (ix ((st (st t8 20 (ix (t8 0 24)) a1) 21 (ix ((st t8 20 (ix (t8 0 24)) a1) 0 24)) a2) 0 24)) a3) 0 24 (((st (st (st t8 20 (ix (t8 0 24)) a1) 21 (ix ((st t8 20 (ix (t8 0 24)) a1) 0 24)) a2) 22 (ix ((st (st t8 20 (ix (t8 0 24)) a1) 21 (ix ((st t8 20 (ix (t8 0 24)) a1) 0 24)) a2) 0 24)) a3) 0 24) + (1 : Int32))) 0 24) (st (st (st (st t8 20 (ix (t8 0 24)) a1) 21 (ix ((st t8 20 (ix (t8 0 24)) a1) 0 24)) a2) 22 (ix ((st (st t8 20 (ix (t8 0 24)) a1) 21 (ix ((st t8 20 (ix (t8 0 24)) a1) 0 24)) a2) 0 24)) a3) 0 24 (((st (st (st t8 20 (ix (t8 0 24)) a1) 21 (ix ((st t8 20 (ix (t8 0 24)) a1) 0 24)) a2) 22 (ix ((st (st t8 20 (ix (t8 0 24)) a1) 21 (ix ((st t8 20 (ix (t8 0 24)) a1) 0 24)) a2) 0 24)) a3) 0 24) + (1 : Int32)))) ∧ ((t8 0 24) = (8 : Int32) → P (-4 : Int32) t8))) ∧ (r7 = 0 → P (-2 : Int32) t8)))))))))
set_option maxHeartbeats 4000000 in
set_option maxRecDepth 100000 in
theorem w_R_seen (w : Wd) (σ : Hp) (a1 : Int32) (a2 : Int32) (a3 : Int32) (P : Int32 → Hp → Prop) (h : wp_R_seen σ a1 a2 a3 P) : CtI μR w y_R_seen b_R_seen 4 (some .int) 2 [.ref (w.1 0), .int a1, .int a2, .int a3] σ P := by
  unfold wp_R_seen at h
  refine CtI.ofV (C := nC8) (lo := [some (.ref (w.1 0)), some (.int a1), some (.int a2), some (.int a3)]) exR (by decide +kernel) rfl rfl rfl (fun κ hC hR => ?_)
  refine V.iload_n hC d_R_seen_0 rfl rfl ?_
  refine V.callSI hC exR (w_R_isDay w σ a1 _ h) d_R_seen_1 mo_R_isDay qm_R_151 rfl rfl rfl rfl (Nat.le_of_ble_eq_true rfl) (fun r1 t2 h => ?_)
  refine V.if_eq (tgt := 27) hC d_R_seen_4 (by decide) (fun c3 => ?_) (fun c3 => ?_)
  · replace h := h.1 c3
    refine V.bipush (v := -2) hC d_R_seen_27 (by decide) ?_
    exact hR _ _ _ _ h rfl d_R_seen_29
  · replace h := h.2 c3
    refine V.iload_n hC d_R_seen_7 rfl rfl ?_
    refine V.callSI hC exR (w_R_isEight w t2 a2 _ h) d_R_seen_8 mo_R_isEight qm_R_154 rfl rfl rfl rfl (Nat.le_of_ble_eq_true rfl) (fun r4 t5 h => ?_)
    refine V.if_eq (tgt := 27) hC d_R_seen_11 (by decide) (fun c6 => ?_) (fun c6 => ?_)
    · replace h := h.1 c6
      refine V.bipush (v := -2) hC d_R_seen_27 (by decide) ?_
      exact hR _ _ _ _ h rfl d_R_seen_29
    · replace h := h.2 c6
      refine V.iload_n hC d_R_seen_14 rfl rfl ?_
      refine V.sipush (v := -999) hC d_R_seen_15 (by decide) ?_
      refine V.sipush (v := 999) hC d_R_seen_18 (by decide) ?_
      refine V.callSI hC exR (w_R_in w t5 a3 (-999 : Int32) (999 : Int32) _ h) d_R_seen_21 mo_R_in qm_R_97 rfl rfl rfl rfl (Nat.le_of_ble_eq_true rfl) (fun r7 t8 h => ?_)
      refine V.if_ne (tgt := 30) hC d_R_seen_24 (by decide) (fun c9 => ?_) (fun c9 => ?_)
      · replace h := h.1 c9
        refine V.aload_n hC d_R_seen_30 rfl rfl ?_
        refine V.getI (j := 24) hC d_R_seen_31 rfl rfl uC8 rfl rfl qf_R_252 ?_
        refine V.bipush (v := 8) hC d_R_seen_34 (by decide) ?_
        refine V.icmp_ne (tgt := 42) hC d_R_seen_36 (by decide) (fun c10 => ?_) (fun c10 => ?_)
        · replace h := h.1 c10
          refine V.aload_n hC d_R_seen_42 rfl rfl ?_
          refine V.getR (j := 25) hC d_R_seen_43 rfl rfl uC8 rfl rfl qf_R_68 ?_
          refine V.aload_n hC d_R_seen_46 rfl rfl ?_
          refine V.getI (j := 24) hC d_R_seen_47 rfl rfl uC8 rfl rfl qf_R_252 ?_
          refine V.iload_n hC d_R_seen_50 rfl rfl ?_
          obtain ⟨b11, h⟩ := h
          refine V.iast hC d_R_seen_51 rfl b11 ?_
          refine V.aload_n hC d_R_seen_52 rfl rfl ?_
          refine V.getR (j := 26) hC d_R_seen_53 rfl rfl uC8 rfl rfl qf_R_71 ?_
          refine V.aload_n hC d_R_seen_56 rfl rfl ?_
          refine V.getI (j := 24) hC d_R_seen_57 rfl rfl uC8 rfl rfl qf_R_252 ?_
          refine V.iload_n hC d_R_seen_60 rfl rfl ?_
          obtain ⟨b12, h⟩ := h
          refine V.iast hC d_R_seen_61 rfl b12 ?_
          refine V.aload_n hC d_R_seen_62 rfl rfl ?_
          refine V.getR (j := 27) hC d_R_seen_63 rfl rfl uC8 rfl rfl qf_R_74 ?_
          refine V.aload_n hC d_R_seen_66 rfl rfl ?_
          refine V.getI (j := 24) hC d_R_seen_67 rfl rfl uC8 rfl rfl qf_R_252 ?_
          refine V.iload_n hC d_R_seen_70 rfl rfl ?_
          obtain ⟨b13, h⟩ := h
          refine V.iast hC d_R_seen_71 rfl b13 ?_
          refine V.aload_n hC d_R_seen_72 rfl rfl ?_
          refine V.dup hC d_R_seen_73 rfl ?_
          refine V.getI (j := 24) hC d_R_seen_74 rfl rfl uC8 rfl rfl qf_R_252 ?_
          refine V.iconst (v := 1) hC d_R_seen_77 (by decide) ?_
          refine V.iadd hC d_R_seen_78 ?_
          refine V.put (j := 24) hC d_R_seen_79 rfl rfl uC8 pC8 dC8 rfl rfl rfl rfl rfl qf_R_252 ?_
          refine V.aload_n hC d_R_seen_82 rfl rfl ?_
          refine V.getI (j := 24) hC d_R_seen_83 rfl rfl uC8 rfl rfl qf_R_252 ?_
          exact hR _ _ _ _ h rfl d_R_seen_86
        · replace h := h.2 c10
          refine V.bipush (v := -4) hC d_R_seen_39 (by decide) ?_
          exact hR _ _ _ _ h rfl d_R_seen_41
      · replace h := h.2 c9
        refine V.bipush (v := -2) hC d_R_seen_27 (by decide) ?_
        exact hR _ _ _ _ h rfl d_R_seen_29
abbrev b_R_forget : ByteArray := prog_10_method_68_code
def y_R_forget : MethodName := ⟨nC8, "forget", "()I"⟩
theorem d_R_forget_0 : decode b_R_forget 0 = .ok (.aload_n 0, 1) := by decide +kernel
theorem d_R_forget_1 : decode b_R_forget 1 = .ok (.getfield 252, 3) := by decide +kernel
theorem d_R_forget_4 : decode b_R_forget 4 = .ok (.istore_n 1, 1) := by decide +kernel
theorem d_R_forget_5 : decode b_R_forget 5 = .ok (.aload_n 0, 1) := by decide +kernel
theorem d_R_forget_6 : decode b_R_forget 6 = .ok (.iconst 0, 1) := by decide +kernel
theorem d_R_forget_7 : decode b_R_forget 7 = .ok (.putfield 252, 3) := by decide +kernel
theorem d_R_forget_10 : decode b_R_forget 10 = .ok (.iload_n 1, 1) := by decide +kernel
theorem d_R_forget_11 : decode b_R_forget 11 = .ok (.ireturn, 1) := by decide +kernel
def wp_R_forget (σ : Hp)  (P : Int32 → Hp → Prop) : Prop :=
  (∀ v1 : Int32, v1 = σ 0 24 → P v1 (st σ 0 24 (0 : Int32)))
set_option maxHeartbeats 4000000 in
set_option maxRecDepth 100000 in
theorem w_R_forget (w : Wd) (σ : Hp)  (P : Int32 → Hp → Prop) (h : wp_R_forget σ  P) : CtI μR w y_R_forget b_R_forget 2 (some .int) 0 [.ref (w.1 0)] σ P := by
  unfold wp_R_forget at h
  refine CtI.ofV (C := nC8) (lo := [some (.ref (w.1 0)), none]) exR (by decide +kernel) rfl rfl rfl (fun κ hC hR => ?_)
  refine V.aload_n hC d_R_forget_0 rfl rfl ?_
  refine V.getI (j := 24) hC d_R_forget_1 rfl rfl uC8 rfl rfl qf_R_252 ?_
  obtain ⟨v1, ev1⟩ : ∃ y : Int32, y = σ 0 24 := ⟨_, rfl⟩
  replace h := h v1 ev1
  refine V.istore_n (y := v1) (lo' := [some (.ref (w.1 0)), some (.int v1)]) hC d_R_forget_4 rfl rfl ev1 rfl ?_
  refine V.aload_n hC d_R_forget_5 rfl rfl ?_
  refine V.iconst (v := 0) hC d_R_forget_6 (by decide) ?_
  refine V.put (j := 24) hC d_R_forget_7 rfl rfl uC8 pC8 dC8 rfl rfl rfl rfl rfl qf_R_252 ?_
  refine V.iload_n hC d_R_forget_10 rfl rfl ?_
  exact hR _ _ _ _ h rfl d_R_forget_11
abbrev b_R_isSeen : ByteArray := prog_10_method_69_code
def y_R_isSeen : MethodName := ⟨nC8, "isSeen", "()Z"⟩
theorem d_R_isSeen_0 : decode b_R_isSeen 0 = .ok (.aload_n 0, 1) := by decide +kernel
theorem d_R_isSeen_1 : decode b_R_isSeen 1 = .ok (.invokevirtual 186, 3) := by decide +kernel
theorem d_R_isSeen_4 : decode b_R_isSeen 4 = .ok (.iconst 1, 1) := by decide +kernel
theorem d_R_isSeen_5 : decode b_R_isSeen 5 = .ok (.istore_n 1, 1) := by decide +kernel
theorem d_R_isSeen_6 : decode b_R_isSeen 6 = .ok (.iconst 0, 1) := by decide +kernel
theorem d_R_isSeen_7 : decode b_R_isSeen 7 = .ok (.istore_n 2, 1) := by decide +kernel
theorem d_R_isSeen_8 : decode b_R_isSeen 8 = .ok (.iload_n 2, 1) := by decide +kernel
theorem d_R_isSeen_9 : decode b_R_isSeen 9 = .ok (.aload_n 0, 1) := by decide +kernel
theorem d_R_isSeen_10 : decode b_R_isSeen 10 = .ok (.getfield 252, 3) := by decide +kernel
theorem d_R_isSeen_13 : decode b_R_isSeen 13 = .ok (.if_icmp .ge 57, 3) := by decide +kernel
theorem d_R_isSeen_16 : decode b_R_isSeen 16 = .ok (.iload_n 1, 1) := by decide +kernel
theorem d_R_isSeen_17 : decode b_R_isSeen 17 = .ok (.ifCond .eq 53, 3) := by decide +kernel
theorem d_R_isSeen_20 : decode b_R_isSeen 20 = .ok (.aload_n 0, 1) := by decide +kernel
theorem d_R_isSeen_21 : decode b_R_isSeen 21 = .ok (.getfield 71, 3) := by decide +kernel
theorem d_R_isSeen_24 : decode b_R_isSeen 24 = .ok (.iload_n 2, 1) := by decide +kernel
theorem d_R_isSeen_25 : decode b_R_isSeen 25 = .ok (.iaload, 1) := by decide +kernel
theorem d_R_isSeen_26 : decode b_R_isSeen 26 = .ok (.aload_n 0, 1) := by decide +kernel
theorem d_R_isSeen_27 : decode b_R_isSeen 27 = .ok (.getfield 116, 3) := by decide +kernel
theorem d_R_isSeen_30 : decode b_R_isSeen 30 = .ok (.if_icmp .ge 32, 3) := by decide +kernel
theorem d_R_isSeen_33 : decode b_R_isSeen 33 = .ok (.aload_n 0, 1) := by decide +kernel
theorem d_R_isSeen_34 : decode b_R_isSeen 34 = .ok (.aload_n 0, 1) := by decide +kernel
theorem d_R_isSeen_35 : decode b_R_isSeen 35 = .ok (.getfield 68, 3) := by decide +kernel
theorem d_R_isSeen_38 : decode b_R_isSeen 38 = .ok (.iload_n 2, 1) := by decide +kernel
theorem d_R_isSeen_39 : decode b_R_isSeen 39 = .ok (.iaload, 1) := by decide +kernel
theorem d_R_isSeen_40 : decode b_R_isSeen 40 = .ok (.aload_n 0, 1) := by decide +kernel
theorem d_R_isSeen_41 : decode b_R_isSeen 41 = .ok (.getfield 71, 3) := by decide +kernel
theorem d_R_isSeen_44 : decode b_R_isSeen 44 = .ok (.iload_n 2, 1) := by decide +kernel
theorem d_R_isSeen_45 : decode b_R_isSeen 45 = .ok (.iaload, 1) := by decide +kernel
theorem d_R_isSeen_46 : decode b_R_isSeen 46 = .ok (.invokevirtual 198, 3) := by decide +kernel
theorem d_R_isSeen_49 : decode b_R_isSeen 49 = .ok (.aload_n 0, 1) := by decide +kernel
theorem d_R_isSeen_50 : decode b_R_isSeen 50 = .ok (.getfield 74, 3) := by decide +kernel
theorem d_R_isSeen_53 : decode b_R_isSeen 53 = .ok (.iload_n 2, 1) := by decide +kernel
theorem d_R_isSeen_54 : decode b_R_isSeen 54 = .ok (.iaload, 1) := by decide +kernel
theorem d_R_isSeen_55 : decode b_R_isSeen 55 = .ok (.if_icmp .ne 7, 3) := by decide +kernel
theorem d_R_isSeen_58 : decode b_R_isSeen 58 = .ok (.iconst 1, 1) := by decide +kernel
theorem d_R_isSeen_59 : decode b_R_isSeen 59 = .ok (.goto 4, 3) := by decide +kernel
theorem d_R_isSeen_62 : decode b_R_isSeen 62 = .ok (.iconst 0, 1) := by decide +kernel
theorem d_R_isSeen_63 : decode b_R_isSeen 63 = .ok (.istore_n 1, 1) := by decide +kernel
theorem d_R_isSeen_64 : decode b_R_isSeen 64 = .ok (.iinc 2 1, 3) := by decide +kernel
theorem d_R_isSeen_67 : decode b_R_isSeen 67 = .ok (.goto (-59), 3) := by decide +kernel
theorem d_R_isSeen_70 : decode b_R_isSeen 70 = .ok (.iload_n 1, 1) := by decide +kernel
theorem d_R_isSeen_71 : decode b_R_isSeen 71 = .ok (.ireturn, 1) := by decide +kernel
theorem mo_R_isSeen : MokV y_R_isSeen b_R_isSeen 3 (some .boolean) 0 := ⟨⟨(tbl_in 1246 (by decide +kernel) rfl), (tbl_in 70 (by decide +kernel) rfl)⟩, ⟨(tbl_in 1245 (by decide +kernel) rfl), tbl_lw _ (tbl_in 50 (by decide +kernel) rfl), (tbl_in 50 (by decide +kernel) rfl)⟩, ⟨by decide +kernel, by decide +kernel⟩, by decide +kernel⟩
def b_R_isSeen_8_ (P : Int32 → Hp → Prop)  (I8 : Hp → Int32 → Int32 → Prop) (σ : Hp) (x1 : Int32) (x2 : Int32) : Prop :=
  (((σ 0 24) ≤ x2 → (x1 &&& 1 = x1) ∧ P x1 σ) ∧ (¬ (σ 0 24) ≤ x2 → ((x1 = 0 → (x1 &&& 1 = x1) ∧ P x1 σ) ∧ (¬ x1 = 0 → (vp_in x2 8) ∧ (((σ 0 2) ≤ (σ 21 (ix x2)) → (∀ v7 : Int32, v7 = x2 + (1 : Int32) → I8 σ (0 : Int32) v7)) ∧ (¬ (σ 0 2) ≤ (σ 21 (ix x2)) → (vp_in x2 8) ∧ (vp_in x2 8) ∧ wp_R_balanceNow σ (σ 20 (ix x2)) (σ 21 (ix x2)) (fun (r10 : Int32) (t11 : Hp) => (vp_in x2 8) ∧ ((¬ r10 = (t11 22 (ix x2)) → (∀ v14 : Int32, v14 = x2 + (1 : Int32) → I8 t11 (0 : Int32) v14)) ∧ (r10 = (t11 22 (ix x2)) → (∀ v15 : Int32, v15 = x2 + (1 : Int32) → I8 t11 (1 : Int32) v15))))))))))
def j_R_isSeen_8 (P : Int32 → Hp → Prop)  (σ : Hp) (x1 : Int32) (x2 : Int32) : Prop := ∀ I8 : Hp → Int32 → Int32 → Prop, (∀ (σ : Hp) (x1 : Int32) (x2 : Int32), b_R_isSeen_8_  P  I8 σ x1 x2 → I8 σ x1 x2) → I8 σ x1 x2
def wp_R_isSeen (σ : Hp)  (P : Int32 → Hp → Prop) : Prop :=
  wp_R_lays σ (fun (t17 : Hp) => j_R_isSeen_8 P t17 (1 : Int32) (0 : Int32))
set_option maxHeartbeats 4000000 in
set_option maxRecDepth 100000 in
theorem wj_R_isSeen_8 {w : Wd} {κ : Kx} {P : Int32 → Hp → Prop} (hC : Cx μR w 3 κ nC8 b_R_isSeen 2) (hR : RtI μR w 3 κ b_R_isSeen .boolean P)  : ∀ (σ : Hp) (x1 : Int32) (x2 : Int32), j_R_isSeen_8  P  σ x1 x2 → V μR w 3 κ σ [some (.ref (w.1 0)), some (.int x1), some (.int x2)] 8 [] := by
  intro σ x1 x2 h
  refine h (fun σ x1 x2 => V μR w 3 κ σ [some (.ref (w.1 0)), some (.int x1), some (.int x2)] 8 []) (fun σ x1 x2 h => ?_)
  unfold b_R_isSeen_8_ at h
  refine V.iload_n hC d_R_isSeen_8 rfl rfl ?_
  refine V.aload_n hC d_R_isSeen_9 rfl rfl ?_
  refine V.getI (j := 24) hC d_R_isSeen_10 rfl rfl uC8 rfl rfl qf_R_252 ?_
  refine V.icmp_ge (tgt := 70) hC d_R_isSeen_13 (by decide) (fun c1 => ?_) (fun c1 => ?_)
  · replace h := h.1 c1
    refine V.iload_n hC d_R_isSeen_70 rfl rfl ?_
    obtain ⟨z2, h⟩ := h
    exact hR _ _ _ _ h (congrArg Value.int z2) d_R_isSeen_71
  · replace h := h.2 c1
    refine V.iload_n hC d_R_isSeen_16 rfl rfl ?_
    refine V.if_eq (tgt := 70) hC d_R_isSeen_17 (by decide) (fun c3 => ?_) (fun c3 => ?_)
    · replace h := h.1 c3
      refine V.iload_n hC d_R_isSeen_70 rfl rfl ?_
      obtain ⟨z4, h⟩ := h
      exact hR _ _ _ _ h (congrArg Value.int z4) d_R_isSeen_71
    · replace h := h.2 c3
      refine V.aload_n hC d_R_isSeen_20 rfl rfl ?_
      refine V.getR (j := 26) hC d_R_isSeen_21 rfl rfl uC8 rfl rfl qf_R_71 ?_
      refine V.iload_n hC d_R_isSeen_24 rfl rfl ?_
      obtain ⟨b5, h⟩ := h
      refine V.iald hC d_R_isSeen_25 rfl b5 ?_
      refine V.aload_n hC d_R_isSeen_26 rfl rfl ?_
      refine V.getI (j := 2) hC d_R_isSeen_27 rfl rfl uC8 rfl rfl qf_R_116 ?_
      refine V.icmp_ge (tgt := 62) hC d_R_isSeen_30 (by decide) (fun c6 => ?_) (fun c6 => ?_)
      · replace h := h.1 c6
        refine V.iconst (v := 0) hC d_R_isSeen_62 (by decide) ?_
        refine V.istore_n (y := (0 : Int32)) (lo' := [some (.ref (w.1 0)), some (.int (0 : Int32)), some (.int x2)]) hC d_R_isSeen_63 rfl rfl rfl rfl ?_
        obtain ⟨v7, ev7⟩ : ∃ y : Int32, y = x2 + (1 : Int32) := ⟨_, rfl⟩
        replace h := h v7 ev7
        refine V.iinc (y := v7) (lo' := [some (.ref (w.1 0)), some (.int (0 : Int32)), some (.int v7)]) hC d_R_isSeen_64 rfl rfl (show v7 = _ + Int32.ofInt (1) from ev7) rfl ?_
        refine V.goto (tgt := 8) hC d_R_isSeen_67 (by decide) ?_
        exact V.msk [true, true, true] rfl h
      · replace h := h.2 c6
        refine V.aload_n hC d_R_isSeen_33 rfl rfl ?_
        refine V.aload_n hC d_R_isSeen_34 rfl rfl ?_
        refine V.getR (j := 25) hC d_R_isSeen_35 rfl rfl uC8 rfl rfl qf_R_68 ?_
        refine V.iload_n hC d_R_isSeen_38 rfl rfl ?_
        obtain ⟨b8, h⟩ := h
        refine V.iald hC d_R_isSeen_39 rfl b8 ?_
        refine V.aload_n hC d_R_isSeen_40 rfl rfl ?_
        refine V.getR (j := 26) hC d_R_isSeen_41 rfl rfl uC8 rfl rfl qf_R_71 ?_
        refine V.iload_n hC d_R_isSeen_44 rfl rfl ?_
        obtain ⟨b9, h⟩ := h
        refine V.iald hC d_R_isSeen_45 rfl b9 ?_
        refine V.callVI hC exR (w_R_balanceNow w σ (σ 20 (ix x2)) (σ 21 (ix x2)) _ h) d_R_isSeen_46 mo_R_balanceNow qm_R_198 rfl rfl rfl rfl rfl rfl rfl (Nat.le_of_ble_eq_true rfl) (fun r10 t11 h => ?_)
        refine V.aload_n hC d_R_isSeen_49 rfl rfl ?_
        refine V.getR (j := 27) hC d_R_isSeen_50 rfl rfl uC8 rfl rfl qf_R_74 ?_
        refine V.iload_n hC d_R_isSeen_53 rfl rfl ?_
        obtain ⟨b12, h⟩ := h
        refine V.iald hC d_R_isSeen_54 rfl b12 ?_
        refine V.icmp_ne (tgt := 62) hC d_R_isSeen_55 (by decide) (fun c13 => ?_) (fun c13 => ?_)
        · replace h := h.1 c13
          refine V.iconst (v := 0) hC d_R_isSeen_62 (by decide) ?_
          refine V.istore_n (y := (0 : Int32)) (lo' := [some (.ref (w.1 0)), some (.int (0 : Int32)), some (.int x2)]) hC d_R_isSeen_63 rfl rfl rfl rfl ?_
          obtain ⟨v14, ev14⟩ : ∃ y : Int32, y = x2 + (1 : Int32) := ⟨_, rfl⟩
          replace h := h v14 ev14
          refine V.iinc (y := v14) (lo' := [some (.ref (w.1 0)), some (.int (0 : Int32)), some (.int v14)]) hC d_R_isSeen_64 rfl rfl (show v14 = _ + Int32.ofInt (1) from ev14) rfl ?_
          refine V.goto (tgt := 8) hC d_R_isSeen_67 (by decide) ?_
          exact V.msk [true, true, true] rfl h
        · replace h := h.2 c13
          refine V.iconst (v := 1) hC d_R_isSeen_58 (by decide) ?_
          refine V.goto (tgt := 63) hC d_R_isSeen_59 (by decide) ?_
          refine V.istore_n (y := (1 : Int32)) (lo' := [some (.ref (w.1 0)), some (.int (1 : Int32)), some (.int x2)]) hC d_R_isSeen_63 rfl rfl rfl rfl ?_
          obtain ⟨v15, ev15⟩ : ∃ y : Int32, y = x2 + (1 : Int32) := ⟨_, rfl⟩
          replace h := h v15 ev15
          refine V.iinc (y := v15) (lo' := [some (.ref (w.1 0)), some (.int (1 : Int32)), some (.int v15)]) hC d_R_isSeen_64 rfl rfl (show v15 = _ + Int32.ofInt (1) from ev15) rfl ?_
          refine V.goto (tgt := 8) hC d_R_isSeen_67 (by decide) ?_
          exact V.msk [true, true, true] rfl h
set_option maxHeartbeats 4000000 in
set_option maxRecDepth 100000 in
theorem w_R_isSeen (w : Wd) (σ : Hp)  (P : Int32 → Hp → Prop) (h : wp_R_isSeen σ  P) : CtI μR w y_R_isSeen b_R_isSeen 3 (some .boolean) 2 [.ref (w.1 0)] σ P := by
  unfold wp_R_isSeen at h
  refine CtI.ofV (C := nC8) (lo := [some (.ref (w.1 0)), none, none]) exR (by decide +kernel) rfl rfl rfl (fun κ hC hR => ?_)
  refine V.aload_n hC d_R_isSeen_0 rfl rfl ?_
  refine V.callVN hC exR (w_R_lays w σ  _ h) d_R_isSeen_1 mo_R_lays qm_R_186 rfl rfl rfl rfl rfl rfl rfl (Nat.le_of_ble_eq_true rfl) (fun t17 h => ?_)
  refine V.iconst (v := 1) hC d_R_isSeen_4 (by decide) ?_
  refine V.istore_n (y := (1 : Int32)) (lo' := [some (.ref (w.1 0)), some (.int (1 : Int32)), none]) hC d_R_isSeen_5 rfl rfl rfl rfl ?_
  refine V.iconst (v := 0) hC d_R_isSeen_6 (by decide) ?_
  refine V.istore_n (y := (0 : Int32)) (lo' := [some (.ref (w.1 0)), some (.int (1 : Int32)), some (.int (0 : Int32))]) hC d_R_isSeen_7 rfl rfl rfl rfl ?_
  exact V.msk [true, true, true] rfl (wj_R_isSeen_8  hC hR  t17 (1 : Int32) (0 : Int32) h)
abbrev b_R_neverNow : ByteArray := prog_10_method_70_code
def y_R_neverNow : MethodName := ⟨nC8, "neverNow", "()I"⟩
theorem d_R_neverNow_0 : decode b_R_neverNow 0 = .ok (.aload_n 0, 1) := by decide +kernel
theorem d_R_neverNow_1 : decode b_R_neverNow 1 = .ok (.invokevirtual 183, 3) := by decide +kernel
theorem d_R_neverNow_4 : decode b_R_neverNow 4 = .ok (.iconst 0, 1) := by decide +kernel
theorem d_R_neverNow_5 : decode b_R_neverNow 5 = .ok (.istore_n 1, 1) := by decide +kernel
theorem d_R_neverNow_6 : decode b_R_neverNow 6 = .ok (.iconst 0, 1) := by decide +kernel
theorem d_R_neverNow_7 : decode b_R_neverNow 7 = .ok (.istore_n 2, 1) := by decide +kernel
theorem d_R_neverNow_8 : decode b_R_neverNow 8 = .ok (.iload_n 2, 1) := by decide +kernel
theorem d_R_neverNow_9 : decode b_R_neverNow 9 = .ok (.aload_n 0, 1) := by decide +kernel
theorem d_R_neverNow_10 : decode b_R_neverNow 10 = .ok (.getfield 157, 3) := by decide +kernel
theorem d_R_neverNow_13 : decode b_R_neverNow 13 = .ok (.if_icmp .ge 33, 3) := by decide +kernel
theorem d_R_neverNow_16 : decode b_R_neverNow 16 = .ok (.aload_n 0, 1) := by decide +kernel
theorem d_R_neverNow_17 : decode b_R_neverNow 17 = .ok (.iconst 1, 1) := by decide +kernel
theorem d_R_neverNow_18 : decode b_R_neverNow 18 = .ok (.iload_n 2, 1) := by decide +kernel
theorem d_R_neverNow_19 : decode b_R_neverNow 19 = .ok (.ishl, 1) := by decide +kernel
theorem d_R_neverNow_20 : decode b_R_neverNow 20 = .ok (.putfield 176, 3) := by decide +kernel
theorem d_R_neverNow_23 : decode b_R_neverNow 23 = .ok (.iload_n 1, 1) := by decide +kernel
theorem d_R_neverNow_24 : decode b_R_neverNow 24 = .ok (.aload_n 0, 1) := by decide +kernel
theorem d_R_neverNow_25 : decode b_R_neverNow 25 = .ok (.invokevirtual 255, 3) := by decide +kernel
theorem d_R_neverNow_28 : decode b_R_neverNow 28 = .ok (.ifCond .eq 9, 3) := by decide +kernel
theorem d_R_neverNow_31 : decode b_R_neverNow 31 = .ok (.iconst 1, 1) := by decide +kernel
theorem d_R_neverNow_32 : decode b_R_neverNow 32 = .ok (.iload_n 2, 1) := by decide +kernel
theorem d_R_neverNow_33 : decode b_R_neverNow 33 = .ok (.ishl, 1) := by decide +kernel
theorem d_R_neverNow_34 : decode b_R_neverNow 34 = .ok (.goto 4, 3) := by decide +kernel
theorem d_R_neverNow_37 : decode b_R_neverNow 37 = .ok (.iconst 0, 1) := by decide +kernel
theorem d_R_neverNow_38 : decode b_R_neverNow 38 = .ok (.ior, 1) := by decide +kernel
theorem d_R_neverNow_39 : decode b_R_neverNow 39 = .ok (.istore_n 1, 1) := by decide +kernel
theorem d_R_neverNow_40 : decode b_R_neverNow 40 = .ok (.iinc 2 1, 3) := by decide +kernel
theorem d_R_neverNow_43 : decode b_R_neverNow 43 = .ok (.goto (-35), 3) := by decide +kernel
theorem d_R_neverNow_46 : decode b_R_neverNow 46 = .ok (.iload_n 1, 1) := by decide +kernel
theorem d_R_neverNow_47 : decode b_R_neverNow 47 = .ok (.ireturn, 1) := by decide +kernel
theorem qm_R_255 : Cond.methodLink nC8 255 y_R_isSeen ∈ tbl := tbl_in 1243 (by decide +kernel) rfl
theorem mo_R_neverNow : MokV y_R_neverNow b_R_neverNow 3 (some .int) 0 := ⟨⟨(tbl_in 1242 (by decide +kernel) rfl), (tbl_in 70 (by decide +kernel) rfl)⟩, ⟨(tbl_in 1241 (by decide +kernel) rfl), tbl_lw _ (tbl_in 49 (by decide +kernel) rfl), (tbl_in 49 (by decide +kernel) rfl)⟩, ⟨by decide +kernel, by decide +kernel⟩, by decide +kernel⟩
def b_R_neverNow_8_ (P : Int32 → Hp → Prop)  (I8 : Hp → Int32 → Int32 → Prop) (σ : Hp) (x1 : Int32) (x2 : Int32) : Prop :=
  (((σ 0 10) ≤ x2 → P x1 σ) ∧ (¬ (σ 0 10) ≤ x2 → wp_R_isSeen (st σ 0 17 ((1 : Int32) <<< (x2 &&& 31))) (fun (r2 : Int32) (t3 : Hp) => ((r2 = 0 → (∀ v5 : Int32, v5 = x1 ||| (0 : Int32) → (∀ v6 : Int32, v6 = x2 + (1 : Int32) → I8 t3 v5 v6))) ∧ (¬ r2 = 0 → (∀ v7 : Int32, v7 = x1 ||| ((1 : Int32) <<< (x2 &&& 31)) → (∀ v8 : Int32, v8 = x2 + (1 : Int32) → I8 t3 v7 v8)))))))
def j_R_neverNow_8 (P : Int32 → Hp → Prop)  (σ : Hp) (x1 : Int32) (x2 : Int32) : Prop := ∀ I8 : Hp → Int32 → Int32 → Prop, (∀ (σ : Hp) (x1 : Int32) (x2 : Int32), b_R_neverNow_8_  P  I8 σ x1 x2 → I8 σ x1 x2) → I8 σ x1 x2
def wp_R_neverNow (σ : Hp)  (P : Int32 → Hp → Prop) : Prop :=
  wp_R_asTold σ (fun (t10 : Hp) => j_R_neverNow_8 P t10 (0 : Int32) (0 : Int32))
set_option maxHeartbeats 4000000 in
set_option maxRecDepth 100000 in
theorem wj_R_neverNow_8 {w : Wd} {κ : Kx} {P : Int32 → Hp → Prop} (hC : Cx μR w 3 κ nC8 b_R_neverNow 7) (hR : RtI μR w 3 κ b_R_neverNow .int P)  : ∀ (σ : Hp) (x1 : Int32) (x2 : Int32), j_R_neverNow_8  P  σ x1 x2 → V μR w 3 κ σ [some (.ref (w.1 0)), some (.int x1), some (.int x2)] 8 [] := by
  intro σ x1 x2 h
  refine h (fun σ x1 x2 => V μR w 3 κ σ [some (.ref (w.1 0)), some (.int x1), some (.int x2)] 8 []) (fun σ x1 x2 h => ?_)
  unfold b_R_neverNow_8_ at h
  refine V.iload_n hC d_R_neverNow_8 rfl rfl ?_
  refine V.aload_n hC d_R_neverNow_9 rfl rfl ?_
  refine V.getI (j := 10) hC d_R_neverNow_10 rfl rfl uC8 rfl rfl qf_R_157 ?_
  refine V.icmp_ge (tgt := 46) hC d_R_neverNow_13 (by decide) (fun c1 => ?_) (fun c1 => ?_)
  · replace h := h.1 c1
    refine V.iload_n hC d_R_neverNow_46 rfl rfl ?_
    exact hR _ _ _ _ h rfl d_R_neverNow_47
  · replace h := h.2 c1
    refine V.aload_n hC d_R_neverNow_16 rfl rfl ?_
    refine V.iconst (v := 1) hC d_R_neverNow_17 (by decide) ?_
    refine V.iload_n hC d_R_neverNow_18 rfl rfl ?_
    refine V.ishl hC d_R_neverNow_19 ?_
    refine V.put (j := 17) hC d_R_neverNow_20 rfl rfl uC8 pC8 dC8 rfl rfl rfl rfl rfl qf_R_176 ?_
    refine V.iload_n hC d_R_neverNow_23 rfl rfl ?_
    refine V.aload_n hC d_R_neverNow_24 rfl rfl ?_
    refine V.callVI hC exR (w_R_isSeen w (st σ 0 17 ((1 : Int32) <<< (x2 &&& 31)))  _ h) d_R_neverNow_25 mo_R_isSeen qm_R_255 rfl rfl rfl rfl rfl rfl rfl (Nat.le_of_ble_eq_true rfl) (fun r2 t3 h => ?_)
    refine V.if_eq (tgt := 37) hC d_R_neverNow_28 (by decide) (fun c4 => ?_) (fun c4 => ?_)
    · replace h := h.1 c4
      refine V.iconst (v := 0) hC d_R_neverNow_37 (by decide) ?_
      refine V.ior hC d_R_neverNow_38 ?_
      obtain ⟨v5, ev5⟩ : ∃ y : Int32, y = x1 ||| (0 : Int32) := ⟨_, rfl⟩
      replace h := h v5 ev5
      refine V.istore_n (y := v5) (lo' := [some (.ref (w.1 0)), some (.int v5), some (.int x2)]) hC d_R_neverNow_39 rfl rfl ev5 rfl ?_
      obtain ⟨v6, ev6⟩ : ∃ y : Int32, y = x2 + (1 : Int32) := ⟨_, rfl⟩
      replace h := h v6 ev6
      refine V.iinc (y := v6) (lo' := [some (.ref (w.1 0)), some (.int v5), some (.int v6)]) hC d_R_neverNow_40 rfl rfl (show v6 = _ + Int32.ofInt (1) from ev6) rfl ?_
      refine V.goto (tgt := 8) hC d_R_neverNow_43 (by decide) ?_
      exact V.msk [true, true, true] rfl h
    · replace h := h.2 c4
      refine V.iconst (v := 1) hC d_R_neverNow_31 (by decide) ?_
      refine V.iload_n hC d_R_neverNow_32 rfl rfl ?_
      refine V.ishl hC d_R_neverNow_33 ?_
      refine V.goto (tgt := 38) hC d_R_neverNow_34 (by decide) ?_
      refine V.ior hC d_R_neverNow_38 ?_
      obtain ⟨v7, ev7⟩ : ∃ y : Int32, y = x1 ||| ((1 : Int32) <<< (x2 &&& 31)) := ⟨_, rfl⟩
      replace h := h v7 ev7
      refine V.istore_n (y := v7) (lo' := [some (.ref (w.1 0)), some (.int v7), some (.int x2)]) hC d_R_neverNow_39 rfl rfl ev7 rfl ?_
      obtain ⟨v8, ev8⟩ : ∃ y : Int32, y = x2 + (1 : Int32) := ⟨_, rfl⟩
      replace h := h v8 ev8
      refine V.iinc (y := v8) (lo' := [some (.ref (w.1 0)), some (.int v7), some (.int v8)]) hC d_R_neverNow_40 rfl rfl (show v8 = _ + Int32.ofInt (1) from ev8) rfl ?_
      refine V.goto (tgt := 8) hC d_R_neverNow_43 (by decide) ?_
      exact V.msk [true, true, true] rfl h
set_option maxHeartbeats 4000000 in
set_option maxRecDepth 100000 in
theorem w_R_neverNow (w : Wd) (σ : Hp)  (P : Int32 → Hp → Prop) (h : wp_R_neverNow σ  P) : CtI μR w y_R_neverNow b_R_neverNow 3 (some .int) 7 [.ref (w.1 0)] σ P := by
  unfold wp_R_neverNow at h
  refine CtI.ofV (C := nC8) (lo := [some (.ref (w.1 0)), none, none]) exR (by decide +kernel) rfl rfl rfl (fun κ hC hR => ?_)
  refine V.aload_n hC d_R_neverNow_0 rfl rfl ?_
  refine V.callVN hC exR (w_R_asTold w σ  _ h) d_R_neverNow_1 mo_R_asTold qm_R_183 rfl rfl rfl rfl rfl rfl rfl (Nat.le_of_ble_eq_true rfl) (fun t10 h => ?_)
  refine V.iconst (v := 0) hC d_R_neverNow_4 (by decide) ?_
  refine V.istore_n (y := (0 : Int32)) (lo' := [some (.ref (w.1 0)), some (.int (0 : Int32)), none]) hC d_R_neverNow_5 rfl rfl rfl rfl ?_
  refine V.iconst (v := 0) hC d_R_neverNow_6 (by decide) ?_
  refine V.istore_n (y := (0 : Int32)) (lo' := [some (.ref (w.1 0)), some (.int (0 : Int32)), some (.int (0 : Int32))]) hC d_R_neverNow_7 rfl rfl rfl rfl ?_
  exact V.msk [true, true, true] rfl (wj_R_neverNow_8  hC hR  t10 (0 : Int32) (0 : Int32) h)
abbrev b_R_never : ByteArray := prog_10_method_71_code
def y_R_never : MethodName := ⟨nC8, "never", "()I"⟩
theorem d_R_never_0 : decode b_R_never 0 = .ok (.aload_n 0, 1) := by decide +kernel
theorem d_R_never_1 : decode b_R_never 1 = .ok (.invokevirtual 259, 3) := by decide +kernel
theorem d_R_never_4 : decode b_R_never 4 = .ok (.ireturn, 1) := by decide +kernel
theorem qm_R_259 : Cond.methodLink nC8 259 y_R_neverNow ∈ tbl := tbl_in 1239 (by decide +kernel) rfl
def wp_R_never (σ : Hp)  (P : Int32 → Hp → Prop) : Prop :=
  wp_R_neverNow σ (fun (r1 : Int32) (t2 : Hp) => P r1 t2)
set_option maxHeartbeats 4000000 in
set_option maxRecDepth 100000 in
theorem w_R_never (w : Wd) (σ : Hp)  (P : Int32 → Hp → Prop) (h : wp_R_never σ  P) : CtI μR w y_R_never b_R_never 1 (some .int) 8 [.ref (w.1 0)] σ P := by
  unfold wp_R_never at h
  refine CtI.ofV (C := nC8) (lo := [some (.ref (w.1 0))]) exR (by decide +kernel) rfl rfl rfl (fun κ hC hR => ?_)
  refine V.aload_n hC d_R_never_0 rfl rfl ?_
  refine V.callVI hC exR (w_R_neverNow w σ  _ h) d_R_never_1 mo_R_neverNow qm_R_259 rfl rfl rfl rfl rfl rfl rfl (Nat.le_of_ble_eq_true rfl) (fun r1 t2 h => ?_)
  exact hR _ _ _ _ h rfl d_R_never_4
abbrev b_R_leakedOf : ByteArray := prog_10_method_72_code
def y_R_leakedOf : MethodName := ⟨nC8, "leakedOf", "(I)I"⟩
theorem d_R_leakedOf_0 : decode b_R_leakedOf 0 = .ok (.aload_n 0, 1) := by decide +kernel
theorem d_R_leakedOf_1 : decode b_R_leakedOf 1 = .ok (.invokevirtual 183, 3) := by decide +kernel
theorem d_R_leakedOf_4 : decode b_R_leakedOf 4 = .ok (.aload_n 0, 1) := by decide +kernel
theorem d_R_leakedOf_5 : decode b_R_leakedOf 5 = .ok (.getfield 19, 3) := by decide +kernel
theorem d_R_leakedOf_8 : decode b_R_leakedOf 8 = .ok (.iload_n 1, 1) := by decide +kernel
theorem d_R_leakedOf_9 : decode b_R_leakedOf 9 = .ok (.iaload, 1) := by decide +kernel
theorem d_R_leakedOf_10 : decode b_R_leakedOf 10 = .ok (.istore_n 2, 1) := by decide +kernel
theorem d_R_leakedOf_11 : decode b_R_leakedOf 11 = .ok (.iconst 0, 1) := by decide +kernel
theorem d_R_leakedOf_12 : decode b_R_leakedOf 12 = .ok (.istore_n 3, 1) := by decide +kernel
theorem d_R_leakedOf_13 : decode b_R_leakedOf 13 = .ok (.iconst 0, 1) := by decide +kernel
theorem d_R_leakedOf_14 : decode b_R_leakedOf 14 = .ok (.istore 4, 2) := by decide +kernel
theorem d_R_leakedOf_16 : decode b_R_leakedOf 16 = .ok (.iload 4, 2) := by decide +kernel
theorem d_R_leakedOf_18 : decode b_R_leakedOf 18 = .ok (.bipush 10, 2) := by decide +kernel
theorem d_R_leakedOf_20 : decode b_R_leakedOf 20 = .ok (.if_icmp .ge 35, 3) := by decide +kernel
theorem d_R_leakedOf_23 : decode b_R_leakedOf 23 = .ok (.aload_n 0, 1) := by decide +kernel
theorem d_R_leakedOf_24 : decode b_R_leakedOf 24 = .ok (.getfield 19, 3) := by decide +kernel
theorem d_R_leakedOf_27 : decode b_R_leakedOf 27 = .ok (.iload_n 1, 1) := by decide +kernel
theorem d_R_leakedOf_28 : decode b_R_leakedOf 28 = .ok (.iload 4, 2) := by decide +kernel
theorem d_R_leakedOf_30 : decode b_R_leakedOf 30 = .ok (.iastore, 1) := by decide +kernel
theorem d_R_leakedOf_31 : decode b_R_leakedOf 31 = .ok (.iload_n 3, 1) := by decide +kernel
theorem d_R_leakedOf_32 : decode b_R_leakedOf 32 = .ok (.aload_n 0, 1) := by decide +kernel
theorem d_R_leakedOf_33 : decode b_R_leakedOf 33 = .ok (.invokevirtual 255, 3) := by decide +kernel
theorem d_R_leakedOf_36 : decode b_R_leakedOf 36 = .ok (.ifCond .eq 10, 3) := by decide +kernel
theorem d_R_leakedOf_39 : decode b_R_leakedOf 39 = .ok (.iconst 1, 1) := by decide +kernel
theorem d_R_leakedOf_40 : decode b_R_leakedOf 40 = .ok (.iload 4, 2) := by decide +kernel
theorem d_R_leakedOf_42 : decode b_R_leakedOf 42 = .ok (.ishl, 1) := by decide +kernel
theorem d_R_leakedOf_43 : decode b_R_leakedOf 43 = .ok (.goto 4, 3) := by decide +kernel
theorem d_R_leakedOf_46 : decode b_R_leakedOf 46 = .ok (.iconst 0, 1) := by decide +kernel
theorem d_R_leakedOf_47 : decode b_R_leakedOf 47 = .ok (.ior, 1) := by decide +kernel
theorem d_R_leakedOf_48 : decode b_R_leakedOf 48 = .ok (.istore_n 3, 1) := by decide +kernel
theorem d_R_leakedOf_49 : decode b_R_leakedOf 49 = .ok (.iinc 4 1, 3) := by decide +kernel
theorem d_R_leakedOf_52 : decode b_R_leakedOf 52 = .ok (.goto (-36), 3) := by decide +kernel
theorem d_R_leakedOf_55 : decode b_R_leakedOf 55 = .ok (.aload_n 0, 1) := by decide +kernel
theorem d_R_leakedOf_56 : decode b_R_leakedOf 56 = .ok (.getfield 19, 3) := by decide +kernel
theorem d_R_leakedOf_59 : decode b_R_leakedOf 59 = .ok (.iload_n 1, 1) := by decide +kernel
theorem d_R_leakedOf_60 : decode b_R_leakedOf 60 = .ok (.iload_n 2, 1) := by decide +kernel
theorem d_R_leakedOf_61 : decode b_R_leakedOf 61 = .ok (.iastore, 1) := by decide +kernel
theorem d_R_leakedOf_62 : decode b_R_leakedOf 62 = .ok (.iload_n 3, 1) := by decide +kernel
theorem d_R_leakedOf_63 : decode b_R_leakedOf 63 = .ok (.ireturn, 1) := by decide +kernel
theorem mo_R_leakedOf : MokV y_R_leakedOf b_R_leakedOf 5 (some .int) 1 := ⟨⟨(tbl_in 1254 (by decide +kernel) rfl), (tbl_in 70 (by decide +kernel) rfl)⟩, ⟨(tbl_in 1253 (by decide +kernel) rfl), tbl_lw _ (tbl_in 51 (by decide +kernel) rfl), (tbl_in 51 (by decide +kernel) rfl)⟩, ⟨by decide +kernel, by decide +kernel⟩, by decide +kernel⟩
def b_R_leakedOf_16_ (P : Int32 → Hp → Prop)  (I16 : Hp → Int32 → Int32 → Int32 → Int32 → Prop) (σ : Hp) (x1 : Int32) (x2 : Int32) (x3 : Int32) (x4 : Int32) : Prop :=
  (((10 : Int32) ≤ x4 → (vp_in x1 9) ∧ P x3 (st σ 4 (ix x1) x2)) ∧ (¬ (10 : Int32) ≤ x4 → (vp_in x1 9) ∧ wp_R_isSeen (st σ 4 (ix x1) x4) (fun (r4 : Int32) (t5 : Hp) => ((r4 = 0 → (∀ v7 : Int32, v7 = x3 ||| (0 : Int32) → (∀ v8 : Int32, v8 = x4 + (1 : Int32) → I16 t5 x1 x2 v7 v8))) ∧ (¬ r4 = 0 → (∀ v9 : Int32, v9 = x3 ||| ((1 : Int32) <<< (x4 &&& 31)) → (∀ v10 : Int32, v10 = x4 + (1 : Int32) → I16 t5 x1 x2 v9 v10)))))))
def j_R_leakedOf_16 (P : Int32 → Hp → Prop)  (σ : Hp) (x1 : Int32) (x2 : Int32) (x3 : Int32) (x4 : Int32) : Prop := ∀ I16 : Hp → Int32 → Int32 → Int32 → Int32 → Prop, (∀ (σ : Hp) (x1 : Int32) (x2 : Int32) (x3 : Int32) (x4 : Int32), b_R_leakedOf_16_  P  I16 σ x1 x2 x3 x4 → I16 σ x1 x2 x3 x4) → I16 σ x1 x2 x3 x4
def wp_R_leakedOf (σ : Hp) (a1 : Int32) (P : Int32 → Hp → Prop) : Prop :=
  wp_R_asTold σ (fun (t12 : Hp) => (vp_in a1 9) ∧ (∀ v14 : Int32, v14 = t12 4 (ix a1) → j_R_leakedOf_16 P t12 a1 v14 (0 : Int32) (0 : Int32)))
set_option maxHeartbeats 4000000 in
set_option maxRecDepth 100000 in
theorem wj_R_leakedOf_16 {w : Wd} {κ : Kx} {P : Int32 → Hp → Prop} (hC : Cx μR w 5 κ nC8 b_R_leakedOf 7) (hR : RtI μR w 5 κ b_R_leakedOf .int P)  : ∀ (σ : Hp) (x1 : Int32) (x2 : Int32) (x3 : Int32) (x4 : Int32), j_R_leakedOf_16  P  σ x1 x2 x3 x4 → V μR w 5 κ σ [some (.ref (w.1 0)), some (.int x1), some (.int x2), some (.int x3), some (.int x4)] 16 [] := by
  intro σ x1 x2 x3 x4 h
  refine h (fun σ x1 x2 x3 x4 => V μR w 5 κ σ [some (.ref (w.1 0)), some (.int x1), some (.int x2), some (.int x3), some (.int x4)] 16 []) (fun σ x1 x2 x3 x4 h => ?_)
  unfold b_R_leakedOf_16_ at h
  refine V.iload hC d_R_leakedOf_16 rfl ?_
  refine V.bipush (v := 10) hC d_R_leakedOf_18 (by decide) ?_
  refine V.icmp_ge (tgt := 55) hC d_R_leakedOf_20 (by decide) (fun c1 => ?_) (fun c1 => ?_)
  · replace h := h.1 c1
    refine V.aload_n hC d_R_leakedOf_55 rfl rfl ?_
    refine V.getR (j := 4) hC d_R_leakedOf_56 rfl rfl uC8 rfl rfl qf_R_19 ?_
    refine V.iload_n hC d_R_leakedOf_59 rfl rfl ?_
    refine V.iload_n hC d_R_leakedOf_60 rfl rfl ?_
    obtain ⟨b2, h⟩ := h
    refine V.iast hC d_R_leakedOf_61 rfl b2 ?_
    refine V.iload_n hC d_R_leakedOf_62 rfl rfl ?_
    exact hR _ _ _ _ h rfl d_R_leakedOf_63
  · replace h := h.2 c1
    refine V.aload_n hC d_R_leakedOf_23 rfl rfl ?_
    refine V.getR (j := 4) hC d_R_leakedOf_24 rfl rfl uC8 rfl rfl qf_R_19 ?_
    refine V.iload_n hC d_R_leakedOf_27 rfl rfl ?_
    refine V.iload hC d_R_leakedOf_28 rfl ?_
    obtain ⟨b3, h⟩ := h
    refine V.iast hC d_R_leakedOf_30 rfl b3 ?_
    refine V.iload_n hC d_R_leakedOf_31 rfl rfl ?_
    refine V.aload_n hC d_R_leakedOf_32 rfl rfl ?_
    refine V.callVI hC exR (w_R_isSeen w (st σ 4 (ix x1) x4)  _ h) d_R_leakedOf_33 mo_R_isSeen qm_R_255 rfl rfl rfl rfl rfl rfl rfl (Nat.le_of_ble_eq_true rfl) (fun r4 t5 h => ?_)
    refine V.if_eq (tgt := 46) hC d_R_leakedOf_36 (by decide) (fun c6 => ?_) (fun c6 => ?_)
    · replace h := h.1 c6
      refine V.iconst (v := 0) hC d_R_leakedOf_46 (by decide) ?_
      refine V.ior hC d_R_leakedOf_47 ?_
      obtain ⟨v7, ev7⟩ : ∃ y : Int32, y = x3 ||| (0 : Int32) := ⟨_, rfl⟩
      replace h := h v7 ev7
      refine V.istore_n (y := v7) (lo' := [some (.ref (w.1 0)), some (.int x1), some (.int x2), some (.int v7), some (.int x4)]) hC d_R_leakedOf_48 rfl rfl ev7 rfl ?_
      obtain ⟨v8, ev8⟩ : ∃ y : Int32, y = x4 + (1 : Int32) := ⟨_, rfl⟩
      replace h := h v8 ev8
      refine V.iinc (y := v8) (lo' := [some (.ref (w.1 0)), some (.int x1), some (.int x2), some (.int v7), some (.int v8)]) hC d_R_leakedOf_49 rfl rfl (show v8 = _ + Int32.ofInt (1) from ev8) rfl ?_
      refine V.goto (tgt := 16) hC d_R_leakedOf_52 (by decide) ?_
      exact V.msk [true, true, true, true, true] rfl h
    · replace h := h.2 c6
      refine V.iconst (v := 1) hC d_R_leakedOf_39 (by decide) ?_
      refine V.iload hC d_R_leakedOf_40 rfl ?_
      refine V.ishl hC d_R_leakedOf_42 ?_
      refine V.goto (tgt := 47) hC d_R_leakedOf_43 (by decide) ?_
      refine V.ior hC d_R_leakedOf_47 ?_
      obtain ⟨v9, ev9⟩ : ∃ y : Int32, y = x3 ||| ((1 : Int32) <<< (x4 &&& 31)) := ⟨_, rfl⟩
      replace h := h v9 ev9
      refine V.istore_n (y := v9) (lo' := [some (.ref (w.1 0)), some (.int x1), some (.int x2), some (.int v9), some (.int x4)]) hC d_R_leakedOf_48 rfl rfl ev9 rfl ?_
      obtain ⟨v10, ev10⟩ : ∃ y : Int32, y = x4 + (1 : Int32) := ⟨_, rfl⟩
      replace h := h v10 ev10
      refine V.iinc (y := v10) (lo' := [some (.ref (w.1 0)), some (.int x1), some (.int x2), some (.int v9), some (.int v10)]) hC d_R_leakedOf_49 rfl rfl (show v10 = _ + Int32.ofInt (1) from ev10) rfl ?_
      refine V.goto (tgt := 16) hC d_R_leakedOf_52 (by decide) ?_
      exact V.msk [true, true, true, true, true] rfl h
set_option maxHeartbeats 4000000 in
set_option maxRecDepth 100000 in
theorem w_R_leakedOf (w : Wd) (σ : Hp) (a1 : Int32) (P : Int32 → Hp → Prop) (h : wp_R_leakedOf σ a1 P) : CtI μR w y_R_leakedOf b_R_leakedOf 5 (some .int) 7 [.ref (w.1 0), .int a1] σ P := by
  unfold wp_R_leakedOf at h
  refine CtI.ofV (C := nC8) (lo := [some (.ref (w.1 0)), some (.int a1), none, none, none]) exR (by decide +kernel) rfl rfl rfl (fun κ hC hR => ?_)
  refine V.aload_n hC d_R_leakedOf_0 rfl rfl ?_
  refine V.callVN hC exR (w_R_asTold w σ  _ h) d_R_leakedOf_1 mo_R_asTold qm_R_183 rfl rfl rfl rfl rfl rfl rfl (Nat.le_of_ble_eq_true rfl) (fun t12 h => ?_)
  refine V.aload_n hC d_R_leakedOf_4 rfl rfl ?_
  refine V.getR (j := 4) hC d_R_leakedOf_5 rfl rfl uC8 rfl rfl qf_R_19 ?_
  refine V.iload_n hC d_R_leakedOf_8 rfl rfl ?_
  obtain ⟨b13, h⟩ := h
  refine V.iald hC d_R_leakedOf_9 rfl b13 ?_
  obtain ⟨v14, ev14⟩ : ∃ y : Int32, y = t12 4 (ix a1) := ⟨_, rfl⟩
  replace h := h v14 ev14
  refine V.istore_n (y := v14) (lo' := [some (.ref (w.1 0)), some (.int a1), some (.int v14), none, none]) hC d_R_leakedOf_10 rfl rfl ev14 rfl ?_
  refine V.iconst (v := 0) hC d_R_leakedOf_11 (by decide) ?_
  refine V.istore_n (y := (0 : Int32)) (lo' := [some (.ref (w.1 0)), some (.int a1), some (.int v14), some (.int (0 : Int32)), none]) hC d_R_leakedOf_12 rfl rfl rfl rfl ?_
  refine V.iconst (v := 0) hC d_R_leakedOf_13 (by decide) ?_
  refine V.istore (y := (0 : Int32)) (lo' := [some (.ref (w.1 0)), some (.int a1), some (.int v14), some (.int (0 : Int32)), some (.int (0 : Int32))]) hC d_R_leakedOf_14 rfl rfl rfl ?_
  exact V.msk [true, true, true, true, true] rfl (wj_R_leakedOf_16  hC hR  t12 a1 v14 (0 : Int32) (0 : Int32) h)
abbrev b_R_leaked : ByteArray := prog_10_method_73_code
def y_R_leaked : MethodName := ⟨nC8, "leaked", "(I)I"⟩
theorem d_R_leaked_0 : decode b_R_leaked 0 = .ok (.aload_n 0, 1) := by decide +kernel
theorem d_R_leaked_1 : decode b_R_leaked 1 = .ok (.iload_n 1, 1) := by decide +kernel
theorem d_R_leaked_2 : decode b_R_leaked 2 = .ok (.invokevirtual 142, 3) := by decide +kernel
theorem d_R_leaked_5 : decode b_R_leaked 5 = .ok (.ifCond .eq 11, 3) := by decide +kernel
theorem d_R_leaked_8 : decode b_R_leaked 8 = .ok (.aload_n 0, 1) := by decide +kernel
theorem d_R_leaked_9 : decode b_R_leaked 9 = .ok (.iload_n 1, 1) := by decide +kernel
theorem d_R_leaked_10 : decode b_R_leaked 10 = .ok (.invokevirtual 262, 3) := by decide +kernel
theorem d_R_leaked_13 : decode b_R_leaked 13 = .ok (.goto 5, 3) := by decide +kernel
theorem d_R_leaked_16 : decode b_R_leaked 16 = .ok (.bipush (-2), 2) := by decide +kernel
theorem d_R_leaked_18 : decode b_R_leaked 18 = .ok (.ireturn, 1) := by decide +kernel
theorem qm_R_262 : Cond.methodLink nC8 262 y_R_leakedOf ∈ tbl := tbl_in 1251 (by decide +kernel) rfl
def wp_R_leaked (σ : Hp) (a1 : Int32) (P : Int32 → Hp → Prop) : Prop :=
  wp_R_isHouse σ a1 (fun (r1 : Int32) (t2 : Hp) => ((r1 = 0 → P (-2 : Int32) t2) ∧ (¬ r1 = 0 → wp_R_leakedOf t2 a1 (fun (r4 : Int32) (t5 : Hp) => P r4 t5))))
set_option maxHeartbeats 4000000 in
set_option maxRecDepth 100000 in
theorem w_R_leaked (w : Wd) (σ : Hp) (a1 : Int32) (P : Int32 → Hp → Prop) (h : wp_R_leaked σ a1 P) : CtI μR w y_R_leaked b_R_leaked 2 (some .int) 8 [.ref (w.1 0), .int a1] σ P := by
  unfold wp_R_leaked at h
  refine CtI.ofV (C := nC8) (lo := [some (.ref (w.1 0)), some (.int a1)]) exR (by decide +kernel) rfl rfl rfl (fun κ hC hR => ?_)
  refine V.aload_n hC d_R_leaked_0 rfl rfl ?_
  refine V.iload_n hC d_R_leaked_1 rfl rfl ?_
  refine V.callVI hC exR (w_R_isHouse w σ a1 _ h) d_R_leaked_2 mo_R_isHouse qm_R_142 rfl rfl rfl rfl rfl rfl rfl (Nat.le_of_ble_eq_true rfl) (fun r1 t2 h => ?_)
  refine V.if_eq (tgt := 16) hC d_R_leaked_5 (by decide) (fun c3 => ?_) (fun c3 => ?_)
  · replace h := h.1 c3
    refine V.bipush (v := -2) hC d_R_leaked_16 (by decide) ?_
    exact hR _ _ _ _ h rfl d_R_leaked_18
  · replace h := h.2 c3
    refine V.aload_n hC d_R_leaked_8 rfl rfl ?_
    refine V.iload_n hC d_R_leaked_9 rfl rfl ?_
    refine V.callVI hC exR (w_R_leakedOf w t2 a1 _ h) d_R_leaked_10 mo_R_leakedOf qm_R_262 rfl rfl rfl rfl rfl rfl rfl (Nat.le_of_ble_eq_true rfl) (fun r4 t5 h => ?_)
    refine V.goto (tgt := 18) hC d_R_leaked_13 (by decide) ?_
    exact hR _ _ _ _ h rfl d_R_leaked_18
abbrev b_R_askOf : ByteArray := prog_10_method_74_code
def y_R_askOf : MethodName := ⟨nC8, "askOf", "(I)I"⟩
theorem d_R_askOf_0 : decode b_R_askOf 0 = .ok (.aload_n 0, 1) := by decide +kernel
theorem d_R_askOf_1 : decode b_R_askOf 1 = .ok (.invokevirtual 259, 3) := by decide +kernel
theorem d_R_askOf_4 : decode b_R_askOf 4 = .ok (.istore_n 2, 1) := by decide +kernel
theorem d_R_askOf_5 : decode b_R_askOf 5 = .ok (.iconst 0, 1) := by decide +kernel
theorem d_R_askOf_6 : decode b_R_askOf 6 = .ok (.istore_n 3, 1) := by decide +kernel
theorem d_R_askOf_7 : decode b_R_askOf 7 = .ok (.iload_n 3, 1) := by decide +kernel
theorem d_R_askOf_8 : decode b_R_askOf 8 = .ok (.aload_n 0, 1) := by decide +kernel
theorem d_R_askOf_9 : decode b_R_askOf 9 = .ok (.getfield 157, 3) := by decide +kernel
theorem d_R_askOf_12 : decode b_R_askOf 12 = .ok (.if_icmp .ge 62, 3) := by decide +kernel
theorem d_R_askOf_15 : decode b_R_askOf 15 = .ok (.aload_n 0, 1) := by decide +kernel
theorem d_R_askOf_16 : decode b_R_askOf 16 = .ok (.iconst 1, 1) := by decide +kernel
theorem d_R_askOf_17 : decode b_R_askOf 17 = .ok (.iload_n 3, 1) := by decide +kernel
theorem d_R_askOf_18 : decode b_R_askOf 18 = .ok (.ishl, 1) := by decide +kernel
theorem d_R_askOf_19 : decode b_R_askOf 19 = .ok (.putfield 176, 3) := by decide +kernel
theorem d_R_askOf_22 : decode b_R_askOf 22 = .ok (.aload_n 0, 1) := by decide +kernel
theorem d_R_askOf_23 : decode b_R_askOf 23 = .ok (.invokevirtual 186, 3) := by decide +kernel
theorem d_R_askOf_26 : decode b_R_askOf 26 = .ok (.aload_n 0, 1) := by decide +kernel
theorem d_R_askOf_27 : decode b_R_askOf 27 = .ok (.iload_n 1, 1) := by decide +kernel
theorem d_R_askOf_28 : decode b_R_askOf 28 = .ok (.invokevirtual 205, 3) := by decide +kernel
theorem d_R_askOf_31 : decode b_R_askOf 31 = .ok (.iconst 0, 1) := by decide +kernel
theorem d_R_askOf_32 : decode b_R_askOf 32 = .ok (.istore 4, 2) := by decide +kernel
theorem d_R_askOf_34 : decode b_R_askOf 34 = .ok (.iload 4, 2) := by decide +kernel
theorem d_R_askOf_36 : decode b_R_askOf 36 = .ok (.aload_n 0, 1) := by decide +kernel
theorem d_R_askOf_37 : decode b_R_askOf 37 = .ok (.getfield 116, 3) := by decide +kernel
theorem d_R_askOf_40 : decode b_R_askOf 40 = .ok (.if_icmp .ge 28, 3) := by decide +kernel
theorem d_R_askOf_43 : decode b_R_askOf 43 = .ok (.aload_n 0, 1) := by decide +kernel
theorem d_R_askOf_44 : decode b_R_askOf 44 = .ok (.getfield 77, 3) := by decide +kernel
theorem d_R_askOf_47 : decode b_R_askOf 47 = .ok (.bipush 8, 2) := by decide +kernel
theorem d_R_askOf_49 : decode b_R_askOf 49 = .ok (.iload_n 3, 1) := by decide +kernel
theorem d_R_askOf_50 : decode b_R_askOf 50 = .ok (.imul, 1) := by decide +kernel
theorem d_R_askOf_51 : decode b_R_askOf 51 = .ok (.iload 4, 2) := by decide +kernel
theorem d_R_askOf_53 : decode b_R_askOf 53 = .ok (.iadd, 1) := by decide +kernel
theorem d_R_askOf_54 : decode b_R_askOf 54 = .ok (.aload_n 0, 1) := by decide +kernel
theorem d_R_askOf_55 : decode b_R_askOf 55 = .ok (.getfield 59, 3) := by decide +kernel
theorem d_R_askOf_58 : decode b_R_askOf 58 = .ok (.iload 4, 2) := by decide +kernel
theorem d_R_askOf_60 : decode b_R_askOf 60 = .ok (.iaload, 1) := by decide +kernel
theorem d_R_askOf_61 : decode b_R_askOf 61 = .ok (.iastore, 1) := by decide +kernel
theorem d_R_askOf_62 : decode b_R_askOf 62 = .ok (.iinc 4 1, 3) := by decide +kernel
theorem d_R_askOf_65 : decode b_R_askOf 65 = .ok (.goto (-31), 3) := by decide +kernel
theorem d_R_askOf_68 : decode b_R_askOf 68 = .ok (.iinc 3 1, 3) := by decide +kernel
theorem d_R_askOf_71 : decode b_R_askOf 71 = .ok (.goto (-64), 3) := by decide +kernel
theorem d_R_askOf_74 : decode b_R_askOf 74 = .ok (.iconst (-1), 1) := by decide +kernel
theorem d_R_askOf_75 : decode b_R_askOf 75 = .ok (.istore_n 3, 1) := by decide +kernel
theorem d_R_askOf_76 : decode b_R_askOf 76 = .ok (.iconst 0, 1) := by decide +kernel
theorem d_R_askOf_77 : decode b_R_askOf 77 = .ok (.istore 4, 2) := by decide +kernel
theorem d_R_askOf_79 : decode b_R_askOf 79 = .ok (.iconst 0, 1) := by decide +kernel
theorem d_R_askOf_80 : decode b_R_askOf 80 = .ok (.istore 5, 2) := by decide +kernel
theorem d_R_askOf_82 : decode b_R_askOf 82 = .ok (.iload 5, 2) := by decide +kernel
theorem d_R_askOf_84 : decode b_R_askOf 84 = .ok (.aload_n 0, 1) := by decide +kernel
theorem d_R_askOf_85 : decode b_R_askOf 85 = .ok (.getfield 116, 3) := by decide +kernel
theorem d_R_askOf_88 : decode b_R_askOf 88 = .ok (.if_icmp .ge 169, 3) := by decide +kernel
theorem d_R_askOf_91 : decode b_R_askOf 91 = .ok (.iconst 0, 1) := by decide +kernel
theorem d_R_askOf_92 : decode b_R_askOf 92 = .ok (.istore 6, 2) := by decide +kernel
theorem d_R_askOf_94 : decode b_R_askOf 94 = .ok (.iconst 0, 1) := by decide +kernel
theorem d_R_askOf_95 : decode b_R_askOf 95 = .ok (.istore 7, 2) := by decide +kernel
theorem d_R_askOf_97 : decode b_R_askOf 97 = .ok (.iload 7, 2) := by decide +kernel
theorem d_R_askOf_99 : decode b_R_askOf 99 = .ok (.aload_n 0, 1) := by decide +kernel
theorem d_R_askOf_100 : decode b_R_askOf 100 = .ok (.getfield 157, 3) := by decide +kernel
theorem d_R_askOf_103 : decode b_R_askOf 103 = .ok (.if_icmp .ge 103, 3) := by decide +kernel
theorem d_R_askOf_106 : decode b_R_askOf 106 = .ok (.iconst 0, 1) := by decide +kernel
theorem d_R_askOf_107 : decode b_R_askOf 107 = .ok (.istore 8, 2) := by decide +kernel
theorem d_R_askOf_109 : decode b_R_askOf 109 = .ok (.iconst 0, 1) := by decide +kernel
theorem d_R_askOf_110 : decode b_R_askOf 110 = .ok (.istore 9, 2) := by decide +kernel
theorem d_R_askOf_112 : decode b_R_askOf 112 = .ok (.iload 9, 2) := by decide +kernel
theorem d_R_askOf_114 : decode b_R_askOf 114 = .ok (.aload_n 0, 1) := by decide +kernel
theorem d_R_askOf_115 : decode b_R_askOf 115 = .ok (.getfield 157, 3) := by decide +kernel
theorem d_R_askOf_118 : decode b_R_askOf 118 = .ok (.if_icmp .ge 66, 3) := by decide +kernel
theorem d_R_askOf_121 : decode b_R_askOf 121 = .ok (.iload 8, 2) := by decide +kernel
theorem d_R_askOf_123 : decode b_R_askOf 123 = .ok (.iload_n 2, 1) := by decide +kernel
theorem d_R_askOf_124 : decode b_R_askOf 124 = .ok (.iload 7, 2) := by decide +kernel
theorem d_R_askOf_126 : decode b_R_askOf 126 = .ok (.invokestatic 179, 3) := by decide +kernel
theorem d_R_askOf_129 : decode b_R_askOf 129 = .ok (.ifCond .eq 45, 3) := by decide +kernel
theorem d_R_askOf_132 : decode b_R_askOf 132 = .ok (.iload_n 2, 1) := by decide +kernel
theorem d_R_askOf_133 : decode b_R_askOf 133 = .ok (.iload 9, 2) := by decide +kernel
theorem d_R_askOf_135 : decode b_R_askOf 135 = .ok (.invokestatic 179, 3) := by decide +kernel
theorem d_R_askOf_138 : decode b_R_askOf 138 = .ok (.ifCond .eq 36, 3) := by decide +kernel
theorem d_R_askOf_141 : decode b_R_askOf 141 = .ok (.aload_n 0, 1) := by decide +kernel
theorem d_R_askOf_142 : decode b_R_askOf 142 = .ok (.getfield 77, 3) := by decide +kernel
theorem d_R_askOf_145 : decode b_R_askOf 145 = .ok (.bipush 8, 2) := by decide +kernel
theorem d_R_askOf_147 : decode b_R_askOf 147 = .ok (.iload 7, 2) := by decide +kernel
theorem d_R_askOf_149 : decode b_R_askOf 149 = .ok (.imul, 1) := by decide +kernel
theorem d_R_askOf_150 : decode b_R_askOf 150 = .ok (.iload 5, 2) := by decide +kernel
theorem d_R_askOf_152 : decode b_R_askOf 152 = .ok (.iadd, 1) := by decide +kernel
theorem d_R_askOf_153 : decode b_R_askOf 153 = .ok (.iaload, 1) := by decide +kernel
theorem d_R_askOf_154 : decode b_R_askOf 154 = .ok (.aload_n 0, 1) := by decide +kernel
theorem d_R_askOf_155 : decode b_R_askOf 155 = .ok (.getfield 77, 3) := by decide +kernel
theorem d_R_askOf_158 : decode b_R_askOf 158 = .ok (.bipush 8, 2) := by decide +kernel
theorem d_R_askOf_160 : decode b_R_askOf 160 = .ok (.iload 9, 2) := by decide +kernel
theorem d_R_askOf_162 : decode b_R_askOf 162 = .ok (.imul, 1) := by decide +kernel
theorem d_R_askOf_163 : decode b_R_askOf 163 = .ok (.iload 5, 2) := by decide +kernel
theorem d_R_askOf_165 : decode b_R_askOf 165 = .ok (.iadd, 1) := by decide +kernel
theorem d_R_askOf_166 : decode b_R_askOf 166 = .ok (.iaload, 1) := by decide +kernel
theorem d_R_askOf_167 : decode b_R_askOf 167 = .ok (.if_icmp .ne 7, 3) := by decide +kernel
theorem d_R_askOf_170 : decode b_R_askOf 170 = .ok (.iconst 1, 1) := by decide +kernel
theorem d_R_askOf_171 : decode b_R_askOf 171 = .ok (.goto 4, 3) := by decide +kernel
theorem d_R_askOf_174 : decode b_R_askOf 174 = .ok (.iconst 0, 1) := by decide +kernel
theorem d_R_askOf_175 : decode b_R_askOf 175 = .ok (.iadd, 1) := by decide +kernel
theorem d_R_askOf_176 : decode b_R_askOf 176 = .ok (.istore 8, 2) := by decide +kernel
theorem d_R_askOf_178 : decode b_R_askOf 178 = .ok (.iinc 9 1, 3) := by decide +kernel
theorem d_R_askOf_181 : decode b_R_askOf 181 = .ok (.goto (-69), 3) := by decide +kernel
theorem d_R_askOf_184 : decode b_R_askOf 184 = .ok (.iload 8, 2) := by decide +kernel
theorem d_R_askOf_186 : decode b_R_askOf 186 = .ok (.iload 6, 2) := by decide +kernel
theorem d_R_askOf_188 : decode b_R_askOf 188 = .ok (.if_icmp .le 8, 3) := by decide +kernel
theorem d_R_askOf_191 : decode b_R_askOf 191 = .ok (.iload 8, 2) := by decide +kernel
theorem d_R_askOf_193 : decode b_R_askOf 193 = .ok (.goto 5, 3) := by decide +kernel
theorem d_R_askOf_196 : decode b_R_askOf 196 = .ok (.iload 6, 2) := by decide +kernel
theorem d_R_askOf_198 : decode b_R_askOf 198 = .ok (.istore 6, 2) := by decide +kernel
theorem d_R_askOf_200 : decode b_R_askOf 200 = .ok (.iinc 7 1, 3) := by decide +kernel
theorem d_R_askOf_203 : decode b_R_askOf 203 = .ok (.goto (-106), 3) := by decide +kernel
theorem d_R_askOf_206 : decode b_R_askOf 206 = .ok (.iload_n 3, 1) := by decide +kernel
theorem d_R_askOf_207 : decode b_R_askOf 207 = .ok (.iconst (-1), 1) := by decide +kernel
theorem d_R_askOf_208 : decode b_R_askOf 208 = .ok (.if_icmp .eq 10, 3) := by decide +kernel
theorem d_R_askOf_211 : decode b_R_askOf 211 = .ok (.iload 6, 2) := by decide +kernel
theorem d_R_askOf_213 : decode b_R_askOf 213 = .ok (.iload 4, 2) := by decide +kernel
theorem d_R_askOf_215 : decode b_R_askOf 215 = .ok (.if_icmp .ge 7, 3) := by decide +kernel
theorem d_R_askOf_218 : decode b_R_askOf 218 = .ok (.iconst 1, 1) := by decide +kernel
theorem d_R_askOf_219 : decode b_R_askOf 219 = .ok (.goto 4, 3) := by decide +kernel
theorem d_R_askOf_222 : decode b_R_askOf 222 = .ok (.iconst 0, 1) := by decide +kernel
theorem d_R_askOf_223 : decode b_R_askOf 223 = .ok (.istore 7, 2) := by decide +kernel
theorem d_R_askOf_225 : decode b_R_askOf 225 = .ok (.iload 7, 2) := by decide +kernel
theorem d_R_askOf_227 : decode b_R_askOf 227 = .ok (.ifCond .eq 8, 3) := by decide +kernel
theorem d_R_askOf_230 : decode b_R_askOf 230 = .ok (.iload 5, 2) := by decide +kernel
theorem d_R_askOf_232 : decode b_R_askOf 232 = .ok (.goto 4, 3) := by decide +kernel
theorem d_R_askOf_235 : decode b_R_askOf 235 = .ok (.iload_n 3, 1) := by decide +kernel
theorem d_R_askOf_236 : decode b_R_askOf 236 = .ok (.istore_n 3, 1) := by decide +kernel
theorem d_R_askOf_237 : decode b_R_askOf 237 = .ok (.iload 7, 2) := by decide +kernel
theorem d_R_askOf_239 : decode b_R_askOf 239 = .ok (.ifCond .eq 8, 3) := by decide +kernel
theorem d_R_askOf_242 : decode b_R_askOf 242 = .ok (.iload 6, 2) := by decide +kernel
theorem d_R_askOf_244 : decode b_R_askOf 244 = .ok (.goto 5, 3) := by decide +kernel
theorem d_R_askOf_247 : decode b_R_askOf 247 = .ok (.iload 4, 2) := by decide +kernel
theorem d_R_askOf_249 : decode b_R_askOf 249 = .ok (.istore 4, 2) := by decide +kernel
theorem d_R_askOf_251 : decode b_R_askOf 251 = .ok (.iinc 5 1, 3) := by decide +kernel
theorem d_R_askOf_254 : decode b_R_askOf 254 = .ok (.goto (-172), 3) := by decide +kernel
theorem d_R_askOf_257 : decode b_R_askOf 257 = .ok (.iload_n 3, 1) := by decide +kernel
theorem d_R_askOf_258 : decode b_R_askOf 258 = .ok (.ireturn, 1) := by decide +kernel
theorem qf_R_77 : Cond.fieldLink nC8 77 (fC8 28).1 (fC8 28).2.1 (fC8 28).2.2.1 ∈ tbl := tbl_in 896 (by decide +kernel) rfl
theorem mo_R_askOf : MokV y_R_askOf b_R_askOf 10 (some .int) 1 := ⟨⟨(tbl_in 1262 (by decide +kernel) rfl), (tbl_in 70 (by decide +kernel) rfl)⟩, ⟨(tbl_in 1261 (by decide +kernel) rfl), tbl_lw _ (tbl_in 52 (by decide +kernel) rfl), (tbl_in 52 (by decide +kernel) rfl)⟩, ⟨by decide +kernel, by decide +kernel⟩, by decide +kernel⟩
def j_R_askOf_236 (P : Int32 → Hp → Prop) (I82 : Hp → Int32 → Int32 → Int32 → Int32 → Prop) (σ : Hp) (x2 : Int32) (x4 : Int32) (x5 : Int32) (x6 : Int32) (x7 : Int32) (s0 : Int32) : Prop :=
  ((x7 = 0 → (∀ v2 : Int32, v2 = x5 + (1 : Int32) → I82 σ x2 s0 x4 v2)) ∧ (¬ x7 = 0 → (∀ v3 : Int32, v3 = x5 + (1 : Int32) → I82 σ x2 s0 x6 v3)))
def j_R_askOf_223 (P : Int32 → Hp → Prop) (I82 : Hp → Int32 → Int32 → Int32 → Int32 → Prop) (σ : Hp) (x2 : Int32) (x3 : Int32) (x4 : Int32) (x5 : Int32) (x6 : Int32) (s0 : Int32) : Prop :=
  ((s0 = 0 → j_R_askOf_236 P I82 σ x2 x4 x5 x6 s0 x3) ∧ (¬ s0 = 0 → j_R_askOf_236 P I82 σ x2 x4 x5 x6 s0 x5))
def j_R_askOf_218 (P : Int32 → Hp → Prop) (I82 : Hp → Int32 → Int32 → Int32 → Int32 → Prop) (σ : Hp) (x2 : Int32) (x3 : Int32) (x4 : Int32) (x5 : Int32) (x6 : Int32) : Prop :=
  j_R_askOf_223 P I82 σ x2 x3 x4 x5 x6 (1 : Int32)
def b_R_askOf_112_ (P : Int32 → Hp → Prop) (I82 : Hp → Int32 → Int32 → Int32 → Int32 → Prop) (I97 : Hp → Int32 → Int32 → Int32 → Int32 → Int32 → Int32 → Prop) (I112 : Hp → Int32 → Int32 → Int32 → Int32 → Int32 → Int32 → Int32 → Int32 → Prop) (σ : Hp) (x2 : Int32) (x3 : Int32) (x4 : Int32) (x5 : Int32) (x6 : Int32) (x7 : Int32) (x8 : Int32) (x9 : Int32) : Prop :=
  (((σ 0 10) ≤ x9 → ((x8 ≤ x6 → (∀ v7 : Int32, v7 = x7 + (1 : Int32) → I97 σ x2 x3 x4 x5 x6 v7)) ∧ (¬ x8 ≤ x6 → (∀ v8 : Int32, v8 = x7 + (1 : Int32) → I97 σ x2 x3 x4 x5 x8 v8)))) ∧ (¬ (σ 0 10) ≤ x9 → wp_R_isIn σ x2 x7 (fun (r9 : Int32) (t10 : Hp) => ((r9 = 0 → (∀ v12 : Int32, v12 = x8 + (0 : Int32) → (∀ v13 : Int32, v13 = x9 + (1 : Int32) → I112 t10 x2 x3 x4 x5 x6 x7 v12 v13))) ∧ (¬ r9 = 0 → wp_R_isIn t10 x2 x9 (fun (r14 : Int32) (t15 : Hp) => ((r14 = 0 → (∀ v17 : Int32, v17 = x8 + (0 : Int32) → (∀ v18 : Int32, v18 = x9 + (1 : Int32) → I112 t15 x2 x3 x4 x5 x6 x7 v17 v18))) ∧ (¬ r14 = 0 → (vp_in (((8 : Int32) * x7) + x5) 96) ∧ (vp_in (((8 : Int32) * x9) + x5) 96) ∧ ((¬ (t15 23 (ix (((8 : Int32) * x7) + x5))) = (t15 23 (ix (((8 : Int32) * x9) + x5))) → (∀ v22 : Int32, v22 = x8 + (0 : Int32) → (∀ v23 : Int32, v23 = x9 + (1 : Int32) → I112 t15 x2 x3 x4 x5 x6 x7 v22 v23))) ∧ ((t15 23 (ix (((8 : Int32) * x7) + x5))) = (t15 23 (ix (((8 : Int32) * x9) + x5))) → (∀ v24 : Int32, v24 = x8 + (1 : Int32) → (∀ v25 : Int32, v25 = x9 + (1 : Int32) → I112 t15 x2 x3 x4 x5 x6 x7 v24 v25))))))))))))
def j_R_askOf_112 (P : Int32 → Hp → Prop) (I82 : Hp → Int32 → Int32 → Int32 → Int32 → Prop) (I97 : Hp → Int32 → Int32 → Int32 → Int32 → Int32 → Int32 → Prop) (σ : Hp) (x2 : Int32) (x3 : Int32) (x4 : Int32) (x5 : Int32) (x6 : Int32) (x7 : Int32) (x8 : Int32) (x9 : Int32) : Prop := ∀ I112 : Hp → Int32 → Int32 → Int32 → Int32 → Int32 → Int32 → Int32 → Int32 → Prop, (∀ (σ : Hp) (x2 : Int32) (x3 : Int32) (x4 : Int32) (x5 : Int32) (x6 : Int32) (x7 : Int32) (x8 : Int32) (x9 : Int32), b_R_askOf_112_  P I82 I97 I112 σ x2 x3 x4 x5 x6 x7 x8 x9 → I112 σ x2 x3 x4 x5 x6 x7 x8 x9) → I112 σ x2 x3 x4 x5 x6 x7 x8 x9
def b_R_askOf_97_ (P : Int32 → Hp → Prop) (I82 : Hp → Int32 → Int32 → Int32 → Int32 → Prop) (I97 : Hp → Int32 → Int32 → Int32 → Int32 → Int32 → Int32 → Prop) (σ : Hp) (x2 : Int32) (x3 : Int32) (x4 : Int32) (x5 : Int32) (x6 : Int32) (x7 : Int32) : Prop :=
  (((σ 0 10) ≤ x7 → ((x3 = (-1 : Int32) → j_R_askOf_218 P I82 σ x2 x3 x4 x5 x6) ∧ (¬ x3 = (-1 : Int32) → ((x4 ≤ x6 → j_R_askOf_223 P I82 σ x2 x3 x4 x5 x6 (0 : Int32)) ∧ (¬ x4 ≤ x6 → j_R_askOf_218 P I82 σ x2 x3 x4 x5 x6))))) ∧ (¬ (σ 0 10) ≤ x7 → j_R_askOf_112 P I82 I97 σ x2 x3 x4 x5 x6 x7 (0 : Int32) (0 : Int32)))
def j_R_askOf_97 (P : Int32 → Hp → Prop) (I82 : Hp → Int32 → Int32 → Int32 → Int32 → Prop) (σ : Hp) (x2 : Int32) (x3 : Int32) (x4 : Int32) (x5 : Int32) (x6 : Int32) (x7 : Int32) : Prop := ∀ I97 : Hp → Int32 → Int32 → Int32 → Int32 → Int32 → Int32 → Prop, (∀ (σ : Hp) (x2 : Int32) (x3 : Int32) (x4 : Int32) (x5 : Int32) (x6 : Int32) (x7 : Int32), b_R_askOf_97_  P I82 I97 σ x2 x3 x4 x5 x6 x7 → I97 σ x2 x3 x4 x5 x6 x7) → I97 σ x2 x3 x4 x5 x6 x7
def b_R_askOf_82_ (P : Int32 → Hp → Prop)  (I82 : Hp → Int32 → Int32 → Int32 → Int32 → Prop) (σ : Hp) (x2 : Int32) (x3 : Int32) (x4 : Int32) (x5 : Int32) : Prop :=
  (((σ 0 2) ≤ x5 → P x3 σ) ∧ (¬ (σ 0 2) ≤ x5 → j_R_askOf_97 P I82 σ x2 x3 x4 x5 (0 : Int32) (0 : Int32)))
def j_R_askOf_82 (P : Int32 → Hp → Prop)  (σ : Hp) (x2 : Int32) (x3 : Int32) (x4 : Int32) (x5 : Int32) : Prop := ∀ I82 : Hp → Int32 → Int32 → Int32 → Int32 → Prop, (∀ (σ : Hp) (x2 : Int32) (x3 : Int32) (x4 : Int32) (x5 : Int32), b_R_askOf_82_  P  I82 σ x2 x3 x4 x5 → I82 σ x2 x3 x4 x5) → I82 σ x2 x3 x4 x5
def b_R_askOf_34_ (P : Int32 → Hp → Prop) (I7 : Hp → Int32 → Int32 → Int32 → Prop) (I34 : Hp → Int32 → Int32 → Int32 → Int32 → Prop) (σ : Hp) (x1 : Int32) (x2 : Int32) (x3 : Int32) (x4 : Int32) : Prop :=
  (((σ 0 2) ≤ x4 → (∀ v31 : Int32, v31 = x3 + (1 : Int32) → I7 σ x1 x2 v31)) ∧ (¬ (σ 0 2) ≤ x4 → (vp_in x4 8) ∧ (vp_in (((8 : Int32) * x3) + x4) 96) ∧ (∀ v34 : Int32, v34 = x4 + (1 : Int32) → I34 (st σ 23 (ix (((8 : Int32) * x3) + x4)) (σ 17 (ix x4))) x1 x2 x3 v34)))
def j_R_askOf_34 (P : Int32 → Hp → Prop) (I7 : Hp → Int32 → Int32 → Int32 → Prop) (σ : Hp) (x1 : Int32) (x2 : Int32) (x3 : Int32) (x4 : Int32) : Prop := ∀ I34 : Hp → Int32 → Int32 → Int32 → Int32 → Prop, (∀ (σ : Hp) (x1 : Int32) (x2 : Int32) (x3 : Int32) (x4 : Int32), b_R_askOf_34_  P I7 I34 σ x1 x2 x3 x4 → I34 σ x1 x2 x3 x4) → I34 σ x1 x2 x3 x4
def b_R_askOf_7_ (P : Int32 → Hp → Prop)  (I7 : Hp → Int32 → Int32 → Int32 → Prop) (σ : Hp) (x1 : Int32) (x2 : Int32) (x3 : Int32) : Prop :=
  (((σ 0 10) ≤ x3 → j_R_askOf_82 P σ x2 (-1 : Int32) (0 : Int32) (0 : Int32)) ∧ (¬ (σ 0 10) ≤ x3 → wp_R_lays (st σ 0 17 ((1 : Int32) <<< (x3 &&& 31))) (fun (t37 : Hp) => wp_R_purses t37 x1 (fun (t39 : Hp) => j_R_askOf_34 P I7 t39 x1 x2 x3 (0 : Int32)))))
def j_R_askOf_7 (P : Int32 → Hp → Prop)  (σ : Hp) (x1 : Int32) (x2 : Int32) (x3 : Int32) : Prop := ∀ I7 : Hp → Int32 → Int32 → Int32 → Prop, (∀ (σ : Hp) (x1 : Int32) (x2 : Int32) (x3 : Int32), b_R_askOf_7_  P  I7 σ x1 x2 x3 → I7 σ x1 x2 x3) → I7 σ x1 x2 x3
def wp_R_askOf (σ : Hp) (a1 : Int32) (P : Int32 → Hp → Prop) : Prop :=
  wp_R_neverNow σ (fun (r40 : Int32) (t41 : Hp) => j_R_askOf_7 P t41 a1 r40 (0 : Int32))
set_option maxHeartbeats 4000000 in
set_option maxRecDepth 100000 in
theorem wj_R_askOf_236 {w : Wd} {κ : Kx} {P : Int32 → Hp → Prop} (hC : Cx μR w 10 κ nC8 b_R_askOf 8) (hR : RtI μR w 10 κ b_R_askOf .int P) {I82 : Hp → Int32 → Int32 → Int32 → Int32 → Prop} (hI82 : ∀ σ x2 x3 x4 x5, I82 σ x2 x3 x4 x5 → V μR w 10 κ σ [some (.ref (w.1 0)), none, some (.int x2), some (.int x3), some (.int x4), some (.int x5), none, none, none, none] 82 []) : ∀ (σ : Hp) (x2 : Int32) (x4 : Int32) (x5 : Int32) (x6 : Int32) (x7 : Int32) (s0 : Int32), j_R_askOf_236  P I82 σ x2 x4 x5 x6 x7 s0 → V μR w 10 κ σ [some (.ref (w.1 0)), none, some (.int x2), none, some (.int x4), some (.int x5), some (.int x6), some (.int x7), none, none] 236 [.int s0] := by
  intro σ x2 x4 x5 x6 x7 s0 h
  unfold j_R_askOf_236 at h
  refine V.istore_n (y := s0) (lo' := [some (.ref (w.1 0)), none, some (.int x2), some (.int s0), some (.int x4), some (.int x5), some (.int x6), some (.int x7), none, none]) hC d_R_askOf_236 rfl rfl rfl rfl ?_
  refine V.iload hC d_R_askOf_237 rfl ?_
  refine V.if_eq (tgt := 247) hC d_R_askOf_239 (by decide) (fun c1 => ?_) (fun c1 => ?_)
  · replace h := h.1 c1
    refine V.iload hC d_R_askOf_247 rfl ?_
    refine V.istore (y := x4) (lo' := [some (.ref (w.1 0)), none, some (.int x2), some (.int s0), some (.int x4), some (.int x5), some (.int x6), some (.int x7), none, none]) hC d_R_askOf_249 rfl rfl rfl ?_
    obtain ⟨v2, ev2⟩ : ∃ y : Int32, y = x5 + (1 : Int32) := ⟨_, rfl⟩
    replace h := h v2 ev2
    refine V.iinc (y := v2) (lo' := [some (.ref (w.1 0)), none, some (.int x2), some (.int s0), some (.int x4), some (.int v2), some (.int x6), some (.int x7), none, none]) hC d_R_askOf_251 rfl rfl (show v2 = _ + Int32.ofInt (1) from ev2) rfl ?_
    refine V.goto (tgt := 82) hC d_R_askOf_254 (by decide) ?_
    exact V.msk [true, false, true, true, true, true, false, false, false, false] rfl (hI82 σ x2 s0 x4 v2 h)
  · replace h := h.2 c1
    refine V.iload hC d_R_askOf_242 rfl ?_
    refine V.goto (tgt := 249) hC d_R_askOf_244 (by decide) ?_
    refine V.istore (y := x6) (lo' := [some (.ref (w.1 0)), none, some (.int x2), some (.int s0), some (.int x6), some (.int x5), some (.int x6), some (.int x7), none, none]) hC d_R_askOf_249 rfl rfl rfl ?_
    obtain ⟨v3, ev3⟩ : ∃ y : Int32, y = x5 + (1 : Int32) := ⟨_, rfl⟩
    replace h := h v3 ev3
    refine V.iinc (y := v3) (lo' := [some (.ref (w.1 0)), none, some (.int x2), some (.int s0), some (.int x6), some (.int v3), some (.int x6), some (.int x7), none, none]) hC d_R_askOf_251 rfl rfl (show v3 = _ + Int32.ofInt (1) from ev3) rfl ?_
    refine V.goto (tgt := 82) hC d_R_askOf_254 (by decide) ?_
    exact V.msk [true, false, true, true, true, true, false, false, false, false] rfl (hI82 σ x2 s0 x6 v3 h)
set_option maxHeartbeats 4000000 in
set_option maxRecDepth 100000 in
theorem wj_R_askOf_223 {w : Wd} {κ : Kx} {P : Int32 → Hp → Prop} (hC : Cx μR w 10 κ nC8 b_R_askOf 8) (hR : RtI μR w 10 κ b_R_askOf .int P) {I82 : Hp → Int32 → Int32 → Int32 → Int32 → Prop} (hI82 : ∀ σ x2 x3 x4 x5, I82 σ x2 x3 x4 x5 → V μR w 10 κ σ [some (.ref (w.1 0)), none, some (.int x2), some (.int x3), some (.int x4), some (.int x5), none, none, none, none] 82 []) : ∀ (σ : Hp) (x2 : Int32) (x3 : Int32) (x4 : Int32) (x5 : Int32) (x6 : Int32) (s0 : Int32), j_R_askOf_223  P I82 σ x2 x3 x4 x5 x6 s0 → V μR w 10 κ σ [some (.ref (w.1 0)), none, some (.int x2), some (.int x3), some (.int x4), some (.int x5), some (.int x6), none, none, none] 223 [.int s0] := by
  intro σ x2 x3 x4 x5 x6 s0 h
  unfold j_R_askOf_223 at h
  refine V.istore (y := s0) (lo' := [some (.ref (w.1 0)), none, some (.int x2), some (.int x3), some (.int x4), some (.int x5), some (.int x6), some (.int s0), none, none]) hC d_R_askOf_223 rfl rfl rfl ?_
  refine V.iload hC d_R_askOf_225 rfl ?_
  refine V.if_eq (tgt := 235) hC d_R_askOf_227 (by decide) (fun c4 => ?_) (fun c4 => ?_)
  · replace h := h.1 c4
    refine V.iload_n hC d_R_askOf_235 rfl rfl ?_
    exact V.msk [true, false, true, false, true, true, true, true, false, false] rfl (wj_R_askOf_236  hC hR hI82 σ x2 x4 x5 x6 s0 x3 h)
  · replace h := h.2 c4
    refine V.iload hC d_R_askOf_230 rfl ?_
    refine V.goto (tgt := 236) hC d_R_askOf_232 (by decide) ?_
    exact V.msk [true, false, true, false, true, true, true, true, false, false] rfl (wj_R_askOf_236  hC hR hI82 σ x2 x4 x5 x6 s0 x5 h)
set_option maxHeartbeats 4000000 in
set_option maxRecDepth 100000 in
theorem wj_R_askOf_218 {w : Wd} {κ : Kx} {P : Int32 → Hp → Prop} (hC : Cx μR w 10 κ nC8 b_R_askOf 8) (hR : RtI μR w 10 κ b_R_askOf .int P) {I82 : Hp → Int32 → Int32 → Int32 → Int32 → Prop} (hI82 : ∀ σ x2 x3 x4 x5, I82 σ x2 x3 x4 x5 → V μR w 10 κ σ [some (.ref (w.1 0)), none, some (.int x2), some (.int x3), some (.int x4), some (.int x5), none, none, none, none] 82 []) : ∀ (σ : Hp) (x2 : Int32) (x3 : Int32) (x4 : Int32) (x5 : Int32) (x6 : Int32), j_R_askOf_218  P I82 σ x2 x3 x4 x5 x6 → V μR w 10 κ σ [some (.ref (w.1 0)), none, some (.int x2), some (.int x3), some (.int x4), some (.int x5), some (.int x6), none, none, none] 218 [] := by
  intro σ x2 x3 x4 x5 x6 h
  unfold j_R_askOf_218 at h
  refine V.iconst (v := 1) hC d_R_askOf_218 (by decide) ?_
  refine V.goto (tgt := 223) hC d_R_askOf_219 (by decide) ?_
  exact V.msk [true, false, true, true, true, true, true, false, false, false] rfl (wj_R_askOf_223  hC hR hI82 σ x2 x3 x4 x5 x6 (1 : Int32) h)
set_option maxHeartbeats 4000000 in
set_option maxRecDepth 100000 in
theorem wj_R_askOf_112 {w : Wd} {κ : Kx} {P : Int32 → Hp → Prop} (hC : Cx μR w 10 κ nC8 b_R_askOf 8) (hR : RtI μR w 10 κ b_R_askOf .int P) {I82 : Hp → Int32 → Int32 → Int32 → Int32 → Prop} (hI82 : ∀ σ x2 x3 x4 x5, I82 σ x2 x3 x4 x5 → V μR w 10 κ σ [some (.ref (w.1 0)), none, some (.int x2), some (.int x3), some (.int x4), some (.int x5), none, none, none, none] 82 []) {I97 : Hp → Int32 → Int32 → Int32 → Int32 → Int32 → Int32 → Prop} (hI97 : ∀ σ x2 x3 x4 x5 x6 x7, I97 σ x2 x3 x4 x5 x6 x7 → V μR w 10 κ σ [some (.ref (w.1 0)), none, some (.int x2), some (.int x3), some (.int x4), some (.int x5), some (.int x6), some (.int x7), none, none] 97 []) : ∀ (σ : Hp) (x2 : Int32) (x3 : Int32) (x4 : Int32) (x5 : Int32) (x6 : Int32) (x7 : Int32) (x8 : Int32) (x9 : Int32), j_R_askOf_112  P I82 I97 σ x2 x3 x4 x5 x6 x7 x8 x9 → V μR w 10 κ σ [some (.ref (w.1 0)), none, some (.int x2), some (.int x3), some (.int x4), some (.int x5), some (.int x6), some (.int x7), some (.int x8), some (.int x9)] 112 [] := by
  intro σ x2 x3 x4 x5 x6 x7 x8 x9 h
  refine h (fun σ x2 x3 x4 x5 x6 x7 x8 x9 => V μR w 10 κ σ [some (.ref (w.1 0)), none, some (.int x2), some (.int x3), some (.int x4), some (.int x5), some (.int x6), some (.int x7), some (.int x8), some (.int x9)] 112 []) (fun σ x2 x3 x4 x5 x6 x7 x8 x9 h => ?_)
  unfold b_R_askOf_112_ at h
  refine V.iload hC d_R_askOf_112 rfl ?_
  refine V.aload_n hC d_R_askOf_114 rfl rfl ?_
  refine V.getI (j := 10) hC d_R_askOf_115 rfl rfl uC8 rfl rfl qf_R_157 ?_
  refine V.icmp_ge (tgt := 184) hC d_R_askOf_118 (by decide) (fun c5 => ?_) (fun c5 => ?_)
  · replace h := h.1 c5
    refine V.iload hC d_R_askOf_184 rfl ?_
    refine V.iload hC d_R_askOf_186 rfl ?_
    refine V.icmp_le (tgt := 196) hC d_R_askOf_188 (by decide) (fun c6 => ?_) (fun c6 => ?_)
    · replace h := h.1 c6
      refine V.iload hC d_R_askOf_196 rfl ?_
      refine V.istore (y := x6) (lo' := [some (.ref (w.1 0)), none, some (.int x2), some (.int x3), some (.int x4), some (.int x5), some (.int x6), some (.int x7), some (.int x8), some (.int x9)]) hC d_R_askOf_198 rfl rfl rfl ?_
      obtain ⟨v7, ev7⟩ : ∃ y : Int32, y = x7 + (1 : Int32) := ⟨_, rfl⟩
      replace h := h v7 ev7
      refine V.iinc (y := v7) (lo' := [some (.ref (w.1 0)), none, some (.int x2), some (.int x3), some (.int x4), some (.int x5), some (.int x6), some (.int v7), some (.int x8), some (.int x9)]) hC d_R_askOf_200 rfl rfl (show v7 = _ + Int32.ofInt (1) from ev7) rfl ?_
      refine V.goto (tgt := 97) hC d_R_askOf_203 (by decide) ?_
      exact V.msk [true, false, true, true, true, true, true, true, false, false] rfl (hI97 σ x2 x3 x4 x5 x6 v7 h)
    · replace h := h.2 c6
      refine V.iload hC d_R_askOf_191 rfl ?_
      refine V.goto (tgt := 198) hC d_R_askOf_193 (by decide) ?_
      refine V.istore (y := x8) (lo' := [some (.ref (w.1 0)), none, some (.int x2), some (.int x3), some (.int x4), some (.int x5), some (.int x8), some (.int x7), some (.int x8), some (.int x9)]) hC d_R_askOf_198 rfl rfl rfl ?_
      obtain ⟨v8, ev8⟩ : ∃ y : Int32, y = x7 + (1 : Int32) := ⟨_, rfl⟩
      replace h := h v8 ev8
      refine V.iinc (y := v8) (lo' := [some (.ref (w.1 0)), none, some (.int x2), some (.int x3), some (.int x4), some (.int x5), some (.int x8), some (.int v8), some (.int x8), some (.int x9)]) hC d_R_askOf_200 rfl rfl (show v8 = _ + Int32.ofInt (1) from ev8) rfl ?_
      refine V.goto (tgt := 97) hC d_R_askOf_203 (by decide) ?_
      exact V.msk [true, false, true, true, true, true, true, true, false, false] rfl (hI97 σ x2 x3 x4 x5 x8 v8 h)
  · replace h := h.2 c5
    refine V.iload hC d_R_askOf_121 rfl ?_
    refine V.iload_n hC d_R_askOf_123 rfl rfl ?_
    refine V.iload hC d_R_askOf_124 rfl ?_
    refine V.callSI hC exR (w_R_isIn w σ x2 x7 _ h) d_R_askOf_126 mo_R_isIn qm_R_179 rfl rfl rfl rfl (Nat.le_of_ble_eq_true rfl) (fun r9 t10 h => ?_)
    refine V.if_eq (tgt := 174) hC d_R_askOf_129 (by decide) (fun c11 => ?_) (fun c11 => ?_)
    · replace h := h.1 c11
      refine V.iconst (v := 0) hC d_R_askOf_174 (by decide) ?_
      refine V.iadd hC d_R_askOf_175 ?_
      obtain ⟨v12, ev12⟩ : ∃ y : Int32, y = x8 + (0 : Int32) := ⟨_, rfl⟩
      replace h := h v12 ev12
      refine V.istore (y := v12) (lo' := [some (.ref (w.1 0)), none, some (.int x2), some (.int x3), some (.int x4), some (.int x5), some (.int x6), some (.int x7), some (.int v12), some (.int x9)]) hC d_R_askOf_176 rfl ev12 rfl ?_
      obtain ⟨v13, ev13⟩ : ∃ y : Int32, y = x9 + (1 : Int32) := ⟨_, rfl⟩
      replace h := h v13 ev13
      refine V.iinc (y := v13) (lo' := [some (.ref (w.1 0)), none, some (.int x2), some (.int x3), some (.int x4), some (.int x5), some (.int x6), some (.int x7), some (.int v12), some (.int v13)]) hC d_R_askOf_178 rfl rfl (show v13 = _ + Int32.ofInt (1) from ev13) rfl ?_
      refine V.goto (tgt := 112) hC d_R_askOf_181 (by decide) ?_
      exact V.msk [true, false, true, true, true, true, true, true, true, true] rfl h
    · replace h := h.2 c11
      refine V.iload_n hC d_R_askOf_132 rfl rfl ?_
      refine V.iload hC d_R_askOf_133 rfl ?_
      refine V.callSI hC exR (w_R_isIn w t10 x2 x9 _ h) d_R_askOf_135 mo_R_isIn qm_R_179 rfl rfl rfl rfl (Nat.le_of_ble_eq_true rfl) (fun r14 t15 h => ?_)
      refine V.if_eq (tgt := 174) hC d_R_askOf_138 (by decide) (fun c16 => ?_) (fun c16 => ?_)
      · replace h := h.1 c16
        refine V.iconst (v := 0) hC d_R_askOf_174 (by decide) ?_
        refine V.iadd hC d_R_askOf_175 ?_
        obtain ⟨v17, ev17⟩ : ∃ y : Int32, y = x8 + (0 : Int32) := ⟨_, rfl⟩
        replace h := h v17 ev17
        refine V.istore (y := v17) (lo' := [some (.ref (w.1 0)), none, some (.int x2), some (.int x3), some (.int x4), some (.int x5), some (.int x6), some (.int x7), some (.int v17), some (.int x9)]) hC d_R_askOf_176 rfl ev17 rfl ?_
        obtain ⟨v18, ev18⟩ : ∃ y : Int32, y = x9 + (1 : Int32) := ⟨_, rfl⟩
        replace h := h v18 ev18
        refine V.iinc (y := v18) (lo' := [some (.ref (w.1 0)), none, some (.int x2), some (.int x3), some (.int x4), some (.int x5), some (.int x6), some (.int x7), some (.int v17), some (.int v18)]) hC d_R_askOf_178 rfl rfl (show v18 = _ + Int32.ofInt (1) from ev18) rfl ?_
        refine V.goto (tgt := 112) hC d_R_askOf_181 (by decide) ?_
        exact V.msk [true, false, true, true, true, true, true, true, true, true] rfl h
      · replace h := h.2 c16
        refine V.aload_n hC d_R_askOf_141 rfl rfl ?_
        refine V.getR (j := 28) hC d_R_askOf_142 rfl rfl uC8 rfl rfl qf_R_77 ?_
        refine V.bipush (v := 8) hC d_R_askOf_145 (by decide) ?_
        refine V.iload hC d_R_askOf_147 rfl ?_
        refine V.imul hC d_R_askOf_149 ?_
        refine V.iload hC d_R_askOf_150 rfl ?_
        refine V.iadd hC d_R_askOf_152 ?_
        obtain ⟨b19, h⟩ := h
        refine V.iald hC d_R_askOf_153 rfl b19 ?_
        refine V.aload_n hC d_R_askOf_154 rfl rfl ?_
        refine V.getR (j := 28) hC d_R_askOf_155 rfl rfl uC8 rfl rfl qf_R_77 ?_
        refine V.bipush (v := 8) hC d_R_askOf_158 (by decide) ?_
        refine V.iload hC d_R_askOf_160 rfl ?_
        refine V.imul hC d_R_askOf_162 ?_
        refine V.iload hC d_R_askOf_163 rfl ?_
        refine V.iadd hC d_R_askOf_165 ?_
        obtain ⟨b20, h⟩ := h
        refine V.iald hC d_R_askOf_166 rfl b20 ?_
        refine V.icmp_ne (tgt := 174) hC d_R_askOf_167 (by decide) (fun c21 => ?_) (fun c21 => ?_)
        · replace h := h.1 c21
          refine V.iconst (v := 0) hC d_R_askOf_174 (by decide) ?_
          refine V.iadd hC d_R_askOf_175 ?_
          obtain ⟨v22, ev22⟩ : ∃ y : Int32, y = x8 + (0 : Int32) := ⟨_, rfl⟩
          replace h := h v22 ev22
          refine V.istore (y := v22) (lo' := [some (.ref (w.1 0)), none, some (.int x2), some (.int x3), some (.int x4), some (.int x5), some (.int x6), some (.int x7), some (.int v22), some (.int x9)]) hC d_R_askOf_176 rfl ev22 rfl ?_
          obtain ⟨v23, ev23⟩ : ∃ y : Int32, y = x9 + (1 : Int32) := ⟨_, rfl⟩
          replace h := h v23 ev23
          refine V.iinc (y := v23) (lo' := [some (.ref (w.1 0)), none, some (.int x2), some (.int x3), some (.int x4), some (.int x5), some (.int x6), some (.int x7), some (.int v22), some (.int v23)]) hC d_R_askOf_178 rfl rfl (show v23 = _ + Int32.ofInt (1) from ev23) rfl ?_
          refine V.goto (tgt := 112) hC d_R_askOf_181 (by decide) ?_
          exact V.msk [true, false, true, true, true, true, true, true, true, true] rfl h
        · replace h := h.2 c21
          refine V.iconst (v := 1) hC d_R_askOf_170 (by decide) ?_
          refine V.goto (tgt := 175) hC d_R_askOf_171 (by decide) ?_
          refine V.iadd hC d_R_askOf_175 ?_
          obtain ⟨v24, ev24⟩ : ∃ y : Int32, y = x8 + (1 : Int32) := ⟨_, rfl⟩
          replace h := h v24 ev24
          refine V.istore (y := v24) (lo' := [some (.ref (w.1 0)), none, some (.int x2), some (.int x3), some (.int x4), some (.int x5), some (.int x6), some (.int x7), some (.int v24), some (.int x9)]) hC d_R_askOf_176 rfl ev24 rfl ?_
          obtain ⟨v25, ev25⟩ : ∃ y : Int32, y = x9 + (1 : Int32) := ⟨_, rfl⟩
          replace h := h v25 ev25
          refine V.iinc (y := v25) (lo' := [some (.ref (w.1 0)), none, some (.int x2), some (.int x3), some (.int x4), some (.int x5), some (.int x6), some (.int x7), some (.int v24), some (.int v25)]) hC d_R_askOf_178 rfl rfl (show v25 = _ + Int32.ofInt (1) from ev25) rfl ?_
          refine V.goto (tgt := 112) hC d_R_askOf_181 (by decide) ?_
          exact V.msk [true, false, true, true, true, true, true, true, true, true] rfl h
set_option maxHeartbeats 4000000 in
set_option maxRecDepth 100000 in
theorem wj_R_askOf_97 {w : Wd} {κ : Kx} {P : Int32 → Hp → Prop} (hC : Cx μR w 10 κ nC8 b_R_askOf 8) (hR : RtI μR w 10 κ b_R_askOf .int P) {I82 : Hp → Int32 → Int32 → Int32 → Int32 → Prop} (hI82 : ∀ σ x2 x3 x4 x5, I82 σ x2 x3 x4 x5 → V μR w 10 κ σ [some (.ref (w.1 0)), none, some (.int x2), some (.int x3), some (.int x4), some (.int x5), none, none, none, none] 82 []) : ∀ (σ : Hp) (x2 : Int32) (x3 : Int32) (x4 : Int32) (x5 : Int32) (x6 : Int32) (x7 : Int32), j_R_askOf_97  P I82 σ x2 x3 x4 x5 x6 x7 → V μR w 10 κ σ [some (.ref (w.1 0)), none, some (.int x2), some (.int x3), some (.int x4), some (.int x5), some (.int x6), some (.int x7), none, none] 97 [] := by
  intro σ x2 x3 x4 x5 x6 x7 h
  refine h (fun σ x2 x3 x4 x5 x6 x7 => V μR w 10 κ σ [some (.ref (w.1 0)), none, some (.int x2), some (.int x3), some (.int x4), some (.int x5), some (.int x6), some (.int x7), none, none] 97 []) (fun σ x2 x3 x4 x5 x6 x7 h => ?_)
  unfold b_R_askOf_97_ at h
  refine V.iload hC d_R_askOf_97 rfl ?_
  refine V.aload_n hC d_R_askOf_99 rfl rfl ?_
  refine V.getI (j := 10) hC d_R_askOf_100 rfl rfl uC8 rfl rfl qf_R_157 ?_
  refine V.icmp_ge (tgt := 206) hC d_R_askOf_103 (by decide) (fun c26 => ?_) (fun c26 => ?_)
  · replace h := h.1 c26
    refine V.iload_n hC d_R_askOf_206 rfl rfl ?_
    refine V.iconst (v := -1) hC d_R_askOf_207 (by decide) ?_
    refine V.icmp_eq (tgt := 218) hC d_R_askOf_208 (by decide) (fun c27 => ?_) (fun c27 => ?_)
    · replace h := h.1 c27
      exact V.msk [true, false, true, true, true, true, true, false, false, false] rfl (wj_R_askOf_218  hC hR hI82 σ x2 x3 x4 x5 x6 h)
    · replace h := h.2 c27
      refine V.iload hC d_R_askOf_211 rfl ?_
      refine V.iload hC d_R_askOf_213 rfl ?_
      refine V.icmp_ge (tgt := 222) hC d_R_askOf_215 (by decide) (fun c28 => ?_) (fun c28 => ?_)
      · replace h := h.1 c28
        refine V.iconst (v := 0) hC d_R_askOf_222 (by decide) ?_
        exact V.msk [true, false, true, true, true, true, true, false, false, false] rfl (wj_R_askOf_223  hC hR hI82 σ x2 x3 x4 x5 x6 (0 : Int32) h)
      · replace h := h.2 c28
        exact V.msk [true, false, true, true, true, true, true, false, false, false] rfl (wj_R_askOf_218  hC hR hI82 σ x2 x3 x4 x5 x6 h)
  · replace h := h.2 c26
    refine V.iconst (v := 0) hC d_R_askOf_106 (by decide) ?_
    refine V.istore (y := (0 : Int32)) (lo' := [some (.ref (w.1 0)), none, some (.int x2), some (.int x3), some (.int x4), some (.int x5), some (.int x6), some (.int x7), some (.int (0 : Int32)), none]) hC d_R_askOf_107 rfl rfl rfl ?_
    refine V.iconst (v := 0) hC d_R_askOf_109 (by decide) ?_
    refine V.istore (y := (0 : Int32)) (lo' := [some (.ref (w.1 0)), none, some (.int x2), some (.int x3), some (.int x4), some (.int x5), some (.int x6), some (.int x7), some (.int (0 : Int32)), some (.int (0 : Int32))]) hC d_R_askOf_110 rfl rfl rfl ?_
    exact V.msk [true, false, true, true, true, true, true, true, true, true] rfl (wj_R_askOf_112  hC hR hI82 (fun _ _ _ _ _ _ _ h => h) σ x2 x3 x4 x5 x6 x7 (0 : Int32) (0 : Int32) h)
set_option maxHeartbeats 4000000 in
set_option maxRecDepth 100000 in
theorem wj_R_askOf_82 {w : Wd} {κ : Kx} {P : Int32 → Hp → Prop} (hC : Cx μR w 10 κ nC8 b_R_askOf 8) (hR : RtI μR w 10 κ b_R_askOf .int P)  : ∀ (σ : Hp) (x2 : Int32) (x3 : Int32) (x4 : Int32) (x5 : Int32), j_R_askOf_82  P  σ x2 x3 x4 x5 → V μR w 10 κ σ [some (.ref (w.1 0)), none, some (.int x2), some (.int x3), some (.int x4), some (.int x5), none, none, none, none] 82 [] := by
  intro σ x2 x3 x4 x5 h
  refine h (fun σ x2 x3 x4 x5 => V μR w 10 κ σ [some (.ref (w.1 0)), none, some (.int x2), some (.int x3), some (.int x4), some (.int x5), none, none, none, none] 82 []) (fun σ x2 x3 x4 x5 h => ?_)
  unfold b_R_askOf_82_ at h
  refine V.iload hC d_R_askOf_82 rfl ?_
  refine V.aload_n hC d_R_askOf_84 rfl rfl ?_
  refine V.getI (j := 2) hC d_R_askOf_85 rfl rfl uC8 rfl rfl qf_R_116 ?_
  refine V.icmp_ge (tgt := 257) hC d_R_askOf_88 (by decide) (fun c29 => ?_) (fun c29 => ?_)
  · replace h := h.1 c29
    refine V.iload_n hC d_R_askOf_257 rfl rfl ?_
    exact hR _ _ _ _ h rfl d_R_askOf_258
  · replace h := h.2 c29
    refine V.iconst (v := 0) hC d_R_askOf_91 (by decide) ?_
    refine V.istore (y := (0 : Int32)) (lo' := [some (.ref (w.1 0)), none, some (.int x2), some (.int x3), some (.int x4), some (.int x5), some (.int (0 : Int32)), none, none, none]) hC d_R_askOf_92 rfl rfl rfl ?_
    refine V.iconst (v := 0) hC d_R_askOf_94 (by decide) ?_
    refine V.istore (y := (0 : Int32)) (lo' := [some (.ref (w.1 0)), none, some (.int x2), some (.int x3), some (.int x4), some (.int x5), some (.int (0 : Int32)), some (.int (0 : Int32)), none, none]) hC d_R_askOf_95 rfl rfl rfl ?_
    exact V.msk [true, false, true, true, true, true, true, true, false, false] rfl (wj_R_askOf_97  hC hR (fun _ _ _ _ _ h => h) σ x2 x3 x4 x5 (0 : Int32) (0 : Int32) h)
set_option maxHeartbeats 4000000 in
set_option maxRecDepth 100000 in
theorem wj_R_askOf_34 {w : Wd} {κ : Kx} {P : Int32 → Hp → Prop} (hC : Cx μR w 10 κ nC8 b_R_askOf 8) (hR : RtI μR w 10 κ b_R_askOf .int P) {I7 : Hp → Int32 → Int32 → Int32 → Prop} (hI7 : ∀ σ x1 x2 x3, I7 σ x1 x2 x3 → V μR w 10 κ σ [some (.ref (w.1 0)), some (.int x1), some (.int x2), some (.int x3), none, none, none, none, none, none] 7 []) : ∀ (σ : Hp) (x1 : Int32) (x2 : Int32) (x3 : Int32) (x4 : Int32), j_R_askOf_34  P I7 σ x1 x2 x3 x4 → V μR w 10 κ σ [some (.ref (w.1 0)), some (.int x1), some (.int x2), some (.int x3), some (.int x4), none, none, none, none, none] 34 [] := by
  intro σ x1 x2 x3 x4 h
  refine h (fun σ x1 x2 x3 x4 => V μR w 10 κ σ [some (.ref (w.1 0)), some (.int x1), some (.int x2), some (.int x3), some (.int x4), none, none, none, none, none] 34 []) (fun σ x1 x2 x3 x4 h => ?_)
  unfold b_R_askOf_34_ at h
  refine V.iload hC d_R_askOf_34 rfl ?_
  refine V.aload_n hC d_R_askOf_36 rfl rfl ?_
  refine V.getI (j := 2) hC d_R_askOf_37 rfl rfl uC8 rfl rfl qf_R_116 ?_
  refine V.icmp_ge (tgt := 68) hC d_R_askOf_40 (by decide) (fun c30 => ?_) (fun c30 => ?_)
  · replace h := h.1 c30
    obtain ⟨v31, ev31⟩ : ∃ y : Int32, y = x3 + (1 : Int32) := ⟨_, rfl⟩
    replace h := h v31 ev31
    refine V.iinc (y := v31) (lo' := [some (.ref (w.1 0)), some (.int x1), some (.int x2), some (.int v31), some (.int x4), none, none, none, none, none]) hC d_R_askOf_68 rfl rfl (show v31 = _ + Int32.ofInt (1) from ev31) rfl ?_
    refine V.goto (tgt := 7) hC d_R_askOf_71 (by decide) ?_
    exact V.msk [true, true, true, true, false, false, false, false, false, false] rfl (hI7 σ x1 x2 v31 h)
  · replace h := h.2 c30
    refine V.aload_n hC d_R_askOf_43 rfl rfl ?_
    refine V.getR (j := 28) hC d_R_askOf_44 rfl rfl uC8 rfl rfl qf_R_77 ?_
    refine V.bipush (v := 8) hC d_R_askOf_47 (by decide) ?_
    refine V.iload_n hC d_R_askOf_49 rfl rfl ?_
    refine V.imul hC d_R_askOf_50 ?_
    refine V.iload hC d_R_askOf_51 rfl ?_
    refine V.iadd hC d_R_askOf_53 ?_
    refine V.aload_n hC d_R_askOf_54 rfl rfl ?_
    refine V.getR (j := 21) hC d_R_askOf_55 rfl rfl uC8 rfl rfl qf_R_59 ?_
    refine V.iload hC d_R_askOf_58 rfl ?_
    obtain ⟨b32, h⟩ := h
    refine V.iald hC d_R_askOf_60 rfl b32 ?_
    obtain ⟨b33, h⟩ := h
    refine V.iast hC d_R_askOf_61 rfl b33 ?_
    obtain ⟨v34, ev34⟩ : ∃ y : Int32, y = x4 + (1 : Int32) := ⟨_, rfl⟩
    replace h := h v34 ev34
    refine V.iinc (y := v34) (lo' := [some (.ref (w.1 0)), some (.int x1), some (.int x2), some (.int x3), some (.int v34), none, none, none, none, none]) hC d_R_askOf_62 rfl rfl (show v34 = _ + Int32.ofInt (1) from ev34) rfl ?_
    refine V.goto (tgt := 34) hC d_R_askOf_65 (by decide) ?_
    exact V.msk [true, true, true, true, true, false, false, false, false, false] rfl h
set_option maxHeartbeats 4000000 in
set_option maxRecDepth 100000 in
theorem wj_R_askOf_7 {w : Wd} {κ : Kx} {P : Int32 → Hp → Prop} (hC : Cx μR w 10 κ nC8 b_R_askOf 8) (hR : RtI μR w 10 κ b_R_askOf .int P)  : ∀ (σ : Hp) (x1 : Int32) (x2 : Int32) (x3 : Int32), j_R_askOf_7  P  σ x1 x2 x3 → V μR w 10 κ σ [some (.ref (w.1 0)), some (.int x1), some (.int x2), some (.int x3), none, none, none, none, none, none] 7 [] := by
  intro σ x1 x2 x3 h
  refine h (fun σ x1 x2 x3 => V μR w 10 κ σ [some (.ref (w.1 0)), some (.int x1), some (.int x2), some (.int x3), none, none, none, none, none, none] 7 []) (fun σ x1 x2 x3 h => ?_)
  unfold b_R_askOf_7_ at h
  refine V.iload_n hC d_R_askOf_7 rfl rfl ?_
  refine V.aload_n hC d_R_askOf_8 rfl rfl ?_
  refine V.getI (j := 10) hC d_R_askOf_9 rfl rfl uC8 rfl rfl qf_R_157 ?_
  refine V.icmp_ge (tgt := 74) hC d_R_askOf_12 (by decide) (fun c35 => ?_) (fun c35 => ?_)
  · replace h := h.1 c35
    refine V.iconst (v := -1) hC d_R_askOf_74 (by decide) ?_
    refine V.istore_n (y := (-1 : Int32)) (lo' := [some (.ref (w.1 0)), some (.int x1), some (.int x2), some (.int (-1 : Int32)), none, none, none, none, none, none]) hC d_R_askOf_75 rfl rfl rfl rfl ?_
    refine V.iconst (v := 0) hC d_R_askOf_76 (by decide) ?_
    refine V.istore (y := (0 : Int32)) (lo' := [some (.ref (w.1 0)), some (.int x1), some (.int x2), some (.int (-1 : Int32)), some (.int (0 : Int32)), none, none, none, none, none]) hC d_R_askOf_77 rfl rfl rfl ?_
    refine V.iconst (v := 0) hC d_R_askOf_79 (by decide) ?_
    refine V.istore (y := (0 : Int32)) (lo' := [some (.ref (w.1 0)), some (.int x1), some (.int x2), some (.int (-1 : Int32)), some (.int (0 : Int32)), some (.int (0 : Int32)), none, none, none, none]) hC d_R_askOf_80 rfl rfl rfl ?_
    exact V.msk [true, false, true, true, true, true, false, false, false, false] rfl (wj_R_askOf_82  hC hR  σ x2 (-1 : Int32) (0 : Int32) (0 : Int32) h)
  · replace h := h.2 c35
    refine V.aload_n hC d_R_askOf_15 rfl rfl ?_
    refine V.iconst (v := 1) hC d_R_askOf_16 (by decide) ?_
    refine V.iload_n hC d_R_askOf_17 rfl rfl ?_
    refine V.ishl hC d_R_askOf_18 ?_
    refine V.put (j := 17) hC d_R_askOf_19 rfl rfl uC8 pC8 dC8 rfl rfl rfl rfl rfl qf_R_176 ?_
    refine V.aload_n hC d_R_askOf_22 rfl rfl ?_
    refine V.callVN hC exR (w_R_lays w (st σ 0 17 ((1 : Int32) <<< (x3 &&& 31)))  _ h) d_R_askOf_23 mo_R_lays qm_R_186 rfl rfl rfl rfl rfl rfl rfl (Nat.le_of_ble_eq_true rfl) (fun t37 h => ?_)
    refine V.aload_n hC d_R_askOf_26 rfl rfl ?_
    refine V.iload_n hC d_R_askOf_27 rfl rfl ?_
    refine V.callVN hC exR (w_R_purses w t37 x1 _ h) d_R_askOf_28 mo_R_purses qm_R_205 rfl rfl rfl rfl rfl rfl rfl (Nat.le_of_ble_eq_true rfl) (fun t39 h => ?_)
    refine V.iconst (v := 0) hC d_R_askOf_31 (by decide) ?_
    refine V.istore (y := (0 : Int32)) (lo' := [some (.ref (w.1 0)), some (.int x1), some (.int x2), some (.int x3), some (.int (0 : Int32)), none, none, none, none, none]) hC d_R_askOf_32 rfl rfl rfl ?_
    exact V.msk [true, true, true, true, true, false, false, false, false, false] rfl (wj_R_askOf_34  hC hR (fun _ _ _ _ h => h) t39 x1 x2 x3 (0 : Int32) h)
set_option maxHeartbeats 4000000 in
set_option maxRecDepth 100000 in
theorem w_R_askOf (w : Wd) (σ : Hp) (a1 : Int32) (P : Int32 → Hp → Prop) (h : wp_R_askOf σ a1 P) : CtI μR w y_R_askOf b_R_askOf 10 (some .int) 8 [.ref (w.1 0), .int a1] σ P := by
  unfold wp_R_askOf at h
  refine CtI.ofV (C := nC8) (lo := [some (.ref (w.1 0)), some (.int a1), none, none, none, none, none, none, none, none]) exR (by decide +kernel) rfl rfl rfl (fun κ hC hR => ?_)
  refine V.aload_n hC d_R_askOf_0 rfl rfl ?_
  refine V.callVI hC exR (w_R_neverNow w σ  _ h) d_R_askOf_1 mo_R_neverNow qm_R_259 rfl rfl rfl rfl rfl rfl rfl (Nat.le_of_ble_eq_true rfl) (fun r40 t41 h => ?_)
  refine V.istore_n (y := r40) (lo' := [some (.ref (w.1 0)), some (.int a1), some (.int r40), none, none, none, none, none, none, none]) hC d_R_askOf_4 rfl rfl rfl rfl ?_
  refine V.iconst (v := 0) hC d_R_askOf_5 (by decide) ?_
  refine V.istore_n (y := (0 : Int32)) (lo' := [some (.ref (w.1 0)), some (.int a1), some (.int r40), some (.int (0 : Int32)), none, none, none, none, none, none]) hC d_R_askOf_6 rfl rfl rfl rfl ?_
  exact V.msk [true, true, true, true, false, false, false, false, false, false] rfl (wj_R_askOf_7  hC hR  t41 a1 r40 (0 : Int32) h)
abbrev b_R_ask : ByteArray := prog_10_method_75_code
def y_R_ask : MethodName := ⟨nC8, "ask", "(I)I"⟩
theorem d_R_ask_0 : decode b_R_ask 0 = .ok (.iload_n 1, 1) := by decide +kernel
theorem d_R_ask_1 : decode b_R_ask 1 = .ok (.invokestatic 151, 3) := by decide +kernel
theorem d_R_ask_4 : decode b_R_ask 4 = .ok (.ifCond .eq 11, 3) := by decide +kernel
theorem d_R_ask_7 : decode b_R_ask 7 = .ok (.aload_n 0, 1) := by decide +kernel
theorem d_R_ask_8 : decode b_R_ask 8 = .ok (.iload_n 1, 1) := by decide +kernel
theorem d_R_ask_9 : decode b_R_ask 9 = .ok (.invokevirtual 265, 3) := by decide +kernel
theorem d_R_ask_12 : decode b_R_ask 12 = .ok (.goto 5, 3) := by decide +kernel
theorem d_R_ask_15 : decode b_R_ask 15 = .ok (.bipush (-2), 2) := by decide +kernel
theorem d_R_ask_17 : decode b_R_ask 17 = .ok (.ireturn, 1) := by decide +kernel
theorem qm_R_265 : Cond.methodLink nC8 265 y_R_askOf ∈ tbl := tbl_in 1259 (by decide +kernel) rfl
def wp_R_ask (σ : Hp) (a1 : Int32) (P : Int32 → Hp → Prop) : Prop :=
  wp_R_isDay σ a1 (fun (r1 : Int32) (t2 : Hp) => ((r1 = 0 → P (-2 : Int32) t2) ∧ (¬ r1 = 0 → wp_R_askOf t2 a1 (fun (r4 : Int32) (t5 : Hp) => P r4 t5))))
set_option maxHeartbeats 4000000 in
set_option maxRecDepth 100000 in
theorem w_R_ask (w : Wd) (σ : Hp) (a1 : Int32) (P : Int32 → Hp → Prop) (h : wp_R_ask σ a1 P) : CtI μR w y_R_ask b_R_ask 2 (some .int) 9 [.ref (w.1 0), .int a1] σ P := by
  unfold wp_R_ask at h
  refine CtI.ofV (C := nC8) (lo := [some (.ref (w.1 0)), some (.int a1)]) exR (by decide +kernel) rfl rfl rfl (fun κ hC hR => ?_)
  refine V.iload_n hC d_R_ask_0 rfl rfl ?_
  refine V.callSI hC exR (w_R_isDay w σ a1 _ h) d_R_ask_1 mo_R_isDay qm_R_151 rfl rfl rfl rfl (Nat.le_of_ble_eq_true rfl) (fun r1 t2 h => ?_)
  refine V.if_eq (tgt := 15) hC d_R_ask_4 (by decide) (fun c3 => ?_) (fun c3 => ?_)
  · replace h := h.1 c3
    refine V.bipush (v := -2) hC d_R_ask_15 (by decide) ?_
    exact hR _ _ _ _ h rfl d_R_ask_17
  · replace h := h.2 c3
    refine V.aload_n hC d_R_ask_7 rfl rfl ?_
    refine V.iload_n hC d_R_ask_8 rfl rfl ?_
    refine V.callVI hC exR (w_R_askOf w t2 a1 _ h) d_R_ask_9 mo_R_askOf qm_R_265 rfl rfl rfl rfl rfl rfl rfl (Nat.le_of_ble_eq_true rfl) (fun r4 t5 h => ?_)
    refine V.goto (tgt := 17) hC d_R_ask_12 (by decide) ?_
    exact hR _ _ _ _ h rfl d_R_ask_17
abbrev b_R_courtOf : ByteArray := prog_10_method_76_code
def y_R_courtOf : MethodName := ⟨nC8, "courtOf", "(IIII)J"⟩
theorem d_R_courtOf_0 : decode b_R_courtOf 0 = .ok (.aload_n 0, 1) := by decide +kernel
theorem d_R_courtOf_1 : decode b_R_courtOf 1 = .ok (.invokevirtual 183, 3) := by decide +kernel
theorem d_R_courtOf_4 : decode b_R_courtOf 4 = .ok (.lconst 0, 1) := by decide +kernel
theorem d_R_courtOf_5 : decode b_R_courtOf 5 = .ok (.lstore 5, 2) := by decide +kernel
theorem d_R_courtOf_7 : decode b_R_courtOf 7 = .ok (.iconst 0, 1) := by decide +kernel
theorem d_R_courtOf_8 : decode b_R_courtOf 8 = .ok (.istore 7, 2) := by decide +kernel
theorem d_R_courtOf_10 : decode b_R_courtOf 10 = .ok (.iload 7, 2) := by decide +kernel
theorem d_R_courtOf_12 : decode b_R_courtOf 12 = .ok (.iconst 1, 1) := by decide +kernel
theorem d_R_courtOf_13 : decode b_R_courtOf 13 = .ok (.aload_n 0, 1) := by decide +kernel
theorem d_R_courtOf_14 : decode b_R_courtOf 14 = .ok (.getfield 157, 3) := by decide +kernel
theorem d_R_courtOf_17 : decode b_R_courtOf 17 = .ok (.ishl, 1) := by decide +kernel
theorem d_R_courtOf_18 : decode b_R_courtOf 18 = .ok (.if_icmp .ge 85, 3) := by decide +kernel
theorem d_R_courtOf_21 : decode b_R_courtOf 21 = .ok (.lconst 1, 1) := by decide +kernel
theorem d_R_courtOf_22 : decode b_R_courtOf 22 = .ok (.lstore 8, 2) := by decide +kernel
theorem d_R_courtOf_24 : decode b_R_courtOf 24 = .ok (.iconst 0, 1) := by decide +kernel
theorem d_R_courtOf_25 : decode b_R_courtOf 25 = .ok (.istore 10, 2) := by decide +kernel
theorem d_R_courtOf_27 : decode b_R_courtOf 27 = .ok (.iload 10, 2) := by decide +kernel
theorem d_R_courtOf_29 : decode b_R_courtOf 29 = .ok (.aload_n 0, 1) := by decide +kernel
theorem d_R_courtOf_30 : decode b_R_courtOf 30 = .ok (.getfield 157, 3) := by decide +kernel
theorem d_R_courtOf_33 : decode b_R_courtOf 33 = .ok (.if_icmp .ge 34, 3) := by decide +kernel
theorem d_R_courtOf_36 : decode b_R_courtOf 36 = .ok (.lload 8, 2) := by decide +kernel
theorem d_R_courtOf_38 : decode b_R_courtOf 38 = .ok (.iload 7, 2) := by decide +kernel
theorem d_R_courtOf_40 : decode b_R_courtOf 40 = .ok (.iload 10, 2) := by decide +kernel
theorem d_R_courtOf_42 : decode b_R_courtOf 42 = .ok (.invokestatic 179, 3) := by decide +kernel
theorem d_R_courtOf_45 : decode b_R_courtOf 45 = .ok (.ifCond .eq 11, 3) := by decide +kernel
theorem d_R_courtOf_48 : decode b_R_courtOf 48 = .ok (.bipush 16, 2) := by decide +kernel
theorem d_R_courtOf_50 : decode b_R_courtOf 50 = .ok (.iload_n 1, 1) := by decide +kernel
theorem d_R_courtOf_51 : decode b_R_courtOf 51 = .ok (.isub, 1) := by decide +kernel
theorem d_R_courtOf_52 : decode b_R_courtOf 52 = .ok (.i2l, 1) := by decide +kernel
theorem d_R_courtOf_53 : decode b_R_courtOf 53 = .ok (.goto 5, 3) := by decide +kernel
theorem d_R_courtOf_56 : decode b_R_courtOf 56 = .ok (.iload_n 1, 1) := by decide +kernel
theorem d_R_courtOf_57 : decode b_R_courtOf 57 = .ok (.i2l, 1) := by decide +kernel
theorem d_R_courtOf_58 : decode b_R_courtOf 58 = .ok (.lmul, 1) := by decide +kernel
theorem d_R_courtOf_59 : decode b_R_courtOf 59 = .ok (.lstore 8, 2) := by decide +kernel
theorem d_R_courtOf_61 : decode b_R_courtOf 61 = .ok (.iinc 10 1, 3) := by decide +kernel
theorem d_R_courtOf_64 : decode b_R_courtOf 64 = .ok (.goto (-37), 3) := by decide +kernel
theorem d_R_courtOf_67 : decode b_R_courtOf 67 = .ok (.aload_n 0, 1) := by decide +kernel
theorem d_R_courtOf_68 : decode b_R_courtOf 68 = .ok (.iload 7, 2) := by decide +kernel
theorem d_R_courtOf_70 : decode b_R_courtOf 70 = .ok (.putfield 176, 3) := by decide +kernel
theorem d_R_courtOf_73 : decode b_R_courtOf 73 = .ok (.aload_n 0, 1) := by decide +kernel
theorem d_R_courtOf_74 : decode b_R_courtOf 74 = .ok (.invokevirtual 186, 3) := by decide +kernel
theorem d_R_courtOf_77 : decode b_R_courtOf 77 = .ok (.lload 5, 2) := by decide +kernel
theorem d_R_courtOf_79 : decode b_R_courtOf 79 = .ok (.aload_n 0, 1) := by decide +kernel
theorem d_R_courtOf_80 : decode b_R_courtOf 80 = .ok (.iload_n 2, 1) := by decide +kernel
theorem d_R_courtOf_81 : decode b_R_courtOf 81 = .ok (.iload_n 3, 1) := by decide +kernel
theorem d_R_courtOf_82 : decode b_R_courtOf 82 = .ok (.invokevirtual 198, 3) := by decide +kernel
theorem d_R_courtOf_85 : decode b_R_courtOf 85 = .ok (.ifCond .le 8, 3) := by decide +kernel
theorem d_R_courtOf_88 : decode b_R_courtOf 88 = .ok (.lload 8, 2) := by decide +kernel
theorem d_R_courtOf_90 : decode b_R_courtOf 90 = .ok (.goto 4, 3) := by decide +kernel
theorem d_R_courtOf_93 : decode b_R_courtOf 93 = .ok (.lconst 0, 1) := by decide +kernel
theorem d_R_courtOf_94 : decode b_R_courtOf 94 = .ok (.ladd, 1) := by decide +kernel
theorem d_R_courtOf_95 : decode b_R_courtOf 95 = .ok (.lstore 5, 2) := by decide +kernel
theorem d_R_courtOf_97 : decode b_R_courtOf 97 = .ok (.iinc 7 1, 3) := by decide +kernel
theorem d_R_courtOf_100 : decode b_R_courtOf 100 = .ok (.goto (-90), 3) := by decide +kernel
theorem d_R_courtOf_103 : decode b_R_courtOf 103 = .ok (.lload 5, 2) := by decide +kernel
theorem d_R_courtOf_105 : decode b_R_courtOf 105 = .ok (.lconst 1, 1) := by decide +kernel
theorem d_R_courtOf_106 : decode b_R_courtOf 106 = .ok (.iconst 4, 1) := by decide +kernel
theorem d_R_courtOf_107 : decode b_R_courtOf 107 = .ok (.aload_n 0, 1) := by decide +kernel
theorem d_R_courtOf_108 : decode b_R_courtOf 108 = .ok (.getfield 157, 3) := by decide +kernel
theorem d_R_courtOf_111 : decode b_R_courtOf 111 = .ok (.imul, 1) := by decide +kernel
theorem d_R_courtOf_112 : decode b_R_courtOf 112 = .ok (.lshl, 1) := by decide +kernel
theorem d_R_courtOf_113 : decode b_R_courtOf 113 = .ok (.iload 4, 2) := by decide +kernel
theorem d_R_courtOf_115 : decode b_R_courtOf 115 = .ok (.invokestatic 268, 3) := by decide +kernel
theorem d_R_courtOf_118 : decode b_R_courtOf 118 = .ok (.lreturn, 1) := by decide +kernel
theorem qm_R_268 : Cond.methodLink nC8 268 y_R_lowest ∈ tbl := tbl_in 1271 (by decide +kernel) rfl
theorem mo_R_courtOf : MokV y_R_courtOf b_R_courtOf 11 (some .long) 4 := ⟨⟨(tbl_in 1270 (by decide +kernel) rfl), (tbl_in 70 (by decide +kernel) rfl)⟩, ⟨(tbl_in 1269 (by decide +kernel) rfl), tbl_lw _ (tbl_in 53 (by decide +kernel) rfl), (tbl_in 53 (by decide +kernel) rfl)⟩, ⟨by decide +kernel, by decide +kernel⟩, by decide +kernel⟩
def b_R_courtOf_27_ (P : Int64 → Hp → Prop) (I10 : Hp → Int32 → Int32 → Int32 → Int32 → Int64 → Int32 → Prop) (I27 : Hp → Int32 → Int32 → Int32 → Int32 → Int64 → Int32 → Int64 → Int32 → Prop) (σ : Hp) (x1 : Int32) (x2 : Int32) (x3 : Int32) (x4 : Int32) (x5 : Int64) (x7 : Int32) (x8 : Int64) (x10 : Int32) : Prop :=
  (((σ 0 10) ≤ x10 → wp_R_lays (st σ 0 17 x7) (fun (t3 : Hp) => wp_R_balanceNow t3 x2 x3 (fun (r4 : Int32) (t5 : Hp) => ((r4 ≤ 0 → (∀ v7 : Int64, v7 = x5 + (0 : Int64) → (∀ v8 : Int32, v8 = x7 + (1 : Int32) → I10 t5 x1 x2 x3 x4 v7 v8))) ∧ (¬ r4 ≤ 0 → (∀ v9 : Int64, v9 = x5 + x8 → (∀ v10 : Int32, v10 = x7 + (1 : Int32) → I10 t5 x1 x2 x3 x4 v9 v10))))))) ∧ (¬ (σ 0 10) ≤ x10 → wp_R_isIn σ x7 x10 (fun (r11 : Int32) (t12 : Hp) => ((r11 = 0 → (∀ v14 : Int64, v14 = x8 * (x1.toInt64) → (∀ v15 : Int32, v15 = x10 + (1 : Int32) → I27 t12 x1 x2 x3 x4 x5 x7 v14 v15))) ∧ (¬ r11 = 0 → (∀ v16 : Int64, v16 = x8 * (((16 : Int32) - x1).toInt64) → (∀ v17 : Int32, v17 = x10 + (1 : Int32) → I27 t12 x1 x2 x3 x4 x5 x7 v16 v17)))))))
def j_R_courtOf_27 (P : Int64 → Hp → Prop) (I10 : Hp → Int32 → Int32 → Int32 → Int32 → Int64 → Int32 → Prop) (σ : Hp) (x1 : Int32) (x2 : Int32) (x3 : Int32) (x4 : Int32) (x5 : Int64) (x7 : Int32) (x8 : Int64) (x10 : Int32) : Prop := ∀ I27 : Hp → Int32 → Int32 → Int32 → Int32 → Int64 → Int32 → Int64 → Int32 → Prop, (∀ (σ : Hp) (x1 : Int32) (x2 : Int32) (x3 : Int32) (x4 : Int32) (x5 : Int64) (x7 : Int32) (x8 : Int64) (x10 : Int32), b_R_courtOf_27_  P I10 I27 σ x1 x2 x3 x4 x5 x7 x8 x10 → I27 σ x1 x2 x3 x4 x5 x7 x8 x10) → I27 σ x1 x2 x3 x4 x5 x7 x8 x10
def b_R_courtOf_10_ (P : Int64 → Hp → Prop)  (I10 : Hp → Int32 → Int32 → Int32 → Int32 → Int64 → Int32 → Prop) (σ : Hp) (x1 : Int32) (x2 : Int32) (x3 : Int32) (x4 : Int32) (x5 : Int64) (x7 : Int32) : Prop :=
  ((((1 : Int32) <<< ((σ 0 10) &&& 31)) ≤ x7 → wp_R_lowest σ x5 ((1 : Int64) <<< (((4 : Int32) * (σ 0 10)).toInt64 &&& 63)) x4 (fun (r19 : Int64) (t20 : Hp) => P r19 t20)) ∧ (¬ ((1 : Int32) <<< ((σ 0 10) &&& 31)) ≤ x7 → j_R_courtOf_27 P I10 σ x1 x2 x3 x4 x5 x7 (1 : Int64) (0 : Int32)))
def j_R_courtOf_10 (P : Int64 → Hp → Prop)  (σ : Hp) (x1 : Int32) (x2 : Int32) (x3 : Int32) (x4 : Int32) (x5 : Int64) (x7 : Int32) : Prop := ∀ I10 : Hp → Int32 → Int32 → Int32 → Int32 → Int64 → Int32 → Prop, (∀ (σ : Hp) (x1 : Int32) (x2 : Int32) (x3 : Int32) (x4 : Int32) (x5 : Int64) (x7 : Int32), b_R_courtOf_10_  P  I10 σ x1 x2 x3 x4 x5 x7 → I10 σ x1 x2 x3 x4 x5 x7) → I10 σ x1 x2 x3 x4 x5 x7
def wp_R_courtOf (σ : Hp) (a1 : Int32) (a2 : Int32) (a3 : Int32) (a4 : Int32) (P : Int64 → Hp → Prop) : Prop :=
  wp_R_asTold σ (fun (t22 : Hp) => j_R_courtOf_10 P t22 a1 a2 a3 a4 (0 : Int64) (0 : Int32))
set_option maxHeartbeats 4000000 in
set_option maxRecDepth 100000 in
theorem wj_R_courtOf_27 {w : Wd} {κ : Kx} {P : Int64 → Hp → Prop} (hC : Cx μR w 11 κ nC8 b_R_courtOf 7) (hR : RtL μR w 11 κ b_R_courtOf P) {I10 : Hp → Int32 → Int32 → Int32 → Int32 → Int64 → Int32 → Prop} (hI10 : ∀ σ x1 x2 x3 x4 x5 x7, I10 σ x1 x2 x3 x4 x5 x7 → V μR w 11 κ σ [some (.ref (w.1 0)), some (.int x1), some (.int x2), some (.int x3), some (.int x4), some (.long x5), none, some (.int x7), none, none, none] 10 []) : ∀ (σ : Hp) (x1 : Int32) (x2 : Int32) (x3 : Int32) (x4 : Int32) (x5 : Int64) (x7 : Int32) (x8 : Int64) (x10 : Int32), j_R_courtOf_27  P I10 σ x1 x2 x3 x4 x5 x7 x8 x10 → V μR w 11 κ σ [some (.ref (w.1 0)), some (.int x1), some (.int x2), some (.int x3), some (.int x4), some (.long x5), none, some (.int x7), some (.long x8), none, some (.int x10)] 27 [] := by
  intro σ x1 x2 x3 x4 x5 x7 x8 x10 h
  refine h (fun σ x1 x2 x3 x4 x5 x7 x8 x10 => V μR w 11 κ σ [some (.ref (w.1 0)), some (.int x1), some (.int x2), some (.int x3), some (.int x4), some (.long x5), none, some (.int x7), some (.long x8), none, some (.int x10)] 27 []) (fun σ x1 x2 x3 x4 x5 x7 x8 x10 h => ?_)
  unfold b_R_courtOf_27_ at h
  refine V.iload hC d_R_courtOf_27 rfl ?_
  refine V.aload_n hC d_R_courtOf_29 rfl rfl ?_
  refine V.getI (j := 10) hC d_R_courtOf_30 rfl rfl uC8 rfl rfl qf_R_157 ?_
  refine V.icmp_ge (tgt := 67) hC d_R_courtOf_33 (by decide) (fun c1 => ?_) (fun c1 => ?_)
  · replace h := h.1 c1
    refine V.aload_n hC d_R_courtOf_67 rfl rfl ?_
    refine V.iload hC d_R_courtOf_68 rfl ?_
    refine V.put (j := 17) hC d_R_courtOf_70 rfl rfl uC8 pC8 dC8 rfl rfl rfl rfl rfl qf_R_176 ?_
    refine V.aload_n hC d_R_courtOf_73 rfl rfl ?_
    refine V.callVN hC exR (w_R_lays w (st σ 0 17 x7)  _ h) d_R_courtOf_74 mo_R_lays qm_R_186 rfl rfl rfl rfl rfl rfl rfl (Nat.le_of_ble_eq_true rfl) (fun t3 h => ?_)
    refine V.lload hC d_R_courtOf_77 rfl ?_
    refine V.aload_n hC d_R_courtOf_79 rfl rfl ?_
    refine V.iload_n hC d_R_courtOf_80 rfl rfl ?_
    refine V.iload_n hC d_R_courtOf_81 rfl rfl ?_
    refine V.callVI hC exR (w_R_balanceNow w t3 x2 x3 _ h) d_R_courtOf_82 mo_R_balanceNow qm_R_198 rfl rfl rfl rfl rfl rfl rfl (Nat.le_of_ble_eq_true rfl) (fun r4 t5 h => ?_)
    refine V.if_le (tgt := 93) hC d_R_courtOf_85 (by decide) (fun c6 => ?_) (fun c6 => ?_)
    · replace h := h.1 c6
      refine V.lconst (v := 0) hC d_R_courtOf_93 (by decide) ?_
      refine V.ladd hC d_R_courtOf_94 ?_
      obtain ⟨v7, ev7⟩ : ∃ y : Int64, y = x5 + (0 : Int64) := ⟨_, rfl⟩
      replace h := h v7 ev7
      refine V.lstore (y := v7) (lo' := [some (.ref (w.1 0)), some (.int x1), some (.int x2), some (.int x3), some (.int x4), some (.long v7), none, some (.int x7), some (.long x8), none, some (.int x10)]) hC d_R_courtOf_95 rfl ev7 rfl ?_
      obtain ⟨v8, ev8⟩ : ∃ y : Int32, y = x7 + (1 : Int32) := ⟨_, rfl⟩
      replace h := h v8 ev8
      refine V.iinc (y := v8) (lo' := [some (.ref (w.1 0)), some (.int x1), some (.int x2), some (.int x3), some (.int x4), some (.long v7), none, some (.int v8), some (.long x8), none, some (.int x10)]) hC d_R_courtOf_97 rfl rfl (show v8 = _ + Int32.ofInt (1) from ev8) rfl ?_
      refine V.goto (tgt := 10) hC d_R_courtOf_100 (by decide) ?_
      exact V.msk [true, true, true, true, true, true, false, true, false, false, false] rfl (hI10 t5 x1 x2 x3 x4 v7 v8 h)
    · replace h := h.2 c6
      refine V.lload hC d_R_courtOf_88 rfl ?_
      refine V.goto (tgt := 94) hC d_R_courtOf_90 (by decide) ?_
      refine V.ladd hC d_R_courtOf_94 ?_
      obtain ⟨v9, ev9⟩ : ∃ y : Int64, y = x5 + x8 := ⟨_, rfl⟩
      replace h := h v9 ev9
      refine V.lstore (y := v9) (lo' := [some (.ref (w.1 0)), some (.int x1), some (.int x2), some (.int x3), some (.int x4), some (.long v9), none, some (.int x7), some (.long x8), none, some (.int x10)]) hC d_R_courtOf_95 rfl ev9 rfl ?_
      obtain ⟨v10, ev10⟩ : ∃ y : Int32, y = x7 + (1 : Int32) := ⟨_, rfl⟩
      replace h := h v10 ev10
      refine V.iinc (y := v10) (lo' := [some (.ref (w.1 0)), some (.int x1), some (.int x2), some (.int x3), some (.int x4), some (.long v9), none, some (.int v10), some (.long x8), none, some (.int x10)]) hC d_R_courtOf_97 rfl rfl (show v10 = _ + Int32.ofInt (1) from ev10) rfl ?_
      refine V.goto (tgt := 10) hC d_R_courtOf_100 (by decide) ?_
      exact V.msk [true, true, true, true, true, true, false, true, false, false, false] rfl (hI10 t5 x1 x2 x3 x4 v9 v10 h)
  · replace h := h.2 c1
    refine V.lload hC d_R_courtOf_36 rfl ?_
    refine V.iload hC d_R_courtOf_38 rfl ?_
    refine V.iload hC d_R_courtOf_40 rfl ?_
    refine V.callSI hC exR (w_R_isIn w σ x7 x10 _ h) d_R_courtOf_42 mo_R_isIn qm_R_179 rfl rfl rfl rfl (Nat.le_of_ble_eq_true rfl) (fun r11 t12 h => ?_)
    refine V.if_eq (tgt := 56) hC d_R_courtOf_45 (by decide) (fun c13 => ?_) (fun c13 => ?_)
    · replace h := h.1 c13
      refine V.iload_n hC d_R_courtOf_56 rfl rfl ?_
      refine V.i2l hC d_R_courtOf_57 ?_
      refine V.lmul hC d_R_courtOf_58 ?_
      obtain ⟨v14, ev14⟩ : ∃ y : Int64, y = x8 * (x1.toInt64) := ⟨_, rfl⟩
      replace h := h v14 ev14
      refine V.lstore (y := v14) (lo' := [some (.ref (w.1 0)), some (.int x1), some (.int x2), some (.int x3), some (.int x4), some (.long x5), none, some (.int x7), some (.long v14), none, some (.int x10)]) hC d_R_courtOf_59 rfl ev14 rfl ?_
      obtain ⟨v15, ev15⟩ : ∃ y : Int32, y = x10 + (1 : Int32) := ⟨_, rfl⟩
      replace h := h v15 ev15
      refine V.iinc (y := v15) (lo' := [some (.ref (w.1 0)), some (.int x1), some (.int x2), some (.int x3), some (.int x4), some (.long x5), none, some (.int x7), some (.long v14), none, some (.int v15)]) hC d_R_courtOf_61 rfl rfl (show v15 = _ + Int32.ofInt (1) from ev15) rfl ?_
      refine V.goto (tgt := 27) hC d_R_courtOf_64 (by decide) ?_
      exact V.msk [true, true, true, true, true, true, false, true, true, false, true] rfl h
    · replace h := h.2 c13
      refine V.bipush (v := 16) hC d_R_courtOf_48 (by decide) ?_
      refine V.iload_n hC d_R_courtOf_50 rfl rfl ?_
      refine V.isub hC d_R_courtOf_51 ?_
      refine V.i2l hC d_R_courtOf_52 ?_
      refine V.goto (tgt := 58) hC d_R_courtOf_53 (by decide) ?_
      refine V.lmul hC d_R_courtOf_58 ?_
      obtain ⟨v16, ev16⟩ : ∃ y : Int64, y = x8 * (((16 : Int32) - x1).toInt64) := ⟨_, rfl⟩
      replace h := h v16 ev16
      refine V.lstore (y := v16) (lo' := [some (.ref (w.1 0)), some (.int x1), some (.int x2), some (.int x3), some (.int x4), some (.long x5), none, some (.int x7), some (.long v16), none, some (.int x10)]) hC d_R_courtOf_59 rfl ev16 rfl ?_
      obtain ⟨v17, ev17⟩ : ∃ y : Int32, y = x10 + (1 : Int32) := ⟨_, rfl⟩
      replace h := h v17 ev17
      refine V.iinc (y := v17) (lo' := [some (.ref (w.1 0)), some (.int x1), some (.int x2), some (.int x3), some (.int x4), some (.long x5), none, some (.int x7), some (.long v16), none, some (.int v17)]) hC d_R_courtOf_61 rfl rfl (show v17 = _ + Int32.ofInt (1) from ev17) rfl ?_
      refine V.goto (tgt := 27) hC d_R_courtOf_64 (by decide) ?_
      exact V.msk [true, true, true, true, true, true, false, true, true, false, true] rfl h
set_option maxHeartbeats 4000000 in
set_option maxRecDepth 100000 in
theorem wj_R_courtOf_10 {w : Wd} {κ : Kx} {P : Int64 → Hp → Prop} (hC : Cx μR w 11 κ nC8 b_R_courtOf 7) (hR : RtL μR w 11 κ b_R_courtOf P)  : ∀ (σ : Hp) (x1 : Int32) (x2 : Int32) (x3 : Int32) (x4 : Int32) (x5 : Int64) (x7 : Int32), j_R_courtOf_10  P  σ x1 x2 x3 x4 x5 x7 → V μR w 11 κ σ [some (.ref (w.1 0)), some (.int x1), some (.int x2), some (.int x3), some (.int x4), some (.long x5), none, some (.int x7), none, none, none] 10 [] := by
  intro σ x1 x2 x3 x4 x5 x7 h
  refine h (fun σ x1 x2 x3 x4 x5 x7 => V μR w 11 κ σ [some (.ref (w.1 0)), some (.int x1), some (.int x2), some (.int x3), some (.int x4), some (.long x5), none, some (.int x7), none, none, none] 10 []) (fun σ x1 x2 x3 x4 x5 x7 h => ?_)
  unfold b_R_courtOf_10_ at h
  refine V.iload hC d_R_courtOf_10 rfl ?_
  refine V.iconst (v := 1) hC d_R_courtOf_12 (by decide) ?_
  refine V.aload_n hC d_R_courtOf_13 rfl rfl ?_
  refine V.getI (j := 10) hC d_R_courtOf_14 rfl rfl uC8 rfl rfl qf_R_157 ?_
  refine V.ishl hC d_R_courtOf_17 ?_
  refine V.icmp_ge (tgt := 103) hC d_R_courtOf_18 (by decide) (fun c18 => ?_) (fun c18 => ?_)
  · replace h := h.1 c18
    refine V.lload hC d_R_courtOf_103 rfl ?_
    refine V.lconst (v := 1) hC d_R_courtOf_105 (by decide) ?_
    refine V.iconst (v := 4) hC d_R_courtOf_106 (by decide) ?_
    refine V.aload_n hC d_R_courtOf_107 rfl rfl ?_
    refine V.getI (j := 10) hC d_R_courtOf_108 rfl rfl uC8 rfl rfl qf_R_157 ?_
    refine V.imul hC d_R_courtOf_111 ?_
    refine V.lshl hC d_R_courtOf_112 ?_
    refine V.iload hC d_R_courtOf_113 rfl ?_
    refine V.callSL hC exR (w_R_lowest w σ x5 ((1 : Int64) <<< (((4 : Int32) * (σ 0 10)).toInt64 &&& 63)) x4 _ h) d_R_courtOf_115 mo_R_lowest qm_R_268 rfl rfl rfl rfl (Nat.le_of_ble_eq_true rfl) (fun r19 t20 h => ?_)
    exact hR _ _ _ _ h d_R_courtOf_118
  · replace h := h.2 c18
    refine V.lconst (v := 1) hC d_R_courtOf_21 (by decide) ?_
    refine V.lstore (y := (1 : Int64)) (lo' := [some (.ref (w.1 0)), some (.int x1), some (.int x2), some (.int x3), some (.int x4), some (.long x5), none, some (.int x7), some (.long (1 : Int64)), none, none]) hC d_R_courtOf_22 rfl rfl rfl ?_
    refine V.iconst (v := 0) hC d_R_courtOf_24 (by decide) ?_
    refine V.istore (y := (0 : Int32)) (lo' := [some (.ref (w.1 0)), some (.int x1), some (.int x2), some (.int x3), some (.int x4), some (.long x5), none, some (.int x7), some (.long (1 : Int64)), none, some (.int (0 : Int32))]) hC d_R_courtOf_25 rfl rfl rfl ?_
    exact V.msk [true, true, true, true, true, true, false, true, true, false, true] rfl (wj_R_courtOf_27  hC hR (fun _ _ _ _ _ _ _ h => h) σ x1 x2 x3 x4 x5 x7 (1 : Int64) (0 : Int32) h)
set_option maxHeartbeats 4000000 in
set_option maxRecDepth 100000 in
theorem w_R_courtOf (w : Wd) (σ : Hp) (a1 : Int32) (a2 : Int32) (a3 : Int32) (a4 : Int32) (P : Int64 → Hp → Prop) (h : wp_R_courtOf σ a1 a2 a3 a4 P) : CtL μR w y_R_courtOf b_R_courtOf 11 (some .long) 7 [.ref (w.1 0), .int a1, .int a2, .int a3, .int a4] σ P := by
  unfold wp_R_courtOf at h
  refine CtL.ofV (C := nC8) (lo := [some (.ref (w.1 0)), some (.int a1), some (.int a2), some (.int a3), some (.int a4), none, none, none, none, none, none]) exR (by decide +kernel) rfl rfl rfl (fun κ hC hR => ?_)
  refine V.aload_n hC d_R_courtOf_0 rfl rfl ?_
  refine V.callVN hC exR (w_R_asTold w σ  _ h) d_R_courtOf_1 mo_R_asTold qm_R_183 rfl rfl rfl rfl rfl rfl rfl (Nat.le_of_ble_eq_true rfl) (fun t22 h => ?_)
  refine V.lconst (v := 0) hC d_R_courtOf_4 (by decide) ?_
  refine V.lstore (y := (0 : Int64)) (lo' := [some (.ref (w.1 0)), some (.int a1), some (.int a2), some (.int a3), some (.int a4), some (.long (0 : Int64)), none, none, none, none, none]) hC d_R_courtOf_5 rfl rfl rfl ?_
  refine V.iconst (v := 0) hC d_R_courtOf_7 (by decide) ?_
  refine V.istore (y := (0 : Int32)) (lo' := [some (.ref (w.1 0)), some (.int a1), some (.int a2), some (.int a3), some (.int a4), some (.long (0 : Int64)), none, some (.int (0 : Int32)), none, none, none]) hC d_R_courtOf_8 rfl rfl rfl ?_
  exact V.msk [true, true, true, true, true, true, false, true, false, false, false] rfl (wj_R_courtOf_10  hC hR  t22 a1 a2 a3 a4 (0 : Int64) (0 : Int32) h)
abbrev b_R_court : ByteArray := prog_10_method_77_code
def y_R_court : MethodName := ⟨nC8, "court", "(IIII)J"⟩
theorem d_R_court_0 : decode b_R_court 0 = .ok (.iload_n 1, 1) := by decide +kernel
theorem d_R_court_1 : decode b_R_court 1 = .ok (.iconst 0, 1) := by decide +kernel
theorem d_R_court_2 : decode b_R_court 2 = .ok (.bipush 16, 2) := by decide +kernel
theorem d_R_court_4 : decode b_R_court 4 = .ok (.invokestatic 97, 3) := by decide +kernel
theorem d_R_court_7 : decode b_R_court 7 = .ok (.ifCond .eq 40, 3) := by decide +kernel
theorem d_R_court_10 : decode b_R_court 10 = .ok (.iload_n 2, 1) := by decide +kernel
theorem d_R_court_11 : decode b_R_court 11 = .ok (.invokestatic 151, 3) := by decide +kernel
theorem d_R_court_14 : decode b_R_court 14 = .ok (.ifCond .eq 33, 3) := by decide +kernel
theorem d_R_court_17 : decode b_R_court 17 = .ok (.aload_n 0, 1) := by decide +kernel
theorem d_R_court_18 : decode b_R_court 18 = .ok (.iload_n 3, 1) := by decide +kernel
theorem d_R_court_19 : decode b_R_court 19 = .ok (.invokevirtual 142, 3) := by decide +kernel
theorem d_R_court_22 : decode b_R_court 22 = .ok (.ifCond .eq 25, 3) := by decide +kernel
theorem d_R_court_25 : decode b_R_court 25 = .ok (.iload 4, 2) := by decide +kernel
theorem d_R_court_27 : decode b_R_court 27 = .ok (.iconst 0, 1) := by decide +kernel
theorem d_R_court_28 : decode b_R_court 28 = .ok (.iconst 1, 1) := by decide +kernel
theorem d_R_court_29 : decode b_R_court 29 = .ok (.invokestatic 97, 3) := by decide +kernel
theorem d_R_court_32 : decode b_R_court 32 = .ok (.ifCond .eq 15, 3) := by decide +kernel
theorem d_R_court_35 : decode b_R_court 35 = .ok (.aload_n 0, 1) := by decide +kernel
theorem d_R_court_36 : decode b_R_court 36 = .ok (.iload_n 1, 1) := by decide +kernel
theorem d_R_court_37 : decode b_R_court 37 = .ok (.iload_n 2, 1) := by decide +kernel
theorem d_R_court_38 : decode b_R_court 38 = .ok (.iload_n 3, 1) := by decide +kernel
theorem d_R_court_39 : decode b_R_court 39 = .ok (.iload 4, 2) := by decide +kernel
theorem d_R_court_41 : decode b_R_court 41 = .ok (.invokevirtual 272, 3) := by decide +kernel
theorem d_R_court_44 : decode b_R_court 44 = .ok (.goto 8, 3) := by decide +kernel
theorem d_R_court_47 : decode b_R_court 47 = .ok (.bipush (-2), 2) := by decide +kernel
theorem d_R_court_49 : decode b_R_court 49 = .ok (.invokestatic 276, 3) := by decide +kernel
theorem d_R_court_52 : decode b_R_court 52 = .ok (.lreturn, 1) := by decide +kernel
theorem qm_R_272 : Cond.methodLink nC8 272 y_R_courtOf ∈ tbl := tbl_in 1267 (by decide +kernel) rfl
theorem qm_R_276 : Cond.methodLink nC8 276 y_R_no ∈ tbl := tbl_in 1274 (by decide +kernel) rfl
def j_R_court_47 (P : Int64 → Hp → Prop)  (σ : Hp)  : Prop :=
  wp_R_no σ (-2 : Int32) (fun (r1 : Int64) (t2 : Hp) => P r1 t2)
def wp_R_court (σ : Hp) (a1 : Int32) (a2 : Int32) (a3 : Int32) (a4 : Int32) (P : Int64 → Hp → Prop) : Prop :=
  wp_R_in σ a1 (0 : Int32) (16 : Int32) (fun (r3 : Int32) (t4 : Hp) => ((r3 = 0 → j_R_court_47 P t4 ) ∧ (¬ r3 = 0 → wp_R_isDay t4 a2 (fun (r6 : Int32) (t7 : Hp) => ((r6 = 0 → j_R_court_47 P t7 ) ∧ (¬ r6 = 0 → wp_R_isHouse t7 a3 (fun (r9 : Int32) (t10 : Hp) => ((r9 = 0 → j_R_court_47 P t10 ) ∧ (¬ r9 = 0 → wp_R_in t10 a4 (0 : Int32) (1 : Int32) (fun (r12 : Int32) (t13 : Hp) => ((r12 = 0 → j_R_court_47 P t13 ) ∧ (¬ r12 = 0 → wp_R_courtOf t13 a1 a2 a3 a4 (fun (r15 : Int64) (t16 : Hp) => P r15 t16)))))))))))))
set_option maxHeartbeats 4000000 in
set_option maxRecDepth 100000 in
theorem wj_R_court_47 {w : Wd} {κ : Kx} {P : Int64 → Hp → Prop} (hC : Cx μR w 5 κ nC8 b_R_court 8) (hR : RtL μR w 5 κ b_R_court P)  : ∀ (σ : Hp) , j_R_court_47  P  σ  → V μR w 5 κ σ [none, none, none, none, none] 47 [] := by
  intro σ  h
  unfold j_R_court_47 at h
  refine V.bipush (v := -2) hC d_R_court_47 (by decide) ?_
  refine V.callSL hC exR (w_R_no w σ (-2 : Int32) _ h) d_R_court_49 mo_R_no qm_R_276 rfl rfl rfl rfl (Nat.le_of_ble_eq_true rfl) (fun r1 t2 h => ?_)
  exact hR _ _ _ _ h d_R_court_52
set_option maxHeartbeats 4000000 in
set_option maxRecDepth 100000 in
theorem w_R_court (w : Wd) (σ : Hp) (a1 : Int32) (a2 : Int32) (a3 : Int32) (a4 : Int32) (P : Int64 → Hp → Prop) (h : wp_R_court σ a1 a2 a3 a4 P) : CtL μR w y_R_court b_R_court 5 (some .long) 8 [.ref (w.1 0), .int a1, .int a2, .int a3, .int a4] σ P := by
  unfold wp_R_court at h
  refine CtL.ofV (C := nC8) (lo := [some (.ref (w.1 0)), some (.int a1), some (.int a2), some (.int a3), some (.int a4)]) exR (by decide +kernel) rfl rfl rfl (fun κ hC hR => ?_)
  refine V.iload_n hC d_R_court_0 rfl rfl ?_
  refine V.iconst (v := 0) hC d_R_court_1 (by decide) ?_
  refine V.bipush (v := 16) hC d_R_court_2 (by decide) ?_
  refine V.callSI hC exR (w_R_in w σ a1 (0 : Int32) (16 : Int32) _ h) d_R_court_4 mo_R_in qm_R_97 rfl rfl rfl rfl (Nat.le_of_ble_eq_true rfl) (fun r3 t4 h => ?_)
  refine V.if_eq (tgt := 47) hC d_R_court_7 (by decide) (fun c5 => ?_) (fun c5 => ?_)
  · replace h := h.1 c5
    exact V.msk [false, false, false, false, false] rfl (wj_R_court_47  hC hR  t4  h)
  · replace h := h.2 c5
    refine V.iload_n hC d_R_court_10 rfl rfl ?_
    refine V.callSI hC exR (w_R_isDay w t4 a2 _ h) d_R_court_11 mo_R_isDay qm_R_151 rfl rfl rfl rfl (Nat.le_of_ble_eq_true rfl) (fun r6 t7 h => ?_)
    refine V.if_eq (tgt := 47) hC d_R_court_14 (by decide) (fun c8 => ?_) (fun c8 => ?_)
    · replace h := h.1 c8
      exact V.msk [false, false, false, false, false] rfl (wj_R_court_47  hC hR  t7  h)
    · replace h := h.2 c8
      refine V.aload_n hC d_R_court_17 rfl rfl ?_
      refine V.iload_n hC d_R_court_18 rfl rfl ?_
      refine V.callVI hC exR (w_R_isHouse w t7 a3 _ h) d_R_court_19 mo_R_isHouse qm_R_142 rfl rfl rfl rfl rfl rfl rfl (Nat.le_of_ble_eq_true rfl) (fun r9 t10 h => ?_)
      refine V.if_eq (tgt := 47) hC d_R_court_22 (by decide) (fun c11 => ?_) (fun c11 => ?_)
      · replace h := h.1 c11
        exact V.msk [false, false, false, false, false] rfl (wj_R_court_47  hC hR  t10  h)
      · replace h := h.2 c11
        refine V.iload hC d_R_court_25 rfl ?_
        refine V.iconst (v := 0) hC d_R_court_27 (by decide) ?_
        refine V.iconst (v := 1) hC d_R_court_28 (by decide) ?_
        refine V.callSI hC exR (w_R_in w t10 a4 (0 : Int32) (1 : Int32) _ h) d_R_court_29 mo_R_in qm_R_97 rfl rfl rfl rfl (Nat.le_of_ble_eq_true rfl) (fun r12 t13 h => ?_)
        refine V.if_eq (tgt := 47) hC d_R_court_32 (by decide) (fun c14 => ?_) (fun c14 => ?_)
        · replace h := h.1 c14
          exact V.msk [false, false, false, false, false] rfl (wj_R_court_47  hC hR  t13  h)
        · replace h := h.2 c14
          refine V.aload_n hC d_R_court_35 rfl rfl ?_
          refine V.iload_n hC d_R_court_36 rfl rfl ?_
          refine V.iload_n hC d_R_court_37 rfl rfl ?_
          refine V.iload_n hC d_R_court_38 rfl rfl ?_
          refine V.iload hC d_R_court_39 rfl ?_
          refine V.callVL hC exR (w_R_courtOf w t13 a1 a2 a3 a4 _ h) d_R_court_41 mo_R_courtOf qm_R_272 rfl rfl rfl rfl rfl rfl rfl (Nat.le_of_ble_eq_true rfl) (fun r15 t16 h => ?_)
          refine V.goto (tgt := 52) hC d_R_court_44 (by decide) ?_
          exact hR _ _ _ _ h d_R_court_52
abbrev b_R_monthOf : ByteArray := prog_10_method_78_code
def y_R_monthOf : MethodName := ⟨nC8, "monthOf", "(III)I"⟩
theorem d_R_monthOf_0 : decode b_R_monthOf 0 = .ok (.aload_n 0, 1) := by decide +kernel
theorem d_R_monthOf_1 : decode b_R_monthOf 1 = .ok (.invokevirtual 183, 3) := by decide +kernel
theorem d_R_monthOf_4 : decode b_R_monthOf 4 = .ok (.iconst 0, 1) := by decide +kernel
theorem d_R_monthOf_5 : decode b_R_monthOf 5 = .ok (.istore 4, 2) := by decide +kernel
theorem d_R_monthOf_7 : decode b_R_monthOf 7 = .ok (.iload 4, 2) := by decide +kernel
theorem d_R_monthOf_9 : decode b_R_monthOf 9 = .ok (.sipush 240, 3) := by decide +kernel
theorem d_R_monthOf_12 : decode b_R_monthOf 12 = .ok (.if_icmp .ge 17, 3) := by decide +kernel
theorem d_R_monthOf_15 : decode b_R_monthOf 15 = .ok (.aload_n 0, 1) := by decide +kernel
theorem d_R_monthOf_16 : decode b_R_monthOf 16 = .ok (.getfield 49, 3) := by decide +kernel
theorem d_R_monthOf_19 : decode b_R_monthOf 19 = .ok (.iload 4, 2) := by decide +kernel
theorem d_R_monthOf_21 : decode b_R_monthOf 21 = .ok (.iconst 0, 1) := by decide +kernel
theorem d_R_monthOf_22 : decode b_R_monthOf 22 = .ok (.bastore, 1) := by decide +kernel
theorem d_R_monthOf_23 : decode b_R_monthOf 23 = .ok (.iinc 4 1, 3) := by decide +kernel
theorem d_R_monthOf_26 : decode b_R_monthOf 26 = .ok (.goto (-19), 3) := by decide +kernel
theorem d_R_monthOf_29 : decode b_R_monthOf 29 = .ok (.iload_n 1, 1) := by decide +kernel
theorem d_R_monthOf_30 : decode b_R_monthOf 30 = .ok (.istore 4, 2) := by decide +kernel
theorem d_R_monthOf_32 : decode b_R_monthOf 32 = .ok (.iconst 0, 1) := by decide +kernel
theorem d_R_monthOf_33 : decode b_R_monthOf 33 = .ok (.istore 5, 2) := by decide +kernel
theorem d_R_monthOf_35 : decode b_R_monthOf 35 = .ok (.iload 5, 2) := by decide +kernel
theorem d_R_monthOf_37 : decode b_R_monthOf 37 = .ok (.iload_n 2, 1) := by decide +kernel
theorem d_R_monthOf_38 : decode b_R_monthOf 38 = .ok (.if_icmp .gt 50, 3) := by decide +kernel
theorem d_R_monthOf_41 : decode b_R_monthOf 41 = .ok (.aload_n 0, 1) := by decide +kernel
theorem d_R_monthOf_42 : decode b_R_monthOf 42 = .ok (.getfield 116, 3) := by decide +kernel
theorem d_R_monthOf_45 : decode b_R_monthOf 45 = .ok (.ifCond .le 43, 3) := by decide +kernel
theorem d_R_monthOf_48 : decode b_R_monthOf 48 = .ok (.ldc_w 280, 3) := by decide +kernel
theorem d_R_monthOf_51 : decode b_R_monthOf 51 = .ok (.iload 4, 2) := by decide +kernel
theorem d_R_monthOf_53 : decode b_R_monthOf 53 = .ok (.imul, 1) := by decide +kernel
theorem d_R_monthOf_54 : decode b_R_monthOf 54 = .ok (.sipush 12345, 3) := by decide +kernel
theorem d_R_monthOf_57 : decode b_R_monthOf 57 = .ok (.iadd, 1) := by decide +kernel
theorem d_R_monthOf_58 : decode b_R_monthOf 58 = .ok (.istore 4, 2) := by decide +kernel
theorem d_R_monthOf_60 : decode b_R_monthOf 60 = .ok (.aload_n 0, 1) := by decide +kernel
theorem d_R_monthOf_61 : decode b_R_monthOf 61 = .ok (.getfield 49, 3) := by decide +kernel
theorem d_R_monthOf_64 : decode b_R_monthOf 64 = .ok (.bipush 30, 2) := by decide +kernel
theorem d_R_monthOf_66 : decode b_R_monthOf 66 = .ok (.iload 4, 2) := by decide +kernel
theorem d_R_monthOf_68 : decode b_R_monthOf 68 = .ok (.bipush 16, 2) := by decide +kernel
theorem d_R_monthOf_70 : decode b_R_monthOf 70 = .ok (.iushr, 1) := by decide +kernel
theorem d_R_monthOf_71 : decode b_R_monthOf 71 = .ok (.aload_n 0, 1) := by decide +kernel
theorem d_R_monthOf_72 : decode b_R_monthOf 72 = .ok (.getfield 116, 3) := by decide +kernel
theorem d_R_monthOf_75 : decode b_R_monthOf 75 = .ok (.irem, 1) := by decide +kernel
theorem d_R_monthOf_76 : decode b_R_monthOf 76 = .ok (.imul, 1) := by decide +kernel
theorem d_R_monthOf_77 : decode b_R_monthOf 77 = .ok (.iload 5, 2) := by decide +kernel
theorem d_R_monthOf_79 : decode b_R_monthOf 79 = .ok (.iadd, 1) := by decide +kernel
theorem d_R_monthOf_80 : decode b_R_monthOf 80 = .ok (.iconst 1, 1) := by decide +kernel
theorem d_R_monthOf_81 : decode b_R_monthOf 81 = .ok (.bastore, 1) := by decide +kernel
theorem d_R_monthOf_82 : decode b_R_monthOf 82 = .ok (.iinc 5 1, 3) := by decide +kernel
theorem d_R_monthOf_85 : decode b_R_monthOf 85 = .ok (.goto (-50), 3) := by decide +kernel
theorem d_R_monthOf_88 : decode b_R_monthOf 88 = .ok (.aload_n 0, 1) := by decide +kernel
theorem d_R_monthOf_89 : decode b_R_monthOf 89 = .ok (.invokevirtual 186, 3) := by decide +kernel
theorem d_R_monthOf_92 : decode b_R_monthOf 92 = .ok (.iload_n 3, 1) := by decide +kernel
theorem d_R_monthOf_93 : decode b_R_monthOf 93 = .ok (.iconst (-1), 1) := by decide +kernel
theorem d_R_monthOf_94 : decode b_R_monthOf 94 = .ok (.if_icmp .ne 11, 3) := by decide +kernel
theorem d_R_monthOf_97 : decode b_R_monthOf 97 = .ok (.aload_n 0, 1) := by decide +kernel
theorem d_R_monthOf_98 : decode b_R_monthOf 98 = .ok (.iload_n 2, 1) := by decide +kernel
theorem d_R_monthOf_99 : decode b_R_monthOf 99 = .ok (.invokevirtual 209, 3) := by decide +kernel
theorem d_R_monthOf_102 : decode b_R_monthOf 102 = .ok (.goto 9, 3) := by decide +kernel
theorem d_R_monthOf_105 : decode b_R_monthOf 105 = .ok (.aload_n 0, 1) := by decide +kernel
theorem d_R_monthOf_106 : decode b_R_monthOf 106 = .ok (.iload_n 2, 1) := by decide +kernel
theorem d_R_monthOf_107 : decode b_R_monthOf 107 = .ok (.iload_n 3, 1) := by decide +kernel
theorem d_R_monthOf_108 : decode b_R_monthOf 108 = .ok (.invokevirtual 198, 3) := by decide +kernel
theorem d_R_monthOf_111 : decode b_R_monthOf 111 = .ok (.ireturn, 1) := by decide +kernel
theorem qc_R_280 : Cond.constant nC8 280 (1103515245) ∈ tbl := tbl_in 1286 (by decide +kernel) rfl
theorem mo_R_monthOf : MokV y_R_monthOf b_R_monthOf 6 (some .int) 3 := ⟨⟨(tbl_in 1285 (by decide +kernel) rfl), (tbl_in 70 (by decide +kernel) rfl)⟩, ⟨(tbl_in 1284 (by decide +kernel) rfl), tbl_lw _ (tbl_in 54 (by decide +kernel) rfl), (tbl_in 54 (by decide +kernel) rfl)⟩, ⟨by decide +kernel, by decide +kernel⟩, by decide +kernel⟩
def j_R_monthOf_88 (P : Int32 → Hp → Prop)  (σ : Hp) (x2 : Int32) (x3 : Int32) : Prop :=
  wp_R_lays σ (fun (t2 : Hp) => ((¬ x3 = (-1 : Int32) → wp_R_balanceNow t2 x2 x3 (fun (r4 : Int32) (t5 : Hp) => P r4 t5)) ∧ (x3 = (-1 : Int32) → wp_R_coinNow t2 x2 (fun (r6 : Int32) (t7 : Hp) => P r6 t7))))
def b_R_monthOf_35_ (P : Int32 → Hp → Prop)  (I35 : Hp → Int32 → Int32 → Int32 → Int32 → Prop) (σ : Hp) (x2 : Int32) (x3 : Int32) (x4 : Int32) (x5 : Int32) : Prop :=
  ((x2 < x5 → j_R_monthOf_88 P σ x2 x3) ∧ (¬ x2 < x5 → (((σ 0 2) ≤ 0 → j_R_monthOf_88 P σ x2 x3) ∧ (¬ (σ 0 2) ≤ 0 → (∀ v10 : Int32, v10 = ((1103515245 : Int32) * x4) + (12345 : Int32) → (¬ (σ 0 2) = 0) ∧ (vp_in (((30 : Int32) * (((v10.toUInt32 >>> ((16 : Int32).toUInt32 &&& Int32.toUInt32 31)).toInt32) - ((v10.toUInt32 >>> ((16 : Int32).toUInt32 &&& Int32.toUInt32 31)).toInt32) / (σ 0 2) * (σ 0 2))) + x5) 240) ∧ (∀ v13 : Int32, v13 = x5 + (1 : Int32) → I35 (st σ 14 (ix (((30 : Int32) * (((v10.toUInt32 >>> ((16 : Int32).toUInt32 &&& Int32.toUInt32 31)).toInt32) - ((v10.toUInt32 >>> ((16 : Int32).toUInt32 &&& Int32.toUInt32 31)).toInt32) / (σ 0 2) * (σ 0 2))) + x5)) (1 : Int32)) x2 x3 v10 v13))))))
def j_R_monthOf_35 (P : Int32 → Hp → Prop)  (σ : Hp) (x2 : Int32) (x3 : Int32) (x4 : Int32) (x5 : Int32) : Prop := ∀ I35 : Hp → Int32 → Int32 → Int32 → Int32 → Prop, (∀ (σ : Hp) (x2 : Int32) (x3 : Int32) (x4 : Int32) (x5 : Int32), b_R_monthOf_35_  P  I35 σ x2 x3 x4 x5 → I35 σ x2 x3 x4 x5) → I35 σ x2 x3 x4 x5
def b_R_monthOf_7_ (P : Int32 → Hp → Prop)  (I7 : Hp → Int32 → Int32 → Int32 → Int32 → Prop) (σ : Hp) (x1 : Int32) (x2 : Int32) (x3 : Int32) (x4 : Int32) : Prop :=
  (((240 : Int32) ≤ x4 → j_R_monthOf_35 P σ x2 x3 x1 (0 : Int32)) ∧ (¬ (240 : Int32) ≤ x4 → (vp_in x4 240) ∧ (∀ v16 : Int32, v16 = x4 + (1 : Int32) → I7 (st σ 14 (ix x4) (0 : Int32)) x1 x2 x3 v16)))
def j_R_monthOf_7 (P : Int32 → Hp → Prop)  (σ : Hp) (x1 : Int32) (x2 : Int32) (x3 : Int32) (x4 : Int32) : Prop := ∀ I7 : Hp → Int32 → Int32 → Int32 → Int32 → Prop, (∀ (σ : Hp) (x1 : Int32) (x2 : Int32) (x3 : Int32) (x4 : Int32), b_R_monthOf_7_  P  I7 σ x1 x2 x3 x4 → I7 σ x1 x2 x3 x4) → I7 σ x1 x2 x3 x4
def wp_R_monthOf (σ : Hp) (a1 : Int32) (a2 : Int32) (a3 : Int32) (P : Int32 → Hp → Prop) : Prop :=
  wp_R_asTold σ (fun (t18 : Hp) => j_R_monthOf_7 P t18 a1 a2 a3 (0 : Int32))
set_option maxHeartbeats 4000000 in
set_option maxRecDepth 100000 in
theorem wj_R_monthOf_88 {w : Wd} {κ : Kx} {P : Int32 → Hp → Prop} (hC : Cx μR w 6 κ nC8 b_R_monthOf 7) (hR : RtI μR w 6 κ b_R_monthOf .int P)  : ∀ (σ : Hp) (x2 : Int32) (x3 : Int32), j_R_monthOf_88  P  σ x2 x3 → V μR w 6 κ σ [some (.ref (w.1 0)), none, some (.int x2), some (.int x3), none, none] 88 [] := by
  intro σ x2 x3 h
  unfold j_R_monthOf_88 at h
  refine V.aload_n hC d_R_monthOf_88 rfl rfl ?_
  refine V.callVN hC exR (w_R_lays w σ  _ h) d_R_monthOf_89 mo_R_lays qm_R_186 rfl rfl rfl rfl rfl rfl rfl (Nat.le_of_ble_eq_true rfl) (fun t2 h => ?_)
  refine V.iload_n hC d_R_monthOf_92 rfl rfl ?_
  refine V.iconst (v := -1) hC d_R_monthOf_93 (by decide) ?_
  refine V.icmp_ne (tgt := 105) hC d_R_monthOf_94 (by decide) (fun c3 => ?_) (fun c3 => ?_)
  · replace h := h.1 c3
    refine V.aload_n hC d_R_monthOf_105 rfl rfl ?_
    refine V.iload_n hC d_R_monthOf_106 rfl rfl ?_
    refine V.iload_n hC d_R_monthOf_107 rfl rfl ?_
    refine V.callVI hC exR (w_R_balanceNow w t2 x2 x3 _ h) d_R_monthOf_108 mo_R_balanceNow qm_R_198 rfl rfl rfl rfl rfl rfl rfl (Nat.le_of_ble_eq_true rfl) (fun r4 t5 h => ?_)
    exact hR _ _ _ _ h rfl d_R_monthOf_111
  · replace h := h.2 c3
    refine V.aload_n hC d_R_monthOf_97 rfl rfl ?_
    refine V.iload_n hC d_R_monthOf_98 rfl rfl ?_
    refine V.callVI hC exR (w_R_coinNow w t2 x2 _ h) d_R_monthOf_99 mo_R_coinNow qm_R_209 rfl rfl rfl rfl rfl rfl rfl (Nat.le_of_ble_eq_true rfl) (fun r6 t7 h => ?_)
    refine V.goto (tgt := 111) hC d_R_monthOf_102 (by decide) ?_
    exact hR _ _ _ _ h rfl d_R_monthOf_111
set_option maxHeartbeats 4000000 in
set_option maxRecDepth 100000 in
theorem wj_R_monthOf_35 {w : Wd} {κ : Kx} {P : Int32 → Hp → Prop} (hC : Cx μR w 6 κ nC8 b_R_monthOf 7) (hR : RtI μR w 6 κ b_R_monthOf .int P)  : ∀ (σ : Hp) (x2 : Int32) (x3 : Int32) (x4 : Int32) (x5 : Int32), j_R_monthOf_35  P  σ x2 x3 x4 x5 → V μR w 6 κ σ [some (.ref (w.1 0)), none, some (.int x2), some (.int x3), some (.int x4), some (.int x5)] 35 [] := by
  intro σ x2 x3 x4 x5 h
  refine h (fun σ x2 x3 x4 x5 => V μR w 6 κ σ [some (.ref (w.1 0)), none, some (.int x2), some (.int x3), some (.int x4), some (.int x5)] 35 []) (fun σ x2 x3 x4 x5 h => ?_)
  unfold b_R_monthOf_35_ at h
  refine V.iload hC d_R_monthOf_35 rfl ?_
  refine V.iload_n hC d_R_monthOf_37 rfl rfl ?_
  refine V.icmp_gt (tgt := 88) hC d_R_monthOf_38 (by decide) (fun c8 => ?_) (fun c8 => ?_)
  · replace h := h.1 c8
    exact V.msk [true, false, true, true, false, false] rfl (wj_R_monthOf_88  hC hR  σ x2 x3 h)
  · replace h := h.2 c8
    refine V.aload_n hC d_R_monthOf_41 rfl rfl ?_
    refine V.getI (j := 2) hC d_R_monthOf_42 rfl rfl uC8 rfl rfl qf_R_116 ?_
    refine V.if_le (tgt := 88) hC d_R_monthOf_45 (by decide) (fun c9 => ?_) (fun c9 => ?_)
    · replace h := h.1 c9
      exact V.msk [true, false, true, true, false, false] rfl (wj_R_monthOf_88  hC hR  σ x2 x3 h)
    · replace h := h.2 c9
      refine V.ldcw (v := 1103515245) hC d_R_monthOf_48 qc_R_280 ?_
      refine V.iload hC d_R_monthOf_51 rfl ?_
      refine V.imul hC d_R_monthOf_53 ?_
      refine V.sipush (v := 12345) hC d_R_monthOf_54 (by decide) ?_
      refine V.iadd hC d_R_monthOf_57 ?_
      obtain ⟨v10, ev10⟩ : ∃ y : Int32, y = ((1103515245 : Int32) * x4) + (12345 : Int32) := ⟨_, rfl⟩
      replace h := h v10 ev10
      refine V.istore (y := v10) (lo' := [some (.ref (w.1 0)), none, some (.int x2), some (.int x3), some (.int v10), some (.int x5)]) hC d_R_monthOf_58 rfl ev10 rfl ?_
      refine V.aload_n hC d_R_monthOf_60 rfl rfl ?_
      refine V.getR (j := 18) hC d_R_monthOf_61 rfl rfl uC8 rfl rfl qf_R_49 ?_
      refine V.bipush (v := 30) hC d_R_monthOf_64 (by decide) ?_
      refine V.iload hC d_R_monthOf_66 rfl ?_
      refine V.bipush (v := 16) hC d_R_monthOf_68 (by decide) ?_
      refine V.iushr hC d_R_monthOf_70 ?_
      refine V.aload_n hC d_R_monthOf_71 rfl rfl ?_
      refine V.getI (j := 2) hC d_R_monthOf_72 rfl rfl uC8 rfl rfl qf_R_116 ?_
      obtain ⟨z11, h⟩ := h
      refine V.irem hC d_R_monthOf_75 z11 ?_
      refine V.imul hC d_R_monthOf_76 ?_
      refine V.iload hC d_R_monthOf_77 rfl ?_
      refine V.iadd hC d_R_monthOf_79 ?_
      refine V.iconst (v := 1) hC d_R_monthOf_80 (by decide) ?_
      obtain ⟨b12, h⟩ := h
      refine V.zast hC d_R_monthOf_81 rfl b12 (by decide) ?_
      obtain ⟨v13, ev13⟩ : ∃ y : Int32, y = x5 + (1 : Int32) := ⟨_, rfl⟩
      replace h := h v13 ev13
      refine V.iinc (y := v13) (lo' := [some (.ref (w.1 0)), none, some (.int x2), some (.int x3), some (.int v10), some (.int v13)]) hC d_R_monthOf_82 rfl rfl (show v13 = _ + Int32.ofInt (1) from ev13) rfl ?_
      refine V.goto (tgt := 35) hC d_R_monthOf_85 (by decide) ?_
      exact V.msk [true, false, true, true, true, true] rfl h
set_option maxHeartbeats 4000000 in
set_option maxRecDepth 100000 in
theorem wj_R_monthOf_7 {w : Wd} {κ : Kx} {P : Int32 → Hp → Prop} (hC : Cx μR w 6 κ nC8 b_R_monthOf 7) (hR : RtI μR w 6 κ b_R_monthOf .int P)  : ∀ (σ : Hp) (x1 : Int32) (x2 : Int32) (x3 : Int32) (x4 : Int32), j_R_monthOf_7  P  σ x1 x2 x3 x4 → V μR w 6 κ σ [some (.ref (w.1 0)), some (.int x1), some (.int x2), some (.int x3), some (.int x4), none] 7 [] := by
  intro σ x1 x2 x3 x4 h
  refine h (fun σ x1 x2 x3 x4 => V μR w 6 κ σ [some (.ref (w.1 0)), some (.int x1), some (.int x2), some (.int x3), some (.int x4), none] 7 []) (fun σ x1 x2 x3 x4 h => ?_)
  unfold b_R_monthOf_7_ at h
  refine V.iload hC d_R_monthOf_7 rfl ?_
  refine V.sipush (v := 240) hC d_R_monthOf_9 (by decide) ?_
  refine V.icmp_ge (tgt := 29) hC d_R_monthOf_12 (by decide) (fun c14 => ?_) (fun c14 => ?_)
  · replace h := h.1 c14
    refine V.iload_n hC d_R_monthOf_29 rfl rfl ?_
    refine V.istore (y := x1) (lo' := [some (.ref (w.1 0)), some (.int x1), some (.int x2), some (.int x3), some (.int x1), none]) hC d_R_monthOf_30 rfl rfl rfl ?_
    refine V.iconst (v := 0) hC d_R_monthOf_32 (by decide) ?_
    refine V.istore (y := (0 : Int32)) (lo' := [some (.ref (w.1 0)), some (.int x1), some (.int x2), some (.int x3), some (.int x1), some (.int (0 : Int32))]) hC d_R_monthOf_33 rfl rfl rfl ?_
    exact V.msk [true, false, true, true, true, true] rfl (wj_R_monthOf_35  hC hR  σ x2 x3 x1 (0 : Int32) h)
  · replace h := h.2 c14
    refine V.aload_n hC d_R_monthOf_15 rfl rfl ?_
    refine V.getR (j := 18) hC d_R_monthOf_16 rfl rfl uC8 rfl rfl qf_R_49 ?_
    refine V.iload hC d_R_monthOf_19 rfl ?_
    refine V.iconst (v := 0) hC d_R_monthOf_21 (by decide) ?_
    obtain ⟨b15, h⟩ := h
    refine V.zast hC d_R_monthOf_22 rfl b15 (by decide) ?_
    obtain ⟨v16, ev16⟩ : ∃ y : Int32, y = x4 + (1 : Int32) := ⟨_, rfl⟩
    replace h := h v16 ev16
    refine V.iinc (y := v16) (lo' := [some (.ref (w.1 0)), some (.int x1), some (.int x2), some (.int x3), some (.int v16), none]) hC d_R_monthOf_23 rfl rfl (show v16 = _ + Int32.ofInt (1) from ev16) rfl ?_
    refine V.goto (tgt := 7) hC d_R_monthOf_26 (by decide) ?_
    exact V.msk [true, true, true, true, true, false] rfl h
set_option maxHeartbeats 4000000 in
set_option maxRecDepth 100000 in
theorem w_R_monthOf (w : Wd) (σ : Hp) (a1 : Int32) (a2 : Int32) (a3 : Int32) (P : Int32 → Hp → Prop) (h : wp_R_monthOf σ a1 a2 a3 P) : CtI μR w y_R_monthOf b_R_monthOf 6 (some .int) 7 [.ref (w.1 0), .int a1, .int a2, .int a3] σ P := by
  unfold wp_R_monthOf at h
  refine CtI.ofV (C := nC8) (lo := [some (.ref (w.1 0)), some (.int a1), some (.int a2), some (.int a3), none, none]) exR (by decide +kernel) rfl rfl rfl (fun κ hC hR => ?_)
  refine V.aload_n hC d_R_monthOf_0 rfl rfl ?_
  refine V.callVN hC exR (w_R_asTold w σ  _ h) d_R_monthOf_1 mo_R_asTold qm_R_183 rfl rfl rfl rfl rfl rfl rfl (Nat.le_of_ble_eq_true rfl) (fun t18 h => ?_)
  refine V.iconst (v := 0) hC d_R_monthOf_4 (by decide) ?_
  refine V.istore (y := (0 : Int32)) (lo' := [some (.ref (w.1 0)), some (.int a1), some (.int a2), some (.int a3), some (.int (0 : Int32)), none]) hC d_R_monthOf_5 rfl rfl rfl ?_
  exact V.msk [true, true, true, true, true, false] rfl (wj_R_monthOf_7  hC hR  t18 a1 a2 a3 (0 : Int32) h)
