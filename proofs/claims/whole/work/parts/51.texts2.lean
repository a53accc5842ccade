theorem len_C {σ : Hp} {α : Abs} {t m : Nat} {P : Hp → Prop} (hw : WF α) (hC : RC σ α) (ht : t < 2) (hm : m ≤ aN α t) (h : ∀ (ρ : Hp) (α' : Abs), WF α' → RC ρ α' → ρ (t + 1) 3 = nI m → (∀ τ, RR τ α → RR (st τ 1 (ix (nI t)) (nI m)) α') → P ρ) : wp_P_takeText (st σ (t + 1) 3 (nI m)) (nI t) P := by
  obtain ⟨n0, b0, n1, b1, γ, rfl⟩ := uT_eq α
  have hw0 := hw.1.1.1
  have hw1 := hw.1.2.1
  rcases (show t = 0 ∨ t = 1 by omega) with rfl | rfl
  · have hm : m ≤ n0 := hm
    have hw0 : n0 ≤ 39 := hw0
    have hw2 : WF (mkA m b0 n1 b1 γ) := ⟨⟨⟨by show m ≤ 39; omega, fun i hi => hw.1.1.2 i (by have hi : i < m := hi; show i < n0; omega)⟩, hw.1.2⟩, hw.2⟩
    have hBB : Bt [0 + 1, 0 + 14] σ (st σ (0 + 1) 3 (nI m)) := (Bt.rf _ σ).st (by decide)
    obtain ⟨⟨t1, t2, t3, t4⟩, t5, t6⟩ := hC.1
    have hT : RCt (st σ (0 + 1) 3 (nI m)) (mkA m b0 n1 b1 γ) := by
      refine ⟨⟨?_, ?_, ?_, ?_⟩, fun i hi => ?_, ?_⟩
      · show st σ 1 3 (nI m) 1 3 = nI m; rw [st_at]; rfl
      · rw [hBB 2 (by decide)]; exact t2
      · show st σ 1 3 (nI m) 1 1 = 5; rw [st_at]; exact t3
      · rw [hBB 2 (by decide)]; exact t4
      · rw [st_ne _ _ _ (by decide)]; exact t5 i (by have hi : i < m := hi; show i < n0; omega)
      · rw [hBB 15 (by decide)]; exact t6
    refine tk_all (n0 := n0) (b0 := b0) (n1 := n1) (b1 := b1) hw2 hC ht (Or.inl rfl) (Or.inr ⟨rfl, rfl⟩) hBB hT (fun ρ hR e => h ρ _ hw2 hR ?_ (fun τ hτ => ?_))
    · rw [e]; show st σ 1 3 (nI m) 1 3 = nI m; rw [st_at]; rfl
    · refine txt_R (t := 0) hτ ((Bt.rf _ τ).st (by decide)) ⟨?_, ?_, fun i hi => ?_, fun i hi => ?_⟩
      · rw [st_at]; rfl
      · rw [st_at]; exact hτ.1.2.1
      · rw [st_ne _ _ _ (by decide)]; exact hτ.1.2.2.1 i (by have hi : i < m := hi; show i < n0; omega)
      · rw [st_ne _ _ _ (by decide)]; exact hτ.1.2.2.2 i hi
  · have hm : m ≤ n1 := hm
    have hw1 : n1 ≤ 17 := hw1
    have hw2 : WF (mkA n0 b0 m b1 γ) := ⟨⟨hw.1.1, ⟨by show m ≤ 17; omega, fun i hi => hw.1.2.2 i (by have hi : i < m := hi; show i < n1; omega)⟩⟩, hw.2⟩
    have hBB : Bt [1 + 1, 1 + 14] σ (st σ (1 + 1) 3 (nI m)) := (Bt.rf _ σ).st (by decide)
    obtain ⟨⟨t1, t2, t3, t4⟩, t5, t6⟩ := hC.1
    have hT : RCt (st σ (1 + 1) 3 (nI m)) (mkA n0 b0 m b1 γ) := by
      refine ⟨⟨?_, ?_, ?_, ?_⟩, ?_, fun i hi => ?_⟩
      · rw [hBB 1 (by decide)]; exact t1
      · show st σ 2 3 (nI m) 2 3 = nI m; rw [st_at]; rfl
      · rw [hBB 1 (by decide)]; exact t3
      · show st σ 2 3 (nI m) 2 1 = 3; rw [st_at]; exact t4
      · rw [hBB 14 (by decide)]; exact t5
      · rw [st_ne _ _ _ (by decide)]; exact t6 i (by have hi : i < m := hi; show i < n1; omega)
    refine tk_all (n0 := n0) (b0 := b0) (n1 := n1) (b1 := b1) hw2 hC ht (Or.inr ⟨rfl, rfl⟩) (Or.inl rfl) hBB hT (fun ρ hR e => h ρ _ hw2 hR ?_ (fun τ hτ => ?_))
    · rw [e]; show st σ 2 3 (nI m) 2 3 = nI m; rw [st_at]; rfl
    · refine txt_R (t := 1) hτ ((Bt.rf _ τ).st (by decide)) ⟨?_, ?_, fun i hi => ?_, fun i hi => ?_⟩
      · rw [st_at]; exact hτ.1.1
      · rw [st_at]; rfl
      · rw [st_ne _ _ _ (by decide)]; exact hτ.1.2.2.1 i hi
      · rw [st_ne _ _ _ (by decide)]; exact hτ.1.2.2.2 i (by have hi : i < m := hi; show i < n1; omega)
theorem h_wipe : H_wipe Rel := by
  intro σ τ x1 hrel
  obtain ⟨α, hw, hC, hR⟩ := hrel
  have keep : Rel σ τ := ⟨α, hw, hC, hR⟩
  unfold wp_P_wipe
  refine sp_P_isText (fun q => br_nt one0 ?_) (fun q => br_nf rfl (sp_R_isText (fun z => absurd z q) (fun _ => br_nf rfl ⟨rfl, keep⟩)))
  obtain ⟨t, ht, rfl⟩ := q
  refine sp_P_textOf ht ⟨isT_t ht, fun v7 e7 => sp_P_textOf ht ⟨isT_t ht, ?_⟩⟩
  rw [RC_n hC ht] at e7
  subst e7
  refine len_C (m := 0) hw hC ht (by omega) (fun ρ α' hw' hC' e hτ => ?_)
  unfold wp_R_wipe
  refine sp_R_isText (fun _ => br_nt one0 ⟨pk_in t 2 ht, fun v5 e5 => ⟨pk_in t 2 ht, ?_, α', hw', hC', hτ τ hR⟩⟩) (fun z => absurd ⟨t, ht, rfl⟩ z)
  rw [e5, ixn (by omega), RR_n hR ht]
theorem h_undo : H_undo Rel := by
  intro σ τ x1 hrel
  obtain ⟨α, hw, hC, hR⟩ := hrel
  have keep : Rel σ τ := ⟨α, hw, hC, hR⟩
  unfold wp_P_undo
  refine sp_P_isText (fun q => br_nt one0 ?_) (fun q => br_nf rfl (sp_R_isText (fun z => absurd z q) (fun _ => br_nf rfl ⟨rfl, keep⟩)))
  obtain ⟨t, ht, rfl⟩ := q
  have hN := aN_lt hw t
  have e1 : τ 1 (ix (nI t)) = nI (aN α t) := by rw [ixn (by omega)]; exact RR_n hR ht
  refine sp_P_textOf ht ⟨isT_t ht, ?_⟩
  rw [RC_n hC ht]
  refine pk_ne (aN α t) 0 (fun hz => ?_) (fun hz => ?_)
  · rw [show nI (aN α t) - 1 = nI (aN α t - 1) from pk_sub (b := 1) (by omega)]
    refine len_C (m := aN α t - 1) hw hC ht (by omega) (fun ρ α' hw' hC' e hτ => ?_)
    rw [e]
    unfold wp_R_undo
    refine sp_R_isText (fun _ => br_nt one0 ⟨pk_in t 2 ht, ?_⟩) (fun z => absurd ⟨t, ht, rfl⟩ z)
    rw [e1]
    refine pk_ne (aN α t) 0 (fun _ => ⟨pk_in t 2 ht, pk_in t 2 ht, pk_in t 2 ht, ?_⟩) (fun z => absurd z hz)
    rw [show nI (aN α t) - 1 = nI (aN α t - 1) from pk_sub (b := 1) (by omega)]
    refine ⟨?_, α', hw', hC', hτ τ hR⟩
    rw [st_at]; unfold upd; rw [if_pos rfl]
  · unfold wp_R_undo
    refine sp_R_isText (fun _ => br_nt one0 ⟨pk_in t 2 ht, ?_⟩) (fun z => absurd ⟨t, ht, rfl⟩ z)
    rw [e1]
    exact pk_ne (aN α t) 0 (fun z => absurd hz z) (fun _ => ⟨rfl, keep⟩)
/-- the fault of a text, of the class -/
theorem sp_P_faultT {σ : Hp} {α : Abs} {t : Nat} {P : Int32 → Hp → Prop} (hw : WF α) (hC : RCt σ α) (ht : t < 2) (h : P (if t = 0 then faultT 5 4 (aB0 α) (aN0 α) else faultT 3 3 (aB1 α) (aN1 α)) σ) : wp_T_faultPlace σ (t + 1) P := by
  obtain ⟨⟨t1, t2, t3, t4⟩, t5, t6⟩ := hC
  rcases (show t = 0 ∨ t = 1 by omega) with rfl | rfl
  · exact sp_T_faultPlace (per := 5) (km := 4) (n := aN0 α) (b := aB0 α) (Or.inl rfl) t3 (by omega) (by omega) rfl t1 hw.1.1.1 (fun i hi => ⟨t5 i hi, hw.1.1.2 i hi⟩) h
  · exact sp_T_faultPlace (per := 3) (km := 3) (n := aN1 α) (b := aB1 α) (Or.inr rfl) t4 (by omega) (by omega) rfl t2 hw.1.2.1 (fun i hi => ⟨t6 i hi, hw.1.2.2 i hi⟩) h
theorem h_fault : H_fault Rel := by
  intro σ τ x1 hrel
  obtain ⟨α, hw, hC, hR⟩ := hrel
  unfold wp_P_fault
  refine sp_P_isText (fun q => br_f one0 ?_) (fun q => br_t rfl (sp_R_isText (fun z => absurd z q) (fun _ => br_t rfl ⟨rfl, α, hw, hC, hR⟩)))
  obtain ⟨t, ht, rfl⟩ := q
  refine sp_P_textOf ht ⟨isT_t ht, sp_P_faultT hw hC.1 ht ?_⟩
  unfold wp_R_fault
  exact sp_R_isText (fun _ => br_f one0 (sp_R_faultOf hw hR.1 ht (fun ρ hB _ => ⟨rfl, α, hw, hC, hR.ps hB.ps⟩))) (fun z => absurd ⟨t, ht, rfl⟩ z)
theorem tab4 {x : Int32} (h : ¬ isD x 4) : x.toInt < 0 ∨ (3 : Int) < x.toInt := by
  rcases sw_cases x 3 with c | ⟨k, hk, e⟩
  · exact c
  · exact absurd ⟨k, by omega, e⟩ h
theorem h_house : H_house Rel := by
  intro σ τ x1 x2 hrel
  obtain ⟨α, hw, hC, hR⟩ := hrel
  have hH := nH_le hw
  unfold wp_P_house
  refine sp_P_isHouse hw hC.2.1.1 (fun q => br_nt one0 ?_) (fun q => br_nf rfl ?_)
  · have rr : ∀ P : Int32 → Hp → Prop, (∀ ρ, BtR τ ρ → Rd ρ α → wp_R_in ρ x2 0 3 (fun r4 t5 => (r4 = 0 → P (-2) t5) ∧ (¬ r4 = 0 → wp_R_houseOf t5 x1 x2 P))) → wp_R_house τ x1 x2 P := by
      intro P h
      exact sp_R_isHouse hw hR.1 (fun ρ hB hd _ => br_f one0 (h ρ hB hd)) (fun ρ _ _ z => absurd q z)
    obtain ⟨i, hi, rfl⟩ := q
    obtain ⟨s1, s2, s3, s4⟩ := hC.2.1.1.2 i hi
    have vals : ∀ ρ, Rd ρ α → ρ 3 i = nI (hK α i) ∧ ρ 4 i = nI (hM α i) ∧ ρ 5 i = nI (hJ α i) ∧ ρ 6 i = nI (hCo α i) := fun ρ hd => hd.1.2 i hi
    have hb : vp_in (nI i) 9 := pk_in i 9 (by omega)
    have h8 : vp_in (nI i) 8 := pk_in i 8 (by omega)
    have ex : ix (nI i) = i := ixn (by omega)
    have okR : ∀ ρ, BtR τ ρ → Rel σ ρ := fun ρ hB => ⟨α, hw, hC, hR.ps hB.ps⟩
    have inn : ∀ (ρ : Hp) (k : Nat) (P : Int32 → Hp → Prop), k < 4 → P 1 ρ → wp_R_in ρ (nI k) 0 3 P := fun ρ k P hk h => sp_R_in 3 rfl (by decide) (fun _ => h) (fun z => absurd ⟨k, hk, rfl⟩ z)
    refine ⟨fun c => rr _ (fun ρ hB hd => sp_R_in 3 rfl (by decide) (fun z => ?_) (fun _ => br_t rfl ⟨rfl, okR ρ hB⟩)), fun c => ⟨h8, ?_⟩, fun c => ⟨h8, ?_⟩, fun c => ⟨h8, ?_⟩, fun c => ⟨h8, ?_⟩⟩
    · exfalso
      obtain ⟨k, hk, rfl⟩ := z
      rw [nI_toInt (by omega)] at c; omega
    · subst c
      refine rr _ (fun ρ hB hd => inn ρ 0 _ (by omega) (br_f one0 ⟨fun z => absurd rfl z, fun _ => ⟨hb, ?_, okR ρ hB⟩⟩))
      rw [ex, s1, (vals ρ hd).1]
    · subst c
      refine rr _ (fun ρ hB hd => inn ρ 1 _ (by omega) (br_f one0 ⟨fun _ => ⟨fun z => absurd rfl z, fun _ => ⟨hb, ?_, okR ρ hB⟩⟩, fun z => absurd z one0⟩))
      rw [ex, s2, (vals ρ hd).2.1]
    · subst c
      refine rr _ (fun ρ hB hd => inn ρ 2 _ (by omega) (br_f one0 ⟨fun _ => ⟨fun _ => ⟨fun z => absurd rfl z, fun _ => ⟨hb, ?_, okR ρ hB⟩⟩, fun z => absurd z (by decide)⟩, fun z => absurd z (by decide)⟩))
      rw [ex, s3, (vals ρ hd).2.2.1]
    · subst c
      refine rr _ (fun ρ hB hd => inn ρ 3 _ (by omega) (br_f one0 ⟨fun _ => ⟨fun _ => ⟨fun _ => ⟨hb, ?_, okR ρ hB⟩, fun z => absurd z (by decide)⟩, fun z => absurd z (by decide)⟩, fun z => absurd z (by decide)⟩))
      rw [ex, s4, (vals ρ hd).2.2.2]
  · unfold wp_R_house
    exact sp_R_isHouse hw hR.1 (fun ρ _ _ z => absurd z q) (fun ρ hB hd _ => br_t rfl ⟨rfl, α, hw, hC, hR.ps hB.ps⟩)
theorem h_rate : H_rate Rel := by
  intro σ τ x1 hrel
  obtain ⟨α, hw, hC, hR⟩ := hrel
  unfold wp_P_rate
  refine sp_P_isKind (fun q => br_f one0 ?_) (fun q => br_t rfl (sp_R_in 2 rfl (by decide) (fun z => absurd z q) (fun _ => br_t rfl ⟨rfl, α, hw, hC, hR⟩)))
  obtain ⟨k, hk, rfl⟩ := q
  refine ⟨pk_in k 3 hk, sp_R_in 2 rfl (by decide) (fun _ => br_f one0 ?_) (fun z => absurd ⟨k, hk, rfl⟩ z)⟩
  refine sp_R_reads hw hR.1 (fun ρ hB hd => ⟨pk_in k 3 hk, ?_, α, hw, hC, hR.ps hB.ps⟩)
  rw [ixn (by omega), hC.2.1.2.1.2 k hk, hd.2.2 k hk]
theorem h_forget : H_forget Rel := by
  intro σ τ hrel
  obtain ⟨α, hw, hC, hR⟩ := hrel
  intro v1 e1 v2 e2
  obtain ⟨c1, c2, c3, c4, c5, c6⟩ := hC
  obtain ⟨r1, r2, r3, r4, r5, r6, r7⟩ := hR
  refine ⟨by rw [e1, e2, c4.1, r5.1], (α.1, α.2.1, α.2.2.1, α.2.2.2.1, (0, aEd α, aEh α, aEm α), α.2.2.2.2.2), ⟨hw.1, hw.2.1, hw.2.2.1, hw.2.2.2.1, ⟨Nat.zero_le _, fun i hi => by have hi : i < 0 := hi; omega⟩, hw.2.2.2.2.2⟩, ⟨?_, ?_, ?_, ?_, ?_, ?_⟩, ⟨?_, ?_, ?_, ?_, ?_, ?_, ?_⟩⟩
  · exact RCt.bt (cs := [6]) c1 ((Bt.rf _ σ).st (by decide)) (by simp)
  · obtain ⟨d1, d2, d3, d4, d5⟩ := c2
    exact ⟨RCs.bt (cs := [6]) d1 ((Bt.rf _ σ).st (by decide)) (by simp; omega), RCr.bt (cs := [6]) d2 ((Bt.rf _ σ).st (by decide)) (by simp), RCw.bt (cs := [6]) d3 ((Bt.rf _ σ).st (by decide)) (by decide), RCk.bt (cs := [6]) d4 ((Bt.rf _ σ).st (by decide)) (by simp; omega), RCd.bt (cs := [6]) d5 ((Bt.rf _ σ).st (by decide)) (by decide)⟩
  · exact RCz.bt (cs := [6]) c3 ((Bt.rf _ σ).st (by decide)) (by simp; omega)
  · exact ⟨by rw [st_at]; rfl, fun i hi => by have hi : i < 0 := hi; omega⟩
  · exact RCh.bt (cs := [6]) c5 ((Bt.rf _ σ).st (by decide)) (by simp; omega)
  · rw [st_ne _ _ _ (by decide)]; exact c6
  · exact r1
  · exact r2
  · exact r3
  · exact r4
  · exact ⟨by rw [st_at]; rfl, fun i hi => by have hi : i < 0 := hi; omega⟩
  · exact r6
  · exact r7
