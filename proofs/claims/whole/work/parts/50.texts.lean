/-! type, wipe, undo, fault, house, rate -/
theorem RCz.bt {σ ρ : Hp} {α : Abs} {cs : List Nat} (h : RCz σ α) (hB : Bt cs σ ρ) (hc : ∀ o, o = 5 ∨ (30 ≤ o ∧ o ≤ 32) → o ∉ cs) : RCz ρ α := by
  unfold RCz at *; rw [hB 5 (hc 5 (by omega)), hB 30 (hc 30 (by omega)), hB 31 (hc 31 (by omega)), hB 32 (hc 32 (by omega))]; exact h
theorem RCe.bt {σ ρ : Hp} {α : Abs} {cs : List Nat} (h : RCe σ α) (hB : Bt cs σ ρ) (hc : ∀ o, o = 6 ∨ (33 ≤ o ∧ o ≤ 35) → o ∉ cs) : RCe ρ α := by
  unfold RCe at *; rw [hB 6 (hc 6 (by omega)), hB 33 (hc 33 (by omega)), hB 34 (hc 34 (by omega)), hB 35 (hc 35 (by omega))]; exact h
theorem RCh.bt {σ ρ : Hp} {α : Abs} {cs : List Nat} (h : RCh σ α) (hB : Bt cs σ ρ) (hc : ∀ o, (10 ≤ o ∧ o ≤ 13) ∨ (38 ≤ o ∧ o ≤ 41) → o ∉ cs) : RCh ρ α := by
  intro s hs
  rw [hB (10 + s) (hc _ (by omega)), hB (38 + s) (hc _ (by omega))]; exact h s hs
theorem RCk.bt {σ ρ : Hp} {α : Abs} {cs : List Nat} (h : RCk σ α) (hB : Bt cs σ ρ) (hc : ∀ o, o = 5 ∨ (27 ≤ o ∧ o ≤ 29) → o ∉ cs) : RCk ρ α := by
  unfold RCk at *; rw [hB 5 (hc 5 (by omega)), hB 27 (hc 27 (by omega)), hB 28 (hc 28 (by omega)), hB 29 (hc 29 (by omega))]; exact h
theorem RCw.bt {σ ρ : Hp} {α : Abs} {cs : List Nat} (h : RCw σ α) (hB : Bt cs σ ρ) (hc : 26 ∉ cs) : RCw ρ α := by
  unfold RCw at *; rw [hB 26 hc]; exact h
theorem RCs.bt {σ ρ : Hp} {α : Abs} {cs : List Nat} (h : RCs σ α) (hB : Bt cs σ ρ) (hc : ∀ o, o = 4 ∨ (21 ≤ o ∧ o ≤ 24) → o ∉ cs) : RCs ρ α := by
  unfold RCs at *; rw [hB 4 (hc 4 (by omega)), hB 21 (hc 21 (by omega)), hB 22 (hc 22 (by omega)), hB 23 (hc 23 (by omega)), hB 24 (hc 24 (by omega))]; exact h
theorem RCr.bt {σ ρ : Hp} {α : Abs} {cs : List Nat} (h : RCr σ α) (hB : Bt cs σ ρ) (hc : ∀ o, o = 4 ∨ o = 25 → o ∉ cs) : RCr ρ α := by
  unfold RCr at *; rw [hB 4 (hc 4 (by omega)), hB 25 (hc 25 (by omega))]; exact h
theorem RCd.bt {σ ρ : Hp} {α : Abs} {cs : List Nat} (h : RCd σ α) (hB : Bt cs σ ρ) (hc : 17 ∉ cs) : RCd ρ α := by
  unfold RCd at *; rw [hB 17 hc]; exact h
theorem RCt.bt {σ ρ : Hp} {α : Abs} {cs : List Nat} (h : RCt σ α) (hB : Bt cs σ ρ) (hc : ∀ o, o = 1 ∨ o = 2 ∨ o = 14 ∨ o = 15 → o ∉ cs) : RCt ρ α := by
  unfold RCt at *; rw [hB 1 (hc 1 (by omega)), hB 2 (hc 2 (by omega)), hB 14 (hc 14 (by omega)), hB 15 (hc 15 (by omega))]; exact h
abbrev Abs2 : Type := (Nat → Nat) × (Nat × (Nat → Nat) × (Nat → Nat) × (Nat → Nat)) × (Nat × (Nat → Nat) × (Nat → Nat)) × (Nat × (Nat → Nat) × (Nat → Nat) × (Nat → Int32)) × ((Nat → Bool) × (Nat → Nat) × (Nat → Nat) × (Nat → Nat → Int32)) × Int32
def mkA (n0 : Nat) (b0 : Nat → Nat) (n1 : Nat) (b1 : Nat → Nat) (γ : Abs2) : Abs := (((n0, b0), (n1, b1)), γ)
theorem tk_all {σ ρ0 : Hp} {t n0 n1 m0 m1 : Nat} {b0 b1 c0 c1 : Nat → Nat} {γ : Abs2} {P : Hp → Prop} (hw : WF (mkA m0 c0 m1 c1 γ)) (hR : RC σ (mkA n0 b0 n1 b1 γ)) (ht : t < 2) (h0 : t = 0 ∨ (m0 = n0 ∧ c0 = b0)) (h1 : t = 1 ∨ (m1 = n1 ∧ c1 = b1)) (hB : Bt [t + 1, t + 14] σ ρ0) (hT : RCt ρ0 (mkA m0 c0 m1 c1 γ)) (h : ∀ ρ, RC ρ (mkA m0 c0 m1 c1 γ) → ρ (t + 1) = ρ0 (t + 1) → P ρ) : wp_P_takeText ρ0 (nI t) P := by
  obtain ⟨r1, ⟨r2, r3, r4, r5, r6⟩, r7, r8, r9, r10⟩ := hR
  have nin : ∀ o, (o = 0 ∨ (3 ≤ o ∧ o ≤ 13) ∨ 16 ≤ o) → o ∉ [t + 1, t + 14] := by
    intro o ho; simp; omega
  have w0 : RCw ρ0 (mkA m0 c0 m1 c1 γ) := RCw.bt (α := mkA n0 b0 n1 b1 γ) r4 hB (nin _ (by omega))
  have k0 : RCk ρ0 (mkA m0 c0 m1 c1 γ) := RCk.bt (α := mkA n0 b0 n1 b1 γ) r5 hB (fun o ho => nin o (by omega))
  have z0 : RCz ρ0 (mkA m0 c0 m1 c1 γ) := RCz.bt (α := mkA n0 b0 n1 b1 γ) r7 hB (fun o ho => nin o (by omega))
  have e0 : RCe ρ0 (mkA m0 c0 m1 c1 γ) := RCe.bt (α := mkA n0 b0 n1 b1 γ) r8 hB (fun o ho => nin o (by omega))
  have s0 : RCh ρ0 (mkA m0 c0 m1 c1 γ) := RCh.bt (α := mkA n0 b0 n1 b1 γ) r9 hB (fun o ho => nin o (by omega))
  refine sp_P_takeText (α := mkA m0 c0 m1 c1 γ) hw hT w0 k0 ?_ ?_ ht (fun ρ hB2 hs hr hd => h ρ ?_ (hB2 (t + 1) (by simp; omega)))
  · rcases h1 with h1 | ⟨rfl, rfl⟩
    · exact Or.inl h1
    · exact Or.inr (RCr.bt (α := mkA n0 b0 m1 c1 γ) r3 hB (fun o ho => nin o (by omega)))
  · rcases h0 with h0 | ⟨rfl, rfl⟩
    · exact Or.inl h0
    · exact Or.inr (RCs.bt (α := mkA m0 c0 n1 b1 γ) r2 hB (fun o ho => nin o (by omega)))
  · refine ⟨hT.bt hB2 (by simp), ⟨hs, hr, w0.bt hB2 (by simp), k0.bt hB2 (by simp; omega), hd⟩, z0.bt hB2 (by simp; omega), e0.bt hB2 (by simp; omega), s0.bt hB2 (by simp; omega), ?_⟩
    rw [hB2 0 (by simp), hB 0 (nin 0 (by omega))]; exact r10
theorem sp_P_textOf {σ : Hp} {t : Nat} {P : Nat → Hp → Prop} (ht : t < 2) (h : P (t + 1) σ) : wp_P_textOf σ (nI t) P := by
  refine pk_ne t 0 (fun c => ?_) (fun c => ?_)
  · rw [show t = 1 by omega] at h; exact h
  · rw [c] at h; exact h
theorem isT_t {t : Nat} (h : t < 2) : isT (t + 1) := by
  rcases (show t = 0 ∨ t = 1 by omega) with rfl | rfl
  · exact Or.inl rfl
  · exact Or.inr rfl
theorem tlen_t {t : Nat} (h : t < 2) : tlen (t + 1) = (if t = 0 then 39 else 17) := by
  rcases (show t = 0 ∨ t = 1 by omega) with rfl | rfl <;> rfl
/-- size of text t -/
theorem RC_n {σ : Hp} {α : Abs} {t : Nat} (h : RC σ α) (ht : t < 2) : σ (t + 1) 3 = nI (aN α t) := by
  rcases (show t = 0 ∨ t = 1 by omega) with rfl | rfl
  · exact h.1.1.1
  · exact h.1.1.2.1
theorem RR_n {τ : Hp} {α : Abs} {t : Nat} (h : RR τ α) (ht : t < 2) : τ 1 t = nI (aN α t) := by
  rcases (show t = 0 ∨ t = 1 by omega) with rfl | rfl
  · exact h.1.1
  · exact h.1.2.1
def capT (t : Nat) : Nat := if t = 0 then 39 else 17
theorem aN_cap {α : Abs} {t : Nat} (hw : WF α) : aN α t ≤ capT t := by
  have h1 := hw.1.1.1
  have h2 := hw.1.2.1
  unfold aN capT; split <;> omega
theorem uT_eq : ∀ (α : Abs), ∃ n0 b0 n1 b1 γ, α = mkA n0 b0 n1 b1 γ := fun α => ⟨α.1.1.1, α.1.1.2, α.1.2.1, α.1.2.2, α.2, rfl⟩
/-- text t has become n bytes b: both pictures -/
theorem txt_R {τ ρ : Hp} {t n0 n1 m0 m1 : Nat} {b0 b1 c0 c1 : Nat → Nat} {γ : Abs2} (hR : RR τ (mkA n0 b0 n1 b1 γ)) (hB : Bt [1, 2] τ ρ) (hT : RRt ρ (mkA m0 c0 m1 c1 γ)) : RR ρ (mkA m0 c0 m1 c1 γ) := by
  obtain ⟨r1, r2, r3, r4, r5, r6, r7⟩ := hR
  refine ⟨hT, ?_, ?_, ?_, ?_, ?_, ?_⟩
  · unfold RRw at *; rw [hB 8 (by decide)]; exact r2
  · unfold RRk at *; rw [hB 0 (by decide), hB 9 (by decide), hB 10 (by decide), hB 11 (by decide)]; exact r3
  · unfold RRz at *; rw [hB 0 (by decide), hB 12 (by decide), hB 13 (by decide)]; exact r4
  · unfold RRe at *; rw [hB 0 (by decide), hB 20 (by decide), hB 21 (by decide), hB 22 (by decide)]; exact r5
  · unfold RRh at *; rw [hB 24 (by decide), hB 25 (by decide), hB 26 (by decide), hB 27 (by decide)]; exact r6
  · rw [hB 0 (by decide)]; exact r7
theorem h_type : H_type Rel := by
  intro σ τ x1 x2 hrel
  obtain ⟨α, hw, hC, hR⟩ := hrel
  have keep : Rel σ τ := ⟨α, hw, hC, hR⟩
  unfold wp_P_type
  refine sp_P_isText (fun q => br_f one0 ?_) (fun q => br_t rfl (sp_R_isText (fun z => absurd z q) (fun _ => br_t rfl ⟨rfl, keep⟩)))
  obtain ⟨t, ht, rfl⟩ := q
  -- the byte
  by_cases hx : isD x2 256
  · obtain ⟨c, hc, rfl⟩ := hx
    refine br_f (nI_pos (by omega)) ?_
    refine pk_le c 255 (fun _ => ?_) (fun z => absurd z (by omega))
    refine sp_P_textOf ht ⟨isT_t ht, isT_t ht, ?_⟩
    have eN := RC_n hC ht
    have hcap := aN_cap (t := t) hw
    have hcap2 : capT t ≤ 39 := by unfold capT; split <;> omega
    have etl : tlen (t + 1) = capT t := tlen_t ht
    rw [eN, etl]
    have rin : ∀ P, P 1 τ → wp_R_in τ (nI c) 0 255 P := fun P h => sp_R_in 255 rfl (by decide) (fun _ => h) (fun z => absurd ⟨c, hc, rfl⟩ z)
    have rcap : ∀ (P : Int32 → Hp → Prop), j_R_type_38 P τ (nI t) (nI c) (τ 1 (ix (nI t))) (nI (capT t)) → wp_R_type τ (nI t) (nI c) P := by
      intro P h
      unfold wp_R_type
      refine sp_R_isText (fun _ => br_f one0 (rin _ (br_nt one0 ⟨pk_in t 2 ht, ?_⟩))) (fun z => absurd ⟨t, ht, rfl⟩ z)
      refine pk_ne t 0 (fun z => ?_) (fun z => ?_)
      · unfold capT at h; rw [if_neg z] at h; exact h
      · unfold capT at h; rw [if_pos z] at h; exact h
    have e1 : τ 1 (ix (nI t)) = nI (aN α t) := by rw [ixn (by omega)]; exact RR_n hR ht
    refine pk_lt (aN α t) (capT t) (fun hlt => br_t rfl ?_) (fun hge => br_f one0 ?_)
    · -- room for one more
      refine ⟨isT_t ht, ?_, ?_⟩
      · rw [eN, etl]; exact pk_in _ _ hlt
      obtain ⟨n0, b0, n1, b1, γ, rfl⟩ := uT_eq α
      rcases (show t = 0 ∨ t = 1 by omega) with rfl | rfl
      · have hlt0 : n0 < 39 := hlt
        have eN0 : σ (0 + 1) 3 = nI n0 := eN
        generalize hρ : st (st σ (0 + 1 + 13) (ix (σ (0 + 1) 3)) (nI c)) (0 + 1) 3 ((st σ (0 + 1 + 13) (ix (σ (0 + 1) 3)) (nI c)) (0 + 1) 3 + 1) = ρ
        have hw2 : WF (mkA (n0 + 1) (fun i => if i = n0 then c else b0 i) n1 b1 γ) := by
          refine ⟨⟨⟨by show n0 + 1 ≤ 39; omega, fun i hi => ?_⟩, hw.1.2⟩, hw.2⟩
          show (if i = n0 then c else b0 i) < 256
          by_cases e : i = n0
          · rw [if_pos e]; exact hc
          · rw [if_neg e]; exact hw.1.1.2 i (by have hi : i < n0 + 1 := hi; show i < n0; omega)
        have hBB : Bt [0 + 1, 0 + 14] σ ρ := by rw [← hρ]; exact ((Bt.rf _ σ).st (by decide)).st (by decide)
        have e13 : ρ 1 3 = nI (n0 + 1) := by
          rw [← hρ, st_at]; unfold upd; rw [if_pos rfl, st_ne _ _ _ (by decide), eN0]; exact nI_1 n0
        have e11 : ρ 1 1 = σ 1 1 := by
          rw [← hρ, st_at]; unfold upd; rw [if_neg (by decide), st_ne _ _ _ (by decide)]
        have hT2 : RCt ρ (mkA (n0 + 1) (fun i => if i = n0 then c else b0 i) n1 b1 γ) := by
          obtain ⟨⟨t1, t2, t3, t4⟩, t5, t6⟩ := hC.1
          refine ⟨⟨e13, ?_, ?_, ?_⟩, fun i hi => ?_, ?_⟩
          · rw [hBB 2 (by decide)]; exact t2
          · rw [e11]; exact t3
          · rw [hBB 2 (by decide)]; exact t4
          · have hi : i < n0 + 1 := hi
            rw [← hρ, st_ne _ _ _ (by decide), eN0]
            show st σ 14 (ix (nI n0)) (nI c) 14 i = nI (if i = n0 then c else b0 i)
            rw [st_ix (by omega)]
            by_cases e : i = n0
            · rw [if_pos e, if_pos e]
            · rw [if_neg e, if_neg e]; exact t5 i (by show i < n0; omega)
          · rw [hBB 15 (by decide)]; exact t6
        refine tk_all (n0 := n0) (b0 := b0) (n1 := n1) (b1 := b1) hw2 hC (by omega) (Or.inl rfl) (Or.inr ⟨rfl, rfl⟩) hBB hT2 (fun ρ2 hR2 e2 => ?_)
        rw [e2]
        refine rcap _ ?_
        rw [e1]
        have e1' : τ 1 0 = nI n0 := by have := RR_n hR (t := 0) (by omega); exact this
        refine pk_ne n0 39 (fun _ => ?_) (fun z => absurd z (by omega))
        rw [show ix (nI 0) = 0 from rfl, e1']
        rw [show (39 : Int32) * nI 0 + nI n0 = nI n0 by rw [show (39 : Int32) * nI 0 = 0 from by decide, Int32.zero_add]]
        refine ⟨pk_in 0 2 (by omega), pk_in n0 78 (by omega), pk_in 0 2 (by omega), pk_in 0 2 (by omega), pk_in 0 2 (by omega), ?_⟩
        generalize hτ : st (st τ 2 (ix (nI n0)) (nI c)) 1 0 (st τ 2 (ix (nI n0)) (nI c) 1 0 + 1) = τ2
        have f10 : τ2 1 0 = nI (n0 + 1) := by
          rw [← hτ, st_at]; unfold upd; rw [if_pos rfl, st_ne _ _ _ (by decide), e1']; exact nI_1 n0
        have hBt : Bt [1, 2] τ τ2 := by rw [← hτ]; exact ((Bt.rf _ τ).st (by decide)).st (by decide)
        refine ⟨?_, mkA (n0 + 1) (fun i => if i = n0 then c else b0 i) n1 b1 γ, hw2, hR2, txt_R (t := 0) hR hBt ⟨f10, ?_, fun i hi => ?_, fun i hi => ?_⟩⟩
        · show ρ 1 3 = τ2 1 0; rw [e13, f10]
        · rw [← hτ, st_at]; unfold upd; rw [if_neg (by decide), st_ne _ _ _ (by decide)]; exact hR.1.2.1
        · have hi : i < n0 + 1 := hi
          rw [← hτ, st_ne _ _ _ (by decide), st_ix (by omega)]
          show _ = nI (if i = n0 then c else b0 i)
          by_cases e : i = n0
          · rw [if_pos e, if_pos e]
          · rw [if_neg e, if_neg e]; exact hR.1.2.2.1 i (by show i < n0; omega)
        · rw [← hτ, st_ne _ _ _ (by decide), st_ix (by omega), if_neg (by omega)]; exact hR.1.2.2.2 i hi
      · have hlt1 : n1 < 17 := hlt
        have eN1 : σ (1 + 1) 3 = nI n1 := eN
        generalize hρ : st (st σ (1 + 1 + 13) (ix (σ (1 + 1) 3)) (nI c)) (1 + 1) 3 ((st σ (1 + 1 + 13) (ix (σ (1 + 1) 3)) (nI c)) (1 + 1) 3 + 1) = ρ
        have hw2 : WF (mkA n0 b0 (n1 + 1) (fun i => if i = n1 then c else b1 i) γ) := by
          refine ⟨⟨hw.1.1, ⟨by show n1 + 1 ≤ 17; omega, fun i hi => ?_⟩⟩, hw.2⟩
          show (if i = n1 then c else b1 i) < 256
          by_cases e : i = n1
          · rw [if_pos e]; exact hc
          · rw [if_neg e]; exact hw.1.2.2 i (by have hi : i < n1 + 1 := hi; show i < n1; omega)
        have hBB : Bt [1 + 1, 1 + 14] σ ρ := by rw [← hρ]; exact ((Bt.rf _ σ).st (by decide)).st (by decide)
        have e13 : ρ 2 3 = nI (n1 + 1) := by
          rw [← hρ, st_at]; unfold upd; rw [if_pos rfl, st_ne _ _ _ (by decide), eN1]; exact nI_1 n1
        have e11 : ρ 2 1 = σ 2 1 := by
          rw [← hρ, st_at]; unfold upd; rw [if_neg (by decide), st_ne _ _ _ (by decide)]
        have hT2 : RCt ρ (mkA n0 b0 (n1 + 1) (fun i => if i = n1 then c else b1 i) γ) := by
          obtain ⟨⟨t1, t2, t3, t4⟩, t5, t6⟩ := hC.1
          refine ⟨⟨?_, e13, ?_, ?_⟩, ?_, fun i hi => ?_⟩
          · rw [hBB 1 (by decide)]; exact t1
          · rw [hBB 1 (by decide)]; exact t3
          · rw [e11]; exact t4
          · rw [hBB 14 (by decide)]; exact t5
          · have hi : i < n1 + 1 := hi
            rw [← hρ, st_ne _ _ _ (by decide), eN1]
            show st σ 15 (ix (nI n1)) (nI c) 15 i = nI (if i = n1 then c else b1 i)
            rw [st_ix (by omega)]
            by_cases e : i = n1
            · rw [if_pos e, if_pos e]
            · rw [if_neg e, if_neg e]; exact t6 i (by show i < n1; omega)
        refine tk_all (n0 := n0) (b0 := b0) (n1 := n1) (b1 := b1) hw2 hC (by omega) (Or.inr ⟨rfl, rfl⟩) (Or.inl rfl) hBB hT2 (fun ρ2 hR2 e2 => ?_)
        rw [e2]
        refine rcap _ ?_
        rw [e1]
        have e1' : τ 1 1 = nI n1 := by have := RR_n hR (t := 1) (by omega); exact this
        refine pk_ne n1 17 (fun _ => ?_) (fun z => absurd z (by omega))
        rw [show ix (nI 1) = 1 from rfl, e1']
        rw [show (39 : Int32) * nI 1 + nI n1 = nI (39 + n1) by rw [show (39 : Int32) * nI 1 = nI 39 from by decide, nI_add]]
        refine ⟨pk_in 1 2 (by omega), pk_in (39 + n1) 78 (by omega), pk_in 1 2 (by omega), pk_in 1 2 (by omega), pk_in 1 2 (by omega), ?_⟩
        generalize hτ : st (st τ 2 (ix (nI (39 + n1))) (nI c)) 1 1 (st τ 2 (ix (nI (39 + n1))) (nI c) 1 1 + 1) = τ2
        have f10 : τ2 1 1 = nI (n1 + 1) := by
          rw [← hτ, st_at]; unfold upd; rw [if_pos rfl, st_ne _ _ _ (by decide), e1']; exact nI_1 n1
        have hBt : Bt [1, 2] τ τ2 := by rw [← hτ]; exact ((Bt.rf _ τ).st (by decide)).st (by decide)
        have hn0 := hw.1.1.1
        refine ⟨?_, mkA n0 b0 (n1 + 1) (fun i => if i = n1 then c else b1 i) γ, hw2, hR2, txt_R (t := 1) hR hBt ⟨?_, f10, fun i hi => ?_, fun i hi => ?_⟩⟩
        · show ρ 2 3 = τ2 1 1; rw [e13, f10]
        · rw [← hτ, st_at]; unfold upd; rw [if_neg (by decide), st_ne _ _ _ (by decide)]; exact hR.1.1
        · have hi2 : i < n0 := hi
          have hn0 : n0 ≤ 39 := hn0
          rw [← hτ, st_ne _ _ _ (by decide), st_ix (by omega), if_neg (by omega)]; exact hR.1.2.2.1 i hi
        · have hi : i < n1 + 1 := hi
          rw [← hτ, st_ne _ _ _ (by decide), st_ix (by omega)]
          show _ = nI (if i = n1 then c else b1 i)
          by_cases e : i = n1
          · rw [if_pos (by omega), if_pos e]
          · rw [if_neg (by omega), if_neg e]; exact hR.1.2.2.2 i (by show i < n1; omega)
    · -- full
      refine rcap _ ?_
      rw [e1]
      exact pk_ne (aN α t) (capT t) (fun z => absurd (show aN α t = capT t by omega) z) (fun _ => ⟨rfl, keep⟩)
  · have bad : wp_R_type τ (nI t) x2 (fun r2 τ1 => (-2 : Int32) = r2 ∧ Rel σ τ1) := by
      unfold wp_R_type
      refine sp_R_isText (fun _ => br_f one0 (sp_R_in 255 rfl (by decide) (fun z => absurd z hx) (fun _ => br_nf rfl ⟨rfl, keep⟩))) (fun z => absurd ⟨t, ht, rfl⟩ z)
    refine ⟨fun _ => bad, fun c => ⟨fun c2 => ?_, fun _ => bad⟩⟩
    exfalso
    refine hx ((isD_iff (by decide)).mpr ⟨c, fun z => ?_⟩)
    have h1 : (255 : Int32) < nI 256 := by decide
    rw [Int32.lt_iff_toInt_lt] at h1
    rw [Int32.le_iff_toInt_le] at z c2
    omega
