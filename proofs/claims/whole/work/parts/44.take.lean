/-! houses and rulings, read off the texts by the class -/
theorem wellT_goes {per km n : Nat} {b : Nat → Nat} (h : wellT per km b n = true) : (∀ i, i < n → goes per km b i = true) ∧ (n = 0 ∨ n % per = per - 1) := by
  unfold wellT at h
  simp only [Bool.and_eq_true, beq_iff_eq, Bool.or_eq_true] at h
  refine ⟨fun i hi => (badP_goes per km b n).1 i (by rw [h.1]; exact hi), h.2⟩
theorem hs_byte {α : Abs} (hw : hOk α = true) {i : Nat} (hi : i < nH α) : 5 * i + 3 < aN0 α ∧ kindN (aB0 α (5 * i)) < 4 ∧ (48 ≤ aB0 α (5 * i + 1) ∧ aB0 α (5 * i + 1) ≤ 57) ∧ kindN (aB0 α (5 * i + 2)) < 4 ∧ (48 ≤ aB0 α (5 * i + 3) ∧ aB0 α (5 * i + 3) ≤ 57) := by
  obtain ⟨h1, h2⟩ := wellT_goes hw
  unfold nH at hi
  rw [if_pos hw] at hi
  have hl : 5 * i + 3 < aN0 α := by omega
  refine ⟨hl, ?_, ?_, ?_, ?_⟩
  · have := h1 (5 * i) (by omega)
    unfold goes at this
    rw [show 5 * i % 5 = 0 by omega] at this
    simpa using this
  · have := h1 (5 * i + 1) (by omega)
    unfold goes at this
    rw [show (5 * i + 1) % 5 = 1 by omega] at this
    simpa using this
  · have := h1 (5 * i + 2) (by omega)
    unfold goes at this
    rw [show (5 * i + 2) % 5 = 2 by omega] at this
    simpa using this
  · have := h1 (5 * i + 3) (by omega)
    unfold goes at this
    rw [show (5 * i + 3) % 5 = 3 by omega] at this
    simpa using this
theorem rs_byte {α : Abs} (hw : rOk α = true) {i : Nat} (hi : i < nR α) : 3 * i + 1 < aN1 α ∧ kindN (aB1 α (3 * i)) < 3 ∧ (48 ≤ aB1 α (3 * i + 1) ∧ aB1 α (3 * i + 1) ≤ 57) := by
  obtain ⟨h1, h2⟩ := wellT_goes hw
  unfold nR at hi
  rw [if_pos hw] at hi
  have hl : 3 * i + 1 < aN1 α := by omega
  refine ⟨hl, ?_, ?_⟩
  · have := h1 (3 * i) (by omega)
    unfold goes at this
    rw [show 3 * i % 3 = 0 by omega] at this
    simpa using this
  · have := h1 (3 * i + 1) (by omega)
    unfold goes at this
    rw [show (3 * i + 1) % 3 = 1 by omega] at this
    simpa using this
theorem hOk_of {α : Abs} {i : Nat} (hi : i < nH α) : hOk α = true := by
  unfold nH at hi
  by_cases h : hOk α = true
  · exact h
  · rw [if_neg h] at hi; omega
theorem rOk_of {α : Abs} {i : Nat} (hi : i < nR α) : rOk α = true := by
  unfold nR at hi
  by_cases h : rOk α = true
  · exact h
  · rw [if_neg h] at hi; omega
/-- all cells but these are as they were -/
def Bt (cs : List Nat) (σ σ' : Hp) : Prop := ∀ o, o ∉ cs → σ' o = σ o
theorem Bt.rf (cs : List Nat) (σ : Hp) : Bt cs σ σ := fun _ _ => rfl
theorem Bt.st {cs : List Nat} {σ ρ : Hp} {o i : Nat} {v : Int32} (h : Bt cs σ ρ) (ho : o ∈ cs) : Bt cs σ (st ρ o i v) := fun q hq => by
  rw [st_ne _ _ _ (fun e => hq (by rw [e]; exact ho))]; exact h q hq
theorem ixn {k : Nat} (h : k < 2 ^ 31) : ix (nI k) = k := nI_clamp h
theorem st_ix {ρ : Hp} {o k i : Nat} {v : Int32} (hk : k < 2 ^ 31) : st ρ o (ix (nI k)) v o i = if i = k then v else ρ o i := by
  rw [st_at, ixn hk]; rfl
theorem sp_U_takeHouses {σ : Hp} {α : Abs} {P : Hp → Prop} (hw : WF α) (ht : RCt σ α) (h : ∀ ρ, Bt [4, 21, 22, 23, 24] σ ρ → ρ 4 7 = σ 4 7 → RCs ρ α → P ρ) : wp_U_takeHouses σ P := by
  obtain ⟨⟨t1, t2, t3, t4⟩, t5, t6⟩ := ht
  have hn := hw.1.1.1
  unfold wp_U_takeHouses
  refine sp_T_rows (per := 5) (km := 4) (n := aN0 α) (b := aB0 α) (Or.inl rfl) t3 (by omega) (by omega) rfl t1 hn (fun i hi => ⟨t5 i hi, hw.1.1.2 i hi⟩) ?_
  have hH := nH_le hw
  have e1 : nI (if wellT 5 4 (aB0 α) (aN0 α) = true then (aN0 α + 1) / 5 else 0) = nI (nH α) := rfl
  rw [e1]
  have e2 : (if (8 : Int32) < nI (nH α) then (8 : Int32) else nI (nH α)) = nI (nH α) := by
    rw [if_neg]
    have : (8 : Int32) = nI 8 := rfl
    rw [this, nI_ltI (by omega) (by omega)]; omega
  rw [e2]
  intro I hI
  have key : ∀ (m k : Nat) (ρ : Hp), k + m = nH α → Bt [4, 21, 22, 23, 24] σ ρ → ρ 4 7 = σ 4 7 → ρ 4 6 = nI (nH α) → (∀ i, i < k → ρ 21 i = nI (hK α i) ∧ ρ 22 i = nI (hM α i) ∧ ρ 23 i = nI (hJ α i) ∧ ρ 24 i = nI (hCo α i)) → I ρ (nI k) := by
    intro m
    induction m with
    | zero =>
      intro k ρ hk hB h7 h6 hi
      apply hI
      unfold b_U_takeHouses_15_
      rw [h6]
      refine pk_le (nH α) k (fun _ => h ρ hB h7 ⟨h6, fun i hi2 => hi i (by omega)⟩) (fun c => absurd c (by omega))
    | succ m ih =>
      intro k ρ hk hB h7 h6 hi
      have hok : hOk α = true := hOk_of (i := k) (by omega)
      obtain ⟨b1, b2, b3, b4, b5⟩ := hs_byte hok (i := k) (by omega)
      have hB1 : ∀ ρ', Bt [4, 21, 22, 23, 24] σ ρ' → ρ' 1 1 = nI 5 ∧ ∀ i, i < aN0 α → ρ' (1 + 13) i = nI (aB0 α i) := by
        intro ρ' hB'
        rw [hB' 1 (by decide), hB' (1 + 13) (by decide)]
        exact ⟨t3, t5⟩
      have hl : (0 : Nat) < 1 := by omega
      apply hI
      unfold b_U_takeHouses_15_
      rw [h6]
      refine pk_le (nH α) k (fun c => absurd c (by omega)) (fun _ => ?_)
      have c0 := hB1 ρ hB
      refine sp_T_kindAt (per := 5) (c := 0) (x := aB0 α (5 * k)) (Or.inl rfl) c0.1 (by show _ < 39; omega) (by rw [show k * 5 + 0 = 5 * k by omega]; exact c0.2 _ (by omega)) (hw.1.1.2 _ (by omega)) b2 ⟨pk_in k 8 (by omega), ?_⟩
      have B1 := hB.st (o := 21) (i := ix (nI k)) (v := nI (kindN (aB0 α (5 * k)))) (by decide)
      have c1 := hB1 _ B1
      refine sp_T_figureAt (per := 5) (c := 1) (x := aB0 α (5 * k + 1)) (Or.inl rfl) c1.1 (by show _ < 39; omega) (by rw [show k * 5 + 1 = 5 * k + 1 by omega]; exact c1.2 _ (by omega)) b3.1 ⟨pk_in k 8 (by omega), ?_⟩
      have B2 := B1.st (o := 22) (i := ix (nI k)) (v := nI (aB0 α (5 * k + 1) - 48)) (by decide)
      have c2 := hB1 _ B2
      refine sp_T_kindAt (per := 5) (c := 2) (x := aB0 α (5 * k + 2)) (Or.inl rfl) c2.1 (by show _ < 39; omega) (by rw [show k * 5 + 2 = 5 * k + 2 by omega]; exact c2.2 _ (by omega)) (hw.1.1.2 _ (by omega)) b4 ⟨pk_in k 8 (by omega), ?_⟩
      have B3 := B2.st (o := 23) (i := ix (nI k)) (v := nI (kindN (aB0 α (5 * k + 2)))) (by decide)
      have c3 := hB1 _ B3
      refine sp_T_figureAt (per := 5) (c := 3) (x := aB0 α (5 * k + 3)) (Or.inl rfl) c3.1 (by show _ < 39; omega) (by rw [show k * 5 + 3 = 5 * k + 3 by omega]; exact c3.2 _ (by omega)) b5.1 ⟨pk_in k 8 (by omega), fun v14 e14 => ?_⟩
      have B4 := B3.st (o := 24) (i := ix (nI k)) (v := nI (aB0 α (5 * k + 3) - 48)) (by decide)
      rw [e14, show nI k + 1 = nI (k + 1) from nI_1 k]
      refine ih (k + 1) _ (by omega) B4 ?_ ?_ (fun i hi2 => ?_)
      · rw [st_ne _ _ _ (by decide), st_ne _ _ _ (by decide), st_ne _ _ _ (by decide), st_ne _ _ _ (by decide)]; exact h7
      · rw [st_ne _ _ _ (by decide), st_ne _ _ _ (by decide), st_ne _ _ _ (by decide), st_ne _ _ _ (by decide)]; exact h6
      · have hk31 : k < 2 ^ 31 := by omega
        refine ⟨?_, ?_, ?_, ?_⟩
        · rw [st_ne _ _ _ (by decide), st_ne _ _ _ (by decide), st_ne _ _ _ (by decide), st_ix hk31]
          by_cases e : i = k
          · rw [if_pos e, e]; rfl
          · rw [if_neg e]; exact (hi i (by omega)).1
        · rw [st_ne _ _ _ (by decide), st_ne _ _ _ (by decide), st_ix hk31, st_ne _ _ _ (by decide)]
          by_cases e : i = k
          · rw [if_pos e, e]; rfl
          · rw [if_neg e]; exact (hi i (by omega)).2.1
        · rw [st_ne _ _ _ (by decide), st_ix hk31, st_ne _ _ _ (by decide), st_ne _ _ _ (by decide)]
          by_cases e : i = k
          · rw [if_pos e, e]; rfl
          · rw [if_neg e]; exact (hi i (by omega)).2.2.1
        · rw [st_ix hk31, st_ne _ _ _ (by decide), st_ne _ _ _ (by decide), st_ne _ _ _ (by decide)]
          by_cases e : i = k
          · rw [if_pos e, e]; rfl
          · rw [if_neg e]; exact (hi i (by omega)).2.2.2
  refine key (nH α) 0 _ (by omega) ((Bt.rf _ σ).st (by decide)) ?_ ?_ (fun i hi => by omega)
  · rw [st_at]; rfl
  · rw [st_at]; rfl
theorem sp_U_takeRulings {σ : Hp} {α : Abs} {P : Hp → Prop} (hw : WF α) (ht : RCt σ α) (h : ∀ ρ, Bt [4, 25] σ ρ → ρ 4 6 = σ 4 6 → RCr ρ α → P ρ) : wp_U_takeRulings σ P := by
  obtain ⟨⟨t1, t2, t3, t4⟩, t5, t6⟩ := ht
  have hn := hw.1.2.1
  unfold wp_U_takeRulings
  refine sp_JA_fill rfl (by decide) ?_
  generalize hρ0 : (fun q => if q = 25 then fun i => if i < 3 then (0 : Int32) else σ 25 i else σ q : Hp) = ρ0
  have B0 : Bt [4, 25] σ ρ0 := by
    intro q hq
    rw [← hρ0]
    exact if_neg (fun e => hq (by rw [e]; decide))
  have z0 : ∀ k, k < 3 → ρ0 25 k = 0 := by
    intro k hk
    rw [← hρ0]
    show (if 25 = 25 then _ else _ : Nat → Int32) k = 0
    rw [if_pos rfl]
    exact if_pos hk
  have f6 : ρ0 4 = σ 4 := by rw [← hρ0]; exact if_neg (by decide)
  have hB1 : ∀ ρ', Bt [4, 25] σ ρ' → ρ' 2 1 = nI 3 ∧ ρ' 2 3 = nI (aN1 α) ∧ ∀ i, i < aN1 α → ρ' (2 + 13) i = nI (aB1 α i) := by
    intro ρ' hB'
    rw [hB' 2 (by decide), hB' (2 + 13) (by decide)]
    exact ⟨t4, t2, t6⟩
  refine sp_T_rows (per := 3) (km := 3) (n := aN1 α) (b := aB1 α) (Or.inr rfl) (hB1 _ B0).1 (by omega) (by omega) rfl (hB1 _ B0).2.1 hn (fun i hi => ⟨(hB1 _ B0).2.2 i hi, hw.1.2.2 i hi⟩) ?_
  have hH := nR_le hw
  have e1 : nI (if wellT 3 3 (aB1 α) (aN1 α) = true then (aN1 α + 1) / 3 else 0) = nI (nR α) := rfl
  rw [e1]
  intro I hI
  have key : ∀ (m k : Nat) (ρ : Hp), k + m = nR α → Bt [4, 25] σ ρ → ρ 4 6 = σ 4 6 → ρ 4 7 = nI (nR α) → (∀ q, q < 3 → ρ 25 q = nI (rtN (aB1 α) q k)) → I ρ (nI k) := by
    intro m
    induction m with
    | zero =>
      intro k ρ hk hB h7 h6 hi
      have hk2 : k = nR α := by omega
      subst hk2
      apply hI
      unfold b_U_takeRulings_18_
      rw [h6]
      refine pk_le (nR α) (nR α) (fun _ => h ρ hB h7 ⟨h6, hi⟩) (fun c => absurd c (by omega))
    | succ m ih =>
      intro k ρ hk hB h7 h6 hi
      have hok : rOk α = true := rOk_of (i := k) (by omega)
      obtain ⟨b1, b2, b3⟩ := rs_byte hok (i := k) (by omega)
      apply hI
      unfold b_U_takeRulings_18_
      rw [h6]
      refine pk_le (nR α) k (fun c => absurd c (by omega)) (fun _ => ?_)
      have c0 := hB1 ρ hB
      refine sp_T_kindAt (per := 3) (c := 0) (x := aB1 α (3 * k)) (Or.inr rfl) c0.1 (by show _ < 17; omega) (by rw [show k * 3 + 0 = 3 * k by omega]; exact c0.2.2 _ (by omega)) (hw.1.2.2 _ (by omega)) b2 ?_
      refine sp_P_isKind (fun _ => br_f one0 ?_) (fun q => absurd ⟨_, b2, rfl⟩ q)
      refine sp_T_figureAt (per := 3) (c := 1) (x := aB1 α (3 * k + 1)) (Or.inr rfl) c0.1 (by show _ < 17; omega) (by rw [show k * 3 + 1 = 3 * k + 1 by omega]; exact c0.2.2 _ (by omega)) b3.1 ⟨pk_in _ 3 b2 (by rfl), fun v11 e11 => ?_⟩
      rw [e11, show nI k + 1 = nI (k + 1) from nI_1 k]
      refine ih (k + 1) _ (by omega) (hB.st (by decide)) ?_ ?_ (fun q hq => ?_)
      · rw [st_ne _ _ _ (by decide)]; exact h7
      · rw [st_ne _ _ _ (by decide)]; exact h6
      · rw [st_ix (by omega)]
        unfold rtN
        by_cases e : q = kindN (aB1 α (3 * k))
        · rw [if_pos e, if_pos e.symm]
        · rw [if_neg e, if_neg (fun z => e z.symm)]; exact hi q hq
  refine key (nR α) 0 _ (by omega) (B0.st (by decide)) ?_ ?_ (fun q hq => ?_)
  · rw [st_at, f6]; rfl
  · rw [st_at]; rfl
  · rw [st_ne _ _ _ (by decide)]; exact z0 q hq
