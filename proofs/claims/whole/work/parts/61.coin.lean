/-! coin, broke, richest -/
/-- a loop's value: f over lo, lo + 1, .. , n times -/
def itr {A : Type} (f : Nat → A → A) : Nat → Nat → A → A
  | _, 0, s => s
  | lo, n + 1, s => itr f (lo + 1) n (f lo s)
theorem itr_cong {A : Type} {f g : Nat → A → A} : ∀ {n lo : Nat} {s : A}, (∀ k s, lo ≤ k → k < lo + n → f k s = g k s) → itr f lo n s = itr g lo n s := by
  intro n
  induction n with
  | zero => intro lo s _; rfl
  | succ n ih =>
    intro lo s h
    show itr f (lo + 1) n (f lo s) = itr g (lo + 1) n (g lo s)
    rw [h lo s (Nat.le_refl _) (by omega)]
    exact ih (fun k s h1 h2 => h k s (by omega) (by omega))
theorem sp_D_fillBalances {σ : Hp} {γ : Dc} {last : Nat} {P : Hp → Prop} (hw : WD γ) (hP : PC σ γ) (ht : ∀ k, k < gS γ → gT γ k = true) (hl : last < 30) (h : ∀ ρ, Bt [16] σ ρ → (∀ j, j < gH γ → ρ 16 j = balI γ last j) → P ρ) : wp_D_fillBalances σ (nI last) P := by
  have hS := hw.1.2
  have hH := hw.1.1
  refine sp_K_leadingOfAll hw hP ht (fun l hL => sp_JA_fill rfl (by decide) ?_)
  generalize hρ0 : (fun q => if q = 16 then fun i => if i < 8 then (0 : Int32) else σ 16 i else σ q : Hp) = ρ0
  have B0 : Bt [16] σ ρ0 := by
    intro q hq
    rw [← hρ0]
    exact if_neg (fun e => hq (by rw [e]; decide))
  have z0 : ∀ j, j < 8 → ρ0 16 j = 0 := by
    intro j hj
    rw [← hρ0]
    show (if 16 = 16 then _ else _ : Nat → Int32) j = 0
    rw [if_pos rfl]
    exact if_pos hj
  intro I hI
  have key : ∀ (m k : Nat) (ρ : Hp), k + m = gS γ → Bt [16] σ ρ → (∀ j, j < 8 → ρ 16 j = Int32.ofInt (fb_si (perK γ last j) k)) → I ρ (nI last) (nI l) (nI k) := by
    intro m
    induction m with
    | zero =>
      intro k ρ hk hB hi
      have : k = gS γ := by omega
      subst this
      apply hI
      unfold b_D_fillBalances_18_
      rw [(hP.bt hB (by simp; omega)).1.2]
      refine pk_le (gS γ) (gS γ) (fun _ => h ρ hB (fun j hj => ?_)) (fun c => absurd c (by omega))
      rw [hi j (by omega), bal_perK hw hl hj]; rfl
    | succ m ih =>
      intro k ρ hk hB hi
      have hP2 := hP.bt hB (by simp; omega)
      obtain ⟨f1, f2, f3⟩ := hP2.2.1 k (by omega)
      obtain ⟨u1, u2, u3, u4⟩ := hw.2.1 k (by omega)
      apply hI
      unfold b_D_fillBalances_18_
      rw [hP2.1.2]
      refine pk_le (gS γ) k (fun c => absurd c (by omega)) (fun _ => ?_)
      refine tb_ne (by have := hL.1; omega) (by omega) (fun q => ?_) (fun q v ev => ?_)
      · rw [hL.2 k (by omega)] at q
        refine sp_D_won hw hP2 (by omega) hl ?_
        simp (disch := decide) only [st_ne, ixn (show k < 2 ^ 31 by omega), f2, f3, ixn (show gY γ k < 2 ^ 31 by omega), ixn (show gX γ k < 2 ^ 31 by omega)]
        refine ⟨pk_in k 12 (by omega), pk_in _ 8 u2 (by rfl), pk_in _ 8 u2 (by rfl), pk_in k 12 (by omega), pk_in _ 8 u3 (by rfl), pk_in _ 8 u3 (by rfl), fun v11 e11 => ?_⟩
        rw [e11, show nI k + 1 = nI (k + 1) from nI_1 k]
        refine ih (k + 1) _ (by omega) ((hB.st (by decide)).st (by decide)) (fun j hj => ?_)
        rw [fb_si_succ, Int32.ofInt_add, ← hi j hj]
        unfold perK
        rw [if_pos q, st_at]; unfold upd
        by_cases e1 : j = gX γ k
        · subst e1
          rw [if_pos rfl, if_neg u4, if_pos rfl, st_at]; unfold upd
          rw [if_neg (fun z => u4 z.symm), ofI_nI, Int32.ofInt_neg, Int32.sub_eq_add_neg]
        · rw [if_neg e1, st_at]; unfold upd
          by_cases e2 : j = gY γ k
          · subst e2
            rw [if_pos rfl, if_pos rfl, ofI_nI]
          · rw [if_neg e2, if_neg (fun z => e2 z.symm), if_neg (fun z => e1 z.symm)]
            exact (Int32.add_zero _).symm
      · rw [hL.2 k (by omega)] at q
        rw [ev, show nI k + 1 = nI (k + 1) from nI_1 k]
        refine ih (k + 1) ρ (by omega) hB (fun j hj => ?_)
        rw [fb_si_succ]
        have : perK γ last j k = 0 := by unfold perK; rw [q]; rfl
        rw [this, Int.add_zero]; exact hi j hj
  exact key (gS γ) 0 ρ0 (by omega) B0 (fun j hj => by rw [z0 j hj]; rfl)
def mx0 (b : Int32) : Int32 := if 0 < b then b else 0
def coinV (b : Nat → Int32) (n : Nat) : Int32 := itr (fun k s => s + mx0 (b k)) 0 n 0
theorem sp_D_coinDue {σ : Hp} {γ : Dc} {last : Nat} {P : Int32 → Hp → Prop} (hw : WD γ) (hP : PC σ γ) (ht : ∀ k, k < gS γ → gT γ k = true) (hl : last < 30) (h : ∀ ρ, Bt [16] σ ρ → P (coinV (balI γ last) (gH γ)) ρ) : wp_D_coinDue σ (nI last) P := by
  have hH := hw.1.1
  refine sp_D_fillBalances hw hP ht hl (fun ρ hB hb => ?_)
  intro I hI
  have hP2 := hP.bt hB (by simp; omega)
  have key : ∀ m k s, k + m = gH γ → itr (fun k s => s + mx0 (balI γ last k)) k m s = coinV (balI γ last) (gH γ) → I ρ s (nI k) := by
    intro m
    induction m with
    | zero =>
      intro k s hk hs
      have : k = gH γ := by omega
      subst this
      apply hI
      unfold b_D_coinDue_9_
      rw [hP2.1.1]
      refine pk_le (gH γ) (gH γ) (fun _ => ?_) (fun c => absurd c (by omega))
      have hs : s = coinV (balI γ last) (gH γ) := hs
      rw [hs]; exact h ρ hB
    | succ m ih =>
      intro k s hk hs
      apply hI
      unfold b_D_coinDue_9_
      rw [hP2.1.1, ixn (show k < 2 ^ 31 by omega), hb k (by omega)]
      refine pk_le (gH γ) k (fun c => absurd c (by omega)) (fun _ => ⟨pk_in k 8 (by omega), fun v3 e3 v4 e4 => ?_⟩)
      rw [e3, e4, show nI k + 1 = nI (k + 1) from nI_1 k]
      exact ih (k + 1) _ (by omega) hs
  exact key (gH γ) 0 0 (by omega) rfl
theorem sp_R_purses {τ : Hp} {γ : Dc} {last : Nat} {P : Hp → Prop} (hw : WD γ) (hP : PR τ γ) (hl : last < 30) (h : ∀ ρ, Bt [17] τ ρ → (∀ j, j < gH γ → ρ 17 j = balI γ last j) → P ρ) : wp_R_purses τ (nI last) P := by
  have hH := hw.1.1
  intro I hI
  have key : ∀ (m k : Nat) (ρ : Hp), k + m = gH γ → Bt [17] τ ρ → (∀ j, j < k → ρ 17 j = balI γ last j) → I ρ (nI last) (nI k) := by
    intro m
    induction m with
    | zero =>
      intro k ρ hk hB hi
      have : k = gH γ := by omega
      subst this
      apply hI
      unfold b_R_purses_2_
      rw [(hP.bt hB (by simp; omega)).1]
      exact pk_le (gH γ) (gH γ) (fun _ => h ρ hB hi) (fun c => absurd c (by omega))
    | succ m ih =>
      intro k ρ hk hB hi
      have hP2 := hP.bt hB (by simp; omega)
      apply hI
      unfold b_R_purses_2_
      rw [hP2.1]
      refine pk_le (gH γ) k (fun c => absurd c (by omega)) (fun _ => sp_R_balanceNow hw hP2 hl (by omega) ⟨pk_in k 8 (by omega), fun v5 e5 => ?_⟩)
      rw [e5, show nI k + 1 = nI (k + 1) from nI_1 k]
      refine ih (k + 1) _ (by omega) (hB.st (by decide)) (fun j hj => ?_)
      rw [st_ix (by omega)]
      by_cases e : j = k
      · rw [if_pos e, e]; rfl
      · rw [if_neg e]; exact hi j (by omega)
  exact key (gH γ) 0 τ (by omega) (Bt.rf _ _) (fun j hj => by omega)
theorem sp_R_coinNow {τ : Hp} {γ : Dc} {last : Nat} {P : Int32 → Hp → Prop} (hw : WD γ) (hP : PR τ γ) (hl : last < 30) (h : ∀ ρ, Bt [17] τ ρ → P (coinV (balI γ last) (gH γ)) ρ) : wp_R_coinNow τ (nI last) P := by
  have hH := hw.1.1
  refine sp_R_purses hw hP hl (fun ρ hB hb => ?_)
  have hP2 := hP.bt hB (by simp; omega)
  intro I hI
  have key : ∀ m k s, k + m = gH γ → itr (fun k s => s + mx0 (balI γ last k)) k m s = coinV (balI γ last) (gH γ) → I ρ s (nI k) := by
    intro m
    induction m with
    | zero =>
      intro k s hk hs
      have : k = gH γ := by omega
      subst this
      apply hI
      unfold b_R_coinNow_9_
      rw [hP2.1]
      refine pk_le (gH γ) (gH γ) (fun _ => ?_) (fun c => absurd c (by omega))
      have hs : s = coinV (balI γ last) (gH γ) := hs
      rw [hs]; exact h ρ hB
    | succ m ih =>
      intro k s hk hs
      apply hI
      unfold b_R_coinNow_9_
      rw [hP2.1, ixn (show k < 2 ^ 31 by omega), hb k (by omega)]
      have ih := ih (k + 1) _ (by omega) hs
      unfold mx0 at ih
      have ih : I ρ (s + if 0 < balI γ last k then balI γ last k else 0) (nI (k + 1)) := ih
      refine pk_le (gH γ) k (fun c => absurd c (by omega)) (fun _ => ⟨pk_in k 8 (by omega), fun c v4 e4 v5 e5 => ?_, fun c => ⟨pk_in k 8 (by omega), fun v4 e4 v5 e5 => ?_⟩⟩)
      · rw [if_neg (fun z => Int32.not_lt.mpr c z)] at ih
        rw [e4, e5, show nI k + 1 = nI (k + 1) from nI_1 k]; exact ih
      · rw [if_pos (Int32.not_le.mp c)] at ih
        rw [e4, e5, show nI k + 1 = nI (k + 1) from nI_1 k]; exact ih
  exact key (gH γ) 0 0 (by omega) rfl
def coinA (α : Abs) (last : Nat) : Int32 := coinV (balI (ctA α) last) (nH α)
theorem sp_P_coin {σ : Hp} {α : Abs} {d : Int32} {P : Int32 → Hp → Prop} (hw : WF α) (hC : RC σ α) (h1 : ∀ last ρ, last < 30 → d = nI last → RC ρ α → P (coinA α last) ρ) (h0 : ¬ isD d 30 → P (-2) σ) : wp_P_coin σ d P := by
  refine sp_P_isDay (fun q0 => br_f one0 ?_) (fun q => br_t rfl (h0 q))
  obtain ⟨last, hl, rfl⟩ := q0
  exact sp_D_coinDue (γ := ctA α) (WD_ctx hw _) (PC_ctx hC _) (fun _ _ => rfl) hl (fun ρ hB => h1 last ρ hl rfl (hC.fr (hB.mono (by decide))))
theorem sp_R_coinOf {τ : Hp} {α : Abs} {last : Nat} {P : Int32 → Hp → Prop} (hw : WF α) (hR : RR τ α) (hl : last < 30) (h1 : ∀ ρ, RR ρ α → Rd ρ α → P (coinA α last) ρ) : wp_R_coinOf τ (nI last) P :=
  sp_R_laysTold hw hR (fun ρ hT hP => sp_R_coinNow (γ := ctA α) (WD_ctx hw _) hP hl (fun ρ2 hB => h1 ρ2 (hT.fr (hB.mono (by decide))).1 (hT.fr (hB.mono (by decide))).2.1))
theorem h_coin : H_coin Rel := by
  intro σ τ x1 hrel
  obtain ⟨α, hw, hC, hR⟩ := hrel
  refine sp_P_coin hw hC (fun last ρ hl e hC2 => ?_) (fun n => ?_)
  · exact sp_R_isDay (fun _ => br_f one0 (by rw [e]; exact sp_R_coinOf hw hR hl (fun ρ2 hR2 _ => ⟨rfl, α, hw, hC2, hR2⟩))) (fun z => absurd ⟨last, hl, e⟩ z)
  · exact sp_R_isDay (fun q => absurd q n) (fun _ => br_t rfl ⟨rfl, α, hw, hC, hR⟩)
-- richest
def richV (b : Nat → Int32) (n : Nat) : Int32 := itr (fun k s => if s = -1 then nI k else if b k ≤ b (ix s) then s else nI k) 0 n (-1)
theorem rich_step {b : Nat → Int32} {s : Int32} {k n : Nat} (hs : s = -1 ∨ isD s k) : (if s = -1 then nI k else if b k ≤ b (ix s) then s else nI k) = -1 ∨ isD (if s = -1 then nI k else if b k ≤ b (ix s) then s else nI k) (k + 1) := by
  right
  rcases hs with e | ⟨j, hj, e⟩
  · rw [if_pos e]; exact ⟨k, by omega, rfl⟩
  · split
    · exact ⟨k, by omega, rfl⟩
    · split
      · exact ⟨j, by omega, e⟩
      · exact ⟨k, by omega, rfl⟩
theorem sp_P_richest {σ : Hp} {α : Abs} {d : Int32} {P : Int32 → Hp → Prop} (hw : WF α) (hC : RC σ α) (h1 : ∀ last ρ, last < 30 → d = nI last → RC ρ α → P (richV (balI (ctA α) last) (nH α)) ρ) (h0 : ¬ isD d 30 → P (-2) σ) : wp_P_richest σ d P := by
  have hH := nH_le hw
  refine sp_P_isDay (fun q0 => br_nt one0 ?_) (fun q => br_nf rfl (h0 q))
  obtain ⟨last, hl, rfl⟩ := q0
  refine sp_D_fillBalances (γ := ctA α) (WD_ctx hw _) (PC_ctx hC _) (fun _ _ => rfl) hl (fun ρ hB hb => ?_)
  have h := h1 last ρ hl rfl (hC.fr (hB.mono (by decide)))
  have e46 : ρ 4 6 = nI (nH α) := by rw [hB 4 (by decide)]; exact hC.2.1.1.1
  have hb : ∀ j, j < nH α → ρ 16 j = balI (ctA α) last j := hb
  intro I hI
  have key : ∀ m k s, k + m = nH α → (s = -1 ∨ isD s k) → itr (fun k s => if s = -1 then nI k else if balI (ctA α) last k ≤ balI (ctA α) last (ix s) then s else nI k) k m s = richV (balI (ctA α) last) (nH α) → I ρ s (nI k) := by
    intro m
    induction m with
    | zero =>
      intro k s hk hsd hs
      have : k = nH α := by omega
      subst this
      apply hI
      unfold b_P_richest_22_
      rw [e46]
      refine pk_le (nH α) (nH α) (fun _ => ?_) (fun c => absurd c (by omega))
      have hs : s = _ := hs
      rw [hs]; exact h
    | succ m ih =>
      intro k s hk hsd hs
      have ih := ih (k + 1) _ (by omega) (rich_step (n := 0) hsd) hs
      apply hI
      unfold b_P_richest_22_
      rw [e46]
      refine pk_le (nH α) k (fun c => absurd c (by omega)) (fun _ => ⟨fun c v3 e3 => ?_, fun c => ?_⟩)
      · rw [if_pos c] at ih
        rw [e3, show nI k + 1 = nI (k + 1) from nI_1 k]; exact ih
      · rw [if_neg c] at ih
        obtain ⟨j, hj, rfl⟩ := hsd.resolve_left c
        rw [ixn (show j < 2 ^ 31 by omega)] at ih
        rw [ixn (show k < 2 ^ 31 by omega), ixn (show j < 2 ^ 31 by omega), hb k (by omega), hb j (by omega)]
        refine ⟨pk_in k 8 (by omega), pk_in j 8 (by omega), fun c2 v7 e7 => ?_, fun c2 v8 e8 => ?_⟩
        · rw [if_pos c2] at ih
          rw [e7, show nI k + 1 = nI (k + 1) from nI_1 k]; exact ih
        · rw [if_neg c2] at ih
          rw [e8, show nI k + 1 = nI (k + 1) from nI_1 k]; exact ih
  exact key (nH α) 0 (-1) (by omega) (Or.inl rfl) rfl
theorem sp_R_richestOf {τ : Hp} {α : Abs} {last : Nat} {P : Int32 → Hp → Prop} (hw : WF α) (hR : RR τ α) (hl : last < 30) (h1 : ∀ ρ, RR ρ α → Rd ρ α → P (richV (balI (ctA α) last) (nH α)) ρ) : wp_R_richestOf τ (nI last) P := by
  have hH := nH_le hw
  refine sp_R_laysTold hw hR (fun ρ0 hT hP => sp_R_purses (γ := ctA α) (WD_ctx hw _) hP hl (fun ρ hB hb => ?_))
  have hT2 := hT.fr (hB.mono (by decide))
  have h := h1 ρ hT2.1 hT2.2.1
  have e46 : ρ 0 2 = nI (nH α) := hT2.2.1.1.1
  have hb : ∀ j, j < nH α → ρ 17 j = balI (ctA α) last j := hb
  intro I hI
  have key : ∀ m k s, k + m = nH α → (s = -1 ∨ isD s k) → itr (fun k s => if s = -1 then nI k else if balI (ctA α) last k ≤ balI (ctA α) last (ix s) then s else nI k) k m s = richV (balI (ctA α) last) (nH α) → I ρ s (nI k) := by
    intro m
    induction m with
    | zero =>
      intro k s hk hsd hs
      have : k = nH α := by omega
      subst this
      apply hI
      unfold b_R_richestOf_13_
      rw [e46]
      refine pk_le (nH α) (nH α) (fun _ => ?_) (fun c => absurd c (by omega))
      have hs : s = _ := hs
      rw [hs]; exact h
    | succ m ih =>
      intro k s hk hsd hs
      have ih := ih (k + 1) _ (by omega) (rich_step (n := 0) hsd) hs
      apply hI
      unfold b_R_richestOf_13_
      rw [e46]
      refine pk_le (nH α) k (fun c => absurd c (by omega)) (fun _ => ⟨fun c v3 e3 => ?_, fun c => ?_⟩)
      · rw [if_pos c] at ih
        rw [e3, show nI k + 1 = nI (k + 1) from nI_1 k]; exact ih
      · rw [if_neg c] at ih
        obtain ⟨j, hj, rfl⟩ := hsd.resolve_left c
        rw [ixn (show j < 2 ^ 31 by omega)] at ih
        rw [ixn (show k < 2 ^ 31 by omega), ixn (show j < 2 ^ 31 by omega), hb k (by omega), hb j (by omega)]
        refine ⟨pk_in k 8 (by omega), pk_in j 8 (by omega), fun c2 v7 e7 => ?_, fun c2 v8 e8 => ?_⟩
        · rw [if_pos c2] at ih
          rw [e7, show nI k + 1 = nI (k + 1) from nI_1 k]; exact ih
        · rw [if_neg c2] at ih
          rw [e8, show nI k + 1 = nI (k + 1) from nI_1 k]; exact ih
  exact key (nH α) 0 (-1) (by omega) (Or.inl rfl) rfl
theorem h_richest : H_richest Rel := by
  intro σ τ x1 hrel
  obtain ⟨α, hw, hC, hR⟩ := hrel
  refine sp_P_richest hw hC (fun last ρ hl e hC2 => ?_) (fun n => ?_)
  · exact sp_R_isDay (fun _ => br_f one0 (by rw [e]; exact sp_R_richestOf hw hR hl (fun ρ2 hR2 _ => ⟨rfl, α, hw, hC2, hR2⟩))) (fun z => absurd ⟨last, hl, e⟩ z)
  · exact sp_R_isDay (fun q => absurd q n) (fun _ => br_t rfl ⟨rfl, α, hw, hC, hR⟩)
