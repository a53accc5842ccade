/-! payments -/
def rstN (g h : Nat) : Nat := g &&& (2 ^ h ^^^ (2 ^ 32 - 1))
theorem rst_I {g h : Nat} (hh : h < 31) : nI g &&& (((1 : Int32) <<< (nI h &&& 31)) ^^^ (-1)) = nI (rstN g h) := by
  rw [i_bit h hh, i_not, i_and]; rfl
theorem rst_tb {g h i : Nat} (hi : i < 32) : (rstN g h).testBit i = (g.testBit i && !decide (h = i)) := by
  unfold rstN
  rw [Nat.testBit_and, tb_not hi, Nat.testBit_two_pow]
theorem rst_le (g h : Nat) : rstN g h ≤ g := Nat.and_le_left
theorem rst_lt {g h : Nat} (hb : g.testBit h = true) (hh : h < 32) : rstN g h < g := by
  refine Nat.lt_of_le_of_ne (rst_le g h) (fun e => ?_)
  have := rst_tb (g := g) (h := h) hh
  rw [e, hb] at this
  simp at this
def smN (b : Nat → Int32) (g : Nat) : Nat → Int32
  | 0 => 0
  | n + 1 => if g.testBit n = true then smN b g n + b n else smN b g n
theorem smN_rst {b : Nat → Int32} {g h : Nat} (hb : g.testBit h = true) : ∀ n, n ≤ 32 → (if h < n then smN b (rstN g h) n + b h else smN b (rstN g h) n) = smN b g n := by
  intro n
  induction n with
  | zero => intro _; rfl
  | succ n ih =>
    intro hn
    have ih := ih (by omega)
    have ht := rst_tb (g := g) (h := h) (show n < 32 by omega)
    have e1 : smN b (rstN g h) (n + 1) = if (rstN g h).testBit n = true then smN b (rstN g h) n + b n else smN b (rstN g h) n := rfl
    have e2 : smN b g (n + 1) = if g.testBit n = true then smN b g n + b n else smN b g n := rfl
    rw [e1, e2, ht]
    by_cases c : h = n
    · subst c
      rw [if_neg (show ¬ h < h by omega)] at ih
      rw [if_pos (by omega), hb, if_pos rfl, ← ih]
      simp
    · have hd : (!decide (h = n)) = true := by simp [c]
      rw [hd, Bool.and_true]
      by_cases c2 : h < n
      · rw [if_pos c2] at ih
        rw [if_pos (by omega)]
        split
        · rw [← ih, Int32.add_assoc, Int32.add_comm (b n), ← Int32.add_assoc]
        · exact ih
      · rw [if_neg c2] at ih
        rw [if_neg (by omega), ih]
def mxI (s v : Int32) : Int32 := if s < v then v else s
def partF (t : Nat → Int32) (g h : Nat) (s : Int32) : Int32 := if g.testBit h = true then mxI s (t (rstN g h)) else s
def partV (H : Nat) (t : Nat → Int32) (g : Nat) : Int32 := itr (partF t g) 0 H 0
def partS (b : Nat → Int32) (H : Nat) (g : Nat) (t : Nat → Int32) : Nat → Int32 := upd t g (if smN b g H = 0 then partV H t g + 1 else partV H t g)
def payV (b : Nat → Int32) (H : Nat) : Int32 := nI H - (itr (partS b H) 1 (2 ^ H - 1) (fun _ => 0)) (2 ^ H - 1)
theorem has_bit {g H : Nat} (h1 : 1 ≤ g) (h2 : g < 2 ^ H) : ¬ ∀ i, i < H → g.testBit i = false := by
  intro h
  have : g = 0 := by
    apply Nat.eq_of_testBit_eq
    intro i
    rw [Nat.zero_testBit]
    by_cases c : i < H
    · exact h i c
    · exact Nat.testBit_lt_two_pow (Nat.lt_of_lt_of_le h2 (Nat.pow_le_pow_right (by decide) (by omega)))
  omega
theorem ix_0 : ix (0 : Int32) = 0 := ixn (k := 0) (by decide)
theorem sp_D_fewestPayments {σ : Hp} {γ : Dc} {last : Nat} {P : Int32 → Hp → Prop} (hw : WD γ) (hP : PC σ γ) (ht : ∀ k, k < gS γ → gT γ k = true) (hl : last < 30) (h : ∀ ρ, Bt [16, 19, 20] σ ρ → P (payV (balI γ last) (gH γ)) ρ) : wp_D_fewestPayments σ (nI last) P := by
  have hH := hw.1.1
  refine sp_D_fillBalances hw hP ht hl (fun ρ0 hB0 hb0 => ⟨pk_in 0 256 (by decide), pk_in 0 256 (by decide), fun v23 e23 => ?_⟩)
  rw [ix_0] at e23 ⊢
  generalize hρ1 : st (st ρ0 19 0 0) 20 0 0 = ρ1 at e23 ⊢
  have B1 : Bt [19, 20] ρ0 ρ1 := by rw [← hρ1]; exact ((Bt.rf _ _).st (by decide)).st (by decide)
  have z19 : ρ1 19 0 = 0 := by rw [← hρ1, st_ne _ _ _ (by decide), st_at]; rfl
  have z20 : ρ1 20 0 = 0 := by rw [← hρ1, st_at]; rfl
  have e46 : ∀ ρ, Bt [19, 20] ρ1 ρ → ρ 4 6 = nI (gH γ) := fun ρ hB => by rw [hB 4 (by decide), B1 4 (by decide), hB0 4 (by decide)]; exact hP.1.1
  have e16 : ∀ ρ, Bt [19, 20] ρ1 ρ → ∀ j, j < gH γ → ρ 16 j = balI γ last j := fun ρ hB j hj => by rw [hB 16 (by decide), B1 16 (by decide)]; exact hb0 j hj
  rw [e46 ρ1 (Bt.rf _ _), i_bit _ (by omega)] at e23
  subst e23
  obtain ⟨N, hN⟩ : ∃ N, N = 2 ^ gH γ := ⟨_, rfl⟩
  have hN8 : N ≤ 256 := by rw [hN]; exact Nat.pow_le_pow_right (n := 2) (by decide) hH
  have hN1 : 1 ≤ N := by rw [hN]; exact Nat.one_le_two_pow
  rw [← hN]
  intro I hI
  have key : ∀ (m g : Nat) (ρ : Hp) (t : Nat → Int32), g + m = N → 1 ≤ g → Bt [19, 20] ρ1 ρ → (∀ i, i < g → ρ 19 i = smN (balI γ last) i (gH γ) ∧ ρ 20 i = t i) → nI (gH γ) - (itr (partS (balI γ last) (gH γ)) g m t) (N - 1) = payV (balI γ last) (gH γ) → I ρ (nI N) (nI g) := by
    intro m
    induction m with
    | zero =>
      intro g ρ t hg hg1 hB hi hs
      have : g = N := by omega
      subst this
      apply hI
      unfold b_D_fewestPayments_31_
      rw [e46 ρ hB, show nI g - 1 = nI (g - 1) from pk_sub (b := 1) hg1, ixn (by omega), (hi (g - 1) (by omega)).2]
      refine pk_le g g (fun _ => ⟨pk_in (g - 1) 256 (by omega), ?_⟩) (fun c => absurd c (by omega))
      have hs : nI (gH γ) - t (g - 1) = payV (balI γ last) (gH γ) := hs
      rw [hs]
      refine h ρ (fun o ho => ?_)
      simp at ho
      rw [hB o (by simp; omega), B1 o (by simp; omega), hB0 o (by simp; omega)]
    | succ m ih =>
      intro g ρ t hg hg1 hB hi hs
      apply hI
      refine pk_le N g (fun c => absurd c (by omega)) (fun _ => ?_)
      intro J hJ
      have key2 : ∀ (m2 k : Nat) (ρ : Hp) (s : Int32), k + m2 = gH γ → Bt [19, 20] ρ1 ρ → (∀ i, i < g → ρ 19 i = smN (balI γ last) i (gH γ) ∧ ρ 20 i = t i) → ((∀ i, i < k → g.testBit i = false) ∨ ρ 19 g = smN (balI γ last) g (gH γ)) → itr (partF t g) k m2 s = partV (gH γ) t g → J ρ (nI N) (nI g) s (nI k) := by
        intro m2
        induction m2 with
        | zero =>
          intro k ρ s hk hB hi ho hs2
          have : k = gH γ := by omega
          subst this
          have hs2 : s = partV (gH γ) t g := hs2
          have e19 : ρ 19 g = smN (balI γ last) g (gH γ) := ho.resolve_left (has_bit hg1 (by omega))
          apply hJ
          unfold b_D_fewestPayments_42_
          rw [e46 ρ hB, ixn (show g < 2 ^ 31 by omega), e19]
          have fin : ∀ v : Int32, v = (if smN (balI γ last) g (gH γ) = 0 then partV (gH γ) t g + 1 else partV (gH γ) t g) → I (st ρ 20 g v) (nI N) (nI (g + 1)) := by
            intro v ev
            refine ih (g + 1) _ (partS (balI γ last) (gH γ) g t) (by omega) (by omega) (hB.st (by decide)) (fun i hi2 => ⟨?_, ?_⟩) hs
            · rw [st_ne _ _ _ (by decide)]
              by_cases e : i = g
              · rw [e]; exact e19
              · exact (hi i (by omega)).1
            · rw [st_at]
              unfold partS upd
              by_cases e : i = g
              · rw [if_pos e, if_pos e]; exact ev
              · rw [if_neg e, if_neg e]; exact (hi i (by omega)).2
          refine pk_le (gH γ) (gH γ) (fun _ => ⟨pk_in g 256 (by omega), fun c => ⟨pk_in g 256 (by omega), fun v5 e5 => ?_⟩, fun c => ⟨pk_in g 256 (by omega), fun v7 e7 => ?_⟩⟩) (fun c => absurd c (by omega))
          · rw [e5, show nI g + 1 = nI (g + 1) from nI_1 g]
            exact fin _ (by rw [if_neg c, hs2])
          · rw [e7, show nI g + 1 = nI (g + 1) from nI_1 g]
            exact fin _ (by rw [if_pos c, hs2])
        | succ m2 ih2 =>
          intro k ρ s hk hB hi ho hs2
          have hs2 : itr (partF t g) (k + 1) m2 (partF t g k s) = partV (gH γ) t g := hs2
          apply hJ
          unfold b_D_fewestPayments_42_
          rw [e46 ρ hB]
          refine pk_le (gH γ) k (fun c => absurd c (by omega)) (fun _ => tb_ne (by omega) (by omega) (fun q v9 e9 => ?_) (fun q v16 e16 => ?_))
          · have hlt := rst_lt q (by omega)
            rw [rst_I (by omega)] at e9
            subst e9
            rw [ixn (show rstN g k < 2 ^ 31 by omega), ixn (show g < 2 ^ 31 by omega), ixn (show k < 2 ^ 31 by omega)]
            refine ⟨pk_in (rstN g k) 256 (by omega), pk_in k 8 (by omega), pk_in g 256 (by omega), pk_in (rstN g k) 256 (by omega), fun v14 e14 v15 e15 => ?_⟩
            rw [st_ne _ _ _ (by decide), (hi _ hlt).2] at e14
            rw [(hi _ hlt).1, e16 ρ hB k (by omega), e14, e15, show nI k + 1 = nI (k + 1) from nI_1 k]
            refine ih2 (k + 1) _ _ (by omega) (hB.st (by decide)) (fun i hi2 => ⟨?_, ?_⟩) (Or.inr ?_) ?_
            · rw [st_at]; unfold upd; rw [if_neg (by omega)]; exact (hi i hi2).1
            · rw [st_ne _ _ _ (by decide)]; exact (hi i hi2).2
            · rw [st_at]; unfold upd
              rw [if_pos rfl]
              have := smN_rst (b := balI γ last) q (gH γ) (by omega)
              rw [if_pos (by omega)] at this; exact this
            · unfold partF at hs2
              rw [if_pos q] at hs2; exact hs2
          · rw [e16, show nI k + 1 = nI (k + 1) from nI_1 k]
            refine ih2 (k + 1) ρ s (by omega) hB hi ?_ ?_
            · rcases ho with ho | ho
              · left
                intro i hi2
                by_cases e : i = k
                · rw [e]; exact q
                · exact ho i (by omega)
              · exact Or.inr ho
            · unfold partF at hs2
              rw [if_neg (by rw [q]; simp)] at hs2; exact hs2
      exact key2 (gH γ) 0 ρ 0 (by omega) hB hi (Or.inl (fun i hi2 => by omega)) rfl
  refine key (N - 1) 1 ρ1 (fun _ => 0) (by omega) (Nat.le_refl _) (Bt.rf _ _) (fun i hi => ?_) (by rw [hN]; rfl)
  have : i = 0 := by omega
  subst this
  refine ⟨?_, z20⟩
  rw [z19]
  have : ∀ n, smN (balI γ last) 0 n = 0 := by
    intro n
    induction n with
    | zero => rfl
    | succ n ih =>
      show (if (0 : Nat).testBit n = true then _ else _) = _
      rw [Nat.zero_testBit, if_neg (by simp)]; exact ih
  exact (this _).symm
theorem sp_R_paymentsOf {τ : Hp} {α : Abs} {last : Nat} {P : Int32 → Hp → Prop} (hw : WF α) (hR : RR τ α) (hl : last < 30) (h1 : ∀ ρ, RR ρ α → Rd ρ α → P (payV (balI (ctA α) last) (nH α)) ρ) : wp_R_paymentsOf τ (nI last) P := by
  have hH := nH_le hw
  refine sp_R_laysTold hw hR (fun ρ00 hT00 hP => sp_R_purses (γ := ctA α) (WD_ctx hw _) hP hl (fun ρ0 hB0 hb0 => ⟨pk_in 0 256 (by decide), ?_⟩))
  rw [ix_0]
  have hT0 := hT00.fr (hB0.mono (by decide))
  generalize hρ1 : st ρ0 18 0 0 = ρ1
  have B1 : Bt [18] ρ0 ρ1 := by rw [← hρ1]; exact (Bt.rf _ _).st (by decide)
  have z18 : ρ1 18 0 = 0 := by rw [← hρ1, st_at]; rfl
  have hb0 : ∀ j, j < nH α → ρ0 17 j = balI (ctA α) last j := hb0
  have e02 : ∀ ρ, Bt [18] ρ1 ρ → ρ 0 2 = nI (nH α) := fun ρ hB => by rw [hB 0 (by decide), B1 0 (by decide)]; exact hT0.2.1.1.1
  have e17 : ∀ ρ, Bt [18] ρ1 ρ → ∀ j, j < nH α → ρ 17 j = balI (ctA α) last j := fun ρ hB j hj => by rw [hB 17 (by decide), B1 17 (by decide)]; exact hb0 j hj
  obtain ⟨N, hN⟩ : ∃ N, N = 2 ^ nH α := ⟨_, rfl⟩
  have hN8 : N ≤ 256 := by rw [hN]; exact Nat.pow_le_pow_right (n := 2) (by decide) hH
  have hN1 : 1 ≤ N := by rw [hN]; exact Nat.one_le_two_pow
  have eN : (1 : Int32) <<< (nI (nH α) &&& 31) = nI N := by rw [i_bit _ (by omega), hN]
  intro I hI
  have key : ∀ (m g : Nat) (ρ : Hp) (t : Nat → Int32), g + m = N → 1 ≤ g → Bt [18] ρ1 ρ → (∀ i, i < g → ρ 18 i = t i) → nI (nH α) - (itr (partS (balI (ctA α) last) (nH α)) g m t) (N - 1) = payV (balI (ctA α) last) (nH α) → I ρ (nI g) := by
    intro m
    induction m with
    | zero =>
      intro g ρ t hg hg1 hB hi hs
      have : g = N := by omega
      subst this
      have hT1 := (hT0.fr (B1.mono (by decide))).fr (hB.mono (by decide))
      apply hI
      unfold b_R_paymentsOf_18_
      rw [e02 ρ hB, eN, show nI g - 1 = nI (g - 1) from pk_sub (b := 1) hg1, ixn (by omega), hi (g - 1) (by omega)]
      refine pk_le g g (fun _ => ⟨pk_in (g - 1) 256 (by omega), ?_⟩) (fun c => absurd c (by omega))
      have hs : nI (nH α) - t (g - 1) = payV (balI (ctA α) last) (nH α) := hs
      rw [hs]
      exact h1 ρ hT1.1 hT1.2.1
    | succ m ih =>
      intro g ρ t hg hg1 hB hi hs
      apply hI
      unfold b_R_paymentsOf_18_
      rw [e02 ρ hB, eN]
      refine pk_le N g (fun c => absurd c (by omega)) (fun _ => ?_)
      intro J hJ
      have key2 : ∀ (m2 k : Nat) (s : Int32), k + m2 = nH α → itr (partF t g) k m2 s = partV (nH α) t g → J ρ (nI g) (smN (balI (ctA α) last) g k) s (nI k) := by
        intro m2
        induction m2 with
        | zero =>
          intro k s hk hs2
          have : k = nH α := by omega
          subst this
          have hs2 : s = partV (nH α) t g := hs2
          apply hJ
          unfold b_R_paymentsOf_36_
          rw [e02 ρ hB, ixn (show g < 2 ^ 31 by omega)]
          have fin : ∀ v : Int32, v = (if smN (balI (ctA α) last) g (nH α) = 0 then partV (nH α) t g + 1 else partV (nH α) t g) → I (st ρ 18 g v) (nI (g + 1)) := by
            intro v ev
            refine ih (g + 1) _ (partS (balI (ctA α) last) (nH α) g t) (by omega) (by omega) (hB.st (by decide)) (fun i hi2 => ?_) hs
            rw [st_at]
            unfold partS upd
            by_cases e : i = g
            · rw [if_pos e, if_pos e]; exact ev
            · rw [if_neg e, if_neg e]; exact hi i (by omega)
          refine pk_le (nH α) (nH α) (fun _ => ⟨fun c => ⟨pk_in g 256 (by omega), fun v5 e5 => ?_⟩, fun c => ⟨pk_in g 256 (by omega), fun v7 e7 => ?_⟩⟩) (fun c => absurd c (by omega))
          · rw [e5, show nI g + 1 = nI (g + 1) from nI_1 g]
            exact fin _ (by rw [if_neg c, hs2, Int32.add_zero])
          · rw [e7, show nI g + 1 = nI (g + 1) from nI_1 g]
            exact fin _ (by rw [if_pos c, hs2])
        | succ m2 ih2 =>
          intro k s hk hs2
          have hs2 : itr (partF t g) (k + 1) m2 (partF t g k s) = partV (nH α) t g := hs2
          have es : smN (balI (ctA α) last) g (k + 1) = if g.testBit k = true then smN (balI (ctA α) last) g k + balI (ctA α) last k else smN (balI (ctA α) last) g k := rfl
          apply hJ
          unfold b_R_paymentsOf_36_
          rw [e02 ρ hB, rst_I (by omega)]
          refine pk_le (nH α) k (fun c => absurd c (by omega)) (fun _ => sp_R_isIn (by omega) (by omega) (fun q => br_f one0 ⟨pk_in k 8 (by omega), fun v12 e12 => ⟨pk_in (rstN g k) 256 (by have := rst_le g k; omega), fun v14 e14 => ?_⟩⟩) (fun q => br_t rfl (fun v10 e10 => ?_)))
          · have hlt := rst_lt q (by omega)
            rw [ixn (show k < 2 ^ 31 by omega), e17 ρ hB k (by omega)] at e12
            rw [ixn (show rstN g k < 2 ^ 31 by omega), hi _ hlt] at e14
            unfold partF mxI at hs2
            rw [if_pos q] at hs2
            rw [if_pos q] at es
            subst e12; subst e14
            refine ⟨fun c v e => ?_, fun c v e => ?_⟩
            · rw [if_neg (fun z => Int32.not_lt.mpr c z)] at hs2
              rw [e, show nI k + 1 = nI (k + 1) from nI_1 k, ← es]
              exact ih2 (k + 1) s (by omega) hs2
            · rw [if_pos (Int32.not_le.mp c)] at hs2
              rw [e, show nI k + 1 = nI (k + 1) from nI_1 k, ← es]
              exact ih2 (k + 1) _ (by omega) hs2
          · unfold partF at hs2
            rw [if_neg (by rw [q]; simp)] at hs2
            rw [if_neg (by rw [q]; simp)] at es
            rw [e10, show nI k + 1 = nI (k + 1) from nI_1 k, ← es]
            exact ih2 (k + 1) s (by omega) hs2
      exact key2 (nH α) 0 0 (by omega) rfl
  refine key (N - 1) 1 ρ1 (fun _ => 0) (by omega) (Nat.le_refl _) (Bt.rf _ _) (fun i hi => ?_) (by rw [hN]; rfl)
  have : i = 0 := by omega
  subst this
  exact z18
theorem sp_P_payments {σ : Hp} {α : Abs} {d : Int32} {P : Int32 → Hp → Prop} (hw : WF α) (hC : RC σ α) (h1 : ∀ last ρ, last < 30 → d = nI last → RC ρ α → P (payV (balI (ctA α) last) (nH α)) ρ) (h0 : ¬ isD d 30 → P (-2) σ) : wp_P_payments σ d P := by
  refine sp_P_isDay (fun q0 => br_f one0 ?_) (fun q => br_t rfl (h0 q))
  obtain ⟨last, hl, rfl⟩ := q0
  exact sp_D_fewestPayments (γ := ctA α) (WD_ctx hw _) (PC_ctx hC _) (fun _ _ => rfl) hl (fun ρ hB => h1 last ρ hl rfl (hC.fr (hB.mono (by decide))))
theorem h_payments : H_payments Rel := by
  intro σ τ x1 hrel
  obtain ⟨α, hw, hC, hR⟩ := hrel
  refine sp_P_payments hw hC (fun last ρ hl e hC2 => ?_) (fun n => ?_)
  · exact sp_R_isDay (fun _ => br_f one0 (by rw [e]; exact sp_R_paymentsOf hw hR hl (fun ρ2 hR2 _ => ⟨rfl, α, hw, hC2, hR2⟩))) (fun z => absurd ⟨last, hl, e⟩ z)
  · exact sp_R_isDay (fun q => absurd q n) (fun _ => br_t rfl ⟨rfl, α, hw, hC, hR⟩)
