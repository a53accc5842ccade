/-! drop -/
def dyF (α : Abs) (dr d h : Nat) : Bool := decide (-(nI (hCo α h)) ≤ Int32.ofInt (balE (ctD α dr) (d + 1) h))
def dyB (α : Abs) (dr d : Nat) : Bool := allF (dyF α dr d) 0 (nH α)
def wlB (α : Abs) (day dr : Nat) : Bool := allF (dyB α dr) 0 (day + 1)
theorem sp_D_passDay {σ : Hp} {γ : Dc} {d l : Nat} {p : Nat → Int} {P : Hp → Prop} (hw : WD γ) (hP : PC σ γ) (hL : BtL γ l) (hd : d < 30) (hp : ∀ j, j < 8 → σ 16 j = Int32.ofInt (p j)) (h : ∀ ρ, Bt [16] σ ρ → (∀ j, j < 8 → ρ 16 j = Int32.ofInt (p j + fb_si (perD γ d j) (gS γ))) → P ρ) : wp_D_passDay σ (nI d) (nI l) P := by
  have hS := hw.1.2
  intro I hI
  have key : ∀ (m k : Nat) (ρ : Hp), k + m = gS γ → Bt [16] σ ρ → (∀ j, j < 8 → ρ 16 j = Int32.ofInt (p j + fb_si (perD γ d j) k)) → I ρ (nI d) (nI l) (nI k) := by
    intro m
    induction m with
    | zero =>
      intro k ρ hk hB hi
      have : k = gS γ := by omega
      subst this
      apply hI
      unfold b_D_passDay_2_
      rw [(hP.bt hB (by simp; omega)).1.2]
      exact pk_le (gS γ) (gS γ) (fun _ => h ρ hB hi) (fun c => absurd c (by omega))
    | succ m ih =>
      intro k ρ hk hB hi
      have hP2 := hP.bt hB (by simp; omega)
      obtain ⟨f1, f2, f3⟩ := hP2.2.1 k (by omega)
      obtain ⟨u1, u2, u3, u4⟩ := hw.2.1 k (by omega)
      have f17 := hP2.2.2.1 k (by omega)
      obtain ⟨mc, m1, m2, m3⟩ := hP2.2.2.2 (gY γ k) u2
      have stay : (∀ j, perD γ d j k = 0) → ∀ v : Int32, v = nI k + 1 → I ρ (nI d) (nI l) v := by
        intro hz v e
        rw [e, show nI k + 1 = nI (k + 1) from nI_1 k]
        refine ih (k + 1) ρ (by omega) hB (fun j hj => ?_)
        rw [fb_si_succ, hz j, Int.add_zero]; exact hi j hj
      apply hI
      unfold b_D_passDay_2_
      rw [hP2.1.2, ixn (show k < 2 ^ 31 by omega), f1, f2]
      refine pk_le (gS γ) k (fun c => absurd c (by omega)) (fun _ => And.symm (tb_ne (by have := hL.1; omega) (by omega) (fun q => ⟨pk_in k 12 (by omega), ?_⟩) (fun q => stay (fun j => ?_))))
      · rw [hL.2 k (by omega)] at q
        refine pk_le (gD γ k) d (fun c => ⟨pk_in k 12 (by omega), fun v7 e7 => ?_⟩) (fun c => stay (fun j => ?_))
        · subst e7
          rw [ixn (show gY γ k < 2 ^ 31 by omega), m1]
          refine ⟨pk_in _ 8 u2 (by rfl), tb_1n (by omega) (by omega) (fun q2 => stay (fun j => ?_)) (fun q2 => ?_)⟩
          · rw [m3 d hd] at q2
            unfold perD; rw [if_pos q, if_neg (fun z => by rw [q2] at z; cases z.2)]
          · rw [m3 d hd] at q2
            simp (disch := decide) only [st_ne, f3, f17, ixn (show gX γ k < 2 ^ 31 by omega)]
            refine ⟨pk_in _ 8 u2 (by rfl), pk_in k 12 (by omega), pk_in _ 8 u2 (by rfl), pk_in k 12 (by omega), pk_in _ 8 u3 (by rfl), pk_in k 12 (by omega), pk_in _ 8 u3 (by rfl), fun v17 e17 => ?_⟩
            rw [e17, show nI k + 1 = nI (k + 1) from nI_1 k]
            refine ih (k + 1) _ (by omega) ((hB.st (by decide)).st (by decide)) (fun j hj => ?_)
            have ep : perD γ d j k = if gY γ k = j then (gU γ (gY γ k) (gX γ k) : Int) else if gX γ k = j then -(gU γ (gY γ k) (gX γ k) : Int) else 0 := by
              unfold perD; rw [if_pos q, if_pos ⟨c, q2⟩]
            rw [fb_si_succ, ← Int.add_assoc, Int32.ofInt_add, ← hi j hj, ep, st_at]
            unfold upd
            by_cases e1 : j = gX γ k
            · subst e1
              rw [if_pos rfl, if_neg u4, if_pos rfl, st_at]; unfold upd
              rw [if_neg (fun z => u4 z.symm), ofI_nI, Int32.ofInt_neg, Int32.sub_eq_add_neg]
            · rw [if_neg e1, st_at]; unfold upd
              by_cases e2 : j = gY γ k
              · subst e2
                rw [if_pos rfl, if_pos rfl, ofI_nI]
              · rw [if_neg e2, if_neg (fun z => e2 z.symm), if_neg (fun z => e1 z.symm)]
                exact (Int32.add_zero _).symm
        · unfold perD; rw [if_pos q, if_neg (fun z => by have := z.1; omega)]
      · rw [hL.2 k (by omega)] at q
        unfold perD; rw [q]; rfl
  exact key (gS γ) 0 σ (by omega) (Bt.rf _ _) (fun j hj => by rw [hp j hj]; show _ = Int32.ofInt (_ + 0); rw [Int.add_zero])
theorem sp_D_staySolvent {σ : Hp} {α : Abs} {dr s day : Nat} {P : Int32 → Hp → Prop} (hw : WF α) (hC : RC σ α) (hs : BtT (ctD α dr) s) (hd : day < 30) (h1 : ∀ ρ, Bt [16] σ ρ → wlB α day dr = true → P 1 ρ) (h0 : ∀ ρ, Bt [16] σ ρ → wlB α day dr = false → P 0 ρ) : wp_D_staySolvent σ (nI day) (nI s) P := by
  have hH := nH_le hw
  have hwd : WD (ctD α dr) := WD_ctx hw _
  refine sp_K_leading (γ := ctD α dr) hwd (PC_ctx hC _) hs (fun l hL => sp_JA_fill rfl (by decide) ?_)
  generalize hρ0 : (fun q => if q = 16 then fun i => if i < 8 then (0 : Int32) else σ 16 i else σ q : Hp) = ρ0
  have B0 : Bt [16] σ ρ0 := by
    intro q hq
    rw [← hρ0]
    exact if_neg (fun e => hq (by rw [e]; decide))
  have z0 : ∀ j, j < 8 → ρ0 16 j = 0 := by
    intro j hj
    rw [← hρ0]
    show (if 16 = 16 then _ else _ : Nat → Int32) j = 0
    rw [if_pos rfl]
    exact if_pos hj
  intro I hI
  have key : ∀ (m d : Nat) (ρ : Hp) (p : Nat → Int), d + m = day + 1 → Bt [16] σ ρ → (∀ j, j < 8 → ρ 16 j = Int32.ofInt (p j)) → (∀ j, j < nH α → p j = balE (ctD α dr) d j) → wlB α day dr = allF (dyB α dr) d m → I ρ (nI day) (nI l) (nI d) := by
    intro m
    induction m with
    | zero =>
      intro d ρ p hdm hB hi hpe hv
      apply hI
      exact pk_lt day d (fun _ => h1 ρ hB hv) (fun c => absurd c (by omega))
    | succ m ih =>
      intro d ρ p hdm hB hi hpe hv
      have hC2 : RC ρ α := hC.fr (hB.mono (by decide))
      have hv : wlB α day dr = if dyB α dr d = true then allF (dyB α dr) (d + 1) m else false := hv
      apply hI
      refine pk_lt day d (fun c => absurd c (by omega)) (fun _ => sp_D_passDay (γ := ctD α dr) (p := p) hwd (PC_ctx hC2 _) hL (by omega) hi (fun ρ3 hB3 hi3 => ?_))
      have hB4 : Bt [16] σ ρ3 := hB.tr hB3
      have hC3 : RC ρ3 α := hC.fr (hB4.mono (by decide))
      have hp3 : ∀ j, j < nH α → p j + fb_si (perD (ctD α dr) d j) (gS (ctD α dr)) = balE (ctD α dr) (d + 1) j := by
        intro j hj
        rw [perD_sum hwd (by omega) hj, hpe j hj, balE_S]
      intro J hJJ
      have key2 : ∀ m2 h, h + m2 = nH α → dyB α dr d = allF (dyF α dr d) h m2 → J ρ3 (nI day) (nI l) (nI d) (nI h) := by
        intro m2
        induction m2 with
        | zero =>
          intro h hh hv2
          have : h = nH α := by omega
          subst this
          have hv2 : dyB α dr d = true := hv2
          apply hJJ
          unfold b_D_staySolvent_36_
          rw [hC3.2.1.1.1]
          refine pk_le (nH α) (nH α) (fun _ v e => ?_) (fun c => absurd c (by omega))
          rw [e, show nI d + 1 = nI (d + 1) from nI_1 d]
          exact ih (d + 1) ρ3 _ (by omega) hB4 hi3 hp3 (by rw [hv, if_pos hv2])
        | succ m2 ih2 =>
          intro h hh hv2
          have hv2 : dyB α dr d = if dyF α dr d h = true then allF (dyF α dr d) (h + 1) m2 else false := hv2
          apply hJJ
          unfold b_D_staySolvent_36_
          rw [hC3.2.1.1.1, ixn (show h < 2 ^ 31 by omega), (hC3.2.1.1.2 h (by omega)).2.2.2, hi3 h (by omega), hp3 h (by omega)]
          refine pk_le (nH α) h (fun c => absurd c (by omega)) (fun _ => ⟨pk_in h 8 (by omega), pk_in h 8 (by omega), fun c v e => ?_, fun c => ?_⟩)
          · rw [e, show nI h + 1 = nI (h + 1) from nI_1 h]
            exact ih2 (h + 1) (by omega) (by rw [hv2, if_pos (show dyF α dr d h = true from decide_eq_true c)])
          · have : dyF α dr d h = false := decide_eq_false c
            rw [this, if_neg (by simp)] at hv2
            rw [hv2, if_neg (by simp)] at hv
            exact h0 ρ3 hB4 hv
      exact key2 (nH α) 0 (by omega) rfl
  exact key (day + 1) 0 ρ0 (fun _ => 0) (by omega) B0 (fun j hj => by rw [z0 j hj]; rfl) (fun j hj => (balE_0 _ j).symm) rfl
theorem sp_R_isWell {τ : Hp} {α : Abs} {dr day : Nat} {v : Int32} {P : Int32 → Hp → Prop} (hw : WF α) (hT : Told τ α) (ev : v = nI dr) (hdr : dr < 2 ^ 31) (hd : day < 30) (h1 : ∀ ρ, Told ρ α → Bt [0, 15, 16, 17] τ ρ → wlB α day dr = true → P 1 ρ) (h0 : ∀ ρ, Told ρ α → Bt [0, 15, 16, 17] τ ρ → wlB α day dr = false → P 0 ρ) : wp_R_isWell τ (nI day) v P := by
  have hH := nH_le hw
  have hwd : WD (ctD α dr) := WD_ctx hw _
  refine sp_R_laysD hw hT ev hdr (fun ρ1 hT1 hB1 hP1 => sp_R_noPurses (fun ρ2 hB2 hz => ?_))
  intro I hI
  have key : ∀ (m d : Nat) (ρ : Hp), d + m = day + 1 → Bt [17] ρ1 ρ → (∀ j, j < nH α → ρ 17 j = Int32.ofInt (balE (ctD α dr) d j)) → wlB α day dr = allF (dyB α dr) d m → I ρ (nI day) (nI d) := by
    intro m
    induction m with
    | zero =>
      intro d ρ hdm hB hi hv
      apply hI
      exact pk_lt day d (fun _ => h1 ρ (hT1.fr (hB.mono (by decide))) ((hB1.mono (by decide)).tr (hB.mono (by decide))) hv) (fun c => absurd c (by omega))
    | succ m ih =>
      intro d ρ hdm hB hi hv
      have hv : wlB α day dr = if dyB α dr d = true then allF (dyB α dr) (d + 1) m else false := hv
      apply hI
      refine pk_lt day d (fun c => absurd c (by omega)) (fun _ => sp_R_goesBy (γ := ctD α dr) (p := balE (ctD α dr) d) hwd (hP1.bt hB (by simp; omega)) (by omega) hi (fun ρ3 hB3 hi3 => ?_))
      have hB4 : Bt [17] ρ1 ρ3 := hB.tr hB3
      have hT3 := hT1.fr (hB4.mono (by decide))
      have hi4 : ∀ j, j < nH α → ρ3 17 j = Int32.ofInt (balE (ctD α dr) (d + 1) j) := fun j hj => by rw [balE_S]; exact hi3 j hj
      intro J hJJ
      have key2 : ∀ m2 h, h + m2 = nH α → dyB α dr d = allF (dyF α dr d) h m2 → J ρ3 (nI day) (nI d) (nI h) := by
        intro m2
        induction m2 with
        | zero =>
          intro h hh hv2
          have : h = nH α := by omega
          subst this
          have hv2 : dyB α dr d = true := hv2
          apply hJJ
          unfold b_R_isWell_28_
          rw [hT3.2.1.1.1]
          refine pk_le (nH α) (nH α) (fun _ v e => ?_) (fun c => absurd c (by omega))
          rw [e, show nI d + 1 = nI (d + 1) from nI_1 d]
          exact ih (d + 1) ρ3 (by omega) hB4 hi4 (by rw [hv, if_pos hv2])
        | succ m2 ih2 =>
          intro h hh hv2
          have hv2 : dyB α dr d = if dyF α dr d h = true then allF (dyF α dr d) (h + 1) m2 else false := hv2
          apply hJJ
          unfold b_R_isWell_28_
          rw [hT3.2.1.1.1, ixn (show h < 2 ^ 31 by omega), (hT3.2.1.1.2 h (by omega)).2.2.2, hi4 h (by omega)]
          refine pk_le (nH α) h (fun c => absurd c (by omega)) (fun _ => ⟨pk_in h 8 (by omega), pk_in h 9 (by omega), fun c v e => ?_, fun c => ?_⟩)
          · rw [e, show nI h + 1 = nI (h + 1) from nI_1 h]
            exact ih2 (h + 1) (by omega) (by rw [hv2, if_pos (show dyF α dr d h = true from decide_eq_true c)])
          · have : dyF α dr d h = false := decide_eq_false c
            rw [this, if_neg (by simp)] at hv2
            rw [hv2, if_neg (by simp)] at hv
            exact h0 ρ3 hT3 ((hB1.mono (by decide)).tr (hB4.mono (by decide))) hv
      exact key2 (nH α) 0 (by omega) rfl
  exact key (day + 1) 0 ρ2 (by omega) hB2 (fun j hj => by rw [hz j (by omega), balE_0]; rfl) rfl
/-- what is dropped: how many (3: none will do), the first, the second -/
def dr3 (W : Nat → Bool) (a : Nat) : Nat → Nat → Nat × Nat × Nat → Nat × Nat × Nat
  | _, 0, rest => rest
  | b, m + 1, rest => if W (2 ^ a ||| 2 ^ b) = true then (2, a, b) else dr3 W a (b + 1) m rest
def dr2 (W : Nat → Bool) (S : Nat) : Nat → Nat → Nat × Nat × Nat
  | _, 0 => (3, 0, 0)
  | a, m + 1 => dr3 W a (a + 1) (S - (a + 1)) (dr2 W S (a + 1) m)
def dr1 (W : Nat → Bool) (S : Nat) : Nat → Nat → Nat × Nat × Nat
  | _, 0 => dr2 W S 0 S
  | a, m + 1 => if W (2 ^ a) = true then (1, a, 0) else dr1 W S (a + 1) m
def drA (α : Abs) (day : Nat) : Nat × Nat × Nat := if wlB α day 0 = true then (0, 0, 0) else dr1 (wlB α day) (aS α) 0 (aS α)
def drOk (r : Nat × Nat × Nat) : Prop := r.1 ≤ 3 ∧ (r.1 = 1 → r.2.1 < 12) ∧ (r.1 = 2 → r.2.1 < r.2.2 ∧ r.2.2 < 12)
theorem dr3_ok {W : Nat → Bool} {a S : Nat} (hS : S ≤ 12) : ∀ m b rest, a < b → b + m = S → drOk rest → drOk (dr3 W a b m rest) := by
  intro m
  induction m with
  | zero => intro b rest _ _ h; exact h
  | succ m ih =>
    intro b rest hab hb h
    show drOk (if W (2 ^ a ||| 2 ^ b) = true then (2, a, b) else dr3 W a (b + 1) m rest)
    split
    · exact ⟨show 2 ≤ 3 by decide, fun z => absurd (show 2 = 1 from z) (by decide), fun _ => ⟨hab, (by show b < 12; omega)⟩⟩
    · exact ih (b + 1) rest (by omega) (by omega) h
theorem dr2_ok {W : Nat → Bool} {S : Nat} (hS : S ≤ 12) : ∀ m a, a + m = S → drOk (dr2 W S a m) := by
  intro m
  induction m with
  | zero => intro a _; exact ⟨show 3 ≤ 3 by decide, fun z => absurd (show 3 = 1 from z) (by decide), fun z => absurd (show 3 = 2 from z) (by decide)⟩
  | succ m ih =>
    intro a ha
    exact dr3_ok hS (S - (a + 1)) (a + 1) _ (by omega) (by omega) (ih (a + 1) (by omega))
theorem dr1_ok {W : Nat → Bool} {S : Nat} (hS : S ≤ 12) : ∀ m a, a + m = S → drOk (dr1 W S a m) := by
  intro m
  induction m with
  | zero => intro a _; exact dr2_ok hS S 0 (by omega)
  | succ m ih =>
    intro a ha
    show drOk (if W (2 ^ a) = true then (1, a, 0) else dr1 W S (a + 1) m)
    split
    · exact ⟨show 1 ≤ 3 by decide, fun _ => (by show a < 12; omega), fun z => absurd (show 1 = 2 from z) (by decide)⟩
    · exact ih (a + 1) (by omega)
theorem drA_ok {α : Abs} (hw : WF α) (day : Nat) : drOk (drA α day) := by
  unfold drA
  split
  · exact ⟨by decide, fun z => absurd z (by decide), fun z => absurd z (by decide)⟩
  · exact dr1_ok hw.2.2.1.1 (aS α) 0 (by omega)
def drB (r : Nat × Nat × Nat) : Int32 := if r.1 = 3 then -1 else if r.1 = 0 then 0 else if r.1 = 1 then nI (2 ^ r.2.1) else nI (2 ^ r.2.1 ||| 2 ^ r.2.2)
theorem std_I {S dr : Nat} : nI (2 ^ S - 1) &&& (nI dr ^^^ (-1)) = nI ((2 ^ S - 1) &&& (dr ^^^ (2 ^ 32 - 1))) := by
  rw [i_not, i_and]
theorem sp_P_fewestDropped {σ : Hp} {α : Abs} {day : Nat} {P : Int32 → Hp → Prop} (hw : WF α) (hC : RC σ α) (hd : day < 30) (h : ∀ ρ, Bt [16] σ ρ → P (drB (drA α day)) ρ) : wp_P_fewestDropped σ (nI day) P := by
  have hS := hw.2.2.1.1
  have e56 : ∀ ρ, Bt [16] σ ρ → ρ 5 6 = nI (aS α) := fun ρ hB => by rw [hB 5 (by decide)]; exact hC.2.1.2.2.2.1.1
  have rc : ∀ ρ, Bt [16] σ ρ → RC ρ α := fun ρ hB => hC.fr (hB.mono (by decide))
  have two : ∀ ρ, Bt [16] σ ρ → dr2 (wlB α day) (aS α) 0 (aS α) = drA α day → j_P_fewestDropped_65 P ρ (nI day) (nI (2 ^ aS α - 1)) 0 := by
    intro ρ hB hv I hI
    have key : ∀ m a (ρ : Hp), a + m = aS α → Bt [16] σ ρ → dr2 (wlB α day) (aS α) a m = drA α day → I ρ (nI day) (nI (2 ^ aS α - 1)) (nI a) := by
      intro m
      induction m with
      | zero =>
        intro a ρ ha hB hv
        have : a = aS α := by omega
        subst this
        apply hI
        unfold b_P_fewestDropped_65_
        rw [e56 ρ hB]
        refine pk_le (aS α) (aS α) (fun _ => ?_) (fun c => absurd c (by omega))
        have h := h ρ hB
        rw [← hv] at h; exact h
      | succ m ih =>
        intro a ρ ha hB hv
        apply hI
        unfold b_P_fewestDropped_65_
        rw [e56 ρ hB]
        refine pk_le (aS α) a (fun c => absurd c (by omega)) (fun _ v9 e9 => ?_)
        rw [e9, show nI a + 1 = nI (a + 1) from nI_1 a]
        intro J hJJ
        have key2 : ∀ m2 b (ρ : Hp), b + m2 = aS α → Bt [16] σ ρ → dr3 (wlB α day) a b m2 (dr2 (wlB α day) (aS α) (a + 1) m) = drA α day → J ρ (nI day) (nI (2 ^ aS α - 1)) (nI a) (nI b) := by
          intro m2
          induction m2 with
          | zero =>
            intro b ρ hb hB hv
            have : b = aS α := by omega
            subst this
            apply hJJ
            unfold b_P_fewestDropped_81_
            rw [e56 ρ hB]
            refine pk_le (aS α) (aS α) (fun _ v e => ?_) (fun c => absurd c (by omega))
            rw [e, show nI a + 1 = nI (a + 1) from nI_1 a]
            exact ih (a + 1) ρ (by omega) hB hv
          | succ m2 ih2 =>
            intro b ρ hb hB hv
            have hv : (if wlB α day (2 ^ a ||| 2 ^ b) = true then (2, a, b) else dr3 (wlB α day) a (b + 1) m2 (dr2 (wlB α day) (aS α) (a + 1) m)) = drA α day := hv
            apply hJJ
            unfold b_P_fewestDropped_81_
            rw [e56 ρ hB]
            refine pk_le (aS α) b (fun c => absurd c (by omega)) (fun _ v3 e3 => ?_)
            rw [i_bit a (by omega), i_bit b (by omega), i_or] at e3
            rw [e3, std_I]
            refine sp_D_staySolvent hw (rc ρ hB) (BtT_dr hw (2 ^ a ||| 2 ^ b)) hd (fun ρ2 hB2 q => br_f one0 ?_) (fun ρ2 hB2 q => br_t rfl (fun v e => ?_))
            · rw [if_pos q] at hv
              have h := h ρ2 (hB.tr hB2)
              rw [← hv] at h; exact h
            · rw [if_neg (by rw [q]; simp)] at hv
              rw [e, show nI b + 1 = nI (b + 1) from nI_1 b]
              exact ih2 (b + 1) ρ2 (by omega) (hB.tr hB2) hv
        exact key2 (aS α - (a + 1)) (a + 1) ρ (by omega) hB hv
    exact key (aS α) 0 ρ (by omega) hB hv
  refine sp_K_allSuits hS hC.2.1.2.2.2.1.1 ?_
  have hb0 : BtT (ctD α 0) (2 ^ aS α - 1) := by
    obtain ⟨a1, a2⟩ := all_bits (aS α) hS
    refine ⟨a1, fun k hk => ?_⟩
    rw [a2 k hk]
    show true = !(0 : Nat).testBit k
    rw [Nat.zero_testBit]; rfl
  have ev : (if wlB α day 0 = true then (0, 0, 0) else dr1 (wlB α day) (aS α) 0 (aS α)) = drA α day := rfl
  refine sp_D_staySolvent hw hC hb0 hd (fun ρ hB q => br_f one0 ?_) (fun ρ hB q => br_t rfl ?_)
  · rw [if_pos q] at ev
    have h := h ρ hB
    rw [← ev] at h; exact h
  · rw [if_neg (by rw [q]; simp)] at ev
    intro I hI
    have key : ∀ m a (ρ : Hp), a + m = aS α → Bt [16] σ ρ → dr1 (wlB α day) (aS α) a m = drA α day → I ρ (nI day) (nI (2 ^ aS α - 1)) (nI a) := by
      intro m
      induction m with
      | zero =>
        intro a ρ ha hB hv
        have : a = aS α := by omega
        subst this
        apply hI
        unfold b_P_fewestDropped_24_
        rw [e56 ρ hB]
        exact pk_le (aS α) (aS α) (fun _ => two ρ hB hv) (fun c => absurd c (by omega))
      | succ m ih =>
        intro a ρ ha hB hv
        have hv : (if wlB α day (2 ^ a) = true then (1, a, 0) else dr1 (wlB α day) (aS α) (a + 1) m) = drA α day := hv
        apply hI
        unfold b_P_fewestDropped_24_
        rw [e56 ρ hB, i_bit a (by omega), std_I]
        refine pk_le (aS α) a (fun c => absurd c (by omega)) (fun _ => sp_D_staySolvent hw (rc ρ hB) (BtT_dr hw (2 ^ a)) hd (fun ρ2 hB2 q => br_f one0 ?_) (fun ρ2 hB2 q => br_t rfl (fun v e => ?_)))
        · rw [if_pos q] at hv
          have h := h ρ2 (hB.tr hB2)
          rw [← hv] at h; exact h
        · rw [if_neg (by rw [q]; simp)] at hv
          rw [e, show nI a + 1 = nI (a + 1) from nI_1 a]
          exact ih (a + 1) ρ2 (by omega) (hB.tr hB2) hv
    exact key (aS α) 0 ρ (by omega) hB ev
def drN (r : Nat × Nat × Nat) : Int32 := if r.1 = 3 then -1 else nI r.1
def RowIs (ρ : Hp) (r : Nat × Nat × Nat) : Prop := (r.1 = 1 ∨ r.1 = 2 → ρ 19 0 = nI r.2.1) ∧ (r.1 = 2 → ρ 19 1 = nI r.2.2)
theorem ix_1 : ix (1 : Int32) = 1 := ixn (k := 1) (by decide)
theorem sp_R_dropBy {τ : Hp} {α : Abs} {day : Nat} {P : Int32 → Hp → Prop} (hw : WF α) (hR : RR τ α) (hd : day < 30) (h : ∀ ρ, Told ρ α → RowIs ρ (drA α day) → P (drN (drA α day)) ρ) : wp_R_dropBy τ (nI day) P := by
  have hS := hw.2.2.1.1
  refine sp_R_asTold hw hR (fun τ0 hT0 _ => ?_)
  have two : ∀ ρ, Told ρ α → dr2 (wlB α day) (aS α) 0 (aS α) = drA α day → j_R_dropBy_53 P ρ (nI day) 0 := by
    intro ρ hT hv I hI
    have key : ∀ m a (ρ : Hp), a + m = aS α → Told ρ α → dr2 (wlB α day) (aS α) a m = drA α day → I ρ (nI day) (nI a) := by
      intro m
      induction m with
      | zero =>
        intro a ρ ha hT hv
        have : a = aS α := by omega
        subst this
        apply hI
        unfold b_R_dropBy_53_
        rw [hT.1.2.2.1.1]
        refine pk_le (aS α) (aS α) (fun _ => ?_) (fun c => absurd c (by omega))
        have h := h ρ hT
        rw [← hv] at h
        exact h ⟨fun z => absurd (show 3 = 1 ∨ 3 = 2 from z) (by decide), fun z => absurd (show 3 = 2 from z) (by decide)⟩
      | succ m ih =>
        intro a ρ ha hT hv
        apply hI
        unfold b_R_dropBy_53_
        rw [hT.1.2.2.1.1]
        refine pk_le (aS α) a (fun c => absurd c (by omega)) (fun _ v9 e9 => ?_)
        rw [e9, show nI a + 1 = nI (a + 1) from nI_1 a]
        intro J hJJ
        have key2 : ∀ m2 b (ρ : Hp), b + m2 = aS α → Told ρ α → dr3 (wlB α day) a b m2 (dr2 (wlB α day) (aS α) (a + 1) m) = drA α day → J ρ (nI day) (nI a) (nI b) := by
          intro m2
          induction m2 with
          | zero =>
            intro b ρ hb hT hv
            have : b = aS α := by omega
            subst this
            apply hJJ
            unfold b_R_dropBy_65_
            rw [hT.1.2.2.1.1]
            refine pk_le (aS α) (aS α) (fun _ v e => ?_) (fun c => absurd c (by omega))
            rw [e, show nI a + 1 = nI (a + 1) from nI_1 a]
            exact ih (a + 1) ρ (by omega) hT hv
          | succ m2 ih2 =>
            intro b ρ hb hT hv
            have hv : (if wlB α day (2 ^ a ||| 2 ^ b) = true then (2, a, b) else dr3 (wlB α day) a (b + 1) m2 (dr2 (wlB α day) (aS α) (a + 1) m)) = drA α day := hv
            apply hJJ
            unfold b_R_dropBy_65_
            rw [hT.1.2.2.1.1, ix_0, ix_1]
            have hT1 : Told (st (st ρ 19 0 (nI a)) 19 1 (nI b)) α := hT.fr (((Bt.rf [19] ρ).st (by decide)).st (by decide) |>.mono (by decide))
            have hlt : 2 ^ a ||| 2 ^ b < 2 ^ 12 := Nat.or_lt_two_pow (Nat.pow_lt_pow_right (by decide) (by omega)) (Nat.pow_lt_pow_right (by decide) (by omega))
            refine pk_le (aS α) b (fun c => absurd c (by omega)) (fun _ => ⟨pk_in 0 2 (by decide), pk_in 1 2 (by decide), sp_R_isWell (dr := 2 ^ a ||| 2 ^ b) hw hT1 (by rw [i_bit a (by omega), i_bit b (by omega), i_or]) (by omega) hd (fun ρ2 hT2 hB2 q => br_f one0 ?_) (fun ρ2 hT2 hB2 q => br_t rfl (fun v e => ?_))⟩)
            · rw [if_pos q] at hv
              have h := h ρ2 hT2
              rw [← hv] at h
              refine h ⟨fun _ => ?_, fun _ => ?_⟩
              · rw [hB2 19 (by decide), st_at]; unfold upd; rw [if_neg (by decide), st_at]; rfl
              · rw [hB2 19 (by decide), st_at]; rfl
            · rw [if_neg (by rw [q]; simp)] at hv
              rw [e, show nI b + 1 = nI (b + 1) from nI_1 b]
              exact ih2 (b + 1) ρ2 (by omega) hT2 hv
        exact key2 (aS α - (a + 1)) (a + 1) ρ (by omega) hT hv
    exact key (aS α) 0 ρ (by omega) hT hv
  have ev : (if wlB α day 0 = true then (0, 0, 0) else dr1 (wlB α day) (aS α) 0 (aS α)) = drA α day := rfl
  refine sp_R_isWell (dr := 0) hw hT0 rfl (by decide) hd (fun ρ hT _ q => br_f one0 ?_) (fun ρ hT _ q => br_t rfl ?_)
  · rw [if_pos q] at ev
    have h := h ρ hT
    rw [← ev] at h
    exact h ⟨fun z => absurd z (by decide), fun z => absurd z (by decide)⟩
  · rw [if_neg (by rw [q]; simp)] at ev
    intro I hI
    have key : ∀ m a (ρ : Hp), a + m = aS α → Told ρ α → dr1 (wlB α day) (aS α) a m = drA α day → I ρ (nI day) (nI a) := by
      intro m
      induction m with
      | zero =>
        intro a ρ ha hT hv
        have : a = aS α := by omega
        subst this
        apply hI
        unfold b_R_dropBy_17_
        rw [hT.1.2.2.1.1]
        exact pk_le (aS α) (aS α) (fun _ => two ρ hT hv) (fun c => absurd c (by omega))
      | succ m ih =>
        intro a ρ ha hT hv
        have hv : (if wlB α day (2 ^ a) = true then (1, a, 0) else dr1 (wlB α day) (aS α) (a + 1) m) = drA α day := hv
        apply hI
        unfold b_R_dropBy_17_
        rw [hT.1.2.2.1.1, ix_0]
        have hT1 : Told (st ρ 19 0 (nI a)) α := hT.fr (((Bt.rf [19] ρ).st (by decide)).mono (by decide))
        have hlt : 2 ^ a < 2 ^ 12 := Nat.pow_lt_pow_right (by decide) (by omega)
        refine pk_le (aS α) a (fun c => absurd c (by omega)) (fun _ => ⟨pk_in 0 2 (by decide), sp_R_isWell (dr := 2 ^ a) hw hT1 (i_bit a (by omega)) (by omega) hd (fun ρ2 hT2 hB2 q => br_f one0 ?_) (fun ρ2 hT2 hB2 q => br_t rfl (fun v e => ?_))⟩)
        · rw [if_pos q] at hv
          have h := h ρ2 hT2
          rw [← hv] at h
          refine h ⟨fun _ => ?_, fun z => absurd (show 1 = 2 from z) (by decide)⟩
          rw [hB2 19 (by decide), st_at]; rfl
        · rw [if_neg (by rw [q]; simp)] at hv
          rw [e, show nI a + 1 = nI (a + 1) from nI_1 a]
          exact ih (a + 1) ρ2 (by omega) hT2 hv
    exact key (aS α) 0 ρ (by omega) hT ev
def drX (r : Nat × Nat × Nat) (x : Int32) : Int32 := if x = -1 then drN r else if x = 0 then (if r.1 = 1 ∨ r.1 = 2 then nI r.2.1 else -1) else (if r.1 = 2 then nI r.2.2 else -1)
def isM (x : Int32) : Prop := x = -1 ∨ x = 0 ∨ x = 1
theorem isM_of {x : Int32} (c : ¬ x < -1) (c2 : x ≤ 1) : isM x := by
  rw [Int32.lt_iff_toInt_lt] at c
  rw [Int32.le_iff_toInt_le] at c2
  have a : (-1 : Int32).toInt = -1 := by decide
  have b : (1 : Int32).toInt = 1 := by decide
  have d : (0 : Int32).toInt = 0 := by decide
  rcases (show x.toInt = -1 ∨ x.toInt = 0 ∨ x.toInt = 1 by omega) with e | e | e
  · exact Or.inl (Int32.toInt_inj.mp (by rw [e, a]))
  · exact Or.inr (Or.inl (Int32.toInt_inj.mp (by rw [e, d])))
  · exact Or.inr (Or.inr (Int32.toInt_inj.mp (by rw [e, b])))
theorem isM_le {x : Int32} (h : isM x) : ¬ x < -1 ∧ x ≤ 1 := by
  rcases h with rfl | rfl | rfl <;> decide
theorem sp_R_ofRow {ρ : Hp} {r : Nat × Nat × Nat} {x : Int32} {P : Int32 → Hp → Prop} (hr : drOk r) (hrow : RowIs ρ r) (hx : isM x) (h : P (drX r x) ρ) : wp_R_ofRow ρ (drN r) x P := by
  obtain ⟨c, a, b⟩ := r
  have hc : c ≤ 3 := hr.1
  unfold RowIs at hrow
  simp only [] at hrow
  unfold wp_R_ofRow
  rcases hx with rfl | rfl | rfl
  · exact br_nf rfl h
  · refine br_nt (by decide) ?_
    rw [ix_0]
    rcases (show c = 0 ∨ c = 1 ∨ c = 2 ∨ c = 3 by omega) with rfl | rfl | rfl | rfl
    · exact br_t (show nI 0 ≤ 0 by decide) h
    · refine br_f (show ¬ nI 1 ≤ 0 by decide) ⟨pk_in 0 2 (by decide), ?_⟩
      rw [hrow.1 (by decide)]; exact h
    · refine br_f (show ¬ nI 2 ≤ 0 by decide) ⟨pk_in 0 2 (by decide), ?_⟩
      rw [hrow.1 (by decide)]; exact h
    · exact br_t (show (-1 : Int32) ≤ 0 by decide) h
  · refine br_nt (by decide) ?_
    rw [ix_1]
    rcases (show c = 0 ∨ c = 1 ∨ c = 2 ∨ c = 3 by omega) with rfl | rfl | rfl | rfl
    · exact br_t (show nI 0 ≤ 1 by decide) h
    · exact br_t (show nI 1 ≤ 1 by decide) h
    · refine br_f (show ¬ nI 2 ≤ 1 by decide) ⟨pk_in 1 2 (by decide), ?_⟩
      rw [hrow.2 (by decide)]; exact h
    · exact br_t (show (-1 : Int32) ≤ 1 by decide) h
-- the lowest bit
abbrev ush (x : Int32) (k : Int32) : Int32 := (x.toUInt32 >>> (k.toUInt32 &&& Int32.toUInt32 31)).toInt32
def nz62 (x0 x1 : Int32) : Int32 := if x0 ≤ 4 then x1 + ush x0 1 else x1 + 2 + ush (ush x0 2) 1
def nz49 (x0 x1 : Int32) : Int32 := if x0 ≤ 16 then nz62 x0 x1 else nz62 (ush x0 4) (x1 + 4)
def nz34 (x0 x1 : Int32) : Int32 := if x0 ≤ 256 then nz49 x0 x1 else nz49 (ush x0 8) (x1 + 8)
def nzV (x : Int32) : Int32 := if 0 < ((x ^^^ (-1)) &&& (x - 1)) then (if ((x ^^^ (-1)) &&& (x - 1)) ≤ 65536 then nz34 ((x ^^^ (-1)) &&& (x - 1)) 1 else nz34 (ush ((x ^^^ (-1)) &&& (x - 1)) 16) (1 + 16)) else ((x ^^^ (-1)) &&& (x - 1)) &&& 32
theorem sp_nz62 {σ : Hp} {x0 x1 : Int32} {P : Int32 → Hp → Prop} (h : P (nz62 x0 x1) σ) : j_JI_numberOfTrailingZeros_62 P σ x0 x1 := by
  unfold nz62 at h
  refine ⟨fun c => ?_, fun c v2 e2 v3 e3 => ?_⟩
  · rw [if_pos c] at h; exact h
  · rw [if_neg c] at h; rw [e2, e3]; exact h
theorem sp_nz49 {σ : Hp} {x0 x1 : Int32} {P : Int32 → Hp → Prop} (h : P (nz49 x0 x1) σ) : j_JI_numberOfTrailingZeros_49 P σ x0 x1 := by
  unfold nz49 at h
  refine ⟨fun c => ?_, fun c v2 e2 v3 e3 => ?_⟩
  · rw [if_pos c] at h; exact sp_nz62 h
  · rw [if_neg c] at h; rw [e2, e3]; exact sp_nz62 h
theorem sp_nz34 {σ : Hp} {x0 x1 : Int32} {P : Int32 → Hp → Prop} (h : P (nz34 x0 x1) σ) : j_JI_numberOfTrailingZeros_34 P σ x0 x1 := by
  unfold nz34 at h
  refine ⟨fun c => ?_, fun c v2 e2 v3 e3 => ?_⟩
  · rw [if_pos c] at h; exact sp_nz49 h
  · rw [if_neg c] at h; rw [e2, e3]; exact sp_nz49 h
theorem sp_ntz {σ : Hp} {x : Int32} {P : Int32 → Hp → Prop} (h : P (nzV x) σ) : wp_JI_numberOfTrailingZeros σ x P := by
  intro v10 e10
  unfold nzV at h
  rw [← e10] at h
  refine ⟨fun c => ⟨fun c2 => ?_, fun c2 v13 e13 v14 e14 => ?_⟩, fun c => ?_⟩
  · rw [if_pos c, if_pos c2] at h; exact sp_nz34 h
  · rw [if_pos c, if_neg c2] at h; rw [e13, e14]; exact sp_nz34 h
  · rw [if_neg c] at h; exact h
theorem nz_one : ∀ a, a < 12 → nzV (nI (2 ^ a)) = nI a ∧ fb_ct (fun i => (2 ^ a).testBit i) 32 = 1 := by decide +kernel
theorem nz_two : ∀ a, a < 12 → ∀ b, b < 12 → a < b → nzV (nI (2 ^ a ||| 2 ^ b)) = nI a ∧ nzV (nI (2 ^ a ||| 2 ^ b) &&& (nI (2 ^ a ||| 2 ^ b) - 1)) = nI b ∧ fb_ct (fun i => (2 ^ a ||| 2 ^ b).testBit i) 32 = 2 := by decide +kernel
theorem sp_P_drop {σ : Hp} {α : Abs} {d x : Int32} {P : Int32 → Hp → Prop} (hw : WF α) (hC : RC σ α) (h1 : ∀ day ρ, day < 30 → d = nI day → isM x → RC ρ α → P (drX (drA α day) x) ρ) (h0 : ¬ (isD d 30 ∧ isM x) → P (-2) σ) : wp_P_drop σ d x P := by
  refine sp_P_isDay (fun q0 => br_f one0 ⟨fun c => h0 (fun z => (isM_le z.2).1 c), fun c => ⟨fun c2 => ?_, fun c2 => h0 (fun z => c2 (isM_le z.2).2)⟩⟩) (fun q => br_t rfl (h0 (fun z => q z.1)))
  obtain ⟨day, hd, rfl⟩ := q0
  have hx := isM_of c c2
  refine sp_P_fewestDropped hw hC hd (fun ρ hB => ?_)
  have h := h1 day ρ hd rfl hx (hC.fr (hB.mono (by decide)))
  have hok := drA_ok hw day
  generalize drA α day = r at h hok ⊢
  obtain ⟨c, a, b⟩ := r
  have hc : c ≤ 3 := hok.1
  have ha : c = 1 → a < 12 := hok.2.1
  have hb : c = 2 → a < b ∧ b < 12 := hok.2.2
  have z1 : ¬ (0 : Int32) = -1 := by decide
  have z2 : ¬ (1 : Int32) = -1 := by decide
  rcases (show c = 0 ∨ c = 1 ∨ c = 2 ∨ c = 3 by omega) with rfl | rfl | rfl | rfl
  · refine br_nt (show ¬ (0 : Int32) = -1 by decide) (sp_bitCount (w := 0) (by decide) ?_)
    have e0 : fb_ct (fun i => (0 : Nat).testBit i) 32 = 0 := by decide +kernel
    rw [e0]
    rcases hx with rfl | rfl | rfl
    · exact br_nf rfl h
    · exact br_nt z1 (br_f (by decide) h)
    · exact br_nt z2 (br_f (by decide) h)
  · have ha := ha rfl
    obtain ⟨n1, n2⟩ := nz_one a ha
    have hlt : 2 ^ a < 2 ^ 12 := Nat.pow_lt_pow_right (by decide) ha
    refine br_nt (show ¬ nI (2 ^ a) = -1 from m1_ne (by omega)) (sp_bitCount (w := 2 ^ a) (by omega) ?_)
    rw [n2]
    rcases hx with rfl | rfl | rfl
    · exact br_nf rfl h
    · refine br_nt z1 (br_t (by decide) (br_nf rfl (sp_ntz ?_)))
      show P (nzV (nI (2 ^ a))) ρ
      rw [n1]; exact h
    · exact br_nt z2 (br_f (by decide) h)
  · obtain ⟨hab, hb⟩ := hb rfl
    obtain ⟨n1, n2, n3⟩ := nz_two a (by omega) b hb hab
    have hlt : 2 ^ a ||| 2 ^ b < 2 ^ 12 := Nat.or_lt_two_pow (Nat.pow_lt_pow_right (by decide) (by omega)) (Nat.pow_lt_pow_right (by decide) (by omega))
    refine br_nt (show ¬ nI (2 ^ a ||| 2 ^ b) = -1 from m1_ne (by omega)) (sp_bitCount (w := 2 ^ a ||| 2 ^ b) (by omega) ?_)
    rw [n3]
    rcases hx with rfl | rfl | rfl
    · exact br_nf rfl h
    · refine br_nt z1 (br_t (by decide) (br_nf rfl (sp_ntz ?_)))
      show P (nzV (nI (2 ^ a ||| 2 ^ b))) ρ
      rw [n1]; exact h
    · refine br_nt z2 (br_t (by decide) (br_nt one0 (sp_ntz ?_)))
      show P (nzV (nI (2 ^ a ||| 2 ^ b) &&& (nI (2 ^ a ||| 2 ^ b) - 1))) ρ
      rw [n2]; exact h
  · refine br_nf rfl ?_
    rcases hx with rfl | rfl | rfl <;> exact h
theorem sp_R_inM {τ : Hp} {x : Int32} {P : Int32 → Hp → Prop} (h1 : isM x → P 1 τ) (h0 : ¬ isM x → P 0 τ) : wp_R_in τ x (-1) 1 P :=
  ⟨fun c => h0 (fun z => (isM_le z).1 c), fun c => ⟨fun c2 => h0 (fun z => absurd (isM_le z).2 (Int32.not_le.mpr c2)), fun c2 => h1 (isM_of c (Int32.not_lt.mp c2))⟩⟩
theorem h_drop : H_drop Rel := by
  intro σ τ x1 x2 hrel
  obtain ⟨α, hw, hC, hR⟩ := hrel
  refine sp_P_drop hw hC (fun day ρ hd e q2 hC2 => ?_) (fun n => ?_)
  · exact sp_R_isDay (fun _ => br_f one0 (sp_R_inM (fun _ => br_f one0 (by rw [e]; exact sp_R_dropBy hw hR hd (fun ρ2 hT2 hrow => sp_R_ofRow (drA_ok hw day) hrow q2 ⟨rfl, α, hw, hC2, hT2.1⟩))) (fun z => absurd q2 z))) (fun z => absurd ⟨day, hd, e⟩ z)
  · exact sp_R_isDay (fun q1 => br_f one0 (sp_R_inM (fun q2 => absurd ⟨q1, q2⟩ n) (fun _ => br_t rfl ⟨rfl, α, hw, hC, hR⟩))) (fun _ => br_t rfl ⟨rfl, α, hw, hC, hR⟩)
