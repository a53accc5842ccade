/-! fair; what was seen: leaked, never -/
def frF (f : Nat → Int32) (v : Nat) (s : Int32 × Int32) : Int32 × Int32 := if f v = 0 then s else if s.1 = -1 ∨ f v < s.2 then (nI v, f v) else s
def frV (f : Nat → Int32) : Int32 × Int32 := itr (frF f) 0 10 (-1, -1)
def frf (α : Abs) (last kd v : Nat) : Int32 := coinV (balI (ctU α (stU α (hM α) (upN (rT α) kd v) (aW α)) T1 (cld α)) last) (nH α)
def frA (α : Abs) (last kd : Nat) (x : Int32) : Int32 := if x = 0 then (frV (frf α last kd)).1 else (frV (frf α last kd)).2
theorem fr_r {α : Abs} {kd v : Nat} (hv : v < 10) : ∀ k, k < 3 → upN (rT α) kd v k ≤ 9 := by
  intro k hk
  unfold upN
  split
  · omega
  · exact rT_le k
theorem WD_fr {α : Abs} (hw : WF α) {kd v : Nat} (hv : v < 10) (T : Nat → Bool) (C : Nat → Nat → Bool) : WD (ctU α (stU α (hM α) (upN (rT α) kd v) (aW α)) T C) := WD_ctU hw _ _ _ (fun i hi => hM_le hi) (fr_r hv) _ _
theorem sp_P_fairL {σ : Hp} {α : Abs} {last kd : Nat} {x : Int32} {P : Int32 → Hp → Prop} (hw : WF α) (hC : RC σ α) (hl : last < 30) (hk : kd < 3) (h1 : ∀ ρ, RC ρ α → P (frA α last kd x) ρ) : j_P_fair_46 P σ (nI last) (nI kd) x (σ 25 kd) (-1) (-1) 0 := by
  have hH := nH_le hw
  have hS := StC_of hw hC.2.1.1 hC.2.1.2.1 hC.2.1.2.2.1
  intro I hI
  have key : ∀ (m v : Nat) (s : Int32 × Int32) (ρ : Hp), v + m = 10 → Bt [16, 17, 25] σ ρ → (∀ i, i ≠ kd → ρ 25 i = σ 25 i) → itr (frF (frf α last kd)) v m s = frV (frf α last kd) → I ρ (nI last) (nI kd) x (σ 25 kd) s.1 s.2 (nI v) := by
    intro m
    induction m with
    | zero =>
      intro v s ρ hv hB hi hs
      have : v = 10 := by omega
      subst this
      have hs : s = frV (frf α last kd) := hs
      subst hs
      apply hI
      unfold b_P_fair_46_
      rw [ixn (show kd < 2 ^ 31 by omega)]
      have hB3 : Bt [16, 17] σ (st ρ 25 kd (σ 25 kd)) := by
        intro o ho
        by_cases e : o = 25
        · subst e
          rw [st_at]
          funext i
          unfold upd
          by_cases e2 : i = kd
          · rw [if_pos e2, e2]
          · rw [if_neg e2]; exact hi i e2
        · rw [st_ne _ _ _ e, hB o (by simp at ho ⊢; omega)]
      refine pk_le 10 10 (fun _ => ⟨pk_in kd 3 hk, sp_price0 hw hC hB3 (fun ρ2 hC2 => ?_)⟩) (fun c => absurd c (by omega))
      have h1 := h1 ρ2 hC2
      unfold frA at h1
      exact ⟨fun c => by rw [if_neg c] at h1; exact h1, fun c => by rw [if_pos c] at h1; exact h1⟩
    | succ m ih =>
      intro v s ρ hv hB hi hs
      have ih := fun s' ρ' => ih (v + 1) s' ρ' (by omega)
      have hs : itr (frF (frf α last kd)) (v + 1) m (frF (frf α last kd) v s) = frV (frf α last kd) := hs
      unfold frF at hs
      apply hI
      unfold b_P_fair_46_
      rw [ixn (show kd < 2 ^ 31 by omega)]
      refine pk_le 10 v (fun c => absurd c (by omega)) (fun _ => ⟨pk_in kd 3 hk, ?_⟩)
      have hS3 : StC (st ρ 25 kd (nI v)) (nH α) (hK α) (hM α) (hJ α) (upN (rT α) kd v) (aW α) := by
        obtain ⟨a1, a2, a3, a4⟩ := hS
        refine ⟨⟨a1.1, ?_⟩, ?_, fun k hk2 => ?_, ?_⟩
        · rw [st_ne _ _ _ (by decide), hB 4 (by decide)]; exact a1.2
        · rw [st_ne _ _ _ (by decide), st_ne _ _ _ (by decide), st_ne _ _ _ (by decide), hB 21 (by decide), hB 22 (by decide), hB 23 (by decide)]; exact a2
        · rw [st_at]; unfold upd upN
          by_cases e : k = kd
          · rw [if_pos e, if_pos e]
          · rw [if_neg e, if_neg e, hi k e]; exact a3 k hk2
        · rw [st_ne _ _ _ (by decide), hB 26 (by decide)]; exact a4
      refine sp_price hw hC hS3 ((hB.mono (by decide)).st (by decide)) (fun ρ2 hB2 hP2 => ?_)
      refine sp_D_coinDue (γ := ctU α (stU α (hM α) (upN (rT α) kd v) (aW α)) T1 (cld α)) (WD_fr hw (by omega) _ _) (hP2 T1) (fun _ _ => rfl) hl (fun ρ3 hB3 => ?_)
      have hB4 : Bt [16, 17, 25] σ ρ3 := by
        intro o ho
        simp at ho
        rw [hB3 o (by simp; omega), hB2 o (by simp; omega), st_ne _ _ _ (by omega), hB o (by simp; omega)]
      have hi4 : ∀ i, i ≠ kd → ρ3 25 i = σ 25 i := by
        intro i e
        rw [hB3 25 (by decide), hB2 25 (by decide), st_at]; unfold upd
        rw [if_neg e]; exact hi i e
      refine ⟨fun c v12 e12 => ?_, fun c => ?_⟩
      · have c : frf α last kd v = 0 := c
        rw [if_pos c] at hs
        rw [e12, show nI v + 1 = nI (v + 1) from nI_1 v]
        exact ih _ _ hB4 hi4 hs
      · have c : ¬ frf α last kd v = 0 := c
        rw [if_neg c] at hs
        have yes : (s.1 = -1 ∨ frf α last kd v < s.2) → ∀ v' : Int32, v' = nI v + 1 → I ρ3 (nI last) (nI kd) x (σ 25 kd) (nI v) (frf α last kd v) v' := by
          intro c2 v' e'
          rw [if_pos c2] at hs
          rw [e', show nI v + 1 = nI (v + 1) from nI_1 v]
          exact ih _ _ hB4 hi4 hs
        refine ⟨fun c2 => yes (Or.inl c2), fun c2 => ⟨fun c3 => yes (Or.inr c3), fun c3 v' e' => ?_⟩⟩
        have no : ¬ (s.1 = -1 ∨ frf α last kd v < s.2) := fun z => z.elim c2 c3
        rw [if_neg no] at hs
        rw [e', show nI v + 1 = nI (v + 1) from nI_1 v]
        exact ih _ _ hB4 hi4 hs
  exact key 10 0 (-1, -1) σ rfl (Bt.rf _ _) (fun _ _ => rfl) rfl
theorem sp_P_fair {σ : Hp} {α : Abs} {d a x : Int32} {P : Int32 → Hp → Prop} (hw : WF α) (hC : RC σ α) (h1 : ∀ last kd ρ, last < 30 → kd < 3 → d = nI last → a = nI kd → isD x 2 → RC ρ α → P (frA α last kd x) ρ) (h0 : ¬ (isD d 30 ∧ isD a 3 ∧ isD x 2) → P (-2) σ) : wp_P_fair σ d a x P := by
  refine sp_P_isDay (fun q0 => br_f one0 ?_) (fun q => br_t rfl (h0 (fun z => q z.1)))
  refine sp_P_isKind (fun q1 => br_f one0 ?_) (fun q => br_t rfl (h0 (fun z => q z.2.1)))
  obtain ⟨last, hl, rfl⟩ := q0
  obtain ⟨kd, hk, rfl⟩ := q1
  have go : isD x 2 → j_P_fair_26 P σ (nI last) (nI kd) x := by
    intro q
    refine ⟨pk_in kd 3 hk, fun v19 e19 => ?_⟩
    rw [ixn (by omega)] at e19
    subst e19
    exact sp_P_fairL hw hC hl hk (fun ρ hC2 => h1 last kd ρ hl hk rfl rfl q hC2)
  refine ⟨fun c => go ⟨0, by decide, c⟩, fun c => ⟨fun c2 => go ⟨1, by decide, c2⟩, fun c2 => h0 ?_⟩⟩
  rintro ⟨-, -, k, hk, e⟩
  rcases (show k = 0 ∨ k = 1 by omega) with rfl | rfl
  · exact c e
  · exact c2 e
theorem sp_R_fairOf {τ : Hp} {α : Abs} {last kd : Nat} {x : Int32} {P : Int32 → Hp → Prop} (hw : WF α) (hR : RR τ α) (hl : last < 30) (hk : kd < 3) (h1 : ∀ ρ, RR ρ α → Rd ρ α → P (frA α last kd x) ρ) : wp_R_fairOf τ (nI last) (nI kd) x P := by
  have hH := nH_le hw
  refine sp_R_asTold hw hR (fun τ0 hT e17 => ⟨pk_in kd 3 hk, fun v19 e19 => ?_⟩)
  have hSR := StR_of hw hT.1 hT.2.1
  rw [ixn (by omega)] at e19
  intro I hI
  have key : ∀ (m v : Nat) (s : Int32 × Int32) (ρ : Hp), v + m = 10 → Bt [7, 15, 16, 17] τ0 ρ → (∀ i, i ≠ kd → ρ 7 i = τ0 7 i) → itr (frF (frf α last kd)) v m s = frV (frf α last kd) → I ρ (nI last) (nI kd) x s.1 s.2 v19 (nI v) := by
    intro m
    induction m with
    | zero =>
      intro v s ρ hv hB hi hs
      have : v = 10 := by omega
      subst this
      have hs : s = frV (frf α last kd) := hs
      subst hs
      apply hI
      unfold b_R_fairOf_21_
      rw [ixn (show kd < 2 ^ 31 by omega)]
      have hB3 : Bt [15, 16, 17] τ0 (st ρ 7 kd v19) := by
        intro o ho
        by_cases e : o = 7
        · subst e
          rw [st_at]
          funext i
          unfold upd
          by_cases e2 : i = kd
          · rw [if_pos e2, e2, e19]
          · rw [if_neg e2]; exact hi i e2
        · rw [st_ne _ _ _ e, hB o (by simp at ho ⊢; omega)]
      have hT2 := hT.fr (hB3.mono (by decide))
      have h1 := h1 _ hT2.1 hT2.2.1
      unfold frA at h1
      exact pk_le 10 10 (fun _ => ⟨pk_in kd 3 hk, fun c => by rw [if_neg c] at h1; exact h1, fun c => by rw [if_pos c] at h1; exact h1⟩) (fun c => absurd c (by omega))
    | succ m ih =>
      intro v s ρ hv hB hi hs
      have ih := fun s' ρ' => ih (v + 1) s' ρ' (by omega)
      have hs : itr (frF (frf α last kd)) (v + 1) m (frF (frf α last kd) v s) = frV (frf α last kd) := hs
      unfold frF at hs
      have hv10 : v < 10 := by omega
      apply hI
      unfold b_R_fairOf_21_
      rw [ixn (show kd < 2 ^ 31 by omega)]
      refine pk_le 10 v (fun c => absurd c (by omega)) (fun _ => ⟨pk_in kd 3 hk, ?_⟩)
      have hS3 : StR (st ρ 7 kd (nI v)) (nH α) (hK α) (hM α) (hJ α) (upN (rT α) kd v) (aW α) := by
        obtain ⟨a1, a2, a3, a4⟩ := hSR
        refine ⟨⟨a1.1, ?_⟩, ?_, fun k hk2 => ?_, ?_⟩
        · rw [st_ne _ _ _ (by decide), hB 0 (by decide)]; exact a1.2
        · rw [st_ne _ _ _ (by decide), st_ne _ _ _ (by decide), st_ne _ _ _ (by decide), hB 3 (by decide), hB 4 (by decide), hB 5 (by decide)]; exact a2
        · rw [st_at]; unfold upd upN
          by_cases e : k = kd
          · rw [if_pos e, if_pos e]
          · rw [if_neg e, if_neg e, hi k e]; exact a3 k hk2
        · rw [st_ne _ _ _ (by decide), hB 8 (by decide)]; exact a4
      have hkk : RRk (st ρ 7 kd (nI v)) α := by
        unfold RRk
        rw [st_ne _ _ _ (by decide), st_ne _ _ _ (by decide), st_ne _ _ _ (by decide), st_ne _ _ _ (by decide), hB 0 (by decide), hB 9 (by decide), hB 10 (by decide), hB 11 (by decide)]
        exact hT.1.2.2.1
      have hwd := WD_fr hw (kd := kd) hv10 T1 (cld α)
      refine sp_R_laysU (dr := 0) (T := T1) (C := cld α) hw (fun i hi => hM_le hi) (fr_r hv10) hS3 hkk ⟨?_, by decide, fun k _ => by simp⟩ (fun y d hy hd => ?_) (fun ρ2 hB2 hP2 => ?_)
      · rw [st_ne _ _ _ (by decide), hB 0 (by decide)]; exact e17
      · rw [st_ne _ _ _ (by decide), hB 14 (by decide)]; exact hT.2.2 y d hy hd
      refine sp_R_coinNow (γ := ctU α (stU α (hM α) (upN (rT α) kd v) (aW α)) T1 (cld α)) hwd hP2 hl (fun ρ3 hB3 => ?_)
      have hB4 : Bt [7, 15, 16, 17] τ0 ρ3 := by
        intro o ho
        simp at ho
        rw [hB3 o (by simp; omega), hB2 o (by simp; omega), st_ne _ _ _ (by omega), hB o (by simp; omega)]
      have hi4 : ∀ i, i ≠ kd → ρ3 7 i = τ0 7 i := by
        intro i e
        rw [hB3 7 (by decide), hB2 7 (by decide), st_at]; unfold upd
        rw [if_neg e]; exact hi i e
      have hpos : 0 ≤ (frf α last kd v).toInt := coin_pos (n := nH α) hH (fun k _ => by
        have := bal_Ubound hwd last k
        omega)
      have yes : (¬ frf α last kd v = 0 ∧ (s.1 = -1 ∨ frf α last kd v < s.2)) → j_R_fairOf_65 P I ρ3 (nI last) (nI kd) x s.1 s.2 v19 (nI v) (frf α last kd v) := by
        intro c2
        rw [if_neg c2.1, if_pos c2.2] at hs
        refine br_f one0 (br_f one0 (fun v' e' => ?_))
        rw [e', show nI v + 1 = nI (v + 1) from nI_1 v]
        exact ih _ _ hB4 hi4 hs
      have no : itr (frF (frf α last kd)) (v + 1) m s = frV (frf α last kd) → j_R_fairOf_69 P I ρ3 (nI last) (nI kd) x s.1 s.2 v19 (nI v) (frf α last kd v) := by
        intro hs
        refine br_t rfl (br_t rfl (fun v' e' => ?_))
        rw [e', show nI v + 1 = nI (v + 1) from nI_1 v]
        exact ih _ _ hB4 hi4 hs
      have e0 : (0 : Int32).toInt = 0 := by decide
      refine ⟨fun c => ?_, fun c => ?_⟩
      · have c : frf α last kd v ≤ 0 := c
        have c0 : frf α last kd v = 0 := by
          rw [Int32.le_iff_toInt_le] at c
          rw [← Int32.toInt_inj]; omega
        rw [if_pos c0] at hs
        exact no hs
      · have c : ¬ frf α last kd v ≤ 0 := c
        have c0 : ¬ frf α last kd v = 0 := by
          intro z
          rw [z] at c
          exact c (by decide)
        refine ⟨fun c2 => yes ⟨c0, Or.inl c2⟩, fun c2 => ⟨fun c3 => ?_, fun c3 => yes ⟨c0, Or.inr (Int32.not_le.mp c3)⟩⟩⟩
        have nn : ¬ (s.1 = -1 ∨ frf α last kd v < s.2) := fun z => z.elim c2 (Int32.not_lt.mpr c3)
        rw [if_neg c0, if_neg nn] at hs
        exact no hs
  exact key 10 0 (-1, -1) τ0 rfl (Bt.rf _ _) (fun _ _ => rfl) rfl
theorem h_fair : H_fair Rel := by
  intro σ τ x1 x2 x3 hrel
  obtain ⟨α, hw, hC, hR⟩ := hrel
  refine sp_P_fair hw hC (fun last kd ρ hl hk e1 e2 q3 hC2 => ?_) (fun n => ?_)
  · exact sp_R_isDay (fun _ => br_f one0 (sp_R_in 2 rfl (by decide) (fun _ => br_f one0 (sp_R_in 1 rfl (by decide) (fun _ => br_f one0 (by rw [e1, e2]; exact sp_R_fairOf hw hR hl hk (fun ρ3 hR3 _ => ⟨rfl, α, hw, hC2, hR3⟩))) (fun z => absurd q3 z))) (fun z => absurd ⟨kd, hk, e2⟩ z))) (fun z => absurd ⟨last, hl, e1⟩ z)
  · exact sp_R_isDay (fun q1 => br_f one0 (sp_R_in 2 rfl (by decide) (fun q2 => br_f one0 (sp_R_in 1 rfl (by decide) (fun q3 => absurd ⟨q1, q2, q3⟩ n) (fun _ => br_t rfl ⟨rfl, α, hw, hC, hR⟩))) (fun _ => br_t rfl ⟨rfl, α, hw, hC, hR⟩))) (fun _ => br_t rfl ⟨rfl, α, hw, hC, hR⟩)
-- what was seen
def allF (f : Nat → Bool) : Nat → Nat → Bool
  | _, 0 => true
  | lo, n + 1 => if f lo = true then allF f (lo + 1) n else false
def sawF (γ : Dc) (α : Abs) (k : Nat) : Bool := decide (aEh α k < nH α) && decide (balI γ (aEd α k) (aEh α k) = aEm α k)
def seenV (γ : Dc) (α : Abs) : Bool := allF (sawF γ α) 0 (aE α)
theorem sp_M_comesOut {σ : Hp} {α : Abs} {γ : Dc} {l : Nat} {P : Int32 → Hp → Prop} (hw : WF α) (hwd : WD γ) (hP : PC σ γ) (hE : RCe σ α) (hH : gH γ = nH α) (hL : BtL γ l) (h1 : seenV γ α = true → P 1 σ) (h0 : seenV γ α = false → P 0 σ) : wp_M_comesOut σ (nI l) P := by
  have hEb := hw.2.2.2.2.1
  have hE8 := hEb.1
  have hH8 := nH_le hw
  have e46 : σ 4 6 = nI (nH α) := by rw [← hH]; exact hP.1.1
  intro I hI
  have key : ∀ m k, k + m = aE α → seenV γ α = allF (sawF γ α) k m → I σ (nI l) (nI k) := by
    intro m
    induction m with
    | zero =>
      intro k hk hs
      have : k = aE α := by omega
      subst this
      apply hI
      unfold b_M_comesOut_2_
      rw [hE.1]
      exact pk_le (aE α) (aE α) (fun _ => h1 hs) (fun c => absurd c (by omega))
    | succ m ih =>
      intro k hk hs
      have ih := ih (k + 1) (by omega)
      have hs : seenV γ α = if sawF γ α k = true then allF (sawF γ α) (k + 1) m else false := hs
      obtain ⟨f1, f2, f3⟩ := hE.2 k (by omega)
      obtain ⟨b1, b2⟩ := hEb.2 k (by omega)
      have bad : sawF γ α k = false → P 0 σ := fun e => h0 (by rw [hs, e, if_neg (by simp)])
      apply hI
      unfold b_M_comesOut_2_
      rw [hE.1, ixn (show k < 2 ^ 31 by omega), f1, f2, e46]
      refine pk_le (aE α) k (fun c => absurd c (by omega)) (fun _ => ⟨pk_in k 8 (by omega), ?_⟩)
      refine pk_lt (aEh α k) (nH α) (fun c => ⟨pk_in k 8 (by omega), pk_in k 8 (by omega), ?_⟩) (fun c => bad ?_)
      · refine sp_D_balanceOf hwd hP hL b1 (by rw [hH]; exact c) ⟨pk_in k 8 (by omega), ?_⟩
        rw [f3]
        refine ⟨fun c2 v e => ?_, fun c2 => bad ?_⟩
        · rw [e, show nI k + 1 = nI (k + 1) from nI_1 k]
          refine ih ?_
          rw [hs, if_pos]
          unfold sawF
          rw [decide_eq_true c, Bool.true_and]
          exact decide_eq_true c2
        · unfold sawF
          rw [decide_eq_true c, Bool.true_and]
          exact decide_eq_false c2
      · unfold sawF
        rw [decide_eq_false (by omega), Bool.false_and]
  exact key (aE α) 0 (by omega) rfl
theorem sp_R_seen8 {τ : Hp} {α : Abs} {γ : Dc} {P : Int32 → Hp → Prop} (hw : WF α) (hwd : WD γ) (hP : PR τ γ) (hE : RRe τ α) (hH : gH γ = nH α) (h1 : seenV γ α = true → P 1 τ) (h0 : seenV γ α = false → P 0 τ) : j_R_isSeen_8 P τ 1 0 := by
  have hEb := hw.2.2.2.2.1
  have hE8 := hEb.1
  have hH8 := nH_le hw
  have e02 : τ 0 2 = nI (nH α) := by rw [← hH]; exact hP.1
  intro I hI
  have stop : ∀ k, k ≤ aE α → seenV γ α = false → I τ 0 (nI k) := by
    intro k hk e
    apply hI
    unfold b_R_isSeen_8_
    rw [hE.1]
    exact pk_le (aE α) k (fun _ => ⟨z0, h0 e⟩) (fun _ => br_t rfl ⟨z0, h0 e⟩)
  have key : ∀ m k, k + m = aE α → seenV γ α = allF (sawF γ α) k m → I τ 1 (nI k) := by
    intro m
    induction m with
    | zero =>
      intro k hk hs
      have : k = aE α := by omega
      subst this
      apply hI
      unfold b_R_isSeen_8_
      rw [hE.1]
      exact pk_le (aE α) (aE α) (fun _ => ⟨z1, h1 hs⟩) (fun c => absurd c (by omega))
    | succ m ih =>
      intro k hk hs
      have ih := ih (k + 1) (by omega)
      have hs : seenV γ α = if sawF γ α k = true then allF (sawF γ α) (k + 1) m else false := hs
      obtain ⟨f1, f2, f3⟩ := hE.2 k (by omega)
      obtain ⟨b1, b2⟩ := hEb.2 k (by omega)
      have bad : sawF γ α k = false → ∀ v : Int32, v = nI k + 1 → I τ 0 v := fun e v ev => by
        rw [ev, show nI k + 1 = nI (k + 1) from nI_1 k]
        exact stop (k + 1) (by omega) (by rw [hs, e, if_neg (by simp)])
      apply hI
      unfold b_R_isSeen_8_
      rw [hE.1, ixn (show k < 2 ^ 31 by omega), f1, f2, e02]
      refine pk_le (aE α) k (fun c => absurd c (by omega)) (fun _ => br_f one0 ⟨pk_in k 8 (by omega), ?_⟩)
      refine pk_le (nH α) (aEh α k) (fun c => bad ?_) (fun c => ⟨pk_in k 8 (by omega), pk_in k 8 (by omega), ?_⟩)
      · unfold sawF
        rw [decide_eq_false (by omega), Bool.false_and]
      · refine sp_R_balanceNow hwd hP b1 (by rw [hH]; exact c) ⟨pk_in k 8 (by omega), ?_⟩
        rw [f3]
        refine ⟨fun c2 => bad ?_, fun c2 v e => ?_⟩
        · unfold sawF
          rw [decide_eq_true c, Bool.true_and]
          exact decide_eq_false c2
        · rw [e, show nI k + 1 = nI (k + 1) from nI_1 k]
          refine ih ?_
          rw [hs, if_pos]
          unfold sawF
          rw [decide_eq_true c, Bool.true_and]
          exact decide_eq_true c2
  exact key (aE α) 0 (by omega) rfl
-- leaked
def lkc (α : Abs) (h v : Nat) : Dc := ctU α (stU α (upN (hM α) h v) (rT α) (aW α)) T1 (cld α)
def bitF (p : Nat → Bool) (k : Nat) (s : Nat) : Nat := if p k = true then s ||| 2 ^ k else s
def lkN (α : Abs) (h : Nat) : Nat := itr (bitF (fun v => seenV (lkc α h v) α)) 0 10 0
theorem lk_m {α : Abs} {h v : Nat} (hv : v < 10) : ∀ i, i < nH α → upN (hM α) h v i ≤ 9 := by
  intro i hi
  unfold upN
  split
  · omega
  · exact hM_le hi
theorem sp_P_leaked {σ : Hp} {α : Abs} {a : Int32} {P : Int32 → Hp → Prop} (hw : WF α) (hC : RC σ α) (h1 : ∀ h ρ, h < nH α → a = nI h → RC ρ α → P (nI (lkN α h)) ρ) (h0 : ¬ isD a (nH α) → P (-2) σ) : wp_P_leaked σ a P := by
  have hH := nH_le hw
  refine sp_P_isHouse hw hC.2.1.1 (fun q1 => br_nt one0 ?_) (fun q => br_nf rfl (h0 q))
  obtain ⟨h, hh, rfl⟩ := q1
  have hS := StC_of hw hC.2.1.1 hC.2.1.2.1 hC.2.1.2.2.1
  refine ⟨pk_in h 8 (by omega), fun v18 e18 => ?_⟩
  rw [ixn (by omega)] at e18
  refine sp_K_leadingOfAll (γ := ctA α) (WD_ctx hw _) (PC_ctx hC _) (fun _ _ => rfl) (fun l hL => ?_)
  intro I hI
  have key : ∀ (m v s : Nat) (ρ : Hp), v + m = 10 → Bt [17, 22] σ ρ → (∀ i, i ≠ h → ρ 22 i = σ 22 i) → itr (bitF (fun v => seenV (lkc α h v) α)) v m s = lkN α h → I ρ (nI h) v18 (nI l) (nI s) (nI v) := by
    intro m
    induction m with
    | zero =>
      intro v s ρ hv hB hi hs
      have : v = 10 := by omega
      subst this
      have hs : s = lkN α h := hs
      subst hs
      apply hI
      unfold b_P_leaked_35_
      rw [ixn (show h < 2 ^ 31 by omega)]
      have hB3 : Bt [16, 17] σ (st ρ 22 h v18) := by
        intro o ho
        by_cases e : o = 22
        · subst e
          rw [st_at]
          funext i
          unfold upd
          by_cases e2 : i = h
          · rw [if_pos e2, e2, e18]
          · rw [if_neg e2]; exact hi i e2
        · rw [st_ne _ _ _ e, hB o (by simp at ho ⊢; omega)]
      exact pk_le 10 10 (fun _ => ⟨pk_in h 8 (by omega), sp_price0 hw hC hB3 (fun ρ2 hC2 => h1 h ρ2 hh rfl hC2)⟩) (fun c => absurd c (by omega))
    | succ m ih =>
      intro v s ρ hv hB hi hs
      have ih := fun s' ρ' => ih (v + 1) s' ρ' (by omega)
      have hs : itr (bitF (fun v => seenV (lkc α h v) α)) (v + 1) m (bitF (fun v => seenV (lkc α h v) α) v s) = lkN α h := hs
      unfold bitF at hs
      have hv10 : v < 10 := by omega
      apply hI
      unfold b_P_leaked_35_
      rw [ixn (show h < 2 ^ 31 by omega)]
      refine pk_le 10 v (fun c => absurd c (by omega)) (fun _ => ⟨pk_in h 8 (by omega), ?_⟩)
      have hS3 : StC (st ρ 22 h (nI v)) (nH α) (hK α) (upN (hM α) h v) (hJ α) (rT α) (aW α) := by
        obtain ⟨a1, a2, a3, a4⟩ := hS
        refine ⟨⟨a1.1, ?_⟩, fun i hi2 => ?_, ?_, ?_⟩
        · rw [st_ne _ _ _ (by decide), hB 4 (by decide)]; exact a1.2
        · obtain ⟨b1, b2, b3⟩ := a2 i hi2
          refine ⟨?_, ⟨?_, lk_m hv10 i hi2⟩, ?_⟩
          · rw [st_ne _ _ _ (by decide), hB 21 (by decide)]; exact b1
          · rw [st_at]; unfold upd upN
            by_cases e : i = h
            · rw [if_pos e, if_pos e]
            · rw [if_neg e, if_neg e, hi i e]; exact b2.1
          · rw [st_ne _ _ _ (by decide), hB 23 (by decide)]; exact b3
        · rw [st_ne _ _ _ (by decide), hB 25 (by decide)]; exact a3
        · rw [st_ne _ _ _ (by decide), hB 26 (by decide)]; exact a4
      refine sp_price hw hC hS3 ((hB.mono (by decide)).st (by decide)) (fun ρ2 hB2 hP2 => ?_)
      have hB4 : Bt [17, 22] σ ρ2 := by
        intro o ho
        simp at ho
        rw [hB2 o (by simp; omega), st_ne _ _ _ (by omega), hB o (by simp; omega)]
      have hi4 : ∀ i, i ≠ h → ρ2 22 i = σ 22 i := by
        intro i e
        rw [hB2 22 (by decide), st_at]; unfold upd
        rw [if_neg e]; exact hi i e
      refine sp_M_comesOut (γ := lkc α h v) hw (WD_ctU hw _ _ _ (lk_m hv10) (fun k _ => rT_le k) _ _) (hP2 T1) (hC.2.2.2.1.bt hB4 (by simp; omega)) rfl (BtL_U hL) (fun q => br_f one0 (fun v12 e12 v13 e13 => ?_)) (fun q => br_t rfl (fun v11 e11 => ?_))
      · rw [if_pos q] at hs
        rw [e12, e13, i_bit v (by omega), i_or, show nI v + 1 = nI (v + 1) from nI_1 v]
        exact ih _ _ hB4 hi4 hs
      · rw [if_neg (show ¬ seenV (lkc α h v) α = true by rw [q]; simp)] at hs
        rw [e11, show nI v + 1 = nI (v + 1) from nI_1 v]
        exact ih _ _ hB4 hi4 hs
  exact key 10 0 0 σ rfl (Bt.rf _ _) (fun _ _ => rfl) rfl
theorem RRe.bt {τ ρ : Hp} {α : Abs} {cs : List Nat} (h : RRe τ α) (hB : Bt cs τ ρ) (hc : ∀ o, o = 0 ∨ (20 ≤ o ∧ o ≤ 22) → o ∉ cs) : RRe ρ α := by
  unfold RRe at *; rw [hB 0 (hc 0 (by omega)), hB 20 (hc 20 (by omega)), hB 21 (hc 21 (by omega)), hB 22 (hc 22 (by omega))]; exact h
theorem sp_R_leakedOf {τ : Hp} {α : Abs} {h : Nat} {P : Int32 → Hp → Prop} (hw : WF α) (hR : RR τ α) (hh : h < nH α) (h1 : ∀ ρ, RR ρ α → Rd ρ α → P (nI (lkN α h)) ρ) : wp_R_leakedOf τ (nI h) P := by
  have hH := nH_le hw
  refine sp_R_asTold hw hR (fun τ0 hT e17 => ⟨pk_in h 9 (by omega), fun v14 e14 => ?_⟩)
  have hSR := StR_of hw hT.1 hT.2.1
  rw [ixn (by omega)] at e14
  intro I hI
  have key : ∀ (m v s : Nat) (ρ : Hp), v + m = 10 → Bt [4, 15, 16] τ0 ρ → (∀ i, i ≠ h → ρ 4 i = τ0 4 i) → itr (bitF (fun v => seenV (lkc α h v) α)) v m s = lkN α h → I ρ (nI h) v14 (nI s) (nI v) := by
    intro m
    induction m with
    | zero =>
      intro v s ρ hv hB hi hs
      have : v = 10 := by omega
      subst this
      have hs : s = lkN α h := hs
      subst hs
      apply hI
      unfold b_R_leakedOf_16_
      rw [ixn (show h < 2 ^ 31 by omega)]
      have hB3 : Bt [15, 16] τ0 (st ρ 4 h v14) := by
        intro o ho
        by_cases e : o = 4
        · subst e
          rw [st_at]
          funext i
          unfold upd
          by_cases e2 : i = h
          · rw [if_pos e2, e2, e14]
          · rw [if_neg e2]; exact hi i e2
        · rw [st_ne _ _ _ e, hB o (by simp at ho ⊢; omega)]
      have hT2 := hT.fr (hB3.mono (by decide))
      exact pk_le 10 10 (fun _ => ⟨pk_in h 9 (by omega), h1 _ hT2.1 hT2.2.1⟩) (fun c => absurd c (by omega))
    | succ m ih =>
      intro v s ρ hv hB hi hs
      have ih := fun s' ρ' => ih (v + 1) s' ρ' (by omega)
      have hs : itr (bitF (fun v => seenV (lkc α h v) α)) (v + 1) m (bitF (fun v => seenV (lkc α h v) α) v s) = lkN α h := hs
      unfold bitF at hs
      have hv10 : v < 10 := by omega
      apply hI
      unfold b_R_leakedOf_16_
      rw [ixn (show h < 2 ^ 31 by omega)]
      refine pk_le 10 v (fun c => absurd c (by omega)) (fun _ => ⟨pk_in h 9 (by omega), ?_⟩)
      have hS3 : StR (st ρ 4 h (nI v)) (nH α) (hK α) (upN (hM α) h v) (hJ α) (rT α) (aW α) := by
        obtain ⟨a1, a2, a3, a4⟩ := hSR
        refine ⟨⟨a1.1, ?_⟩, fun i hi2 => ?_, ?_, ?_⟩
        · rw [st_ne _ _ _ (by decide), hB 0 (by decide)]; exact a1.2
        · obtain ⟨b1, b2, b3⟩ := a2 i hi2
          refine ⟨?_, ⟨?_, lk_m hv10 i hi2⟩, ?_⟩
          · rw [st_ne _ _ _ (by decide), hB 3 (by decide)]; exact b1
          · rw [st_at]; unfold upd upN
            by_cases e : i = h
            · rw [if_pos e, if_pos e]
            · rw [if_neg e, if_neg e, hi i e]; exact b2.1
          · rw [st_ne _ _ _ (by decide), hB 5 (by decide)]; exact b3
        · rw [st_ne _ _ _ (by decide), hB 7 (by decide)]; exact a3
        · rw [st_ne _ _ _ (by decide), hB 8 (by decide)]; exact a4
      have hkk : RRk (st ρ 4 h (nI v)) α := by
        unfold RRk
        rw [st_ne _ _ _ (by decide), st_ne _ _ _ (by decide), st_ne _ _ _ (by decide), st_ne _ _ _ (by decide), hB 0 (by decide), hB 9 (by decide), hB 10 (by decide), hB 11 (by decide)]
        exact hT.1.2.2.1
      refine sp_R_laysU (dr := 0) (T := T1) (C := cld α) hw (lk_m hv10) (fun k _ => rT_le k) hS3 hkk ⟨?_, by decide, fun k _ => by simp⟩ (fun y d hy hd => ?_) (fun ρ2 hB2 hP2 => ?_)
      · rw [st_ne _ _ _ (by decide), hB 0 (by decide)]; exact e17
      · rw [st_ne _ _ _ (by decide), hB 14 (by decide)]; exact hT.2.2 y d hy hd
      have hB4 : Bt [4, 15, 16] τ0 ρ2 := by
        intro o ho
        simp at ho
        rw [hB2 o (by simp; omega), st_ne _ _ _ (by omega), hB o (by simp; omega)]
      have hi4 : ∀ i, i ≠ h → ρ2 4 i = τ0 4 i := by
        intro i e
        rw [hB2 4 (by decide), st_at]; unfold upd
        rw [if_neg e]; exact hi i e
      refine sp_R_seen8 (γ := lkc α h v) hw (WD_ctU hw _ _ _ (lk_m hv10) (fun k _ => rT_le k) _ _) hP2 (RRe.bt (α := α) hT.1.2.2.2.2.1 hB4 (by simp; omega)) rfl (fun q => br_f one0 (fun v9 e9 v10 e10 => ?_)) (fun q => br_t rfl (fun v7 e7 v8 e8 => ?_))
      · rw [if_pos q] at hs
        rw [e9, e10, i_bit v (by omega), i_or, show nI v + 1 = nI (v + 1) from nI_1 v]
        exact ih _ _ hB4 hi4 hs
      · rw [if_neg (show ¬ seenV (lkc α h v) α = true by rw [q]; simp)] at hs
        rw [e7, e8, show nI v + 1 = nI (v + 1) from nI_1 v, show (0 : Int32) = nI 0 from rfl, i_or, Nat.or_zero]
        exact ih _ _ hB4 hi4 hs
  exact key 10 0 0 τ0 rfl (Bt.rf _ _) (fun _ _ => rfl) rfl
theorem h_leaked : H_leaked Rel := by
  intro σ τ x1 hrel
  obtain ⟨α, hw, hC, hR⟩ := hrel
  refine sp_P_leaked hw hC (fun h ρ hh e hC2 => ?_) (fun n => ?_)
  · exact sp_R_isHouse hw hR.1 (fun ρ2 hB hd _ => br_f one0 (by rw [e]; exact sp_R_leakedOf hw (hR.ps hB.ps) hh (fun ρ3 hR3 _ => ⟨rfl, α, hw, hC2, hR3⟩))) (fun _ _ _ z => absurd ⟨h, hh, e⟩ z)
  · exact sp_R_isHouse hw hR.1 (fun ρ2 hB hd q => absurd q n) (fun ρ2 hB _ _ => br_t rfl ⟨rfl, α, hw, hC, hR.ps hB.ps⟩)
