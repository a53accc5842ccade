/-! what comes through, a day's due, the prices of suits: the class -/
def StC (σ : Hp) (H : Nat) (kd mu en rt w : Nat → Nat) : Prop := (H ≤ 8 ∧ σ 4 6 = nI H) ∧ (∀ i, i < H → (σ 21 i = nI (kd i) ∧ kd i < 4) ∧ (σ 22 i = nI (mu i) ∧ mu i ≤ 9) ∧ (σ 23 i = nI (en i) ∧ en i < 4)) ∧ (∀ k, k < 3 → σ 25 k = nI (rt k)) ∧ ∀ i, i < 7 → σ 26 i = nI (w i) ∧ w i < 10
def stN (w : Nat → Nat) (kd lo n : Nat) : Nat := if kd = 0 then 2 * (n - 1) + sumN w lo n else if kd = 1 then (n - 1) + sumN (fun i => w i / 2) lo n else if kd = 2 then (if n - 1 = 0 ∧ sumN w lo n = 0 then 0 else 9) else 9
theorem sumN_le {f : Nat → Nat} {lo c : Nat} : ∀ n, (∀ i, i < n → f (lo + i) ≤ c) → sumN f lo n ≤ n * c := by
  intro n
  induction n with
  | zero => intro _; simp [sumN]
  | succ n ih =>
    intro h
    have h1 := ih (fun i hi => h i (by omega))
    have h2 := h n (by omega)
    show sumN f lo n + f (lo + n) ≤ (n + 1) * c
    rw [Nat.succ_mul]; omega
theorem nI_toI {n : Nat} (h : n < 2 ^ 31) : (nI n).toInt = (n : Int) := nI_toInt h
theorem sp_U_stopped {σ : Hp} {kd lo hi : Nat} {w : Nat → Nat} {P : Int32 → Hp → Prop} (hw : ∀ i, i < 7 → σ 26 i = nI (w i) ∧ w i < 10) (hkd : kd < 4) (hlh : lo < hi) (hhi : hi ≤ 7) (h : P (nI (stN w kd lo (hi - lo))) σ) : wp_U_stopped σ (nI kd) (nI lo) (nI hi) P := by
  intro v10 e10
  have e10 : v10 = nI (hi - lo - 1) := by rw [e10, pk_sub (by omega)]; exact pk_sub (b := 1) (by omega)
  subst e10
  intro I hI
  have key : ∀ m k, k + m = hi - lo → I σ (nI kd) (nI hi) (nI (hi - lo - 1)) (nI (sumN w lo k)) (nI (sumN (fun i => w i / 2) lo k)) (nI (lo + k)) := by
    intro m
    induction m with
    | zero =>
      intro k hk
      have hk2 : k = hi - lo := by omega
      subst hk2
      have s1 : sumN w lo (hi - lo) ≤ (hi - lo) * 9 := sumN_le _ (fun i hi2 => by have := (hw (lo + i) (by omega)).2; omega)
      have s2 : sumN (fun i => w i / 2) lo (hi - lo) ≤ (hi - lo) * 9 := sumN_le _ (fun i hi2 => by have := (hw (lo + i) (by omega)).2; omega)
      have s1' : sumN w lo (hi - lo) < 100 := by omega
      have s2' : sumN (fun i => w i / 2) lo (hi - lo) < 100 := by omega
      apply hI
      refine pk_le hi (lo + (hi - lo)) (fun _ => ?_) (fun c => absurd c (by omega))
      have ek : (nI kd).toInt = (kd : Int) := nI_toInt (by omega)
      have big : ∀ v : Int32, v = nI (stN w kd lo (hi - lo)) → P v σ := fun v e => by rw [e]; exact h
      unfold stN at big
      refine ⟨fun c => ?_, fun c => ?_, fun c => ?_, fun c => ?_⟩
      · rw [ek] at c
        apply big
        rw [if_neg (by omega), if_neg (by omega), if_neg (by omega)]; rfl
      · have : kd = 0 := (nI_eq (by omega) (by decide)).mp c
        apply big
        rw [if_pos this, show (2 : Int32) = nI 2 from rfl, pk_mul, nI_add]
      · have : kd = 1 := (nI_eq (by omega) (by decide)).mp c
        apply big
        rw [if_neg (by omega), if_pos this, nI_add]
      · have : kd = 2 := (nI_eq (by omega) (by decide)).mp c
        rw [if_neg (by omega), if_neg (by omega), if_pos this] at big
        refine pk_ne (hi - lo - 1) 0 (fun c2 => big _ (by rw [if_neg (fun z => c2 z.1)]; rfl)) (fun c2 => ?_)
        exact pk_ne (sumN w lo (hi - lo)) 0 (fun c3 => big _ (by rw [if_neg (fun z => c3 z.2)]; rfl)) (fun c3 => big _ (by rw [if_pos ⟨c2, c3⟩]; rfl))
    | succ m ih =>
      intro k hk
      have hk31 : lo + k < 2 ^ 31 := by omega
      apply hI
      refine pk_le hi (lo + k) (fun c => absurd c (by omega)) (fun _ => ⟨pk_in (lo + k) 7 (by omega), fun v6 e6 => ⟨pk_in (lo + k) 7 (by omega), fun v8 e8 v9 e9 => ?_⟩⟩)
      obtain ⟨w1, w2⟩ := hw (lo + k) (by omega)
      rw [ixn hk31, w1, nI_add] at e6
      rw [ixn hk31, w1, show nI (w (lo + k)) / 2 = nI (w (lo + k) / 2) from pk_div (d := 2) (by omega) (by omega) (by omega), nI_add] at e8
      rw [e6, e8, e9, show nI (lo + k) + 1 = nI (lo + (k + 1)) from nI_1 _]
      exact ih (k + 1) (by omega)
  exact key (hi - lo) 0 (by omega)
theorem thr_eq {w : Nat → Nat} {kd mu x y : Nat} (hmu : mu ≤ 9) : thrN w kd mu x y = mu - stN w kd (min x y) (max x y - min x y) := by
  unfold thrN stN
  by_cases h0 : kd = 0
  · simp [h0]
  · by_cases h1 : kd = 1
    · simp [h1]
    · by_cases h2 : kd = 2
      · simp only [h2, if_true]
        by_cases hc : max x y - min x y - 1 = 0 ∧ sumN w (min x y) (max x y - min x y) = 0
        · simp [hc]
        · simp [hc]; omega
      · simp [h0, h1, h2]; omega
theorem sp_U_comesThrough {σ : Hp} {x y kd mu : Nat} {w : Nat → Nat} {P : Int32 → Hp → Prop} (hw : ∀ i, i < 7 → σ 26 i = nI (w i) ∧ w i < 10) (h21 : σ 21 x = nI kd) (h22 : σ 22 x = nI mu) (hkd : kd < 4) (hmu : mu ≤ 9) (hx : x < 8) (hy : y < 8) (hxy : x ≠ y) (h : P (nI (thrN w kd mu x y)) σ) : wp_U_comesThrough σ (nI x) (nI y) P := by
  refine ⟨pk_in x 8 hx, pk_in x 8 hx, ?_⟩
  have e1 : (if nI y < nI x then nI y else nI x) = nI (min x y) := by
    by_cases c : y < x
    · rw [if_pos (nI_lt c (by omega)), Nat.min_eq_right (by omega)]
    · rw [if_neg (nI_nlt (by omega) (by omega)), Nat.min_eq_left (by omega)]
  have e2 : (if nI x < nI y then nI y else nI x) = nI (max x y) := by
    by_cases c : x < y
    · rw [if_pos (nI_lt c (by omega)), Nat.max_eq_right (by omega)]
    · rw [if_neg (nI_nlt (by omega) (by omega)), Nat.max_eq_left (by omega)]
  rw [e1, e2, ixn (by omega), h21]
  have hst : ∀ n, n ≤ 7 → min x y + n ≤ 7 → stN w kd (min x y) n < 200 := by
    intro n hn hb
    have s1 : sumN w (min x y) n ≤ n * 9 := sumN_le _ (fun i hi2 => by have := (hw (min x y + i) (by omega)).2; omega)
    have s2 : sumN (fun i => w i / 2) (min x y) n ≤ n * 9 := sumN_le _ (fun i hi2 => by have := (hw (min x y + i) (by omega)).2; omega)
    unfold stN
    repeat' split
    all_goals omega
  refine sp_U_stopped hw hkd (by omega) (by omega) ?_
  have hs := hst (max x y - min x y) (by omega) (by omega)
  rw [thr_eq hmu] at h
  show P (if (0 : Int32) < (σ 22 x - nI (stN w kd (min x y) (max x y - min x y))) then (σ 22 x - nI (stN w kd (min x y) (max x y - min x y))) else 0) σ
  rw [h22]
  generalize stN w kd (min x y) (max x y - min x y) = t at h hs ⊢
  by_cases c : t < mu
  · have h9 : (0 : Int32) < nI (mu - t) := nI_lt (a := 0) (b := mu - t) (by omega) (by omega)
    rw [pk_sub (by omega), if_pos h9]; exact h
  · rw [show mu - t = 0 by omega] at h
    rw [if_neg]; exact h
    rw [Int32.lt_iff_toInt_lt, pk_sub_toInt (by omega) (by omega)]
    simp; omega
theorem sp_U_duePerDay {σ : Hp} {H x y : Nat} {kd mu en rt w : Nat → Nat} {P : Int32 → Hp → Prop} (hs : StC σ H kd mu en rt w) (hx : x < 8) (hy : y < 8) (hxy : x ≠ y) (h : P (nI (dueN H kd mu en rt w x y)) σ) : wp_U_duePerDay σ (nI x) (nI y) P := by
  obtain ⟨⟨hH, h6⟩, ha, hr, hw⟩ := hs
  unfold wp_U_duePerDay
  rw [h6]
  unfold dueN at h
  refine pk_le H x (fun c => ?_) (fun c => ?_)
  · rw [if_neg (fun z => by omega)] at h; exact h
  · refine pk_lt y H (fun c2 => ⟨pk_in x 8 hx, fun v4 e4 => ?_⟩) (fun c2 => ?_)
    · rw [ixn (by omega), (ha x c).1.1] at e4
      subst e4
      have k4 := (ha x c).1.2
      refine sp_P_isKind (fun q => ?_) (fun q => ?_)
      · have q3 : kd x < 3 := by
          obtain ⟨k, hk, e⟩ := q
          have := (nI_eq (by omega) (by omega)).mp e
          omega
        refine br_f one0 ⟨pk_in y 8 hy, ?_⟩
        rw [ixn (by omega), (ha y c2).2.2.1]
        have e4 := (ha y c2).2.2.2
        refine pk_eq (en y) (kd x) (fun c3 => ?_) (fun c3 => ?_)
        · rw [if_pos ⟨c, c2, q3, c3⟩] at h
          refine sp_U_comesThrough hw (ha x c).1.1 (ha x c).2.1.1 k4 (ha x c).2.1.2 hx hy hxy ⟨pk_in (kd x) 3 q3, ?_⟩
          rw [ixn (by omega), hr _ q3, pk_mul]
          exact h
        · rw [if_neg (fun z => c3 z.2.2.2)] at h; exact h
      · have q3 : ¬ kd x < 3 := fun z => q ⟨_, z, rfl⟩
        rw [if_neg (fun z => q3 z.2.2.1)] at h
        exact br_t rfl h
    · rw [if_neg (fun z => absurd z.2.1 (by omega))] at h; exact h
theorem StC.bt {σ ρ : Hp} {H : Nat} {kd mu en rt w : Nat → Nat} {cs : List Nat} (hs : StC σ H kd mu en rt w) (hB : Bt cs σ ρ) (hc : ∀ o, o = 4 ∨ (21 ≤ o ∧ o ≤ 26) → o ∉ cs) : StC ρ H kd mu en rt w := by
  unfold StC at *
  rw [hB 4 (hc 4 (by omega)), hB 21 (hc 21 (by omega)), hB 22 (hc 22 (by omega)), hB 23 (hc 23 (by omega)), hB 25 (hc 25 (by omega)), hB 26 (hc 26 (by omega))]
  exact hs
theorem sp_D_priceSuits {σ : Hp} {α : Abs} {H : Nat} {kd mu en rt w : Nat → Nat} {P : Hp → Prop} (hw : WF α) (hk : RCk σ α) (hs : StC σ H kd mu en rt w) (h : ∀ ρ, Bt [17] σ ρ → (∀ k, k < aS α → ρ 17 k = nI (dueN H kd mu en rt w (aY α k) (aX α k))) → P ρ) : wp_D_priceSuits σ P := by
  obtain ⟨k6, ks⟩ := hk
  obtain ⟨-, -, ⟨hS, hS2⟩, -⟩ := hw
  intro I hI
  have key : ∀ (m k : Nat) (ρ : Hp), k + m = aS α → Bt [17] σ ρ → (∀ i, i < k → ρ 17 i = nI (dueN H kd mu en rt w (aY α i) (aX α i))) → I ρ (nI k) := by
    intro m
    induction m with
    | zero =>
      intro k ρ hk hB hi
      have hk2 : k = aS α := by omega
      subst hk2
      apply hI
      unfold b_D_priceSuits_2_
      rw [hB 5 (by decide), k6]
      exact pk_le (aS α) (aS α) (fun _ => h ρ hB hi) (fun c => absurd c (by omega))
    | succ m ih =>
      intro k ρ hk hB hi
      obtain ⟨s1, s2, s3⟩ := ks k (by omega)
      obtain ⟨w1, w2, w3, w4⟩ := hS2 k (by omega)
      apply hI
      unfold b_D_priceSuits_2_
      rw [hB 5 (by decide), hB 28 (by decide), hB 29 (by decide), k6, ixn (show k < 2 ^ 31 by omega), s2, s3]
      refine pk_le (aS α) k (fun c => absurd c (by omega)) (fun _ => ⟨pk_in k 12 (by omega), pk_in k 12 (by omega), ?_⟩)
      refine sp_U_duePerDay (hs.bt hB (by simp; omega)) w2 w3 w4 ⟨pk_in k 12 (by omega), fun v7 e7 => ?_⟩
      rw [e7, show nI k + 1 = nI (k + 1) from nI_1 k]
      refine ih (k + 1) _ (by omega) (hB.st (by decide)) (fun i hi2 => ?_)
      rw [st_at]
      unfold upd
      by_cases e : i = k
      · rw [if_pos e, e]
      · rw [if_neg e]; exact hi i (by omega)
  exact key (aS α) 0 σ (by omega) (Bt.rf _ _) (fun i hi => by omega)
theorem StC_of {σ : Hp} {α : Abs} (hw : WF α) (hs : RCs σ α) (hr : RCr σ α) (hv : RCw σ α) : StC σ (nH α) (hK α) (hM α) (hJ α) (rT α) (aW α) := by
  refine ⟨⟨nH_le hw, hs.1⟩, fun i hi => ?_, hr.2, fun i hi => ⟨hv i hi, hw.2.1 i hi⟩⟩
  obtain ⟨h1, h2, h3, h4⟩ := hs.2 i hi
  obtain ⟨b1, b2, b3, b4, b5⟩ := hs_byte (hOk_of hi) hi
  exact ⟨⟨h1, b2⟩, ⟨h2, by unfold hM; omega⟩, ⟨h3, b4⟩⟩
theorem sp_P_takeText {σ : Hp} {α : Abs} {t : Nat} {P : Hp → Prop} (hw : WF α) (h1 : RCt σ α) (h2 : RCw σ α) (h3 : RCk σ α) (hr : t = 1 ∨ RCr σ α) (hs : t = 0 ∨ RCs σ α) (ht : t < 2) (h : ∀ ρ, Bt [4, 17, 21, 22, 23, 24, 25] σ ρ → RCs ρ α → RCr ρ α → RCd ρ α → P ρ) : wp_P_takeText σ (nI t) P := by
  refine pk_ne t 0 (fun c => ?_) (fun c => ?_)
  · have hs : RCs σ α := hs.resolve_left c
    refine sp_U_takeRulings hw h1 (fun ρ hB e6 hR => ?_)
    have hS2 : RCs ρ α := by
      unfold RCs at *
      rw [e6, hB 21 (by decide), hB 22 (by decide), hB 23 (by decide), hB 24 (by decide)]; exact hs
    have hW2 : RCw ρ α := by unfold RCw at *; rw [hB 26 (by decide)]; exact h2
    have hK2 : RCk ρ α := by unfold RCk at *; rw [hB 5 (by decide), hB 27 (by decide), hB 28 (by decide), hB 29 (by decide)]; exact h3
    refine sp_D_priceSuits hw hK2 (StC_of hw hS2 hR hW2) (fun ρ2 hB2 hd => h ρ2 ?_ ?_ ?_ hd)
    · intro o ho
      simp at ho
      rw [hB2 o (by simp; omega), hB o (by simp; omega)]
    · unfold RCs at *; rw [hB2 4 (by decide), hB2 21 (by decide), hB2 22 (by decide), hB2 23 (by decide), hB2 24 (by decide)]; exact hS2
    · unfold RCr at *; rw [hB2 4 (by decide), hB2 25 (by decide)]; exact hR
  · have hr : RCr σ α := hr.resolve_left (by omega)
    refine sp_U_takeHouses hw h1 (fun ρ hB e6 hS2 => ?_)
    have hR2 : RCr ρ α := by
      unfold RCr at *
      rw [e6, hB 25 (by decide)]; exact hr
    have hW2 : RCw ρ α := by unfold RCw at *; rw [hB 26 (by decide)]; exact h2
    have hK2 : RCk ρ α := by unfold RCk at *; rw [hB 5 (by decide), hB 27 (by decide), hB 28 (by decide), hB 29 (by decide)]; exact h3
    refine sp_D_priceSuits hw hK2 (StC_of hw hS2 hR2 hW2) (fun ρ2 hB2 hd => h ρ2 ?_ ?_ ?_ hd)
    · intro o ho
      simp at ho
      rw [hB2 o (by simp; omega), hB o (by simp; omega)]
    · unfold RCs at *; rw [hB2 4 (by decide), hB2 21 (by decide), hB2 22 (by decide), hB2 23 (by decide), hB2 24 (by decide)]; exact hS2
    · unfold RCr at *; rw [hB2 4 (by decide), hB2 25 (by decide)]; exact hR2
