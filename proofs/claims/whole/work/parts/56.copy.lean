/-! copy, count -/
theorem nat_of {a : Int32} (h : ¬ a < 0) : ∃ k : Nat, k < 2 ^ 31 ∧ a = nI k := by
  have e0 : (0 : Int32).toInt = 0 := by decide
  rw [Int32.lt_iff_toInt_lt, e0] at h
  have hb := Int32.toInt_lt a
  refine ⟨a.toInt.toNat, by omega, ?_⟩
  apply Int32.toInt_inj.mp
  rw [nI_toInt (by omega)]
  omega
theorem lg_sum {a b L : Nat} (ha : a < 2 ^ 31) (hb : b < 2 ^ 31) (hL : L ≤ 60) : lg_cmp ((nI a).toInt64 + (nI b).toInt64) (nI L).toInt64 = if L < a + b then 1 else if a + b = L then 0 else -1 := by
  have e1 : ((nI a).toInt64 + (nI b).toInt64).toInt = (a : Int) + b := by
    rw [Int64.toInt_add, Int32.toInt_toInt64, Int32.toInt_toInt64, nI_toInt ha, nI_toInt hb]
    exact Int.bmod_eq_of_le (by omega) (by omega)
  have e2 : (nI L).toInt64.toInt = (L : Int) := by rw [Int32.toInt_toInt64, nI_toInt (by omega)]
  unfold lg_cmp
  by_cases c : L < a + b
  · rw [if_pos c, if_pos]
    show (nI L).toInt64 < _
    rw [Int64.lt_iff_toInt_lt, e1, e2]; omega
  · rw [if_neg c, if_neg]
    · by_cases c2 : a + b = L
      · rw [if_pos c2, if_pos]
        apply Int64.toInt_inj.mp
        rw [e1, e2]; omega
      · rw [if_neg c2, if_neg]
        intro z
        have := congrArg Int64.toInt z
        rw [e1, e2] at this; omega
    · show ¬ (nI L).toInt64 < _
      rw [Int64.lt_iff_toInt_lt, e1, e2]; omega
/-- items i to i + n - 1 are there -/
def okC (a n : Int32) (L : Nat) : Prop := ∃ i k, a = nI i ∧ n = nI k ∧ i + k ≤ L
theorem sp_S_hasItems {σ : Hp} {s L : Nat} {a n : Int32} {P : Int32 → Hp → Prop} (hs : s < 4) (hL : L ≤ 60) (e2 : σ (10 + s) 2 = nI L) (h1 : okC a n L → P 1 σ) (h0 : ¬ okC a n L → P 0 σ) : wp_S_hasItems σ (10 + s) a n P := by
  have neg : ∀ x : Int32, x < 0 → ∀ k : Nat, k ≤ 60 → x ≠ nI k := by
    intro x hx k hk e
    rw [e] at hx
    exact nI_pos (by omega) hx
  refine ⟨isS_s hs, fun c => h0 ?_, fun c => ⟨fun c2 => h0 ?_, fun c2 => ?_⟩⟩
  · rintro ⟨i, k, rfl, rfl, h⟩; exact nI_pos (by omega) c
  · rintro ⟨i, k, rfl, rfl, h⟩; exact nI_pos (by omega) c2
  obtain ⟨i, hi, rfl⟩ := nat_of c
  obtain ⟨k, hk, rfl⟩ := nat_of c2
  rw [e2]
  have inj : ∀ i' k', nI i = nI i' → nI k = nI k' → i' + k' ≤ L → i' = i ∧ k' = k := by
    intro i' k' e3 e4 h
    exact ⟨((nI_eq hi (by omega)).mp e3).symm, ((nI_eq hk (by omega)).mp e4).symm⟩
  refine pk_lt L i (fun q => h0 ?_) (fun q => ?_)
  · rintro ⟨i', k', e3, e4, h⟩
    have := inj i' k' e3 e4 h; omega
  · rw [show nI L - nI i = nI (L - i) from pk_sub q]
    refine pk_lt (L - i) k (fun q2 => h0 ?_) (fun q2 => h1 ⟨i, k, rfl, rfl, by omega⟩)
    rintro ⟨i', k', e3, e4, h⟩
    have := inj i' k' e3 e4 h; omega
theorem R_copy_two {t j n : Nat} {τ : Hp} {v : Nat → Int32} {P : Int32 → Hp → Prop} (ht : t < 4) (hj : j + n ≤ 60) {I : Hp → Int32 → Int32 → Int32 → Int32 → Prop} (hI : ∀ σ a b c d, b_R_copy_157_ P I σ a b c d → I σ a b c d) (hv : ∀ k, k < n → τ 28 k = v k) (h : ∀ ρ, Bt [27] τ ρ → (∀ q, (q < 60 * t + j ∨ 60 * t + j + n ≤ q) → ρ 27 q = τ 27 q) → (∀ k, k < n → ρ 27 (60 * t + j + k) = v k) → P 1 ρ) : ∀ (m k : Nat) (ρ : Hp), k + m = n → Bt [27] τ ρ → (∀ q, (q < 60 * t + j ∨ 60 * t + j + n ≤ q) → ρ 27 q = τ 27 q) → (∀ i, i < k → ρ 27 (60 * t + j + i) = v i) → I ρ (nI t) (nI j) (nI n) (nI k) := by
  intro m
  induction m with
  | zero =>
    intro k ρ hk hB h5 hi
    have : k = n := by omega
    subst this
    apply hI
    exact pk_le k k (fun _ => h ρ hB h5 hi) (fun c => absurd c (by omega))
  | succ m ih =>
    intro k ρ hk hB h5 hi
    apply hI
    unfold b_R_copy_157_
    rw [show (60 : Int32) = nI 60 from rfl, pk_mul, nI_add, nI_add]
    refine pk_le n k (fun c => absurd c (by omega)) (fun _ => ⟨pk_in k 60 (by omega), pk_in (60 * t + j + k) 240 (by omega), fun v3 e3 => ?_⟩)
    rw [e3, show nI k + 1 = nI (k + 1) from nI_1 _, ixn (show k < 2 ^ 31 by omega), hB 28 (by decide), hv k (by omega)]
    refine ih (k + 1) _ (by omega) (hB.st (by decide)) (fun q hq => ?_) (fun i hi2 => ?_)
    · rw [st_ix (by omega), if_neg (by omega)]; exact h5 q hq
    · rw [st_ix (by omega)]
      by_cases e : i = k
      · rw [if_pos (by omega), e]
      · rw [if_neg (by omega)]; exact hi i (by omega)
theorem R_copy_one {s i t j n : Nat} {τ : Hp} {P : Int32 → Hp → Prop} (hs : s < 4) (hi0 : i + n ≤ 60) {I : Hp → Int32 → Int32 → Int32 → Int32 → Int32 → Int32 → Prop} (hI : ∀ σ a b c d e f, b_R_copy_120_ P I σ a b c d e f → I σ a b c d e f) (h : ∀ ρ, Bt [28] τ ρ → (∀ k, k < n → ρ 28 k = τ 27 (60 * s + i + k)) → j_R_copy_157 P ρ (nI t) (nI j) (nI n) 0) : ∀ (m k : Nat) (ρ : Hp), k + m = n → Bt [28] τ ρ → (∀ q, q < k → ρ 28 q = τ 27 (60 * s + i + q)) → I ρ (nI s) (nI i) (nI t) (nI j) (nI n) (nI k) := by
  intro m
  induction m with
  | zero =>
    intro k ρ hk hB hi
    have : k = n := by omega
    subst this
    apply hI
    exact pk_le k k (fun _ => h ρ hB hi) (fun c => absurd c (by omega))
  | succ m ih =>
    intro k ρ hk hB hi
    apply hI
    unfold b_R_copy_120_
    rw [show (60 : Int32) = nI 60 from rfl, pk_mul, nI_add, nI_add]
    refine pk_le n k (fun c => absurd c (by omega)) (fun _ => ⟨pk_in (60 * s + i + k) 240 (by omega), pk_in k 60 (by omega), fun v3 e3 => ?_⟩)
    rw [e3, show nI k + 1 = nI (k + 1) from nI_1 _, ixn (show 60 * s + i + k < 2 ^ 31 by omega), hB 27 (by decide)]
    refine ih (k + 1) _ (by omega) (hB.st (by decide)) (fun q hq => ?_)
    rw [st_ix (by omega)]
    by_cases e : q = k
    · rw [if_pos e, e]
    · rw [if_neg e]; exact hi q (by omega)
theorem bothT {α : Abs} (s : Nat) : aT α s = true ∨ aT α s = false := by cases aT α s <;> simp
theorem h_copy : H_copy Rel := by
  intro σ τ x1 x2 x3 x4 x5 hrel
  obtain ⟨α, hw, hC, hR⟩ := hrel
  have keep : Rel σ τ := ⟨α, hw, hC, hR⟩
  have bad : ¬ (isD x1 4 ∧ isD x3 4) → wp_R_copy τ x1 x2 x3 x4 x5 (fun r2 τ1 => (-2 : Int32) = r2 ∧ Rel σ τ1) := fun n =>
    sp_R_isSheet (fun q1 => br_f one0 (sp_R_isSheet (fun q2 => absurd ⟨q1, q2⟩ n) (fun _ => br_nf rfl ⟨rfl, keep⟩))) (fun _ => br_t rfl ⟨rfl, keep⟩)
  refine sp_P_isSheet (fun q1 => br_f one0 (sp_P_isSheet (fun q2 => br_nt one0 ?_) (fun q => br_nf rfl (bad (fun z => q z.2))))) (fun q => br_t rfl (bad (fun z => q z.1)))
  obtain ⟨s, hs, rfl⟩ := q1
  obtain ⟨t, ht, rfl⟩ := q2
  have f1 := hw.2.2.2.2.2 s hs
  have f2 := hw.2.2.2.2.2 t ht
  refine ⟨pk_in s 4 hs, fun o e => ?_⟩
  rw [ixn (show s < 2 ^ 31 by omega)] at e
  subst e
  refine ⟨isS_s hs, pk_in t 4 ht, fun o e => ?_⟩
  rw [ixn (show t < 2 ^ 31 by omega)] at e
  subst e
  -- both are there
  have base : ∀ P, ((aT α s = false ∨ aT α t = false) → wp_R_meets τ 1 (fun a b => P a b)) → (aT α s = true → aT α t = true → ((nI (aF α s) ≠ nI (aF α t) → wp_R_meets τ 4 (fun a b => P a b)) ∧ (nI (aF α s) = nI (aF α t) → ((x2 < 0 → j_R_copy_111 P τ) ∧ (¬ x2 < 0 → ((x4 < 0 → j_R_copy_111 P τ) ∧ (¬ x4 < 0 → ((x5 < 0 → j_R_copy_111 P τ) ∧ (¬ x5 < 0 → ((0 < (lg_cmp ((x2.toInt64) + (x5.toInt64)) ((nI (aL α s)).toInt64)) → j_R_copy_111 P τ ) ∧ (¬ 0 < (lg_cmp ((x2.toInt64) + (x5.toInt64)) ((nI (aL α s)).toInt64)) → (((lg_cmp ((x4.toInt64) + (x5.toInt64)) ((nI (aL α t)).toInt64)) ≤ 0 → j_R_copy_120 P τ (nI s) x2 (nI t) x4 x5 0) ∧ (¬ (lg_cmp ((x4.toInt64) + (x5.toInt64)) ((nI (aL α t)).toInt64)) ≤ 0 → j_R_copy_111 P τ))))))))))))) → wp_R_copy τ (nI s) x2 (nI t) x4 x5 P := by
    intro P h1 h2
    unfold wp_R_copy
    refine sp_R_isSheet (fun _ => br_f one0 (sp_R_isSheet (fun _ => br_nt one0 ⟨pk_in s 4 hs, ?_⟩) (fun z => absurd ⟨t, ht, rfl⟩ z))) (fun z => absurd ⟨s, hs, rfl⟩ z)
    rw [ixn (show s < 2 ^ 31 by omega), ixn (show t < 2 ^ 31 by omega), (hR.2.2.2.2.2.1 s hs).1, (hR.2.2.2.2.2.1 t ht).1]
    rcases bothT (α := α) s with hT | hT
    · rw [if_pos hT]
      refine br_f one0 ⟨pk_in t 4 ht, ?_⟩
      rcases bothT (α := α) t with hU | hU
      · rw [if_pos hU]
        refine br_nt one0 ⟨pk_in s 4 hs, pk_in t 4 ht, ?_⟩
        have e1 := (hR.2.2.2.2.2.1 s hs).2.1 hT
        have e2 := (hR.2.2.2.2.2.1 t ht).2.1 hU
        rw [e1.1, e1.2, e2.1, e2.2]
        have h3 := h2 hT hU
        refine ⟨fun q => ?_, fun q => h3.1 q⟩
        have h4 := h3.2 q
        exact ⟨h4.1, fun c => ⟨(h4.2 c).1, fun c2 => ⟨((h4.2 c).2 c2).1, fun c3 => ⟨pk_in s 4 hs, (((h4.2 c).2 c2).2 c3).1, fun c4 => ⟨pk_in t 4 ht, (((h4.2 c).2 c2).2 c3).2 c4⟩⟩⟩⟩⟩
      · rw [if_neg (by rw [hU]; decide)]
        exact br_nf rfl (h1 (Or.inr hU))
    · rw [if_neg (by rw [hT]; decide)]
      exact br_t rfl (h1 (Or.inl hT))
  refine ⟨isS_s ht, sp_S_isLost hw hC hs (fun hT => br_nt one0 ?_) (fun hT => br_nf rfl ?_)⟩
  · unfold j_P_copy_51 wp_P_found
    exact base _ (fun _ => ⟨rfl, find_R hw hC hR⟩) (fun z => by rw [hT] at z; cases z)
  refine sp_S_isLost hw hC ht (fun hU => br_f one0 ?_) (fun hU => br_t rfl ?_)
  · unfold j_P_copy_51 wp_P_found
    exact base _ (fun _ => ⟨rfl, find_R hw hC hR⟩) (fun _ z => by rw [hU] at z; cases z)
  · have nb : ¬ (aT α s = false ∨ aT α t = false) := by rw [hT, hU]; simp
    have eC1 := hC.2.2.2.2.1 s hs
    have eC2 := hC.2.2.2.2.1 t ht
    have eR1 := hR.2.2.2.2.2.1 s hs
    have eR2 := hR.2.2.2.2.2.1 t ht
    rw [eC1.1, eC2.1, if_pos hT, if_pos hU]
    refine ⟨fun q => ?_, fun q => ?_⟩
    · have idx : ¬ (okC x2 x5 (aL α s) ∧ okC x4 x5 (aL α t)) → j_P_copy_99 (fun r1 σ1 => wp_R_copy τ (nI s) x2 (nI t) x4 x5 (fun r2 τ1 => r1 = r2 ∧ Rel σ1 τ1)) σ := by
        intro n
        have me : j_R_copy_111 (fun r2 τ1 => (-10 - 2 : Int32) = r2 ∧ Rel (st σ 0 9 2) τ1) τ := ⟨rfl, find_R hw hC hR⟩
        unfold j_P_copy_99 wp_P_found
        refine base _ (fun z => absurd z nb) (fun _ _ => ⟨fun z => absurd q z, fun _ => ⟨fun _ => me, fun c => ⟨fun _ => me, fun c2 => ⟨fun _ => me, fun c3 => ⟨fun _ => me, fun c4 => ⟨fun c5 => ?_, fun _ => me⟩⟩⟩⟩⟩⟩)
        exfalso
        obtain ⟨i, hi, rfl⟩ := nat_of c
        obtain ⟨j, hj, rfl⟩ := nat_of c2
        obtain ⟨k, hk, rfl⟩ := nat_of c3
        rw [lg_sum hi hk f1.2] at c4
        rw [lg_sum hj hk f2.2] at c5
        refine n ⟨⟨i, k, rfl, rfl, ?_⟩, ⟨j, k, rfl, rfl, ?_⟩⟩
        · by_cases z : aL α s < i + k
          · rw [if_pos z] at c4; exact absurd (by decide) c4
          · omega
        · by_cases z : aL α t < j + k
          · rw [if_pos z] at c5; exact absurd c5 (by decide)
          · omega
      refine sp_S_hasItems hs f1.2 (eC1.2.1 hT) (fun o1 => br_f one0 ?_) (fun o1 => br_t rfl (idx (fun z => o1 z.1)))
      refine sp_S_hasItems ht f2.2 (eC2.2.1 hU) (fun o2 => br_nt one0 ?_) (fun o2 => br_nf rfl (idx (fun z => o2 z.2)))
      obtain ⟨i, n, rfl, rfl, h1⟩ := o1
      obtain ⟨j, n', rfl, e5, h2⟩ := o2
      have en : n = n' := (nI_eq (by omega) (by omega)).mp e5
      subst en
      rw [ixn (show i < 2 ^ 31 by omega), ixn (show j < 2 ^ 31 by omega), ixn (show n < 2 ^ 31 by omega)]
      refine ⟨nI_pos (by omega), nI_pos (by omega), nI_pos (by omega), by omega, by omega, ?_⟩
      generalize hσ : (fun q : Nat => if q = 10 + t + 28 then va_cpy (σ (10 + s + 28)) (σ (10 + t + 28)) i j n else σ q : Hp) = σ1
      refine base _ (fun z => absurd z nb) (fun _ _ => ⟨fun z => absurd q z, fun _ => ⟨fun c => absurd c (nI_pos (by omega)), fun c => ⟨fun c => absurd c (nI_pos (by omega)), fun c2 => ⟨fun c => absurd c (nI_pos (by omega)), fun c3 => ⟨fun c4 => ?_, fun c4 => ⟨fun _ => ?_, fun c5 => ?_⟩⟩⟩⟩⟩⟩)
      · exfalso
        rw [lg_sum (by omega) (by omega) f1.2, if_neg (by omega)] at c4
        split at c4 <;> exact absurd c4 (by decide)
      · intro I hI
        refine R_copy_one (τ := τ) hs (by omega) hI (fun ρ hB hv => ?_) n 0 τ (by omega) (Bt.rf _ _) (fun q hq => by omega)
        intro J hJ
        refine R_copy_two (τ := ρ) (v := fun k => τ 27 (60 * s + i + k)) ht (by omega) hJ hv (fun ρ2 hB2 h5 hv2 => ?_) n 0 ρ (by omega) (Bt.rf _ _) (fun _ _ => rfl) (fun q hq => by omega)
        refine ⟨rfl, setS α t true (aF α t) (aL α t) (va_cpy (aI α s) (aI α t) i j n), WF_setS hw f2.1 f2.2, RC_setS hC ht ?_ ?_ (fun _ => ?_) (fun k hk => ?_), RR_setS hR ht ?_ (fun q hq => ⟨?_, ?_, ?_⟩) (fun k hk => ?_) ?_ (fun _ => ⟨?_, ?_⟩) (fun k hk => ?_)⟩
        · intro o ho
          simp at ho
          rw [← hσ]; exact if_neg (by omega)
        · rw [← hσ]
          show (if 10 + t = 10 + t + 28 then _ else _ : Nat → Int32) 1 = _
          rw [if_neg (by omega), eC2.1, if_pos hU]; rfl
        · rw [← hσ]
          show (if 10 + t = 10 + t + 28 then _ else _ : Nat → Int32) 2 = _
          rw [if_neg (by omega), eC2.2.1 hU]
        · rw [← hσ]
          show (if 38 + t = 10 + t + 28 then _ else _ : Nat → Int32) k = _
          rw [if_pos (by omega), show 10 + s + 28 = 38 + s by omega, show 10 + t + 28 = 38 + t by omega]
          unfold va_cpy
          by_cases z : j ≤ k ∧ k < j + n
          · rw [if_pos z, if_pos z]; exact eC1.2.2 _ (by omega)
          · rw [if_neg z, if_neg z]; exact eC2.2.2 _ hk
        · intro o ho
          simp at ho
          rw [hB2 o (by simp; omega), hB o (by simp; omega)]
        · rw [hB2 24 (by decide), hB 24 (by decide)]
        · rw [hB2 25 (by decide), hB 25 (by decide)]
        · rw [hB2 26 (by decide), hB 26 (by decide)]
        · rw [h5 k (by omega), hB 27 (by decide)]
        · rw [hB2 24 (by decide), hB 24 (by decide), eR2.1, if_pos hU]; rfl
        · rw [hB2 25 (by decide), hB 25 (by decide)]; exact (eR2.2.1 hU).1
        · rw [hB2 26 (by decide), hB 26 (by decide)]; exact (eR2.2.1 hU).2
        · unfold va_cpy
          by_cases z : j ≤ k ∧ k < j + n
          · rw [if_pos z]
            have := hv2 (k - j) (by omega)
            rw [show 60 * t + j + (k - j) = 60 * t + k by omega] at this
            rw [this, show 60 * s + i + (k - j) = 60 * s + (i + (k - j)) by omega]
            exact eR1.2.2 _ (by omega)
          · rw [if_neg z, h5 _ (by omega), hB 27 (by decide)]
            exact eR2.2.2 k hk
      · exfalso
        rw [lg_sum (by omega) (by omega) f2.2, if_neg (by omega)] at c5
        apply c5
        split <;> decide
    · unfold wp_P_found
      exact base _ (fun z => absurd z nb) (fun _ _ => ⟨fun _ => ⟨rfl, find_R hw hC hR⟩, fun z => absurd z q⟩)
theorem U_allThick_val {σ : Hp} {α : Abs} {P : Int32 → Hp → Prop} (h3 : RCw σ α) (h : P (nI (sumN (aW α) 0 7)) σ) : wp_U_allThick σ P := by
  intro I hI
  have key : ∀ m k, k + m = 7 → I σ (nI (sumN (aW α) 0 k)) (nI k) := by
    intro m
    induction m with
    | zero =>
      intro k hk
      have : k = 7 := by omega
      subst this
      apply hI
      exact pk_le 7 7 (fun _ => h) (fun c => absurd c (by omega))
    | succ m ih =>
      intro k hk
      apply hI
      refine pk_le 7 k (fun c => absurd c (by omega)) (fun _ => ⟨pk_in k 7 (by omega), fun v3 e3 v4 e4 => ?_⟩)
      rw [ixn (show k < 2 ^ 31 by omega), h3 k (by omega), nI_add] at e3
      rw [e4, show nI k + 1 = nI (k + 1) from nI_1 _, e3, show sumN (aW α) 0 k + aW α k = sumN (aW α) 0 (k + 1) by show _ = sumN (aW α) 0 k + aW α (0 + k); rw [Nat.zero_add]]
      exact ih (k + 1) (by omega)
  exact key 7 0 (by omega)
theorem R_allThick_val {τ : Hp} {α : Abs} {P : Int32 → Hp → Prop} (h3 : RRw τ α) (h : P (nI (sumN (aW α) 0 7)) τ) : wp_R_allThick τ P := by
  intro I hI
  have key : ∀ m k, k + m = 7 → I τ (nI (sumN (aW α) 0 k)) (nI k) := by
    intro m
    induction m with
    | zero =>
      intro k hk
      have : k = 7 := by omega
      subst this
      apply hI
      exact pk_le 7 7 (fun _ => h) (fun c => absurd c (by omega))
    | succ m ih =>
      intro k hk
      apply hI
      refine pk_le 7 k (fun c => absurd c (by omega)) (fun _ => ⟨pk_in k 7 (by omega), fun v3 e3 v4 e4 => ?_⟩)
      rw [ixn (show k < 2 ^ 31 by omega), h3 k (by omega), nI_add] at e3
      rw [e4, show nI k + 1 = nI (k + 1) from nI_1 _, e3, show sumN (aW α) 0 k + aW α k = sumN (aW α) 0 (k + 1) by show _ = sumN (aW α) 0 k + aW α (0 + k); rw [Nat.zero_add]]
      exact ih (k + 1) (by omega)
  exact key 7 0 (by omega)
/-- what count says -/
def cntA (α : Abs) (k : Nat) : Int32 := if k = 0 then nI (nH α) else if k = 1 then nI (nR α) else if k = 2 then nI (aN0 α) else if k = 3 then nI (aN1 α) else if k = 4 then nI (aS α) else if k = 5 then nI (aZ α) else if k = 6 then nI (sumN (aW α) 0 7) else if k = 7 then nI (aE α) else aQ α
theorem sp_P_count {σ : Hp} {α : Abs} {x : Int32} {P : Int32 → Hp → Prop} (hC : RC σ α) (h1 : ∀ k, k < 9 → x = nI k → P (cntA α k) σ) (h0 : ¬ isD x 9 → P (-2) σ) : wp_P_count σ x P := by
  have hh : ∀ k v, k < 9 → v = cntA α k → x = nI k → P v σ := fun k v hk e ex => by rw [e]; exact h1 k hk ex
  refine ⟨fun c => h0 ?_, fun c => hh 0 _ (by omega) hC.2.1.1.1 c, fun c => hh 1 _ (by omega) hC.2.1.2.1.1 c, fun c => hh 2 _ (by omega) hC.1.1.1 c, fun c => hh 3 _ (by omega) hC.1.1.2.1 c, fun c => hh 4 _ (by omega) hC.2.1.2.2.2.1.1 c, fun c => hh 5 _ (by omega) hC.2.2.1.1 c, fun c => U_allThick_val hC.2.1.2.2.1 (hh 6 _ (by omega) rfl c), fun c => hh 7 _ (by omega) hC.2.2.2.1.1 c, fun c => hh 8 _ (by omega) hC.2.2.2.2.2 c⟩
  rintro ⟨k, hk, rfl⟩
  rw [nI_toInt (by omega)] at c
  omega
theorem sp_R_count {τ : Hp} {α : Abs} {x : Int32} {P : Int32 → Hp → Prop} (hw : WF α) (hR : RR τ α) (h1 : ∀ k ρ, k < 9 → x = nI k → RR ρ α → (Rd τ α → Rd ρ α) → (∀ o, 16 ≤ o → ρ o = τ o) → P (cntA α k) ρ) (h0 : ¬ isD x 9 → P (-2) τ) : wp_R_count τ x P := by
  have hh : ∀ k v, k < 9 → v = cntA α k → x = nI k → P v τ := fun k v hk e ex => by rw [e]; exact h1 k τ hk ex hR id (fun _ _ => rfl)
  have rd : ∀ ρ, BtR τ ρ → RR ρ α ∧ ∀ o, 16 ≤ o → ρ o = τ o := fun ρ hB => ⟨hR.ps hB.ps, fun o ho => hB.1 o (by simp; omega)⟩
  refine ⟨fun c => h0 ?_, fun c => sp_R_reads hw hR.1 (fun ρ hB hd => ?_), fun c => sp_R_reads hw hR.1 (fun ρ hB hd => ?_), fun c => ?_, fun c => ?_, fun c => hh 4 _ (by omega) hR.2.2.1.1 c, fun c => hh 5 _ (by omega) hR.2.2.2.1.1 c, fun c => R_allThick_val hR.2.1 (hh 6 _ (by omega) rfl c), fun c => hh 7 _ (by omega) hR.2.2.2.2.1.1 c, fun c => hh 8 _ (by omega) hR.2.2.2.2.2.2 c⟩
  · rintro ⟨k, hk, rfl⟩
    rw [nI_toInt (by omega)] at c
    omega
  · have := h1 0 ρ (by omega) c (rd ρ hB).1 (fun _ => hd) (rd ρ hB).2
    subst c
    refine br_nf rfl ?_
    rw [hd.1.1]; exact this
  · have := h1 1 ρ (by omega) c (rd ρ hB).1 (fun _ => hd) (rd ρ hB).2
    subst c
    refine br_nt (by decide) ?_
    rw [hd.2.1]; exact this
  · have := hh 2 (τ 1 0) (by omega) hR.1.1 c
    subst c
    exact ⟨pk_in 0 2 (by omega), this⟩
  · have := hh 3 (τ 1 1) (by omega) hR.1.2.1 c
    subst c
    exact ⟨pk_in 1 2 (by omega), this⟩
theorem h_count : H_count Rel := by
  intro σ τ x1 hrel
  obtain ⟨α, hw, hC, hR⟩ := hrel
  refine sp_P_count hC (fun k hk e => sp_R_count hw hR (fun k' ρ hk' e' hR' _ _ => ⟨?_, α, hw, hC, hR'⟩) (fun z => absurd ⟨k, hk, e⟩ z)) (fun n => sp_R_count hw hR (fun k' ρ hk' e' hR' _ _ => absurd ⟨k', hk', e'⟩ n) (fun z => ⟨rfl, α, hw, hC, hR⟩))
  have : k = k' := (nI_eq (by omega) (by omega)).mp (e.symm.trans e')
  rw [this]
