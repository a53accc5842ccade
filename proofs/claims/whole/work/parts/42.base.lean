/-! small rows -/
def isD (a : Int32) (n : Nat) : Prop := ∃ k, k < n ∧ a = nI k
theorem isD_nI {k n : Nat} (h : k < n) : isD (nI k) n := ⟨k, h, rfl⟩
theorem isD_iff {a : Int32} {n : Nat} (hn : n < 2 ^ 31) : isD a n ↔ ¬ a < 0 ∧ ¬ nI n ≤ a := by
  constructor
  · rintro ⟨k, hk, rfl⟩
    exact ⟨nI_pos (by omega), nI_ge hk hn⟩
  · rintro ⟨h1, h2⟩
    rcases pk_ix a hn with h | h | ⟨j, h3, h4⟩
    · exact absurd h h1
    · exact absurd h h2
    · exact ⟨j, h3, h4⟩
/-- the shape of most tests: below 0, from N on, within -/
theorem rg_ge {a N : Int32} {A B : Prop} (n : Nat) (hN : N = nI n) (hn : n < 2 ^ 31) (h1 : isD a n → B) (h0 : ¬ isD a n → A) : (a < 0 → A) ∧ (¬ a < 0 → ((N ≤ a → A) ∧ (¬ N ≤ a → B))) := by
  subst hN
  refine ⟨fun c => h0 (fun z => ((isD_iff hn).mp z).1 c), fun c => ⟨fun c2 => h0 (fun z => ((isD_iff hn).mp z).2 c2), fun c2 => h1 ((isD_iff hn).mpr ⟨c, c2⟩)⟩⟩
theorem nlt_le {a b : Int32} : ¬ a < b ↔ b ≤ a := Int32.not_lt
theorem nle_lt {a b : Int32} : ¬ a ≤ b ↔ b < a := Int32.not_le
theorem pk_ne {x y : Int32} {A B : Prop} (a b : Nat) (f : a ≠ b → A) (g : a = b → B) (hx : x = nI a := by rfl) (hy : y = nI b := by rfl) (ha : a < 2 ^ 31 := by omega) (hb : b < 2 ^ 31 := by omega) : (¬ x = y → A) ∧ (x = y → B) := by
  subst hx hy
  rw [nI_eq ha hb]
  exact ⟨f, g⟩
theorem br_nt {c A B : Prop} (h : ¬ c) (a : A) : (¬ c → A) ∧ (c → B) := ⟨fun _ => a, fun z => absurd z h⟩
theorem br_nf {c A B : Prop} (h : c) (b : B) : (¬ c → A) ∧ (c → B) := ⟨fun z => absurd h z, fun _ => b⟩
theorem one0 : ¬ (1 : Int32) = 0 := by decide
-- the class's tests
theorem sp_P_isText {σ : Hp} {a : Int32} {P : Int32 → Hp → Prop} (h1 : isD a 2 → P 1 σ) (h0 : ¬ isD a 2 → P 0 σ) : wp_P_isText σ a P := by
  unfold wp_P_isText
  refine ⟨fun c => h1 ⟨0, by omega, c⟩, fun c => ⟨fun c2 => h0 ?_, fun c2 => h1 ⟨1, by omega, c2⟩⟩⟩
  rintro ⟨k, hk, rfl⟩
  rcases (show k = 0 ∨ k = 1 by omega) with rfl | rfl
  · exact c rfl
  · exact c2 rfl
theorem sp_P_isDay {σ : Hp} {a : Int32} {P : Int32 → Hp → Prop} (h1 : isD a 30 → P 1 σ) (h0 : ¬ isD a 30 → P 0 σ) : wp_P_isDay σ a P := rg_ge 30 rfl (by decide) h1 h0
theorem sp_P_isPlace {σ : Hp} {a : Int32} {P : Int32 → Hp → Prop} (h1 : isD a 8 → P 1 σ) (h0 : ¬ isD a 8 → P 0 σ) : wp_P_isPlace σ a P := rg_ge 8 rfl (by decide) h1 h0
theorem sp_P_isKind {σ : Hp} {a : Int32} {P : Int32 → Hp → Prop} (h1 : isD a 3 → P 1 σ) (h0 : ¬ isD a 3 → P 0 σ) : wp_P_isKind σ a P := rg_ge 3 rfl (by decide) h1 h0
theorem sp_P_isForm {σ : Hp} {a : Int32} {P : Int32 → Hp → Prop} (h1 : isD a 3 → P 1 σ) (h0 : ¬ isD a 3 → P 0 σ) : wp_P_isForm σ a P := rg_ge 3 rfl (by decide) h1 h0
theorem sp_P_isSheet {σ : Hp} {a : Int32} {P : Int32 → Hp → Prop} (h1 : isD a 4 → P 1 σ) (h0 : ¬ isD a 4 → P 0 σ) : wp_P_isSheet σ a P := rg_ge 4 rfl (by decide) h1 h0
theorem nH_le {α : Abs} (hw : WF α) : nH α ≤ 8 := by
  have := hw.1.1.1
  unfold nH; split <;> omega
theorem nR_le {α : Abs} (hw : WF α) : nR α ≤ 6 := by
  have := hw.1.2.1
  unfold nR; split <;> omega
theorem sp_P_isHouse {σ : Hp} {α : Abs} {a : Int32} {P : Int32 → Hp → Prop} (hw : WF α) (hR : RCs σ α) (h1 : isD a (nH α) → P 1 σ) (h0 : ¬ isD a (nH α) → P 0 σ) : wp_P_isHouse σ a P := rg_ge (nH α) hR.1 (by have := nH_le hw; omega) h1 h0
-- the reference's tests
theorem sp_R_in {τ : Hp} {a N : Int32} {P : Int32 → Hp → Prop} (n : Nat) (hN : N = nI n) (hn : n < 2 ^ 30) (h1 : isD a (n + 1) → P 1 τ) (h0 : ¬ isD a (n + 1) → P 0 τ) : wp_R_in τ a 0 N P := by
  subst hN
  unfold wp_R_in
  refine ⟨fun c => h0 (fun z => ((isD_iff (by omega)).mp z).1 c), fun c => ⟨fun c2 => h0 ?_, fun c2 => h1 ?_⟩⟩
  · rintro ⟨k, hk, rfl⟩
    rw [nI_ltI (by omega) (by omega)] at c2
    omega
  · rcases pk_ix a (show n + 1 < 2 ^ 31 by omega) with h | h | ⟨j, h3, h4⟩
    · exact absurd h c
    · exfalso
      have h5 : nI n < nI (n + 1) := nI_lt (by omega) (by omega)
      rw [Int32.lt_iff_toInt_lt] at h5 c2
      rw [Int32.le_iff_toInt_le] at h
      omega
    · exact ⟨j, h3, h4⟩
theorem z1 : (1 : Int32) &&& 1 = 1 := by decide
theorem z0 : (0 : Int32) &&& 1 = 0 := by decide
theorem sp_R_isText {τ : Hp} {a : Int32} {P : Int32 → Hp → Prop} (h1 : isD a 2 → P 1 τ) (h0 : ¬ isD a 2 → P 0 τ) : wp_R_isText τ a P := sp_R_in 1 rfl (by decide) (fun h => ⟨z1, h1 h⟩) (fun h => ⟨z0, h0 h⟩)
theorem sp_R_isEight {τ : Hp} {a : Int32} {P : Int32 → Hp → Prop} (h1 : isD a 8 → P 1 τ) (h0 : ¬ isD a 8 → P 0 τ) : wp_R_isEight τ a P := sp_R_in 7 rfl (by decide) (fun h => ⟨z1, h1 h⟩) (fun h => ⟨z0, h0 h⟩)
theorem sp_R_isDay {τ : Hp} {a : Int32} {P : Int32 → Hp → Prop} (h1 : isD a 30 → P 1 τ) (h0 : ¬ isD a 30 → P 0 τ) : wp_R_isDay τ a P := sp_R_in 29 rfl (by decide) (fun h => ⟨z1, h1 h⟩) (fun h => ⟨z0, h0 h⟩)
theorem sp_R_isSheet {τ : Hp} {a : Int32} {P : Int32 → Hp → Prop} (h1 : isD a 4 → P 1 τ) (h0 : ¬ isD a 4 → P 0 τ) : wp_R_isSheet τ a P := sp_R_in 3 rfl (by decide) (fun h => ⟨z1, h1 h⟩) (fun h => ⟨z0, h0 h⟩)
-- the row that is filled
theorem sp_JA_fill {σ : Hp} {o n : Nat} {v : Int32} {P : Hp → Prop} (ho : μC.1[o]? = some (.inr (0, n))) (hn : n < 2 ^ 31) (h : P (fun q => if q = o then fun i => if i < n then v else σ o i else σ q)) : wp_JA_fill σ o n v P := by
  refine ⟨ho, fun v6 e6 => ?_⟩
  subst e6
  intro I hI
  have key : ∀ (m k : Nat) (ρ : Hp), k + m = n → (∀ q, q ≠ o → ρ q = σ q) → (∀ i, ρ o i = if i < k then v else σ o i) → I ρ o v (nI k) (Int32.ofNat n) := by
    intro m
    induction m with
    | zero =>
      intro k ρ hk h1 h2
      apply hI
      refine ⟨ho, pk_le n k (fun _ => ?_) (fun c => absurd c (by omega))⟩
      have : ρ = (fun q => if q = o then fun i => if i < n then v else σ o i else σ q) := by
        funext q
        by_cases hq : q = o
        · subst hq
          rw [if_pos rfl]
          funext i
          rw [h2 i, show k = n by omega]
        · rw [if_neg hq, h1 q hq]
      rw [this]; exact h
    | succ m ih =>
      intro k ρ hk h1 h2
      apply hI
      refine ⟨ho, pk_le n k (fun c => absurd c (by omega)) (fun _ => ⟨pk_in k n (by omega), fun v4 e4 => ?_⟩)⟩
      rw [e4, show nI k + 1 = nI (k + 1) from nI_1 k]
      refine ih (k + 1) _ (by omega) (fun q hq => ?_) (fun i => ?_)
      · rw [st_ne _ _ _ hq]; exact h1 q hq
      · rw [st_at, show ix (nI k) = k from nI_clamp (by omega)]
        unfold upd
        by_cases hi : i = k
        · subst hi; rw [if_pos rfl, if_pos (by omega)]
        · rw [if_neg hi, h2 i]
          by_cases hi2 : i < k
          · rw [if_pos hi2, if_pos (by omega)]
          · rw [if_neg hi2, if_neg (by omega)]
  exact key n 0 σ (by omega) (fun _ _ => rfl) (fun i => by rw [if_neg (by omega)])
